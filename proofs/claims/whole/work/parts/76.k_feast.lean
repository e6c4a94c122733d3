/-! feast: two rooms put together -/
def setH (f : xCf) (H : Nat → Nat) : xCf := (f.1, f.2.1, H, f.2.2.2)
theorem posW_none {c : Nat → Int32} {S T : Nat → Bool} {x : Int32} (h : ∀ p, S p = false) : posW c S T x = c := by
  funext i
  unfold posW wr
  split
  · rename_i q
    show (if (S (i - 8) && !T (i - 8)) = true then x else c (8 + (i - 8))) = c i
    rw [h (i - 8), Bool.false_and, if_neg (by decide), show 8 + (i - 8) = i by omega]
  · rfl
theorem rm1_none {f : xCf} {c : Nat → Int32} {r : Nat} (h : ∀ p, p < fN f → c p ≠ nI r) : rm1 f c r = c := by
  have e : ∀ x p, psS (fN f) c r x p = false := fun x p => by
    unfold psS
    by_cases q : p < fN f
    · rw [decide_eq_false (h p q), Bool.and_false, Bool.false_and]
    · rw [decide_eq_false q, Bool.false_and, Bool.false_and]
  unfold rm1
  split
  · exact posW_none (e 2)
  · exact posW_none (e 1)
theorem rms_setH {f : xCf} {H : Nat → Nat} {b : Nat} {c : Nat → Int32} (hN : fN f ≤ 8) (hb : ∀ p, p < fN f → c p ≠ nI b) (hH : ∀ r, r < fR f → r ≠ b → fH f r = H r) : ∀ n, n ≤ fR f → rms f c n = rms (setH f H) c n
  | 0, _ => rfl
  | n + 1, hn => by
    show rmG f (rm1 f (rms f c n) n) n = rmG (setH f H) (rm1 (setH f H) (rms (setH f H) c n) n) n
    rw [← rms_setH hN hb hH n (by omega)]
    by_cases q : n = b
    · have h0 : ∀ p, p < fN f → rms f c n p ≠ nI n := fun p hp => by rw [rms_lo (Or.inl (by omega)), q]; exact hb p hp
      rw [rm1_none h0, rm1_none (f := setH f H) h0]
      rfl
    · have e : rm1 (setH f H) (rms f c n) n = rm1 f (rms f c n) n := by
        unfold rm1
        rw [show fH (setH f H) n = fH f n from (hH n (by omega) q).symm]
        rfl
      rw [e]
      rfl
theorem qtr_setH {f : xCf} {H : Nat → Nat} {b : Nat} {c : Nat → Int32} (hN : fN f ≤ 8) (hb : ∀ p, p < fN f → fP f (c 120) p ≠ nI b) (hH : ∀ r, r < fR f → r ≠ b → fH f r = H r) : qtr f c = qtr (setH f H) c := by
  show cntQ (fN f) (rms f (goP f c) (fR f)) = cntQ (fN f) (rms (setH f H) (goP f c) (fR f))
  rw [rms_setH (f := f) (H := H) (b := b) hN (fun p hp => by unfold goP; rw [goPn_p hp hN]; exact hb p hp) hH _ (Nat.le_refl _)]
theorem qtrs_setH {f : xCf} {H : Nat → Nat} {b now : Nat} {c : Nat → Int32} (hN : fN f ≤ 8) (hb : ∀ now p, p < fN f → now < 1073741824 → fP f (nI now) p ≠ nI b) (hH : ∀ r, r < fR f → r ≠ b → fH f r = H r) (hw : c 120 = nI now) : ∀ n, now + n < 1073741824 → qtrs f c n = qtrs (setH f H) c n
  | 0, _ => rfl
  | n + 1, hn => by
    show qtr f (qtrs f c n) = qtr (setH f H) (qtrs (setH f H) c n)
    rw [← qtrs_setH hN hb hH hw n (by omega)]
    exact qtr_setH hN (fun p hp => by rw [qtrs_120 hN hw]; exact hb _ p hp (by omega)) hH
theorem stA_setH {f : xCf} {H : Nat → Nat} {b now n : Nat} {c : Nat → Int32} (hN : fN f ≤ 8) (hb : ∀ now p, p < fN f → now < 1073741824 → fP f (nI now) p ≠ nI b) (hH : ∀ r, r < fR f → r ≠ b → fH f r = H r) (hw : c 120 = nI now) (hn : now + n < 1073741824) : stA f c n = stA (setH f H) c n := by
  have e : stD f c n = stD (setH f H) c n := by
    funext p
    unfold stD
    rw [qtrs_setH hN hb hH hw n hn]
  unfold stA
  rw [e]
  rfl
def fP1 (D : xD) (a b : Nat) : Nat → Nat → Int32 := fun p k => if dP D p k = nI b then nI a else dP D p k
def fH1 (D : xD) (a b : Nat) : Nat → Nat := fun q => if q = a then dH D a + dH D b else dH D q
def fH2 (D : xD) (a b : Nat) : Nat → Nat := fun q => if q = b then 0 else fH1 D a b q
def dsE (D : xD) (a b : Nat) : xD := dsH (dsL D (dL D) (fP1 D a b)) (fH1 D a b)
theorem DOk_E {D : xD} {a b : Nat} (hD : DOk D) (hH : ∀ r, r < 4 → dH D r ≤ 8) (hR : dR D ≤ 4) (ha : a < dR D) (hb : b < dR D) : DOk (dsE D a b) := by
  refine ⟨hD.1, hD.2.1, fun r hr => ?_, hD.2.2.2.1, hD.2.2.2.2.1, fun p hp k hk => ?_⟩
  · show (if r = a then dH D a + dH D b else dH D r) ≤ 16
    have h1 := hH a (by omega)
    have h2 := hH b (by omega)
    have h3 := hH r hr
    split <;> omega
  · show (if dP D p k = nI b then nI a else dP D p k) = -1 ∨ ∃ rm, rm < dR D ∧ (if dP D p k = nI b then nI a else dP D p k) = nI rm
    by_cases z : dP D p k = nI b
    · rw [if_pos z]; exact Or.inr ⟨a, ha, rfl⟩
    · rw [if_neg z]; exact hD.2.2.2.2.2 p hp k hk
section K
variable {N R B r d n T now j rm : Nat} {mem m' m0 m1 m2 m3 m4 m5 : Nat → Nat → Int32} {Q : xQr} {g : xCf} {D : xD}
theorem kM33 (h : RRc mem N R B) (a : AgM [] [33] mem m2) : RRc m2 N R B := kAll h (Ag.rfl' (W := [])) a (by decide) (by decide) (by decide) (by decide) (by decide) (by decide) (by decide)
theorem c93 {a b : Nat} (ha : a < 4) (hb : b < 4) (hN : dN D ≤ 8) (hL : ∀ p, dL D p ≤ 24) (hT : TwD mem 26 D) (k : ∀ m', Ag [27, 31, 32, 33, 34, 35, 36, 37, 38] mem m' → TwD m' 26 (dsE D a b) → Q none (LAY, RFu r, m')) : xCall (d + 1) 93 [.ref 26, .int (nI a), .int (nI b)] (LAY, RFu r, mem) Q := by
  obtain ⟨h1, h2, h3, h4, h5, h6, h7, h8⟩ := hT
  have ht : isTown 26 := Or.inr rfl
  have va : vp_in (nI a) 4 := vpn ha (by decide)
  have vb : vp_in (nI b) 4 := vpn hb (by decide)
  have ca : (nI a).toNatClampNeg = a := nIc (by omega)
  have cb : (nI b).toNatClampNeg = b := nIc (by omega)
  refine c_in rfl rfl rfl fun P hP => b93_0 hP ht va vb va ?_
  rw [ca, cb, h3 a ha, h3 b hb, nI_add]
  generalize hm0 : xu2 mem (26 + 1) a (nI (dH D a + dH D b)) = m0
  have a0 : Ag [27] mem m0 := by rw [← hm0]; exact Ag.rfl'.u2 (by simp)
  have e27 : ∀ q, q < 4 → m0 27 q = nI (fH1 D a b q) := fun q hq => by
    rw [← hm0]
    show xu2 mem 27 a (nI (dH D a + dH D b)) 27 q = _
    rw [xu2_eq]
    unfold fH1
    by_cases z : q = a
    · rw [if_pos z, z, upd_at]
    · rw [if_neg z, upd_ne z]; exact h3 q hq
  have hfin : ∀ m', Ag [31, 32, 33, 34, 35, 36, 37, 38] m0 m' → (∀ q, q < dN D → ∀ i, i < dL D q → m' (26 + 5 + q) i = fP1 D a b q i) → Q none (LAY, RFu r, m') := fun m' am e => by
    have aa : Ag [27, 31, 32, 33, 34, 35, 36, 37, 38] mem m' := (a0.mono (by decide)).trans (am.mono (by decide))
    refine k m' aa ⟨by rw [aa 26 (by decide)]; exact h1, by rw [aa 26 (by decide)]; exact h2, fun q hq => by rw [show m' (26 + 1) = m0 27 from am 27 (by decide)]; exact e27 q hq, fun q hq => by rw [aa (26 + 2) (by decide), aa (26 + 3) (by decide)]; exact h4 q hq, fun q hq => by rw [aa (26 + 13) (by decide), aa (26 + 14) (by decide)]; exact h5 q hq, e, ?_, ?_⟩
    · unfold RuL
      rw [aa (26 + 15) (by decide), aa (26 + 15 + 1) (by decide)]
      exact h7
    · unfold RuL
      rw [aa (26 + 18) (by decide), aa (26 + 18 + 1) (by decide)]
      exact h8
  have key := xloop (N := dN D) (G := fun p => ∀ v4 m', Ag [31, 32, 33, 34, 35, 36, 37, 38] m0 m' → (∀ q, q < dN D → ∀ i, i < dL D q → m' (26 + 5 + q) i = if q < p then fP1 D a b q i else dP D q i) → P 17 [.ref 26, .int (nI a), .int (nI b), .int (nI p), v4] [] (0, 0) (LAY, RFu r, m')) ?_ ?_
  · refine key _ m0 Ag.rfl' (fun q hq i hi => ?_)
    rw [if_neg (Nat.not_lt_zero q), a0 (26 + 5 + q) (by simp; omega)]
    exact h6 q hq i hi
  · intro v4 m' am e
    refine b93_17 hP ht (fun _ => b93_74 hP ht (hfin m' am fun q hq i hi => by rw [e q hq i hi, if_pos hq])) (fun z => absurd (Int32.le_refl _) (by rw [am 26 (by decide), a0 26 (by decide), h2] at z; exact z))
  · intro p hp ih v4 m' am e
    have vp : vp_in (nI p) 8 := vpn (by omega) (by decide)
    have cp : (nI p).toNatClampNeg = p := nIc (by omega)
    have hLp := hL p
    have e39 : ∀ m', Ag [31, 32, 33, 34, 35, 36, 37, 38] m0 m' → m' (26 + 13) p = nI (dL D p) := fun m' am => by rw [am (26 + 13) (by decide), a0 (26 + 13) (by decide)]; exact (h5 p (by omega)).1
    refine b93_17 hP ht (fun z => absurd z (by rw [am 26 (by decide), a0 26 (by decide), h2]; exact nI_ge hp (by omega))) (fun _ => b93_25 hP ht ?_)
    have inn := xloop (N := dL D p) (G := fun k => ∀ m', Ag [31, 32, 33, 34, 35, 36, 37, 38] m0 m' → (∀ q, q < dN D → ∀ i, i < dL D q → m' (26 + 5 + q) i = if q < p ∨ (q = p ∧ i < k) then fP1 D a b q i else dP D q i) → P 28 [.ref 26, .int (nI a), .int (nI b), .int (nI p), .int (nI k)] [] (0, 0) (LAY, RFu r, m')) ?_ ?_
    · refine inn m' am (fun q hq i hi => ?_)
      rw [e q hq i hi]
      by_cases z : q < p
      · rw [if_pos z, if_pos (Or.inl z)]
      · rw [if_neg z, if_neg (by omega)]
    · intro m2 am2 e2
      refine b93_28 hP ht vp (fun _ => b93_68 hP ht ?_) (fun z => absurd (Int32.le_refl _) (by rw [cp, e39 m2 am2] at z; exact z))
      rw [nIs]
      refine ih _ m2 am2 (fun q hq i hi => ?_)
      rw [e2 q hq i hi]
      by_cases z : q < p + 1
      · rw [if_pos z, if_pos]
        by_cases y : q = p
        · exact Or.inr ⟨y, by rw [← y]; exact hi⟩
        · exact Or.inl (by omega)
      · rw [if_neg z, if_neg (by omega)]
    · intro i hi ihi m2 am2 e2
      have vi : vp_in (nI i) 24 := vpn (by omega) (by decide)
      have ci : (nI i).toNatClampNeg = i := nIc (by omega)
      have ep : m2 (26 + 5 + p) i = dP D p i := by rw [e2 p hp i hi, if_neg (by omega)]
      refine b93_28 hP ht vp (fun z => absurd z (by rw [cp, e39 m2 am2]; exact nI_ge hi (by omega))) (fun _ => b93_39 hP ht vp vi (fun z => b93_62 hP ht ?_) (fun z => b93_52 hP ht vp vi (b93_62 hP ht ?_)))
      · rw [cp, ci, ep] at z
        rw [nIs]
        refine ihi m2 am2 (fun q hq i' hi' => ?_)
        rw [e2 q hq i' hi']
        by_cases y : q = p ∧ i' = i
        · rw [if_neg (by omega), if_pos (by omega), y.1, y.2]
          unfold fP1
          rw [if_neg z]
        · by_cases w : q < p ∨ (q = p ∧ i' < i)
          · rw [if_pos w, if_pos (by omega)]
          · rw [if_neg w, if_neg (by omega)]
      · rw [cp, ci, ep] at z
        rw [cp, ci, nIs]
        refine ihi _ (am2.u2 (by simp; omega)) (fun q hq i' hi' => ?_)
        by_cases y : q = p
        · subst y
          rw [xu2_eq]
          by_cases w : i' = i
          · rw [w, upd_at, if_pos (by omega)]
            unfold fP1
            rw [if_pos z]
          · rw [upd_ne w, e2 q hq i' hi']
            by_cases u : i' < i
            · rw [if_pos (by omega), if_pos (by omega)]
            · rw [if_neg (by omega), if_neg (by omega)]
        · rw [xu2_ne (by omega), e2 q hq i' hi']
          by_cases w : q < p
          · rw [if_pos (by omega), if_pos (by omega)]
          · rw [if_neg (by omega), if_neg (by omega)]
theorem CfM_E {a b : Nat} (h : MwD m1 D) (hD : DOk D) (hH : ∀ r, r < 4 → dH D r ≤ 8) (ha : a < dR D) (hb : b < dR D) (hab : a ≠ b) (a' : AgM mtW (33 :: 32 :: mqV) m1 m2) (e32 : m2 108 32 = nI b) (e33 : m2 108 33 = nI a) : CfM m2 (setH (cfD (dsE D a b)) (fH2 D a b)) := by
  have hgo := fun now p hp hn => MwD_go h hD (now := now) (p := p) hp hn
  obtain ⟨h1, h2, h3, h4, h5, h6, h7, h8⟩ := h
  obtain ⟨d1, d2, d3, d4, d5, d6⟩ := hD
  have ha8 := hH a (by omega)
  have hb8 := hH b (by omega)
  have bn : nI b ≠ -1 := nI_nm (by omega)
  refine ⟨by rw [a'.2 0 (by decide)]; exact h1, d1, by rw [a'.2 2 (by decide)]; exact h2, d2, fun r hr => ?_, Or.inr ⟨b, by omega, e32⟩, fun p hp => ⟨by rw [a'.1 111 (by decide) (by decide)]; exact (h4 p hp).2, d4 p hp⟩, fun p hp => by rw [a'.1 113 (by decide) (by decide), a'.1 129 (by decide) (by decide)]; exact ⟨(h6 p hp).1, (h6 p hp).2.1⟩, fun now p hp hn => ?_, dA D, dG D, ?_, ?_, fun c p hp => ?_⟩
  · have hr : r < dR D := hr
    have hr8 := hH r (by omega)
    show chE m2 r = nI (fH2 D a b r) ∧ fH2 D a b r ≤ 16
    unfold chE fH2 fH1
    rw [e32, e33, a'.1 109 (by decide) (by decide)]
    by_cases z : r = b
    · rw [if_pos (by rw [z]), if_pos z]; exact ⟨rfl, by omega⟩
    · rw [if_neg (fun q => z (nI_inj q (by omega) (by omega))), if_neg z]
      by_cases y : r = a
      · rw [if_pos ⟨bn, by rw [y]⟩, if_pos y, nIc (by omega), h3 r hr, h3 b hb, nI_add, y]; exact ⟨rfl, by omega⟩
      · rw [if_neg (fun q => y (nI_inj q.2 (by omega) (by omega))), if_neg y]; exact ⟨h3 r hr, by omega⟩
  · have hp : p < dN D := hp
    have eg : goE m2 now p = goE m1 now p := by
      unfold goE
      rw [a'.1 128 (by decide) (by decide), a'.1 113 (by decide) (by decide), a'.1 112 (by decide) (by decide), a'.1 129 (by decide) (by decide)]
    unfold goE2
    rw [eg, hgo now p hp hn, e32, e33]
    show (if (if dL D p = 0 then (-1 : Int32) else dP D p (((nI now).toNatClampNeg + dF D p) % dL D p)) ≠ -1 ∧ (if dL D p = 0 then (-1 : Int32) else dP D p (((nI now).toNatClampNeg + dF D p) % dL D p)) = nI b then nI a else (if dL D p = 0 then (-1 : Int32) else dP D p (((nI now).toNatClampNeg + dF D p) % dL D p))) = if dL D p = 0 then (-1 : Int32) else if dP D p (((nI now).toNatClampNeg + dF D p) % dL D p) = nI b then nI a else dP D p (((nI now).toNatClampNeg + dF D p) % dL D p)
    by_cases z : dL D p = 0
    · rw [if_pos z, if_pos z, if_neg (fun q => q.1 rfl)]
    · rw [if_neg z, if_neg z]
      by_cases y : dP D p (((nI now).toNatClampNeg + dF D p) % dL D p) = nI b
      · rw [if_pos y, if_pos ⟨by rw [y]; exact bn, y⟩]
      · rw [if_neg y, if_neg (fun q => y q.2)]
  · unfold RuE RmT at h7 ⊢
    rw [a'.1 (125 + 0) (by decide) (by decide), a'.1 127 (by decide) (by decide), a'.2 29 (by decide)]
    exact h7
  · unfold RuE RmT at h8 ⊢
    rw [a'.1 (125 + 1) (by decide) (by decide), a'.1 127 (by decide) (by decide), a'.2 29 (by decide)]
    exact h8
  · have hp : p < dN D := hp
    show rv (envF (dg D) (dK D) c p) (dA D) = _ ∧ rv (envF (dg D) (dK D) c p) (dG D) = _
    rw [a'.1 110 (by decide) (by decide), a'.1 111 (by decide) (by decide), envF_eq (h4 p hp).1 (h4 p hp).2 (fun _ _ _ => rfl) (by omega)]
    exact ⟨rfl, rfl⟩
theorem stA_E {a b : Nat} (hD : DOk D) (ha : a < dR D) (hb : b < dR D) (hab : a ≠ b) {c : Nat → Int32} (hw : c 120 = nI now) (hn : now + n < 1073741824) : stA (cfD (dsE D a b)) c n = stA (setH (cfD (dsE D a b)) (fH2 D a b)) c n := by
  have hR := hD.1
  refine stA_setH (b := b) (show dN D ≤ 8 from hD.2.1) (fun now p hp hn => ?_) (fun r hr hb => ?_) hw hn
  · show (if dL D p = 0 then (-1 : Int32) else if dP D p (((nI now).toNatClampNeg + dF D p) % dL D p) = nI b then nI a else dP D p (((nI now).toNatClampNeg + dF D p) % dL D p)) ≠ nI b
    split
    · exact fun q => nI_nm (show b < 2147483648 by omega) q.symm
    · split
      · exact fun q => hab (nI_inj q (by omega) (by omega))
      · rename_i q; exact q
  · show fH1 D a b r = fH2 D a b r
    unfold fH2
    rw [if_neg hb]
end K
