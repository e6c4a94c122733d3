/-! the reference's rules -/
/-- the reference's text -/
def TxM (mem : Nat → Nat → Int32) (len : Nat) (tx : Nat → Nat) : Prop := mem 108 17 = nI len ∧ len ≤ 80 ∧ ∀ i, i < len → tx i < 256 ∧ mem 122 i = sb (tx i)
/-- the text of rule q, as the reference keeps it -/
def RmT (mem : Nat → Nat → Int32) (q n : Nat) (tx : Nat → Nat) : Prop := n ≤ 40 ∧ mem 127 q = nI n ∧ (∀ i, i < n → tx i < 256 ∧ mem (125 + q) i = sb (tx i)) ∧ (0 < n → (rdT tx n).2.1 = true ∧ (rdT tx n).1 = n)
def rsM (q n : Nat) (tx : Nat → Nat) : List Int32 := if n = 0 then (if q = 0 then [nI 1116] else [nI 1115]) else (rdT tx n).2.2
/-- the steps of rule q, as it holds -/
def RuE (mem : Nat → Nat → Int32) (q : Nat) (xs : List Int32) : Prop :=
  (q = 0 ∧ mem 108 29 = nI 1 ∧ xs = [nI 1103]) ∨ (q = 0 ∧ mem 108 29 = nI 2 ∧ xs = [nI 1098]) ∨ (q = 0 ∧ mem 108 29 = nI 3 ∧ xs = [nI 1099]) ∨ ((q = 1 ∨ mem 108 29 = nI 0) ∧ ∃ n tx, RmT mem q n tx ∧ xs = rsM q n tx)
theorem rv_one {env : Int32 → Int32} {x : Nat} (h : x < 1000) : rv env [nI (1000 + x)] = env (nI x) := by
  show (rst env [] (nI (1000 + x))).headD 0 = _
  rw [rst_let h]
  rfl
theorem rv_g {ag sk c : Nat → Int32} {p : Nat} : rv (envF ag sk c p) [nI 1103] = ag p := rv_one (x := 103) (by decide)
theorem rv_b {ag sk c : Nat → Int32} {p : Nat} : rv (envF ag sk c p) [nI 1098] = c (40 + p) := rv_one (x := 98) (by decide)
theorem rv_c {ag sk c : Nat → Int32} {p : Nat} : rv (envF ag sk c p) [nI 1099] = c (48 + p) := rv_one (x := 99) (by decide)
theorem rv_t {ag sk c : Nat → Int32} {p : Nat} : rv (envF ag sk c p) [nI 1116] = c (24 + p) := rv_one (x := 116) (by decide)
theorem rv_s {ag sk c : Nat → Int32} {p : Nat} : rv (envF ag sk c p) [nI 1115] = c (16 + p) := rv_one (x := 115) (by decide)
/-- what of one of PEOPLE a rule can ask for -/
def PvM (mem : Nat → Nat → Int32) (c : Nat → Int32) (i : Nat) : Prop := (mem 111 i = 0 ∨ mem 111 i = 1) ∧ c (16 + i) = mem 116 i ∧ c (24 + i) = mem 117 i ∧ c (32 + i) = mem 118 i ∧ c (40 + i) = mem 119 i ∧ c (48 + i) = mem 120 i
section C
variable {d r : Nat} {mem : Nat → Nat → Int32} {Q : xQr}
theorem gT_RM {m1 : Nat → Nat → Int32} {rc n top ln : Nat} {tx : Nat → Nat} (hL : LAY[rc]? = some (14, ln)) (hn : n ≤ ln) (hl : ln < 1000) (ht : top < 1000) (h8 : rc ≠ 108) (e1 : m1 108 22 = nI n) (e2 : m1 108 23 = nI top) (e3 : m1 108 24 = nI 0) (e4 : m1 108 25 = -1) (hx : ∀ i, i < n → tx i < 256 ∧ m1 rc i = sb (tx i)) : RM m1 (rc + 1) rc n top 0 (-1) (gT tx n top) :=
  ⟨rfl, ⟨ln, hL, hn, hl⟩, ht, h8, e1, e2, e3, by decide, e4, fun i h1 h2 => by rw [gT_at (by omega)]; exact hx i h1, fun i h => gT_lim (by omega)⟩
theorem c167 {rc ln : Nat} {n top : Int32} (hL : LAY[rc]? = some (14, ln)) (k : ∀ mem', AgM [] [22, 23, 24, 25] mem mem' → mem' 108 22 = n → mem' 108 23 = top → mem' 108 24 = nI 0 → mem' 108 25 = -1 → Q none (LAY, RFu (rc + 1), mem')) : xCall (d + 1) 167 [.ref 108, .ref rc, .int n, .int top] (LAY, RFu r, mem) Q :=
  c_in rfl rfl rfl fun P hP => b167_0 hP hL (k _ ((((AgM.rfl'.us (by simp)).us (by simp)).us (by simp)).us (by simp)) (by rw [xu2_eq, upd_ne (by decide), xu2_eq, upd_ne (by decide), xu2_eq, upd_ne (by decide), xu2_eq, upd_at]) (by rw [xu2_eq, upd_ne (by decide), xu2_eq, upd_ne (by decide), xu2_eq, upd_at]) (by rw [xu2_eq, upd_ne (by decide), xu2_eq, upd_at]) (by rw [xu2_eq, upd_at]))
theorem lay_r {q : Nat} (hq : q < 2) : LAY[125 + q]? = some (14, 40) := by
  have : q = 0 ∨ q = 1 := by omega
  rcases this with h | h <;> rw [h] <;> rfl
theorem c181 {q i : Nat} {xs : List Int32} {c : Nat → Int32} (hq : q < 2) (hi : i < 8) (hE : RuE mem q xs) (hP : PvM mem c i)
    (k : ∀ r' mem', AgM [] [22, 23, 24, 25, 28] mem mem' → Q (some (.int (rv (envF (mem 110) (mem 111) c i) xs))) (LAY, RFu r', mem')) : xCall (d + 70) 181 [.ref 108, .int (nI q), .int (nI i)] (LAY, RFu r, mem) Q := by
  obtain ⟨p1, p2, p3, p4, p5, p6⟩ := hP
  refine c_in rfl rfl rfl fun P hP => ?_
  have vi : vp_in (nI i) 8 := vpn hi (by decide)
  have vq : vp_in (nI q) 2 := vpn hq (by decide)
  have k52 : ∀ n tx, RmT mem q n tx → xs = rsM q n tx → P 52 [.ref 108, .int (nI q), .int (nI i)] [] (0, 0) (LAY, RFu r, mem) := fun n tx hR hx => by
    obtain ⟨r1, r2, r3, r4⟩ := hR
    refine b181_52 hP vq (fun h => ?_) (fun h => ?_)
    · rw [nIc (by omega), r2] at h
      have hn : 0 < n := Nat.pos_of_ne_zero fun z => h (by rw [z]; decide)
      obtain ⟨o1, o2⟩ := r4 hn
      refine b181_81 hP vq vq ?_
      rw [nIc (by omega), r2]
      refine c167 (lay_r hq) fun m1 hA e1 e2 e3 e4 => Bk.v (b181_99 hP ?_)
      have hM0 : RM m1 (125 + q + 1) (125 + q) n 40 0 (-1) (gT tx n 40) := gT_RM (lay_r hq) r1 (by decide) (by decide) (by omega) e1 e2 e3 e4 (fun i hi => ⟨(r3 i hi).1, by rw [hA.1 (125 + q) (by simp) (by omega)]; exact (r3 i hi).2⟩)
      have hA2 : AgM [] [22, 23, 24, 25, 28] mem (xu2 m1 108 28 (nI i)) := (hA.mono (by simp) (by simp)).us (by simp)
      have hM : RM (xu2 m1 108 28 (nI i)) (125 + q + 1) (125 + q) n 40 0 (-1) (gT tx n 40) := RM_mv (W := []) (V := [28]) hM0 (AgM.rfl'.us (by simp)) (by simp) (by simp) (by simp) (by rw [xu2_eq, upd_ne (by decide), e3]) (by decide) (by rw [xu2_eq, upd_ne (by decide), e4])
      have hg : ∀ j, n ≤ j → gT tx n 40 j = 256 := fun j hj => gT_lim (by omega)
      have hEn : EnvM (xu2 m1 108 28 (nI i)) (envF (mem 110) (mem 111) c i) := by
        refine Or.inr ⟨i, c, hi, by rw [xu2_eq, upd_at], ?_⟩
        rw [hA2.1 110 (by simp) (by decide), hA2.1 111 (by simp) (by decide), hA2.1 116 (by simp) (by decide), hA2.1 117 (by simp) (by decide), hA2.1 118 (by simp) (by decide), hA2.1 119 (by simp) (by decide), hA2.1 120 (by simp) (by decide)]
        exact ⟨p1, p2, p3, p4, p5, p6, rfl⟩
      refine (m_all (lim := n) hg (by omega) 400).2.2.2.2.2 0 0 (d + 69) _ _ hM hEn (Nat.zero_le _) (by decide) (by omega) (by omega) ?_
      intro m2 v hA3 ok1 ok2
      refine Bk.i (b181_109 hP ?_)
      obtain ⟨f1, f2, f3⟩ := ok1 o1
      have := k (125 + q + 1) m2 (hA2.trans (hA3.mono (by simp) (by simp)))
      have ev : rv (envF (mem 110) (mem 111) c i) xs = v := by
        rw [hx]
        unfold rsM
        rw [if_neg (by omega)]
        unfold rv
        have := f3 []
        unfold rdT
        rw [this]
        rfl
      rw [ev] at this
      exact this
    · rw [nIc (by omega), r2] at h
      have hn : n = 0 := nI_inj h (by omega) (by decide)
      have hx : xs = if q = 0 then [nI 1116] else [nI 1115] := by rw [hx]; unfold rsM; rw [if_pos hn]
      have k := k r mem AgM.rfl'
      refine b181_61 hP (fun z => b181_74 hP vi (b181_80 hP ?_)) (fun z => b181_65 hP vi (b181_80 hP ?_))
      · rw [if_neg (fun e => z (by rw [e]; rfl))] at hx
        rw [hx, rv_s, p2] at k
        rw [nIc (by omega)]
        exact k
      · rw [if_pos (nI_inj (b := 0) z (by omega) (by decide))] at hx
        rw [hx, rv_t, p3] at k
        rw [nIc (by omega)]
        exact k
  rcases hE with ⟨e1, e2, e3⟩ | ⟨e1, e2, e3⟩ | ⟨e1, e2, e3⟩ | ⟨e1, n, tx, e2, e3⟩
  · have k := k r mem AgM.rfl'
    rw [e3, rv_g] at k
    refine b181_0 hP (fun z => absurd (by rw [e1]; rfl) z) (fun _ => b181_4 hP (fun z => absurd z (by rw [e2]; decide)) (fun _ => b181_11 hP (fun z => absurd e2 z) (fun _ => b181_19 hP vi (b181_51 hP ?_))))
    rw [nIc (by omega)]
    exact k
  · have k := k r mem AgM.rfl'
    rw [e3, rv_b, p5] at k
    refine b181_0 hP (fun z => absurd (by rw [e1]; rfl) z) (fun _ => b181_4 hP (fun z => absurd z (by rw [e2]; decide)) (fun _ => b181_11 hP (fun _ => b181_28 hP (fun z => absurd e2 z) (fun _ => b181_36 hP vi (b181_51 hP ?_))) (fun z => absurd z (by rw [e2]; decide))))
    rw [nIc (by omega)]
    exact k
  · have k := k r mem AgM.rfl'
    rw [e3, rv_c, p6] at k
    refine b181_0 hP (fun z => absurd (by rw [e1]; rfl) z) (fun _ => b181_4 hP (fun z => absurd z (by rw [e2]; decide)) (fun _ => b181_11 hP (fun _ => b181_28 hP (fun _ => b181_45 hP vi (b181_51 hP ?_)) (fun z => absurd z (by rw [e2]; decide))) (fun z => absurd z (by rw [e2]; decide))))
    rw [nIc (by omega)]
    exact k
  · refine b181_0 hP (fun _ => k52 n tx e2 e3) (fun z => b181_4 hP (fun _ => k52 n tx e2 e3) (fun z2 => ?_))
    rcases e1 with e1 | e1
    · rw [e1] at z; exact absurd z (by decide)
    · exact absurd (by rw [e1]; decide) z2
theorem sb_nar {u : Nat} (h : u < 256) : xNar 14 (sb u) = sb u := by
  have : ∀ u < 256, xNar 14 (sb u) = sb u := by decide +kernel
  exact this u h
def goodR (tx : Nat → Nat) (len : Nat) : Prop := len = 0 ∨ ((rdT tx len).2.1 = true ∧ (rdT tx len).1 = len)
theorem c180 {p0 : Int32} {len : Nat} {tx : Nat → Nat} (hT : TxM mem len tx)
    (k : ∀ r' mem' v, AgM [125, 126, 127] [17, 20, 22, 23, 24, 25, 28] mem mem' → mem' 108 17 = nI 0 →
      ((p0 ≠ nI 0 ∧ p0 ≠ nI 1 ∧ v = -100 ∧ mem' 125 = mem 125 ∧ mem' 126 = mem 126 ∧ mem' 127 = mem 127) ∨
        ∃ q, q < 2 ∧ p0 = nI q ∧ ((¬ goodR tx len ∧ v = -1 - nI (rdT tx len).1 ∧ mem' 125 = mem 125 ∧ mem' 126 = mem 126 ∧ mem' 127 = mem 127) ∨ (goodR tx len ∧ v = nI 0 ∧ mem' 127 = upd (mem 127) q (nI len) ∧ (∀ i, i < len → mem' (125 + q) i = sb (tx i)) ∧ mem' (125 + (1 - q)) = mem (125 + (1 - q))))) → Q (some (.int v)) (LAY, RFu r', mem')) : xCall (d + 80) 180 [.ref 108, .int p0] (LAY, RFu r, mem) Q := by
  obtain ⟨t1, t2, t3⟩ := hT
  refine c_in rfl rfl rfl fun P hP => b180_0 hP ?_
  have e17 : xu2 mem 108 20 (nI 0) 108 17 = nI len := by rw [xu2_eq, upd_ne (by decide), t1]
  rw [e17]
  have hL : LAY[122]? = some (14, 80) := rfl
  refine c167 hL fun m1 hA1 e1 e2 e3 e4 => Bk.v (b180_21 hP (c158 (Bk.i ?_)))
  have hA2 : AgM [125, 126, 127] [17, 20, 22, 23, 24, 25, 28] mem (xu2 m1 108 17 (nI 0)) := (((AgM.rfl'.us (by simp) : AgM [] [20] mem (xu2 mem 108 20 (nI 0))).mono (by simp) (by simp)).trans (hA1.mono (by simp) (by simp))).us (by simp)
  have f17 : xu2 m1 108 17 (nI 0) 108 17 = nI 0 := by rw [xu2_eq, upd_at]
  have same : ∀ {m' : Nat → Nat → Int32}, AgM [] [17, 20, 22, 23, 24, 25, 28] mem m' → m' 125 = mem 125 ∧ m' 126 = mem 126 ∧ m' 127 = mem 127 := fun h => ⟨h.1 125 (by simp) (by decide), h.1 126 (by simp) (by decide), h.1 127 (by simp) (by decide)⟩
  have hA2' : AgM [] [17, 20, 22, 23, 24, 25, 28] mem (xu2 m1 108 17 (nI 0)) := (((AgM.rfl'.us (by simp) : AgM [] [20] mem (xu2 mem 108 20 (nI 0))).mono (by simp) (by simp)).trans (hA1.mono (by simp) (by simp))).us (by simp)
  refine b180_32 hP (fun z => b180_38 hP (fun z0 => ?_) (fun z0 => b180_47 hP ?_)) (fun z => b180_35 hP (k _ _ _ hA2 f17 (Or.inl ⟨?_, ?_, rfl, same hA2'⟩)))
  · have hq : ∃ q, q < 2 ∧ p0 = nI q := by
      have h : nI 0 ≤ p0 ∧ p0 ≤ nI 1 := Decidable.by_contra fun q => z (by unfold b01; rw [if_neg q])
      rw [Int32.le_iff_toInt_le, Int32.le_iff_toInt_le, nI_toInt (by decide), nI_toInt (by decide)] at h
      refine ⟨p0.toInt.toNat, by omega, i_to (by omega) (by omega)⟩
    obtain ⟨q, hq, rfl⟩ := hq
    have h0 : len = 0 := Decidable.by_contra fun q => nI_nle (by omega) (by omega) z0
    subst h0
    refine b180_83 hP (b180_85 hP (fun _ => b180_110 hP (vpn hq (by decide)) (k _ _ _ ((hA2.us (by simp)).u2 (by simp) (by decide)) ?_ (Or.inr ⟨q, hq, rfl, Or.inr ⟨Or.inl rfl, rfl, ?_, fun i hi => absurd hi (Nat.not_lt_zero i), ?_⟩⟩))) (fun y => absurd (Int32.le_refl _) y))
    · rw [xu2_ne (by decide), xu2_eq, upd_ne (by decide), f17]
    · rw [nIc (by omega), xu2_eq, xu2_ne (by decide), hA2'.1 127 (by simp) (by decide)]
    · rw [xu2_ne (by omega), xu2_ne (by omega), hA2'.1 _ (by simp) (by omega)]
  · have hq : ∃ q, q < 2 ∧ p0 = nI q := by
      have h : nI 0 ≤ p0 ∧ p0 ≤ nI 1 := Decidable.by_contra fun q => z (by unfold b01; rw [if_neg q])
      rw [Int32.le_iff_toInt_le, Int32.le_iff_toInt_le, nI_toInt (by decide), nI_toInt (by decide)] at h
      refine ⟨p0.toInt.toNat, by omega, i_to (by omega) (by omega)⟩
    obtain ⟨q, hq, rfl⟩ := hq
    have hn : 0 < len := Nat.pos_of_ne_zero fun y => z0 (by rw [y]; exact Int32.le_refl _)
    generalize hm3 : xu2 (xu2 m1 108 17 (nI 0)) 108 28 (-1) = m3
    have hA3 : AgM [] [17, 20, 22, 23, 24, 25, 28] mem m3 := by rw [← hm3]; exact hA2'.us (by simp)
    have g17 : m3 108 17 = nI 0 := by rw [← hm3, xu2_eq, upd_ne (by decide), f17]
    have hM0 : RM m1 123 122 len 40 0 (-1) (gT tx len 40) := gT_RM hL t2 (by decide) (by decide) (by omega) e1 e2 e3 e4 (fun i hi => ⟨(t3 i hi).1, by rw [hA1.1 122 (by simp) (by decide), xu2_ne (by decide)]; exact (t3 i hi).2⟩)
    have hM : RM m3 123 122 len 40 0 (-1) (gT tx len 40) := RM_mv (W := []) (V := [17, 28]) hM0 (by rw [← hm3]; exact (AgM.rfl'.us (by simp)).us (by simp)) (by simp) (by simp) (by simp) (by rw [← hm3, xu2_eq, upd_ne (by decide), xu2_eq, upd_ne (by decide), e3]) (by decide) (by rw [← hm3, xu2_eq, upd_ne (by decide), xu2_eq, upd_ne (by decide), e4])
    have hg : ∀ j, min len 40 ≤ j → gT tx len 40 j = 256 := fun j hj => gT_lim hj
    have hle := rd_le hg 400 5 0 0 (Nat.zero_le _)
    refine (m_all (lim := min len 40) hg (by omega) 400).2.2.2.2.2 0 0 (d + 79) m3 _ hM (Or.inl ⟨by rw [← hm3, xu2_eq, upd_at], rfl⟩) (Nat.zero_le _) (by decide) (by omega) (by omega) ?_
    intro m4 v hA4 ok1 ok2
    have hA4' := hA3.trans (hA4.mono (W' := []) (V' := [17, 20, 22, 23, 24, 25, 28]) (by simp) (by simp))
    have g17' : m4 108 17 = nI 0 := by rw [hA4.2 17 (by simp), g17]
    refine Bk.i ?_
    change ((rdT tx len).2.1 = true → m4 108 24 = nI (rdT tx len).1 ∧ m4 108 25 = -1 ∧ _) at ok1
    change ((rdT tx len).2.1 = false → m4 108 25 = nI (rdT tx len).1 ∧ ∃ b, b ≤ min len 40 ∧ m4 108 24 = nI b) at ok2
    change 0 ≤ (rdT tx len).1 ∧ (rdT tx len).1 ≤ min len 40 ∧ _ at hle
    have bad : ∀ m5 : Nat → Nat → Int32, AgM [] [17, 20, 22, 23, 24, 25, 28] mem m5 → m5 108 17 = nI 0 → m5 108 25 = nI (rdT tx len).1 → ¬ goodR tx len → ∀ v2 v3, P 69 [.ref 108, .int (nI q), v2, v3] [] (0, 0) (LAY, RFu 123, m5) → P 69 [.ref 108, .int (nI q), v2, v3] [] (0, 0) (LAY, RFu 123, m5) := fun _ _ _ _ _ _ _ h => h
    have bad69 : ∀ m5 : Nat → Nat → Int32, AgM [] [17, 20, 22, 23, 24, 25, 28] mem m5 → m5 108 17 = nI 0 → m5 108 25 = nI (rdT tx len).1 → ¬ goodR tx len → ∀ v3, P 69 [.ref 108, .int (nI q), .int (nI len), v3] [] (0, 0) (LAY, RFu 123, m5) := fun m5 b1 b2 b3 b4 v3 => by
      refine b180_69 hP (c169 (Bk.i (b180_73 hP (fun y => absurd (by rw [b3]; exact f_dead (by omega)) y) (fun _ => b180_76 hP ?_))))
      rw [b3]
      exact k _ _ _ (b1.mono (by simp) (by simp)) b2 (Or.inr ⟨q, hq, rfl, Or.inl ⟨b4, rfl, same b1⟩⟩)
    by_cases hok : (rdT tx len).2.1 = true
    · obtain ⟨h24, h25, -⟩ := ok1 hok
      refine b180_52 hP (fun y => ?_) (fun y => b180_61 hP (c170 (Bk.v ?_)))
      · rw [h24, nI_leI (by omega) (by omega)] at y
        have hR : (rdT tx len).1 = len := by omega
        have hl40 : len ≤ 40 := by omega
        refine b180_69 hP (c169 (Bk.i (b180_73 hP (fun _ => b180_83 hP ?_) (fun y => ?_))))
        · have key := xloop (N := len) (G := fun j => ∀ m5, AgM [125 + q] [17, 20, 22, 23, 24, 25, 28] mem m5 → m5 108 17 = nI 0 → (∀ i, i < j → m5 (125 + q) i = sb (tx i)) → P 85 [.ref 108, .int (nI q), .int (nI len), .int (nI j)] [] (0, 0) (LAY, RFu 123, m5)) ?_ ?_
          · exact key m4 (hA4'.mono (by simp) (by simp)) g17' (fun i hi => absurd hi (Nat.not_lt_zero i))
          · intro m5 b1 b2 b3
            have h127 : m5 127 = mem 127 := b1.1 127 (by simp; omega) (by decide)
            refine b180_85 hP (fun _ => b180_110 hP (vpn hq (by decide)) (k _ _ _ ((b1.mono (by simp; omega) (by simp)).u2 (by simp) (by decide)) ?_ (Or.inr ⟨q, hq, rfl, Or.inr ⟨Or.inr ⟨hok, hR⟩, rfl, ?_, fun i hi => ?_, ?_⟩⟩))) (fun y => absurd (Int32.le_refl _) y)
            · rw [xu2_ne (by decide), b2]
            · rw [nIc (by omega), xu2_eq, h127]
            · rw [xu2_ne (by omega)]; exact b3 i hi
            · rw [xu2_ne (by omega), b1.1 _ (by simp; omega) (by omega)]
          · intro j hj ih m5 b1 b2 b3
            refine b180_85 hP (fun y => absurd y (nI_ge hj (by omega))) (fun _ => b180_90 hP (vpn hq (by decide)) (vpn (by omega) (by decide)) (vpn (by omega) (by decide)) ?_)
            rw [nIs, nIc (by omega), nIc (by omega), b1.1 122 (by simp; omega) (by decide), (t3 j hj).2, sb_nar (t3 j hj).1]
            refine ih _ (b1.u2 (by simp) (by omega)) (by rw [xu2_ne (by omega)]; exact b2) (fun i hi => ?_)
            by_cases e : i = j
            · rw [e, xu2_eq, upd_at]
            · rw [xu2_eq, upd_ne e]; exact b3 i (by omega)
        · unfold b01 at y
          rw [if_pos h25] at y
          exact absurd y (by decide)
      · rw [h24, nI_leI (by omega) (by omega)] at y
        rw [if_pos h25, h24]
        refine bad69 _ (hA4'.us (by simp)) (by rw [xu2_eq, upd_ne (by decide), g17']) (by rw [xu2_eq, upd_at]) ?_ _
        intro z
        rcases z with z | z <;> omega
    · obtain ⟨h25, b, hb, h24⟩ := ok2 (bfalse hok)
      have ng : ¬ goodR tx len := fun z => by
        rcases z with z | z
        · omega
        · exact hok z.1
      refine b180_52 hP (fun y => bad69 m4 hA4' g17' h25 ng _) (fun y => b180_61 hP (c170 (Bk.v ?_)))
      rw [if_neg (by rw [h25]; exact nI_nm (by omega))]
      exact bad69 m4 hA4' g17' h25 ng _
  · intro q
    unfold b01 at z
    rw [q, if_pos (by decide)] at z
    exact absurd z (by decide)
  · intro q
    unfold b01 at z
    rw [q, if_pos (by decide)] at z
    exact absurd z (by decide)
end C
