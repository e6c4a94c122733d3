section C
variable {r : Nat} {rc n tp : Nat} {g : Nat → Nat} {env : Int32 → Int32} {lim : Nat}
def mT (r rc n tp : Nat) (g : Nat → Nat) (env : Int32 → Int32) (lim f : Nat) : Prop := ∀ (deep a D : Nat) (mem : Nat → Nat → Int32) (Q : xQr), RM mem r rc n tp a (-1) g → EnvM mem env → a ≤ lim → deep ≤ 4 → 8 * (lim - a) + 1 ≤ f → 5 * (4 - deep) + (lim - a) + 4 ≤ D → RdK Q r lim mem (rd g f 0 deep a) (fun v => ∀ st, rrun env st (rd g f 0 deep a).2.2 = v :: st) → xCall D 178 [.ref 108, .int (nI deep)] (LAY, RFu r, mem) Q
def mP (r rc n tp : Nat) (g : Nat → Nat) (env : Int32 → Int32) (lim f : Nat) : Prop := ∀ (deep a D : Nat) (mem : Nat → Nat → Int32) (Q : xQr), RM mem r rc n tp a (-1) g → EnvM mem env → a ≤ lim → deep ≤ 4 → 8 * (lim - a) + 3 ≤ f → 5 * (4 - deep) + (lim - a) + 5 ≤ D → RdK Q r lim mem (rd g f 2 deep a) (fun v => ∀ st, rrun env st (rd g f 2 deep a).2.2 = v :: st) → xCall D 177 [.ref 108, .int (nI deep)] (LAY, RFu r, mem) Q
def mS (r rc n tp : Nat) (g : Nat → Nat) (env : Int32 → Int32) (lim f : Nat) : Prop := ∀ (deep a D : Nat) (mem : Nat → Nat → Int32) (Q : xQr), RM mem r rc n tp a (-1) g → EnvM mem env → a ≤ lim → deep ≤ 4 → 8 * (lim - a) + 5 ≤ f → 5 * (4 - deep) + (lim - a) + 6 ≤ D → RdK Q r lim mem (rd g f 4 deep a) (fun v => ∀ st, rrun env st (rd g f 4 deep a).2.2 = v :: st) → xCall D 176 [.ref 108, .int (nI deep)] (LAY, RFu r, mem) Q
def mH (r rc n tp : Nat) (g : Nat → Nat) (env : Int32 → Int32) (lim f : Nat) : Prop := ∀ (deep a D : Nat) (mem : Nat → Nat → Int32) (Q : xQr), RM mem r rc n tp a (-1) g → EnvM mem env → a ≤ lim → deep ≤ 4 → 8 * (lim - a) + 6 ≤ f → 5 * (4 - deep) + (lim - a) + 7 ≤ D → RdK Q r lim mem (rd g f 5 deep a) (fun v => ∀ st, rrun env st (rd g f 5 deep a).2.2 = v :: st) → xCall D 175 [.ref 108, .int (nI deep)] (LAY, RFu r, mem) Q
def mPL (r rc n tp : Nat) (g : Nat → Nat) (env : Int32 → Int32) (lim f : Nat) : Prop := ∀ (deep a d : Nat) (mem : Nat → Nat → Int32) (P : xPr) (Q : xQr) (u : Int32) (v3 v4 : Value), Cl d none 177 P Q → RM mem r rc n tp a (-1) g → EnvM mem env → a ≤ lim → deep ≤ 4 → 8 * (lim - a) + 2 ≤ f → 5 * (4 - deep) + (lim - a) + 4 ≤ d → RdK Q r lim mem (rd g f 1 deep a) (fun v => ∀ st, rrun env (u :: st) (rd g f 1 deep a).2.2 = v :: st) → P 6 [.ref 108, .int (nI deep), .int u, v3, v4] [] (0, 0) (LAY, RFu r, mem)
def mSL (r rc n tp : Nat) (g : Nat → Nat) (env : Int32 → Int32) (lim f : Nat) : Prop := ∀ (deep a d : Nat) (mem : Nat → Nat → Int32) (P : xPr) (Q : xQr) (u : Int32) (v3 v4 : Value), Cl d none 176 P Q → RM mem r rc n tp a (-1) g → EnvM mem env → a ≤ lim → deep ≤ 4 → 8 * (lim - a) + 4 ≤ f → 5 * (4 - deep) + (lim - a) + 5 ≤ d → RdK Q r lim mem (rd g f 3 deep a) (fun v => ∀ st, rrun env (u :: st) (rd g f 3 deep a).2.2 = v :: st) → P 6 [.ref 108, .int (nI deep), .int u, v3, v4] [] (0, 0) (LAY, RFu r, mem)
theorem RM_at {mem : Nat → Nat → Int32} {a : Nat} {w : Int32} (h : RM mem r rc n tp a w g) : mem 108 24 = nI a := h.2.2.2.2.2.2.1
theorem RM_w {mem : Nat → Nat → Int32} {a : Nat} {w : Int32} (h : RM mem r rc n tp a w g) : mem 108 25 = w := h.2.2.2.2.2.2.2.2.1
theorem RM_go {mem m' : Nat → Nat → Int32} {a a' : Nat} {w w' : Int32} (h : RM mem r rc n tp a w g) (hA : AgM [] [24, 25] mem m') (e1 : m' 108 24 = nI a') (e2 : a' < 10000) (e3 : m' 108 25 = w') : RM m' r rc n tp a' w' g := RM_mv h hA (by simp) (by simp) (by simp) e1 e2 e3
theorem nI_nm {a : Nat} (h : a < 2147483648) : nI a ≠ -1 := fun q => by
  have : nI a < 0 := by rw [q]; decide
  exact nI_pos h this
theorem f_dead {a : Nat} (h : a < 2147483648) : b01 (nI a = -1) = 0 := if_neg (nI_nm h)
theorem m_T {f : Nat} (hg : ∀ i, lim ≤ i → g i = 256) (hl : lim < 1000) (iT : mT r rc n tp g env lim f) (iH : mH r rc n tp g env lim f) : mT r rc n tp g env lim (f + 1) := by
  intro deep a D mem Q hM hE ha hdp hf hD K
  have hlt : ∀ {i : Nat}, i ≤ lim → g i < 256 → i + 1 ≤ lim := fun {i} h1 h2 => Decidable.by_contra fun z => by have := hg i (by omega); omega
  have g7 := RM_at hM
  have g9 := RM_w hM
  have hga := RM_le hM a
  obtain ⟨d, rfl⟩ : ∃ d, D = d + 4 := ⟨D - 4, by omega⟩
  rw [rd_0] at K
  refine c_in rfl rfl rfl fun P hP => b178_0 hP (c171 hM (by decide) (fun h45 => Bk.i ?_) (fun _ h45 => Bk.i ?_))
  · replace h45 : g a ≠ 45 := fun q => h45 ⟨rfl, q⟩
    rw [if_neg h45] at K
    have k78 : ¬ (g a = 40 ∧ deep < 4) → ∀ v3, P 78 [.ref 108, .int (nI deep), .int (hr (g a)), v3] [] (0, 0) (LAY, RFu r, mem) := fun h40 v3 => by
      rw [if_neg h40] at K
      refine b178_78 hP (c158 (Bk.i (b178_86 hP (fun hd => ?_) (fun hd => b178_89 hP ?_))))
      · have hnd : ¬ (48 ≤ g a ∧ g a ≤ 57) := fun q => by
          unfold b01 at hd; rw [if_pos ((hr_in hga).mpr q)] at hd; exact absurd hd (by decide)
        rw [if_neg hnd] at K
        have k153 : isLet (g a) = true → P 153 [.ref 108, .int (nI deep), .int (hr (g a)), v3] [] (0, 0) (LAY, RFu r, mem) := fun hlet => by
          rw [if_pos hlet] at K
          have hlx := isLet_lt hlet
          have ehr : hr (g a) = nI (g a) := by unfold hr sb; rw [if_pos (by omega), if_pos (by omega)]
          have fin : ∀ v, v = env (nI (g a)) → Q (some (.int v)) (LAY, RFu r, xu2 mem 108 24 (nI (a + 1))) := fun v e => K _ v (AgM.rfl'.us (by simp)) (fun _ => ⟨by rw [xu2_eq, upd_at], by rw [xu2_eq, upd_ne (by decide), g9], fun st => by rw [e]; exact rst_let (by omega)⟩) (fun z => by cases z)
          refine b178_153 hP (fun h28 => ?_) (fun h28 => b178_171 hP (b178_184 hP ?_))
          · rw [g7, nIs] at h28 ⊢
            rw [xu2_eq, upd_ne (by decide)] at h28
            obtain h | ⟨i, c, hi, q1, q2, q3, q4, q5, q6, q7, q8⟩ := hE
            · exact absurd h.1 h28
            · refine b178_175 hP ?_
              have e28 : xu2 mem 108 24 (nI (a + 1)) 108 28 = nI i := by rw [xu2_eq, upd_ne (by decide), q1]
              rw [e28, ehr]
              refine c179 (c := c) hi (by rw [xu2_ne (by decide)]; exact q2) (by rw [xu2_ne (by decide)]; exact q3) (by rw [xu2_ne (by decide)]; exact q4) (by rw [xu2_ne (by decide)]; exact q5) (by rw [xu2_ne (by decide)]; exact q6) (by rw [xu2_ne (by decide)]; exact q7) (Bk.i (b178_184 hP (fin _ ?_)))
              rw [xu2_ne (by decide), xu2_ne (by decide), q8]
          · rw [g7, nIs] at h28 ⊢
            rw [xu2_eq, upd_ne (by decide)] at h28
            refine fin _ ?_
            obtain h | ⟨i, c, hi, q1, -⟩ := hE
            · rw [h.2]; rfl
            · rw [q1] at h28; exact absurd h28 (nI_nm (by omega))
        have yes : ∀ c, hr (g a) = nI c → c < 128 → isLet c = true → P 153 [.ref 108, .int (nI deep), .int (hr (g a)), v3] [] (0, 0) (LAY, RFu r, mem) := fun c h hc hlc => k153 (by rw [(hr_eq hc).mp h]; exact hlc)
        refine b178_95 hP (fun h => yes _ h (by decide) (by decide)) (fun h1 => b178_101 hP (fun h => yes _ h (by decide) (by decide)) (fun h2 => b178_107 hP (fun h => yes _ h (by decide) (by decide)) (fun h3 => b178_113 hP (fun h => yes _ h (by decide) (by decide)) (fun h4 => b178_119 hP (fun h => yes _ h (by decide) (by decide)) (fun h5 => b178_125 hP (fun h => yes _ h (by decide) (by decide)) (fun h6 => b178_131 hP (fun h => yes _ h (by decide) (by decide)) (fun h7 => b178_137 hP (fun h => yes _ h (by decide) (by decide)) (fun h8 => b178_143 hP (c170 (Bk.v (b178_151 hP ?_))))))))))) 
        have hnl : ¬ isLet (g a) = true := fun z => by
          simp only [isLet, Bool.or_eq_true, decide_eq_true_eq] at z
          rcases z with ((((((z | z) | z) | z) | z) | z) | z) | z
          · exact h1 ((hr_eq (by decide)).mpr z)
          · exact h2 ((hr_eq (by decide)).mpr z)
          · exact h3 ((hr_eq (by decide)).mpr z)
          · exact h4 ((hr_eq (by decide)).mpr z)
          · exact h5 ((hr_eq (by decide)).mpr z)
          · exact h6 ((hr_eq (by decide)).mpr z)
          · exact h7 ((hr_eq (by decide)).mpr z)
          · exact h8 ((hr_eq (by decide)).mpr z)
        rw [if_neg hnl] at K
        rw [if_pos g9, g7]
        exact K _ _ (AgM.rfl'.us (by simp)) (fun z => by cases z) (fun _ => ⟨by rw [xu2_eq, upd_at], a, ha, by rw [xu2_eq, upd_ne (by decide), g7]⟩)
      · have q : 48 ≤ g a ∧ g a ≤ 57 := Decidable.by_contra fun q => hd (by unfold b01; rw [if_neg (fun z => q ((hr_in hga).mp z))])
        rw [if_pos q] at K
        refine c172 hM (by omega) (by decide) fun m' hA e1 e2 => Bk.i (b178_94 hP ?_)
        have h1 := numF_le (g := g) (d := 3) (a := a) (v := 0)
        have h3 : a < (numF g 3 a 0).1 := by
          rw [numF_s, if_pos q]
          exact (numF_le (g := g) (d := 2) (a := a + 1)).1
        rw [if_neg (by omega)] at e2
        exact K m' _ hA (fun _ => ⟨e1, e2, fun st => rst_num (Nat.lt_of_lt_of_le h1.2.2 (by decide))⟩) (fun z => by cases z)
    refine b178_6 hP (fun _ => b178_16 hP (c169 (Bk.i (b178_20 hP (fun _ => b178_25 hP (c168 hM (Bk.i (b178_29 hP (fun h40 => k78 (fun q => h40 ((hr_eq (by decide)).mpr q.1)) _) (fun h40 => b178_36 hP (fun h4 => k78 (fun q => ?_) _) (fun h4 => b178_41 hP ?_)))))) (fun z => ?_))))) (fun z => absurd rfl z)
    · exact absurd h4 (nI_ge q.2 (by decide))
    · have h40' : g a = 40 := (hr_eq (by decide)).mp h40
      have hd4 : deep < 4 := Nat.not_le.mp fun q => h4 (nI_le q (by omega))
      rw [if_pos ⟨h40', hd4⟩] at K
      have hal := hlt ha (by omega)
      rw [g7, nIs, nIs]
      have hM1 := RM_go hM (m' := xu2 mem 108 24 (nI (a + 1))) (a' := a + 1) (w' := -1) (AgM.rfl'.us (by simp)) (by rw [xu2_eq, upd_at]) (by omega) (by rw [xu2_eq, upd_ne (by decide), g9])
      have hA1 : AgM [] [24, 25] mem (xu2 mem 108 24 (nI (a + 1))) := AgM.rfl'.us (by simp)
      have hle := rd_le hg f 5 (deep + 1) (a + 1) hal
      refine iH (deep + 1) (a + 1) (d + 3) _ _ hM1 (EnvM_mv hE hA1) hal (by omega) (by omega) (by omega) ?_
      intro m2 v hA2 ok1 ok2
      refine Bk.i (b178_58 hP ?_)
      by_cases hok : (rd g f 5 (deep + 1) (a + 1)).2.1 = true
      · rw [if_pos hok] at K
        obtain ⟨e1, e2, e3⟩ := ok1 hok
        have hM2 := RM_go hM1 hA2 e1 (by omega) e2
        refine c171 hM2 (by decide) (fun h41 => Bk.i (b178_65 hP (fun z => absurd rfl z) (fun _ => b178_68 hP (c170 (Bk.v (b178_76 hP ?_)))))) (fun _ h41 => Bk.i (b178_65 hP (fun _ => b178_76 hP ?_) (fun z => absurd z (by decide))))
        · rw [if_neg (fun q => h41 ⟨rfl, q⟩)] at K
          rw [if_pos e2, e1]
          exact K _ _ ((hA1.trans hA2).us (by simp)) (fun z => by cases z) (fun _ => ⟨by rw [xu2_eq, upd_at], _, hle.2.1, by rw [xu2_eq, upd_ne (by decide), e1]⟩)
        · rw [if_pos h41] at K
          exact K _ _ ((hA1.trans hA2).us (by simp)) (fun _ => ⟨by rw [xu2_eq, upd_at], by rw [xu2_eq, upd_ne (by decide), e2], e3⟩) (fun z => by cases z)
      · rw [if_neg hok] at K
        obtain ⟨e1, b, hb, e2⟩ := ok2 (bfalse hok)
        have hM2 := RM_go hM1 hA2 e2 (by omega) e1
        refine c171 hM2 (by decide) (fun _ => Bk.i (b178_65 hP (fun z => absurd rfl z) (fun _ => b178_68 hP (c170 (Bk.v (b178_76 hP ?_)))))) (fun z _ => absurd z (nI_nm (by omega)))
        rw [if_neg (by rw [e1]; exact nI_nm (by omega))]
        exact K _ _ (hA1.trans hA2) (fun z => by cases z) (fun _ => ⟨e1, b, hb, e2⟩)
    · unfold b01 at z; rw [if_pos g9] at z; exact absurd z (by decide)
  · rw [if_pos h45] at K
    have hal := hlt ha (by omega)
    have hA1 : AgM [] [24, 25] mem (xu2 mem 108 24 (nI (a + 1))) := AgM.rfl'.us (by simp)
    have hM1 := RM_go hM (m' := xu2 mem 108 24 (nI (a + 1))) (a' := a + 1) (w' := -1) hA1 (by rw [xu2_eq, upd_at]) (by omega) (by rw [xu2_eq, upd_ne (by decide), g9])
    refine b178_6 hP (fun z => absurd z (by decide)) (fun _ => b178_9 hP (iT deep (a + 1) (d + 3) _ _ hM1 (EnvM_mv hE hA1) hal hdp (by omega) (by omega) ?_))
    intro m2 v hA2 ok1 ok2
    refine Bk.i (b178_14 hP (K _ _ (hA1.trans hA2) (fun z => ?_) ok2))
    obtain ⟨e1, e2, e3⟩ := ok1 z
    refine ⟨e1, e2, fun st => ?_⟩
    rw [rrun_app, e3 st]
    exact rst_neg (env := env)
end C
