section C
variable {r : Nat} {rc n tp : Nat} {g : Nat → Nat} {env : Int32 → Int32} {lim : Nat}
theorem RdK_mono {Q : xQr} {mem : Nat → Nat → Int32} {p : Nat × Bool × List Int32} {ok ok' : Int32 → Prop} (K : RdK Q r lim mem p ok) (h : ∀ v, ok' v → ok v) : RdK Q r lim mem p ok' := fun mem' v h1 h2 h3 => K mem' v h1 (fun z => ⟨(h2 z).1, (h2 z).2.1, h v (h2 z).2.2⟩) h3
theorem RdK_back {Q : xQr} {mem m2 : Nat → Nat → Int32} {p p2 : Nat × Bool × List Int32} {ok ok2 : Int32 → Prop} (K : RdK Q r lim mem p ok) (hA : AgM [] [24, 25] mem m2) (e1 : p2.1 = p.1) (e2 : p2.2.1 = p.2.1) (h : ∀ v, ok2 v → ok v) : RdK Q r lim m2 p2 ok2 := fun mem' v h1 h2 h3 => K mem' v (hA.trans h1) (fun z => by rw [← e1]; exact ⟨(h2 (e2.trans z)).1, (h2 (e2.trans z)).2.1, h v (h2 (e2.trans z)).2.2⟩) (fun z => by rw [← e1]; exact h3 (e2.trans z))
theorem pl_dead {d : Nat} {mem : Nat → Nat → Int32} {P : xPr} {Q : xQr} {x1 u : Int32} {v3 v4 : Value} (hP : Cl (d + 1) none 177 P Q) (hw : mem 108 25 ≠ -1) (k : Q (some (.int u)) (LAY, RFu r, mem)) : P 6 [.ref 108, .int x1, .int u, v3, v4] [] (0, 0) (LAY, RFu r, mem) :=
  b177_6 hP (c169 (Bk.i (b177_10 hP (fun _ => b177_91 hP k) (fun h => absurd (show b01 (mem 108 25 = -1) = 0 from if_neg hw) h))))
theorem sl_dead {d : Nat} {mem : Nat → Nat → Int32} {P : xPr} {Q : xQr} {x1 u : Int32} {v3 v4 : Value} (hP : Cl (d + 1) none 176 P Q) (hw : mem 108 25 ≠ -1) (k : Q (some (.int u)) (LAY, RFu r, mem)) : P 6 [.ref 108, .int x1, .int u, v3, v4] [] (0, 0) (LAY, RFu r, mem) :=
  b176_6 hP (c169 (Bk.i (b176_10 hP (fun _ => b176_82 hP k) (fun h => absurd (show b01 (mem 108 25 = -1) = 0 from if_neg hw) h))))
theorem m_PL {f : Nat} (hg : ∀ i, lim ≤ i → g i = 256) (hl : lim < 1000) (iT : mT r rc n tp g env lim f) (iPL : mPL r rc n tp g env lim f) : mPL r rc n tp g env lim (f + 1) := by
  intro deep a d mem P Q u v3 v4 hP hM hE ha hdp hf hd K
  have hlt : ∀ {i : Nat}, i ≤ lim → g i < 256 → i + 1 ≤ lim := fun {i} h1 h2 => Decidable.by_contra fun z => by have := hg i (by omega); omega
  have g7 := RM_at hM
  have g9 := RM_w hM
  obtain ⟨d, rfl⟩ : ∃ d', d = d' + 1 := ⟨d - 1, by omega⟩
  rw [rd_1] at K
  have stop : ¬ (g a = 42 ∨ g a = 47) → P 91 [.ref 108, .int (nI deep), .int u, v3, v4] [] (0, 0) (LAY, RFu r, mem) := fun hc => by
    rw [if_neg hc] at K
    exact b177_91 hP (K mem u AgM.rfl' (fun _ => ⟨g7, g9, fun st => rfl⟩) (fun z => by cases z))
  have go : (g a = 42 ∨ g a = 47) → P 31 [.ref 108, .int (nI deep), .int u, v3, v4] [] (0, 0) (LAY, RFu r, mem) := fun hc => by
    rw [if_pos hc] at K
    have hal := hlt ha (by omega)
    have hA1 : AgM [] [24, 25] mem (xu2 mem 108 24 (nI (a + 1))) := AgM.rfl'.us (by simp)
    have hM1 := RM_go hM (m' := xu2 mem 108 24 (nI (a + 1))) (a' := a + 1) (w' := -1) hA1 (by rw [xu2_eq, upd_at]) (by omega) (by rw [xu2_eq, upd_ne (by decide), g9])
    have hle := rd_le hg f 0 deep (a + 1) hal
    -- behind the other thing: t tells whether it is *
    have fin : ∀ t v4', (g a = 42 → t = nI 1) → (g a = 47 → t = nI 0) → P 45 [.ref 108, .int (nI deep), .int u, v3, v4'] [.int t] (0, 0) (LAY, RFu r, mem) := fun t v4' t1 t2 => by
      refine b177_45 hP ?_
      rw [g7, nIs]
      refine iT deep (a + 1) (d + 1) _ _ hM1 (EnvM_mv hE hA1) hal hdp (by omega) (by omega) ?_
      intro m2 v hA2 ok1 ok2
      refine Bk.i ?_
      by_cases hok : (rd g f 0 deep (a + 1)).2.1 = true
      · rw [if_pos hok] at K
        obtain ⟨e1, e2, e3⟩ := ok1 hok
        have hA3 := hA1.trans hA2
        have hM2 := RM_go hM hA3 e1 (by omega) e2
        have h4 := hle.2.2 hok
        have nxt : ∀ u', u' = jn (nI (g a)) u v → ∀ v3 v4, P 6 [.ref 108, .int (nI deep), .int u', v3, v4] [] (0, 0) (LAY, RFu r, m2) := fun u' hu v3 v4 => by
          refine iPL deep _ (d + 1) m2 P Q u' v3 v4 hP hM2 (EnvM_mv hE hA3) hle.2.1 hdp (by omega) (by omega) ?_
          refine RdK_back K hA3 rfl rfl (fun w hw st => ?_)
          rw [rrun_app, e3 (u :: st)]
          show rrun env (rst env (v :: u :: st) (nI (2000 + g a))) _ = _
          rw [rst_jn (by omega), ← hu]
          exact hw st
        refine b177_61 hP (fun z => ?_) (fun z => ?_)
        · have hga : g a = 47 := hc.resolve_left fun q => by rw [t1 q] at z; exact absurd z (by decide)
          rw [hga, jn_47] at nxt
          refine b177_74 hP (fun z2 => b177_83 hP z2 (b177_87 hP (nxt _ ?_ _ _))) (fun z2 => b177_79 hP (b177_87 hP (nxt _ ?_ _ _)))
          · rw [if_neg z2]
          · rw [if_pos z2]; rfl
        · have hga : g a = 42 := hc.resolve_right fun q => by rw [t2 q] at z; exact absurd rfl z
          rw [hga, jn_42] at nxt
          exact b177_67 hP (b177_87 hP (nxt _ rfl _ _))
      · rw [if_neg hok] at K
        obtain ⟨e1, b, hb, e2⟩ := ok2 (bfalse hok)
        have hw : m2 108 25 ≠ -1 := by rw [e1]; exact nI_nm (by omega)
        have nxt : ∀ u' v3 v4, P 6 [.ref 108, .int (nI deep), .int u', v3, v4] [] (0, 0) (LAY, RFu r, m2) := fun u' v3 v4 => pl_dead hP hw (K _ _ (hA1.trans hA2) (fun z => by cases z) (fun _ => ⟨e1, b, hb, e2⟩))
        refine b177_61 hP (fun z => ?_) (fun z => ?_)
        · exact b177_74 hP (fun z2 => b177_83 hP z2 (b177_87 hP (nxt _ _ _))) (fun z2 => b177_79 hP (b177_87 hP (nxt _ _ _)))
        · exact b177_67 hP (b177_87 hP (nxt _ _ _))
    refine b177_31 hP (c168 hM (Bk.i (b177_35 hP (fun z => b177_44 hP (fin _ _ (fun q => ?_) (fun _ => rfl))) (fun z => b177_40 hP (fin _ _ (fun _ => rfl) (fun q => ?_))))))
    · exact absurd ((hr_eq (by decide)).mpr q) z
    · have := (hr_eq (by decide)).mp z
      omega
  refine b177_6 hP (c169 (Bk.i (b177_10 hP (fun z => ?_) (fun _ => b177_13 hP (c168 hM (Bk.i (b177_17 hP (fun z => go (Or.inl ((hr_eq (by decide)).mp z))) (fun z => b177_22 hP (c168 hM (Bk.i (b177_26 hP (fun z2 => stop ?_) (fun z2 => go (Or.inr ((hr_eq (by decide)).mp z2)))))))))))))) 
  · unfold b01 at z; rw [if_pos g9] at z; exact absurd z (by decide)
  · intro q
    rcases q with q | q
    · exact z ((hr_eq (by decide)).mpr q)
    · exact z2 ((hr_eq (by decide)).mpr q)
theorem m_P {f : Nat} (hg : ∀ i, lim ≤ i → g i = 256) (hl : lim < 1000) (iT : mT r rc n tp g env lim f) (iPL : mPL r rc n tp g env lim f) : mP r rc n tp g env lim (f + 1) := by
  intro deep a D mem Q hM hE ha hdp hf hD K
  obtain ⟨d, rfl⟩ : ∃ d, D = d + 2 := ⟨D - 2, by omega⟩
  rw [rd_2] at K
  have hle := rd_le hg f 0 deep a ha
  refine c_in rfl rfl rfl fun P hP => b177_0 hP (iT deep a (d + 1) mem _ hM hE ha hdp (by omega) (by omega) ?_)
  intro m2 v hA2 ok1 ok2
  refine Bk.i (b177_5 hP ?_)
  by_cases hok : (rd g f 0 deep a).2.1 = true
  · rw [if_pos hok] at K
    obtain ⟨e1, e2, e3⟩ := ok1 hok
    have hM2 := RM_go hM hA2 e1 (by omega) e2
    have h4 := hle.2.2 hok
    refine iPL deep _ (d + 1) m2 P Q v _ _ hP hM2 (EnvM_mv hE hA2) hle.2.1 hdp (by omega) (by omega) ?_
    refine RdK_back K hA2 rfl rfl (fun w hw st => ?_)
    rw [rrun_app, e3 st]
    exact hw st
  · rw [if_neg hok] at K
    obtain ⟨e1, b, hb, e2⟩ := ok2 (bfalse hok)
    exact pl_dead hP (by rw [e1]; exact nI_nm (by omega)) (K _ _ hA2 (fun z => by cases z) (fun _ => ⟨e1, b, hb, e2⟩))
theorem m_SL {f : Nat} (hg : ∀ i, lim ≤ i → g i = 256) (hl : lim < 1000) (iP : mP r rc n tp g env lim f) (iSL : mSL r rc n tp g env lim f) : mSL r rc n tp g env lim (f + 1) := by
  intro deep a d mem P Q u v3 v4 hP hM hE ha hdp hf hd K
  have hlt : ∀ {i : Nat}, i ≤ lim → g i < 256 → i + 1 ≤ lim := fun {i} h1 h2 => Decidable.by_contra fun z => by have := hg i (by omega); omega
  have g7 := RM_at hM
  have g9 := RM_w hM
  obtain ⟨d, rfl⟩ : ∃ d', d = d' + 1 := ⟨d - 1, by omega⟩
  rw [rd_3] at K
  have stop : ¬ (g a = 43 ∨ g a = 45) → P 82 [.ref 108, .int (nI deep), .int u, v3, v4] [] (0, 0) (LAY, RFu r, mem) := fun hc => by
    rw [if_neg hc] at K
    exact b176_82 hP (K mem u AgM.rfl' (fun _ => ⟨g7, g9, fun st => rfl⟩) (fun z => by cases z))
  have go : (g a = 43 ∨ g a = 45) → P 31 [.ref 108, .int (nI deep), .int u, v3, v4] [] (0, 0) (LAY, RFu r, mem) := fun hc => by
    rw [if_pos hc] at K
    have hal := hlt ha (by omega)
    have hA1 : AgM [] [24, 25] mem (xu2 mem 108 24 (nI (a + 1))) := AgM.rfl'.us (by simp)
    have hM1 := RM_go hM (m' := xu2 mem 108 24 (nI (a + 1))) (a' := a + 1) (w' := -1) hA1 (by rw [xu2_eq, upd_at]) (by omega) (by rw [xu2_eq, upd_ne (by decide), g9])
    have hle := rd_le hg f 2 deep (a + 1) hal
    have fin : ∀ t v4', (g a = 43 → t = nI 1) → (g a = 45 → t = nI 0) → P 45 [.ref 108, .int (nI deep), .int u, v3, v4'] [.int t] (0, 0) (LAY, RFu r, mem) := fun t v4' t1 t2 => by
      refine b176_45 hP ?_
      rw [g7, nIs]
      refine iP deep (a + 1) (d + 1) _ _ hM1 (EnvM_mv hE hA1) hal hdp (by omega) (by omega) ?_
      intro m2 v hA2 ok1 ok2
      refine Bk.i ?_
      by_cases hok : (rd g f 2 deep (a + 1)).2.1 = true
      · rw [if_pos hok] at K
        obtain ⟨e1, e2, e3⟩ := ok1 hok
        have hA3 := hA1.trans hA2
        have hM2 := RM_go hM hA3 e1 (by omega) e2
        have h4 := hle.2.2 hok
        have nxt : ∀ u', u' = jn (nI (g a)) u v → ∀ v3 v4, P 6 [.ref 108, .int (nI deep), .int u', v3, v4] [] (0, 0) (LAY, RFu r, m2) := fun u' hu v3 v4 => by
          refine iSL deep _ (d + 1) m2 P Q u' v3 v4 hP hM2 (EnvM_mv hE hA3) hle.2.1 hdp (by omega) (by omega) ?_
          refine RdK_back K hA3 rfl rfl (fun w hw st => ?_)
          rw [rrun_app, e3 (u :: st)]
          show rrun env (rst env (v :: u :: st) (nI (2000 + g a))) _ = _
          rw [rst_jn (by omega), ← hu]
          exact hw st
        refine b176_61 hP (fun z => ?_) (fun z => ?_)
        · have hga : g a = 45 := hc.resolve_left fun q => by rw [t1 q] at z; exact absurd z (by decide)
          rw [hga, jn_45] at nxt
          exact b176_74 hP (b176_78 hP (nxt _ rfl _ _))
        · have hga : g a = 43 := hc.resolve_right fun q => by rw [t2 q] at z; exact absurd rfl z
          rw [hga, jn_43] at nxt
          exact b176_67 hP (b176_78 hP (nxt _ rfl _ _))
      · rw [if_neg hok] at K
        obtain ⟨e1, b, hb, e2⟩ := ok2 (bfalse hok)
        have hw : m2 108 25 ≠ -1 := by rw [e1]; exact nI_nm (by omega)
        have nxt : ∀ u' v3 v4, P 6 [.ref 108, .int (nI deep), .int u', v3, v4] [] (0, 0) (LAY, RFu r, m2) := fun u' v3 v4 => sl_dead hP hw (K _ _ (hA1.trans hA2) (fun z => by cases z) (fun _ => ⟨e1, b, hb, e2⟩))
        exact b176_61 hP (fun z => b176_74 hP (b176_78 hP (nxt _ _ _))) (fun z => b176_67 hP (b176_78 hP (nxt _ _ _)))
    refine b176_31 hP (c168 hM (Bk.i (b176_35 hP (fun z => b176_44 hP (fin _ _ (fun q => ?_) (fun _ => rfl))) (fun z => b176_40 hP (fin _ _ (fun _ => rfl) (fun q => ?_))))))
    · exact absurd ((hr_eq (by decide)).mpr q) z
    · have := (hr_eq (by decide)).mp z
      omega
  refine b176_6 hP (c169 (Bk.i (b176_10 hP (fun z => ?_) (fun _ => b176_13 hP (c168 hM (Bk.i (b176_17 hP (fun z => go (Or.inl ((hr_eq (by decide)).mp z))) (fun z => b176_22 hP (c168 hM (Bk.i (b176_26 hP (fun z2 => stop ?_) (fun z2 => go (Or.inr ((hr_eq (by decide)).mp z2)))))))))))))) 
  · unfold b01 at z; rw [if_pos g9] at z; exact absurd z (by decide)
  · intro q
    rcases q with q | q
    · exact z ((hr_eq (by decide)).mpr q)
    · exact z2 ((hr_eq (by decide)).mpr q)
theorem m_S {f : Nat} (hg : ∀ i, lim ≤ i → g i = 256) (hl : lim < 1000) (iP : mP r rc n tp g env lim f) (iSL : mSL r rc n tp g env lim f) : mS r rc n tp g env lim (f + 1) := by
  intro deep a D mem Q hM hE ha hdp hf hD K
  obtain ⟨d, rfl⟩ : ∃ d, D = d + 2 := ⟨D - 2, by omega⟩
  rw [rd_4] at K
  have hle := rd_le hg f 2 deep a ha
  refine c_in rfl rfl rfl fun P hP => b176_0 hP (iP deep a (d + 1) mem _ hM hE ha hdp (by omega) (by omega) ?_)
  intro m2 v hA2 ok1 ok2
  refine Bk.i (b176_5 hP ?_)
  by_cases hok : (rd g f 2 deep a).2.1 = true
  · rw [if_pos hok] at K
    obtain ⟨e1, e2, e3⟩ := ok1 hok
    have hM2 := RM_go hM hA2 e1 (by omega) e2
    have h4 := hle.2.2 hok
    refine iSL deep _ (d + 1) m2 P Q v _ _ hP hM2 (EnvM_mv hE hA2) hle.2.1 hdp (by omega) (by omega) ?_
    refine RdK_back K hA2 rfl rfl (fun w hw st => ?_)
    rw [rrun_app, e3 st]
    exact hw st
  · rw [if_neg hok] at K
    obtain ⟨e1, b, hb, e2⟩ := ok2 (bfalse hok)
    exact sl_dead hP (by rw [e1]; exact nI_nm (by omega)) (K _ _ hA2 (fun z => by cases z) (fun _ => ⟨e1, b, hb, e2⟩))
theorem m_H {f : Nat} (hg : ∀ i, lim ≤ i → g i = 256) (hl : lim < 1000) (iS : mS r rc n tp g env lim f) : mH r rc n tp g env lim (f + 1) := by
  intro deep a D mem Q hM hE ha hdp hf hD K
  have hlt : ∀ {i : Nat}, i ≤ lim → g i < 256 → i + 1 ≤ lim := fun {i} h1 h2 => Decidable.by_contra fun z => by have := hg i (by omega); omega
  obtain ⟨d, rfl⟩ : ∃ d, D = d + 3 := ⟨D - 3, by omega⟩
  rw [show (5 : Nat) = 0 + 5 from rfl, rd_5] at K
  have hle := rd_le hg f 4 deep a ha
  refine c_in rfl rfl rfl fun P hP => b175_0 hP (iS deep a (d + 2) mem _ hM hE ha hdp (by omega) (by omega) ?_)
  intro m2 v hA2 ok1 ok2
  refine Bk.i ?_
  by_cases hok : (rd g f 4 deep a).2.1 = true
  · rw [if_pos hok] at K
    obtain ⟨e1, e2, e3⟩ := ok1 hok
    have hM2 := RM_go hM hA2 e1 (by omega) e2
    have h4 := (hle.2.2 hok).2 (by decide) (by decide)
    generalize ha1 : (rd g f 4 deep a).1 = a1 at *
    have hA3 : AgM [] [24, 25] mem (xu2 m2 108 24 (nI (a1 + 1))) := hA2.us (by simp)
    have cmp : g a1 < 256 → (g a1 = 60 ∨ g a1 = 62 ∨ g a1 = 61) → ∀ P2 : xQr, (∀ m3 v2, AgM [] [24, 25] mem m3 → (∀ z, z = jn (nI (g a1)) v v2 → Q (some (.int z)) (LAY, RFu r, m3)) → ((rd g f 4 deep (a1 + 1)).2.1 = false → ∀ z, Q (some (.int z)) (LAY, RFu r, m3)) → P2 (some (.int v2)) (LAY, RFu r, m3)) → xCall (d + 2) 176 [.ref 108, .int (nI deep)] (LAY, RFu r, xu2 m2 108 24 (nI (a1 + 1))) P2 := fun hb hc P2 k2 => by
      rw [if_pos hc] at K
      have hal := hlt hle.2.1 hb
      have hM3 := RM_go hM hA3 (a' := a1 + 1) (w' := -1) (by rw [xu2_eq, upd_at]) (by omega) (by rw [xu2_eq, upd_ne (by decide), e2])
      refine iS deep (a1 + 1) (d + 2) _ _ hM3 (EnvM_mv hE hA3) hal hdp (by omega) (by omega) ?_
      intro m3 v2 hA4 q1 q2
      refine k2 m3 v2 (hA3.trans hA4) (fun z hz => ?_) (fun hf2 z => ?_)
      · by_cases hok2 : (rd g f 4 deep (a1 + 1)).2.1 = true
        · rw [if_pos hok2] at K
          obtain ⟨f1, f2, f3⟩ := q1 hok2
          refine K _ _ (hA3.trans hA4) (fun _ => ⟨f1, f2, fun st => ?_⟩) (fun z => by cases z)
          rw [rrun_app, e3 st, rrun_app, f3 (v :: st), hz]
          show rst env (v2 :: v :: st) (nI (2000 + g a1)) = _
          rw [rst_jn (by omega)]
        · rw [if_neg hok2] at K
          exact K _ _ (hA3.trans hA4) (fun z => by cases z) (fun _ => q2 (bfalse hok2))
      · rw [if_neg (by rw [hf2]; decide)] at K
        exact K _ _ (hA3.trans hA4) (fun z => by cases z) (fun _ => q2 hf2)
    have g7 := RM_at hM2
    have no0 : ∀ {c : Nat} {X : Prop}, ¬ ((-1 : Int32) = -1 ∧ g a1 = c) → g a1 = c → X := fun h q => absurd ⟨rfl, q⟩ h
    refine b175_5 hP (c171 hM2 (by decide) (fun h60 => Bk.i (b175_12 hP (fun _ => b175_30 hP (c171 hM2 (by decide) (fun h62 => Bk.i (b175_36 hP (fun _ => b175_54 hP (c171 hM2 (by decide) (fun h61 => Bk.i (b175_60 hP (fun _ => b175_78 hP ?_) (fun z => absurd rfl z))) (fun _ h61 => Bk.i (b175_60 hP (fun z => absurd z (by decide)) (fun _ => b175_63 hP (cmp (by omega) (by omega) _ ?_)))))) (fun z => absurd rfl z))) (fun _ h62 => Bk.i (b175_36 hP (fun z => absurd z (by decide)) (fun _ => b175_39 hP (cmp (by omega) (by omega) _ ?_)))))) (fun z => absurd rfl z))) (fun _ h60 => Bk.i (b175_12 hP (fun z => absurd z (by decide)) (fun _ => b175_15 hP (cmp (by omega) (by omega) _ ?_)))))
    · rw [if_neg (fun q => by rcases q with q | q | q; exact h60 ⟨rfl, q⟩; exact h62 ⟨rfl, q⟩; exact h61 ⟨rfl, q⟩)] at K
      exact K _ _ hA2 (fun _ => ⟨by rw [ha1]; exact e1, e2, e3⟩) (fun z => by rw [hok] at z; cases z)
    · intro m3 v2 hA4 k3 _
      rw [h61, jn_61] at k3
      refine Bk.i (b175_69 hP (fun z => b175_76 hP (b175_77 hP (k3 _ ?_))) (fun z => b175_72 hP (b175_77 hP (k3 _ ?_))))
      · unfold b01; rw [if_neg z]; rfl
      · unfold b01; rw [if_pos z]; rfl
    · intro m3 v2 hA4 k3 _
      rw [h62, jn_62] at k3
      refine Bk.i (b175_45 hP (fun z => b175_52 hP (b175_53 hP (k3 _ ?_))) (fun z => b175_48 hP (b175_53 hP (k3 _ ?_))))
      · unfold b01; rw [if_neg (Int32.not_lt.mpr z)]; rfl
      · unfold b01; rw [if_pos (Int32.not_le.mp z)]; rfl
    · intro m3 v2 hA4 k3 _
      rw [h60, jn_60] at k3
      refine Bk.i (b175_21 hP (fun z => b175_28 hP (b175_29 hP (k3 _ ?_))) (fun z => b175_24 hP (b175_29 hP (k3 _ ?_))))
      · unfold b01; rw [if_neg (Int32.not_lt.mpr z)]; rfl
      · unfold b01; rw [if_pos (Int32.not_le.mp z)]; rfl
  · rw [if_neg hok] at K
    obtain ⟨e1, b, hb, e2⟩ := ok2 (bfalse hok)
    have hM2 := RM_go hM hA2 e2 (by omega) e1
    have nw : ∀ {X : Prop}, nI (rd g f 4 deep a).1 = -1 → X := fun z => absurd z (nI_nm (by omega))
    exact b175_5 hP (c171 hM2 (by decide) (fun _ => Bk.i (b175_12 hP (fun _ => b175_30 hP (c171 hM2 (by decide) (fun _ => Bk.i (b175_36 hP (fun _ => b175_54 hP (c171 hM2 (by decide) (fun _ => Bk.i (b175_60 hP (fun _ => b175_78 hP (K _ _ hA2 (fun z => by cases z) (fun _ => ⟨e1, b, hb, e2⟩))) (fun z => absurd rfl z))) (fun z _ => nw z))) (fun z => absurd rfl z))) (fun z _ => nw z))) (fun z => absurd rfl z))) (fun z _ => nw z))
theorem m_all (hg : ∀ i, lim ≤ i → g i = 256) (hl : lim < 1000) : ∀ f, mT r rc n tp g env lim f ∧ mPL r rc n tp g env lim f ∧ mP r rc n tp g env lim f ∧ mSL r rc n tp g env lim f ∧ mS r rc n tp g env lim f ∧ mH r rc n tp g env lim f
  | 0 => ⟨fun _ _ _ _ _ _ _ _ _ h => absurd h (by omega), fun _ _ _ _ _ _ _ _ _ _ _ _ _ _ h => absurd h (by omega), fun _ _ _ _ _ _ _ _ _ h => absurd h (by omega), fun _ _ _ _ _ _ _ _ _ _ _ _ _ _ h => absurd h (by omega), fun _ _ _ _ _ _ _ _ _ h => absurd h (by omega), fun _ _ _ _ _ _ _ _ _ h => absurd h (by omega)⟩
  | f + 1 => by
    obtain ⟨h1, h2, h3, h4, h5, h6⟩ := m_all hg hl f
    exact ⟨m_T hg hl h1 h6, m_PL hg hl h1 h2, m_P hg hl h1 h2, m_SL hg hl h3 h4, m_S hg hl h3 h4, m_H hg hl h5⟩
end C
