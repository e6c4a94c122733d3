/-! the reference reads a rule as rd does, and works out its value as it goes -/
def EnvM (mem : Nat → Nat → Int32) (env : Int32 → Int32) : Prop := (mem 108 28 = -1 ∧ env = fun _ => 0) ∨ ∃ i c, i < 8 ∧ mem 108 28 = nI i ∧ (mem 111 i = 0 ∨ mem 111 i = 1) ∧ c (16 + i) = mem 116 i ∧ c (24 + i) = mem 117 i ∧ c (32 + i) = mem 118 i ∧ c (40 + i) = mem 119 i ∧ c (48 + i) = mem 120 i ∧ env = envF (mem 110) (mem 111) c i
theorem EnvM_mv {mem m' : Nat → Nat → Int32} {env : Int32 → Int32} (h : EnvM mem env) (hA : AgM [] [24, 25] mem m') : EnvM m' env := by
  unfold EnvM at h ⊢
  rw [hA.2 28 (by simp), hA.1 110 (by simp) (by decide), hA.1 111 (by simp) (by decide), hA.1 116 (by simp) (by decide), hA.1 117 (by simp) (by decide), hA.1 118 (by simp) (by decide), hA.1 119 (by simp) (by decide), hA.1 120 (by simp) (by decide)]
  exact h
def RdK (Q : xQr) (r lim : Nat) (mem : Nat → Nat → Int32) (p : Nat × Bool × List Int32) (ok : Int32 → Prop) : Prop := ∀ mem' v, AgM [] [24, 25] mem mem' → (p.2.1 = true → mem' 108 24 = nI p.1 ∧ mem' 108 25 = -1 ∧ ok v) → (p.2.1 = false → mem' 108 25 = nI p.1 ∧ ∃ b, b ≤ lim ∧ mem' 108 24 = nI b) → Q (some (.int v)) (LAY, RFu r, mem')
theorem rrun_app {env : Int32 → Int32} {st xs ys : List Int32} : rrun env st (xs ++ ys) = rrun env (rrun env st xs) ys := by unfold rrun; rw [List.foldl_append]
theorem rst_num {env : Int32 → Int32} {st : List Int32} {v : Nat} (h : v < 1000) : rst env st (nI v) = nI v :: st := by
  unfold rst
  rw [if_pos (nI_lt (by omega) (by decide)), if_pos (nI_lt h (by decide))]
theorem rst_let {env : Int32 → Int32} {st : List Int32} {x : Nat} (h : x < 1000) : rst env st (nI (1000 + x)) = env (nI x) :: st := by
  unfold rst
  rw [if_pos (nI_lt (by omega) (by decide)), if_neg (nI_nlt (by omega) (by omega)), nI_sub (by omega), show 1000 + x - 1000 = x by omega]
theorem rst_neg {env : Int32 → Int32} {st : List Int32} {v : Int32} : rst env (v :: st) (nI 3000) = (-v) :: st := by
  unfold rst
  rw [if_neg (by decide), if_pos rfl]
theorem rst_jn {env : Int32 → Int32} {st : List Int32} {u v : Int32} {x : Nat} (h : x < 1000) : rst env (v :: u :: st) (nI (2000 + x)) = jn (nI x) u v :: st := by
  unfold rst
  rw [if_neg (nI_nlt (by omega) (by omega)), if_neg (fun q => by have := nI_inj q (by omega) (by decide); omega), nI_sub (by omega), show 2000 + x - 2000 = x by omega]
theorem jn_43 {u v : Int32} : jn (nI 43) u v = u + v := by unfold jn; rw [if_pos (by decide)]
theorem jn_45 {u v : Int32} : jn (nI 45) u v = u - v := by unfold jn; rw [if_neg (by decide), if_pos (by decide)]
theorem jn_42 {u v : Int32} : jn (nI 42) u v = u * v := by unfold jn; rw [if_neg (by decide), if_neg (by decide), if_pos (by decide)]
theorem jn_47 {u v : Int32} : jn (nI 47) u v = if v = 0 then 0 else u / v := by unfold jn; rw [if_neg (by decide), if_neg (by decide), if_neg (by decide), if_pos (by decide)]
theorem jn_60 {u v : Int32} : jn (nI 60) u v = b01 (u < v) := by unfold jn; rw [if_neg (by decide), if_neg (by decide), if_neg (by decide), if_neg (by decide), if_pos (by decide)]
theorem jn_62 {u v : Int32} : jn (nI 62) u v = b01 (v < u) := by unfold jn; rw [if_neg (by decide), if_neg (by decide), if_neg (by decide), if_neg (by decide), if_neg (by decide), if_pos (by decide)]
theorem jn_61 {u v : Int32} : jn (nI 61) u v = b01 (u = v) := by unfold jn; rw [if_neg (by decide), if_neg (by decide), if_neg (by decide), if_neg (by decide), if_neg (by decide), if_neg (by decide)]
section C
variable {d r : Nat} {mem : Nat → Nat → Int32} {Q : xQr} {rc n tp a : Nat} {w : Int32} {g : Nat → Nat}
theorem c179 {i : Nat} {l : Int32} {c : Nat → Int32} (hi : i < 8) (hk : mem 111 i = 0 ∨ mem 111 i = 1) (e1 : c (16 + i) = mem 116 i) (e2 : c (24 + i) = mem 117 i) (e3 : c (32 + i) = mem 118 i) (e4 : c (40 + i) = mem 119 i) (e5 : c (48 + i) = mem 120 i)
    (k : Q (some (.int (envF (mem 110) (mem 111) c i l))) (LAY, RFu r, mem)) : xCall (d + 1) 179 [.ref 108, .int l, .int (nI i)] (LAY, RFu r, mem) Q := by
  refine c_in rfl rfl rfl fun P hP => ?_
  have kd : l.toInt ≠ 97 → l.toInt ≠ 98 → l.toInt ≠ 103 → l.toInt ≠ 105 → l.toInt ≠ 107 → l.toInt ≠ 115 → l.toInt ≠ 116 → P 148 [.ref 108, .int l, .int (nI i)] [] (0, 0) (LAY, RFu r, mem) := fun h1 h2 h3 h4 h5 h6 h7 => by
    refine b179_148 hP (vpn hi (by decide)) ?_
    unfold envF at k
    rw [if_neg h4, if_neg h3, if_neg h5, if_neg h6, if_neg h7, if_neg h1, if_neg h2, e5] at k
    rw [nIc (by omega)]
    exact k
  have kx : ∀ z : Int, l.toInt = z → z ≠ 97 ∧ z ≠ 98 ∧ z ≠ 103 ∧ z ≠ 105 ∧ z ≠ 107 ∧ z ≠ 115 ∧ z ≠ 116 → P 148 [.ref 108, .int l, .int (nI i)] [] (0, 0) (LAY, RFu r, mem) := fun z h ⟨h1, h2, h3, h4, h5, h6, h7⟩ => by
    rw [← h] at h1 h2 h3 h4 h5 h6 h7
    exact kd h1 h2 h3 h4 h5 h6 h7
  refine b179_0 hP (fun h => kd (by omega) (by omega) (by omega) (by omega) (by omega) (by omega) (by omega)) (fun h => ?_) (fun h => ?_) (fun h => kx _ h (by decide)) (fun h => kx _ h (by decide)) (fun h => kx _ h (by decide)) (fun h => kx _ h (by decide)) (fun h => ?_) (fun h => kx _ h (by decide)) (fun h => ?_) (fun h => kx _ h (by decide)) (fun h => ?_) (fun h => kx _ h (by decide)) (fun h => kx _ h (by decide)) (fun h => kx _ h (by decide)) (fun h => kx _ h (by decide)) (fun h => kx _ h (by decide)) (fun h => kx _ h (by decide)) (fun h => kx _ h (by decide)) (fun h => ?_) (fun h => ?_)
  all_goals unfold envF at k; rw [h] at k
  · exact b179_134 hP (vpn hi (by decide)) (by rw [nIc (by omega), ← e3]; exact k)
  · exact b179_141 hP (vpn hi (by decide)) (by rw [nIc (by omega), ← e4]; exact k)
  · exact b179_98 hP (vpn hi (by decide)) (by rw [nIc (by omega)]; exact k)
  · exact b179_96 hP k
  · replace k : Q (some (.int (mem 111 i))) (LAY, RFu r, mem) := k
    refine b179_105 hP (vpn hi (by decide)) (fun h => b179_118 hP (b179_119 hP ?_)) (fun h => b179_114 hP (b179_119 hP ?_))
    · rw [nIc (by omega)] at h; rw [h] at k; exact k
    · rw [nIc (by omega)] at h; rw [hk.resolve_left h] at k; exact k
  · exact b179_120 hP (vpn hi (by decide)) (by rw [nIc (by omega), ← e1]; exact k)
  · exact b179_127 hP (vpn hi (by decide)) (by rw [nIc (by omega), ← e2]; exact k)
end C
