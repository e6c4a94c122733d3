/-! blocks: X4_clear, X4_add, X4_has, X4_firstLeast, X8_takeFrom, X8_pose, X8_posed, X8_posedIn, X8_stoodByAll, X8_unevenness, X8_sitTogether, X8_given, X8_pay, X8_give, X9_append, X9_cutTo, X9_clear, X9_startReading, X9_next, X9_take, X9_digit, X9_number, X9_isRead, X9_fault, J6_bitCount_0f7a4 -/
theorem d31_0 : decode (xB 31) 0 = .ok (.aload_n 0, 1) := by decide +kernel
theorem d31_1 : decode (xB 31) 1 = .ok (.iconst 0, 1) := by decide +kernel
theorem d31_2 : decode (xB 31) 2 = .ok (.putfield 15, 3) := by decide +kernel
theorem d31_5 : decode (xB 31) 5 = .ok (.return_, 1) := by decide +kernel
theorem b31_0 {d : Nat} {P : xPr} {Q : xQr} {r : Nat} {mem : Nat → Nat → Int32} (hP : Cl d none 31 P Q)
    (k : Q none (LAY, RFu r, xu2 mem 3 1 (nI 0))) : P 0 [.ref 3] [] (0, 0) (LAY, RFu r, mem) := by
  refine r_aload_n hP d31_0 rfl ?_
  refine r_iconst (v := nI 0) hP d31_1 rfl ?_
  refine r_puti hP d31_2 fr_4_15 rfl (fun q => by cases q) ly_3 ?_
  exact r_vret hP d31_5 rfl k
theorem d32_0 : decode (xB 32) 0 = .ok (.aload_n 0, 1) := by decide +kernel
theorem d32_1 : decode (xB 32) 1 = .ok (.getfield 15, 3) := by decide +kernel
theorem d32_4 : decode (xB 32) 4 = .ok (.aload_n 0, 1) := by decide +kernel
theorem d32_5 : decode (xB 32) 5 = .ok (.getfield 9, 3) := by decide +kernel
theorem d32_8 : decode (xB 32) 8 = .ok (.arraylength, 1) := by decide +kernel
theorem d32_9 : decode (xB 32) 9 = .ok (.if_icmp .ge 23, 3) := by decide +kernel
theorem d32_12 : decode (xB 32) 12 = .ok (.aload_n 0, 1) := by decide +kernel
theorem d32_13 : decode (xB 32) 13 = .ok (.getfield 9, 3) := by decide +kernel
theorem d32_16 : decode (xB 32) 16 = .ok (.aload_n 0, 1) := by decide +kernel
theorem d32_17 : decode (xB 32) 17 = .ok (.getfield 15, 3) := by decide +kernel
theorem d32_20 : decode (xB 32) 20 = .ok (.iload_n 1, 1) := by decide +kernel
theorem d32_21 : decode (xB 32) 21 = .ok (.iastore, 1) := by decide +kernel
theorem d32_22 : decode (xB 32) 22 = .ok (.aload_n 0, 1) := by decide +kernel
theorem d32_23 : decode (xB 32) 23 = .ok (.dup, 1) := by decide +kernel
theorem d32_24 : decode (xB 32) 24 = .ok (.getfield 15, 3) := by decide +kernel
theorem d32_27 : decode (xB 32) 27 = .ok (.iconst 1, 1) := by decide +kernel
theorem d32_28 : decode (xB 32) 28 = .ok (.iadd, 1) := by decide +kernel
theorem d32_29 : decode (xB 32) 29 = .ok (.putfield 15, 3) := by decide +kernel
theorem d32_32 : decode (xB 32) 32 = .ok (.return_, 1) := by decide +kernel
theorem b32_0 {d : Nat} {P : xPr} {Q : xQr} {r : Nat} {mem : Nat → Nat → Int32} (hP : Cl d none 32 P Q) {p0 : Int32}
    (kt : (nI 8) ≤ (mem 3 1) → P 32 [.ref 3, .int p0] [] (0, 0) (LAY, RFu r, mem)) (kf : ¬ (nI 8) ≤ (mem 3 1) → P 12 [.ref 3, .int p0] [] (0, 0) (LAY, RFu r, mem)) : P 0 [.ref 3, .int p0] [] (0, 0) (LAY, RFu r, mem) := by
  refine r_aload_n hP d32_0 rfl ?_
  refine r_geti hP d32_1 fr_4_15 rfl ly_3 ?_
  refine r_aload_n hP d32_4 rfl ?_
  refine r_getr (a := 4) hP d32_5 fr_4_9 rfl ly_3 rg_3_0 ?_
  refine r_alen (v := nI 8) hP d32_8 (by decide) (by decide) ly_4 rfl ?_
  exact r_icmp (t := 32) hP d32_9 (by decide) kt kf
theorem b32_12 {d : Nat} {P : xPr} {Q : xQr} {r : Nat} {mem : Nat → Nat → Int32} (hP : Cl d none 32 P Q) {x1 : Int32} (hi21 : vp_in (mem 3 1) 8)
    (k : P 32 [.ref 3, .int x1] [] (0, 0) (LAY, RFu r, xu2 (xu2 mem 4 (mem 3 1).toNatClampNeg x1) 3 1 (((xu2 mem 4 (mem 3 1).toNatClampNeg x1) 3 1) + (nI 1)))) : P 12 [.ref 3, .int x1] [] (0, 0) (LAY, RFu r, mem) := by
  refine r_aload_n hP d32_12 rfl ?_
  refine r_getr (a := 4) hP d32_13 fr_4_9 rfl ly_3 rg_3_0 ?_
  refine r_aload_n hP d32_16 rfl ?_
  refine r_geti hP d32_17 fr_4_15 rfl ly_3 ?_
  refine r_iload_n hP d32_20 rfl ?_
  refine r_iastore hP d32_21 ly_4 hi21 ?_
  refine r_aload_n hP d32_22 rfl ?_
  refine r_dup hP d32_23 rfl ?_
  refine r_geti hP d32_24 fr_4_15 rfl ly_3 ?_
  refine r_iconst (v := nI 1) hP d32_27 rfl ?_
  refine r_iadd hP d32_28 ?_
  refine r_puti hP d32_29 fr_4_15 rfl (fun q => by cases q) ly_3 ?_
  exact k
theorem b32_32 {d : Nat} {P : xPr} {Q : xQr} {r : Nat} {mem : Nat → Nat → Int32} (hP : Cl d none 32 P Q) {v0 : Value} {v1 : Value}
    (k : Q none (LAY, RFu r, mem)) : P 32 [v0, v1] [] (0, 0) (LAY, RFu r, mem) := by
  exact r_vret hP d32_32 rfl k
theorem d33_0 : decode (xB 33) 0 = .ok (.iload_n 1, 1) := by decide +kernel
theorem d33_1 : decode (xB 33) 1 = .ok (.ifCond .lt 15, 3) := by decide +kernel
theorem d33_4 : decode (xB 33) 4 = .ok (.iload_n 1, 1) := by decide +kernel
theorem d33_5 : decode (xB 33) 5 = .ok (.aload_n 0, 1) := by decide +kernel
theorem d33_6 : decode (xB 33) 6 = .ok (.getfield 15, 3) := by decide +kernel
theorem d33_9 : decode (xB 33) 9 = .ok (.if_icmp .ge 7, 3) := by decide +kernel
theorem d33_12 : decode (xB 33) 12 = .ok (.iconst 1, 1) := by decide +kernel
theorem d33_13 : decode (xB 33) 13 = .ok (.goto 4, 3) := by decide +kernel
theorem d33_16 : decode (xB 33) 16 = .ok (.iconst 0, 1) := by decide +kernel
theorem d33_17 : decode (xB 33) 17 = .ok (.ireturn, 1) := by decide +kernel
theorem b33_0 {d : Nat} {P : xPr} {Q : xQr} {r : Nat} {mem : Nat → Nat → Int32} (hP : Cl d none 33 P Q) {p0 : Int32}
    (kt : p0 < 0 → P 16 [.ref 3, .int p0] [] (0, 0) (LAY, RFu r, mem)) (kf : ¬ p0 < 0 → P 4 [.ref 3, .int p0] [] (0, 0) (LAY, RFu r, mem)) : P 0 [.ref 3, .int p0] [] (0, 0) (LAY, RFu r, mem) := by
  refine r_iload_n hP d33_0 rfl ?_
  exact r_if (t := 16) hP d33_1 (by decide) kt kf
theorem b33_4 {d : Nat} {P : xPr} {Q : xQr} {r : Nat} {mem : Nat → Nat → Int32} (hP : Cl d none 33 P Q) {x1 : Int32}
    (kt : (mem 3 1) ≤ x1 → P 16 [.ref 3, .int x1] [] (0, 0) (LAY, RFu r, mem)) (kf : ¬ (mem 3 1) ≤ x1 → P 12 [.ref 3, .int x1] [] (0, 0) (LAY, RFu r, mem)) : P 4 [.ref 3, .int x1] [] (0, 0) (LAY, RFu r, mem) := by
  refine r_iload_n hP d33_4 rfl ?_
  refine r_aload_n hP d33_5 rfl ?_
  refine r_geti hP d33_6 fr_4_15 rfl ly_3 ?_
  exact r_icmp (t := 16) hP d33_9 (by decide) kt kf
theorem b33_12 {d : Nat} {P : xPr} {Q : xQr} {r : Nat} {mem : Nat → Nat → Int32} (hP : Cl d none 33 P Q) {v0 : Value} {v1 : Value}
    (k : P 17 [v0, v1] [.int (nI 1)] (0, 0) (LAY, RFu r, mem)) : P 12 [v0, v1] [] (0, 0) (LAY, RFu r, mem) := by
  refine r_iconst (v := nI 1) hP d33_12 rfl ?_
  refine r_goto (t := 17) hP d33_13 (by decide) ?_
  exact k
theorem b33_16 {d : Nat} {P : xPr} {Q : xQr} {r : Nat} {mem : Nat → Nat → Int32} (hP : Cl d none 33 P Q) {v0 : Value} {v1 : Value}
    (k : P 17 [v0, v1] [.int (nI 0)] (0, 0) (LAY, RFu r, mem)) : P 16 [v0, v1] [] (0, 0) (LAY, RFu r, mem) := by
  refine r_iconst (v := nI 0) hP d33_16 rfl ?_
  exact k
theorem b33_17 {d : Nat} {P : xPr} {Q : xQr} {r : Nat} {mem : Nat → Nat → Int32} (hP : Cl d none 33 P Q) {v0 : Value} {v1 : Value} {y0 : Int32} (hzr : y0 = 0 ∨ y0 = 1)
    (k : Q (some (.int y0)) (LAY, RFu r, mem)) : P 17 [v0, v1] [.int y0] (0, 0) (LAY, RFu r, mem) := by
  exact r_zret hP d33_17 rfl hzr k
theorem d34_0 : decode (xB 34) 0 = .ok (.iconst 0, 1) := by decide +kernel
theorem d34_1 : decode (xB 34) 1 = .ok (.istore_n 1, 1) := by decide +kernel
theorem d34_2 : decode (xB 34) 2 = .ok (.iconst 1, 1) := by decide +kernel
theorem d34_3 : decode (xB 34) 3 = .ok (.istore_n 2, 1) := by decide +kernel
theorem d34_4 : decode (xB 34) 4 = .ok (.iload_n 2, 1) := by decide +kernel
theorem d34_5 : decode (xB 34) 5 = .ok (.aload_n 0, 1) := by decide +kernel
theorem d34_6 : decode (xB 34) 6 = .ok (.getfield 15, 3) := by decide +kernel
theorem d34_9 : decode (xB 34) 9 = .ok (.if_icmp .ge 26, 3) := by decide +kernel
theorem d34_12 : decode (xB 34) 12 = .ok (.aload_n 0, 1) := by decide +kernel
theorem d34_13 : decode (xB 34) 13 = .ok (.getfield 9, 3) := by decide +kernel
theorem d34_16 : decode (xB 34) 16 = .ok (.iload_n 2, 1) := by decide +kernel
theorem d34_17 : decode (xB 34) 17 = .ok (.iaload, 1) := by decide +kernel
theorem d34_18 : decode (xB 34) 18 = .ok (.aload_n 0, 1) := by decide +kernel
theorem d34_19 : decode (xB 34) 19 = .ok (.getfield 9, 3) := by decide +kernel
theorem d34_22 : decode (xB 34) 22 = .ok (.iload_n 1, 1) := by decide +kernel
theorem d34_23 : decode (xB 34) 23 = .ok (.iaload, 1) := by decide +kernel
theorem d34_24 : decode (xB 34) 24 = .ok (.if_icmp .ge 5, 3) := by decide +kernel
theorem d34_27 : decode (xB 34) 27 = .ok (.iload_n 2, 1) := by decide +kernel
theorem d34_28 : decode (xB 34) 28 = .ok (.istore_n 1, 1) := by decide +kernel
theorem d34_29 : decode (xB 34) 29 = .ok (.iinc 2 1, 3) := by decide +kernel
theorem d34_32 : decode (xB 34) 32 = .ok (.goto (-28), 3) := by decide +kernel
theorem d34_35 : decode (xB 34) 35 = .ok (.iload_n 1, 1) := by decide +kernel
theorem d34_36 : decode (xB 34) 36 = .ok (.ireturn, 1) := by decide +kernel
theorem b34_0 {d : Nat} {P : xPr} {Q : xQr} {r : Nat} {mem : Nat → Nat → Int32} (hP : Cl d none 34 P Q)
    (k : P 4 [.ref 3, .int (nI 0), .int (nI 1)] [] (0, 0) (LAY, RFu r, mem)) : P 0 [.ref 3, .null, .null] [] (0, 0) (LAY, RFu r, mem) := by
  refine r_iconst (v := nI 0) hP d34_0 rfl ?_
  refine r_istore_n (L' := [.ref 3, .int (nI 0), .null]) hP d34_1 (Nat.le_of_ble_eq_true rfl) rfl ?_
  refine r_iconst (v := nI 1) hP d34_2 rfl ?_
  refine r_istore_n (L' := [.ref 3, .int (nI 0), .int (nI 1)]) hP d34_3 (Nat.le_of_ble_eq_true rfl) rfl ?_
  exact k
theorem b34_4 {d : Nat} {P : xPr} {Q : xQr} {r : Nat} {mem : Nat → Nat → Int32} (hP : Cl d none 34 P Q) {x1 : Int32} {x2 : Int32}
    (kt : (mem 3 1) ≤ x2 → P 35 [.ref 3, .int x1, .int x2] [] (0, 0) (LAY, RFu r, mem)) (kf : ¬ (mem 3 1) ≤ x2 → P 12 [.ref 3, .int x1, .int x2] [] (0, 0) (LAY, RFu r, mem)) : P 4 [.ref 3, .int x1, .int x2] [] (0, 0) (LAY, RFu r, mem) := by
  refine r_iload_n hP d34_4 rfl ?_
  refine r_aload_n hP d34_5 rfl ?_
  refine r_geti hP d34_6 fr_4_15 rfl ly_3 ?_
  exact r_icmp (t := 35) hP d34_9 (by decide) kt kf
theorem b34_12 {d : Nat} {P : xPr} {Q : xQr} {r : Nat} {mem : Nat → Nat → Int32} (hP : Cl d none 34 P Q) {x1 : Int32} {x2 : Int32} (hi17 : vp_in x2 8) (hi23 : vp_in x1 8)
    (kt : (mem 4 x1.toNatClampNeg) ≤ (mem 4 x2.toNatClampNeg) → P 29 [.ref 3, .int x1, .int x2] [] (0, 0) (LAY, RFu r, mem)) (kf : ¬ (mem 4 x1.toNatClampNeg) ≤ (mem 4 x2.toNatClampNeg) → P 27 [.ref 3, .int x1, .int x2] [] (0, 0) (LAY, RFu r, mem)) : P 12 [.ref 3, .int x1, .int x2] [] (0, 0) (LAY, RFu r, mem) := by
  refine r_aload_n hP d34_12 rfl ?_
  refine r_getr (a := 4) hP d34_13 fr_4_9 rfl ly_3 rg_3_0 ?_
  refine r_iload_n hP d34_16 rfl ?_
  refine r_iaload hP d34_17 ly_4 hi17 ?_
  refine r_aload_n hP d34_18 rfl ?_
  refine r_getr (a := 4) hP d34_19 fr_4_9 rfl ly_3 rg_3_0 ?_
  refine r_iload_n hP d34_22 rfl ?_
  refine r_iaload hP d34_23 ly_4 hi23 ?_
  exact r_icmp (t := 29) hP d34_24 (by decide) kt kf
theorem b34_27 {d : Nat} {P : xPr} {Q : xQr} {r : Nat} {mem : Nat → Nat → Int32} (hP : Cl d none 34 P Q) {v1 : Value} {x2 : Int32}
    (k : P 29 [.ref 3, .int x2, .int x2] [] (0, 0) (LAY, RFu r, mem)) : P 27 [.ref 3, v1, .int x2] [] (0, 0) (LAY, RFu r, mem) := by
  refine r_iload_n hP d34_27 rfl ?_
  refine r_istore_n (L' := [.ref 3, .int x2, .int x2]) hP d34_28 (Nat.le_of_ble_eq_true rfl) rfl ?_
  exact k
theorem b34_29 {d : Nat} {P : xPr} {Q : xQr} {r : Nat} {mem : Nat → Nat → Int32} (hP : Cl d none 34 P Q) {x1 : Int32} {x2 : Int32}
    (k : P 4 [.ref 3, .int x1, .int (x2 + nI 1)] [] (0, 0) (LAY, RFu r, mem)) : P 29 [.ref 3, .int x1, .int x2] [] (0, 0) (LAY, RFu r, mem) := by
  refine r_iinc (v := nI 1) (L' := [.ref 3, .int x1, .int (x2 + nI 1)]) hP d34_29 rfl rfl rfl ?_
  refine r_goto (t := 4) hP d34_32 (by decide) ?_
  exact k
theorem b34_35 {d : Nat} {P : xPr} {Q : xQr} {r : Nat} {mem : Nat → Nat → Int32} (hP : Cl d none 34 P Q) {v0 : Value} {x1 : Int32} {v2 : Value}
    (k : Q (some (.int x1)) (LAY, RFu r, mem)) : P 35 [v0, .int x1, v2] [] (0, 0) (LAY, RFu r, mem) := by
  refine r_iload_n hP d34_35 rfl ?_
  exact r_iret hP d34_36 rfl k
theorem d60_0 : decode (xB 60) 0 = .ok (.aload_n 1, 1) := by decide +kernel
theorem d60_1 : decode (xB 60) 1 = .ok (.getfield 11, 3) := by decide +kernel
theorem d60_4 : decode (xB 60) 4 = .ok (.iconst 0, 1) := by decide +kernel
theorem d60_5 : decode (xB 60) 5 = .ok (.aload_n 0, 1) := by decide +kernel
theorem d60_6 : decode (xB 60) 6 = .ok (.getfield 11, 3) := by decide +kernel
theorem d60_9 : decode (xB 60) 9 = .ok (.iconst 0, 1) := by decide +kernel
theorem d60_10 : decode (xB 60) 10 = .ok (.bipush 121, 2) := by decide +kernel
theorem d60_12 : decode (xB 60) 12 = .ok (.invokestatic 15, 3) := by decide +kernel
theorem d60_15 : decode (xB 60) 15 = .ok (.return_, 1) := by decide +kernel
theorem b60_0 {d : Nat} {P : xPr} {Q : xQr} {r : Nat} {mem : Nat → Nat → Int32} (hP : Cl d none 60 P Q) {s : Nat} {s1 : Nat} (hs : isState s) (hs1 : isState s1)
    (k : Q none (LAY, RFu r, xuA mem (s + 1) (va_cpy (mem (s1 + 1)) (mem (s + 1)) 0 0 121))) : P 0 [.ref s, .ref s1] [] (0, 0) (LAY, RFu r, mem) := by
  refine r_aload_n hP d60_0 rfl ?_
  refine r_getr (a := (s1 + 1)) hP d60_1 fr_8_11 rfl (lt_8 hs1) (rt_8_0 hs1) ?_
  refine r_iconst (v := nI 0) hP d60_4 rfl ?_
  refine r_aload_n hP d60_5 rfl ?_
  refine r_getr (a := (s + 1)) hP d60_6 fr_8_11 rfl (lt_8 hs) (rt_8_0 hs) ?_
  refine r_iconst (v := nI 0) hP d60_9 rfl ?_
  refine r_bipush (v := nI 121) hP d60_10 rfl ?_
  refine r_copy (sp' := 0) (dp' := 0) (m' := 121) hP d60_12 cr_8_15 (lt_8_0 hs1) (lt_8_0 hs) (by decide) (by decide) (by decide) rfl rfl rfl (by decide) (by decide) (by decide) ?_
  exact r_vret hP d60_15 rfl k
theorem d61_0 : decode (xB 61) 0 = .ok (.aload_n 0, 1) := by decide +kernel
theorem d61_1 : decode (xB 61) 1 = .ok (.getfield 11, 3) := by decide +kernel
theorem d61_4 : decode (xB 61) 4 = .ok (.bipush 8, 2) := by decide +kernel
theorem d61_6 : decode (xB 61) 6 = .ok (.iload_n 1, 1) := by decide +kernel
theorem d61_7 : decode (xB 61) 7 = .ok (.iadd, 1) := by decide +kernel
theorem d61_8 : decode (xB 61) 8 = .ok (.iaload, 1) := by decide +kernel
theorem d61_9 : decode (xB 61) 9 = .ok (.ireturn, 1) := by decide +kernel
theorem b61_0 {d : Nat} {P : xPr} {Q : xQr} {r : Nat} {mem : Nat → Nat → Int32} (hP : Cl d none 61 P Q) {s : Nat} {p0 : Int32} (hs : isState s) (hi8 : vp_in ((nI 8) + p0) 121)
    (k : Q (some (.int (mem (s + 1) ((nI 8) + p0).toNatClampNeg))) (LAY, RFu r, mem)) : P 0 [.ref s, .int p0] [] (0, 0) (LAY, RFu r, mem) := by
  refine r_aload_n hP d61_0 rfl ?_
  refine r_getr (a := (s + 1)) hP d61_1 fr_8_11 rfl (lt_8 hs) (rt_8_0 hs) ?_
  refine r_bipush (v := nI 8) hP d61_4 rfl ?_
  refine r_iload_n hP d61_6 rfl ?_
  refine r_iadd hP d61_7 ?_
  refine r_iaload hP d61_8 (lt_8_0 hs) hi8 ?_
  exact r_iret hP d61_9 rfl k
theorem d62_0 : decode (xB 62) 0 = .ok (.iconst 0, 1) := by decide +kernel
theorem d62_1 : decode (xB 62) 1 = .ok (.istore_n 2, 1) := by decide +kernel
theorem d62_2 : decode (xB 62) 2 = .ok (.iconst 0, 1) := by decide +kernel
theorem d62_3 : decode (xB 62) 3 = .ok (.istore_n 3, 1) := by decide +kernel
theorem d62_4 : decode (xB 62) 4 = .ok (.iload_n 3, 1) := by decide +kernel
theorem d62_5 : decode (xB 62) 5 = .ok (.bipush 8, 2) := by decide +kernel
theorem d62_7 : decode (xB 62) 7 = .ok (.if_icmp .ge 28, 3) := by decide +kernel
theorem d62_10 : decode (xB 62) 10 = .ok (.aload_n 0, 1) := by decide +kernel
theorem d62_11 : decode (xB 62) 11 = .ok (.getfield 11, 3) := by decide +kernel
theorem d62_14 : decode (xB 62) 14 = .ok (.bipush 8, 2) := by decide +kernel
theorem d62_16 : decode (xB 62) 16 = .ok (.iload_n 3, 1) := by decide +kernel
theorem d62_17 : decode (xB 62) 17 = .ok (.iadd, 1) := by decide +kernel
theorem d62_18 : decode (xB 62) 18 = .ok (.iaload, 1) := by decide +kernel
theorem d62_19 : decode (xB 62) 19 = .ok (.iload_n 1, 1) := by decide +kernel
theorem d62_20 : decode (xB 62) 20 = .ok (.if_icmp .ne 9, 3) := by decide +kernel
theorem d62_23 : decode (xB 62) 23 = .ok (.iload_n 2, 1) := by decide +kernel
theorem d62_24 : decode (xB 62) 24 = .ok (.iconst 1, 1) := by decide +kernel
theorem d62_25 : decode (xB 62) 25 = .ok (.iload_n 3, 1) := by decide +kernel
theorem d62_26 : decode (xB 62) 26 = .ok (.ishl, 1) := by decide +kernel
theorem d62_27 : decode (xB 62) 27 = .ok (.ior, 1) := by decide +kernel
theorem d62_28 : decode (xB 62) 28 = .ok (.istore_n 2, 1) := by decide +kernel
theorem d62_29 : decode (xB 62) 29 = .ok (.iinc 3 1, 3) := by decide +kernel
theorem d62_32 : decode (xB 62) 32 = .ok (.goto (-28), 3) := by decide +kernel
theorem d62_35 : decode (xB 62) 35 = .ok (.iload_n 2, 1) := by decide +kernel
theorem d62_36 : decode (xB 62) 36 = .ok (.ireturn, 1) := by decide +kernel
theorem b62_0 {d : Nat} {P : xPr} {Q : xQr} {r : Nat} {mem : Nat → Nat → Int32} (hP : Cl d none 62 P Q) {s : Nat} {p0 : Int32} (hs : isState s)
    (k : P 4 [.ref s, .int p0, .int (nI 0), .int (nI 0)] [] (0, 0) (LAY, RFu r, mem)) : P 0 [.ref s, .int p0, .null, .null] [] (0, 0) (LAY, RFu r, mem) := by
  refine r_iconst (v := nI 0) hP d62_0 rfl ?_
  refine r_istore_n (L' := [.ref s, .int p0, .int (nI 0), .null]) hP d62_1 (Nat.le_of_ble_eq_true rfl) rfl ?_
  refine r_iconst (v := nI 0) hP d62_2 rfl ?_
  refine r_istore_n (L' := [.ref s, .int p0, .int (nI 0), .int (nI 0)]) hP d62_3 (Nat.le_of_ble_eq_true rfl) rfl ?_
  exact k
theorem b62_4 {d : Nat} {P : xPr} {Q : xQr} {r : Nat} {mem : Nat → Nat → Int32} (hP : Cl d none 62 P Q) {s : Nat} {x1 : Int32} {x2 : Int32} {x3 : Int32} (hs : isState s)
    (kt : (nI 8) ≤ x3 → P 35 [.ref s, .int x1, .int x2, .int x3] [] (0, 0) (LAY, RFu r, mem)) (kf : ¬ (nI 8) ≤ x3 → P 10 [.ref s, .int x1, .int x2, .int x3] [] (0, 0) (LAY, RFu r, mem)) : P 4 [.ref s, .int x1, .int x2, .int x3] [] (0, 0) (LAY, RFu r, mem) := by
  refine r_iload_n hP d62_4 rfl ?_
  refine r_bipush (v := nI 8) hP d62_5 rfl ?_
  exact r_icmp (t := 35) hP d62_7 (by decide) kt kf
theorem b62_10 {d : Nat} {P : xPr} {Q : xQr} {r : Nat} {mem : Nat → Nat → Int32} (hP : Cl d none 62 P Q) {s : Nat} {x1 : Int32} {x2 : Int32} {x3 : Int32} (hs : isState s) (hi18 : vp_in ((nI 8) + x3) 121)
    (kt : ¬ (mem (s + 1) ((nI 8) + x3).toNatClampNeg) = x1 → P 29 [.ref s, .int x1, .int x2, .int x3] [] (0, 0) (LAY, RFu r, mem)) (kf : (mem (s + 1) ((nI 8) + x3).toNatClampNeg) = x1 → P 23 [.ref s, .int x1, .int x2, .int x3] [] (0, 0) (LAY, RFu r, mem)) : P 10 [.ref s, .int x1, .int x2, .int x3] [] (0, 0) (LAY, RFu r, mem) := by
  refine r_aload_n hP d62_10 rfl ?_
  refine r_getr (a := (s + 1)) hP d62_11 fr_8_11 rfl (lt_8 hs) (rt_8_0 hs) ?_
  refine r_bipush (v := nI 8) hP d62_14 rfl ?_
  refine r_iload_n hP d62_16 rfl ?_
  refine r_iadd hP d62_17 ?_
  refine r_iaload hP d62_18 (lt_8_0 hs) hi18 ?_
  refine r_iload_n hP d62_19 rfl ?_
  exact r_icmp (t := 29) hP d62_20 (by decide) kt (fun q => kf (Decidable.of_not_not q))
theorem b62_23 {d : Nat} {P : xPr} {Q : xQr} {r : Nat} {mem : Nat → Nat → Int32} (hP : Cl d none 62 P Q) {s : Nat} {x1 : Int32} {x2 : Int32} {x3 : Int32} (hs : isState s)
    (k : P 29 [.ref s, .int x1, .int (x2 ||| ((nI 1) <<< (x3 &&& 31))), .int x3] [] (0, 0) (LAY, RFu r, mem)) : P 23 [.ref s, .int x1, .int x2, .int x3] [] (0, 0) (LAY, RFu r, mem) := by
  refine r_iload_n hP d62_23 rfl ?_
  refine r_iconst (v := nI 1) hP d62_24 rfl ?_
  refine r_iload_n hP d62_25 rfl ?_
  refine r_ishl hP d62_26 ?_
  refine r_ior hP d62_27 ?_
  refine r_istore_n (L' := [.ref s, .int x1, .int (x2 ||| ((nI 1) <<< (x3 &&& 31))), .int x3]) hP d62_28 (Nat.le_of_ble_eq_true rfl) rfl ?_
  exact k
theorem b62_29 {d : Nat} {P : xPr} {Q : xQr} {r : Nat} {mem : Nat → Nat → Int32} (hP : Cl d none 62 P Q) {s : Nat} {x1 : Int32} {x2 : Int32} {x3 : Int32} (hs : isState s)
    (k : P 4 [.ref s, .int x1, .int x2, .int (x3 + nI 1)] [] (0, 0) (LAY, RFu r, mem)) : P 29 [.ref s, .int x1, .int x2, .int x3] [] (0, 0) (LAY, RFu r, mem) := by
  refine r_iinc (v := nI 1) (L' := [.ref s, .int x1, .int x2, .int (x3 + nI 1)]) hP d62_29 rfl rfl rfl ?_
  refine r_goto (t := 4) hP d62_32 (by decide) ?_
  exact k
theorem b62_35 {d : Nat} {P : xPr} {Q : xQr} {r : Nat} {mem : Nat → Nat → Int32} (hP : Cl d none 62 P Q) {s : Nat} {v0 : Value} {v1 : Value} {x2 : Int32} {v3 : Value} (hs : isState s)
    (k : Q (some (.int x2)) (LAY, RFu r, mem)) : P 35 [v0, v1, .int x2, v3] [] (0, 0) (LAY, RFu r, mem) := by
  refine r_iload_n hP d62_35 rfl ?_
  exact r_iret hP d62_36 rfl k
theorem d63_0 : decode (xB 63) 0 = .ok (.iconst 0, 1) := by decide +kernel
theorem d63_1 : decode (xB 63) 1 = .ok (.istore_n 3, 1) := by decide +kernel
theorem d63_2 : decode (xB 63) 2 = .ok (.iconst 0, 1) := by decide +kernel
theorem d63_3 : decode (xB 63) 3 = .ok (.istore 4, 2) := by decide +kernel
theorem d63_5 : decode (xB 63) 5 = .ok (.iload 4, 2) := by decide +kernel
theorem d63_7 : decode (xB 63) 7 = .ok (.bipush 8, 2) := by decide +kernel
theorem d63_9 : decode (xB 63) 9 = .ok (.if_icmp .ge 43, 3) := by decide +kernel
theorem d63_12 : decode (xB 63) 12 = .ok (.aload_n 0, 1) := by decide +kernel
theorem d63_13 : decode (xB 63) 13 = .ok (.getfield 11, 3) := by decide +kernel
theorem d63_16 : decode (xB 63) 16 = .ok (.iconst 0, 1) := by decide +kernel
theorem d63_17 : decode (xB 63) 17 = .ok (.iload 4, 2) := by decide +kernel
theorem d63_19 : decode (xB 63) 19 = .ok (.iadd, 1) := by decide +kernel
theorem d63_20 : decode (xB 63) 20 = .ok (.iaload, 1) := by decide +kernel
theorem d63_21 : decode (xB 63) 21 = .ok (.iload_n 1, 1) := by decide +kernel
theorem d63_22 : decode (xB 63) 22 = .ok (.if_icmp .ne 24, 3) := by decide +kernel
theorem d63_25 : decode (xB 63) 25 = .ok (.aload_n 0, 1) := by decide +kernel
theorem d63_26 : decode (xB 63) 26 = .ok (.getfield 11, 3) := by decide +kernel
theorem d63_29 : decode (xB 63) 29 = .ok (.bipush 8, 2) := by decide +kernel
theorem d63_31 : decode (xB 63) 31 = .ok (.iload 4, 2) := by decide +kernel
theorem d63_33 : decode (xB 63) 33 = .ok (.iadd, 1) := by decide +kernel
theorem d63_34 : decode (xB 63) 34 = .ok (.iaload, 1) := by decide +kernel
theorem d63_35 : decode (xB 63) 35 = .ok (.iload_n 2, 1) := by decide +kernel
theorem d63_36 : decode (xB 63) 36 = .ok (.if_icmp .ne 10, 3) := by decide +kernel
theorem d63_39 : decode (xB 63) 39 = .ok (.iload_n 3, 1) := by decide +kernel
theorem d63_40 : decode (xB 63) 40 = .ok (.iconst 1, 1) := by decide +kernel
theorem d63_41 : decode (xB 63) 41 = .ok (.iload 4, 2) := by decide +kernel
theorem d63_43 : decode (xB 63) 43 = .ok (.ishl, 1) := by decide +kernel
theorem d63_44 : decode (xB 63) 44 = .ok (.ior, 1) := by decide +kernel
theorem d63_45 : decode (xB 63) 45 = .ok (.istore_n 3, 1) := by decide +kernel
theorem d63_46 : decode (xB 63) 46 = .ok (.iinc 4 1, 3) := by decide +kernel
theorem d63_49 : decode (xB 63) 49 = .ok (.goto (-44), 3) := by decide +kernel
theorem d63_52 : decode (xB 63) 52 = .ok (.iload_n 3, 1) := by decide +kernel
theorem d63_53 : decode (xB 63) 53 = .ok (.ireturn, 1) := by decide +kernel
theorem b63_0 {d : Nat} {P : xPr} {Q : xQr} {r : Nat} {mem : Nat → Nat → Int32} (hP : Cl d none 63 P Q) {s : Nat} {p0 : Int32} {p1 : Int32} (hs : isState s)
    (k : P 5 [.ref s, .int p0, .int p1, .int (nI 0), .int (nI 0)] [] (0, 0) (LAY, RFu r, mem)) : P 0 [.ref s, .int p0, .int p1, .null, .null] [] (0, 0) (LAY, RFu r, mem) := by
  refine r_iconst (v := nI 0) hP d63_0 rfl ?_
  refine r_istore_n (L' := [.ref s, .int p0, .int p1, .int (nI 0), .null]) hP d63_1 (Nat.le_of_ble_eq_true rfl) rfl ?_
  refine r_iconst (v := nI 0) hP d63_2 rfl ?_
  refine r_istore (L' := [.ref s, .int p0, .int p1, .int (nI 0), .int (nI 0)]) hP d63_3 (Nat.le_of_ble_eq_true rfl) rfl ?_
  exact k
theorem b63_5 {d : Nat} {P : xPr} {Q : xQr} {r : Nat} {mem : Nat → Nat → Int32} (hP : Cl d none 63 P Q) {s : Nat} {x1 : Int32} {x2 : Int32} {x3 : Int32} {x4 : Int32} (hs : isState s)
    (kt : (nI 8) ≤ x4 → P 52 [.ref s, .int x1, .int x2, .int x3, .int x4] [] (0, 0) (LAY, RFu r, mem)) (kf : ¬ (nI 8) ≤ x4 → P 12 [.ref s, .int x1, .int x2, .int x3, .int x4] [] (0, 0) (LAY, RFu r, mem)) : P 5 [.ref s, .int x1, .int x2, .int x3, .int x4] [] (0, 0) (LAY, RFu r, mem) := by
  refine r_iload hP d63_5 rfl ?_
  refine r_bipush (v := nI 8) hP d63_7 rfl ?_
  exact r_icmp (t := 52) hP d63_9 (by decide) kt kf
theorem b63_12 {d : Nat} {P : xPr} {Q : xQr} {r : Nat} {mem : Nat → Nat → Int32} (hP : Cl d none 63 P Q) {s : Nat} {x1 : Int32} {x2 : Int32} {x3 : Int32} {x4 : Int32} (hs : isState s) (hi20 : vp_in ((nI 0) + x4) 121)
    (kt : ¬ (mem (s + 1) ((nI 0) + x4).toNatClampNeg) = x1 → P 46 [.ref s, .int x1, .int x2, .int x3, .int x4] [] (0, 0) (LAY, RFu r, mem)) (kf : (mem (s + 1) ((nI 0) + x4).toNatClampNeg) = x1 → P 25 [.ref s, .int x1, .int x2, .int x3, .int x4] [] (0, 0) (LAY, RFu r, mem)) : P 12 [.ref s, .int x1, .int x2, .int x3, .int x4] [] (0, 0) (LAY, RFu r, mem) := by
  refine r_aload_n hP d63_12 rfl ?_
  refine r_getr (a := (s + 1)) hP d63_13 fr_8_11 rfl (lt_8 hs) (rt_8_0 hs) ?_
  refine r_iconst (v := nI 0) hP d63_16 rfl ?_
  refine r_iload hP d63_17 rfl ?_
  refine r_iadd hP d63_19 ?_
  refine r_iaload hP d63_20 (lt_8_0 hs) hi20 ?_
  refine r_iload_n hP d63_21 rfl ?_
  exact r_icmp (t := 46) hP d63_22 (by decide) kt (fun q => kf (Decidable.of_not_not q))
theorem b63_25 {d : Nat} {P : xPr} {Q : xQr} {r : Nat} {mem : Nat → Nat → Int32} (hP : Cl d none 63 P Q) {s : Nat} {x1 : Int32} {x2 : Int32} {x3 : Int32} {x4 : Int32} (hs : isState s) (hi34 : vp_in ((nI 8) + x4) 121)
    (kt : ¬ (mem (s + 1) ((nI 8) + x4).toNatClampNeg) = x2 → P 46 [.ref s, .int x1, .int x2, .int x3, .int x4] [] (0, 0) (LAY, RFu r, mem)) (kf : (mem (s + 1) ((nI 8) + x4).toNatClampNeg) = x2 → P 39 [.ref s, .int x1, .int x2, .int x3, .int x4] [] (0, 0) (LAY, RFu r, mem)) : P 25 [.ref s, .int x1, .int x2, .int x3, .int x4] [] (0, 0) (LAY, RFu r, mem) := by
  refine r_aload_n hP d63_25 rfl ?_
  refine r_getr (a := (s + 1)) hP d63_26 fr_8_11 rfl (lt_8 hs) (rt_8_0 hs) ?_
  refine r_bipush (v := nI 8) hP d63_29 rfl ?_
  refine r_iload hP d63_31 rfl ?_
  refine r_iadd hP d63_33 ?_
  refine r_iaload hP d63_34 (lt_8_0 hs) hi34 ?_
  refine r_iload_n hP d63_35 rfl ?_
  exact r_icmp (t := 46) hP d63_36 (by decide) kt (fun q => kf (Decidable.of_not_not q))
theorem b63_39 {d : Nat} {P : xPr} {Q : xQr} {r : Nat} {mem : Nat → Nat → Int32} (hP : Cl d none 63 P Q) {s : Nat} {x1 : Int32} {x2 : Int32} {x3 : Int32} {x4 : Int32} (hs : isState s)
    (k : P 46 [.ref s, .int x1, .int x2, .int (x3 ||| ((nI 1) <<< (x4 &&& 31))), .int x4] [] (0, 0) (LAY, RFu r, mem)) : P 39 [.ref s, .int x1, .int x2, .int x3, .int x4] [] (0, 0) (LAY, RFu r, mem) := by
  refine r_iload_n hP d63_39 rfl ?_
  refine r_iconst (v := nI 1) hP d63_40 rfl ?_
  refine r_iload hP d63_41 rfl ?_
  refine r_ishl hP d63_43 ?_
  refine r_ior hP d63_44 ?_
  refine r_istore_n (L' := [.ref s, .int x1, .int x2, .int (x3 ||| ((nI 1) <<< (x4 &&& 31))), .int x4]) hP d63_45 (Nat.le_of_ble_eq_true rfl) rfl ?_
  exact k
theorem b63_46 {d : Nat} {P : xPr} {Q : xQr} {r : Nat} {mem : Nat → Nat → Int32} (hP : Cl d none 63 P Q) {s : Nat} {x1 : Int32} {x2 : Int32} {x3 : Int32} {x4 : Int32} (hs : isState s)
    (k : P 5 [.ref s, .int x1, .int x2, .int x3, .int (x4 + nI 1)] [] (0, 0) (LAY, RFu r, mem)) : P 46 [.ref s, .int x1, .int x2, .int x3, .int x4] [] (0, 0) (LAY, RFu r, mem) := by
  refine r_iinc (v := nI 1) (L' := [.ref s, .int x1, .int x2, .int x3, .int (x4 + nI 1)]) hP d63_46 rfl rfl rfl ?_
  refine r_goto (t := 5) hP d63_49 (by decide) ?_
  exact k
theorem b63_52 {d : Nat} {P : xPr} {Q : xQr} {r : Nat} {mem : Nat → Nat → Int32} (hP : Cl d none 63 P Q) {s : Nat} {v0 : Value} {v1 : Value} {v2 : Value} {x3 : Int32} {v4 : Value} (hs : isState s)
    (k : Q (some (.int x3)) (LAY, RFu r, mem)) : P 52 [v0, v1, v2, .int x3, v4] [] (0, 0) (LAY, RFu r, mem) := by
  refine r_iload_n hP d63_52 rfl ?_
  exact r_iret hP d63_53 rfl k
theorem d64_0 : decode (xB 64) 0 = .ok (.iconst 0, 1) := by decide +kernel
theorem d64_1 : decode (xB 64) 1 = .ok (.istore_n 1, 1) := by decide +kernel
theorem d64_2 : decode (xB 64) 2 = .ok (.iconst 0, 1) := by decide +kernel
theorem d64_3 : decode (xB 64) 3 = .ok (.istore_n 2, 1) := by decide +kernel
theorem d64_4 : decode (xB 64) 4 = .ok (.iload_n 2, 1) := by decide +kernel
theorem d64_5 : decode (xB 64) 5 = .ok (.bipush 8, 2) := by decide +kernel
theorem d64_7 : decode (xB 64) 7 = .ok (.if_icmp .ge 21, 3) := by decide +kernel
theorem d64_10 : decode (xB 64) 10 = .ok (.iload_n 1, 1) := by decide +kernel
theorem d64_11 : decode (xB 64) 11 = .ok (.aload_n 0, 1) := by decide +kernel
theorem d64_12 : decode (xB 64) 12 = .ok (.getfield 11, 3) := by decide +kernel
theorem d64_15 : decode (xB 64) 15 = .ok (.bipush 40, 2) := by decide +kernel
theorem d64_17 : decode (xB 64) 17 = .ok (.iload_n 2, 1) := by decide +kernel
theorem d64_18 : decode (xB 64) 18 = .ok (.iadd, 1) := by decide +kernel
theorem d64_19 : decode (xB 64) 19 = .ok (.iaload, 1) := by decide +kernel
theorem d64_20 : decode (xB 64) 20 = .ok (.iadd, 1) := by decide +kernel
theorem d64_21 : decode (xB 64) 21 = .ok (.istore_n 1, 1) := by decide +kernel
theorem d64_22 : decode (xB 64) 22 = .ok (.iinc 2 1, 3) := by decide +kernel
theorem d64_25 : decode (xB 64) 25 = .ok (.goto (-21), 3) := by decide +kernel
theorem d64_28 : decode (xB 64) 28 = .ok (.iload_n 1, 1) := by decide +kernel
theorem d64_29 : decode (xB 64) 29 = .ok (.ireturn, 1) := by decide +kernel
theorem b64_0 {d : Nat} {P : xPr} {Q : xQr} {r : Nat} {mem : Nat → Nat → Int32} (hP : Cl d none 64 P Q) {s : Nat} (hs : isState s)
    (k : P 4 [.ref s, .int (nI 0), .int (nI 0)] [] (0, 0) (LAY, RFu r, mem)) : P 0 [.ref s, .null, .null] [] (0, 0) (LAY, RFu r, mem) := by
  refine r_iconst (v := nI 0) hP d64_0 rfl ?_
  refine r_istore_n (L' := [.ref s, .int (nI 0), .null]) hP d64_1 (Nat.le_of_ble_eq_true rfl) rfl ?_
  refine r_iconst (v := nI 0) hP d64_2 rfl ?_
  refine r_istore_n (L' := [.ref s, .int (nI 0), .int (nI 0)]) hP d64_3 (Nat.le_of_ble_eq_true rfl) rfl ?_
  exact k
theorem b64_4 {d : Nat} {P : xPr} {Q : xQr} {r : Nat} {mem : Nat → Nat → Int32} (hP : Cl d none 64 P Q) {s : Nat} {x1 : Int32} {x2 : Int32} (hs : isState s)
    (kt : (nI 8) ≤ x2 → P 28 [.ref s, .int x1, .int x2] [] (0, 0) (LAY, RFu r, mem)) (kf : ¬ (nI 8) ≤ x2 → P 10 [.ref s, .int x1, .int x2] [] (0, 0) (LAY, RFu r, mem)) : P 4 [.ref s, .int x1, .int x2] [] (0, 0) (LAY, RFu r, mem) := by
  refine r_iload_n hP d64_4 rfl ?_
  refine r_bipush (v := nI 8) hP d64_5 rfl ?_
  exact r_icmp (t := 28) hP d64_7 (by decide) kt kf
theorem b64_10 {d : Nat} {P : xPr} {Q : xQr} {r : Nat} {mem : Nat → Nat → Int32} (hP : Cl d none 64 P Q) {s : Nat} {x1 : Int32} {x2 : Int32} (hs : isState s) (hi19 : vp_in ((nI 40) + x2) 121)
    (k : P 4 [.ref s, .int (x1 + (mem (s + 1) ((nI 40) + x2).toNatClampNeg)), .int (x2 + nI 1)] [] (0, 0) (LAY, RFu r, mem)) : P 10 [.ref s, .int x1, .int x2] [] (0, 0) (LAY, RFu r, mem) := by
  refine r_iload_n hP d64_10 rfl ?_
  refine r_aload_n hP d64_11 rfl ?_
  refine r_getr (a := (s + 1)) hP d64_12 fr_8_11 rfl (lt_8 hs) (rt_8_0 hs) ?_
  refine r_bipush (v := nI 40) hP d64_15 rfl ?_
  refine r_iload_n hP d64_17 rfl ?_
  refine r_iadd hP d64_18 ?_
  refine r_iaload hP d64_19 (lt_8_0 hs) hi19 ?_
  refine r_iadd hP d64_20 ?_
  refine r_istore_n (L' := [.ref s, .int (x1 + (mem (s + 1) ((nI 40) + x2).toNatClampNeg)), .int x2]) hP d64_21 (Nat.le_of_ble_eq_true rfl) rfl ?_
  refine r_iinc (v := nI 1) (L' := [.ref s, .int (x1 + (mem (s + 1) ((nI 40) + x2).toNatClampNeg)), .int (x2 + nI 1)]) hP d64_22 rfl rfl rfl ?_
  refine r_goto (t := 4) hP d64_25 (by decide) ?_
  exact k
theorem b64_28 {d : Nat} {P : xPr} {Q : xQr} {r : Nat} {mem : Nat → Nat → Int32} (hP : Cl d none 64 P Q) {s : Nat} {v0 : Value} {x1 : Int32} {v2 : Value} (hs : isState s)
    (k : Q (some (.int x1)) (LAY, RFu r, mem)) : P 28 [v0, .int x1, v2] [] (0, 0) (LAY, RFu r, mem) := by
  refine r_iload_n hP d64_28 rfl ?_
  exact r_iret hP d64_29 rfl k
theorem d65_0 : decode (xB 65) 0 = .ok (.aload_n 0, 1) := by decide +kernel
theorem d65_1 : decode (xB 65) 1 = .ok (.getfield 11, 3) := by decide +kernel
theorem d65_4 : decode (xB 65) 4 = .ok (.bipush 40, 2) := by decide +kernel
theorem d65_6 : decode (xB 65) 6 = .ok (.iaload, 1) := by decide +kernel
theorem d65_7 : decode (xB 65) 7 = .ok (.istore_n 2, 1) := by decide +kernel
theorem d65_8 : decode (xB 65) 8 = .ok (.iload_n 2, 1) := by decide +kernel
theorem d65_9 : decode (xB 65) 9 = .ok (.istore_n 3, 1) := by decide +kernel
theorem d65_10 : decode (xB 65) 10 = .ok (.iconst 1, 1) := by decide +kernel
theorem d65_11 : decode (xB 65) 11 = .ok (.istore 4, 2) := by decide +kernel
theorem d65_13 : decode (xB 65) 13 = .ok (.iload 4, 2) := by decide +kernel
theorem d65_15 : decode (xB 65) 15 = .ok (.iload_n 1, 1) := by decide +kernel
theorem d65_16 : decode (xB 65) 16 = .ok (.if_icmp .ge 39, 3) := by decide +kernel
theorem d65_19 : decode (xB 65) 19 = .ok (.iload_n 2, 1) := by decide +kernel
theorem d65_20 : decode (xB 65) 20 = .ok (.aload_n 0, 1) := by decide +kernel
theorem d65_21 : decode (xB 65) 21 = .ok (.getfield 11, 3) := by decide +kernel
theorem d65_24 : decode (xB 65) 24 = .ok (.bipush 40, 2) := by decide +kernel
theorem d65_26 : decode (xB 65) 26 = .ok (.iload 4, 2) := by decide +kernel
theorem d65_28 : decode (xB 65) 28 = .ok (.iadd, 1) := by decide +kernel
theorem d65_29 : decode (xB 65) 29 = .ok (.iaload, 1) := by decide +kernel
theorem d65_30 : decode (xB 65) 30 = .ok (.invokestatic 21, 3) := by decide +kernel
theorem d65_33 : decode (xB 65) 33 = .ok (.istore_n 2, 1) := by decide +kernel
theorem d65_34 : decode (xB 65) 34 = .ok (.iload_n 3, 1) := by decide +kernel
theorem d65_35 : decode (xB 65) 35 = .ok (.aload_n 0, 1) := by decide +kernel
theorem d65_36 : decode (xB 65) 36 = .ok (.getfield 11, 3) := by decide +kernel
theorem d65_39 : decode (xB 65) 39 = .ok (.bipush 40, 2) := by decide +kernel
theorem d65_41 : decode (xB 65) 41 = .ok (.iload 4, 2) := by decide +kernel
theorem d65_43 : decode (xB 65) 43 = .ok (.iadd, 1) := by decide +kernel
theorem d65_44 : decode (xB 65) 44 = .ok (.iaload, 1) := by decide +kernel
theorem d65_45 : decode (xB 65) 45 = .ok (.invokestatic 27, 3) := by decide +kernel
theorem d65_48 : decode (xB 65) 48 = .ok (.istore_n 3, 1) := by decide +kernel
theorem d65_49 : decode (xB 65) 49 = .ok (.iinc 4 1, 3) := by decide +kernel
theorem d65_52 : decode (xB 65) 52 = .ok (.goto (-39), 3) := by decide +kernel
theorem d65_55 : decode (xB 65) 55 = .ok (.iload_n 2, 1) := by decide +kernel
theorem d65_56 : decode (xB 65) 56 = .ok (.iload_n 3, 1) := by decide +kernel
theorem d65_57 : decode (xB 65) 57 = .ok (.isub, 1) := by decide +kernel
theorem d65_58 : decode (xB 65) 58 = .ok (.ireturn, 1) := by decide +kernel
theorem b65_0 {d : Nat} {P : xPr} {Q : xQr} {r : Nat} {mem : Nat → Nat → Int32} (hP : Cl d none 65 P Q) {s : Nat} {p0 : Int32} (hs : isState s) (hi6 : vp_in (nI 40) 121)
    (k : P 13 [.ref s, .int p0, .int (mem (s + 1) (nI 40).toNatClampNeg), .int (mem (s + 1) (nI 40).toNatClampNeg), .int (nI 1)] [] (0, 0) (LAY, RFu r, mem)) : P 0 [.ref s, .int p0, .null, .null, .null] [] (0, 0) (LAY, RFu r, mem) := by
  refine r_aload_n hP d65_0 rfl ?_
  refine r_getr (a := (s + 1)) hP d65_1 fr_8_11 rfl (lt_8 hs) (rt_8_0 hs) ?_
  refine r_bipush (v := nI 40) hP d65_4 rfl ?_
  refine r_iaload hP d65_6 (lt_8_0 hs) hi6 ?_
  refine r_istore_n (L' := [.ref s, .int p0, .int (mem (s + 1) (nI 40).toNatClampNeg), .null, .null]) hP d65_7 (Nat.le_of_ble_eq_true rfl) rfl ?_
  refine r_iload_n hP d65_8 rfl ?_
  refine r_istore_n (L' := [.ref s, .int p0, .int (mem (s + 1) (nI 40).toNatClampNeg), .int (mem (s + 1) (nI 40).toNatClampNeg), .null]) hP d65_9 (Nat.le_of_ble_eq_true rfl) rfl ?_
  refine r_iconst (v := nI 1) hP d65_10 rfl ?_
  refine r_istore (L' := [.ref s, .int p0, .int (mem (s + 1) (nI 40).toNatClampNeg), .int (mem (s + 1) (nI 40).toNatClampNeg), .int (nI 1)]) hP d65_11 (Nat.le_of_ble_eq_true rfl) rfl ?_
  exact k
theorem b65_13 {d : Nat} {P : xPr} {Q : xQr} {r : Nat} {mem : Nat → Nat → Int32} (hP : Cl d none 65 P Q) {s : Nat} {x1 : Int32} {x2 : Int32} {x3 : Int32} {x4 : Int32} (hs : isState s)
    (kt : x1 ≤ x4 → P 55 [.ref s, .int x1, .int x2, .int x3, .int x4] [] (0, 0) (LAY, RFu r, mem)) (kf : ¬ x1 ≤ x4 → P 19 [.ref s, .int x1, .int x2, .int x3, .int x4] [] (0, 0) (LAY, RFu r, mem)) : P 13 [.ref s, .int x1, .int x2, .int x3, .int x4] [] (0, 0) (LAY, RFu r, mem) := by
  refine r_iload hP d65_13 rfl ?_
  refine r_iload_n hP d65_15 rfl ?_
  exact r_icmp (t := 55) hP d65_16 (by decide) kt kf
theorem b65_19 {d : Nat} {P : xPr} {Q : xQr} {r : Nat} {mem : Nat → Nat → Int32} (hP : Cl d none 65 P Q) {s : Nat} {x1 : Int32} {x2 : Int32} {x3 : Int32} {x4 : Int32} (hs : isState s) (hi29 : vp_in ((nI 40) + x4) 121) (hi44 : vp_in ((nI 40) + x4) 121)
    (k : P 13 [.ref s, .int x1, .int (if x2 < mem (s + 1) ((nI 40) + x4).toNatClampNeg then mem (s + 1) ((nI 40) + x4).toNatClampNeg else x2), .int (if mem (s + 1) ((nI 40) + x4).toNatClampNeg < x3 then mem (s + 1) ((nI 40) + x4).toNatClampNeg else x3), .int (x4 + nI 1)] [] (0, 0) (LAY, RFu r, mem)) : P 19 [.ref s, .int x1, .int x2, .int x3, .int x4] [] (0, 0) (LAY, RFu r, mem) := by
  refine r_iload_n hP d65_19 rfl ?_
  refine r_aload_n hP d65_20 rfl ?_
  refine r_getr (a := (s + 1)) hP d65_21 fr_8_11 rfl (lt_8 hs) (rt_8_0 hs) ?_
  refine r_bipush (v := nI 40) hP d65_24 rfl ?_
  refine r_iload hP d65_26 rfl ?_
  refine r_iadd hP d65_28 ?_
  refine r_iaload hP d65_29 (lt_8_0 hs) hi29 ?_
  refine r_max hP d65_30 cr_8_21 (by decide) ?_
  refine r_istore_n (L' := [.ref s, .int x1, .int (if x2 < mem (s + 1) ((nI 40) + x4).toNatClampNeg then mem (s + 1) ((nI 40) + x4).toNatClampNeg else x2), .int x3, .int x4]) hP d65_33 (Nat.le_of_ble_eq_true rfl) rfl ?_
  refine r_iload_n hP d65_34 rfl ?_
  refine r_aload_n hP d65_35 rfl ?_
  refine r_getr (a := (s + 1)) hP d65_36 fr_8_11 rfl (lt_8 hs) (rt_8_0 hs) ?_
  refine r_bipush (v := nI 40) hP d65_39 rfl ?_
  refine r_iload hP d65_41 rfl ?_
  refine r_iadd hP d65_43 ?_
  refine r_iaload hP d65_44 (lt_8_0 hs) hi44 ?_
  refine r_min hP d65_45 cr_8_27 (by decide) ?_
  refine r_istore_n (L' := [.ref s, .int x1, .int (if x2 < mem (s + 1) ((nI 40) + x4).toNatClampNeg then mem (s + 1) ((nI 40) + x4).toNatClampNeg else x2), .int (if mem (s + 1) ((nI 40) + x4).toNatClampNeg < x3 then mem (s + 1) ((nI 40) + x4).toNatClampNeg else x3), .int x4]) hP d65_48 (Nat.le_of_ble_eq_true rfl) rfl ?_
  refine r_iinc (v := nI 1) (L' := [.ref s, .int x1, .int (if x2 < mem (s + 1) ((nI 40) + x4).toNatClampNeg then mem (s + 1) ((nI 40) + x4).toNatClampNeg else x2), .int (if mem (s + 1) ((nI 40) + x4).toNatClampNeg < x3 then mem (s + 1) ((nI 40) + x4).toNatClampNeg else x3), .int (x4 + nI 1)]) hP d65_49 rfl rfl rfl ?_
  refine r_goto (t := 13) hP d65_52 (by decide) ?_
  exact k
theorem b65_55 {d : Nat} {P : xPr} {Q : xQr} {r : Nat} {mem : Nat → Nat → Int32} (hP : Cl d none 65 P Q) {s : Nat} {v0 : Value} {v1 : Value} {x2 : Int32} {x3 : Int32} {v4 : Value} (hs : isState s)
    (k : Q (some (.int (x2 - x3))) (LAY, RFu r, mem)) : P 55 [v0, v1, .int x2, .int x3, v4] [] (0, 0) (LAY, RFu r, mem) := by
  refine r_iload_n hP d65_55 rfl ?_
  refine r_iload_n hP d65_56 rfl ?_
  refine r_isub hP d65_57 ?_
  exact r_iret hP d65_58 rfl k
theorem d66_0 : decode (xB 66) 0 = .ok (.aload_n 0, 1) := by decide +kernel
theorem d66_1 : decode (xB 66) 1 = .ok (.iload_n 1, 1) := by decide +kernel
theorem d66_2 : decode (xB 66) 2 = .ok (.invokevirtual 30, 3) := by decide +kernel
theorem d66_5 : decode (xB 66) 5 = .ok (.iconst 2, 1) := by decide +kernel
theorem d66_6 : decode (xB 66) 6 = .ok (.if_icmp .ne 35, 3) := by decide +kernel
theorem d66_9 : decode (xB 66) 9 = .ok (.aload_n 0, 1) := by decide +kernel
theorem d66_10 : decode (xB 66) 10 = .ok (.iload_n 2, 1) := by decide +kernel
theorem d66_11 : decode (xB 66) 11 = .ok (.invokevirtual 30, 3) := by decide +kernel
theorem d66_14 : decode (xB 66) 14 = .ok (.iconst 2, 1) := by decide +kernel
theorem d66_15 : decode (xB 66) 15 = .ok (.if_icmp .ne 26, 3) := by decide +kernel
theorem d66_18 : decode (xB 66) 18 = .ok (.aload_n 0, 1) := by decide +kernel
theorem d66_19 : decode (xB 66) 19 = .ok (.getfield 11, 3) := by decide +kernel
theorem d66_22 : decode (xB 66) 22 = .ok (.iconst 0, 1) := by decide +kernel
theorem d66_23 : decode (xB 66) 23 = .ok (.iload_n 1, 1) := by decide +kernel
theorem d66_24 : decode (xB 66) 24 = .ok (.iadd, 1) := by decide +kernel
theorem d66_25 : decode (xB 66) 25 = .ok (.iaload, 1) := by decide +kernel
theorem d66_26 : decode (xB 66) 26 = .ok (.aload_n 0, 1) := by decide +kernel
theorem d66_27 : decode (xB 66) 27 = .ok (.getfield 11, 3) := by decide +kernel
theorem d66_30 : decode (xB 66) 30 = .ok (.iconst 0, 1) := by decide +kernel
theorem d66_31 : decode (xB 66) 31 = .ok (.iload_n 2, 1) := by decide +kernel
theorem d66_32 : decode (xB 66) 32 = .ok (.iadd, 1) := by decide +kernel
theorem d66_33 : decode (xB 66) 33 = .ok (.iaload, 1) := by decide +kernel
theorem d66_34 : decode (xB 66) 34 = .ok (.if_icmp .ne 7, 3) := by decide +kernel
theorem d66_37 : decode (xB 66) 37 = .ok (.iconst 1, 1) := by decide +kernel
theorem d66_38 : decode (xB 66) 38 = .ok (.goto 4, 3) := by decide +kernel
theorem d66_41 : decode (xB 66) 41 = .ok (.iconst 0, 1) := by decide +kernel
theorem d66_42 : decode (xB 66) 42 = .ok (.ireturn, 1) := by decide +kernel
theorem b66_0 {d : Nat} {P : xPr} {Q : xQr} {r : Nat} {mem : Nat → Nat → Int32} (hP : Cl d none 66 P Q) {s : Nat} {p0 : Int32} {p1 : Int32} (hs : isState s)
    (k : xCall d 61 [.ref s, .int p0] (LAY, RFu r, mem) (Bk P 2 [.ref s, .int p0, .int p1] [] (0, 0))) : P 0 [.ref s, .int p0, .int p1] [] (0, 0) (LAY, RFu r, mem) := by
  refine r_aload_n hP d66_0 rfl ?_
  refine r_iload_n hP d66_1 rfl ?_
  exact r_callv (As := [.int p0]) (S := []) hP d66_2 cr_8_30 (by decide +kernel) rfl (by simp [Value.category]) rfl (lt_8 hs) (by simp [Value.category]) ⟨Nat.zero_le _, Nat.zero_le _⟩ k
theorem b66_5 {d : Nat} {P : xPr} {Q : xQr} {r : Nat} {mem : Nat → Nat → Int32} (hP : Cl d none 66 P Q) {s : Nat} {x1 : Int32} {x2 : Int32} {y0 : Int32} (hs : isState s)
    (kt : ¬ y0 = (nI 2) → P 41 [.ref s, .int x1, .int x2] [] (0, 0) (LAY, RFu r, mem)) (kf : y0 = (nI 2) → P 9 [.ref s, .int x1, .int x2] [] (0, 0) (LAY, RFu r, mem)) : P 5 [.ref s, .int x1, .int x2] [.int y0] (0, 0) (LAY, RFu r, mem) := by
  refine r_iconst (v := nI 2) hP d66_5 rfl ?_
  exact r_icmp (t := 41) hP d66_6 (by decide) kt (fun q => kf (Decidable.of_not_not q))
theorem b66_9 {d : Nat} {P : xPr} {Q : xQr} {r : Nat} {mem : Nat → Nat → Int32} (hP : Cl d none 66 P Q) {s : Nat} {x1 : Int32} {x2 : Int32} (hs : isState s)
    (k : xCall d 61 [.ref s, .int x2] (LAY, RFu r, mem) (Bk P 11 [.ref s, .int x1, .int x2] [] (0, 0))) : P 9 [.ref s, .int x1, .int x2] [] (0, 0) (LAY, RFu r, mem) := by
  refine r_aload_n hP d66_9 rfl ?_
  refine r_iload_n hP d66_10 rfl ?_
  exact r_callv (As := [.int x2]) (S := []) hP d66_11 cr_8_30 (by decide +kernel) rfl (by simp [Value.category]) rfl (lt_8 hs) (by simp [Value.category]) ⟨Nat.zero_le _, Nat.zero_le _⟩ k
theorem b66_14 {d : Nat} {P : xPr} {Q : xQr} {r : Nat} {mem : Nat → Nat → Int32} (hP : Cl d none 66 P Q) {s : Nat} {x1 : Int32} {x2 : Int32} {y0 : Int32} (hs : isState s)
    (kt : ¬ y0 = (nI 2) → P 41 [.ref s, .int x1, .int x2] [] (0, 0) (LAY, RFu r, mem)) (kf : y0 = (nI 2) → P 18 [.ref s, .int x1, .int x2] [] (0, 0) (LAY, RFu r, mem)) : P 14 [.ref s, .int x1, .int x2] [.int y0] (0, 0) (LAY, RFu r, mem) := by
  refine r_iconst (v := nI 2) hP d66_14 rfl ?_
  exact r_icmp (t := 41) hP d66_15 (by decide) kt (fun q => kf (Decidable.of_not_not q))
theorem b66_18 {d : Nat} {P : xPr} {Q : xQr} {r : Nat} {mem : Nat → Nat → Int32} (hP : Cl d none 66 P Q) {s : Nat} {x1 : Int32} {x2 : Int32} (hs : isState s) (hi25 : vp_in ((nI 0) + x1) 121) (hi33 : vp_in ((nI 0) + x2) 121)
    (kt : ¬ (mem (s + 1) ((nI 0) + x1).toNatClampNeg) = (mem (s + 1) ((nI 0) + x2).toNatClampNeg) → P 41 [.ref s, .int x1, .int x2] [] (0, 0) (LAY, RFu r, mem)) (kf : (mem (s + 1) ((nI 0) + x1).toNatClampNeg) = (mem (s + 1) ((nI 0) + x2).toNatClampNeg) → P 37 [.ref s, .int x1, .int x2] [] (0, 0) (LAY, RFu r, mem)) : P 18 [.ref s, .int x1, .int x2] [] (0, 0) (LAY, RFu r, mem) := by
  refine r_aload_n hP d66_18 rfl ?_
  refine r_getr (a := (s + 1)) hP d66_19 fr_8_11 rfl (lt_8 hs) (rt_8_0 hs) ?_
  refine r_iconst (v := nI 0) hP d66_22 rfl ?_
  refine r_iload_n hP d66_23 rfl ?_
  refine r_iadd hP d66_24 ?_
  refine r_iaload hP d66_25 (lt_8_0 hs) hi25 ?_
  refine r_aload_n hP d66_26 rfl ?_
  refine r_getr (a := (s + 1)) hP d66_27 fr_8_11 rfl (lt_8 hs) (rt_8_0 hs) ?_
  refine r_iconst (v := nI 0) hP d66_30 rfl ?_
  refine r_iload_n hP d66_31 rfl ?_
  refine r_iadd hP d66_32 ?_
  refine r_iaload hP d66_33 (lt_8_0 hs) hi33 ?_
  exact r_icmp (t := 41) hP d66_34 (by decide) kt (fun q => kf (Decidable.of_not_not q))
theorem b66_37 {d : Nat} {P : xPr} {Q : xQr} {r : Nat} {mem : Nat → Nat → Int32} (hP : Cl d none 66 P Q) {s : Nat} {v0 : Value} {v1 : Value} {v2 : Value} (hs : isState s)
    (k : P 42 [v0, v1, v2] [.int (nI 1)] (0, 0) (LAY, RFu r, mem)) : P 37 [v0, v1, v2] [] (0, 0) (LAY, RFu r, mem) := by
  refine r_iconst (v := nI 1) hP d66_37 rfl ?_
  refine r_goto (t := 42) hP d66_38 (by decide) ?_
  exact k
theorem b66_41 {d : Nat} {P : xPr} {Q : xQr} {r : Nat} {mem : Nat → Nat → Int32} (hP : Cl d none 66 P Q) {s : Nat} {v0 : Value} {v1 : Value} {v2 : Value} (hs : isState s)
    (k : P 42 [v0, v1, v2] [.int (nI 0)] (0, 0) (LAY, RFu r, mem)) : P 41 [v0, v1, v2] [] (0, 0) (LAY, RFu r, mem) := by
  refine r_iconst (v := nI 0) hP d66_41 rfl ?_
  exact k
theorem b66_42 {d : Nat} {P : xPr} {Q : xQr} {r : Nat} {mem : Nat → Nat → Int32} (hP : Cl d none 66 P Q) {s : Nat} {v0 : Value} {v1 : Value} {v2 : Value} {y0 : Int32} (hs : isState s) (hzr : y0 = 0 ∨ y0 = 1)
    (k : Q (some (.int y0)) (LAY, RFu r, mem)) : P 42 [v0, v1, v2] [.int y0] (0, 0) (LAY, RFu r, mem) := by
  exact r_zret hP d66_42 rfl hzr k
theorem d67_0 : decode (xB 67) 0 = .ok (.aload_n 0, 1) := by decide +kernel
theorem d67_1 : decode (xB 67) 1 = .ok (.getfield 11, 3) := by decide +kernel
theorem d67_4 : decode (xB 67) 4 = .ok (.bipush 56, 2) := by decide +kernel
theorem d67_6 : decode (xB 67) 6 = .ok (.iload_n 1, 1) := by decide +kernel
theorem d67_7 : decode (xB 67) 7 = .ok (.bipush 8, 2) := by decide +kernel
theorem d67_9 : decode (xB 67) 9 = .ok (.imul, 1) := by decide +kernel
theorem d67_10 : decode (xB 67) 10 = .ok (.iadd, 1) := by decide +kernel
theorem d67_11 : decode (xB 67) 11 = .ok (.iload_n 2, 1) := by decide +kernel
theorem d67_12 : decode (xB 67) 12 = .ok (.iadd, 1) := by decide +kernel
theorem d67_13 : decode (xB 67) 13 = .ok (.iaload, 1) := by decide +kernel
theorem d67_14 : decode (xB 67) 14 = .ok (.ireturn, 1) := by decide +kernel
theorem b67_0 {d : Nat} {P : xPr} {Q : xQr} {r : Nat} {mem : Nat → Nat → Int32} (hP : Cl d none 67 P Q) {s : Nat} {p0 : Int32} {p1 : Int32} (hs : isState s) (hi13 : vp_in (((nI 56) + (p0 * (nI 8))) + p1) 121)
    (k : Q (some (.int (mem (s + 1) (((nI 56) + (p0 * (nI 8))) + p1).toNatClampNeg))) (LAY, RFu r, mem)) : P 0 [.ref s, .int p0, .int p1] [] (0, 0) (LAY, RFu r, mem) := by
  refine r_aload_n hP d67_0 rfl ?_
  refine r_getr (a := (s + 1)) hP d67_1 fr_8_11 rfl (lt_8 hs) (rt_8_0 hs) ?_
  refine r_bipush (v := nI 56) hP d67_4 rfl ?_
  refine r_iload_n hP d67_6 rfl ?_
  refine r_bipush (v := nI 8) hP d67_7 rfl ?_
  refine r_imul hP d67_9 ?_
  refine r_iadd hP d67_10 ?_
  refine r_iload_n hP d67_11 rfl ?_
  refine r_iadd hP d67_12 ?_
  refine r_iaload hP d67_13 (lt_8_0 hs) hi13 ?_
  exact r_iret hP d67_14 rfl k
theorem d68_0 : decode (xB 68) 0 = .ok (.aload_n 0, 1) := by decide +kernel
theorem d68_1 : decode (xB 68) 1 = .ok (.getfield 11, 3) := by decide +kernel
theorem d68_4 : decode (xB 68) 4 = .ok (.bipush 48, 2) := by decide +kernel
theorem d68_6 : decode (xB 68) 6 = .ok (.iload_n 1, 1) := by decide +kernel
theorem d68_7 : decode (xB 68) 7 = .ok (.iadd, 1) := by decide +kernel
theorem d68_8 : decode (xB 68) 8 = .ok (.dup2, 1) := by decide +kernel
theorem d68_9 : decode (xB 68) 9 = .ok (.iaload, 1) := by decide +kernel
theorem d68_10 : decode (xB 68) 10 = .ok (.iload_n 3, 1) := by decide +kernel
theorem d68_11 : decode (xB 68) 11 = .ok (.iadd, 1) := by decide +kernel
theorem d68_12 : decode (xB 68) 12 = .ok (.iastore, 1) := by decide +kernel
theorem d68_13 : decode (xB 68) 13 = .ok (.aload_n 0, 1) := by decide +kernel
theorem d68_14 : decode (xB 68) 14 = .ok (.getfield 11, 3) := by decide +kernel
theorem d68_17 : decode (xB 68) 17 = .ok (.bipush 48, 2) := by decide +kernel
theorem d68_19 : decode (xB 68) 19 = .ok (.iload_n 2, 1) := by decide +kernel
theorem d68_20 : decode (xB 68) 20 = .ok (.iadd, 1) := by decide +kernel
theorem d68_21 : decode (xB 68) 21 = .ok (.dup2, 1) := by decide +kernel
theorem d68_22 : decode (xB 68) 22 = .ok (.iaload, 1) := by decide +kernel
theorem d68_23 : decode (xB 68) 23 = .ok (.iload_n 3, 1) := by decide +kernel
theorem d68_24 : decode (xB 68) 24 = .ok (.isub, 1) := by decide +kernel
theorem d68_25 : decode (xB 68) 25 = .ok (.iastore, 1) := by decide +kernel
theorem d68_26 : decode (xB 68) 26 = .ok (.return_, 1) := by decide +kernel
theorem b68_0 {d : Nat} {P : xPr} {Q : xQr} {r : Nat} {mem : Nat → Nat → Int32} (hP : Cl d none 68 P Q) {s : Nat} {p0 : Int32} {p1 : Int32} {p2 : Int32} (hs : isState s) (hi9 : vp_in ((nI 48) + p0) 121) (hi12 : vp_in ((nI 48) + p0) 121) (hi22 : vp_in ((nI 48) + p1) 121) (hi25 : vp_in ((nI 48) + p1) 121)
    (k : Q none (LAY, RFu r, xu2 (xu2 mem (s + 1) ((nI 48) + p0).toNatClampNeg ((mem (s + 1) ((nI 48) + p0).toNatClampNeg) + p2)) (s + 1) ((nI 48) + p1).toNatClampNeg (((xu2 mem (s + 1) ((nI 48) + p0).toNatClampNeg ((mem (s + 1) ((nI 48) + p0).toNatClampNeg) + p2)) (s + 1) ((nI 48) + p1).toNatClampNeg) - p2))) : P 0 [.ref s, .int p0, .int p1, .int p2] [] (0, 0) (LAY, RFu r, mem) := by
  refine r_aload_n hP d68_0 rfl ?_
  refine r_getr (a := (s + 1)) hP d68_1 fr_8_11 rfl (lt_8 hs) (rt_8_0 hs) ?_
  refine r_bipush (v := nI 48) hP d68_4 rfl ?_
  refine r_iload_n hP d68_6 rfl ?_
  refine r_iadd hP d68_7 ?_
  refine r_dup2 hP d68_8 rfl rfl ?_
  refine r_iaload hP d68_9 (lt_8_0 hs) hi9 ?_
  refine r_iload_n hP d68_10 rfl ?_
  refine r_iadd hP d68_11 ?_
  refine r_iastore hP d68_12 (lt_8_0 hs) hi12 ?_
  refine r_aload_n hP d68_13 rfl ?_
  refine r_getr (a := (s + 1)) hP d68_14 fr_8_11 rfl (lt_8 hs) (rt_8_0 hs) ?_
  refine r_bipush (v := nI 48) hP d68_17 rfl ?_
  refine r_iload_n hP d68_19 rfl ?_
  refine r_iadd hP d68_20 ?_
  refine r_dup2 hP d68_21 rfl rfl ?_
  refine r_iaload hP d68_22 (lt_8_0 hs) hi22 ?_
  refine r_iload_n hP d68_23 rfl ?_
  refine r_isub hP d68_24 ?_
  refine r_iastore hP d68_25 (lt_8_0 hs) hi25 ?_
  exact r_vret hP d68_26 rfl k
theorem d69_0 : decode (xB 69) 0 = .ok (.aload_n 0, 1) := by decide +kernel
theorem d69_1 : decode (xB 69) 1 = .ok (.getfield 11, 3) := by decide +kernel
theorem d69_4 : decode (xB 69) 4 = .ok (.bipush 8, 2) := by decide +kernel
theorem d69_6 : decode (xB 69) 6 = .ok (.iload_n 1, 1) := by decide +kernel
theorem d69_7 : decode (xB 69) 7 = .ok (.iadd, 1) := by decide +kernel
theorem d69_8 : decode (xB 69) 8 = .ok (.iconst 1, 1) := by decide +kernel
theorem d69_9 : decode (xB 69) 9 = .ok (.iastore, 1) := by decide +kernel
theorem d69_10 : decode (xB 69) 10 = .ok (.aload_n 0, 1) := by decide +kernel
theorem d69_11 : decode (xB 69) 11 = .ok (.getfield 11, 3) := by decide +kernel
theorem d69_14 : decode (xB 69) 14 = .ok (.bipush 8, 2) := by decide +kernel
theorem d69_16 : decode (xB 69) 16 = .ok (.iload_n 2, 1) := by decide +kernel
theorem d69_17 : decode (xB 69) 17 = .ok (.iadd, 1) := by decide +kernel
theorem d69_18 : decode (xB 69) 18 = .ok (.iconst 2, 1) := by decide +kernel
theorem d69_19 : decode (xB 69) 19 = .ok (.iastore, 1) := by decide +kernel
theorem d69_20 : decode (xB 69) 20 = .ok (.aload_n 0, 1) := by decide +kernel
theorem d69_21 : decode (xB 69) 21 = .ok (.getfield 11, 3) := by decide +kernel
theorem d69_24 : decode (xB 69) 24 = .ok (.bipush 56, 2) := by decide +kernel
theorem d69_26 : decode (xB 69) 26 = .ok (.iload_n 1, 1) := by decide +kernel
theorem d69_27 : decode (xB 69) 27 = .ok (.bipush 8, 2) := by decide +kernel
theorem d69_29 : decode (xB 69) 29 = .ok (.imul, 1) := by decide +kernel
theorem d69_30 : decode (xB 69) 30 = .ok (.iadd, 1) := by decide +kernel
theorem d69_31 : decode (xB 69) 31 = .ok (.iload_n 2, 1) := by decide +kernel
theorem d69_32 : decode (xB 69) 32 = .ok (.iadd, 1) := by decide +kernel
theorem d69_33 : decode (xB 69) 33 = .ok (.dup2, 1) := by decide +kernel
theorem d69_34 : decode (xB 69) 34 = .ok (.iaload, 1) := by decide +kernel
theorem d69_35 : decode (xB 69) 35 = .ok (.iconst 1, 1) := by decide +kernel
theorem d69_36 : decode (xB 69) 36 = .ok (.iadd, 1) := by decide +kernel
theorem d69_37 : decode (xB 69) 37 = .ok (.iastore, 1) := by decide +kernel
theorem d69_38 : decode (xB 69) 38 = .ok (.aload_n 0, 1) := by decide +kernel
theorem d69_39 : decode (xB 69) 39 = .ok (.iload_n 1, 1) := by decide +kernel
theorem d69_40 : decode (xB 69) 40 = .ok (.iload_n 2, 1) := by decide +kernel
theorem d69_41 : decode (xB 69) 41 = .ok (.iconst 1, 1) := by decide +kernel
theorem d69_42 : decode (xB 69) 42 = .ok (.invokevirtual 34, 3) := by decide +kernel
theorem d69_45 : decode (xB 69) 45 = .ok (.return_, 1) := by decide +kernel
theorem b69_0 {d : Nat} {P : xPr} {Q : xQr} {r : Nat} {mem : Nat → Nat → Int32} (hP : Cl d none 69 P Q) {s : Nat} {p0 : Int32} {p1 : Int32} (hs : isState s) (hi9 : vp_in ((nI 8) + p0) 121) (hi19 : vp_in ((nI 8) + p1) 121) (hi34 : vp_in (((nI 56) + (p0 * (nI 8))) + p1) 121) (hi37 : vp_in (((nI 56) + (p0 * (nI 8))) + p1) 121)
    (k : xCall d 68 [.ref s, .int p0, .int p1, .int (nI 1)] (LAY, RFu r, xu2 (xu2 (xu2 mem (s + 1) ((nI 8) + p0).toNatClampNeg (nI 1)) (s + 1) ((nI 8) + p1).toNatClampNeg (nI 2)) (s + 1) (((nI 56) + (p0 * (nI 8))) + p1).toNatClampNeg (((xu2 (xu2 mem (s + 1) ((nI 8) + p0).toNatClampNeg (nI 1)) (s + 1) ((nI 8) + p1).toNatClampNeg (nI 2)) (s + 1) (((nI 56) + (p0 * (nI 8))) + p1).toNatClampNeg) + (nI 1))) (Bk P 42 [.ref s, .int p0, .int p1] [] (0, 0))) : P 0 [.ref s, .int p0, .int p1] [] (0, 0) (LAY, RFu r, mem) := by
  refine r_aload_n hP d69_0 rfl ?_
  refine r_getr (a := (s + 1)) hP d69_1 fr_8_11 rfl (lt_8 hs) (rt_8_0 hs) ?_
  refine r_bipush (v := nI 8) hP d69_4 rfl ?_
  refine r_iload_n hP d69_6 rfl ?_
  refine r_iadd hP d69_7 ?_
  refine r_iconst (v := nI 1) hP d69_8 rfl ?_
  refine r_iastore hP d69_9 (lt_8_0 hs) hi9 ?_
  refine r_aload_n hP d69_10 rfl ?_
  refine r_getr (a := (s + 1)) hP d69_11 fr_8_11 rfl (lt_8 hs) (rt_8_0 hs) ?_
  refine r_bipush (v := nI 8) hP d69_14 rfl ?_
  refine r_iload_n hP d69_16 rfl ?_
  refine r_iadd hP d69_17 ?_
  refine r_iconst (v := nI 2) hP d69_18 rfl ?_
  refine r_iastore hP d69_19 (lt_8_0 hs) hi19 ?_
  refine r_aload_n hP d69_20 rfl ?_
  refine r_getr (a := (s + 1)) hP d69_21 fr_8_11 rfl (lt_8 hs) (rt_8_0 hs) ?_
  refine r_bipush (v := nI 56) hP d69_24 rfl ?_
  refine r_iload_n hP d69_26 rfl ?_
  refine r_bipush (v := nI 8) hP d69_27 rfl ?_
  refine r_imul hP d69_29 ?_
  refine r_iadd hP d69_30 ?_
  refine r_iload_n hP d69_31 rfl ?_
  refine r_iadd hP d69_32 ?_
  refine r_dup2 hP d69_33 rfl rfl ?_
  refine r_iaload hP d69_34 (lt_8_0 hs) hi34 ?_
  refine r_iconst (v := nI 1) hP d69_35 rfl ?_
  refine r_iadd hP d69_36 ?_
  refine r_iastore hP d69_37 (lt_8_0 hs) hi37 ?_
  refine r_aload_n hP d69_38 rfl ?_
  refine r_iload_n hP d69_39 rfl ?_
  refine r_iload_n hP d69_40 rfl ?_
  refine r_iconst (v := nI 1) hP d69_41 rfl ?_
  exact r_callv (As := [.int p0, .int p1, .int (nI 1)]) (S := []) hP d69_42 cr_8_34 (by decide +kernel) rfl (by simp [Value.category]) rfl (lt_8 hs) (by simp [Value.category]) ⟨Nat.zero_le _, Nat.zero_le _⟩ k
theorem b69_45 {d : Nat} {P : xPr} {Q : xQr} {r : Nat} {mem : Nat → Nat → Int32} (hP : Cl d none 69 P Q) {s : Nat} {v0 : Value} {v1 : Value} {v2 : Value} (hs : isState s)
    (k : Q none (LAY, RFu r, mem)) : P 45 [v0, v1, v2] [] (0, 0) (LAY, RFu r, mem) := by
  exact r_vret hP d69_45 rfl k
theorem d71_0 : decode (xB 71) 0 = .ok (.aload_n 0, 1) := by decide +kernel
theorem d71_1 : decode (xB 71) 1 = .ok (.getfield 15, 3) := by decide +kernel
theorem d71_4 : decode (xB 71) 4 = .ok (.iconst 4, 1) := by decide +kernel
theorem d71_5 : decode (xB 71) 5 = .ok (.iadd, 1) := by decide +kernel
theorem d71_6 : decode (xB 71) 6 = .ok (.bipush 80, 2) := by decide +kernel
theorem d71_8 : decode (xB 71) 8 = .ok (.if_icmp .le 5, 3) := by decide +kernel
theorem d71_11 : decode (xB 71) 11 = .ok (.iconst 0, 1) := by decide +kernel
theorem d71_12 : decode (xB 71) 12 = .ok (.ireturn, 1) := by decide +kernel
theorem d71_13 : decode (xB 71) 13 = .ok (.iconst 0, 1) := by decide +kernel
theorem d71_14 : decode (xB 71) 14 = .ok (.istore_n 2, 1) := by decide +kernel
theorem d71_15 : decode (xB 71) 15 = .ok (.iload_n 2, 1) := by decide +kernel
theorem d71_16 : decode (xB 71) 16 = .ok (.iconst 4, 1) := by decide +kernel
theorem d71_17 : decode (xB 71) 17 = .ok (.if_icmp .ge 33, 3) := by decide +kernel
theorem d71_20 : decode (xB 71) 20 = .ok (.aload_n 0, 1) := by decide +kernel
theorem d71_21 : decode (xB 71) 21 = .ok (.getfield 11, 3) := by decide +kernel
theorem d71_24 : decode (xB 71) 24 = .ok (.aload_n 0, 1) := by decide +kernel
theorem d71_25 : decode (xB 71) 25 = .ok (.getfield 15, 3) := by decide +kernel
theorem d71_28 : decode (xB 71) 28 = .ok (.iload_n 2, 1) := by decide +kernel
theorem d71_29 : decode (xB 71) 29 = .ok (.iadd, 1) := by decide +kernel
theorem d71_30 : decode (xB 71) 30 = .ok (.iload_n 1, 1) := by decide +kernel
theorem d71_31 : decode (xB 71) 31 = .ok (.bipush 24, 2) := by decide +kernel
theorem d71_33 : decode (xB 71) 33 = .ok (.bipush 8, 2) := by decide +kernel
theorem d71_35 : decode (xB 71) 35 = .ok (.iload_n 2, 1) := by decide +kernel
theorem d71_36 : decode (xB 71) 36 = .ok (.imul, 1) := by decide +kernel
theorem d71_37 : decode (xB 71) 37 = .ok (.isub, 1) := by decide +kernel
theorem d71_38 : decode (xB 71) 38 = .ok (.iushr, 1) := by decide +kernel
theorem d71_39 : decode (xB 71) 39 = .ok (.sipush 255, 3) := by decide +kernel
theorem d71_42 : decode (xB 71) 42 = .ok (.iand, 1) := by decide +kernel
theorem d71_43 : decode (xB 71) 43 = .ok (.iastore, 1) := by decide +kernel
theorem d71_44 : decode (xB 71) 44 = .ok (.iinc 2 1, 3) := by decide +kernel
theorem d71_47 : decode (xB 71) 47 = .ok (.goto (-32), 3) := by decide +kernel
theorem d71_50 : decode (xB 71) 50 = .ok (.aload_n 0, 1) := by decide +kernel
theorem d71_51 : decode (xB 71) 51 = .ok (.dup, 1) := by decide +kernel
theorem d71_52 : decode (xB 71) 52 = .ok (.getfield 15, 3) := by decide +kernel
theorem d71_55 : decode (xB 71) 55 = .ok (.iconst 4, 1) := by decide +kernel
theorem d71_56 : decode (xB 71) 56 = .ok (.iadd, 1) := by decide +kernel
theorem d71_57 : decode (xB 71) 57 = .ok (.putfield 15, 3) := by decide +kernel
theorem d71_60 : decode (xB 71) 60 = .ok (.iconst 1, 1) := by decide +kernel
theorem d71_61 : decode (xB 71) 61 = .ok (.ireturn, 1) := by decide +kernel
theorem b71_0 {d : Nat} {P : xPr} {Q : xQr} {r : Nat} {mem : Nat → Nat → Int32} (hP : Cl d none 71 P Q) {p0 : Int32}
    (kt : ((mem 1 1) + (nI 4)) ≤ (nI 80) → P 13 [.ref 1, .int p0, .null] [] (0, 0) (LAY, RFu r, mem)) (kf : ¬ ((mem 1 1) + (nI 4)) ≤ (nI 80) → P 11 [.ref 1, .int p0, .null] [] (0, 0) (LAY, RFu r, mem)) : P 0 [.ref 1, .int p0, .null] [] (0, 0) (LAY, RFu r, mem) := by
  refine r_aload_n hP d71_0 rfl ?_
  refine r_geti hP d71_1 fr_9_15 rfl ly_1 ?_
  refine r_iconst (v := nI 4) hP d71_4 rfl ?_
  refine r_iadd hP d71_5 ?_
  refine r_bipush (v := nI 80) hP d71_6 rfl ?_
  exact r_icmp (t := 13) hP d71_8 (by decide) kt kf
theorem b71_11 {d : Nat} {P : xPr} {Q : xQr} {r : Nat} {mem : Nat → Nat → Int32} (hP : Cl d none 71 P Q) {v0 : Value} {v1 : Value} {v2 : Value} (hzr : nI 0 = 0 ∨ nI 0 = 1)
    (k : Q (some (.int (nI 0))) (LAY, RFu r, mem)) : P 11 [v0, v1, v2] [] (0, 0) (LAY, RFu r, mem) := by
  refine r_iconst (v := nI 0) hP d71_11 rfl ?_
  exact r_zret hP d71_12 rfl hzr k
theorem b71_13 {d : Nat} {P : xPr} {Q : xQr} {r : Nat} {mem : Nat → Nat → Int32} (hP : Cl d none 71 P Q) {x1 : Int32} {v2 : Value}
    (k : P 15 [.ref 1, .int x1, .int (nI 0)] [] (0, 0) (LAY, RFu r, mem)) : P 13 [.ref 1, .int x1, v2] [] (0, 0) (LAY, RFu r, mem) := by
  refine r_iconst (v := nI 0) hP d71_13 rfl ?_
  refine r_istore_n (L' := [.ref 1, .int x1, .int (nI 0)]) hP d71_14 (Nat.le_of_ble_eq_true rfl) rfl ?_
  exact k
theorem b71_15 {d : Nat} {P : xPr} {Q : xQr} {r : Nat} {mem : Nat → Nat → Int32} (hP : Cl d none 71 P Q) {x1 : Int32} {x2 : Int32}
    (kt : (nI 4) ≤ x2 → P 50 [.ref 1, .int x1, .int x2] [] (0, 0) (LAY, RFu r, mem)) (kf : ¬ (nI 4) ≤ x2 → P 20 [.ref 1, .int x1, .int x2] [] (0, 0) (LAY, RFu r, mem)) : P 15 [.ref 1, .int x1, .int x2] [] (0, 0) (LAY, RFu r, mem) := by
  refine r_iload_n hP d71_15 rfl ?_
  refine r_iconst (v := nI 4) hP d71_16 rfl ?_
  exact r_icmp (t := 50) hP d71_17 (by decide) kt kf
theorem b71_20 {d : Nat} {P : xPr} {Q : xQr} {r : Nat} {mem : Nat → Nat → Int32} (hP : Cl d none 71 P Q) {x1 : Int32} {x2 : Int32} (hi43 : vp_in ((mem 1 1) + x2) 80)
    (k : P 15 [.ref 1, .int x1, .int (x2 + nI 1)] [] (0, 0) (LAY, RFu r, xu2 mem 2 ((mem 1 1) + x2).toNatClampNeg (((x1.toUInt32 >>> (((nI 24) - ((nI 8) * x2)).toUInt32 &&& Int32.toUInt32 31)).toInt32) &&& (nI 255)))) : P 20 [.ref 1, .int x1, .int x2] [] (0, 0) (LAY, RFu r, mem) := by
  refine r_aload_n hP d71_20 rfl ?_
  refine r_getr (a := 2) hP d71_21 fr_9_11 rfl ly_1 rg_1_0 ?_
  refine r_aload_n hP d71_24 rfl ?_
  refine r_geti hP d71_25 fr_9_15 rfl ly_1 ?_
  refine r_iload_n hP d71_28 rfl ?_
  refine r_iadd hP d71_29 ?_
  refine r_iload_n hP d71_30 rfl ?_
  refine r_bipush (v := nI 24) hP d71_31 rfl ?_
  refine r_bipush (v := nI 8) hP d71_33 rfl ?_
  refine r_iload_n hP d71_35 rfl ?_
  refine r_imul hP d71_36 ?_
  refine r_isub hP d71_37 ?_
  refine r_iushr hP d71_38 ?_
  refine r_sipush (v := nI 255) hP d71_39 rfl ?_
  refine r_iand hP d71_42 ?_
  refine r_iastore hP d71_43 ly_2 hi43 ?_
  refine r_iinc (v := nI 1) (L' := [.ref 1, .int x1, .int (x2 + nI 1)]) hP d71_44 rfl rfl rfl ?_
  refine r_goto (t := 15) hP d71_47 (by decide) ?_
  exact k
theorem b71_50 {d : Nat} {P : xPr} {Q : xQr} {r : Nat} {mem : Nat → Nat → Int32} (hP : Cl d none 71 P Q) {v1 : Value} {v2 : Value} (hzr : nI 1 = 0 ∨ nI 1 = 1)
    (k : Q (some (.int (nI 1))) (LAY, RFu r, xu2 mem 1 1 ((mem 1 1) + (nI 4)))) : P 50 [.ref 1, v1, v2] [] (0, 0) (LAY, RFu r, mem) := by
  refine r_aload_n hP d71_50 rfl ?_
  refine r_dup hP d71_51 rfl ?_
  refine r_geti hP d71_52 fr_9_15 rfl ly_1 ?_
  refine r_iconst (v := nI 4) hP d71_55 rfl ?_
  refine r_iadd hP d71_56 ?_
  refine r_puti hP d71_57 fr_9_15 rfl (fun q => by cases q) ly_1 ?_
  refine r_iconst (v := nI 1) hP d71_60 rfl ?_
  exact r_zret hP d71_61 rfl hzr k
theorem d72_0 : decode (xB 72) 0 = .ok (.iload_n 1, 1) := by decide +kernel
theorem d72_1 : decode (xB 72) 1 = .ok (.ifCond .lt 11, 3) := by decide +kernel
theorem d72_4 : decode (xB 72) 4 = .ok (.iload_n 1, 1) := by decide +kernel
theorem d72_5 : decode (xB 72) 5 = .ok (.aload_n 0, 1) := by decide +kernel
theorem d72_6 : decode (xB 72) 6 = .ok (.getfield 15, 3) := by decide +kernel
theorem d72_9 : decode (xB 72) 9 = .ok (.if_icmp .le 5, 3) := by decide +kernel
theorem d72_12 : decode (xB 72) 12 = .ok (.iconst 0, 1) := by decide +kernel
theorem d72_13 : decode (xB 72) 13 = .ok (.ireturn, 1) := by decide +kernel
theorem d72_14 : decode (xB 72) 14 = .ok (.aload_n 0, 1) := by decide +kernel
theorem d72_15 : decode (xB 72) 15 = .ok (.iload_n 1, 1) := by decide +kernel
theorem d72_16 : decode (xB 72) 16 = .ok (.putfield 15, 3) := by decide +kernel
theorem d72_19 : decode (xB 72) 19 = .ok (.iconst 1, 1) := by decide +kernel
theorem d72_20 : decode (xB 72) 20 = .ok (.ireturn, 1) := by decide +kernel
theorem b72_0 {d : Nat} {P : xPr} {Q : xQr} {r : Nat} {mem : Nat → Nat → Int32} (hP : Cl d none 72 P Q) {p0 : Int32}
    (kt : p0 < 0 → P 12 [.ref 1, .int p0] [] (0, 0) (LAY, RFu r, mem)) (kf : ¬ p0 < 0 → P 4 [.ref 1, .int p0] [] (0, 0) (LAY, RFu r, mem)) : P 0 [.ref 1, .int p0] [] (0, 0) (LAY, RFu r, mem) := by
  refine r_iload_n hP d72_0 rfl ?_
  exact r_if (t := 12) hP d72_1 (by decide) kt kf
theorem b72_4 {d : Nat} {P : xPr} {Q : xQr} {r : Nat} {mem : Nat → Nat → Int32} (hP : Cl d none 72 P Q) {x1 : Int32}
    (kt : x1 ≤ (mem 1 1) → P 14 [.ref 1, .int x1] [] (0, 0) (LAY, RFu r, mem)) (kf : ¬ x1 ≤ (mem 1 1) → P 12 [.ref 1, .int x1] [] (0, 0) (LAY, RFu r, mem)) : P 4 [.ref 1, .int x1] [] (0, 0) (LAY, RFu r, mem) := by
  refine r_iload_n hP d72_4 rfl ?_
  refine r_aload_n hP d72_5 rfl ?_
  refine r_geti hP d72_6 fr_9_15 rfl ly_1 ?_
  exact r_icmp (t := 14) hP d72_9 (by decide) kt kf
theorem b72_12 {d : Nat} {P : xPr} {Q : xQr} {r : Nat} {mem : Nat → Nat → Int32} (hP : Cl d none 72 P Q) {v0 : Value} {v1 : Value} (hzr : nI 0 = 0 ∨ nI 0 = 1)
    (k : Q (some (.int (nI 0))) (LAY, RFu r, mem)) : P 12 [v0, v1] [] (0, 0) (LAY, RFu r, mem) := by
  refine r_iconst (v := nI 0) hP d72_12 rfl ?_
  exact r_zret hP d72_13 rfl hzr k
theorem b72_14 {d : Nat} {P : xPr} {Q : xQr} {r : Nat} {mem : Nat → Nat → Int32} (hP : Cl d none 72 P Q) {x1 : Int32} (hzr : nI 1 = 0 ∨ nI 1 = 1)
    (k : Q (some (.int (nI 1))) (LAY, RFu r, xu2 mem 1 1 x1)) : P 14 [.ref 1, .int x1] [] (0, 0) (LAY, RFu r, mem) := by
  refine r_aload_n hP d72_14 rfl ?_
  refine r_iload_n hP d72_15 rfl ?_
  refine r_puti hP d72_16 fr_9_15 rfl (fun q => by cases q) ly_1 ?_
  refine r_iconst (v := nI 1) hP d72_19 rfl ?_
  exact r_zret hP d72_20 rfl hzr k
theorem d73_0 : decode (xB 73) 0 = .ok (.aload_n 0, 1) := by decide +kernel
theorem d73_1 : decode (xB 73) 1 = .ok (.iconst 0, 1) := by decide +kernel
theorem d73_2 : decode (xB 73) 2 = .ok (.putfield 15, 3) := by decide +kernel
theorem d73_5 : decode (xB 73) 5 = .ok (.return_, 1) := by decide +kernel
theorem b73_0 {d : Nat} {P : xPr} {Q : xQr} {r : Nat} {mem : Nat → Nat → Int32} (hP : Cl d none 73 P Q)
    (k : Q none (LAY, RFu r, xu2 mem 1 1 (nI 0))) : P 0 [.ref 1] [] (0, 0) (LAY, RFu r, mem) := by
  refine r_aload_n hP d73_0 rfl ?_
  refine r_iconst (v := nI 0) hP d73_1 rfl ?_
  refine r_puti hP d73_2 fr_9_15 rfl (fun q => by cases q) ly_1 ?_
  exact r_vret hP d73_5 rfl k
theorem d74_0 : decode (xB 74) 0 = .ok (.aload_n 0, 1) := by decide +kernel
theorem d74_1 : decode (xB 74) 1 = .ok (.iconst 0, 1) := by decide +kernel
theorem d74_2 : decode (xB 74) 2 = .ok (.putfield 19, 3) := by decide +kernel
theorem d74_5 : decode (xB 74) 5 = .ok (.aload_n 0, 1) := by decide +kernel
theorem d74_6 : decode (xB 74) 6 = .ok (.aload_n 0, 1) := by decide +kernel
theorem d74_7 : decode (xB 74) 7 = .ok (.getfield 15, 3) := by decide +kernel
theorem d74_10 : decode (xB 74) 10 = .ok (.iload_n 1, 1) := by decide +kernel
theorem d74_11 : decode (xB 74) 11 = .ok (.invokestatic 22, 3) := by decide +kernel
theorem d74_14 : decode (xB 74) 14 = .ok (.putfield 28, 3) := by decide +kernel
theorem d74_17 : decode (xB 74) 17 = .ok (.return_, 1) := by decide +kernel
theorem b74_0 {d : Nat} {P : xPr} {Q : xQr} {r : Nat} {mem : Nat → Nat → Int32} (hP : Cl d none 74 P Q) {p0 : Int32}
    (k : Q none (LAY, RFu r, xu2 (xu2 mem 1 2 (nI 0)) 1 3 (if p0 < (xu2 mem 1 2 (nI 0)) 1 1 then p0 else (xu2 mem 1 2 (nI 0)) 1 1))) : P 0 [.ref 1, .int p0] [] (0, 0) (LAY, RFu r, mem) := by
  refine r_aload_n hP d74_0 rfl ?_
  refine r_iconst (v := nI 0) hP d74_1 rfl ?_
  refine r_puti hP d74_2 fr_9_19 rfl (fun q => by cases q) ly_1 ?_
  refine r_aload_n hP d74_5 rfl ?_
  refine r_aload_n hP d74_6 rfl ?_
  refine r_geti hP d74_7 fr_9_15 rfl ly_1 ?_
  refine r_iload_n hP d74_10 rfl ?_
  refine r_min hP d74_11 cr_9_22 (by simp [Value.category]) ?_
  refine r_puti hP d74_14 fr_9_28 rfl (fun q => by cases q) ly_1 ?_
  exact r_vret hP d74_17 rfl k
theorem d75_0 : decode (xB 75) 0 = .ok (.aload_n 0, 1) := by decide +kernel
theorem d75_1 : decode (xB 75) 1 = .ok (.getfield 19, 3) := by decide +kernel
theorem d75_4 : decode (xB 75) 4 = .ok (.aload_n 0, 1) := by decide +kernel
theorem d75_5 : decode (xB 75) 5 = .ok (.getfield 28, 3) := by decide +kernel
theorem d75_8 : decode (xB 75) 8 = .ok (.if_icmp .ge 15, 3) := by decide +kernel
theorem d75_11 : decode (xB 75) 11 = .ok (.aload_n 0, 1) := by decide +kernel
theorem d75_12 : decode (xB 75) 12 = .ok (.getfield 11, 3) := by decide +kernel
theorem d75_15 : decode (xB 75) 15 = .ok (.aload_n 0, 1) := by decide +kernel
theorem d75_16 : decode (xB 75) 16 = .ok (.getfield 19, 3) := by decide +kernel
theorem d75_19 : decode (xB 75) 19 = .ok (.iaload, 1) := by decide +kernel
theorem d75_20 : decode (xB 75) 20 = .ok (.goto 4, 3) := by decide +kernel
theorem d75_23 : decode (xB 75) 23 = .ok (.iconst (-1), 1) := by decide +kernel
theorem d75_24 : decode (xB 75) 24 = .ok (.ireturn, 1) := by decide +kernel
theorem b75_0 {d : Nat} {P : xPr} {Q : xQr} {r : Nat} {mem : Nat → Nat → Int32} (hP : Cl d none 75 P Q)
    (kt : (mem 1 3) ≤ (mem 1 2) → P 23 [.ref 1] [] (0, 0) (LAY, RFu r, mem)) (kf : ¬ (mem 1 3) ≤ (mem 1 2) → P 11 [.ref 1] [] (0, 0) (LAY, RFu r, mem)) : P 0 [.ref 1] [] (0, 0) (LAY, RFu r, mem) := by
  refine r_aload_n hP d75_0 rfl ?_
  refine r_geti hP d75_1 fr_9_19 rfl ly_1 ?_
  refine r_aload_n hP d75_4 rfl ?_
  refine r_geti hP d75_5 fr_9_28 rfl ly_1 ?_
  exact r_icmp (t := 23) hP d75_8 (by decide) kt kf
theorem b75_11 {d : Nat} {P : xPr} {Q : xQr} {r : Nat} {mem : Nat → Nat → Int32} (hP : Cl d none 75 P Q) (hi19 : vp_in (mem 1 2) 80)
    (k : P 24 [.ref 1] [.int (mem 2 (mem 1 2).toNatClampNeg)] (0, 0) (LAY, RFu r, mem)) : P 11 [.ref 1] [] (0, 0) (LAY, RFu r, mem) := by
  refine r_aload_n hP d75_11 rfl ?_
  refine r_getr (a := 2) hP d75_12 fr_9_11 rfl ly_1 rg_1_0 ?_
  refine r_aload_n hP d75_15 rfl ?_
  refine r_geti hP d75_16 fr_9_19 rfl ly_1 ?_
  refine r_iaload hP d75_19 ly_2 hi19 ?_
  refine r_goto (t := 24) hP d75_20 (by decide) ?_
  exact k
theorem b75_23 {d : Nat} {P : xPr} {Q : xQr} {r : Nat} {mem : Nat → Nat → Int32} (hP : Cl d none 75 P Q) {v0 : Value}
    (k : P 24 [v0] [.int (-1)] (0, 0) (LAY, RFu r, mem)) : P 23 [v0] [] (0, 0) (LAY, RFu r, mem) := by
  refine r_iconst (v := (-1)) hP d75_23 rfl ?_
  exact k
theorem b75_24 {d : Nat} {P : xPr} {Q : xQr} {r : Nat} {mem : Nat → Nat → Int32} (hP : Cl d none 75 P Q) {v0 : Value} {y0 : Int32}
    (k : Q (some (.int y0)) (LAY, RFu r, mem)) : P 24 [v0] [.int y0] (0, 0) (LAY, RFu r, mem) := by
  exact r_iret hP d75_24 rfl k
theorem d76_0 : decode (xB 76) 0 = .ok (.aload_n 0, 1) := by decide +kernel
theorem d76_1 : decode (xB 76) 1 = .ok (.invokevirtual 31, 3) := by decide +kernel
theorem d76_4 : decode (xB 76) 4 = .ok (.iload_n 1, 1) := by decide +kernel
theorem d76_5 : decode (xB 76) 5 = .ok (.if_icmp .eq 5, 3) := by decide +kernel
theorem d76_8 : decode (xB 76) 8 = .ok (.iconst 0, 1) := by decide +kernel
theorem d76_9 : decode (xB 76) 9 = .ok (.ireturn, 1) := by decide +kernel
theorem d76_10 : decode (xB 76) 10 = .ok (.aload_n 0, 1) := by decide +kernel
theorem d76_11 : decode (xB 76) 11 = .ok (.dup, 1) := by decide +kernel
theorem d76_12 : decode (xB 76) 12 = .ok (.getfield 19, 3) := by decide +kernel
theorem d76_15 : decode (xB 76) 15 = .ok (.iconst 1, 1) := by decide +kernel
theorem d76_16 : decode (xB 76) 16 = .ok (.iadd, 1) := by decide +kernel
theorem d76_17 : decode (xB 76) 17 = .ok (.putfield 19, 3) := by decide +kernel
theorem d76_20 : decode (xB 76) 20 = .ok (.iconst 1, 1) := by decide +kernel
theorem d76_21 : decode (xB 76) 21 = .ok (.ireturn, 1) := by decide +kernel
theorem b76_0 {d : Nat} {P : xPr} {Q : xQr} {r : Nat} {mem : Nat → Nat → Int32} (hP : Cl d none 76 P Q) {p0 : Int32}
    (k : xCall d 75 [.ref 1] (LAY, RFu r, mem) (Bk P 1 [.ref 1, .int p0] [] (0, 0))) : P 0 [.ref 1, .int p0] [] (0, 0) (LAY, RFu r, mem) := by
  refine r_aload_n hP d76_0 rfl ?_
  exact r_callv (As := []) (S := []) hP d76_1 cr_9_31 (by decide +kernel) rfl (by simp) rfl ly_1 (by simp [Value.category]) ⟨Nat.zero_le _, Nat.zero_le _⟩ k
theorem b76_4 {d : Nat} {P : xPr} {Q : xQr} {r : Nat} {mem : Nat → Nat → Int32} (hP : Cl d none 76 P Q) {x1 : Int32} {y0 : Int32}
    (kt : y0 = x1 → P 10 [.ref 1, .int x1] [] (0, 0) (LAY, RFu r, mem)) (kf : ¬ y0 = x1 → P 8 [.ref 1, .int x1] [] (0, 0) (LAY, RFu r, mem)) : P 4 [.ref 1, .int x1] [.int y0] (0, 0) (LAY, RFu r, mem) := by
  refine r_iload_n hP d76_4 rfl ?_
  exact r_icmp (t := 10) hP d76_5 (by decide) kt kf
theorem b76_8 {d : Nat} {P : xPr} {Q : xQr} {r : Nat} {mem : Nat → Nat → Int32} (hP : Cl d none 76 P Q) {v0 : Value} {v1 : Value} (hzr : nI 0 = 0 ∨ nI 0 = 1)
    (k : Q (some (.int (nI 0))) (LAY, RFu r, mem)) : P 8 [v0, v1] [] (0, 0) (LAY, RFu r, mem) := by
  refine r_iconst (v := nI 0) hP d76_8 rfl ?_
  exact r_zret hP d76_9 rfl hzr k
theorem b76_10 {d : Nat} {P : xPr} {Q : xQr} {r : Nat} {mem : Nat → Nat → Int32} (hP : Cl d none 76 P Q) {v1 : Value} (hzr : nI 1 = 0 ∨ nI 1 = 1)
    (k : Q (some (.int (nI 1))) (LAY, RFu r, xu2 mem 1 2 ((mem 1 2) + (nI 1)))) : P 10 [.ref 1, v1] [] (0, 0) (LAY, RFu r, mem) := by
  refine r_aload_n hP d76_10 rfl ?_
  refine r_dup hP d76_11 rfl ?_
  refine r_geti hP d76_12 fr_9_19 rfl ly_1 ?_
  refine r_iconst (v := nI 1) hP d76_15 rfl ?_
  refine r_iadd hP d76_16 ?_
  refine r_puti hP d76_17 fr_9_19 rfl (fun q => by cases q) ly_1 ?_
  refine r_iconst (v := nI 1) hP d76_20 rfl ?_
  exact r_zret hP d76_21 rfl hzr k
theorem d77_0 : decode (xB 77) 0 = .ok (.aload_n 0, 1) := by decide +kernel
theorem d77_1 : decode (xB 77) 1 = .ok (.invokevirtual 31, 3) := by decide +kernel
theorem d77_4 : decode (xB 77) 4 = .ok (.istore_n 2, 1) := by decide +kernel
theorem d77_5 : decode (xB 77) 5 = .ok (.iload_n 2, 1) := by decide +kernel
theorem d77_6 : decode (xB 77) 6 = .ok (.bipush 48, 2) := by decide +kernel
theorem d77_8 : decode (xB 77) 8 = .ok (.if_icmp .lt 17, 3) := by decide +kernel
theorem d77_11 : decode (xB 77) 11 = .ok (.iload_n 2, 1) := by decide +kernel
theorem d77_12 : decode (xB 77) 12 = .ok (.bipush 57, 2) := by decide +kernel
theorem d77_14 : decode (xB 77) 14 = .ok (.if_icmp .gt 11, 3) := by decide +kernel
theorem d77_17 : decode (xB 77) 17 = .ok (.iload_n 2, 1) := by decide +kernel
theorem d77_18 : decode (xB 77) 18 = .ok (.bipush 48, 2) := by decide +kernel
theorem d77_20 : decode (xB 77) 20 = .ok (.isub, 1) := by decide +kernel
theorem d77_21 : decode (xB 77) 21 = .ok (.iload_n 1, 1) := by decide +kernel
theorem d77_22 : decode (xB 77) 22 = .ok (.if_icmp .le 5, 3) := by decide +kernel
theorem d77_25 : decode (xB 77) 25 = .ok (.iconst (-1), 1) := by decide +kernel
theorem d77_26 : decode (xB 77) 26 = .ok (.ireturn, 1) := by decide +kernel
theorem d77_27 : decode (xB 77) 27 = .ok (.aload_n 0, 1) := by decide +kernel
theorem d77_28 : decode (xB 77) 28 = .ok (.dup, 1) := by decide +kernel
theorem d77_29 : decode (xB 77) 29 = .ok (.getfield 19, 3) := by decide +kernel
theorem d77_32 : decode (xB 77) 32 = .ok (.iconst 1, 1) := by decide +kernel
theorem d77_33 : decode (xB 77) 33 = .ok (.iadd, 1) := by decide +kernel
theorem d77_34 : decode (xB 77) 34 = .ok (.putfield 19, 3) := by decide +kernel
theorem d77_37 : decode (xB 77) 37 = .ok (.iload_n 2, 1) := by decide +kernel
theorem d77_38 : decode (xB 77) 38 = .ok (.bipush 48, 2) := by decide +kernel
theorem d77_40 : decode (xB 77) 40 = .ok (.isub, 1) := by decide +kernel
theorem d77_41 : decode (xB 77) 41 = .ok (.ireturn, 1) := by decide +kernel
theorem b77_0 {d : Nat} {P : xPr} {Q : xQr} {r : Nat} {mem : Nat → Nat → Int32} (hP : Cl d none 77 P Q) {p0 : Int32}
    (k : xCall d 75 [.ref 1] (LAY, RFu r, mem) (Bk P 1 [.ref 1, .int p0, .null] [] (0, 0))) : P 0 [.ref 1, .int p0, .null] [] (0, 0) (LAY, RFu r, mem) := by
  refine r_aload_n hP d77_0 rfl ?_
  exact r_callv (As := []) (S := []) hP d77_1 cr_9_31 (by decide +kernel) rfl (by simp) rfl ly_1 (by simp [Value.category]) ⟨Nat.zero_le _, Nat.zero_le _⟩ k
theorem b77_4 {d : Nat} {P : xPr} {Q : xQr} {r : Nat} {mem : Nat → Nat → Int32} (hP : Cl d none 77 P Q) {x1 : Int32} {v2 : Value} {y0 : Int32}
    (kt : y0 < (nI 48) → P 25 [.ref 1, .int x1, .int y0] [] (0, 0) (LAY, RFu r, mem)) (kf : ¬ y0 < (nI 48) → P 11 [.ref 1, .int x1, .int y0] [] (0, 0) (LAY, RFu r, mem)) : P 4 [.ref 1, .int x1, v2] [.int y0] (0, 0) (LAY, RFu r, mem) := by
  refine r_istore_n (L' := [.ref 1, .int x1, .int y0]) hP d77_4 (Nat.le_of_ble_eq_true rfl) rfl ?_
  refine r_iload_n hP d77_5 rfl ?_
  refine r_bipush (v := nI 48) hP d77_6 rfl ?_
  exact r_icmp (t := 25) hP d77_8 (by decide) kt kf
theorem b77_11 {d : Nat} {P : xPr} {Q : xQr} {r : Nat} {mem : Nat → Nat → Int32} (hP : Cl d none 77 P Q) {x1 : Int32} {x2 : Int32}
    (kt : (nI 57) < x2 → P 25 [.ref 1, .int x1, .int x2] [] (0, 0) (LAY, RFu r, mem)) (kf : ¬ (nI 57) < x2 → P 17 [.ref 1, .int x1, .int x2] [] (0, 0) (LAY, RFu r, mem)) : P 11 [.ref 1, .int x1, .int x2] [] (0, 0) (LAY, RFu r, mem) := by
  refine r_iload_n hP d77_11 rfl ?_
  refine r_bipush (v := nI 57) hP d77_12 rfl ?_
  exact r_icmp (t := 25) hP d77_14 (by decide) kt kf
theorem b77_17 {d : Nat} {P : xPr} {Q : xQr} {r : Nat} {mem : Nat → Nat → Int32} (hP : Cl d none 77 P Q) {x1 : Int32} {x2 : Int32}
    (kt : (x2 - (nI 48)) ≤ x1 → P 27 [.ref 1, .int x1, .int x2] [] (0, 0) (LAY, RFu r, mem)) (kf : ¬ (x2 - (nI 48)) ≤ x1 → P 25 [.ref 1, .int x1, .int x2] [] (0, 0) (LAY, RFu r, mem)) : P 17 [.ref 1, .int x1, .int x2] [] (0, 0) (LAY, RFu r, mem) := by
  refine r_iload_n hP d77_17 rfl ?_
  refine r_bipush (v := nI 48) hP d77_18 rfl ?_
  refine r_isub hP d77_20 ?_
  refine r_iload_n hP d77_21 rfl ?_
  exact r_icmp (t := 27) hP d77_22 (by decide) kt kf
theorem b77_25 {d : Nat} {P : xPr} {Q : xQr} {r : Nat} {mem : Nat → Nat → Int32} (hP : Cl d none 77 P Q) {v0 : Value} {v1 : Value} {v2 : Value}
    (k : Q (some (.int (-1))) (LAY, RFu r, mem)) : P 25 [v0, v1, v2] [] (0, 0) (LAY, RFu r, mem) := by
  refine r_iconst (v := (-1)) hP d77_25 rfl ?_
  exact r_iret hP d77_26 rfl k
theorem b77_27 {d : Nat} {P : xPr} {Q : xQr} {r : Nat} {mem : Nat → Nat → Int32} (hP : Cl d none 77 P Q) {v1 : Value} {x2 : Int32}
    (k : Q (some (.int (x2 - (nI 48)))) (LAY, RFu r, xu2 mem 1 2 ((mem 1 2) + (nI 1)))) : P 27 [.ref 1, v1, .int x2] [] (0, 0) (LAY, RFu r, mem) := by
  refine r_aload_n hP d77_27 rfl ?_
  refine r_dup hP d77_28 rfl ?_
  refine r_geti hP d77_29 fr_9_19 rfl ly_1 ?_
  refine r_iconst (v := nI 1) hP d77_32 rfl ?_
  refine r_iadd hP d77_33 ?_
  refine r_puti hP d77_34 fr_9_19 rfl (fun q => by cases q) ly_1 ?_
  refine r_iload_n hP d77_37 rfl ?_
  refine r_bipush (v := nI 48) hP d77_38 rfl ?_
  refine r_isub hP d77_40 ?_
  exact r_iret hP d77_41 rfl k
theorem d78_0 : decode (xB 78) 0 = .ok (.aload_n 0, 1) := by decide +kernel
theorem d78_1 : decode (xB 78) 1 = .ok (.bipush 9, 2) := by decide +kernel
theorem d78_3 : decode (xB 78) 3 = .ok (.invokevirtual 35, 3) := by decide +kernel
theorem d78_6 : decode (xB 78) 6 = .ok (.istore_n 2, 1) := by decide +kernel
theorem d78_7 : decode (xB 78) 7 = .ok (.iconst 1, 1) := by decide +kernel
theorem d78_8 : decode (xB 78) 8 = .ok (.istore_n 3, 1) := by decide +kernel
theorem d78_9 : decode (xB 78) 9 = .ok (.iload_n 3, 1) := by decide +kernel
theorem d78_10 : decode (xB 78) 10 = .ok (.iload_n 1, 1) := by decide +kernel
theorem d78_11 : decode (xB 78) 11 = .ok (.if_icmp .ge 39, 3) := by decide +kernel
theorem d78_14 : decode (xB 78) 14 = .ok (.iload_n 2, 1) := by decide +kernel
theorem d78_15 : decode (xB 78) 15 = .ok (.iconst (-1), 1) := by decide +kernel
theorem d78_16 : decode (xB 78) 16 = .ok (.if_icmp .eq 34, 3) := by decide +kernel
theorem d78_19 : decode (xB 78) 19 = .ok (.aload_n 0, 1) := by decide +kernel
theorem d78_20 : decode (xB 78) 20 = .ok (.bipush 9, 2) := by decide +kernel
theorem d78_22 : decode (xB 78) 22 = .ok (.invokevirtual 35, 3) := by decide +kernel
theorem d78_25 : decode (xB 78) 25 = .ok (.istore 4, 2) := by decide +kernel
theorem d78_27 : decode (xB 78) 27 = .ok (.iload 4, 2) := by decide +kernel
theorem d78_29 : decode (xB 78) 29 = .ok (.iconst (-1), 1) := by decide +kernel
theorem d78_30 : decode (xB 78) 30 = .ok (.if_icmp .ne 6, 3) := by decide +kernel
theorem d78_33 : decode (xB 78) 33 = .ok (.goto 17, 3) := by decide +kernel
theorem d78_36 : decode (xB 78) 36 = .ok (.iload_n 2, 1) := by decide +kernel
theorem d78_37 : decode (xB 78) 37 = .ok (.bipush 10, 2) := by decide +kernel
theorem d78_39 : decode (xB 78) 39 = .ok (.imul, 1) := by decide +kernel
theorem d78_40 : decode (xB 78) 40 = .ok (.iload 4, 2) := by decide +kernel
theorem d78_42 : decode (xB 78) 42 = .ok (.iadd, 1) := by decide +kernel
theorem d78_43 : decode (xB 78) 43 = .ok (.istore_n 2, 1) := by decide +kernel
theorem d78_44 : decode (xB 78) 44 = .ok (.iinc 3 1, 3) := by decide +kernel
theorem d78_47 : decode (xB 78) 47 = .ok (.goto (-38), 3) := by decide +kernel
theorem d78_50 : decode (xB 78) 50 = .ok (.iload_n 2, 1) := by decide +kernel
theorem d78_51 : decode (xB 78) 51 = .ok (.ireturn, 1) := by decide +kernel
theorem b78_0 {d : Nat} {P : xPr} {Q : xQr} {r : Nat} {mem : Nat → Nat → Int32} (hP : Cl d none 78 P Q) {p0 : Int32}
    (k : xCall d 77 [.ref 1, .int (nI 9)] (LAY, RFu r, mem) (Bk P 3 [.ref 1, .int p0, .null, .null, .null] [] (0, 0))) : P 0 [.ref 1, .int p0, .null, .null, .null] [] (0, 0) (LAY, RFu r, mem) := by
  refine r_aload_n hP d78_0 rfl ?_
  refine r_bipush (v := nI 9) hP d78_1 rfl ?_
  exact r_callv (As := [.int (nI 9)]) (S := []) hP d78_3 cr_9_35 (by decide +kernel) rfl (by simp [Value.category]) rfl ly_1 (by simp [Value.category]) ⟨Nat.zero_le _, Nat.zero_le _⟩ k
theorem b78_6 {d : Nat} {P : xPr} {Q : xQr} {r : Nat} {mem : Nat → Nat → Int32} (hP : Cl d none 78 P Q) {x1 : Int32} {v2 : Value} {v3 : Value} {v4 : Value} {y0 : Int32}
    (k : P 9 [.ref 1, .int x1, .int y0, .int (nI 1), v4] [] (0, 0) (LAY, RFu r, mem)) : P 6 [.ref 1, .int x1, v2, v3, v4] [.int y0] (0, 0) (LAY, RFu r, mem) := by
  refine r_istore_n (L' := [.ref 1, .int x1, .int y0, v3, v4]) hP d78_6 (Nat.le_of_ble_eq_true rfl) rfl ?_
  refine r_iconst (v := nI 1) hP d78_7 rfl ?_
  refine r_istore_n (L' := [.ref 1, .int x1, .int y0, .int (nI 1), v4]) hP d78_8 (Nat.le_of_ble_eq_true rfl) rfl ?_
  exact k
theorem b78_9 {d : Nat} {P : xPr} {Q : xQr} {r : Nat} {mem : Nat → Nat → Int32} (hP : Cl d none 78 P Q) {x1 : Int32} {x2 : Int32} {x3 : Int32} {v4 : Value}
    (kt : x1 ≤ x3 → P 50 [.ref 1, .int x1, .int x2, .int x3, v4] [] (0, 0) (LAY, RFu r, mem)) (kf : ¬ x1 ≤ x3 → P 14 [.ref 1, .int x1, .int x2, .int x3, v4] [] (0, 0) (LAY, RFu r, mem)) : P 9 [.ref 1, .int x1, .int x2, .int x3, v4] [] (0, 0) (LAY, RFu r, mem) := by
  refine r_iload_n hP d78_9 rfl ?_
  refine r_iload_n hP d78_10 rfl ?_
  exact r_icmp (t := 50) hP d78_11 (by decide) kt kf
theorem b78_14 {d : Nat} {P : xPr} {Q : xQr} {r : Nat} {mem : Nat → Nat → Int32} (hP : Cl d none 78 P Q) {x1 : Int32} {x2 : Int32} {x3 : Int32} {v4 : Value}
    (kt : x2 = (-1) → P 50 [.ref 1, .int x1, .int x2, .int x3, v4] [] (0, 0) (LAY, RFu r, mem)) (kf : ¬ x2 = (-1) → P 19 [.ref 1, .int x1, .int x2, .int x3, v4] [] (0, 0) (LAY, RFu r, mem)) : P 14 [.ref 1, .int x1, .int x2, .int x3, v4] [] (0, 0) (LAY, RFu r, mem) := by
  refine r_iload_n hP d78_14 rfl ?_
  refine r_iconst (v := (-1)) hP d78_15 rfl ?_
  exact r_icmp (t := 50) hP d78_16 (by decide) kt kf
theorem b78_19 {d : Nat} {P : xPr} {Q : xQr} {r : Nat} {mem : Nat → Nat → Int32} (hP : Cl d none 78 P Q) {x1 : Int32} {x2 : Int32} {x3 : Int32} {v4 : Value}
    (k : xCall d 77 [.ref 1, .int (nI 9)] (LAY, RFu r, mem) (Bk P 22 [.ref 1, .int x1, .int x2, .int x3, v4] [] (0, 0))) : P 19 [.ref 1, .int x1, .int x2, .int x3, v4] [] (0, 0) (LAY, RFu r, mem) := by
  refine r_aload_n hP d78_19 rfl ?_
  refine r_bipush (v := nI 9) hP d78_20 rfl ?_
  exact r_callv (As := [.int (nI 9)]) (S := []) hP d78_22 cr_9_35 (by decide +kernel) rfl (by simp [Value.category]) rfl ly_1 (by simp [Value.category]) ⟨Nat.zero_le _, Nat.zero_le _⟩ k
theorem b78_25 {d : Nat} {P : xPr} {Q : xQr} {r : Nat} {mem : Nat → Nat → Int32} (hP : Cl d none 78 P Q) {x1 : Int32} {x2 : Int32} {x3 : Int32} {v4 : Value} {y0 : Int32}
    (kt : ¬ y0 = (-1) → P 36 [.ref 1, .int x1, .int x2, .int x3, .int y0] [] (0, 0) (LAY, RFu r, mem)) (kf : y0 = (-1) → P 33 [.ref 1, .int x1, .int x2, .int x3, .int y0] [] (0, 0) (LAY, RFu r, mem)) : P 25 [.ref 1, .int x1, .int x2, .int x3, v4] [.int y0] (0, 0) (LAY, RFu r, mem) := by
  refine r_istore (L' := [.ref 1, .int x1, .int x2, .int x3, .int y0]) hP d78_25 (Nat.le_of_ble_eq_true rfl) rfl ?_
  refine r_iload hP d78_27 rfl ?_
  refine r_iconst (v := (-1)) hP d78_29 rfl ?_
  exact r_icmp (t := 36) hP d78_30 (by decide) kt (fun q => kf (Decidable.of_not_not q))
theorem b78_33 {d : Nat} {P : xPr} {Q : xQr} {r : Nat} {mem : Nat → Nat → Int32} (hP : Cl d none 78 P Q) {v0 : Value} {v1 : Value} {x2 : Int32} {v3 : Value} {v4 : Value}
    (k : P 50 [v0, v1, .int x2, v3, v4] [] (0, 0) (LAY, RFu r, mem)) : P 33 [v0, v1, .int x2, v3, v4] [] (0, 0) (LAY, RFu r, mem) := by
  refine r_goto (t := 50) hP d78_33 (by decide) ?_
  exact k
theorem b78_36 {d : Nat} {P : xPr} {Q : xQr} {r : Nat} {mem : Nat → Nat → Int32} (hP : Cl d none 78 P Q) {x1 : Int32} {x2 : Int32} {x3 : Int32} {x4 : Int32}
    (k : P 9 [.ref 1, .int x1, .int ((x2 * (nI 10)) + x4), .int (x3 + nI 1), .int x4] [] (0, 0) (LAY, RFu r, mem)) : P 36 [.ref 1, .int x1, .int x2, .int x3, .int x4] [] (0, 0) (LAY, RFu r, mem) := by
  refine r_iload_n hP d78_36 rfl ?_
  refine r_bipush (v := nI 10) hP d78_37 rfl ?_
  refine r_imul hP d78_39 ?_
  refine r_iload hP d78_40 rfl ?_
  refine r_iadd hP d78_42 ?_
  refine r_istore_n (L' := [.ref 1, .int x1, .int ((x2 * (nI 10)) + x4), .int x3, .int x4]) hP d78_43 (Nat.le_of_ble_eq_true rfl) rfl ?_
  refine r_iinc (v := nI 1) (L' := [.ref 1, .int x1, .int ((x2 * (nI 10)) + x4), .int (x3 + nI 1), .int x4]) hP d78_44 rfl rfl rfl ?_
  refine r_goto (t := 9) hP d78_47 (by decide) ?_
  exact k
theorem b78_50 {d : Nat} {P : xPr} {Q : xQr} {r : Nat} {mem : Nat → Nat → Int32} (hP : Cl d none 78 P Q) {v0 : Value} {v1 : Value} {x2 : Int32} {v3 : Value} {v4 : Value}
    (k : Q (some (.int x2)) (LAY, RFu r, mem)) : P 50 [v0, v1, .int x2, v3, v4] [] (0, 0) (LAY, RFu r, mem) := by
  refine r_iload_n hP d78_50 rfl ?_
  exact r_iret hP d78_51 rfl k
theorem d79_0 : decode (xB 79) 0 = .ok (.aload_n 0, 1) := by decide +kernel
theorem d79_1 : decode (xB 79) 1 = .ok (.getfield 19, 3) := by decide +kernel
theorem d79_4 : decode (xB 79) 4 = .ok (.aload_n 0, 1) := by decide +kernel
theorem d79_5 : decode (xB 79) 5 = .ok (.getfield 15, 3) := by decide +kernel
theorem d79_8 : decode (xB 79) 8 = .ok (.if_icmp .ne 7, 3) := by decide +kernel
theorem d79_11 : decode (xB 79) 11 = .ok (.iconst 1, 1) := by decide +kernel
theorem d79_12 : decode (xB 79) 12 = .ok (.goto 4, 3) := by decide +kernel
theorem d79_15 : decode (xB 79) 15 = .ok (.iconst 0, 1) := by decide +kernel
theorem d79_16 : decode (xB 79) 16 = .ok (.ireturn, 1) := by decide +kernel
theorem b79_0 {d : Nat} {P : xPr} {Q : xQr} {r : Nat} {mem : Nat → Nat → Int32} (hP : Cl d none 79 P Q)
    (kt : ¬ (mem 1 2) = (mem 1 1) → P 15 [.ref 1] [] (0, 0) (LAY, RFu r, mem)) (kf : (mem 1 2) = (mem 1 1) → P 11 [.ref 1] [] (0, 0) (LAY, RFu r, mem)) : P 0 [.ref 1] [] (0, 0) (LAY, RFu r, mem) := by
  refine r_aload_n hP d79_0 rfl ?_
  refine r_geti hP d79_1 fr_9_19 rfl ly_1 ?_
  refine r_aload_n hP d79_4 rfl ?_
  refine r_geti hP d79_5 fr_9_15 rfl ly_1 ?_
  exact r_icmp (t := 15) hP d79_8 (by decide) kt (fun q => kf (Decidable.of_not_not q))
theorem b79_11 {d : Nat} {P : xPr} {Q : xQr} {r : Nat} {mem : Nat → Nat → Int32} (hP : Cl d none 79 P Q) {v0 : Value}
    (k : P 16 [v0] [.int (nI 1)] (0, 0) (LAY, RFu r, mem)) : P 11 [v0] [] (0, 0) (LAY, RFu r, mem) := by
  refine r_iconst (v := nI 1) hP d79_11 rfl ?_
  refine r_goto (t := 16) hP d79_12 (by decide) ?_
  exact k
theorem b79_15 {d : Nat} {P : xPr} {Q : xQr} {r : Nat} {mem : Nat → Nat → Int32} (hP : Cl d none 79 P Q) {v0 : Value}
    (k : P 16 [v0] [.int (nI 0)] (0, 0) (LAY, RFu r, mem)) : P 15 [v0] [] (0, 0) (LAY, RFu r, mem) := by
  refine r_iconst (v := nI 0) hP d79_15 rfl ?_
  exact k
theorem b79_16 {d : Nat} {P : xPr} {Q : xQr} {r : Nat} {mem : Nat → Nat → Int32} (hP : Cl d none 79 P Q) {v0 : Value} {y0 : Int32} (hzr : y0 = 0 ∨ y0 = 1)
    (k : Q (some (.int y0)) (LAY, RFu r, mem)) : P 16 [v0] [.int y0] (0, 0) (LAY, RFu r, mem) := by
  exact r_zret hP d79_16 rfl hzr k
theorem d80_0 : decode (xB 80) 0 = .ok (.iconst (-1), 1) := by decide +kernel
theorem d80_1 : decode (xB 80) 1 = .ok (.aload_n 0, 1) := by decide +kernel
theorem d80_2 : decode (xB 80) 2 = .ok (.getfield 19, 3) := by decide +kernel
theorem d80_5 : decode (xB 80) 5 = .ok (.isub, 1) := by decide +kernel
theorem d80_6 : decode (xB 80) 6 = .ok (.ireturn, 1) := by decide +kernel
theorem b80_0 {d : Nat} {P : xPr} {Q : xQr} {r : Nat} {mem : Nat → Nat → Int32} (hP : Cl d none 80 P Q)
    (k : Q (some (.int ((-1) - (mem 1 2)))) (LAY, RFu r, mem)) : P 0 [.ref 1] [] (0, 0) (LAY, RFu r, mem) := by
  refine r_iconst (v := (-1)) hP d80_0 rfl ?_
  refine r_aload_n hP d80_1 rfl ?_
  refine r_geti hP d80_2 fr_9_19 rfl ly_1 ?_
  refine r_isub hP d80_5 ?_
  exact r_iret hP d80_6 rfl k
theorem d237_0 : decode (xB 237) 0 = .ok (.iload_n 0, 1) := by decide +kernel
theorem d237_1 : decode (xB 237) 1 = .ok (.iload_n 0, 1) := by decide +kernel
theorem d237_2 : decode (xB 237) 2 = .ok (.iconst 1, 1) := by decide +kernel
theorem d237_3 : decode (xB 237) 3 = .ok (.iushr, 1) := by decide +kernel
theorem d237_4 : decode (xB 237) 4 = .ok (.ldc_w 265, 3) := by decide +kernel
theorem d237_7 : decode (xB 237) 7 = .ok (.iand, 1) := by decide +kernel
theorem d237_8 : decode (xB 237) 8 = .ok (.isub, 1) := by decide +kernel
theorem d237_9 : decode (xB 237) 9 = .ok (.istore_n 0, 1) := by decide +kernel
theorem d237_10 : decode (xB 237) 10 = .ok (.iload_n 0, 1) := by decide +kernel
theorem d237_11 : decode (xB 237) 11 = .ok (.ldc_w 266, 3) := by decide +kernel
theorem d237_14 : decode (xB 237) 14 = .ok (.iand, 1) := by decide +kernel
theorem d237_15 : decode (xB 237) 15 = .ok (.iload_n 0, 1) := by decide +kernel
theorem d237_16 : decode (xB 237) 16 = .ok (.iconst 2, 1) := by decide +kernel
theorem d237_17 : decode (xB 237) 17 = .ok (.iushr, 1) := by decide +kernel
theorem d237_18 : decode (xB 237) 18 = .ok (.ldc_w 266, 3) := by decide +kernel
theorem d237_21 : decode (xB 237) 21 = .ok (.iand, 1) := by decide +kernel
theorem d237_22 : decode (xB 237) 22 = .ok (.iadd, 1) := by decide +kernel
theorem d237_23 : decode (xB 237) 23 = .ok (.istore_n 0, 1) := by decide +kernel
theorem d237_24 : decode (xB 237) 24 = .ok (.iload_n 0, 1) := by decide +kernel
theorem d237_25 : decode (xB 237) 25 = .ok (.iload_n 0, 1) := by decide +kernel
theorem d237_26 : decode (xB 237) 26 = .ok (.iconst 4, 1) := by decide +kernel
theorem d237_27 : decode (xB 237) 27 = .ok (.iushr, 1) := by decide +kernel
theorem d237_28 : decode (xB 237) 28 = .ok (.iadd, 1) := by decide +kernel
theorem d237_29 : decode (xB 237) 29 = .ok (.ldc_w 267, 3) := by decide +kernel
theorem d237_32 : decode (xB 237) 32 = .ok (.iand, 1) := by decide +kernel
theorem d237_33 : decode (xB 237) 33 = .ok (.istore_n 0, 1) := by decide +kernel
theorem d237_34 : decode (xB 237) 34 = .ok (.iload_n 0, 1) := by decide +kernel
theorem d237_35 : decode (xB 237) 35 = .ok (.iload_n 0, 1) := by decide +kernel
theorem d237_36 : decode (xB 237) 36 = .ok (.bipush 8, 2) := by decide +kernel
theorem d237_38 : decode (xB 237) 38 = .ok (.iushr, 1) := by decide +kernel
theorem d237_39 : decode (xB 237) 39 = .ok (.iadd, 1) := by decide +kernel
theorem d237_40 : decode (xB 237) 40 = .ok (.istore_n 0, 1) := by decide +kernel
theorem d237_41 : decode (xB 237) 41 = .ok (.iload_n 0, 1) := by decide +kernel
theorem d237_42 : decode (xB 237) 42 = .ok (.iload_n 0, 1) := by decide +kernel
theorem d237_43 : decode (xB 237) 43 = .ok (.bipush 16, 2) := by decide +kernel
theorem d237_45 : decode (xB 237) 45 = .ok (.iushr, 1) := by decide +kernel
theorem d237_46 : decode (xB 237) 46 = .ok (.iadd, 1) := by decide +kernel
theorem d237_47 : decode (xB 237) 47 = .ok (.istore_n 0, 1) := by decide +kernel
theorem d237_48 : decode (xB 237) 48 = .ok (.iload_n 0, 1) := by decide +kernel
theorem d237_49 : decode (xB 237) 49 = .ok (.bipush 63, 2) := by decide +kernel
theorem d237_51 : decode (xB 237) 51 = .ok (.iand, 1) := by decide +kernel
theorem d237_52 : decode (xB 237) 52 = .ok (.ireturn, 1) := by decide +kernel
theorem b237_0 {d : Nat} {P : xPr} {Q : xQr} {r : Nat} {mem : Nat → Nat → Int32} (hP : Cl d none 237 P Q) {p0 : Int32}
    (k : Q (some (.int ((((((((p0 - (((p0.toUInt32 >>> ((nI 1).toUInt32 &&& Int32.toUInt32 31)).toInt32) &&& (nI 1431655765))) &&& (nI 858993459)) + ((((p0 - (((p0.toUInt32 >>> ((nI 1).toUInt32 &&& Int32.toUInt32 31)).toInt32) &&& (nI 1431655765))).toUInt32 >>> ((nI 2).toUInt32 &&& Int32.toUInt32 31)).toInt32) &&& (nI 858993459))) + (((((p0 - (((p0.toUInt32 >>> ((nI 1).toUInt32 &&& Int32.toUInt32 31)).toInt32) &&& (nI 1431655765))) &&& (nI 858993459)) + ((((p0 - (((p0.toUInt32 >>> ((nI 1).toUInt32 &&& Int32.toUInt32 31)).toInt32) &&& (nI 1431655765))).toUInt32 >>> ((nI 2).toUInt32 &&& Int32.toUInt32 31)).toInt32) &&& (nI 858993459))).toUInt32 >>> ((nI 4).toUInt32 &&& Int32.toUInt32 31)).toInt32)) &&& (nI 252645135)) + (((((((p0 - (((p0.toUInt32 >>> ((nI 1).toUInt32 &&& Int32.toUInt32 31)).toInt32) &&& (nI 1431655765))) &&& (nI 858993459)) + ((((p0 - (((p0.toUInt32 >>> ((nI 1).toUInt32 &&& Int32.toUInt32 31)).toInt32) &&& (nI 1431655765))).toUInt32 >>> ((nI 2).toUInt32 &&& Int32.toUInt32 31)).toInt32) &&& (nI 858993459))) + (((((p0 - (((p0.toUInt32 >>> ((nI 1).toUInt32 &&& Int32.toUInt32 31)).toInt32) &&& (nI 1431655765))) &&& (nI 858993459)) + ((((p0 - (((p0.toUInt32 >>> ((nI 1).toUInt32 &&& Int32.toUInt32 31)).toInt32) &&& (nI 1431655765))).toUInt32 >>> ((nI 2).toUInt32 &&& Int32.toUInt32 31)).toInt32) &&& (nI 858993459))).toUInt32 >>> ((nI 4).toUInt32 &&& Int32.toUInt32 31)).toInt32)) &&& (nI 252645135)).toUInt32 >>> ((nI 8).toUInt32 &&& Int32.toUInt32 31)).toInt32)) + ((((((((p0 - (((p0.toUInt32 >>> ((nI 1).toUInt32 &&& Int32.toUInt32 31)).toInt32) &&& (nI 1431655765))) &&& (nI 858993459)) + ((((p0 - (((p0.toUInt32 >>> ((nI 1).toUInt32 &&& Int32.toUInt32 31)).toInt32) &&& (nI 1431655765))).toUInt32 >>> ((nI 2).toUInt32 &&& Int32.toUInt32 31)).toInt32) &&& (nI 858993459))) + (((((p0 - (((p0.toUInt32 >>> ((nI 1).toUInt32 &&& Int32.toUInt32 31)).toInt32) &&& (nI 1431655765))) &&& (nI 858993459)) + ((((p0 - (((p0.toUInt32 >>> ((nI 1).toUInt32 &&& Int32.toUInt32 31)).toInt32) &&& (nI 1431655765))).toUInt32 >>> ((nI 2).toUInt32 &&& Int32.toUInt32 31)).toInt32) &&& (nI 858993459))).toUInt32 >>> ((nI 4).toUInt32 &&& Int32.toUInt32 31)).toInt32)) &&& (nI 252645135)) + (((((((p0 - (((p0.toUInt32 >>> ((nI 1).toUInt32 &&& Int32.toUInt32 31)).toInt32) &&& (nI 1431655765))) &&& (nI 858993459)) + ((((p0 - (((p0.toUInt32 >>> ((nI 1).toUInt32 &&& Int32.toUInt32 31)).toInt32) &&& (nI 1431655765))).toUInt32 >>> ((nI 2).toUInt32 &&& Int32.toUInt32 31)).toInt32) &&& (nI 858993459))) + (((((p0 - (((p0.toUInt32 >>> ((nI 1).toUInt32 &&& Int32.toUInt32 31)).toInt32) &&& (nI 1431655765))) &&& (nI 858993459)) + ((((p0 - (((p0.toUInt32 >>> ((nI 1).toUInt32 &&& Int32.toUInt32 31)).toInt32) &&& (nI 1431655765))).toUInt32 >>> ((nI 2).toUInt32 &&& Int32.toUInt32 31)).toInt32) &&& (nI 858993459))).toUInt32 >>> ((nI 4).toUInt32 &&& Int32.toUInt32 31)).toInt32)) &&& (nI 252645135)).toUInt32 >>> ((nI 8).toUInt32 &&& Int32.toUInt32 31)).toInt32)).toUInt32 >>> ((nI 16).toUInt32 &&& Int32.toUInt32 31)).toInt32)) &&& (nI 63)))) (LAY, RFu r, mem)) : P 0 [.int p0] [] (0, 0) (LAY, RFu r, mem) := by
  refine r_iload_n hP d237_0 rfl ?_
  refine r_iload_n hP d237_1 rfl ?_
  refine r_iconst (v := nI 1) hP d237_2 rfl ?_
  refine r_iushr hP d237_3 ?_
  refine r_ldc_w (v := nI 1431655765) hP d237_4 rfl ?_
  refine r_iand hP d237_7 ?_
  refine r_isub hP d237_8 ?_
  refine r_istore_n (L' := [.int (p0 - (((p0.toUInt32 >>> ((nI 1).toUInt32 &&& Int32.toUInt32 31)).toInt32) &&& (nI 1431655765)))]) hP d237_9 (Nat.le_of_ble_eq_true rfl) rfl ?_
  refine r_iload_n hP d237_10 rfl ?_
  refine r_ldc_w (v := nI 858993459) hP d237_11 rfl ?_
  refine r_iand hP d237_14 ?_
  refine r_iload_n hP d237_15 rfl ?_
  refine r_iconst (v := nI 2) hP d237_16 rfl ?_
  refine r_iushr hP d237_17 ?_
  refine r_ldc_w (v := nI 858993459) hP d237_18 rfl ?_
  refine r_iand hP d237_21 ?_
  refine r_iadd hP d237_22 ?_
  refine r_istore_n (L' := [.int (((p0 - (((p0.toUInt32 >>> ((nI 1).toUInt32 &&& Int32.toUInt32 31)).toInt32) &&& (nI 1431655765))) &&& (nI 858993459)) + ((((p0 - (((p0.toUInt32 >>> ((nI 1).toUInt32 &&& Int32.toUInt32 31)).toInt32) &&& (nI 1431655765))).toUInt32 >>> ((nI 2).toUInt32 &&& Int32.toUInt32 31)).toInt32) &&& (nI 858993459)))]) hP d237_23 (Nat.le_of_ble_eq_true rfl) rfl ?_
  refine r_iload_n hP d237_24 rfl ?_
  refine r_iload_n hP d237_25 rfl ?_
  refine r_iconst (v := nI 4) hP d237_26 rfl ?_
  refine r_iushr hP d237_27 ?_
  refine r_iadd hP d237_28 ?_
  refine r_ldc_w (v := nI 252645135) hP d237_29 rfl ?_
  refine r_iand hP d237_32 ?_
  refine r_istore_n (L' := [.int (((((p0 - (((p0.toUInt32 >>> ((nI 1).toUInt32 &&& Int32.toUInt32 31)).toInt32) &&& (nI 1431655765))) &&& (nI 858993459)) + ((((p0 - (((p0.toUInt32 >>> ((nI 1).toUInt32 &&& Int32.toUInt32 31)).toInt32) &&& (nI 1431655765))).toUInt32 >>> ((nI 2).toUInt32 &&& Int32.toUInt32 31)).toInt32) &&& (nI 858993459))) + (((((p0 - (((p0.toUInt32 >>> ((nI 1).toUInt32 &&& Int32.toUInt32 31)).toInt32) &&& (nI 1431655765))) &&& (nI 858993459)) + ((((p0 - (((p0.toUInt32 >>> ((nI 1).toUInt32 &&& Int32.toUInt32 31)).toInt32) &&& (nI 1431655765))).toUInt32 >>> ((nI 2).toUInt32 &&& Int32.toUInt32 31)).toInt32) &&& (nI 858993459))).toUInt32 >>> ((nI 4).toUInt32 &&& Int32.toUInt32 31)).toInt32)) &&& (nI 252645135))]) hP d237_33 (Nat.le_of_ble_eq_true rfl) rfl ?_
  refine r_iload_n hP d237_34 rfl ?_
  refine r_iload_n hP d237_35 rfl ?_
  refine r_bipush (v := nI 8) hP d237_36 rfl ?_
  refine r_iushr hP d237_38 ?_
  refine r_iadd hP d237_39 ?_
  refine r_istore_n (L' := [.int ((((((p0 - (((p0.toUInt32 >>> ((nI 1).toUInt32 &&& Int32.toUInt32 31)).toInt32) &&& (nI 1431655765))) &&& (nI 858993459)) + ((((p0 - (((p0.toUInt32 >>> ((nI 1).toUInt32 &&& Int32.toUInt32 31)).toInt32) &&& (nI 1431655765))).toUInt32 >>> ((nI 2).toUInt32 &&& Int32.toUInt32 31)).toInt32) &&& (nI 858993459))) + (((((p0 - (((p0.toUInt32 >>> ((nI 1).toUInt32 &&& Int32.toUInt32 31)).toInt32) &&& (nI 1431655765))) &&& (nI 858993459)) + ((((p0 - (((p0.toUInt32 >>> ((nI 1).toUInt32 &&& Int32.toUInt32 31)).toInt32) &&& (nI 1431655765))).toUInt32 >>> ((nI 2).toUInt32 &&& Int32.toUInt32 31)).toInt32) &&& (nI 858993459))).toUInt32 >>> ((nI 4).toUInt32 &&& Int32.toUInt32 31)).toInt32)) &&& (nI 252645135)) + (((((((p0 - (((p0.toUInt32 >>> ((nI 1).toUInt32 &&& Int32.toUInt32 31)).toInt32) &&& (nI 1431655765))) &&& (nI 858993459)) + ((((p0 - (((p0.toUInt32 >>> ((nI 1).toUInt32 &&& Int32.toUInt32 31)).toInt32) &&& (nI 1431655765))).toUInt32 >>> ((nI 2).toUInt32 &&& Int32.toUInt32 31)).toInt32) &&& (nI 858993459))) + (((((p0 - (((p0.toUInt32 >>> ((nI 1).toUInt32 &&& Int32.toUInt32 31)).toInt32) &&& (nI 1431655765))) &&& (nI 858993459)) + ((((p0 - (((p0.toUInt32 >>> ((nI 1).toUInt32 &&& Int32.toUInt32 31)).toInt32) &&& (nI 1431655765))).toUInt32 >>> ((nI 2).toUInt32 &&& Int32.toUInt32 31)).toInt32) &&& (nI 858993459))).toUInt32 >>> ((nI 4).toUInt32 &&& Int32.toUInt32 31)).toInt32)) &&& (nI 252645135)).toUInt32 >>> ((nI 8).toUInt32 &&& Int32.toUInt32 31)).toInt32))]) hP d237_40 (Nat.le_of_ble_eq_true rfl) rfl ?_
  refine r_iload_n hP d237_41 rfl ?_
  refine r_iload_n hP d237_42 rfl ?_
  refine r_bipush (v := nI 16) hP d237_43 rfl ?_
  refine r_iushr hP d237_45 ?_
  refine r_iadd hP d237_46 ?_
  refine r_istore_n (L' := [.int (((((((p0 - (((p0.toUInt32 >>> ((nI 1).toUInt32 &&& Int32.toUInt32 31)).toInt32) &&& (nI 1431655765))) &&& (nI 858993459)) + ((((p0 - (((p0.toUInt32 >>> ((nI 1).toUInt32 &&& Int32.toUInt32 31)).toInt32) &&& (nI 1431655765))).toUInt32 >>> ((nI 2).toUInt32 &&& Int32.toUInt32 31)).toInt32) &&& (nI 858993459))) + (((((p0 - (((p0.toUInt32 >>> ((nI 1).toUInt32 &&& Int32.toUInt32 31)).toInt32) &&& (nI 1431655765))) &&& (nI 858993459)) + ((((p0 - (((p0.toUInt32 >>> ((nI 1).toUInt32 &&& Int32.toUInt32 31)).toInt32) &&& (nI 1431655765))).toUInt32 >>> ((nI 2).toUInt32 &&& Int32.toUInt32 31)).toInt32) &&& (nI 858993459))).toUInt32 >>> ((nI 4).toUInt32 &&& Int32.toUInt32 31)).toInt32)) &&& (nI 252645135)) + (((((((p0 - (((p0.toUInt32 >>> ((nI 1).toUInt32 &&& Int32.toUInt32 31)).toInt32) &&& (nI 1431655765))) &&& (nI 858993459)) + ((((p0 - (((p0.toUInt32 >>> ((nI 1).toUInt32 &&& Int32.toUInt32 31)).toInt32) &&& (nI 1431655765))).toUInt32 >>> ((nI 2).toUInt32 &&& Int32.toUInt32 31)).toInt32) &&& (nI 858993459))) + (((((p0 - (((p0.toUInt32 >>> ((nI 1).toUInt32 &&& Int32.toUInt32 31)).toInt32) &&& (nI 1431655765))) &&& (nI 858993459)) + ((((p0 - (((p0.toUInt32 >>> ((nI 1).toUInt32 &&& Int32.toUInt32 31)).toInt32) &&& (nI 1431655765))).toUInt32 >>> ((nI 2).toUInt32 &&& Int32.toUInt32 31)).toInt32) &&& (nI 858993459))).toUInt32 >>> ((nI 4).toUInt32 &&& Int32.toUInt32 31)).toInt32)) &&& (nI 252645135)).toUInt32 >>> ((nI 8).toUInt32 &&& Int32.toUInt32 31)).toInt32)) + ((((((((p0 - (((p0.toUInt32 >>> ((nI 1).toUInt32 &&& Int32.toUInt32 31)).toInt32) &&& (nI 1431655765))) &&& (nI 858993459)) + ((((p0 - (((p0.toUInt32 >>> ((nI 1).toUInt32 &&& Int32.toUInt32 31)).toInt32) &&& (nI 1431655765))).toUInt32 >>> ((nI 2).toUInt32 &&& Int32.toUInt32 31)).toInt32) &&& (nI 858993459))) + (((((p0 - (((p0.toUInt32 >>> ((nI 1).toUInt32 &&& Int32.toUInt32 31)).toInt32) &&& (nI 1431655765))) &&& (nI 858993459)) + ((((p0 - (((p0.toUInt32 >>> ((nI 1).toUInt32 &&& Int32.toUInt32 31)).toInt32) &&& (nI 1431655765))).toUInt32 >>> ((nI 2).toUInt32 &&& Int32.toUInt32 31)).toInt32) &&& (nI 858993459))).toUInt32 >>> ((nI 4).toUInt32 &&& Int32.toUInt32 31)).toInt32)) &&& (nI 252645135)) + (((((((p0 - (((p0.toUInt32 >>> ((nI 1).toUInt32 &&& Int32.toUInt32 31)).toInt32) &&& (nI 1431655765))) &&& (nI 858993459)) + ((((p0 - (((p0.toUInt32 >>> ((nI 1).toUInt32 &&& Int32.toUInt32 31)).toInt32) &&& (nI 1431655765))).toUInt32 >>> ((nI 2).toUInt32 &&& Int32.toUInt32 31)).toInt32) &&& (nI 858993459))) + (((((p0 - (((p0.toUInt32 >>> ((nI 1).toUInt32 &&& Int32.toUInt32 31)).toInt32) &&& (nI 1431655765))) &&& (nI 858993459)) + ((((p0 - (((p0.toUInt32 >>> ((nI 1).toUInt32 &&& Int32.toUInt32 31)).toInt32) &&& (nI 1431655765))).toUInt32 >>> ((nI 2).toUInt32 &&& Int32.toUInt32 31)).toInt32) &&& (nI 858993459))).toUInt32 >>> ((nI 4).toUInt32 &&& Int32.toUInt32 31)).toInt32)) &&& (nI 252645135)).toUInt32 >>> ((nI 8).toUInt32 &&& Int32.toUInt32 31)).toInt32)).toUInt32 >>> ((nI 16).toUInt32 &&& Int32.toUInt32 31)).toInt32))]) hP d237_47 (Nat.le_of_ble_eq_true rfl) rfl ?_
  refine r_iload_n hP d237_48 rfl ?_
  refine r_bipush (v := nI 63) hP d237_49 rfl ?_
  refine r_iand hP d237_51 ?_
  exact r_iret hP d237_52 rfl k
