/-! blocks: X12_thrown, X12_isIn, X12_has, X12_lost, X12_tell, X12_isOne, X12_areTwo, X12_isRoom, X12_sign, X12_end, X12_begin, X12_here, X12_fine, X12_fault, X12_passes, X12_number, X12_town, X12_plan, X12_held, X12_sum, X12_product, X12_thing, X12_letter, X12_rule, X12_ruleFor, X12_of, X12_chairs, X12_sick, X12_sheet, X12_goesTo, X12_greatest, X12_sitting, X12_goRoom, X12_goQuarter, X12_lay, X12_bring, X12_stands, X12_allStood -/
set_option maxRecDepth 100000 in
theorem rg_len {r : Nat} : 108 < (RFu r).length := Nat.le_of_ble_eq_true rfl
set_option maxRecDepth 100000 in
theorem rg_len2 {r : Nat} : 21 < ((RFu r).getD 108 []).length := Nat.le_of_ble_eq_true rfl
theorem d157_0 : decode (xB 157) 0 = .ok (.aload_n 0, 1) := by decide +kernel
theorem d157_1 : decode (xB 157) 1 = .ok (.getfield 121, 3) := by decide +kernel
theorem d157_4 : decode (xB 157) 4 = .ok (.ireturn, 1) := by decide +kernel
theorem b157_0 {d : Nat} {P : xPr} {Q : xQr} {r : Nat} {mem : Nat → Nat → Int32} (hP : Cl d none 157 P Q)
    (k : Q (some (.int (mem 108 20))) (LAY, RFu r, mem)) : P 0 [.ref 108] [] (0, 0) (LAY, RFu r, mem) := by
  refine r_aload_n hP d157_0 rfl ?_
  refine r_geti hP d157_1 fr_12_121 rfl ly_108 ?_
  exact r_iret hP d157_4 rfl k
theorem d158_0 : decode (xB 158) 0 = .ok (.iload_n 0, 1) := by decide +kernel
theorem d158_1 : decode (xB 158) 1 = .ok (.iload_n 1, 1) := by decide +kernel
theorem d158_2 : decode (xB 158) 2 = .ok (.if_icmp .lt 12, 3) := by decide +kernel
theorem d158_5 : decode (xB 158) 5 = .ok (.iload_n 0, 1) := by decide +kernel
theorem d158_6 : decode (xB 158) 6 = .ok (.iload_n 2, 1) := by decide +kernel
theorem d158_7 : decode (xB 158) 7 = .ok (.if_icmp .gt 7, 3) := by decide +kernel
theorem d158_10 : decode (xB 158) 10 = .ok (.iconst 1, 1) := by decide +kernel
theorem d158_11 : decode (xB 158) 11 = .ok (.goto 4, 3) := by decide +kernel
theorem d158_14 : decode (xB 158) 14 = .ok (.iconst 0, 1) := by decide +kernel
theorem d158_15 : decode (xB 158) 15 = .ok (.ireturn, 1) := by decide +kernel
theorem b158_0 {d : Nat} {P : xPr} {Q : xQr} {r : Nat} {mem : Nat → Nat → Int32} (hP : Cl d none 158 P Q) {p0 : Int32} {p1 : Int32} {p2 : Int32}
    (kt : p0 < p1 → P 14 [.int p0, .int p1, .int p2] [] (0, 0) (LAY, RFu r, mem)) (kf : ¬ p0 < p1 → P 5 [.int p0, .int p1, .int p2] [] (0, 0) (LAY, RFu r, mem)) : P 0 [.int p0, .int p1, .int p2] [] (0, 0) (LAY, RFu r, mem) := by
  refine r_iload_n hP d158_0 rfl ?_
  refine r_iload_n hP d158_1 rfl ?_
  exact r_icmp (t := 14) hP d158_2 (by decide) kt kf
theorem b158_5 {d : Nat} {P : xPr} {Q : xQr} {r : Nat} {mem : Nat → Nat → Int32} (hP : Cl d none 158 P Q) {x0 : Int32} {v1 : Value} {x2 : Int32}
    (kt : x2 < x0 → P 14 [.int x0, v1, .int x2] [] (0, 0) (LAY, RFu r, mem)) (kf : ¬ x2 < x0 → P 10 [.int x0, v1, .int x2] [] (0, 0) (LAY, RFu r, mem)) : P 5 [.int x0, v1, .int x2] [] (0, 0) (LAY, RFu r, mem) := by
  refine r_iload_n hP d158_5 rfl ?_
  refine r_iload_n hP d158_6 rfl ?_
  exact r_icmp (t := 14) hP d158_7 (by decide) kt kf
theorem b158_10 {d : Nat} {P : xPr} {Q : xQr} {r : Nat} {mem : Nat → Nat → Int32} (hP : Cl d none 158 P Q) {v0 : Value} {v1 : Value} {v2 : Value}
    (k : P 15 [v0, v1, v2] [.int (nI 1)] (0, 0) (LAY, RFu r, mem)) : P 10 [v0, v1, v2] [] (0, 0) (LAY, RFu r, mem) := by
  refine r_iconst (v := nI 1) hP d158_10 rfl ?_
  refine r_goto (t := 15) hP d158_11 (by decide) ?_
  exact k
theorem b158_14 {d : Nat} {P : xPr} {Q : xQr} {r : Nat} {mem : Nat → Nat → Int32} (hP : Cl d none 158 P Q) {v0 : Value} {v1 : Value} {v2 : Value}
    (k : P 15 [v0, v1, v2] [.int (nI 0)] (0, 0) (LAY, RFu r, mem)) : P 14 [v0, v1, v2] [] (0, 0) (LAY, RFu r, mem) := by
  refine r_iconst (v := nI 0) hP d158_14 rfl ?_
  exact k
theorem b158_15 {d : Nat} {P : xPr} {Q : xQr} {r : Nat} {mem : Nat → Nat → Int32} (hP : Cl d none 158 P Q) {v0 : Value} {v1 : Value} {v2 : Value} {y0 : Int32} (hzr : y0 = 0 ∨ y0 = 1)
    (k : Q (some (.int y0)) (LAY, RFu r, mem)) : P 15 [v0, v1, v2] [.int y0] (0, 0) (LAY, RFu r, mem) := by
  exact r_zret hP d158_15 rfl hzr k
theorem d159_0 : decode (xB 159) 0 = .ok (.iload_n 0, 1) := by decide +kernel
theorem d159_1 : decode (xB 159) 1 = .ok (.iload_n 1, 1) := by decide +kernel
theorem d159_2 : decode (xB 159) 2 = .ok (.ishr, 1) := by decide +kernel
theorem d159_3 : decode (xB 159) 3 = .ok (.iconst 1, 1) := by decide +kernel
theorem d159_4 : decode (xB 159) 4 = .ok (.iand, 1) := by decide +kernel
theorem d159_5 : decode (xB 159) 5 = .ok (.iconst 1, 1) := by decide +kernel
theorem d159_6 : decode (xB 159) 6 = .ok (.if_icmp .ne 7, 3) := by decide +kernel
theorem d159_9 : decode (xB 159) 9 = .ok (.iconst 1, 1) := by decide +kernel
theorem d159_10 : decode (xB 159) 10 = .ok (.goto 4, 3) := by decide +kernel
theorem d159_13 : decode (xB 159) 13 = .ok (.iconst 0, 1) := by decide +kernel
theorem d159_14 : decode (xB 159) 14 = .ok (.ireturn, 1) := by decide +kernel
theorem b159_0 {d : Nat} {P : xPr} {Q : xQr} {r : Nat} {mem : Nat → Nat → Int32} (hP : Cl d none 159 P Q) {p0 : Int32} {p1 : Int32}
    (kt : ¬ ((p0 >>> (p1 &&& 31)) &&& (nI 1)) = (nI 1) → P 13 [.int p0, .int p1] [] (0, 0) (LAY, RFu r, mem)) (kf : ((p0 >>> (p1 &&& 31)) &&& (nI 1)) = (nI 1) → P 9 [.int p0, .int p1] [] (0, 0) (LAY, RFu r, mem)) : P 0 [.int p0, .int p1] [] (0, 0) (LAY, RFu r, mem) := by
  refine r_iload_n hP d159_0 rfl ?_
  refine r_iload_n hP d159_1 rfl ?_
  refine r_ishr hP d159_2 ?_
  refine r_iconst (v := nI 1) hP d159_3 rfl ?_
  refine r_iand hP d159_4 ?_
  refine r_iconst (v := nI 1) hP d159_5 rfl ?_
  exact r_icmp (t := 13) hP d159_6 (by decide) kt (fun q => kf (Decidable.of_not_not q))
theorem b159_9 {d : Nat} {P : xPr} {Q : xQr} {r : Nat} {mem : Nat → Nat → Int32} (hP : Cl d none 159 P Q) {v0 : Value} {v1 : Value}
    (k : P 14 [v0, v1] [.int (nI 1)] (0, 0) (LAY, RFu r, mem)) : P 9 [v0, v1] [] (0, 0) (LAY, RFu r, mem) := by
  refine r_iconst (v := nI 1) hP d159_9 rfl ?_
  refine r_goto (t := 14) hP d159_10 (by decide) ?_
  exact k
theorem b159_13 {d : Nat} {P : xPr} {Q : xQr} {r : Nat} {mem : Nat → Nat → Int32} (hP : Cl d none 159 P Q) {v0 : Value} {v1 : Value}
    (k : P 14 [v0, v1] [.int (nI 0)] (0, 0) (LAY, RFu r, mem)) : P 13 [v0, v1] [] (0, 0) (LAY, RFu r, mem) := by
  refine r_iconst (v := nI 0) hP d159_13 rfl ?_
  exact k
theorem b159_14 {d : Nat} {P : xPr} {Q : xQr} {r : Nat} {mem : Nat → Nat → Int32} (hP : Cl d none 159 P Q) {v0 : Value} {v1 : Value} {y0 : Int32} (hzr : y0 = 0 ∨ y0 = 1)
    (k : Q (some (.int y0)) (LAY, RFu r, mem)) : P 14 [v0, v1] [.int y0] (0, 0) (LAY, RFu r, mem) := by
  exact r_zret hP d159_14 rfl hzr k
theorem d160_0 : decode (xB 160) 0 = .ok (.aload_n 0, 1) := by decide +kernel
theorem d160_1 : decode (xB 160) 1 = .ok (.iconst 1, 1) := by decide +kernel
theorem d160_2 : decode (xB 160) 2 = .ok (.putfield 121, 3) := by decide +kernel
theorem d160_5 : decode (xB 160) 5 = .ok (.iconst 0, 1) := by decide +kernel
theorem d160_6 : decode (xB 160) 6 = .ok (.ireturn, 1) := by decide +kernel
theorem b160_0 {d : Nat} {P : xPr} {Q : xQr} {r : Nat} {mem : Nat → Nat → Int32} (hP : Cl d none 160 P Q)
    (k : Q (some (.int (nI 0))) (LAY, RFu r, xu2 mem 108 20 (nI 1))) : P 0 [.ref 108] [] (0, 0) (LAY, RFu r, mem) := by
  refine r_aload_n hP d160_0 rfl ?_
  refine r_iconst (v := nI 1) hP d160_1 rfl ?_
  refine r_puti hP d160_2 fr_12_121 rfl (fun q => by cases q) ly_108 ?_
  refine r_iconst (v := nI 0) hP d160_5 rfl ?_
  exact r_iret hP d160_6 rfl k
theorem d161_0 : decode (xB 161) 0 = .ok (.aload_n 0, 1) := by decide +kernel
theorem d161_1 : decode (xB 161) 1 = .ok (.getfield 54, 3) := by decide +kernel
theorem d161_4 : decode (xB 161) 4 = .ok (.aload_n 0, 1) := by decide +kernel
theorem d161_5 : decode (xB 161) 5 = .ok (.getfield 124, 3) := by decide +kernel
theorem d161_8 : decode (xB 161) 8 = .ok (.iload_n 1, 1) := by decide +kernel
theorem d161_9 : decode (xB 161) 9 = .ok (.iastore, 1) := by decide +kernel
theorem d161_10 : decode (xB 161) 10 = .ok (.aload_n 0, 1) := by decide +kernel
theorem d161_11 : decode (xB 161) 11 = .ok (.dup, 1) := by decide +kernel
theorem d161_12 : decode (xB 161) 12 = .ok (.getfield 124, 3) := by decide +kernel
theorem d161_15 : decode (xB 161) 15 = .ok (.iconst 1, 1) := by decide +kernel
theorem d161_16 : decode (xB 161) 16 = .ok (.iadd, 1) := by decide +kernel
theorem d161_17 : decode (xB 161) 17 = .ok (.putfield 124, 3) := by decide +kernel
theorem d161_20 : decode (xB 161) 20 = .ok (.return_, 1) := by decide +kernel
theorem b161_0 {d : Nat} {P : xPr} {Q : xQr} {r : Nat} {mem : Nat → Nat → Int32} (hP : Cl d none 161 P Q) {p0 : Int32} (hi9 : vp_in (mem 108 19) 16)
    (k : Q none (LAY, RFu r, xu2 (xu2 mem 123 (mem 108 19).toNatClampNeg p0) 108 19 (((xu2 mem 123 (mem 108 19).toNatClampNeg p0) 108 19) + (nI 1)))) : P 0 [.ref 108, .int p0] [] (0, 0) (LAY, RFu r, mem) := by
  refine r_aload_n hP d161_0 rfl ?_
  refine r_getr (a := 123) hP d161_1 fr_12_54 rfl ly_108 rg_108_18 ?_
  refine r_aload_n hP d161_4 rfl ?_
  refine r_geti hP d161_5 fr_12_124 rfl ly_108 ?_
  refine r_iload_n hP d161_8 rfl ?_
  refine r_iastore hP d161_9 ly_123 hi9 ?_
  refine r_aload_n hP d161_10 rfl ?_
  refine r_dup hP d161_11 rfl ?_
  refine r_geti hP d161_12 fr_12_124 rfl ly_108 ?_
  refine r_iconst (v := nI 1) hP d161_15 rfl ?_
  refine r_iadd hP d161_16 ?_
  refine r_puti hP d161_17 fr_12_124 rfl (fun q => by cases q) ly_108 ?_
  exact r_vret hP d161_20 rfl k
theorem d162_0 : decode (xB 162) 0 = .ok (.iload_n 1, 1) := by decide +kernel
theorem d162_1 : decode (xB 162) 1 = .ok (.iconst 0, 1) := by decide +kernel
theorem d162_2 : decode (xB 162) 2 = .ok (.aload_n 0, 1) := by decide +kernel
theorem d162_3 : decode (xB 162) 3 = .ok (.getfield 127, 3) := by decide +kernel
theorem d162_6 : decode (xB 162) 6 = .ok (.iconst 1, 1) := by decide +kernel
theorem d162_7 : decode (xB 162) 7 = .ok (.isub, 1) := by decide +kernel
theorem d162_8 : decode (xB 162) 8 = .ok (.invokestatic 130, 3) := by decide +kernel
theorem d162_11 : decode (xB 162) 11 = .ok (.ireturn, 1) := by decide +kernel
theorem b162_0 {d : Nat} {P : xPr} {Q : xQr} {r : Nat} {mem : Nat → Nat → Int32} (hP : Cl d none 162 P Q) {p0 : Int32}
    (k : xCall d 158 [.int p0, .int (nI 0), .int ((mem 108 2) - (nI 1))] (LAY, RFu r, mem) (Bk P 8 [.ref 108, .int p0] [] (0, 0))) : P 0 [.ref 108, .int p0] [] (0, 0) (LAY, RFu r, mem) := by
  refine r_iload_n hP d162_0 rfl ?_
  refine r_iconst (v := nI 0) hP d162_1 rfl ?_
  refine r_aload_n hP d162_2 rfl ?_
  refine r_geti hP d162_3 fr_12_127 rfl ly_108 ?_
  refine r_iconst (v := nI 1) hP d162_6 rfl ?_
  refine r_isub hP d162_7 ?_
  exact r_calls (As := [.int p0, .int (nI 0), .int ((mem 108 2) - (nI 1))]) (S := []) hP d162_8 cr_12_130 (by decide +kernel) rfl (by simp [Value.category]) rfl (by simp [Value.category]) ⟨Nat.zero_le _, Nat.zero_le _⟩ k
theorem b162_11 {d : Nat} {P : xPr} {Q : xQr} {r : Nat} {mem : Nat → Nat → Int32} (hP : Cl d none 162 P Q) {v0 : Value} {v1 : Value} {y0 : Int32} (hzr : y0 = 0 ∨ y0 = 1)
    (k : Q (some (.int y0)) (LAY, RFu r, mem)) : P 11 [v0, v1] [.int y0] (0, 0) (LAY, RFu r, mem) := by
  exact r_zret hP d162_11 rfl hzr k
theorem d163_0 : decode (xB 163) 0 = .ok (.aload_n 0, 1) := by decide +kernel
theorem d163_1 : decode (xB 163) 1 = .ok (.iload_n 1, 1) := by decide +kernel
theorem d163_2 : decode (xB 163) 2 = .ok (.invokevirtual 134, 3) := by decide +kernel
theorem d163_5 : decode (xB 163) 5 = .ok (.ifCond .eq 20, 3) := by decide +kernel
theorem d163_8 : decode (xB 163) 8 = .ok (.aload_n 0, 1) := by decide +kernel
theorem d163_9 : decode (xB 163) 9 = .ok (.iload_n 2, 1) := by decide +kernel
theorem d163_10 : decode (xB 163) 10 = .ok (.invokevirtual 134, 3) := by decide +kernel
theorem d163_13 : decode (xB 163) 13 = .ok (.ifCond .eq 12, 3) := by decide +kernel
theorem d163_16 : decode (xB 163) 16 = .ok (.iload_n 1, 1) := by decide +kernel
theorem d163_17 : decode (xB 163) 17 = .ok (.iload_n 2, 1) := by decide +kernel
theorem d163_18 : decode (xB 163) 18 = .ok (.if_icmp .eq 7, 3) := by decide +kernel
theorem d163_21 : decode (xB 163) 21 = .ok (.iconst 1, 1) := by decide +kernel
theorem d163_22 : decode (xB 163) 22 = .ok (.goto 4, 3) := by decide +kernel
theorem d163_25 : decode (xB 163) 25 = .ok (.iconst 0, 1) := by decide +kernel
theorem d163_26 : decode (xB 163) 26 = .ok (.ireturn, 1) := by decide +kernel
theorem b163_0 {d : Nat} {P : xPr} {Q : xQr} {r : Nat} {mem : Nat → Nat → Int32} (hP : Cl d none 163 P Q) {p0 : Int32} {p1 : Int32}
    (k : xCall d 162 [.ref 108, .int p0] (LAY, RFu r, mem) (Bk P 2 [.ref 108, .int p0, .int p1] [] (0, 0))) : P 0 [.ref 108, .int p0, .int p1] [] (0, 0) (LAY, RFu r, mem) := by
  refine r_aload_n hP d163_0 rfl ?_
  refine r_iload_n hP d163_1 rfl ?_
  exact r_callv (As := [.int p0]) (S := []) hP d163_2 cr_12_134 (by decide +kernel) rfl (by simp [Value.category]) rfl ly_108 (by simp [Value.category]) ⟨Nat.zero_le _, Nat.zero_le _⟩ k
theorem b163_5 {d : Nat} {P : xPr} {Q : xQr} {r : Nat} {mem : Nat → Nat → Int32} (hP : Cl d none 163 P Q) {x1 : Int32} {x2 : Int32} {y0 : Int32}
    (kt : y0 = 0 → P 25 [.ref 108, .int x1, .int x2] [] (0, 0) (LAY, RFu r, mem)) (kf : ¬ y0 = 0 → P 8 [.ref 108, .int x1, .int x2] [] (0, 0) (LAY, RFu r, mem)) : P 5 [.ref 108, .int x1, .int x2] [.int y0] (0, 0) (LAY, RFu r, mem) := by
  exact r_if (t := 25) hP d163_5 (by decide) kt kf
theorem b163_8 {d : Nat} {P : xPr} {Q : xQr} {r : Nat} {mem : Nat → Nat → Int32} (hP : Cl d none 163 P Q) {x1 : Int32} {x2 : Int32}
    (k : xCall d 162 [.ref 108, .int x2] (LAY, RFu r, mem) (Bk P 10 [.ref 108, .int x1, .int x2] [] (0, 0))) : P 8 [.ref 108, .int x1, .int x2] [] (0, 0) (LAY, RFu r, mem) := by
  refine r_aload_n hP d163_8 rfl ?_
  refine r_iload_n hP d163_9 rfl ?_
  exact r_callv (As := [.int x2]) (S := []) hP d163_10 cr_12_134 (by decide +kernel) rfl (by simp [Value.category]) rfl ly_108 (by simp [Value.category]) ⟨Nat.zero_le _, Nat.zero_le _⟩ k
theorem b163_13 {d : Nat} {P : xPr} {Q : xQr} {r : Nat} {mem : Nat → Nat → Int32} (hP : Cl d none 163 P Q) {v0 : Value} {x1 : Int32} {x2 : Int32} {y0 : Int32}
    (kt : y0 = 0 → P 25 [v0, .int x1, .int x2] [] (0, 0) (LAY, RFu r, mem)) (kf : ¬ y0 = 0 → P 16 [v0, .int x1, .int x2] [] (0, 0) (LAY, RFu r, mem)) : P 13 [v0, .int x1, .int x2] [.int y0] (0, 0) (LAY, RFu r, mem) := by
  exact r_if (t := 25) hP d163_13 (by decide) kt kf
theorem b163_16 {d : Nat} {P : xPr} {Q : xQr} {r : Nat} {mem : Nat → Nat → Int32} (hP : Cl d none 163 P Q) {v0 : Value} {x1 : Int32} {x2 : Int32}
    (kt : x1 = x2 → P 25 [v0, .int x1, .int x2] [] (0, 0) (LAY, RFu r, mem)) (kf : ¬ x1 = x2 → P 21 [v0, .int x1, .int x2] [] (0, 0) (LAY, RFu r, mem)) : P 16 [v0, .int x1, .int x2] [] (0, 0) (LAY, RFu r, mem) := by
  refine r_iload_n hP d163_16 rfl ?_
  refine r_iload_n hP d163_17 rfl ?_
  exact r_icmp (t := 25) hP d163_18 (by decide) kt kf
theorem b163_21 {d : Nat} {P : xPr} {Q : xQr} {r : Nat} {mem : Nat → Nat → Int32} (hP : Cl d none 163 P Q) {v0 : Value} {v1 : Value} {v2 : Value}
    (k : P 26 [v0, v1, v2] [.int (nI 1)] (0, 0) (LAY, RFu r, mem)) : P 21 [v0, v1, v2] [] (0, 0) (LAY, RFu r, mem) := by
  refine r_iconst (v := nI 1) hP d163_21 rfl ?_
  refine r_goto (t := 26) hP d163_22 (by decide) ?_
  exact k
theorem b163_25 {d : Nat} {P : xPr} {Q : xQr} {r : Nat} {mem : Nat → Nat → Int32} (hP : Cl d none 163 P Q) {v0 : Value} {v1 : Value} {v2 : Value}
    (k : P 26 [v0, v1, v2] [.int (nI 0)] (0, 0) (LAY, RFu r, mem)) : P 25 [v0, v1, v2] [] (0, 0) (LAY, RFu r, mem) := by
  refine r_iconst (v := nI 0) hP d163_25 rfl ?_
  exact k
theorem b163_26 {d : Nat} {P : xPr} {Q : xQr} {r : Nat} {mem : Nat → Nat → Int32} (hP : Cl d none 163 P Q) {v0 : Value} {v1 : Value} {v2 : Value} {y0 : Int32} (hzr : y0 = 0 ∨ y0 = 1)
    (k : Q (some (.int y0)) (LAY, RFu r, mem)) : P 26 [v0, v1, v2] [.int y0] (0, 0) (LAY, RFu r, mem) := by
  exact r_zret hP d163_26 rfl hzr k
theorem d164_0 : decode (xB 164) 0 = .ok (.iload_n 1, 1) := by decide +kernel
theorem d164_1 : decode (xB 164) 1 = .ok (.iconst 0, 1) := by decide +kernel
theorem d164_2 : decode (xB 164) 2 = .ok (.aload_n 0, 1) := by decide +kernel
theorem d164_3 : decode (xB 164) 3 = .ok (.getfield 138, 3) := by decide +kernel
theorem d164_6 : decode (xB 164) 6 = .ok (.iconst 1, 1) := by decide +kernel
theorem d164_7 : decode (xB 164) 7 = .ok (.isub, 1) := by decide +kernel
theorem d164_8 : decode (xB 164) 8 = .ok (.invokestatic 130, 3) := by decide +kernel
theorem d164_11 : decode (xB 164) 11 = .ok (.ireturn, 1) := by decide +kernel
theorem b164_0 {d : Nat} {P : xPr} {Q : xQr} {r : Nat} {mem : Nat → Nat → Int32} (hP : Cl d none 164 P Q) {p0 : Int32}
    (k : xCall d 158 [.int p0, .int (nI 0), .int ((mem 108 0) - (nI 1))] (LAY, RFu r, mem) (Bk P 8 [.ref 108, .int p0] [] (0, 0))) : P 0 [.ref 108, .int p0] [] (0, 0) (LAY, RFu r, mem) := by
  refine r_iload_n hP d164_0 rfl ?_
  refine r_iconst (v := nI 0) hP d164_1 rfl ?_
  refine r_aload_n hP d164_2 rfl ?_
  refine r_geti hP d164_3 fr_12_138 rfl ly_108 ?_
  refine r_iconst (v := nI 1) hP d164_6 rfl ?_
  refine r_isub hP d164_7 ?_
  exact r_calls (As := [.int p0, .int (nI 0), .int ((mem 108 0) - (nI 1))]) (S := []) hP d164_8 cr_12_130 (by decide +kernel) rfl (by simp [Value.category]) rfl (by simp [Value.category]) ⟨Nat.zero_le _, Nat.zero_le _⟩ k
theorem b164_11 {d : Nat} {P : xPr} {Q : xQr} {r : Nat} {mem : Nat → Nat → Int32} (hP : Cl d none 164 P Q) {v0 : Value} {v1 : Value} {y0 : Int32} (hzr : y0 = 0 ∨ y0 = 1)
    (k : Q (some (.int y0)) (LAY, RFu r, mem)) : P 11 [v0, v1] [.int y0] (0, 0) (LAY, RFu r, mem) := by
  exact r_zret hP d164_11 rfl hzr k
theorem d165_0 : decode (xB 165) 0 = .ok (.aload_n 0, 1) := by decide +kernel
theorem d165_1 : decode (xB 165) 1 = .ok (.iconst 0, 1) := by decide +kernel
theorem d165_2 : decode (xB 165) 2 = .ok (.putfield 121, 3) := by decide +kernel
theorem d165_5 : decode (xB 165) 5 = .ok (.aload_n 0, 1) := by decide +kernel
theorem d165_6 : decode (xB 165) 6 = .ok (.getfield 141, 3) := by decide +kernel
theorem d165_9 : decode (xB 165) 9 = .ok (.iconst 4, 1) := by decide +kernel
theorem d165_10 : decode (xB 165) 10 = .ok (.iadd, 1) := by decide +kernel
theorem d165_11 : decode (xB 165) 11 = .ok (.bipush 80, 2) := by decide +kernel
theorem d165_13 : decode (xB 165) 13 = .ok (.if_icmp .le 5, 3) := by decide +kernel
theorem d165_16 : decode (xB 165) 16 = .ok (.iconst (-1), 1) := by decide +kernel
theorem d165_17 : decode (xB 165) 17 = .ok (.ireturn, 1) := by decide +kernel
theorem d165_18 : decode (xB 165) 18 = .ok (.iconst 3, 1) := by decide +kernel
theorem d165_19 : decode (xB 165) 19 = .ok (.istore_n 2, 1) := by decide +kernel
theorem d165_20 : decode (xB 165) 20 = .ok (.iload_n 2, 1) := by decide +kernel
theorem d165_21 : decode (xB 165) 21 = .ok (.ifCond .lt 32, 3) := by decide +kernel
theorem d165_24 : decode (xB 165) 24 = .ok (.aload_n 0, 1) := by decide +kernel
theorem d165_25 : decode (xB 165) 25 = .ok (.getfield 50, 3) := by decide +kernel
theorem d165_28 : decode (xB 165) 28 = .ok (.aload_n 0, 1) := by decide +kernel
theorem d165_29 : decode (xB 165) 29 = .ok (.dup, 1) := by decide +kernel
theorem d165_30 : decode (xB 165) 30 = .ok (.getfield 141, 3) := by decide +kernel
theorem d165_33 : decode (xB 165) 33 = .ok (.dup_x1, 1) := by decide +kernel
theorem d165_34 : decode (xB 165) 34 = .ok (.iconst 1, 1) := by decide +kernel
theorem d165_35 : decode (xB 165) 35 = .ok (.iadd, 1) := by decide +kernel
theorem d165_36 : decode (xB 165) 36 = .ok (.putfield 141, 3) := by decide +kernel
theorem d165_39 : decode (xB 165) 39 = .ok (.iload_n 1, 1) := by decide +kernel
theorem d165_40 : decode (xB 165) 40 = .ok (.bipush 8, 2) := by decide +kernel
theorem d165_42 : decode (xB 165) 42 = .ok (.iload_n 2, 1) := by decide +kernel
theorem d165_43 : decode (xB 165) 43 = .ok (.imul, 1) := by decide +kernel
theorem d165_44 : decode (xB 165) 44 = .ok (.ishr, 1) := by decide +kernel
theorem d165_45 : decode (xB 165) 45 = .ok (.i2b, 1) := by decide +kernel
theorem d165_46 : decode (xB 165) 46 = .ok (.bastore, 1) := by decide +kernel
theorem d165_47 : decode (xB 165) 47 = .ok (.iinc 2 (-1), 3) := by decide +kernel
theorem d165_50 : decode (xB 165) 50 = .ok (.goto (-30), 3) := by decide +kernel
theorem d165_53 : decode (xB 165) 53 = .ok (.aload_n 0, 1) := by decide +kernel
theorem d165_54 : decode (xB 165) 54 = .ok (.getfield 141, 3) := by decide +kernel
theorem d165_57 : decode (xB 165) 57 = .ok (.ireturn, 1) := by decide +kernel
theorem b165_0 {d : Nat} {P : xPr} {Q : xQr} {r : Nat} {mem : Nat → Nat → Int32} (hP : Cl d none 165 P Q) {p0 : Int32}
    (kt : (((xu2 mem 108 20 (nI 0)) 108 17) + (nI 4)) ≤ (nI 80) → P 18 [.ref 108, .int p0, .null] [] (0, 0) (LAY, RFu r, xu2 mem 108 20 (nI 0))) (kf : ¬ (((xu2 mem 108 20 (nI 0)) 108 17) + (nI 4)) ≤ (nI 80) → P 16 [.ref 108, .int p0, .null] [] (0, 0) (LAY, RFu r, xu2 mem 108 20 (nI 0))) : P 0 [.ref 108, .int p0, .null] [] (0, 0) (LAY, RFu r, mem) := by
  refine r_aload_n hP d165_0 rfl ?_
  refine r_iconst (v := nI 0) hP d165_1 rfl ?_
  refine r_puti hP d165_2 fr_12_121 rfl (fun q => by cases q) ly_108 ?_
  refine r_aload_n hP d165_5 rfl ?_
  refine r_geti hP d165_6 fr_12_141 rfl ly_108 ?_
  refine r_iconst (v := nI 4) hP d165_9 rfl ?_
  refine r_iadd hP d165_10 ?_
  refine r_bipush (v := nI 80) hP d165_11 rfl ?_
  exact r_icmp (t := 18) hP d165_13 (by decide) kt kf
theorem b165_16 {d : Nat} {P : xPr} {Q : xQr} {r : Nat} {mem : Nat → Nat → Int32} (hP : Cl d none 165 P Q) {v0 : Value} {v1 : Value} {v2 : Value}
    (k : Q (some (.int (-1))) (LAY, RFu r, mem)) : P 16 [v0, v1, v2] [] (0, 0) (LAY, RFu r, mem) := by
  refine r_iconst (v := (-1)) hP d165_16 rfl ?_
  exact r_iret hP d165_17 rfl k
theorem b165_18 {d : Nat} {P : xPr} {Q : xQr} {r : Nat} {mem : Nat → Nat → Int32} (hP : Cl d none 165 P Q) {x1 : Int32} {v2 : Value}
    (k : P 20 [.ref 108, .int x1, .int (nI 3)] [] (0, 0) (LAY, RFu r, mem)) : P 18 [.ref 108, .int x1, v2] [] (0, 0) (LAY, RFu r, mem) := by
  refine r_iconst (v := nI 3) hP d165_18 rfl ?_
  refine r_istore_n (L' := [.ref 108, .int x1, .int (nI 3)]) hP d165_19 (Nat.le_of_ble_eq_true rfl) rfl ?_
  exact k
theorem b165_20 {d : Nat} {P : xPr} {Q : xQr} {r : Nat} {mem : Nat → Nat → Int32} (hP : Cl d none 165 P Q) {x1 : Int32} {x2 : Int32}
    (kt : x2 < 0 → P 53 [.ref 108, .int x1, .int x2] [] (0, 0) (LAY, RFu r, mem)) (kf : ¬ x2 < 0 → P 24 [.ref 108, .int x1, .int x2] [] (0, 0) (LAY, RFu r, mem)) : P 20 [.ref 108, .int x1, .int x2] [] (0, 0) (LAY, RFu r, mem) := by
  refine r_iload_n hP d165_20 rfl ?_
  exact r_if (t := 53) hP d165_21 (by decide) kt kf
theorem b165_24 {d : Nat} {P : xPr} {Q : xQr} {r : Nat} {mem : Nat → Nat → Int32} (hP : Cl d none 165 P Q) {x1 : Int32} {x2 : Int32} (hi46 : vp_in (mem 108 17) 80)
    (k : P 20 [.ref 108, .int x1, .int (x2 + (-1))] [] (0, 0) (LAY, RFu r, xu2 (xu2 mem 108 17 ((mem 108 17) + (nI 1))) 122 (mem 108 17).toNatClampNeg (xNar 14 ((x1 >>> (((nI 8) * x2) &&& 31)).toInt8.toInt32)))) : P 24 [.ref 108, .int x1, .int x2] [] (0, 0) (LAY, RFu r, mem) := by
  refine r_aload_n hP d165_24 rfl ?_
  refine r_getr (a := 122) hP d165_25 fr_12_50 rfl ly_108 rg_108_16 ?_
  refine r_aload_n hP d165_28 rfl ?_
  refine r_dup hP d165_29 rfl ?_
  refine r_geti hP d165_30 fr_12_141 rfl ly_108 ?_
  refine r_dup_x1 hP d165_33 rfl rfl ?_
  refine r_iconst (v := nI 1) hP d165_34 rfl ?_
  refine r_iadd hP d165_35 ?_
  refine r_puti hP d165_36 fr_12_141 rfl (fun q => by cases q) ly_108 ?_
  refine r_iload_n hP d165_39 rfl ?_
  refine r_bipush (v := nI 8) hP d165_40 rfl ?_
  refine r_iload_n hP d165_42 rfl ?_
  refine r_imul hP d165_43 ?_
  refine r_ishr hP d165_44 ?_
  refine r_i2b hP d165_45 ?_
  refine r_bastore hP d165_46 (by decide) ly_122 hi46 ?_
  refine r_iinc (v := (-1)) (L' := [.ref 108, .int x1, .int (x2 + (-1))]) hP d165_47 rfl rfl rfl ?_
  refine r_goto (t := 20) hP d165_50 (by decide) ?_
  exact k
theorem b165_53 {d : Nat} {P : xPr} {Q : xQr} {r : Nat} {mem : Nat → Nat → Int32} (hP : Cl d none 165 P Q) {v1 : Value} {v2 : Value}
    (k : Q (some (.int (mem 108 17))) (LAY, RFu r, mem)) : P 53 [.ref 108, v1, v2] [] (0, 0) (LAY, RFu r, mem) := by
  refine r_aload_n hP d165_53 rfl ?_
  refine r_geti hP d165_54 fr_12_141 rfl ly_108 ?_
  exact r_iret hP d165_57 rfl k
theorem d166_0 : decode (xB 166) 0 = .ok (.aload_n 0, 1) := by decide +kernel
theorem d166_1 : decode (xB 166) 1 = .ok (.iconst 0, 1) := by decide +kernel
theorem d166_2 : decode (xB 166) 2 = .ok (.putfield 121, 3) := by decide +kernel
theorem d166_5 : decode (xB 166) 5 = .ok (.iload_n 1, 1) := by decide +kernel
theorem d166_6 : decode (xB 166) 6 = .ok (.iconst 0, 1) := by decide +kernel
theorem d166_7 : decode (xB 166) 7 = .ok (.aload_n 0, 1) := by decide +kernel
theorem d166_8 : decode (xB 166) 8 = .ok (.getfield 141, 3) := by decide +kernel
theorem d166_11 : decode (xB 166) 11 = .ok (.invokestatic 130, 3) := by decide +kernel
theorem d166_14 : decode (xB 166) 14 = .ok (.ifCond .ne 5, 3) := by decide +kernel
theorem d166_17 : decode (xB 166) 17 = .ok (.iconst 0, 1) := by decide +kernel
theorem d166_18 : decode (xB 166) 18 = .ok (.ireturn, 1) := by decide +kernel
theorem d166_19 : decode (xB 166) 19 = .ok (.aload_n 0, 1) := by decide +kernel
theorem d166_20 : decode (xB 166) 20 = .ok (.iload_n 1, 1) := by decide +kernel
theorem d166_21 : decode (xB 166) 21 = .ok (.putfield 141, 3) := by decide +kernel
theorem d166_24 : decode (xB 166) 24 = .ok (.iconst 1, 1) := by decide +kernel
theorem d166_25 : decode (xB 166) 25 = .ok (.ireturn, 1) := by decide +kernel
theorem b166_0 {d : Nat} {P : xPr} {Q : xQr} {r : Nat} {mem : Nat → Nat → Int32} (hP : Cl d none 166 P Q) {p0 : Int32}
    (k : xCall d 158 [.int p0, .int (nI 0), .int ((xu2 mem 108 20 (nI 0)) 108 17)] (LAY, RFu r, xu2 mem 108 20 (nI 0)) (Bk P 11 [.ref 108, .int p0] [] (0, 0))) : P 0 [.ref 108, .int p0] [] (0, 0) (LAY, RFu r, mem) := by
  refine r_aload_n hP d166_0 rfl ?_
  refine r_iconst (v := nI 0) hP d166_1 rfl ?_
  refine r_puti hP d166_2 fr_12_121 rfl (fun q => by cases q) ly_108 ?_
  refine r_iload_n hP d166_5 rfl ?_
  refine r_iconst (v := nI 0) hP d166_6 rfl ?_
  refine r_aload_n hP d166_7 rfl ?_
  refine r_geti hP d166_8 fr_12_141 rfl ly_108 ?_
  exact r_calls (As := [.int p0, .int (nI 0), .int ((xu2 mem 108 20 (nI 0)) 108 17)]) (S := []) hP d166_11 cr_12_130 (by decide +kernel) rfl (by simp [Value.category]) rfl (by simp [Value.category]) ⟨Nat.zero_le _, Nat.zero_le _⟩ k
theorem b166_14 {d : Nat} {P : xPr} {Q : xQr} {r : Nat} {mem : Nat → Nat → Int32} (hP : Cl d none 166 P Q) {x1 : Int32} {y0 : Int32}
    (kt : ¬ y0 = 0 → P 19 [.ref 108, .int x1] [] (0, 0) (LAY, RFu r, mem)) (kf : y0 = 0 → P 17 [.ref 108, .int x1] [] (0, 0) (LAY, RFu r, mem)) : P 14 [.ref 108, .int x1] [.int y0] (0, 0) (LAY, RFu r, mem) := by
  exact r_if (t := 19) hP d166_14 (by decide) kt (fun q => kf (Decidable.of_not_not q))
theorem b166_17 {d : Nat} {P : xPr} {Q : xQr} {r : Nat} {mem : Nat → Nat → Int32} (hP : Cl d none 166 P Q) {v0 : Value} {v1 : Value} (hzr : nI 0 = 0 ∨ nI 0 = 1)
    (k : Q (some (.int (nI 0))) (LAY, RFu r, mem)) : P 17 [v0, v1] [] (0, 0) (LAY, RFu r, mem) := by
  refine r_iconst (v := nI 0) hP d166_17 rfl ?_
  exact r_zret hP d166_18 rfl hzr k
theorem b166_19 {d : Nat} {P : xPr} {Q : xQr} {r : Nat} {mem : Nat → Nat → Int32} (hP : Cl d none 166 P Q) {x1 : Int32} (hzr : nI 1 = 0 ∨ nI 1 = 1)
    (k : Q (some (.int (nI 1))) (LAY, RFu r, xu2 mem 108 17 x1)) : P 19 [.ref 108, .int x1] [] (0, 0) (LAY, RFu r, mem) := by
  refine r_aload_n hP d166_19 rfl ?_
  refine r_iload_n hP d166_20 rfl ?_
  refine r_puti hP d166_21 fr_12_141 rfl (fun q => by cases q) ly_108 ?_
  refine r_iconst (v := nI 1) hP d166_24 rfl ?_
  exact r_zret hP d166_25 rfl hzr k
theorem d167_0 : decode (xB 167) 0 = .ok (.aload_n 0, 1) := by decide +kernel
theorem d167_1 : decode (xB 167) 1 = .ok (.aload_n 1, 1) := by decide +kernel
theorem d167_2 : decode (xB 167) 2 = .ok (.putfield 144, 3) := by decide +kernel
theorem d167_5 : decode (xB 167) 5 = .ok (.aload_n 0, 1) := by decide +kernel
theorem d167_6 : decode (xB 167) 6 = .ok (.iload_n 2, 1) := by decide +kernel
theorem d167_7 : decode (xB 167) 7 = .ok (.putfield 147, 3) := by decide +kernel
theorem d167_10 : decode (xB 167) 10 = .ok (.aload_n 0, 1) := by decide +kernel
theorem d167_11 : decode (xB 167) 11 = .ok (.iload_n 3, 1) := by decide +kernel
theorem d167_12 : decode (xB 167) 12 = .ok (.putfield 150, 3) := by decide +kernel
theorem d167_15 : decode (xB 167) 15 = .ok (.aload_n 0, 1) := by decide +kernel
theorem d167_16 : decode (xB 167) 16 = .ok (.iconst 0, 1) := by decide +kernel
theorem d167_17 : decode (xB 167) 17 = .ok (.putfield 153, 3) := by decide +kernel
theorem d167_20 : decode (xB 167) 20 = .ok (.aload_n 0, 1) := by decide +kernel
theorem d167_21 : decode (xB 167) 21 = .ok (.iconst (-1), 1) := by decide +kernel
theorem d167_22 : decode (xB 167) 22 = .ok (.putfield 156, 3) := by decide +kernel
theorem d167_25 : decode (xB 167) 25 = .ok (.return_, 1) := by decide +kernel
theorem b167_0 {d : Nat} {P : xPr} {Q : xQr} {r : Nat} {mem : Nat → Nat → Int32} (hP : Cl d none 167 P Q) {p0 : Nat} {np0 : Nat} {p1 : Int32} {p2 : Int32} (hp0 : LAY[p0]? = some (14, np0))
    (k : Q none (LAY, RFu (p0 + 1), xu2 (xu2 (xu2 (xu2 mem 108 22 p1) 108 23 p2) 108 24 (nI 0)) 108 25 (-1))) : P 0 [.ref 108, .ref p0, .int p1, .int p2] [] (0, 0) (LAY, RFu r, mem) := by
  refine r_aload_n hP d167_0 rfl ?_
  refine r_aload_n hP d167_1 rfl ?_
  refine r_putr hP d167_2 fr_12_144 rfl (fun q => by cases q) ly_108 rg_len rg_len2 ?_
  rw [rg_set]
  refine r_aload_n hP d167_5 rfl ?_
  refine r_iload_n hP d167_6 rfl ?_
  refine r_puti hP d167_7 fr_12_147 rfl (fun q => by cases q) ly_108 ?_
  refine r_aload_n hP d167_10 rfl ?_
  refine r_iload_n hP d167_11 rfl ?_
  refine r_puti hP d167_12 fr_12_150 rfl (fun q => by cases q) ly_108 ?_
  refine r_aload_n hP d167_15 rfl ?_
  refine r_iconst (v := nI 0) hP d167_16 rfl ?_
  refine r_puti hP d167_17 fr_12_153 rfl (fun q => by cases q) ly_108 ?_
  refine r_aload_n hP d167_20 rfl ?_
  refine r_iconst (v := (-1)) hP d167_21 rfl ?_
  refine r_puti hP d167_22 fr_12_156 rfl (fun q => by cases q) ly_108 ?_
  exact r_vret hP d167_25 rfl k
theorem d168_0 : decode (xB 168) 0 = .ok (.aload_n 0, 1) := by decide +kernel
theorem d168_1 : decode (xB 168) 1 = .ok (.getfield 153, 3) := by decide +kernel
theorem d168_4 : decode (xB 168) 4 = .ok (.aload_n 0, 1) := by decide +kernel
theorem d168_5 : decode (xB 168) 5 = .ok (.getfield 147, 3) := by decide +kernel
theorem d168_8 : decode (xB 168) 8 = .ok (.if_icmp .ge 26, 3) := by decide +kernel
theorem d168_11 : decode (xB 168) 11 = .ok (.aload_n 0, 1) := by decide +kernel
theorem d168_12 : decode (xB 168) 12 = .ok (.getfield 153, 3) := by decide +kernel
theorem d168_15 : decode (xB 168) 15 = .ok (.aload_n 0, 1) := by decide +kernel
theorem d168_16 : decode (xB 168) 16 = .ok (.getfield 150, 3) := by decide +kernel
theorem d168_19 : decode (xB 168) 19 = .ok (.if_icmp .ge 15, 3) := by decide +kernel
theorem d168_22 : decode (xB 168) 22 = .ok (.aload_n 0, 1) := by decide +kernel
theorem d168_23 : decode (xB 168) 23 = .ok (.getfield 144, 3) := by decide +kernel
theorem d168_26 : decode (xB 168) 26 = .ok (.aload_n 0, 1) := by decide +kernel
theorem d168_27 : decode (xB 168) 27 = .ok (.getfield 153, 3) := by decide +kernel
theorem d168_30 : decode (xB 168) 30 = .ok (.baload, 1) := by decide +kernel
theorem d168_31 : decode (xB 168) 31 = .ok (.goto 4, 3) := by decide +kernel
theorem d168_34 : decode (xB 168) 34 = .ok (.iconst (-1), 1) := by decide +kernel
theorem d168_35 : decode (xB 168) 35 = .ok (.ireturn, 1) := by decide +kernel
theorem b168_0 {d : Nat} {P : xPr} {Q : xQr} {r : Nat} {mem : Nat → Nat → Int32} (hP : Cl d none 168 P Q)
    (kt : (mem 108 22) ≤ (mem 108 24) → P 34 [.ref 108] [] (0, 0) (LAY, RFu r, mem)) (kf : ¬ (mem 108 22) ≤ (mem 108 24) → P 11 [.ref 108] [] (0, 0) (LAY, RFu r, mem)) : P 0 [.ref 108] [] (0, 0) (LAY, RFu r, mem) := by
  refine r_aload_n hP d168_0 rfl ?_
  refine r_geti hP d168_1 fr_12_153 rfl ly_108 ?_
  refine r_aload_n hP d168_4 rfl ?_
  refine r_geti hP d168_5 fr_12_147 rfl ly_108 ?_
  exact r_icmp (t := 34) hP d168_8 (by decide) kt kf
theorem b168_11 {d : Nat} {P : xPr} {Q : xQr} {r : Nat} {mem : Nat → Nat → Int32} (hP : Cl d none 168 P Q)
    (kt : (mem 108 23) ≤ (mem 108 24) → P 34 [.ref 108] [] (0, 0) (LAY, RFu r, mem)) (kf : ¬ (mem 108 23) ≤ (mem 108 24) → P 22 [.ref 108] [] (0, 0) (LAY, RFu r, mem)) : P 11 [.ref 108] [] (0, 0) (LAY, RFu r, mem) := by
  refine r_aload_n hP d168_11 rfl ?_
  refine r_geti hP d168_12 fr_12_153 rfl ly_108 ?_
  refine r_aload_n hP d168_15 rfl ?_
  refine r_geti hP d168_16 fr_12_150 rfl ly_108 ?_
  exact r_icmp (t := 34) hP d168_19 (by decide) kt kf
theorem b168_22 {d : Nat} {P : xPr} {Q : xQr} {r : Nat} {mem : Nat → Nat → Int32} (hP : Cl d none 168 P Q) {rd : Nat} {nrd : Nat} (hrd : LAY[rd]? = some (14, nrd)) (hrq : r = rd + 1) (hi30 : vp_in (mem 108 24) nrd)
    (k : P 35 [.ref 108] [.int (mem rd (mem 108 24).toNatClampNeg)] (0, 0) (LAY, RFu r, mem)) : P 22 [.ref 108] [] (0, 0) (LAY, RFu r, mem) := by
  refine r_aload_n hP d168_22 rfl ?_
  refine r_getr (a := rd) hP d168_23 fr_12_144 rfl ly_108 (rg_read.trans hrq) ?_
  refine r_aload_n hP d168_26 rfl ?_
  refine r_geti hP d168_27 fr_12_153 rfl ly_108 ?_
  refine r_baload hP d168_30 (by decide) hrd hi30 ?_
  refine r_goto (t := 35) hP d168_31 (by decide) ?_
  exact k
theorem b168_34 {d : Nat} {P : xPr} {Q : xQr} {r : Nat} {mem : Nat → Nat → Int32} (hP : Cl d none 168 P Q) {v0 : Value}
    (k : P 35 [v0] [.int (-1)] (0, 0) (LAY, RFu r, mem)) : P 34 [v0] [] (0, 0) (LAY, RFu r, mem) := by
  refine r_iconst (v := (-1)) hP d168_34 rfl ?_
  exact k
theorem b168_35 {d : Nat} {P : xPr} {Q : xQr} {r : Nat} {mem : Nat → Nat → Int32} (hP : Cl d none 168 P Q) {v0 : Value} {y0 : Int32}
    (k : Q (some (.int y0)) (LAY, RFu r, mem)) : P 35 [v0] [.int y0] (0, 0) (LAY, RFu r, mem) := by
  exact r_iret hP d168_35 rfl k
theorem d169_0 : decode (xB 169) 0 = .ok (.aload_n 0, 1) := by decide +kernel
theorem d169_1 : decode (xB 169) 1 = .ok (.getfield 156, 3) := by decide +kernel
theorem d169_4 : decode (xB 169) 4 = .ok (.iconst (-1), 1) := by decide +kernel
theorem d169_5 : decode (xB 169) 5 = .ok (.if_icmp .ne 7, 3) := by decide +kernel
theorem d169_8 : decode (xB 169) 8 = .ok (.iconst 1, 1) := by decide +kernel
theorem d169_9 : decode (xB 169) 9 = .ok (.goto 4, 3) := by decide +kernel
theorem d169_12 : decode (xB 169) 12 = .ok (.iconst 0, 1) := by decide +kernel
theorem d169_13 : decode (xB 169) 13 = .ok (.ireturn, 1) := by decide +kernel
theorem b169_0 {d : Nat} {P : xPr} {Q : xQr} {r : Nat} {mem : Nat → Nat → Int32} (hP : Cl d none 169 P Q)
    (kt : ¬ (mem 108 25) = (-1) → P 12 [.ref 108] [] (0, 0) (LAY, RFu r, mem)) (kf : (mem 108 25) = (-1) → P 8 [.ref 108] [] (0, 0) (LAY, RFu r, mem)) : P 0 [.ref 108] [] (0, 0) (LAY, RFu r, mem) := by
  refine r_aload_n hP d169_0 rfl ?_
  refine r_geti hP d169_1 fr_12_156 rfl ly_108 ?_
  refine r_iconst (v := (-1)) hP d169_4 rfl ?_
  exact r_icmp (t := 12) hP d169_5 (by decide) kt (fun q => kf (Decidable.of_not_not q))
theorem b169_8 {d : Nat} {P : xPr} {Q : xQr} {r : Nat} {mem : Nat → Nat → Int32} (hP : Cl d none 169 P Q) {v0 : Value}
    (k : P 13 [v0] [.int (nI 1)] (0, 0) (LAY, RFu r, mem)) : P 8 [v0] [] (0, 0) (LAY, RFu r, mem) := by
  refine r_iconst (v := nI 1) hP d169_8 rfl ?_
  refine r_goto (t := 13) hP d169_9 (by decide) ?_
  exact k
theorem b169_12 {d : Nat} {P : xPr} {Q : xQr} {r : Nat} {mem : Nat → Nat → Int32} (hP : Cl d none 169 P Q) {v0 : Value}
    (k : P 13 [v0] [.int (nI 0)] (0, 0) (LAY, RFu r, mem)) : P 12 [v0] [] (0, 0) (LAY, RFu r, mem) := by
  refine r_iconst (v := nI 0) hP d169_12 rfl ?_
  exact k
theorem b169_13 {d : Nat} {P : xPr} {Q : xQr} {r : Nat} {mem : Nat → Nat → Int32} (hP : Cl d none 169 P Q) {v0 : Value} {y0 : Int32} (hzr : y0 = 0 ∨ y0 = 1)
    (k : Q (some (.int y0)) (LAY, RFu r, mem)) : P 13 [v0] [.int y0] (0, 0) (LAY, RFu r, mem) := by
  exact r_zret hP d169_13 rfl hzr k
theorem d170_0 : decode (xB 170) 0 = .ok (.aload_n 0, 1) := by decide +kernel
theorem d170_1 : decode (xB 170) 1 = .ok (.invokevirtual 159, 3) := by decide +kernel
theorem d170_4 : decode (xB 170) 4 = .ok (.ifCond .eq 8, 3) := by decide +kernel
theorem d170_7 : decode (xB 170) 7 = .ok (.aload_n 0, 1) := by decide +kernel
theorem d170_8 : decode (xB 170) 8 = .ok (.iload_n 1, 1) := by decide +kernel
theorem d170_9 : decode (xB 170) 9 = .ok (.putfield 156, 3) := by decide +kernel
theorem d170_12 : decode (xB 170) 12 = .ok (.return_, 1) := by decide +kernel
theorem b170_0 {d : Nat} {P : xPr} {Q : xQr} {r : Nat} {mem : Nat → Nat → Int32} (hP : Cl d none 170 P Q) {p0 : Int32}
    (k : xCall d 169 [.ref 108] (LAY, RFu r, mem) (Bk P 1 [.ref 108, .int p0] [] (0, 0))) : P 0 [.ref 108, .int p0] [] (0, 0) (LAY, RFu r, mem) := by
  refine r_aload_n hP d170_0 rfl ?_
  exact r_callv (As := []) (S := []) hP d170_1 cr_12_159 (by decide +kernel) rfl (by simp) rfl ly_108 (by simp [Value.category]) ⟨Nat.zero_le _, Nat.zero_le _⟩ k
theorem b170_4 {d : Nat} {P : xPr} {Q : xQr} {r : Nat} {mem : Nat → Nat → Int32} (hP : Cl d none 170 P Q) {x1 : Int32} {y0 : Int32}
    (kt : y0 = 0 → P 12 [.ref 108, .int x1] [] (0, 0) (LAY, RFu r, mem)) (kf : ¬ y0 = 0 → P 7 [.ref 108, .int x1] [] (0, 0) (LAY, RFu r, mem)) : P 4 [.ref 108, .int x1] [.int y0] (0, 0) (LAY, RFu r, mem) := by
  exact r_if (t := 12) hP d170_4 (by decide) kt kf
theorem b170_7 {d : Nat} {P : xPr} {Q : xQr} {r : Nat} {mem : Nat → Nat → Int32} (hP : Cl d none 170 P Q) {x1 : Int32}
    (k : P 12 [.ref 108, .int x1] [] (0, 0) (LAY, RFu r, xu2 mem 108 25 x1)) : P 7 [.ref 108, .int x1] [] (0, 0) (LAY, RFu r, mem) := by
  refine r_aload_n hP d170_7 rfl ?_
  refine r_iload_n hP d170_8 rfl ?_
  refine r_puti hP d170_9 fr_12_156 rfl (fun q => by cases q) ly_108 ?_
  exact k
theorem b170_12 {d : Nat} {P : xPr} {Q : xQr} {r : Nat} {mem : Nat → Nat → Int32} (hP : Cl d none 170 P Q) {v0 : Value} {v1 : Value}
    (k : Q none (LAY, RFu r, mem)) : P 12 [v0, v1] [] (0, 0) (LAY, RFu r, mem) := by
  exact r_vret hP d170_12 rfl k
theorem d171_0 : decode (xB 171) 0 = .ok (.aload_n 0, 1) := by decide +kernel
theorem d171_1 : decode (xB 171) 1 = .ok (.invokevirtual 159, 3) := by decide +kernel
theorem d171_4 : decode (xB 171) 4 = .ok (.ifCond .eq 11, 3) := by decide +kernel
theorem d171_7 : decode (xB 171) 7 = .ok (.aload_n 0, 1) := by decide +kernel
theorem d171_8 : decode (xB 171) 8 = .ok (.invokevirtual 163, 3) := by decide +kernel
theorem d171_11 : decode (xB 171) 11 = .ok (.iload_n 1, 1) := by decide +kernel
theorem d171_12 : decode (xB 171) 12 = .ok (.if_icmp .eq 5, 3) := by decide +kernel
theorem d171_15 : decode (xB 171) 15 = .ok (.iconst 0, 1) := by decide +kernel
theorem d171_16 : decode (xB 171) 16 = .ok (.ireturn, 1) := by decide +kernel
theorem d171_17 : decode (xB 171) 17 = .ok (.aload_n 0, 1) := by decide +kernel
theorem d171_18 : decode (xB 171) 18 = .ok (.dup, 1) := by decide +kernel
theorem d171_19 : decode (xB 171) 19 = .ok (.getfield 153, 3) := by decide +kernel
theorem d171_22 : decode (xB 171) 22 = .ok (.iconst 1, 1) := by decide +kernel
theorem d171_23 : decode (xB 171) 23 = .ok (.iadd, 1) := by decide +kernel
theorem d171_24 : decode (xB 171) 24 = .ok (.putfield 153, 3) := by decide +kernel
theorem d171_27 : decode (xB 171) 27 = .ok (.iconst 1, 1) := by decide +kernel
theorem d171_28 : decode (xB 171) 28 = .ok (.ireturn, 1) := by decide +kernel
theorem b171_0 {d : Nat} {P : xPr} {Q : xQr} {r : Nat} {mem : Nat → Nat → Int32} (hP : Cl d none 171 P Q) {p0 : Int32}
    (k : xCall d 169 [.ref 108] (LAY, RFu r, mem) (Bk P 1 [.ref 108, .int p0] [] (0, 0))) : P 0 [.ref 108, .int p0] [] (0, 0) (LAY, RFu r, mem) := by
  refine r_aload_n hP d171_0 rfl ?_
  exact r_callv (As := []) (S := []) hP d171_1 cr_12_159 (by decide +kernel) rfl (by simp) rfl ly_108 (by simp [Value.category]) ⟨Nat.zero_le _, Nat.zero_le _⟩ k
theorem b171_4 {d : Nat} {P : xPr} {Q : xQr} {r : Nat} {mem : Nat → Nat → Int32} (hP : Cl d none 171 P Q) {x1 : Int32} {y0 : Int32}
    (kt : y0 = 0 → P 15 [.ref 108, .int x1] [] (0, 0) (LAY, RFu r, mem)) (kf : ¬ y0 = 0 → P 7 [.ref 108, .int x1] [] (0, 0) (LAY, RFu r, mem)) : P 4 [.ref 108, .int x1] [.int y0] (0, 0) (LAY, RFu r, mem) := by
  exact r_if (t := 15) hP d171_4 (by decide) kt kf
theorem b171_7 {d : Nat} {P : xPr} {Q : xQr} {r : Nat} {mem : Nat → Nat → Int32} (hP : Cl d none 171 P Q) {x1 : Int32}
    (k : xCall d 168 [.ref 108] (LAY, RFu r, mem) (Bk P 8 [.ref 108, .int x1] [] (0, 0))) : P 7 [.ref 108, .int x1] [] (0, 0) (LAY, RFu r, mem) := by
  refine r_aload_n hP d171_7 rfl ?_
  exact r_callv (As := []) (S := []) hP d171_8 cr_12_163 (by decide +kernel) rfl (by simp) rfl ly_108 (by simp [Value.category]) ⟨Nat.zero_le _, Nat.zero_le _⟩ k
theorem b171_11 {d : Nat} {P : xPr} {Q : xQr} {r : Nat} {mem : Nat → Nat → Int32} (hP : Cl d none 171 P Q) {x1 : Int32} {y0 : Int32}
    (kt : y0 = x1 → P 17 [.ref 108, .int x1] [] (0, 0) (LAY, RFu r, mem)) (kf : ¬ y0 = x1 → P 15 [.ref 108, .int x1] [] (0, 0) (LAY, RFu r, mem)) : P 11 [.ref 108, .int x1] [.int y0] (0, 0) (LAY, RFu r, mem) := by
  refine r_iload_n hP d171_11 rfl ?_
  exact r_icmp (t := 17) hP d171_12 (by decide) kt kf
theorem b171_15 {d : Nat} {P : xPr} {Q : xQr} {r : Nat} {mem : Nat → Nat → Int32} (hP : Cl d none 171 P Q) {v0 : Value} {v1 : Value} (hzr : nI 0 = 0 ∨ nI 0 = 1)
    (k : Q (some (.int (nI 0))) (LAY, RFu r, mem)) : P 15 [v0, v1] [] (0, 0) (LAY, RFu r, mem) := by
  refine r_iconst (v := nI 0) hP d171_15 rfl ?_
  exact r_zret hP d171_16 rfl hzr k
theorem b171_17 {d : Nat} {P : xPr} {Q : xQr} {r : Nat} {mem : Nat → Nat → Int32} (hP : Cl d none 171 P Q) {v1 : Value} (hzr : nI 1 = 0 ∨ nI 1 = 1)
    (k : Q (some (.int (nI 1))) (LAY, RFu r, xu2 mem 108 24 ((mem 108 24) + (nI 1)))) : P 17 [.ref 108, v1] [] (0, 0) (LAY, RFu r, mem) := by
  refine r_aload_n hP d171_17 rfl ?_
  refine r_dup hP d171_18 rfl ?_
  refine r_geti hP d171_19 fr_12_153 rfl ly_108 ?_
  refine r_iconst (v := nI 1) hP d171_22 rfl ?_
  refine r_iadd hP d171_23 ?_
  refine r_puti hP d171_24 fr_12_153 rfl (fun q => by cases q) ly_108 ?_
  refine r_iconst (v := nI 1) hP d171_27 rfl ?_
  exact r_zret hP d171_28 rfl hzr k
theorem d172_0 : decode (xB 172) 0 = .ok (.aload_n 0, 1) := by decide +kernel
theorem d172_1 : decode (xB 172) 1 = .ok (.invokevirtual 159, 3) := by decide +kernel
theorem d172_4 : decode (xB 172) 4 = .ok (.ifCond .ne 5, 3) := by decide +kernel
theorem d172_7 : decode (xB 172) 7 = .ok (.iconst 0, 1) := by decide +kernel
theorem d172_8 : decode (xB 172) 8 = .ok (.ireturn, 1) := by decide +kernel
theorem d172_9 : decode (xB 172) 9 = .ok (.aload_n 0, 1) := by decide +kernel
theorem d172_10 : decode (xB 172) 10 = .ok (.getfield 153, 3) := by decide +kernel
theorem d172_13 : decode (xB 172) 13 = .ok (.istore_n 2, 1) := by decide +kernel
theorem d172_14 : decode (xB 172) 14 = .ok (.iconst 0, 1) := by decide +kernel
theorem d172_15 : decode (xB 172) 15 = .ok (.istore_n 3, 1) := by decide +kernel
theorem d172_16 : decode (xB 172) 16 = .ok (.aload_n 0, 1) := by decide +kernel
theorem d172_17 : decode (xB 172) 17 = .ok (.getfield 153, 3) := by decide +kernel
theorem d172_20 : decode (xB 172) 20 = .ok (.iload_n 2, 1) := by decide +kernel
theorem d172_21 : decode (xB 172) 21 = .ok (.iload_n 1, 1) := by decide +kernel
theorem d172_22 : decode (xB 172) 22 = .ok (.iadd, 1) := by decide +kernel
theorem d172_23 : decode (xB 172) 23 = .ok (.if_icmp .ge 43, 3) := by decide +kernel
theorem d172_26 : decode (xB 172) 26 = .ok (.aload_n 0, 1) := by decide +kernel
theorem d172_27 : decode (xB 172) 27 = .ok (.invokevirtual 163, 3) := by decide +kernel
theorem d172_30 : decode (xB 172) 30 = .ok (.bipush 48, 2) := by decide +kernel
theorem d172_32 : decode (xB 172) 32 = .ok (.bipush 57, 2) := by decide +kernel
theorem d172_34 : decode (xB 172) 34 = .ok (.invokestatic 130, 3) := by decide +kernel
theorem d172_37 : decode (xB 172) 37 = .ok (.ifCond .eq 29, 3) := by decide +kernel
theorem d172_40 : decode (xB 172) 40 = .ok (.bipush 10, 2) := by decide +kernel
theorem d172_42 : decode (xB 172) 42 = .ok (.iload_n 3, 1) := by decide +kernel
theorem d172_43 : decode (xB 172) 43 = .ok (.imul, 1) := by decide +kernel
theorem d172_44 : decode (xB 172) 44 = .ok (.aload_n 0, 1) := by decide +kernel
theorem d172_45 : decode (xB 172) 45 = .ok (.invokevirtual 163, 3) := by decide +kernel
theorem d172_48 : decode (xB 172) 48 = .ok (.iadd, 1) := by decide +kernel
theorem d172_49 : decode (xB 172) 49 = .ok (.bipush 48, 2) := by decide +kernel
theorem d172_51 : decode (xB 172) 51 = .ok (.isub, 1) := by decide +kernel
theorem d172_52 : decode (xB 172) 52 = .ok (.istore_n 3, 1) := by decide +kernel
theorem d172_53 : decode (xB 172) 53 = .ok (.aload_n 0, 1) := by decide +kernel
theorem d172_54 : decode (xB 172) 54 = .ok (.dup, 1) := by decide +kernel
theorem d172_55 : decode (xB 172) 55 = .ok (.getfield 153, 3) := by decide +kernel
theorem d172_58 : decode (xB 172) 58 = .ok (.iconst 1, 1) := by decide +kernel
theorem d172_59 : decode (xB 172) 59 = .ok (.iadd, 1) := by decide +kernel
theorem d172_60 : decode (xB 172) 60 = .ok (.putfield 153, 3) := by decide +kernel
theorem d172_63 : decode (xB 172) 63 = .ok (.goto (-47), 3) := by decide +kernel
theorem d172_66 : decode (xB 172) 66 = .ok (.aload_n 0, 1) := by decide +kernel
theorem d172_67 : decode (xB 172) 67 = .ok (.getfield 153, 3) := by decide +kernel
theorem d172_70 : decode (xB 172) 70 = .ok (.iload_n 2, 1) := by decide +kernel
theorem d172_71 : decode (xB 172) 71 = .ok (.if_icmp .ne 11, 3) := by decide +kernel
theorem d172_74 : decode (xB 172) 74 = .ok (.aload_n 0, 1) := by decide +kernel
theorem d172_75 : decode (xB 172) 75 = .ok (.aload_n 0, 1) := by decide +kernel
theorem d172_76 : decode (xB 172) 76 = .ok (.getfield 153, 3) := by decide +kernel
theorem d172_79 : decode (xB 172) 79 = .ok (.invokevirtual 167, 3) := by decide +kernel
theorem d172_82 : decode (xB 172) 82 = .ok (.iload_n 3, 1) := by decide +kernel
theorem d172_83 : decode (xB 172) 83 = .ok (.ireturn, 1) := by decide +kernel
theorem b172_0 {d : Nat} {P : xPr} {Q : xQr} {r : Nat} {mem : Nat → Nat → Int32} (hP : Cl d none 172 P Q) {p0 : Int32}
    (k : xCall d 169 [.ref 108] (LAY, RFu r, mem) (Bk P 1 [.ref 108, .int p0, .null, .null] [] (0, 0))) : P 0 [.ref 108, .int p0, .null, .null] [] (0, 0) (LAY, RFu r, mem) := by
  refine r_aload_n hP d172_0 rfl ?_
  exact r_callv (As := []) (S := []) hP d172_1 cr_12_159 (by decide +kernel) rfl (by simp) rfl ly_108 (by simp [Value.category]) ⟨Nat.zero_le _, Nat.zero_le _⟩ k
theorem b172_4 {d : Nat} {P : xPr} {Q : xQr} {r : Nat} {mem : Nat → Nat → Int32} (hP : Cl d none 172 P Q) {x1 : Int32} {v2 : Value} {v3 : Value} {y0 : Int32}
    (kt : ¬ y0 = 0 → P 9 [.ref 108, .int x1, v2, v3] [] (0, 0) (LAY, RFu r, mem)) (kf : y0 = 0 → P 7 [.ref 108, .int x1, v2, v3] [] (0, 0) (LAY, RFu r, mem)) : P 4 [.ref 108, .int x1, v2, v3] [.int y0] (0, 0) (LAY, RFu r, mem) := by
  exact r_if (t := 9) hP d172_4 (by decide) kt (fun q => kf (Decidable.of_not_not q))
theorem b172_7 {d : Nat} {P : xPr} {Q : xQr} {r : Nat} {mem : Nat → Nat → Int32} (hP : Cl d none 172 P Q) {v0 : Value} {v1 : Value} {v2 : Value} {v3 : Value}
    (k : Q (some (.int (nI 0))) (LAY, RFu r, mem)) : P 7 [v0, v1, v2, v3] [] (0, 0) (LAY, RFu r, mem) := by
  refine r_iconst (v := nI 0) hP d172_7 rfl ?_
  exact r_iret hP d172_8 rfl k
theorem b172_9 {d : Nat} {P : xPr} {Q : xQr} {r : Nat} {mem : Nat → Nat → Int32} (hP : Cl d none 172 P Q) {x1 : Int32} {v2 : Value} {v3 : Value}
    (k : P 16 [.ref 108, .int x1, .int (mem 108 24), .int (nI 0)] [] (0, 0) (LAY, RFu r, mem)) : P 9 [.ref 108, .int x1, v2, v3] [] (0, 0) (LAY, RFu r, mem) := by
  refine r_aload_n hP d172_9 rfl ?_
  refine r_geti hP d172_10 fr_12_153 rfl ly_108 ?_
  refine r_istore_n (L' := [.ref 108, .int x1, .int (mem 108 24), v3]) hP d172_13 (Nat.le_of_ble_eq_true rfl) rfl ?_
  refine r_iconst (v := nI 0) hP d172_14 rfl ?_
  refine r_istore_n (L' := [.ref 108, .int x1, .int (mem 108 24), .int (nI 0)]) hP d172_15 (Nat.le_of_ble_eq_true rfl) rfl ?_
  exact k
theorem b172_16 {d : Nat} {P : xPr} {Q : xQr} {r : Nat} {mem : Nat → Nat → Int32} (hP : Cl d none 172 P Q) {x1 : Int32} {x2 : Int32} {x3 : Int32}
    (kt : (x2 + x1) ≤ (mem 108 24) → P 66 [.ref 108, .int x1, .int x2, .int x3] [] (0, 0) (LAY, RFu r, mem)) (kf : ¬ (x2 + x1) ≤ (mem 108 24) → P 26 [.ref 108, .int x1, .int x2, .int x3] [] (0, 0) (LAY, RFu r, mem)) : P 16 [.ref 108, .int x1, .int x2, .int x3] [] (0, 0) (LAY, RFu r, mem) := by
  refine r_aload_n hP d172_16 rfl ?_
  refine r_geti hP d172_17 fr_12_153 rfl ly_108 ?_
  refine r_iload_n hP d172_20 rfl ?_
  refine r_iload_n hP d172_21 rfl ?_
  refine r_iadd hP d172_22 ?_
  exact r_icmp (t := 66) hP d172_23 (by decide) kt kf
theorem b172_26 {d : Nat} {P : xPr} {Q : xQr} {r : Nat} {mem : Nat → Nat → Int32} (hP : Cl d none 172 P Q) {x1 : Int32} {x2 : Int32} {x3 : Int32}
    (k : xCall d 168 [.ref 108] (LAY, RFu r, mem) (Bk P 27 [.ref 108, .int x1, .int x2, .int x3] [] (0, 0))) : P 26 [.ref 108, .int x1, .int x2, .int x3] [] (0, 0) (LAY, RFu r, mem) := by
  refine r_aload_n hP d172_26 rfl ?_
  exact r_callv (As := []) (S := []) hP d172_27 cr_12_163 (by decide +kernel) rfl (by simp) rfl ly_108 (by simp [Value.category]) ⟨Nat.zero_le _, Nat.zero_le _⟩ k
theorem b172_30 {d : Nat} {P : xPr} {Q : xQr} {r : Nat} {mem : Nat → Nat → Int32} (hP : Cl d none 172 P Q) {x1 : Int32} {x2 : Int32} {x3 : Int32} {y0 : Int32}
    (k : xCall d 158 [.int y0, .int (nI 48), .int (nI 57)] (LAY, RFu r, mem) (Bk P 34 [.ref 108, .int x1, .int x2, .int x3] [] (0, 0))) : P 30 [.ref 108, .int x1, .int x2, .int x3] [.int y0] (0, 0) (LAY, RFu r, mem) := by
  refine r_bipush (v := nI 48) hP d172_30 rfl ?_
  refine r_bipush (v := nI 57) hP d172_32 rfl ?_
  exact r_calls (As := [.int y0, .int (nI 48), .int (nI 57)]) (S := []) hP d172_34 cr_12_130 (by decide +kernel) rfl (by simp [Value.category]) rfl (by simp [Value.category]) ⟨Nat.zero_le _, Nat.zero_le _⟩ k
theorem b172_37 {d : Nat} {P : xPr} {Q : xQr} {r : Nat} {mem : Nat → Nat → Int32} (hP : Cl d none 172 P Q) {x1 : Int32} {x2 : Int32} {x3 : Int32} {y0 : Int32}
    (kt : y0 = 0 → P 66 [.ref 108, .int x1, .int x2, .int x3] [] (0, 0) (LAY, RFu r, mem)) (kf : ¬ y0 = 0 → P 40 [.ref 108, .int x1, .int x2, .int x3] [] (0, 0) (LAY, RFu r, mem)) : P 37 [.ref 108, .int x1, .int x2, .int x3] [.int y0] (0, 0) (LAY, RFu r, mem) := by
  exact r_if (t := 66) hP d172_37 (by decide) kt kf
theorem b172_40 {d : Nat} {P : xPr} {Q : xQr} {r : Nat} {mem : Nat → Nat → Int32} (hP : Cl d none 172 P Q) {x1 : Int32} {x2 : Int32} {x3 : Int32}
    (k : xCall d 168 [.ref 108] (LAY, RFu r, mem) (Bk P 45 [.ref 108, .int x1, .int x2, .int x3] [.int ((nI 10) * x3)] (0, 0))) : P 40 [.ref 108, .int x1, .int x2, .int x3] [] (0, 0) (LAY, RFu r, mem) := by
  refine r_bipush (v := nI 10) hP d172_40 rfl ?_
  refine r_iload_n hP d172_42 rfl ?_
  refine r_imul hP d172_43 ?_
  refine r_aload_n hP d172_44 rfl ?_
  exact r_callv (As := []) (S := [.int ((nI 10) * x3)]) hP d172_45 cr_12_163 (by decide +kernel) rfl (by simp) rfl ly_108 (by simp [Value.category]) ⟨Nat.zero_le _, Nat.zero_le _⟩ k
theorem b172_48 {d : Nat} {P : xPr} {Q : xQr} {r : Nat} {mem : Nat → Nat → Int32} (hP : Cl d none 172 P Q) {x1 : Int32} {x2 : Int32} {v3 : Value} {y0 : Int32} {y1 : Int32}
    (k : P 16 [.ref 108, .int x1, .int x2, .int ((y0 + y1) - (nI 48))] [] (0, 0) (LAY, RFu r, xu2 mem 108 24 ((mem 108 24) + (nI 1)))) : P 48 [.ref 108, .int x1, .int x2, v3] [.int y1, .int y0] (0, 0) (LAY, RFu r, mem) := by
  refine r_iadd hP d172_48 ?_
  refine r_bipush (v := nI 48) hP d172_49 rfl ?_
  refine r_isub hP d172_51 ?_
  refine r_istore_n (L' := [.ref 108, .int x1, .int x2, .int ((y0 + y1) - (nI 48))]) hP d172_52 (Nat.le_of_ble_eq_true rfl) rfl ?_
  refine r_aload_n hP d172_53 rfl ?_
  refine r_dup hP d172_54 rfl ?_
  refine r_geti hP d172_55 fr_12_153 rfl ly_108 ?_
  refine r_iconst (v := nI 1) hP d172_58 rfl ?_
  refine r_iadd hP d172_59 ?_
  refine r_puti hP d172_60 fr_12_153 rfl (fun q => by cases q) ly_108 ?_
  refine r_goto (t := 16) hP d172_63 (by decide) ?_
  exact k
theorem b172_66 {d : Nat} {P : xPr} {Q : xQr} {r : Nat} {mem : Nat → Nat → Int32} (hP : Cl d none 172 P Q) {v1 : Value} {x2 : Int32} {x3 : Int32}
    (kt : ¬ (mem 108 24) = x2 → P 82 [.ref 108, v1, .int x2, .int x3] [] (0, 0) (LAY, RFu r, mem)) (kf : (mem 108 24) = x2 → P 74 [.ref 108, v1, .int x2, .int x3] [] (0, 0) (LAY, RFu r, mem)) : P 66 [.ref 108, v1, .int x2, .int x3] [] (0, 0) (LAY, RFu r, mem) := by
  refine r_aload_n hP d172_66 rfl ?_
  refine r_geti hP d172_67 fr_12_153 rfl ly_108 ?_
  refine r_iload_n hP d172_70 rfl ?_
  exact r_icmp (t := 82) hP d172_71 (by decide) kt (fun q => kf (Decidable.of_not_not q))
theorem b172_74 {d : Nat} {P : xPr} {Q : xQr} {r : Nat} {mem : Nat → Nat → Int32} (hP : Cl d none 172 P Q) {v1 : Value} {v2 : Value} {x3 : Int32}
    (k : xCall d 170 [.ref 108, .int (mem 108 24)] (LAY, RFu r, mem) (Bk P 79 [.ref 108, v1, v2, .int x3] [] (0, 0))) : P 74 [.ref 108, v1, v2, .int x3] [] (0, 0) (LAY, RFu r, mem) := by
  refine r_aload_n hP d172_74 rfl ?_
  refine r_aload_n hP d172_75 rfl ?_
  refine r_geti hP d172_76 fr_12_153 rfl ly_108 ?_
  exact r_callv (As := [.int (mem 108 24)]) (S := []) hP d172_79 cr_12_167 (by decide +kernel) rfl (by simp [Value.category]) rfl ly_108 (by simp [Value.category]) ⟨Nat.zero_le _, Nat.zero_le _⟩ k
theorem b172_82 {d : Nat} {P : xPr} {Q : xQr} {r : Nat} {mem : Nat → Nat → Int32} (hP : Cl d none 172 P Q) {v0 : Value} {v1 : Value} {v2 : Value} {x3 : Int32}
    (k : Q (some (.int x3)) (LAY, RFu r, mem)) : P 82 [v0, v1, v2, .int x3] [] (0, 0) (LAY, RFu r, mem) := by
  refine r_iload_n hP d172_82 rfl ?_
  exact r_iret hP d172_83 rfl k
theorem d173_0 : decode (xB 173) 0 = .ok (.aload_n 0, 1) := by decide +kernel
theorem d173_1 : decode (xB 173) 1 = .ok (.iconst 0, 1) := by decide +kernel
theorem d173_2 : decode (xB 173) 2 = .ok (.putfield 121, 3) := by decide +kernel
theorem d173_5 : decode (xB 173) 5 = .ok (.aload_n 0, 1) := by decide +kernel
theorem d173_6 : decode (xB 173) 6 = .ok (.aload_n 0, 1) := by decide +kernel
theorem d173_7 : decode (xB 173) 7 = .ok (.getfield 50, 3) := by decide +kernel
theorem d173_10 : decode (xB 173) 10 = .ok (.aload_n 0, 1) := by decide +kernel
theorem d173_11 : decode (xB 173) 11 = .ok (.getfield 141, 3) := by decide +kernel
theorem d173_14 : decode (xB 173) 14 = .ok (.bipush 76, 2) := by decide +kernel
theorem d173_16 : decode (xB 173) 16 = .ok (.invokevirtual 171, 3) := by decide +kernel
theorem d173_19 : decode (xB 173) 19 = .ok (.aload_n 0, 1) := by decide +kernel
theorem d173_20 : decode (xB 173) 20 = .ok (.iconst 0, 1) := by decide +kernel
theorem d173_21 : decode (xB 173) 21 = .ok (.putfield 141, 3) := by decide +kernel
theorem d173_24 : decode (xB 173) 24 = .ok (.aload_n 0, 1) := by decide +kernel
theorem d173_25 : decode (xB 173) 25 = .ok (.getfield 147, 3) := by decide +kernel
theorem d173_28 : decode (xB 173) 28 = .ok (.ifCond .ne 5, 3) := by decide +kernel
theorem d173_31 : decode (xB 173) 31 = .ok (.iconst 0, 1) := by decide +kernel
theorem d173_32 : decode (xB 173) 32 = .ok (.ireturn, 1) := by decide +kernel
theorem d173_33 : decode (xB 173) 33 = .ok (.aload_n 0, 1) := by decide +kernel
theorem d173_34 : decode (xB 173) 34 = .ok (.getfield 138, 3) := by decide +kernel
theorem d173_37 : decode (xB 173) 37 = .ok (.istore_n 1, 1) := by decide +kernel
theorem d173_38 : decode (xB 173) 38 = .ok (.aload_n 0, 1) := by decide +kernel
theorem d173_39 : decode (xB 173) 39 = .ok (.getfield 127, 3) := by decide +kernel
theorem d173_42 : decode (xB 173) 42 = .ok (.istore_n 2, 1) := by decide +kernel
theorem d173_43 : decode (xB 173) 43 = .ok (.iconst 0, 1) := by decide +kernel
theorem d173_44 : decode (xB 173) 44 = .ok (.istore_n 3, 1) := by decide +kernel
theorem d173_45 : decode (xB 173) 45 = .ok (.iconst 1, 1) := by decide +kernel
theorem d173_46 : decode (xB 173) 46 = .ok (.istore 4, 2) := by decide +kernel
theorem d173_48 : decode (xB 173) 48 = .ok (.iload 4, 2) := by decide +kernel
theorem d173_50 : decode (xB 173) 50 = .ok (.ifCond .eq 144, 3) := by decide +kernel
theorem d173_53 : decode (xB 173) 53 = .ok (.aload_n 0, 1) := by decide +kernel
theorem d173_54 : decode (xB 173) 54 = .ok (.invokevirtual 159, 3) := by decide +kernel
theorem d173_57 : decode (xB 173) 57 = .ok (.ifCond .eq 137, 3) := by decide +kernel
theorem d173_60 : decode (xB 173) 60 = .ok (.aload_n 0, 1) := by decide +kernel
theorem d173_61 : decode (xB 173) 61 = .ok (.invokevirtual 163, 3) := by decide +kernel
theorem d173_64 : decode (xB 173) 64 = .ok (.bipush 114, 2) := by decide +kernel
theorem d173_66 : decode (xB 173) 66 = .ok (.if_icmp .ne 71, 3) := by decide +kernel
theorem d173_69 : decode (xB 173) 69 = .ok (.iload_n 1, 1) := by decide +kernel
theorem d173_70 : decode (xB 173) 70 = .ok (.iconst 4, 1) := by decide +kernel
theorem d173_71 : decode (xB 173) 71 = .ok (.if_icmp .ne 14, 3) := by decide +kernel
theorem d173_74 : decode (xB 173) 74 = .ok (.aload_n 0, 1) := by decide +kernel
theorem d173_75 : decode (xB 173) 75 = .ok (.aload_n 0, 1) := by decide +kernel
theorem d173_76 : decode (xB 173) 76 = .ok (.getfield 153, 3) := by decide +kernel
theorem d173_79 : decode (xB 173) 79 = .ok (.invokevirtual 167, 3) := by decide +kernel
theorem d173_82 : decode (xB 173) 82 = .ok (.goto 49, 3) := by decide +kernel
theorem d173_85 : decode (xB 173) 85 = .ok (.aload_n 0, 1) := by decide +kernel
theorem d173_86 : decode (xB 173) 86 = .ok (.dup, 1) := by decide +kernel
theorem d173_87 : decode (xB 173) 87 = .ok (.getfield 153, 3) := by decide +kernel
theorem d173_90 : decode (xB 173) 90 = .ok (.iconst 1, 1) := by decide +kernel
theorem d173_91 : decode (xB 173) 91 = .ok (.iadd, 1) := by decide +kernel
theorem d173_92 : decode (xB 173) 92 = .ok (.putfield 153, 3) := by decide +kernel
theorem d173_95 : decode (xB 173) 95 = .ok (.aload_n 0, 1) := by decide +kernel
theorem d173_96 : decode (xB 173) 96 = .ok (.invokevirtual 163, 3) := by decide +kernel
theorem d173_99 : decode (xB 173) 99 = .ok (.bipush 48, 2) := by decide +kernel
theorem d173_101 : decode (xB 173) 101 = .ok (.bipush 56, 2) := by decide +kernel
theorem d173_103 : decode (xB 173) 103 = .ok (.invokestatic 130, 3) := by decide +kernel
theorem d173_106 : decode (xB 173) 106 = .ok (.ifCond .eq 17, 3) := by decide +kernel
theorem d173_109 : decode (xB 173) 109 = .ok (.aload_n 0, 1) := by decide +kernel
theorem d173_110 : decode (xB 173) 110 = .ok (.getfield 9, 3) := by decide +kernel
theorem d173_113 : decode (xB 173) 113 = .ok (.iload_n 1, 1) := by decide +kernel
theorem d173_114 : decode (xB 173) 114 = .ok (.aload_n 0, 1) := by decide +kernel
theorem d173_115 : decode (xB 173) 115 = .ok (.iconst 1, 1) := by decide +kernel
theorem d173_116 : decode (xB 173) 116 = .ok (.invokevirtual 175, 3) := by decide +kernel
theorem d173_119 : decode (xB 173) 119 = .ok (.iastore, 1) := by decide +kernel
theorem d173_120 : decode (xB 173) 120 = .ok (.goto 11, 3) := by decide +kernel
theorem d173_123 : decode (xB 173) 123 = .ok (.aload_n 0, 1) := by decide +kernel
theorem d173_124 : decode (xB 173) 124 = .ok (.aload_n 0, 1) := by decide +kernel
theorem d173_125 : decode (xB 173) 125 = .ok (.getfield 153, 3) := by decide +kernel
theorem d173_128 : decode (xB 173) 128 = .ok (.invokevirtual 167, 3) := by decide +kernel
theorem d173_131 : decode (xB 173) 131 = .ok (.iinc 1 1, 3) := by decide +kernel
theorem d173_134 : decode (xB 173) 134 = .ok (.goto 46, 3) := by decide +kernel
theorem d173_137 : decode (xB 173) 137 = .ok (.iload_n 2, 1) := by decide +kernel
theorem d173_138 : decode (xB 173) 138 = .ok (.bipush 8, 2) := by decide +kernel
theorem d173_140 : decode (xB 173) 140 = .ok (.if_icmp .ne 14, 3) := by decide +kernel
theorem d173_143 : decode (xB 173) 143 = .ok (.aload_n 0, 1) := by decide +kernel
theorem d173_144 : decode (xB 173) 144 = .ok (.aload_n 0, 1) := by decide +kernel
theorem d173_145 : decode (xB 173) 145 = .ok (.getfield 153, 3) := by decide +kernel
theorem d173_148 : decode (xB 173) 148 = .ok (.invokevirtual 167, 3) := by decide +kernel
theorem d173_151 : decode (xB 173) 151 = .ok (.goto 29, 3) := by decide +kernel
theorem d173_154 : decode (xB 173) 154 = .ok (.aload_n 0, 1) := by decide +kernel
theorem d173_155 : decode (xB 173) 155 = .ok (.getfield 13, 3) := by decide +kernel
theorem d173_158 : decode (xB 173) 158 = .ok (.iload_n 2, 1) := by decide +kernel
theorem d173_159 : decode (xB 173) 159 = .ok (.aload_n 0, 1) := by decide +kernel
theorem d173_160 : decode (xB 173) 160 = .ok (.iconst 2, 1) := by decide +kernel
theorem d173_161 : decode (xB 173) 161 = .ok (.invokevirtual 175, 3) := by decide +kernel
theorem d173_164 : decode (xB 173) 164 = .ok (.iastore, 1) := by decide +kernel
theorem d173_165 : decode (xB 173) 165 = .ok (.aload_n 0, 1) := by decide +kernel
theorem d173_166 : decode (xB 173) 166 = .ok (.getfield 16, 3) := by decide +kernel
theorem d173_169 : decode (xB 173) 169 = .ok (.iload_n 2, 1) := by decide +kernel
theorem d173_170 : decode (xB 173) 170 = .ok (.aload_n 0, 1) := by decide +kernel
theorem d173_171 : decode (xB 173) 171 = .ok (.bipush 33, 2) := by decide +kernel
theorem d173_173 : decode (xB 173) 173 = .ok (.invokevirtual 179, 3) := by decide +kernel
theorem d173_176 : decode (xB 173) 176 = .ok (.bastore, 1) := by decide +kernel
theorem d173_177 : decode (xB 173) 177 = .ok (.iinc 2 1, 3) := by decide +kernel
theorem d173_180 : decode (xB 173) 180 = .ok (.iinc 3 1, 3) := by decide +kernel
theorem d173_183 : decode (xB 173) 183 = .ok (.aload_n 0, 1) := by decide +kernel
theorem d173_184 : decode (xB 173) 184 = .ok (.bipush 59, 2) := by decide +kernel
theorem d173_186 : decode (xB 173) 186 = .ok (.invokevirtual 179, 3) := by decide +kernel
theorem d173_189 : decode (xB 173) 189 = .ok (.istore 4, 2) := by decide +kernel
theorem d173_191 : decode (xB 173) 191 = .ok (.goto (-143), 3) := by decide +kernel
theorem d173_194 : decode (xB 173) 194 = .ok (.aload_n 0, 1) := by decide +kernel
theorem d173_195 : decode (xB 173) 195 = .ok (.getfield 153, 3) := by decide +kernel
theorem d173_198 : decode (xB 173) 198 = .ok (.aload_n 0, 1) := by decide +kernel
theorem d173_199 : decode (xB 173) 199 = .ok (.getfield 147, 3) := by decide +kernel
theorem d173_202 : decode (xB 173) 202 = .ok (.if_icmp .ge 11, 3) := by decide +kernel
theorem d173_205 : decode (xB 173) 205 = .ok (.aload_n 0, 1) := by decide +kernel
theorem d173_206 : decode (xB 173) 206 = .ok (.aload_n 0, 1) := by decide +kernel
theorem d173_207 : decode (xB 173) 207 = .ok (.getfield 153, 3) := by decide +kernel
theorem d173_210 : decode (xB 173) 210 = .ok (.invokevirtual 167, 3) := by decide +kernel
theorem d173_213 : decode (xB 173) 213 = .ok (.aload_n 0, 1) := by decide +kernel
theorem d173_214 : decode (xB 173) 214 = .ok (.invokevirtual 159, 3) := by decide +kernel
theorem d173_217 : decode (xB 173) 217 = .ok (.ifCond .ne 10, 3) := by decide +kernel
theorem d173_220 : decode (xB 173) 220 = .ok (.iconst (-1), 1) := by decide +kernel
theorem d173_221 : decode (xB 173) 221 = .ok (.aload_n 0, 1) := by decide +kernel
theorem d173_222 : decode (xB 173) 222 = .ok (.getfield 156, 3) := by decide +kernel
theorem d173_225 : decode (xB 173) 225 = .ok (.isub, 1) := by decide +kernel
theorem d173_226 : decode (xB 173) 226 = .ok (.ireturn, 1) := by decide +kernel
theorem d173_227 : decode (xB 173) 227 = .ok (.aload_n 0, 1) := by decide +kernel
theorem d173_228 : decode (xB 173) 228 = .ok (.getfield 127, 3) := by decide +kernel
theorem d173_231 : decode (xB 173) 231 = .ok (.istore 5, 2) := by decide +kernel
theorem d173_233 : decode (xB 173) 233 = .ok (.iload 5, 2) := by decide +kernel
theorem d173_235 : decode (xB 173) 235 = .ok (.iload_n 2, 1) := by decide +kernel
theorem d173_236 : decode (xB 173) 236 = .ok (.if_icmp .ge 117, 3) := by decide +kernel
theorem d173_239 : decode (xB 173) 239 = .ok (.aload_n 0, 1) := by decide +kernel
theorem d173_240 : decode (xB 173) 240 = .ok (.getfield 23, 3) := by decide +kernel
theorem d173_243 : decode (xB 173) 243 = .ok (.iload 5, 2) := by decide +kernel
theorem d173_245 : decode (xB 173) 245 = .ok (.iconst 0, 1) := by decide +kernel
theorem d173_246 : decode (xB 173) 246 = .ok (.iastore, 1) := by decide +kernel
theorem d173_247 : decode (xB 173) 247 = .ok (.aload_n 0, 1) := by decide +kernel
theorem d173_248 : decode (xB 173) 248 = .ok (.getfield 26, 3) := by decide +kernel
theorem d173_251 : decode (xB 173) 251 = .ok (.iload 5, 2) := by decide +kernel
theorem d173_253 : decode (xB 173) 253 = .ok (.iconst (-1), 1) := by decide +kernel
theorem d173_254 : decode (xB 173) 254 = .ok (.iastore, 1) := by decide +kernel
theorem d173_255 : decode (xB 173) 255 = .ok (.aload_n 0, 1) := by decide +kernel
theorem d173_256 : decode (xB 173) 256 = .ok (.getfield 29, 3) := by decide +kernel
theorem d173_259 : decode (xB 173) 259 = .ok (.iload 5, 2) := by decide +kernel
theorem d173_261 : decode (xB 173) 261 = .ok (.iconst 0, 1) := by decide +kernel
theorem d173_262 : decode (xB 173) 262 = .ok (.iastore, 1) := by decide +kernel
theorem d173_263 : decode (xB 173) 263 = .ok (.aload_n 0, 1) := by decide +kernel
theorem d173_264 : decode (xB 173) 264 = .ok (.getfield 32, 3) := by decide +kernel
theorem d173_267 : decode (xB 173) 267 = .ok (.iload 5, 2) := by decide +kernel
theorem d173_269 : decode (xB 173) 269 = .ok (.iconst 0, 1) := by decide +kernel
theorem d173_270 : decode (xB 173) 270 = .ok (.iastore, 1) := by decide +kernel
theorem d173_271 : decode (xB 173) 271 = .ok (.aload_n 0, 1) := by decide +kernel
theorem d173_272 : decode (xB 173) 272 = .ok (.getfield 35, 3) := by decide +kernel
theorem d173_275 : decode (xB 173) 275 = .ok (.iload 5, 2) := by decide +kernel
theorem d173_277 : decode (xB 173) 277 = .ok (.iconst 0, 1) := by decide +kernel
theorem d173_278 : decode (xB 173) 278 = .ok (.iastore, 1) := by decide +kernel
theorem d173_279 : decode (xB 173) 279 = .ok (.aload_n 0, 1) := by decide +kernel
theorem d173_280 : decode (xB 173) 280 = .ok (.getfield 38, 3) := by decide +kernel
theorem d173_283 : decode (xB 173) 283 = .ok (.iload 5, 2) := by decide +kernel
theorem d173_285 : decode (xB 173) 285 = .ok (.iconst 0, 1) := by decide +kernel
theorem d173_286 : decode (xB 173) 286 = .ok (.iastore, 1) := by decide +kernel
theorem d173_287 : decode (xB 173) 287 = .ok (.aload_n 0, 1) := by decide +kernel
theorem d173_288 : decode (xB 173) 288 = .ok (.getfield 41, 3) := by decide +kernel
theorem d173_291 : decode (xB 173) 291 = .ok (.iload 5, 2) := by decide +kernel
theorem d173_293 : decode (xB 173) 293 = .ok (.iconst 0, 1) := by decide +kernel
theorem d173_294 : decode (xB 173) 294 = .ok (.iastore, 1) := by decide +kernel
theorem d173_295 : decode (xB 173) 295 = .ok (.aload_n 0, 1) := by decide +kernel
theorem d173_296 : decode (xB 173) 296 = .ok (.getfield 44, 3) := by decide +kernel
theorem d173_299 : decode (xB 173) 299 = .ok (.iload 5, 2) := by decide +kernel
theorem d173_301 : decode (xB 173) 301 = .ok (.iconst 0, 1) := by decide +kernel
theorem d173_302 : decode (xB 173) 302 = .ok (.iastore, 1) := by decide +kernel
theorem d173_303 : decode (xB 173) 303 = .ok (.iconst 0, 1) := by decide +kernel
theorem d173_304 : decode (xB 173) 304 = .ok (.istore 6, 2) := by decide +kernel
theorem d173_306 : decode (xB 173) 306 = .ok (.iload 6, 2) := by decide +kernel
theorem d173_308 : decode (xB 173) 308 = .ok (.bipush 8, 2) := by decide +kernel
theorem d173_310 : decode (xB 173) 310 = .ok (.if_icmp .ge 37, 3) := by decide +kernel
theorem d173_313 : decode (xB 173) 313 = .ok (.aload_n 0, 1) := by decide +kernel
theorem d173_314 : decode (xB 173) 314 = .ok (.getfield 47, 3) := by decide +kernel
theorem d173_317 : decode (xB 173) 317 = .ok (.bipush 8, 2) := by decide +kernel
theorem d173_319 : decode (xB 173) 319 = .ok (.iload 5, 2) := by decide +kernel
theorem d173_321 : decode (xB 173) 321 = .ok (.imul, 1) := by decide +kernel
theorem d173_322 : decode (xB 173) 322 = .ok (.iload 6, 2) := by decide +kernel
theorem d173_324 : decode (xB 173) 324 = .ok (.iadd, 1) := by decide +kernel
theorem d173_325 : decode (xB 173) 325 = .ok (.iconst 0, 1) := by decide +kernel
theorem d173_326 : decode (xB 173) 326 = .ok (.iastore, 1) := by decide +kernel
theorem d173_327 : decode (xB 173) 327 = .ok (.aload_n 0, 1) := by decide +kernel
theorem d173_328 : decode (xB 173) 328 = .ok (.getfield 47, 3) := by decide +kernel
theorem d173_331 : decode (xB 173) 331 = .ok (.bipush 8, 2) := by decide +kernel
theorem d173_333 : decode (xB 173) 333 = .ok (.iload 6, 2) := by decide +kernel
theorem d173_335 : decode (xB 173) 335 = .ok (.imul, 1) := by decide +kernel
theorem d173_336 : decode (xB 173) 336 = .ok (.iload 5, 2) := by decide +kernel
theorem d173_338 : decode (xB 173) 338 = .ok (.iadd, 1) := by decide +kernel
theorem d173_339 : decode (xB 173) 339 = .ok (.iconst 0, 1) := by decide +kernel
theorem d173_340 : decode (xB 173) 340 = .ok (.iastore, 1) := by decide +kernel
theorem d173_341 : decode (xB 173) 341 = .ok (.iinc 6 1, 3) := by decide +kernel
theorem d173_344 : decode (xB 173) 344 = .ok (.goto (-38), 3) := by decide +kernel
theorem d173_347 : decode (xB 173) 347 = .ok (.iinc 5 1, 3) := by decide +kernel
theorem d173_350 : decode (xB 173) 350 = .ok (.goto (-117), 3) := by decide +kernel
theorem d173_353 : decode (xB 173) 353 = .ok (.iload_n 1, 1) := by decide +kernel
theorem d173_354 : decode (xB 173) 354 = .ok (.aload_n 0, 1) := by decide +kernel
theorem d173_355 : decode (xB 173) 355 = .ok (.getfield 138, 3) := by decide +kernel
theorem d173_358 : decode (xB 173) 358 = .ok (.if_icmp .gt 11, 3) := by decide +kernel
theorem d173_361 : decode (xB 173) 361 = .ok (.iload_n 2, 1) := by decide +kernel
theorem d173_362 : decode (xB 173) 362 = .ok (.aload_n 0, 1) := by decide +kernel
theorem d173_363 : decode (xB 173) 363 = .ok (.getfield 127, 3) := by decide +kernel
theorem d173_366 : decode (xB 173) 366 = .ok (.if_icmp .le 13, 3) := by decide +kernel
theorem d173_369 : decode (xB 173) 369 = .ok (.aload_n 0, 1) := by decide +kernel
theorem d173_370 : decode (xB 173) 370 = .ok (.dup, 1) := by decide +kernel
theorem d173_371 : decode (xB 173) 371 = .ok (.getfield 183, 3) := by decide +kernel
theorem d173_374 : decode (xB 173) 374 = .ok (.iconst 1, 1) := by decide +kernel
theorem d173_375 : decode (xB 173) 375 = .ok (.iadd, 1) := by decide +kernel
theorem d173_376 : decode (xB 173) 376 = .ok (.putfield 183, 3) := by decide +kernel
theorem d173_379 : decode (xB 173) 379 = .ok (.aload_n 0, 1) := by decide +kernel
theorem d173_380 : decode (xB 173) 380 = .ok (.iload_n 1, 1) := by decide +kernel
theorem d173_381 : decode (xB 173) 381 = .ok (.putfield 138, 3) := by decide +kernel
theorem d173_384 : decode (xB 173) 384 = .ok (.aload_n 0, 1) := by decide +kernel
theorem d173_385 : decode (xB 173) 385 = .ok (.iload_n 2, 1) := by decide +kernel
theorem d173_386 : decode (xB 173) 386 = .ok (.putfield 127, 3) := by decide +kernel
theorem d173_389 : decode (xB 173) 389 = .ok (.aload_n 0, 1) := by decide +kernel
theorem d173_390 : decode (xB 173) 390 = .ok (.iconst 0, 1) := by decide +kernel
theorem d173_391 : decode (xB 173) 391 = .ok (.putfield 186, 3) := by decide +kernel
theorem d173_394 : decode (xB 173) 394 = .ok (.iload_n 3, 1) := by decide +kernel
theorem d173_395 : decode (xB 173) 395 = .ok (.ireturn, 1) := by decide +kernel
theorem b173_0 {d : Nat} {P : xPr} {Q : xQr} {r : Nat} {mem : Nat → Nat → Int32} (hP : Cl d none 173 P Q)
    (k : xCall d 167 [.ref 108, .ref 122, .int ((xu2 mem 108 20 (nI 0)) 108 17), .int (nI 76)] (LAY, RFu r, xu2 mem 108 20 (nI 0)) (Bk P 16 [.ref 108, .null, .null, .null, .null, .null, .null] [] (0, 0))) : P 0 [.ref 108, .null, .null, .null, .null, .null, .null] [] (0, 0) (LAY, RFu r, mem) := by
  refine r_aload_n hP d173_0 rfl ?_
  refine r_iconst (v := nI 0) hP d173_1 rfl ?_
  refine r_puti hP d173_2 fr_12_121 rfl (fun q => by cases q) ly_108 ?_
  refine r_aload_n hP d173_5 rfl ?_
  refine r_aload_n hP d173_6 rfl ?_
  refine r_getr (a := 122) hP d173_7 fr_12_50 rfl ly_108 rg_108_16 ?_
  refine r_aload_n hP d173_10 rfl ?_
  refine r_geti hP d173_11 fr_12_141 rfl ly_108 ?_
  refine r_bipush (v := nI 76) hP d173_14 rfl ?_
  exact r_callv (As := [.ref 122, .int ((xu2 mem 108 20 (nI 0)) 108 17), .int (nI 76)]) (S := []) hP d173_16 cr_12_171 (by decide +kernel) rfl (by simp [Value.category]) rfl ly_108 (by simp [Value.category]) ⟨Nat.zero_le _, Nat.zero_le _⟩ k
theorem b173_19 {d : Nat} {P : xPr} {Q : xQr} {r : Nat} {mem : Nat → Nat → Int32} (hP : Cl d none 173 P Q) {v1 : Value} {v2 : Value} {v3 : Value} {v4 : Value} {v5 : Value} {v6 : Value}
    (kt : ¬ ((xu2 mem 108 17 (nI 0)) 108 22) = 0 → P 33 [.ref 108, v1, v2, v3, v4, v5, v6] [] (0, 0) (LAY, RFu r, xu2 mem 108 17 (nI 0))) (kf : ((xu2 mem 108 17 (nI 0)) 108 22) = 0 → P 31 [.ref 108, v1, v2, v3, v4, v5, v6] [] (0, 0) (LAY, RFu r, xu2 mem 108 17 (nI 0))) : P 19 [.ref 108, v1, v2, v3, v4, v5, v6] [] (0, 0) (LAY, RFu r, mem) := by
  refine r_aload_n hP d173_19 rfl ?_
  refine r_iconst (v := nI 0) hP d173_20 rfl ?_
  refine r_puti hP d173_21 fr_12_141 rfl (fun q => by cases q) ly_108 ?_
  refine r_aload_n hP d173_24 rfl ?_
  refine r_geti hP d173_25 fr_12_147 rfl ly_108 ?_
  exact r_if (t := 33) hP d173_28 (by decide) kt (fun q => kf (Decidable.of_not_not q))
theorem b173_31 {d : Nat} {P : xPr} {Q : xQr} {r : Nat} {mem : Nat → Nat → Int32} (hP : Cl d none 173 P Q) {v0 : Value} {v1 : Value} {v2 : Value} {v3 : Value} {v4 : Value} {v5 : Value} {v6 : Value}
    (k : Q (some (.int (nI 0))) (LAY, RFu r, mem)) : P 31 [v0, v1, v2, v3, v4, v5, v6] [] (0, 0) (LAY, RFu r, mem) := by
  refine r_iconst (v := nI 0) hP d173_31 rfl ?_
  exact r_iret hP d173_32 rfl k
theorem b173_33 {d : Nat} {P : xPr} {Q : xQr} {r : Nat} {mem : Nat → Nat → Int32} (hP : Cl d none 173 P Q) {v1 : Value} {v2 : Value} {v3 : Value} {v4 : Value} {v5 : Value} {v6 : Value}
    (k : P 48 [.ref 108, .int (mem 108 0), .int (mem 108 2), .int (nI 0), .int (nI 1), v5, v6] [] (0, 0) (LAY, RFu r, mem)) : P 33 [.ref 108, v1, v2, v3, v4, v5, v6] [] (0, 0) (LAY, RFu r, mem) := by
  refine r_aload_n hP d173_33 rfl ?_
  refine r_geti hP d173_34 fr_12_138 rfl ly_108 ?_
  refine r_istore_n (L' := [.ref 108, .int (mem 108 0), v2, v3, v4, v5, v6]) hP d173_37 (Nat.le_of_ble_eq_true rfl) rfl ?_
  refine r_aload_n hP d173_38 rfl ?_
  refine r_geti hP d173_39 fr_12_127 rfl ly_108 ?_
  refine r_istore_n (L' := [.ref 108, .int (mem 108 0), .int (mem 108 2), v3, v4, v5, v6]) hP d173_42 (Nat.le_of_ble_eq_true rfl) rfl ?_
  refine r_iconst (v := nI 0) hP d173_43 rfl ?_
  refine r_istore_n (L' := [.ref 108, .int (mem 108 0), .int (mem 108 2), .int (nI 0), v4, v5, v6]) hP d173_44 (Nat.le_of_ble_eq_true rfl) rfl ?_
  refine r_iconst (v := nI 1) hP d173_45 rfl ?_
  refine r_istore (L' := [.ref 108, .int (mem 108 0), .int (mem 108 2), .int (nI 0), .int (nI 1), v5, v6]) hP d173_46 (Nat.le_of_ble_eq_true rfl) rfl ?_
  exact k
theorem b173_48 {d : Nat} {P : xPr} {Q : xQr} {r : Nat} {mem : Nat → Nat → Int32} (hP : Cl d none 173 P Q) {x1 : Int32} {x2 : Int32} {x3 : Int32} {x4 : Int32} {v5 : Value} {v6 : Value}
    (kt : x4 = 0 → P 194 [.ref 108, .int x1, .int x2, .int x3, .int x4, v5, v6] [] (0, 0) (LAY, RFu r, mem)) (kf : ¬ x4 = 0 → P 53 [.ref 108, .int x1, .int x2, .int x3, .int x4, v5, v6] [] (0, 0) (LAY, RFu r, mem)) : P 48 [.ref 108, .int x1, .int x2, .int x3, .int x4, v5, v6] [] (0, 0) (LAY, RFu r, mem) := by
  refine r_iload hP d173_48 rfl ?_
  exact r_if (t := 194) hP d173_50 (by decide) kt kf
theorem b173_53 {d : Nat} {P : xPr} {Q : xQr} {r : Nat} {mem : Nat → Nat → Int32} (hP : Cl d none 173 P Q) {x1 : Int32} {x2 : Int32} {x3 : Int32} {v4 : Value} {v5 : Value} {v6 : Value}
    (k : xCall d 169 [.ref 108] (LAY, RFu r, mem) (Bk P 54 [.ref 108, .int x1, .int x2, .int x3, v4, v5, v6] [] (0, 0))) : P 53 [.ref 108, .int x1, .int x2, .int x3, v4, v5, v6] [] (0, 0) (LAY, RFu r, mem) := by
  refine r_aload_n hP d173_53 rfl ?_
  exact r_callv (As := []) (S := []) hP d173_54 cr_12_159 (by decide +kernel) rfl (by simp) rfl ly_108 (by simp [Value.category]) ⟨Nat.zero_le _, Nat.zero_le _⟩ k
theorem b173_57 {d : Nat} {P : xPr} {Q : xQr} {r : Nat} {mem : Nat → Nat → Int32} (hP : Cl d none 173 P Q) {x1 : Int32} {x2 : Int32} {x3 : Int32} {v4 : Value} {v5 : Value} {v6 : Value} {y0 : Int32}
    (kt : y0 = 0 → P 194 [.ref 108, .int x1, .int x2, .int x3, v4, v5, v6] [] (0, 0) (LAY, RFu r, mem)) (kf : ¬ y0 = 0 → P 60 [.ref 108, .int x1, .int x2, .int x3, v4, v5, v6] [] (0, 0) (LAY, RFu r, mem)) : P 57 [.ref 108, .int x1, .int x2, .int x3, v4, v5, v6] [.int y0] (0, 0) (LAY, RFu r, mem) := by
  exact r_if (t := 194) hP d173_57 (by decide) kt kf
theorem b173_60 {d : Nat} {P : xPr} {Q : xQr} {r : Nat} {mem : Nat → Nat → Int32} (hP : Cl d none 173 P Q) {x1 : Int32} {x2 : Int32} {x3 : Int32} {v4 : Value} {v5 : Value} {v6 : Value}
    (k : xCall d 168 [.ref 108] (LAY, RFu r, mem) (Bk P 61 [.ref 108, .int x1, .int x2, .int x3, v4, v5, v6] [] (0, 0))) : P 60 [.ref 108, .int x1, .int x2, .int x3, v4, v5, v6] [] (0, 0) (LAY, RFu r, mem) := by
  refine r_aload_n hP d173_60 rfl ?_
  exact r_callv (As := []) (S := []) hP d173_61 cr_12_163 (by decide +kernel) rfl (by simp) rfl ly_108 (by simp [Value.category]) ⟨Nat.zero_le _, Nat.zero_le _⟩ k
theorem b173_64 {d : Nat} {P : xPr} {Q : xQr} {r : Nat} {mem : Nat → Nat → Int32} (hP : Cl d none 173 P Q) {x1 : Int32} {x2 : Int32} {x3 : Int32} {v4 : Value} {v5 : Value} {v6 : Value} {y0 : Int32}
    (kt : ¬ y0 = (nI 114) → P 137 [.ref 108, .int x1, .int x2, .int x3, v4, v5, v6] [] (0, 0) (LAY, RFu r, mem)) (kf : y0 = (nI 114) → P 69 [.ref 108, .int x1, .int x2, .int x3, v4, v5, v6] [] (0, 0) (LAY, RFu r, mem)) : P 64 [.ref 108, .int x1, .int x2, .int x3, v4, v5, v6] [.int y0] (0, 0) (LAY, RFu r, mem) := by
  refine r_bipush (v := nI 114) hP d173_64 rfl ?_
  exact r_icmp (t := 137) hP d173_66 (by decide) kt (fun q => kf (Decidable.of_not_not q))
theorem b173_69 {d : Nat} {P : xPr} {Q : xQr} {r : Nat} {mem : Nat → Nat → Int32} (hP : Cl d none 173 P Q) {x1 : Int32} {x2 : Int32} {x3 : Int32} {v4 : Value} {v5 : Value} {v6 : Value}
    (kt : ¬ x1 = (nI 4) → P 85 [.ref 108, .int x1, .int x2, .int x3, v4, v5, v6] [] (0, 0) (LAY, RFu r, mem)) (kf : x1 = (nI 4) → P 74 [.ref 108, .int x1, .int x2, .int x3, v4, v5, v6] [] (0, 0) (LAY, RFu r, mem)) : P 69 [.ref 108, .int x1, .int x2, .int x3, v4, v5, v6] [] (0, 0) (LAY, RFu r, mem) := by
  refine r_iload_n hP d173_69 rfl ?_
  refine r_iconst (v := nI 4) hP d173_70 rfl ?_
  exact r_icmp (t := 85) hP d173_71 (by decide) kt (fun q => kf (Decidable.of_not_not q))
theorem b173_74 {d : Nat} {P : xPr} {Q : xQr} {r : Nat} {mem : Nat → Nat → Int32} (hP : Cl d none 173 P Q) {x1 : Int32} {x2 : Int32} {x3 : Int32} {v4 : Value} {v5 : Value} {v6 : Value}
    (k : xCall d 170 [.ref 108, .int (mem 108 24)] (LAY, RFu r, mem) (Bk P 79 [.ref 108, .int x1, .int x2, .int x3, v4, v5, v6] [] (0, 0))) : P 74 [.ref 108, .int x1, .int x2, .int x3, v4, v5, v6] [] (0, 0) (LAY, RFu r, mem) := by
  refine r_aload_n hP d173_74 rfl ?_
  refine r_aload_n hP d173_75 rfl ?_
  refine r_geti hP d173_76 fr_12_153 rfl ly_108 ?_
  exact r_callv (As := [.int (mem 108 24)]) (S := []) hP d173_79 cr_12_167 (by decide +kernel) rfl (by simp [Value.category]) rfl ly_108 (by simp [Value.category]) ⟨Nat.zero_le _, Nat.zero_le _⟩ k
theorem b173_82 {d : Nat} {P : xPr} {Q : xQr} {r : Nat} {mem : Nat → Nat → Int32} (hP : Cl d none 173 P Q) {x1 : Int32} {x2 : Int32} {x3 : Int32} {v4 : Value} {v5 : Value} {v6 : Value}
    (k : P 131 [.ref 108, .int x1, .int x2, .int x3, v4, v5, v6] [] (0, 0) (LAY, RFu r, mem)) : P 82 [.ref 108, .int x1, .int x2, .int x3, v4, v5, v6] [] (0, 0) (LAY, RFu r, mem) := by
  refine r_goto (t := 131) hP d173_82 (by decide) ?_
  exact k
theorem b173_85 {d : Nat} {P : xPr} {Q : xQr} {r : Nat} {mem : Nat → Nat → Int32} (hP : Cl d none 173 P Q) {x1 : Int32} {x2 : Int32} {x3 : Int32} {v4 : Value} {v5 : Value} {v6 : Value}
    (k : xCall d 168 [.ref 108] (LAY, RFu r, xu2 mem 108 24 ((mem 108 24) + (nI 1))) (Bk P 96 [.ref 108, .int x1, .int x2, .int x3, v4, v5, v6] [] (0, 0))) : P 85 [.ref 108, .int x1, .int x2, .int x3, v4, v5, v6] [] (0, 0) (LAY, RFu r, mem) := by
  refine r_aload_n hP d173_85 rfl ?_
  refine r_dup hP d173_86 rfl ?_
  refine r_geti hP d173_87 fr_12_153 rfl ly_108 ?_
  refine r_iconst (v := nI 1) hP d173_90 rfl ?_
  refine r_iadd hP d173_91 ?_
  refine r_puti hP d173_92 fr_12_153 rfl (fun q => by cases q) ly_108 ?_
  refine r_aload_n hP d173_95 rfl ?_
  exact r_callv (As := []) (S := []) hP d173_96 cr_12_163 (by decide +kernel) rfl (by simp) rfl ly_108 (by simp [Value.category]) ⟨Nat.zero_le _, Nat.zero_le _⟩ k
theorem b173_99 {d : Nat} {P : xPr} {Q : xQr} {r : Nat} {mem : Nat → Nat → Int32} (hP : Cl d none 173 P Q) {x1 : Int32} {x2 : Int32} {x3 : Int32} {v4 : Value} {v5 : Value} {v6 : Value} {y0 : Int32}
    (k : xCall d 158 [.int y0, .int (nI 48), .int (nI 56)] (LAY, RFu r, mem) (Bk P 103 [.ref 108, .int x1, .int x2, .int x3, v4, v5, v6] [] (0, 0))) : P 99 [.ref 108, .int x1, .int x2, .int x3, v4, v5, v6] [.int y0] (0, 0) (LAY, RFu r, mem) := by
  refine r_bipush (v := nI 48) hP d173_99 rfl ?_
  refine r_bipush (v := nI 56) hP d173_101 rfl ?_
  exact r_calls (As := [.int y0, .int (nI 48), .int (nI 56)]) (S := []) hP d173_103 cr_12_130 (by decide +kernel) rfl (by simp [Value.category]) rfl (by simp [Value.category]) ⟨Nat.zero_le _, Nat.zero_le _⟩ k
theorem b173_106 {d : Nat} {P : xPr} {Q : xQr} {r : Nat} {mem : Nat → Nat → Int32} (hP : Cl d none 173 P Q) {x1 : Int32} {x2 : Int32} {x3 : Int32} {v4 : Value} {v5 : Value} {v6 : Value} {y0 : Int32}
    (kt : y0 = 0 → P 123 [.ref 108, .int x1, .int x2, .int x3, v4, v5, v6] [] (0, 0) (LAY, RFu r, mem)) (kf : ¬ y0 = 0 → P 109 [.ref 108, .int x1, .int x2, .int x3, v4, v5, v6] [] (0, 0) (LAY, RFu r, mem)) : P 106 [.ref 108, .int x1, .int x2, .int x3, v4, v5, v6] [.int y0] (0, 0) (LAY, RFu r, mem) := by
  exact r_if (t := 123) hP d173_106 (by decide) kt kf
theorem b173_109 {d : Nat} {P : xPr} {Q : xQr} {r : Nat} {mem : Nat → Nat → Int32} (hP : Cl d none 173 P Q) {x1 : Int32} {x2 : Int32} {x3 : Int32} {v4 : Value} {v5 : Value} {v6 : Value}
    (k : xCall d 172 [.ref 108, .int (nI 1)] (LAY, RFu r, mem) (Bk P 116 [.ref 108, .int x1, .int x2, .int x3, v4, v5, v6] [.int x1, .ref 109] (0, 0))) : P 109 [.ref 108, .int x1, .int x2, .int x3, v4, v5, v6] [] (0, 0) (LAY, RFu r, mem) := by
  refine r_aload_n hP d173_109 rfl ?_
  refine r_getr (a := 109) hP d173_110 fr_12_9 rfl ly_108 rg_108_1 ?_
  refine r_iload_n hP d173_113 rfl ?_
  refine r_aload_n hP d173_114 rfl ?_
  refine r_iconst (v := nI 1) hP d173_115 rfl ?_
  exact r_callv (As := [.int (nI 1)]) (S := [.int x1, .ref 109]) hP d173_116 cr_12_175 (by decide +kernel) rfl (by simp [Value.category]) rfl ly_108 (by simp [Value.category]) ⟨Nat.zero_le _, Nat.zero_le _⟩ k
theorem b173_119 {d : Nat} {P : xPr} {Q : xQr} {r : Nat} {mem : Nat → Nat → Int32} (hP : Cl d none 173 P Q) {x1 : Int32} {x2 : Int32} {x3 : Int32} {v4 : Value} {v5 : Value} {v6 : Value} {y1 : Int32} {y2 : Int32} (hi119 : vp_in y1 4)
    (k : P 131 [.ref 108, .int x1, .int x2, .int x3, v4, v5, v6] [] (0, 0) (LAY, RFu r, xu2 mem 109 y1.toNatClampNeg y2)) : P 119 [.ref 108, .int x1, .int x2, .int x3, v4, v5, v6] [.int y2, .int y1, .ref 109] (0, 0) (LAY, RFu r, mem) := by
  refine r_iastore hP d173_119 ly_109 hi119 ?_
  refine r_goto (t := 131) hP d173_120 (by decide) ?_
  exact k
theorem b173_123 {d : Nat} {P : xPr} {Q : xQr} {r : Nat} {mem : Nat → Nat → Int32} (hP : Cl d none 173 P Q) {x1 : Int32} {x2 : Int32} {x3 : Int32} {v4 : Value} {v5 : Value} {v6 : Value}
    (k : xCall d 170 [.ref 108, .int (mem 108 24)] (LAY, RFu r, mem) (Bk P 128 [.ref 108, .int x1, .int x2, .int x3, v4, v5, v6] [] (0, 0))) : P 123 [.ref 108, .int x1, .int x2, .int x3, v4, v5, v6] [] (0, 0) (LAY, RFu r, mem) := by
  refine r_aload_n hP d173_123 rfl ?_
  refine r_aload_n hP d173_124 rfl ?_
  refine r_geti hP d173_125 fr_12_153 rfl ly_108 ?_
  exact r_callv (As := [.int (mem 108 24)]) (S := []) hP d173_128 cr_12_167 (by decide +kernel) rfl (by simp [Value.category]) rfl ly_108 (by simp [Value.category]) ⟨Nat.zero_le _, Nat.zero_le _⟩ k
theorem b173_131 {d : Nat} {P : xPr} {Q : xQr} {r : Nat} {mem : Nat → Nat → Int32} (hP : Cl d none 173 P Q) {x1 : Int32} {x2 : Int32} {x3 : Int32} {v4 : Value} {v5 : Value} {v6 : Value}
    (k : P 180 [.ref 108, .int (x1 + nI 1), .int x2, .int x3, v4, v5, v6] [] (0, 0) (LAY, RFu r, mem)) : P 131 [.ref 108, .int x1, .int x2, .int x3, v4, v5, v6] [] (0, 0) (LAY, RFu r, mem) := by
  refine r_iinc (v := nI 1) (L' := [.ref 108, .int (x1 + nI 1), .int x2, .int x3, v4, v5, v6]) hP d173_131 rfl rfl rfl ?_
  refine r_goto (t := 180) hP d173_134 (by decide) ?_
  exact k
theorem b173_137 {d : Nat} {P : xPr} {Q : xQr} {r : Nat} {mem : Nat → Nat → Int32} (hP : Cl d none 173 P Q) {x1 : Int32} {x2 : Int32} {x3 : Int32} {v4 : Value} {v5 : Value} {v6 : Value}
    (kt : ¬ x2 = (nI 8) → P 154 [.ref 108, .int x1, .int x2, .int x3, v4, v5, v6] [] (0, 0) (LAY, RFu r, mem)) (kf : x2 = (nI 8) → P 143 [.ref 108, .int x1, .int x2, .int x3, v4, v5, v6] [] (0, 0) (LAY, RFu r, mem)) : P 137 [.ref 108, .int x1, .int x2, .int x3, v4, v5, v6] [] (0, 0) (LAY, RFu r, mem) := by
  refine r_iload_n hP d173_137 rfl ?_
  refine r_bipush (v := nI 8) hP d173_138 rfl ?_
  exact r_icmp (t := 154) hP d173_140 (by decide) kt (fun q => kf (Decidable.of_not_not q))
theorem b173_143 {d : Nat} {P : xPr} {Q : xQr} {r : Nat} {mem : Nat → Nat → Int32} (hP : Cl d none 173 P Q) {x1 : Int32} {x2 : Int32} {x3 : Int32} {v4 : Value} {v5 : Value} {v6 : Value}
    (k : xCall d 170 [.ref 108, .int (mem 108 24)] (LAY, RFu r, mem) (Bk P 148 [.ref 108, .int x1, .int x2, .int x3, v4, v5, v6] [] (0, 0))) : P 143 [.ref 108, .int x1, .int x2, .int x3, v4, v5, v6] [] (0, 0) (LAY, RFu r, mem) := by
  refine r_aload_n hP d173_143 rfl ?_
  refine r_aload_n hP d173_144 rfl ?_
  refine r_geti hP d173_145 fr_12_153 rfl ly_108 ?_
  exact r_callv (As := [.int (mem 108 24)]) (S := []) hP d173_148 cr_12_167 (by decide +kernel) rfl (by simp [Value.category]) rfl ly_108 (by simp [Value.category]) ⟨Nat.zero_le _, Nat.zero_le _⟩ k
theorem b173_151 {d : Nat} {P : xPr} {Q : xQr} {r : Nat} {mem : Nat → Nat → Int32} (hP : Cl d none 173 P Q) {x1 : Int32} {x2 : Int32} {x3 : Int32} {v4 : Value} {v5 : Value} {v6 : Value}
    (k : P 180 [.ref 108, .int x1, .int x2, .int x3, v4, v5, v6] [] (0, 0) (LAY, RFu r, mem)) : P 151 [.ref 108, .int x1, .int x2, .int x3, v4, v5, v6] [] (0, 0) (LAY, RFu r, mem) := by
  refine r_goto (t := 180) hP d173_151 (by decide) ?_
  exact k
theorem b173_154 {d : Nat} {P : xPr} {Q : xQr} {r : Nat} {mem : Nat → Nat → Int32} (hP : Cl d none 173 P Q) {x1 : Int32} {x2 : Int32} {x3 : Int32} {v4 : Value} {v5 : Value} {v6 : Value}
    (k : xCall d 172 [.ref 108, .int (nI 2)] (LAY, RFu r, mem) (Bk P 161 [.ref 108, .int x1, .int x2, .int x3, v4, v5, v6] [.int x2, .ref 110] (0, 0))) : P 154 [.ref 108, .int x1, .int x2, .int x3, v4, v5, v6] [] (0, 0) (LAY, RFu r, mem) := by
  refine r_aload_n hP d173_154 rfl ?_
  refine r_getr (a := 110) hP d173_155 fr_12_13 rfl ly_108 rg_108_3 ?_
  refine r_iload_n hP d173_158 rfl ?_
  refine r_aload_n hP d173_159 rfl ?_
  refine r_iconst (v := nI 2) hP d173_160 rfl ?_
  exact r_callv (As := [.int (nI 2)]) (S := [.int x2, .ref 110]) hP d173_161 cr_12_175 (by decide +kernel) rfl (by simp [Value.category]) rfl ly_108 (by simp [Value.category]) ⟨Nat.zero_le _, Nat.zero_le _⟩ k
theorem b173_164 {d : Nat} {P : xPr} {Q : xQr} {r : Nat} {mem : Nat → Nat → Int32} (hP : Cl d none 173 P Q) {x1 : Int32} {x2 : Int32} {x3 : Int32} {v4 : Value} {v5 : Value} {v6 : Value} {y1 : Int32} {y2 : Int32} (hi164 : vp_in y1 8)
    (k : xCall d 171 [.ref 108, .int (nI 33)] (LAY, RFu r, xu2 mem 110 y1.toNatClampNeg y2) (Bk P 173 [.ref 108, .int x1, .int x2, .int x3, v4, v5, v6] [.int x2, .ref 111] (0, 0))) : P 164 [.ref 108, .int x1, .int x2, .int x3, v4, v5, v6] [.int y2, .int y1, .ref 110] (0, 0) (LAY, RFu r, mem) := by
  refine r_iastore hP d173_164 ly_110 hi164 ?_
  refine r_aload_n hP d173_165 rfl ?_
  refine r_getr (a := 111) hP d173_166 fr_12_16 rfl ly_108 rg_108_4 ?_
  refine r_iload_n hP d173_169 rfl ?_
  refine r_aload_n hP d173_170 rfl ?_
  refine r_bipush (v := nI 33) hP d173_171 rfl ?_
  exact r_callv (As := [.int (nI 33)]) (S := [.int x2, .ref 111]) hP d173_173 cr_12_179 (by decide +kernel) rfl (by simp [Value.category]) rfl ly_108 (by simp [Value.category]) ⟨Nat.zero_le _, Nat.zero_le _⟩ k
theorem b173_176 {d : Nat} {P : xPr} {Q : xQr} {r : Nat} {mem : Nat → Nat → Int32} (hP : Cl d none 173 P Q) {x1 : Int32} {x2 : Int32} {x3 : Int32} {v4 : Value} {v5 : Value} {v6 : Value} {y1 : Int32} {y2 : Int32} (hi176 : vp_in y1 8)
    (k : P 180 [.ref 108, .int x1, .int (x2 + nI 1), .int x3, v4, v5, v6] [] (0, 0) (LAY, RFu r, xu2 mem 111 y1.toNatClampNeg (xNar 15 y2))) : P 176 [.ref 108, .int x1, .int x2, .int x3, v4, v5, v6] [.int y2, .int y1, .ref 111] (0, 0) (LAY, RFu r, mem) := by
  refine r_bastore hP d173_176 (by decide) ly_111 hi176 ?_
  refine r_iinc (v := nI 1) (L' := [.ref 108, .int x1, .int (x2 + nI 1), .int x3, v4, v5, v6]) hP d173_177 rfl rfl rfl ?_
  exact k
theorem b173_180 {d : Nat} {P : xPr} {Q : xQr} {r : Nat} {mem : Nat → Nat → Int32} (hP : Cl d none 173 P Q) {x1 : Int32} {x2 : Int32} {x3 : Int32} {v4 : Value} {v5 : Value} {v6 : Value}
    (k : xCall d 171 [.ref 108, .int (nI 59)] (LAY, RFu r, mem) (Bk P 186 [.ref 108, .int x1, .int x2, .int (x3 + nI 1), v4, v5, v6] [] (0, 0))) : P 180 [.ref 108, .int x1, .int x2, .int x3, v4, v5, v6] [] (0, 0) (LAY, RFu r, mem) := by
  refine r_iinc (v := nI 1) (L' := [.ref 108, .int x1, .int x2, .int (x3 + nI 1), v4, v5, v6]) hP d173_180 rfl rfl rfl ?_
  refine r_aload_n hP d173_183 rfl ?_
  refine r_bipush (v := nI 59) hP d173_184 rfl ?_
  exact r_callv (As := [.int (nI 59)]) (S := []) hP d173_186 cr_12_179 (by decide +kernel) rfl (by simp [Value.category]) rfl ly_108 (by simp [Value.category]) ⟨Nat.zero_le _, Nat.zero_le _⟩ k
theorem b173_189 {d : Nat} {P : xPr} {Q : xQr} {r : Nat} {mem : Nat → Nat → Int32} (hP : Cl d none 173 P Q) {x1 : Int32} {x2 : Int32} {x3 : Int32} {v4 : Value} {v5 : Value} {v6 : Value} {y0 : Int32}
    (k : P 48 [.ref 108, .int x1, .int x2, .int x3, .int y0, v5, v6] [] (0, 0) (LAY, RFu r, mem)) : P 189 [.ref 108, .int x1, .int x2, .int x3, v4, v5, v6] [.int y0] (0, 0) (LAY, RFu r, mem) := by
  refine r_istore (L' := [.ref 108, .int x1, .int x2, .int x3, .int y0, v5, v6]) hP d173_189 (Nat.le_of_ble_eq_true rfl) rfl ?_
  refine r_goto (t := 48) hP d173_191 (by decide) ?_
  exact k
theorem b173_194 {d : Nat} {P : xPr} {Q : xQr} {r : Nat} {mem : Nat → Nat → Int32} (hP : Cl d none 173 P Q) {x1 : Int32} {x2 : Int32} {x3 : Int32} {v4 : Value} {v5 : Value} {v6 : Value}
    (kt : (mem 108 22) ≤ (mem 108 24) → P 213 [.ref 108, .int x1, .int x2, .int x3, v4, v5, v6] [] (0, 0) (LAY, RFu r, mem)) (kf : ¬ (mem 108 22) ≤ (mem 108 24) → P 205 [.ref 108, .int x1, .int x2, .int x3, v4, v5, v6] [] (0, 0) (LAY, RFu r, mem)) : P 194 [.ref 108, .int x1, .int x2, .int x3, v4, v5, v6] [] (0, 0) (LAY, RFu r, mem) := by
  refine r_aload_n hP d173_194 rfl ?_
  refine r_geti hP d173_195 fr_12_153 rfl ly_108 ?_
  refine r_aload_n hP d173_198 rfl ?_
  refine r_geti hP d173_199 fr_12_147 rfl ly_108 ?_
  exact r_icmp (t := 213) hP d173_202 (by decide) kt kf
theorem b173_205 {d : Nat} {P : xPr} {Q : xQr} {r : Nat} {mem : Nat → Nat → Int32} (hP : Cl d none 173 P Q) {x1 : Int32} {x2 : Int32} {x3 : Int32} {v4 : Value} {v5 : Value} {v6 : Value}
    (k : xCall d 170 [.ref 108, .int (mem 108 24)] (LAY, RFu r, mem) (Bk P 210 [.ref 108, .int x1, .int x2, .int x3, v4, v5, v6] [] (0, 0))) : P 205 [.ref 108, .int x1, .int x2, .int x3, v4, v5, v6] [] (0, 0) (LAY, RFu r, mem) := by
  refine r_aload_n hP d173_205 rfl ?_
  refine r_aload_n hP d173_206 rfl ?_
  refine r_geti hP d173_207 fr_12_153 rfl ly_108 ?_
  exact r_callv (As := [.int (mem 108 24)]) (S := []) hP d173_210 cr_12_167 (by decide +kernel) rfl (by simp [Value.category]) rfl ly_108 (by simp [Value.category]) ⟨Nat.zero_le _, Nat.zero_le _⟩ k
theorem b173_213 {d : Nat} {P : xPr} {Q : xQr} {r : Nat} {mem : Nat → Nat → Int32} (hP : Cl d none 173 P Q) {x1 : Int32} {x2 : Int32} {x3 : Int32} {v4 : Value} {v5 : Value} {v6 : Value}
    (k : xCall d 169 [.ref 108] (LAY, RFu r, mem) (Bk P 214 [.ref 108, .int x1, .int x2, .int x3, v4, v5, v6] [] (0, 0))) : P 213 [.ref 108, .int x1, .int x2, .int x3, v4, v5, v6] [] (0, 0) (LAY, RFu r, mem) := by
  refine r_aload_n hP d173_213 rfl ?_
  exact r_callv (As := []) (S := []) hP d173_214 cr_12_159 (by decide +kernel) rfl (by simp) rfl ly_108 (by simp [Value.category]) ⟨Nat.zero_le _, Nat.zero_le _⟩ k
theorem b173_217 {d : Nat} {P : xPr} {Q : xQr} {r : Nat} {mem : Nat → Nat → Int32} (hP : Cl d none 173 P Q) {x1 : Int32} {x2 : Int32} {x3 : Int32} {v4 : Value} {v5 : Value} {v6 : Value} {y0 : Int32}
    (kt : ¬ y0 = 0 → P 227 [.ref 108, .int x1, .int x2, .int x3, v4, v5, v6] [] (0, 0) (LAY, RFu r, mem)) (kf : y0 = 0 → P 220 [.ref 108, .int x1, .int x2, .int x3, v4, v5, v6] [] (0, 0) (LAY, RFu r, mem)) : P 217 [.ref 108, .int x1, .int x2, .int x3, v4, v5, v6] [.int y0] (0, 0) (LAY, RFu r, mem) := by
  exact r_if (t := 227) hP d173_217 (by decide) kt (fun q => kf (Decidable.of_not_not q))
theorem b173_220 {d : Nat} {P : xPr} {Q : xQr} {r : Nat} {mem : Nat → Nat → Int32} (hP : Cl d none 173 P Q) {v1 : Value} {v2 : Value} {v3 : Value} {v4 : Value} {v5 : Value} {v6 : Value}
    (k : Q (some (.int ((-1) - (mem 108 25)))) (LAY, RFu r, mem)) : P 220 [.ref 108, v1, v2, v3, v4, v5, v6] [] (0, 0) (LAY, RFu r, mem) := by
  refine r_iconst (v := (-1)) hP d173_220 rfl ?_
  refine r_aload_n hP d173_221 rfl ?_
  refine r_geti hP d173_222 fr_12_156 rfl ly_108 ?_
  refine r_isub hP d173_225 ?_
  exact r_iret hP d173_226 rfl k
theorem b173_227 {d : Nat} {P : xPr} {Q : xQr} {r : Nat} {mem : Nat → Nat → Int32} (hP : Cl d none 173 P Q) {x1 : Int32} {x2 : Int32} {x3 : Int32} {v4 : Value} {v5 : Value} {v6 : Value}
    (k : P 233 [.ref 108, .int x1, .int x2, .int x3, v4, .int (mem 108 2), v6] [] (0, 0) (LAY, RFu r, mem)) : P 227 [.ref 108, .int x1, .int x2, .int x3, v4, v5, v6] [] (0, 0) (LAY, RFu r, mem) := by
  refine r_aload_n hP d173_227 rfl ?_
  refine r_geti hP d173_228 fr_12_127 rfl ly_108 ?_
  refine r_istore (L' := [.ref 108, .int x1, .int x2, .int x3, v4, .int (mem 108 2), v6]) hP d173_231 (Nat.le_of_ble_eq_true rfl) rfl ?_
  exact k
theorem b173_233 {d : Nat} {P : xPr} {Q : xQr} {r : Nat} {mem : Nat → Nat → Int32} (hP : Cl d none 173 P Q) {x1 : Int32} {x2 : Int32} {x3 : Int32} {v4 : Value} {x5 : Int32} {v6 : Value}
    (kt : x2 ≤ x5 → P 353 [.ref 108, .int x1, .int x2, .int x3, v4, .int x5, v6] [] (0, 0) (LAY, RFu r, mem)) (kf : ¬ x2 ≤ x5 → P 239 [.ref 108, .int x1, .int x2, .int x3, v4, .int x5, v6] [] (0, 0) (LAY, RFu r, mem)) : P 233 [.ref 108, .int x1, .int x2, .int x3, v4, .int x5, v6] [] (0, 0) (LAY, RFu r, mem) := by
  refine r_iload hP d173_233 rfl ?_
  refine r_iload_n hP d173_235 rfl ?_
  exact r_icmp (t := 353) hP d173_236 (by decide) kt kf
theorem b173_239 {d : Nat} {P : xPr} {Q : xQr} {r : Nat} {mem : Nat → Nat → Int32} (hP : Cl d none 173 P Q) {x1 : Int32} {x2 : Int32} {x3 : Int32} {v4 : Value} {x5 : Int32} {v6 : Value} (hi246 : vp_in x5 8) (hi254 : vp_in x5 8) (hi262 : vp_in x5 8) (hi270 : vp_in x5 8) (hi278 : vp_in x5 8) (hi286 : vp_in x5 8) (hi294 : vp_in x5 8) (hi302 : vp_in x5 8)
    (k : P 306 [.ref 108, .int x1, .int x2, .int x3, v4, .int x5, .int (nI 0)] [] (0, 0) (LAY, RFu r, xu2 (xu2 (xu2 (xu2 (xu2 (xu2 (xu2 (xu2 mem 113 x5.toNatClampNeg (nI 0)) 114 x5.toNatClampNeg (-1)) 115 x5.toNatClampNeg (nI 0)) 116 x5.toNatClampNeg (nI 0)) 117 x5.toNatClampNeg (nI 0)) 118 x5.toNatClampNeg (nI 0)) 119 x5.toNatClampNeg (nI 0)) 120 x5.toNatClampNeg (nI 0))) : P 239 [.ref 108, .int x1, .int x2, .int x3, v4, .int x5, v6] [] (0, 0) (LAY, RFu r, mem) := by
  refine r_aload_n hP d173_239 rfl ?_
  refine r_getr (a := 113) hP d173_240 fr_12_23 rfl ly_108 rg_108_6 ?_
  refine r_iload hP d173_243 rfl ?_
  refine r_iconst (v := nI 0) hP d173_245 rfl ?_
  refine r_iastore hP d173_246 ly_113 hi246 ?_
  refine r_aload_n hP d173_247 rfl ?_
  refine r_getr (a := 114) hP d173_248 fr_12_26 rfl ly_108 rg_108_7 ?_
  refine r_iload hP d173_251 rfl ?_
  refine r_iconst (v := (-1)) hP d173_253 rfl ?_
  refine r_iastore hP d173_254 ly_114 hi254 ?_
  refine r_aload_n hP d173_255 rfl ?_
  refine r_getr (a := 115) hP d173_256 fr_12_29 rfl ly_108 rg_108_8 ?_
  refine r_iload hP d173_259 rfl ?_
  refine r_iconst (v := nI 0) hP d173_261 rfl ?_
  refine r_iastore hP d173_262 ly_115 hi262 ?_
  refine r_aload_n hP d173_263 rfl ?_
  refine r_getr (a := 116) hP d173_264 fr_12_32 rfl ly_108 rg_108_9 ?_
  refine r_iload hP d173_267 rfl ?_
  refine r_iconst (v := nI 0) hP d173_269 rfl ?_
  refine r_iastore hP d173_270 ly_116 hi270 ?_
  refine r_aload_n hP d173_271 rfl ?_
  refine r_getr (a := 117) hP d173_272 fr_12_35 rfl ly_108 rg_108_10 ?_
  refine r_iload hP d173_275 rfl ?_
  refine r_iconst (v := nI 0) hP d173_277 rfl ?_
  refine r_iastore hP d173_278 ly_117 hi278 ?_
  refine r_aload_n hP d173_279 rfl ?_
  refine r_getr (a := 118) hP d173_280 fr_12_38 rfl ly_108 rg_108_11 ?_
  refine r_iload hP d173_283 rfl ?_
  refine r_iconst (v := nI 0) hP d173_285 rfl ?_
  refine r_iastore hP d173_286 ly_118 hi286 ?_
  refine r_aload_n hP d173_287 rfl ?_
  refine r_getr (a := 119) hP d173_288 fr_12_41 rfl ly_108 rg_108_12 ?_
  refine r_iload hP d173_291 rfl ?_
  refine r_iconst (v := nI 0) hP d173_293 rfl ?_
  refine r_iastore hP d173_294 ly_119 hi294 ?_
  refine r_aload_n hP d173_295 rfl ?_
  refine r_getr (a := 120) hP d173_296 fr_12_44 rfl ly_108 rg_108_13 ?_
  refine r_iload hP d173_299 rfl ?_
  refine r_iconst (v := nI 0) hP d173_301 rfl ?_
  refine r_iastore hP d173_302 ly_120 hi302 ?_
  refine r_iconst (v := nI 0) hP d173_303 rfl ?_
  refine r_istore (L' := [.ref 108, .int x1, .int x2, .int x3, v4, .int x5, .int (nI 0)]) hP d173_304 (Nat.le_of_ble_eq_true rfl) rfl ?_
  exact k
theorem b173_306 {d : Nat} {P : xPr} {Q : xQr} {r : Nat} {mem : Nat → Nat → Int32} (hP : Cl d none 173 P Q) {x1 : Int32} {x2 : Int32} {x3 : Int32} {v4 : Value} {x5 : Int32} {x6 : Int32}
    (kt : (nI 8) ≤ x6 → P 347 [.ref 108, .int x1, .int x2, .int x3, v4, .int x5, .int x6] [] (0, 0) (LAY, RFu r, mem)) (kf : ¬ (nI 8) ≤ x6 → P 313 [.ref 108, .int x1, .int x2, .int x3, v4, .int x5, .int x6] [] (0, 0) (LAY, RFu r, mem)) : P 306 [.ref 108, .int x1, .int x2, .int x3, v4, .int x5, .int x6] [] (0, 0) (LAY, RFu r, mem) := by
  refine r_iload hP d173_306 rfl ?_
  refine r_bipush (v := nI 8) hP d173_308 rfl ?_
  exact r_icmp (t := 347) hP d173_310 (by decide) kt kf
theorem b173_313 {d : Nat} {P : xPr} {Q : xQr} {r : Nat} {mem : Nat → Nat → Int32} (hP : Cl d none 173 P Q) {x1 : Int32} {x2 : Int32} {x3 : Int32} {v4 : Value} {x5 : Int32} {x6 : Int32} (hi326 : vp_in (((nI 8) * x5) + x6) 64) (hi340 : vp_in (((nI 8) * x6) + x5) 64)
    (k : P 306 [.ref 108, .int x1, .int x2, .int x3, v4, .int x5, .int (x6 + nI 1)] [] (0, 0) (LAY, RFu r, xu2 (xu2 mem 121 (((nI 8) * x5) + x6).toNatClampNeg (nI 0)) 121 (((nI 8) * x6) + x5).toNatClampNeg (nI 0))) : P 313 [.ref 108, .int x1, .int x2, .int x3, v4, .int x5, .int x6] [] (0, 0) (LAY, RFu r, mem) := by
  refine r_aload_n hP d173_313 rfl ?_
  refine r_getr (a := 121) hP d173_314 fr_12_47 rfl ly_108 rg_108_14 ?_
  refine r_bipush (v := nI 8) hP d173_317 rfl ?_
  refine r_iload hP d173_319 rfl ?_
  refine r_imul hP d173_321 ?_
  refine r_iload hP d173_322 rfl ?_
  refine r_iadd hP d173_324 ?_
  refine r_iconst (v := nI 0) hP d173_325 rfl ?_
  refine r_iastore hP d173_326 ly_121 hi326 ?_
  refine r_aload_n hP d173_327 rfl ?_
  refine r_getr (a := 121) hP d173_328 fr_12_47 rfl ly_108 rg_108_14 ?_
  refine r_bipush (v := nI 8) hP d173_331 rfl ?_
  refine r_iload hP d173_333 rfl ?_
  refine r_imul hP d173_335 ?_
  refine r_iload hP d173_336 rfl ?_
  refine r_iadd hP d173_338 ?_
  refine r_iconst (v := nI 0) hP d173_339 rfl ?_
  refine r_iastore hP d173_340 ly_121 hi340 ?_
  refine r_iinc (v := nI 1) (L' := [.ref 108, .int x1, .int x2, .int x3, v4, .int x5, .int (x6 + nI 1)]) hP d173_341 rfl rfl rfl ?_
  refine r_goto (t := 306) hP d173_344 (by decide) ?_
  exact k
theorem b173_347 {d : Nat} {P : xPr} {Q : xQr} {r : Nat} {mem : Nat → Nat → Int32} (hP : Cl d none 173 P Q) {x1 : Int32} {x2 : Int32} {x3 : Int32} {v4 : Value} {x5 : Int32} {v6 : Value}
    (k : P 233 [.ref 108, .int x1, .int x2, .int x3, v4, .int (x5 + nI 1), v6] [] (0, 0) (LAY, RFu r, mem)) : P 347 [.ref 108, .int x1, .int x2, .int x3, v4, .int x5, v6] [] (0, 0) (LAY, RFu r, mem) := by
  refine r_iinc (v := nI 1) (L' := [.ref 108, .int x1, .int x2, .int x3, v4, .int (x5 + nI 1), v6]) hP d173_347 rfl rfl rfl ?_
  refine r_goto (t := 233) hP d173_350 (by decide) ?_
  exact k
theorem b173_353 {d : Nat} {P : xPr} {Q : xQr} {r : Nat} {mem : Nat → Nat → Int32} (hP : Cl d none 173 P Q) {x1 : Int32} {x2 : Int32} {x3 : Int32} {v4 : Value} {v5 : Value} {v6 : Value}
    (kt : (mem 108 0) < x1 → P 369 [.ref 108, .int x1, .int x2, .int x3, v4, v5, v6] [] (0, 0) (LAY, RFu r, mem)) (kf : ¬ (mem 108 0) < x1 → P 361 [.ref 108, .int x1, .int x2, .int x3, v4, v5, v6] [] (0, 0) (LAY, RFu r, mem)) : P 353 [.ref 108, .int x1, .int x2, .int x3, v4, v5, v6] [] (0, 0) (LAY, RFu r, mem) := by
  refine r_iload_n hP d173_353 rfl ?_
  refine r_aload_n hP d173_354 rfl ?_
  refine r_geti hP d173_355 fr_12_138 rfl ly_108 ?_
  exact r_icmp (t := 369) hP d173_358 (by decide) kt kf
theorem b173_361 {d : Nat} {P : xPr} {Q : xQr} {r : Nat} {mem : Nat → Nat → Int32} (hP : Cl d none 173 P Q) {x1 : Int32} {x2 : Int32} {x3 : Int32} {v4 : Value} {v5 : Value} {v6 : Value}
    (kt : x2 ≤ (mem 108 2) → P 379 [.ref 108, .int x1, .int x2, .int x3, v4, v5, v6] [] (0, 0) (LAY, RFu r, mem)) (kf : ¬ x2 ≤ (mem 108 2) → P 369 [.ref 108, .int x1, .int x2, .int x3, v4, v5, v6] [] (0, 0) (LAY, RFu r, mem)) : P 361 [.ref 108, .int x1, .int x2, .int x3, v4, v5, v6] [] (0, 0) (LAY, RFu r, mem) := by
  refine r_iload_n hP d173_361 rfl ?_
  refine r_aload_n hP d173_362 rfl ?_
  refine r_geti hP d173_363 fr_12_127 rfl ly_108 ?_
  exact r_icmp (t := 379) hP d173_366 (by decide) kt kf
theorem b173_369 {d : Nat} {P : xPr} {Q : xQr} {r : Nat} {mem : Nat → Nat → Int32} (hP : Cl d none 173 P Q) {x1 : Int32} {x2 : Int32} {x3 : Int32} {v4 : Value} {v5 : Value} {v6 : Value}
    (k : P 379 [.ref 108, .int x1, .int x2, .int x3, v4, v5, v6] [] (0, 0) (LAY, RFu r, xu2 mem 108 47 ((mem 108 47) + (nI 1)))) : P 369 [.ref 108, .int x1, .int x2, .int x3, v4, v5, v6] [] (0, 0) (LAY, RFu r, mem) := by
  refine r_aload_n hP d173_369 rfl ?_
  refine r_dup hP d173_370 rfl ?_
  refine r_geti hP d173_371 fr_12_183 rfl ly_108 ?_
  refine r_iconst (v := nI 1) hP d173_374 rfl ?_
  refine r_iadd hP d173_375 ?_
  refine r_puti hP d173_376 fr_12_183 rfl (fun q => by cases q) ly_108 ?_
  exact k
theorem b173_379 {d : Nat} {P : xPr} {Q : xQr} {r : Nat} {mem : Nat → Nat → Int32} (hP : Cl d none 173 P Q) {x1 : Int32} {x2 : Int32} {x3 : Int32} {v4 : Value} {v5 : Value} {v6 : Value}
    (k : Q (some (.int x3)) (LAY, RFu r, xu2 (xu2 (xu2 mem 108 0 x1) 108 2 x2) 108 37 (nI 0))) : P 379 [.ref 108, .int x1, .int x2, .int x3, v4, v5, v6] [] (0, 0) (LAY, RFu r, mem) := by
  refine r_aload_n hP d173_379 rfl ?_
  refine r_iload_n hP d173_380 rfl ?_
  refine r_puti hP d173_381 fr_12_138 rfl (fun q => by cases q) ly_108 ?_
  refine r_aload_n hP d173_384 rfl ?_
  refine r_iload_n hP d173_385 rfl ?_
  refine r_puti hP d173_386 fr_12_127 rfl (fun q => by cases q) ly_108 ?_
  refine r_aload_n hP d173_389 rfl ?_
  refine r_iconst (v := nI 0) hP d173_390 rfl ?_
  refine r_puti hP d173_391 fr_12_186 rfl (fun q => by cases q) ly_108 ?_
  refine r_iload_n hP d173_394 rfl ?_
  exact r_iret hP d173_395 rfl k
theorem d174_0 : decode (xB 174) 0 = .ok (.aload_n 0, 1) := by decide +kernel
theorem d174_1 : decode (xB 174) 1 = .ok (.iconst 0, 1) := by decide +kernel
theorem d174_2 : decode (xB 174) 2 = .ok (.putfield 121, 3) := by decide +kernel
theorem d174_5 : decode (xB 174) 5 = .ok (.aload_n 0, 1) := by decide +kernel
theorem d174_6 : decode (xB 174) 6 = .ok (.aload_n 0, 1) := by decide +kernel
theorem d174_7 : decode (xB 174) 7 = .ok (.getfield 50, 3) := by decide +kernel
theorem d174_10 : decode (xB 174) 10 = .ok (.aload_n 0, 1) := by decide +kernel
theorem d174_11 : decode (xB 174) 11 = .ok (.getfield 141, 3) := by decide +kernel
theorem d174_14 : decode (xB 174) 14 = .ok (.bipush 24, 2) := by decide +kernel
theorem d174_16 : decode (xB 174) 16 = .ok (.invokevirtual 171, 3) := by decide +kernel
theorem d174_19 : decode (xB 174) 19 = .ok (.aload_n 0, 1) := by decide +kernel
theorem d174_20 : decode (xB 174) 20 = .ok (.iconst 0, 1) := by decide +kernel
theorem d174_21 : decode (xB 174) 21 = .ok (.putfield 141, 3) := by decide +kernel
theorem d174_24 : decode (xB 174) 24 = .ok (.aload_n 0, 1) := by decide +kernel
theorem d174_25 : decode (xB 174) 25 = .ok (.iload_n 1, 1) := by decide +kernel
theorem d174_26 : decode (xB 174) 26 = .ok (.invokevirtual 134, 3) := by decide +kernel
theorem d174_29 : decode (xB 174) 29 = .ok (.ifCond .ne 6, 3) := by decide +kernel
theorem d174_32 : decode (xB 174) 32 = .ok (.bipush (-100), 2) := by decide +kernel
theorem d174_34 : decode (xB 174) 34 = .ok (.ireturn, 1) := by decide +kernel
theorem d174_35 : decode (xB 174) 35 = .ok (.aload_n 0, 1) := by decide +kernel
theorem d174_36 : decode (xB 174) 36 = .ok (.invokevirtual 159, 3) := by decide +kernel
theorem d174_39 : decode (xB 174) 39 = .ok (.ifCond .eq 79, 3) := by decide +kernel
theorem d174_42 : decode (xB 174) 42 = .ok (.aload_n 0, 1) := by decide +kernel
theorem d174_43 : decode (xB 174) 43 = .ok (.getfield 153, 3) := by decide +kernel
theorem d174_46 : decode (xB 174) 46 = .ok (.aload_n 0, 1) := by decide +kernel
theorem d174_47 : decode (xB 174) 47 = .ok (.getfield 147, 3) := by decide +kernel
theorem d174_50 : decode (xB 174) 50 = .ok (.if_icmp .ge 68, 3) := by decide +kernel
theorem d174_53 : decode (xB 174) 53 = .ok (.aload_n 0, 1) := by decide +kernel
theorem d174_54 : decode (xB 174) 54 = .ok (.getfield 153, 3) := by decide +kernel
theorem d174_57 : decode (xB 174) 57 = .ok (.aload_n 0, 1) := by decide +kernel
theorem d174_58 : decode (xB 174) 58 = .ok (.getfield 150, 3) := by decide +kernel
theorem d174_61 : decode (xB 174) 61 = .ok (.if_icmp .ge 57, 3) := by decide +kernel
theorem d174_64 : decode (xB 174) 64 = .ok (.aload_n 0, 1) := by decide +kernel
theorem d174_65 : decode (xB 174) 65 = .ok (.invokevirtual 163, 3) := by decide +kernel
theorem d174_68 : decode (xB 174) 68 = .ok (.bipush 45, 2) := by decide +kernel
theorem d174_70 : decode (xB 174) 70 = .ok (.if_icmp .eq 35, 3) := by decide +kernel
theorem d174_73 : decode (xB 174) 73 = .ok (.aload_n 0, 1) := by decide +kernel
theorem d174_74 : decode (xB 174) 74 = .ok (.invokevirtual 163, 3) := by decide +kernel
theorem d174_77 : decode (xB 174) 77 = .ok (.bipush 48, 2) := by decide +kernel
theorem d174_79 : decode (xB 174) 79 = .ok (.bipush 48, 2) := by decide +kernel
theorem d174_81 : decode (xB 174) 81 = .ok (.aload_n 0, 1) := by decide +kernel
theorem d174_82 : decode (xB 174) 82 = .ok (.getfield 138, 3) := by decide +kernel
theorem d174_85 : decode (xB 174) 85 = .ok (.iadd, 1) := by decide +kernel
theorem d174_86 : decode (xB 174) 86 = .ok (.iconst 1, 1) := by decide +kernel
theorem d174_87 : decode (xB 174) 87 = .ok (.isub, 1) := by decide +kernel
theorem d174_88 : decode (xB 174) 88 = .ok (.invokestatic 130, 3) := by decide +kernel
theorem d174_91 : decode (xB 174) 91 = .ok (.ifCond .ne 14, 3) := by decide +kernel
theorem d174_94 : decode (xB 174) 94 = .ok (.aload_n 0, 1) := by decide +kernel
theorem d174_95 : decode (xB 174) 95 = .ok (.aload_n 0, 1) := by decide +kernel
theorem d174_96 : decode (xB 174) 96 = .ok (.getfield 153, 3) := by decide +kernel
theorem d174_99 : decode (xB 174) 99 = .ok (.invokevirtual 167, 3) := by decide +kernel
theorem d174_102 : decode (xB 174) 102 = .ok (.goto (-67), 3) := by decide +kernel
theorem d174_105 : decode (xB 174) 105 = .ok (.aload_n 0, 1) := by decide +kernel
theorem d174_106 : decode (xB 174) 106 = .ok (.dup, 1) := by decide +kernel
theorem d174_107 : decode (xB 174) 107 = .ok (.getfield 153, 3) := by decide +kernel
theorem d174_110 : decode (xB 174) 110 = .ok (.iconst 1, 1) := by decide +kernel
theorem d174_111 : decode (xB 174) 111 = .ok (.iadd, 1) := by decide +kernel
theorem d174_112 : decode (xB 174) 112 = .ok (.putfield 153, 3) := by decide +kernel
theorem d174_115 : decode (xB 174) 115 = .ok (.goto (-80), 3) := by decide +kernel
theorem d174_118 : decode (xB 174) 118 = .ok (.aload_n 0, 1) := by decide +kernel
theorem d174_119 : decode (xB 174) 119 = .ok (.getfield 153, 3) := by decide +kernel
theorem d174_122 : decode (xB 174) 122 = .ok (.aload_n 0, 1) := by decide +kernel
theorem d174_123 : decode (xB 174) 123 = .ok (.getfield 147, 3) := by decide +kernel
theorem d174_126 : decode (xB 174) 126 = .ok (.if_icmp .ge 11, 3) := by decide +kernel
theorem d174_129 : decode (xB 174) 129 = .ok (.aload_n 0, 1) := by decide +kernel
theorem d174_130 : decode (xB 174) 130 = .ok (.aload_n 0, 1) := by decide +kernel
theorem d174_131 : decode (xB 174) 131 = .ok (.getfield 153, 3) := by decide +kernel
theorem d174_134 : decode (xB 174) 134 = .ok (.invokevirtual 167, 3) := by decide +kernel
theorem d174_137 : decode (xB 174) 137 = .ok (.aload_n 0, 1) := by decide +kernel
theorem d174_138 : decode (xB 174) 138 = .ok (.invokevirtual 159, 3) := by decide +kernel
theorem d174_141 : decode (xB 174) 141 = .ok (.ifCond .ne 10, 3) := by decide +kernel
theorem d174_144 : decode (xB 174) 144 = .ok (.iconst (-1), 1) := by decide +kernel
theorem d174_145 : decode (xB 174) 145 = .ok (.aload_n 0, 1) := by decide +kernel
theorem d174_146 : decode (xB 174) 146 = .ok (.getfield 156, 3) := by decide +kernel
theorem d174_149 : decode (xB 174) 149 = .ok (.isub, 1) := by decide +kernel
theorem d174_150 : decode (xB 174) 150 = .ok (.ireturn, 1) := by decide +kernel
theorem d174_151 : decode (xB 174) 151 = .ok (.iconst 0, 1) := by decide +kernel
theorem d174_152 : decode (xB 174) 152 = .ok (.istore_n 2, 1) := by decide +kernel
theorem d174_153 : decode (xB 174) 153 = .ok (.iload_n 2, 1) := by decide +kernel
theorem d174_154 : decode (xB 174) 154 = .ok (.aload_n 0, 1) := by decide +kernel
theorem d174_155 : decode (xB 174) 155 = .ok (.getfield 147, 3) := by decide +kernel
theorem d174_158 : decode (xB 174) 158 = .ok (.if_icmp .ge 44, 3) := by decide +kernel
theorem d174_161 : decode (xB 174) 161 = .ok (.aload_n 0, 1) := by decide +kernel
theorem d174_162 : decode (xB 174) 162 = .ok (.getfield 20, 3) := by decide +kernel
theorem d174_165 : decode (xB 174) 165 = .ok (.bipush 24, 2) := by decide +kernel
theorem d174_167 : decode (xB 174) 167 = .ok (.iload_n 1, 1) := by decide +kernel
theorem d174_168 : decode (xB 174) 168 = .ok (.imul, 1) := by decide +kernel
theorem d174_169 : decode (xB 174) 169 = .ok (.iload_n 2, 1) := by decide +kernel
theorem d174_170 : decode (xB 174) 170 = .ok (.iadd, 1) := by decide +kernel
theorem d174_171 : decode (xB 174) 171 = .ok (.aload_n 0, 1) := by decide +kernel
theorem d174_172 : decode (xB 174) 172 = .ok (.getfield 50, 3) := by decide +kernel
theorem d174_175 : decode (xB 174) 175 = .ok (.iload_n 2, 1) := by decide +kernel
theorem d174_176 : decode (xB 174) 176 = .ok (.baload, 1) := by decide +kernel
theorem d174_177 : decode (xB 174) 177 = .ok (.bipush 45, 2) := by decide +kernel
theorem d174_179 : decode (xB 174) 179 = .ok (.if_icmp .ne 7, 3) := by decide +kernel
theorem d174_182 : decode (xB 174) 182 = .ok (.iconst (-1), 1) := by decide +kernel
theorem d174_183 : decode (xB 174) 183 = .ok (.goto 12, 3) := by decide +kernel
theorem d174_186 : decode (xB 174) 186 = .ok (.aload_n 0, 1) := by decide +kernel
theorem d174_187 : decode (xB 174) 187 = .ok (.getfield 50, 3) := by decide +kernel
theorem d174_190 : decode (xB 174) 190 = .ok (.iload_n 2, 1) := by decide +kernel
theorem d174_191 : decode (xB 174) 191 = .ok (.baload, 1) := by decide +kernel
theorem d174_192 : decode (xB 174) 192 = .ok (.bipush 48, 2) := by decide +kernel
theorem d174_194 : decode (xB 174) 194 = .ok (.isub, 1) := by decide +kernel
theorem d174_195 : decode (xB 174) 195 = .ok (.iastore, 1) := by decide +kernel
theorem d174_196 : decode (xB 174) 196 = .ok (.iinc 2 1, 3) := by decide +kernel
theorem d174_199 : decode (xB 174) 199 = .ok (.goto (-46), 3) := by decide +kernel
theorem d174_202 : decode (xB 174) 202 = .ok (.aload_n 0, 1) := by decide +kernel
theorem d174_203 : decode (xB 174) 203 = .ok (.getfield 23, 3) := by decide +kernel
theorem d174_206 : decode (xB 174) 206 = .ok (.iload_n 1, 1) := by decide +kernel
theorem d174_207 : decode (xB 174) 207 = .ok (.aload_n 0, 1) := by decide +kernel
theorem d174_208 : decode (xB 174) 208 = .ok (.getfield 147, 3) := by decide +kernel
theorem d174_211 : decode (xB 174) 211 = .ok (.iastore, 1) := by decide +kernel
theorem d174_212 : decode (xB 174) 212 = .ok (.aload_n 0, 1) := by decide +kernel
theorem d174_213 : decode (xB 174) 213 = .ok (.getfield 147, 3) := by decide +kernel
theorem d174_216 : decode (xB 174) 216 = .ok (.ireturn, 1) := by decide +kernel
theorem b174_0 {d : Nat} {P : xPr} {Q : xQr} {r : Nat} {mem : Nat → Nat → Int32} (hP : Cl d none 174 P Q) {p0 : Int32}
    (k : xCall d 167 [.ref 108, .ref 122, .int ((xu2 mem 108 20 (nI 0)) 108 17), .int (nI 24)] (LAY, RFu r, xu2 mem 108 20 (nI 0)) (Bk P 16 [.ref 108, .int p0, .null] [] (0, 0))) : P 0 [.ref 108, .int p0, .null] [] (0, 0) (LAY, RFu r, mem) := by
  refine r_aload_n hP d174_0 rfl ?_
  refine r_iconst (v := nI 0) hP d174_1 rfl ?_
  refine r_puti hP d174_2 fr_12_121 rfl (fun q => by cases q) ly_108 ?_
  refine r_aload_n hP d174_5 rfl ?_
  refine r_aload_n hP d174_6 rfl ?_
  refine r_getr (a := 122) hP d174_7 fr_12_50 rfl ly_108 rg_108_16 ?_
  refine r_aload_n hP d174_10 rfl ?_
  refine r_geti hP d174_11 fr_12_141 rfl ly_108 ?_
  refine r_bipush (v := nI 24) hP d174_14 rfl ?_
  exact r_callv (As := [.ref 122, .int ((xu2 mem 108 20 (nI 0)) 108 17), .int (nI 24)]) (S := []) hP d174_16 cr_12_171 (by decide +kernel) rfl (by simp [Value.category]) rfl ly_108 (by simp [Value.category]) ⟨Nat.zero_le _, Nat.zero_le _⟩ k
theorem b174_19 {d : Nat} {P : xPr} {Q : xQr} {r : Nat} {mem : Nat → Nat → Int32} (hP : Cl d none 174 P Q) {x1 : Int32} {v2 : Value}
    (k : xCall d 162 [.ref 108, .int x1] (LAY, RFu r, xu2 mem 108 17 (nI 0)) (Bk P 26 [.ref 108, .int x1, v2] [] (0, 0))) : P 19 [.ref 108, .int x1, v2] [] (0, 0) (LAY, RFu r, mem) := by
  refine r_aload_n hP d174_19 rfl ?_
  refine r_iconst (v := nI 0) hP d174_20 rfl ?_
  refine r_puti hP d174_21 fr_12_141 rfl (fun q => by cases q) ly_108 ?_
  refine r_aload_n hP d174_24 rfl ?_
  refine r_iload_n hP d174_25 rfl ?_
  exact r_callv (As := [.int x1]) (S := []) hP d174_26 cr_12_134 (by decide +kernel) rfl (by simp [Value.category]) rfl ly_108 (by simp [Value.category]) ⟨Nat.zero_le _, Nat.zero_le _⟩ k
theorem b174_29 {d : Nat} {P : xPr} {Q : xQr} {r : Nat} {mem : Nat → Nat → Int32} (hP : Cl d none 174 P Q) {x1 : Int32} {v2 : Value} {y0 : Int32}
    (kt : ¬ y0 = 0 → P 35 [.ref 108, .int x1, v2] [] (0, 0) (LAY, RFu r, mem)) (kf : y0 = 0 → P 32 [.ref 108, .int x1, v2] [] (0, 0) (LAY, RFu r, mem)) : P 29 [.ref 108, .int x1, v2] [.int y0] (0, 0) (LAY, RFu r, mem) := by
  exact r_if (t := 35) hP d174_29 (by decide) kt (fun q => kf (Decidable.of_not_not q))
theorem b174_32 {d : Nat} {P : xPr} {Q : xQr} {r : Nat} {mem : Nat → Nat → Int32} (hP : Cl d none 174 P Q) {v0 : Value} {v1 : Value} {v2 : Value}
    (k : Q (some (.int (-100))) (LAY, RFu r, mem)) : P 32 [v0, v1, v2] [] (0, 0) (LAY, RFu r, mem) := by
  refine r_bipush (v := (-100)) hP d174_32 rfl ?_
  exact r_iret hP d174_34 rfl k
theorem b174_35 {d : Nat} {P : xPr} {Q : xQr} {r : Nat} {mem : Nat → Nat → Int32} (hP : Cl d none 174 P Q) {x1 : Int32} {v2 : Value}
    (k : xCall d 169 [.ref 108] (LAY, RFu r, mem) (Bk P 36 [.ref 108, .int x1, v2] [] (0, 0))) : P 35 [.ref 108, .int x1, v2] [] (0, 0) (LAY, RFu r, mem) := by
  refine r_aload_n hP d174_35 rfl ?_
  exact r_callv (As := []) (S := []) hP d174_36 cr_12_159 (by decide +kernel) rfl (by simp) rfl ly_108 (by simp [Value.category]) ⟨Nat.zero_le _, Nat.zero_le _⟩ k
theorem b174_39 {d : Nat} {P : xPr} {Q : xQr} {r : Nat} {mem : Nat → Nat → Int32} (hP : Cl d none 174 P Q) {x1 : Int32} {v2 : Value} {y0 : Int32}
    (kt : y0 = 0 → P 118 [.ref 108, .int x1, v2] [] (0, 0) (LAY, RFu r, mem)) (kf : ¬ y0 = 0 → P 42 [.ref 108, .int x1, v2] [] (0, 0) (LAY, RFu r, mem)) : P 39 [.ref 108, .int x1, v2] [.int y0] (0, 0) (LAY, RFu r, mem) := by
  exact r_if (t := 118) hP d174_39 (by decide) kt kf
theorem b174_42 {d : Nat} {P : xPr} {Q : xQr} {r : Nat} {mem : Nat → Nat → Int32} (hP : Cl d none 174 P Q) {x1 : Int32} {v2 : Value}
    (kt : (mem 108 22) ≤ (mem 108 24) → P 118 [.ref 108, .int x1, v2] [] (0, 0) (LAY, RFu r, mem)) (kf : ¬ (mem 108 22) ≤ (mem 108 24) → P 53 [.ref 108, .int x1, v2] [] (0, 0) (LAY, RFu r, mem)) : P 42 [.ref 108, .int x1, v2] [] (0, 0) (LAY, RFu r, mem) := by
  refine r_aload_n hP d174_42 rfl ?_
  refine r_geti hP d174_43 fr_12_153 rfl ly_108 ?_
  refine r_aload_n hP d174_46 rfl ?_
  refine r_geti hP d174_47 fr_12_147 rfl ly_108 ?_
  exact r_icmp (t := 118) hP d174_50 (by decide) kt kf
theorem b174_53 {d : Nat} {P : xPr} {Q : xQr} {r : Nat} {mem : Nat → Nat → Int32} (hP : Cl d none 174 P Q) {x1 : Int32} {v2 : Value}
    (kt : (mem 108 23) ≤ (mem 108 24) → P 118 [.ref 108, .int x1, v2] [] (0, 0) (LAY, RFu r, mem)) (kf : ¬ (mem 108 23) ≤ (mem 108 24) → P 64 [.ref 108, .int x1, v2] [] (0, 0) (LAY, RFu r, mem)) : P 53 [.ref 108, .int x1, v2] [] (0, 0) (LAY, RFu r, mem) := by
  refine r_aload_n hP d174_53 rfl ?_
  refine r_geti hP d174_54 fr_12_153 rfl ly_108 ?_
  refine r_aload_n hP d174_57 rfl ?_
  refine r_geti hP d174_58 fr_12_150 rfl ly_108 ?_
  exact r_icmp (t := 118) hP d174_61 (by decide) kt kf
theorem b174_64 {d : Nat} {P : xPr} {Q : xQr} {r : Nat} {mem : Nat → Nat → Int32} (hP : Cl d none 174 P Q) {x1 : Int32} {v2 : Value}
    (k : xCall d 168 [.ref 108] (LAY, RFu r, mem) (Bk P 65 [.ref 108, .int x1, v2] [] (0, 0))) : P 64 [.ref 108, .int x1, v2] [] (0, 0) (LAY, RFu r, mem) := by
  refine r_aload_n hP d174_64 rfl ?_
  exact r_callv (As := []) (S := []) hP d174_65 cr_12_163 (by decide +kernel) rfl (by simp) rfl ly_108 (by simp [Value.category]) ⟨Nat.zero_le _, Nat.zero_le _⟩ k
theorem b174_68 {d : Nat} {P : xPr} {Q : xQr} {r : Nat} {mem : Nat → Nat → Int32} (hP : Cl d none 174 P Q) {x1 : Int32} {v2 : Value} {y0 : Int32}
    (kt : y0 = (nI 45) → P 105 [.ref 108, .int x1, v2] [] (0, 0) (LAY, RFu r, mem)) (kf : ¬ y0 = (nI 45) → P 73 [.ref 108, .int x1, v2] [] (0, 0) (LAY, RFu r, mem)) : P 68 [.ref 108, .int x1, v2] [.int y0] (0, 0) (LAY, RFu r, mem) := by
  refine r_bipush (v := nI 45) hP d174_68 rfl ?_
  exact r_icmp (t := 105) hP d174_70 (by decide) kt kf
theorem b174_73 {d : Nat} {P : xPr} {Q : xQr} {r : Nat} {mem : Nat → Nat → Int32} (hP : Cl d none 174 P Q) {x1 : Int32} {v2 : Value}
    (k : xCall d 168 [.ref 108] (LAY, RFu r, mem) (Bk P 74 [.ref 108, .int x1, v2] [] (0, 0))) : P 73 [.ref 108, .int x1, v2] [] (0, 0) (LAY, RFu r, mem) := by
  refine r_aload_n hP d174_73 rfl ?_
  exact r_callv (As := []) (S := []) hP d174_74 cr_12_163 (by decide +kernel) rfl (by simp) rfl ly_108 (by simp [Value.category]) ⟨Nat.zero_le _, Nat.zero_le _⟩ k
theorem b174_77 {d : Nat} {P : xPr} {Q : xQr} {r : Nat} {mem : Nat → Nat → Int32} (hP : Cl d none 174 P Q) {x1 : Int32} {v2 : Value} {y0 : Int32}
    (k : xCall d 158 [.int y0, .int (nI 48), .int (((nI 48) + (mem 108 0)) - (nI 1))] (LAY, RFu r, mem) (Bk P 88 [.ref 108, .int x1, v2] [] (0, 0))) : P 77 [.ref 108, .int x1, v2] [.int y0] (0, 0) (LAY, RFu r, mem) := by
  refine r_bipush (v := nI 48) hP d174_77 rfl ?_
  refine r_bipush (v := nI 48) hP d174_79 rfl ?_
  refine r_aload_n hP d174_81 rfl ?_
  refine r_geti hP d174_82 fr_12_138 rfl ly_108 ?_
  refine r_iadd hP d174_85 ?_
  refine r_iconst (v := nI 1) hP d174_86 rfl ?_
  refine r_isub hP d174_87 ?_
  exact r_calls (As := [.int y0, .int (nI 48), .int (((nI 48) + (mem 108 0)) - (nI 1))]) (S := []) hP d174_88 cr_12_130 (by decide +kernel) rfl (by simp [Value.category]) rfl (by simp [Value.category]) ⟨Nat.zero_le _, Nat.zero_le _⟩ k
theorem b174_91 {d : Nat} {P : xPr} {Q : xQr} {r : Nat} {mem : Nat → Nat → Int32} (hP : Cl d none 174 P Q) {x1 : Int32} {v2 : Value} {y0 : Int32}
    (kt : ¬ y0 = 0 → P 105 [.ref 108, .int x1, v2] [] (0, 0) (LAY, RFu r, mem)) (kf : y0 = 0 → P 94 [.ref 108, .int x1, v2] [] (0, 0) (LAY, RFu r, mem)) : P 91 [.ref 108, .int x1, v2] [.int y0] (0, 0) (LAY, RFu r, mem) := by
  exact r_if (t := 105) hP d174_91 (by decide) kt (fun q => kf (Decidable.of_not_not q))
theorem b174_94 {d : Nat} {P : xPr} {Q : xQr} {r : Nat} {mem : Nat → Nat → Int32} (hP : Cl d none 174 P Q) {x1 : Int32} {v2 : Value}
    (k : xCall d 170 [.ref 108, .int (mem 108 24)] (LAY, RFu r, mem) (Bk P 99 [.ref 108, .int x1, v2] [] (0, 0))) : P 94 [.ref 108, .int x1, v2] [] (0, 0) (LAY, RFu r, mem) := by
  refine r_aload_n hP d174_94 rfl ?_
  refine r_aload_n hP d174_95 rfl ?_
  refine r_geti hP d174_96 fr_12_153 rfl ly_108 ?_
  exact r_callv (As := [.int (mem 108 24)]) (S := []) hP d174_99 cr_12_167 (by decide +kernel) rfl (by simp [Value.category]) rfl ly_108 (by simp [Value.category]) ⟨Nat.zero_le _, Nat.zero_le _⟩ k
theorem b174_102 {d : Nat} {P : xPr} {Q : xQr} {r : Nat} {mem : Nat → Nat → Int32} (hP : Cl d none 174 P Q) {x1 : Int32} {v2 : Value}
    (k : P 35 [.ref 108, .int x1, v2] [] (0, 0) (LAY, RFu r, mem)) : P 102 [.ref 108, .int x1, v2] [] (0, 0) (LAY, RFu r, mem) := by
  refine r_goto (t := 35) hP d174_102 (by decide) ?_
  exact k
theorem b174_105 {d : Nat} {P : xPr} {Q : xQr} {r : Nat} {mem : Nat → Nat → Int32} (hP : Cl d none 174 P Q) {x1 : Int32} {v2 : Value}
    (k : P 35 [.ref 108, .int x1, v2] [] (0, 0) (LAY, RFu r, xu2 mem 108 24 ((mem 108 24) + (nI 1)))) : P 105 [.ref 108, .int x1, v2] [] (0, 0) (LAY, RFu r, mem) := by
  refine r_aload_n hP d174_105 rfl ?_
  refine r_dup hP d174_106 rfl ?_
  refine r_geti hP d174_107 fr_12_153 rfl ly_108 ?_
  refine r_iconst (v := nI 1) hP d174_110 rfl ?_
  refine r_iadd hP d174_111 ?_
  refine r_puti hP d174_112 fr_12_153 rfl (fun q => by cases q) ly_108 ?_
  refine r_goto (t := 35) hP d174_115 (by decide) ?_
  exact k
theorem b174_118 {d : Nat} {P : xPr} {Q : xQr} {r : Nat} {mem : Nat → Nat → Int32} (hP : Cl d none 174 P Q) {x1 : Int32} {v2 : Value}
    (kt : (mem 108 22) ≤ (mem 108 24) → P 137 [.ref 108, .int x1, v2] [] (0, 0) (LAY, RFu r, mem)) (kf : ¬ (mem 108 22) ≤ (mem 108 24) → P 129 [.ref 108, .int x1, v2] [] (0, 0) (LAY, RFu r, mem)) : P 118 [.ref 108, .int x1, v2] [] (0, 0) (LAY, RFu r, mem) := by
  refine r_aload_n hP d174_118 rfl ?_
  refine r_geti hP d174_119 fr_12_153 rfl ly_108 ?_
  refine r_aload_n hP d174_122 rfl ?_
  refine r_geti hP d174_123 fr_12_147 rfl ly_108 ?_
  exact r_icmp (t := 137) hP d174_126 (by decide) kt kf
theorem b174_129 {d : Nat} {P : xPr} {Q : xQr} {r : Nat} {mem : Nat → Nat → Int32} (hP : Cl d none 174 P Q) {x1 : Int32} {v2 : Value}
    (k : xCall d 170 [.ref 108, .int (mem 108 24)] (LAY, RFu r, mem) (Bk P 134 [.ref 108, .int x1, v2] [] (0, 0))) : P 129 [.ref 108, .int x1, v2] [] (0, 0) (LAY, RFu r, mem) := by
  refine r_aload_n hP d174_129 rfl ?_
  refine r_aload_n hP d174_130 rfl ?_
  refine r_geti hP d174_131 fr_12_153 rfl ly_108 ?_
  exact r_callv (As := [.int (mem 108 24)]) (S := []) hP d174_134 cr_12_167 (by decide +kernel) rfl (by simp [Value.category]) rfl ly_108 (by simp [Value.category]) ⟨Nat.zero_le _, Nat.zero_le _⟩ k
theorem b174_137 {d : Nat} {P : xPr} {Q : xQr} {r : Nat} {mem : Nat → Nat → Int32} (hP : Cl d none 174 P Q) {x1 : Int32} {v2 : Value}
    (k : xCall d 169 [.ref 108] (LAY, RFu r, mem) (Bk P 138 [.ref 108, .int x1, v2] [] (0, 0))) : P 137 [.ref 108, .int x1, v2] [] (0, 0) (LAY, RFu r, mem) := by
  refine r_aload_n hP d174_137 rfl ?_
  exact r_callv (As := []) (S := []) hP d174_138 cr_12_159 (by decide +kernel) rfl (by simp) rfl ly_108 (by simp [Value.category]) ⟨Nat.zero_le _, Nat.zero_le _⟩ k
theorem b174_141 {d : Nat} {P : xPr} {Q : xQr} {r : Nat} {mem : Nat → Nat → Int32} (hP : Cl d none 174 P Q) {x1 : Int32} {v2 : Value} {y0 : Int32}
    (kt : ¬ y0 = 0 → P 151 [.ref 108, .int x1, v2] [] (0, 0) (LAY, RFu r, mem)) (kf : y0 = 0 → P 144 [.ref 108, .int x1, v2] [] (0, 0) (LAY, RFu r, mem)) : P 141 [.ref 108, .int x1, v2] [.int y0] (0, 0) (LAY, RFu r, mem) := by
  exact r_if (t := 151) hP d174_141 (by decide) kt (fun q => kf (Decidable.of_not_not q))
theorem b174_144 {d : Nat} {P : xPr} {Q : xQr} {r : Nat} {mem : Nat → Nat → Int32} (hP : Cl d none 174 P Q) {v1 : Value} {v2 : Value}
    (k : Q (some (.int ((-1) - (mem 108 25)))) (LAY, RFu r, mem)) : P 144 [.ref 108, v1, v2] [] (0, 0) (LAY, RFu r, mem) := by
  refine r_iconst (v := (-1)) hP d174_144 rfl ?_
  refine r_aload_n hP d174_145 rfl ?_
  refine r_geti hP d174_146 fr_12_156 rfl ly_108 ?_
  refine r_isub hP d174_149 ?_
  exact r_iret hP d174_150 rfl k
theorem b174_151 {d : Nat} {P : xPr} {Q : xQr} {r : Nat} {mem : Nat → Nat → Int32} (hP : Cl d none 174 P Q) {x1 : Int32} {v2 : Value}
    (k : P 153 [.ref 108, .int x1, .int (nI 0)] [] (0, 0) (LAY, RFu r, mem)) : P 151 [.ref 108, .int x1, v2] [] (0, 0) (LAY, RFu r, mem) := by
  refine r_iconst (v := nI 0) hP d174_151 rfl ?_
  refine r_istore_n (L' := [.ref 108, .int x1, .int (nI 0)]) hP d174_152 (Nat.le_of_ble_eq_true rfl) rfl ?_
  exact k
theorem b174_153 {d : Nat} {P : xPr} {Q : xQr} {r : Nat} {mem : Nat → Nat → Int32} (hP : Cl d none 174 P Q) {x1 : Int32} {x2 : Int32}
    (kt : (mem 108 22) ≤ x2 → P 202 [.ref 108, .int x1, .int x2] [] (0, 0) (LAY, RFu r, mem)) (kf : ¬ (mem 108 22) ≤ x2 → P 161 [.ref 108, .int x1, .int x2] [] (0, 0) (LAY, RFu r, mem)) : P 153 [.ref 108, .int x1, .int x2] [] (0, 0) (LAY, RFu r, mem) := by
  refine r_iload_n hP d174_153 rfl ?_
  refine r_aload_n hP d174_154 rfl ?_
  refine r_geti hP d174_155 fr_12_147 rfl ly_108 ?_
  exact r_icmp (t := 202) hP d174_158 (by decide) kt kf
theorem b174_161 {d : Nat} {P : xPr} {Q : xQr} {r : Nat} {mem : Nat → Nat → Int32} (hP : Cl d none 174 P Q) {x1 : Int32} {x2 : Int32} (hi176 : vp_in x2 80)
    (kt : ¬ (mem 122 x2.toNatClampNeg) = (nI 45) → P 186 [.ref 108, .int x1, .int x2] [.int (((nI 24) * x1) + x2), .ref 112] (0, 0) (LAY, RFu r, mem)) (kf : (mem 122 x2.toNatClampNeg) = (nI 45) → P 182 [.ref 108, .int x1, .int x2] [.int (((nI 24) * x1) + x2), .ref 112] (0, 0) (LAY, RFu r, mem)) : P 161 [.ref 108, .int x1, .int x2] [] (0, 0) (LAY, RFu r, mem) := by
  refine r_aload_n hP d174_161 rfl ?_
  refine r_getr (a := 112) hP d174_162 fr_12_20 rfl ly_108 rg_108_5 ?_
  refine r_bipush (v := nI 24) hP d174_165 rfl ?_
  refine r_iload_n hP d174_167 rfl ?_
  refine r_imul hP d174_168 ?_
  refine r_iload_n hP d174_169 rfl ?_
  refine r_iadd hP d174_170 ?_
  refine r_aload_n hP d174_171 rfl ?_
  refine r_getr (a := 122) hP d174_172 fr_12_50 rfl ly_108 rg_108_16 ?_
  refine r_iload_n hP d174_175 rfl ?_
  refine r_baload hP d174_176 (by decide) ly_122 hi176 ?_
  refine r_bipush (v := nI 45) hP d174_177 rfl ?_
  exact r_icmp (t := 186) hP d174_179 (by decide) kt (fun q => kf (Decidable.of_not_not q))
theorem b174_182 {d : Nat} {P : xPr} {Q : xQr} {r : Nat} {mem : Nat → Nat → Int32} (hP : Cl d none 174 P Q) {x1 : Int32} {x2 : Int32} {y1 : Int32}
    (k : P 195 [.ref 108, .int x1, .int x2] [.int (-1), .int y1, .ref 112] (0, 0) (LAY, RFu r, mem)) : P 182 [.ref 108, .int x1, .int x2] [.int y1, .ref 112] (0, 0) (LAY, RFu r, mem) := by
  refine r_iconst (v := (-1)) hP d174_182 rfl ?_
  refine r_goto (t := 195) hP d174_183 (by decide) ?_
  exact k
theorem b174_186 {d : Nat} {P : xPr} {Q : xQr} {r : Nat} {mem : Nat → Nat → Int32} (hP : Cl d none 174 P Q) {x1 : Int32} {x2 : Int32} {y1 : Int32} (hi191 : vp_in x2 80)
    (k : P 195 [.ref 108, .int x1, .int x2] [.int ((mem 122 x2.toNatClampNeg) - (nI 48)), .int y1, .ref 112] (0, 0) (LAY, RFu r, mem)) : P 186 [.ref 108, .int x1, .int x2] [.int y1, .ref 112] (0, 0) (LAY, RFu r, mem) := by
  refine r_aload_n hP d174_186 rfl ?_
  refine r_getr (a := 122) hP d174_187 fr_12_50 rfl ly_108 rg_108_16 ?_
  refine r_iload_n hP d174_190 rfl ?_
  refine r_baload hP d174_191 (by decide) ly_122 hi191 ?_
  refine r_bipush (v := nI 48) hP d174_192 rfl ?_
  refine r_isub hP d174_194 ?_
  exact k
theorem b174_195 {d : Nat} {P : xPr} {Q : xQr} {r : Nat} {mem : Nat → Nat → Int32} (hP : Cl d none 174 P Q) {x1 : Int32} {x2 : Int32} {y1 : Int32} {y2 : Int32} (hi195 : vp_in y1 192)
    (k : P 153 [.ref 108, .int x1, .int (x2 + nI 1)] [] (0, 0) (LAY, RFu r, xu2 mem 112 y1.toNatClampNeg y2)) : P 195 [.ref 108, .int x1, .int x2] [.int y2, .int y1, .ref 112] (0, 0) (LAY, RFu r, mem) := by
  refine r_iastore hP d174_195 ly_112 hi195 ?_
  refine r_iinc (v := nI 1) (L' := [.ref 108, .int x1, .int (x2 + nI 1)]) hP d174_196 rfl rfl rfl ?_
  refine r_goto (t := 153) hP d174_199 (by decide) ?_
  exact k
theorem b174_202 {d : Nat} {P : xPr} {Q : xQr} {r : Nat} {mem : Nat → Nat → Int32} (hP : Cl d none 174 P Q) {x1 : Int32} {v2 : Value} (hi211 : vp_in x1 8)
    (k : Q (some (.int ((xu2 mem 113 x1.toNatClampNeg (mem 108 22)) 108 22))) (LAY, RFu r, xu2 mem 113 x1.toNatClampNeg (mem 108 22))) : P 202 [.ref 108, .int x1, v2] [] (0, 0) (LAY, RFu r, mem) := by
  refine r_aload_n hP d174_202 rfl ?_
  refine r_getr (a := 113) hP d174_203 fr_12_23 rfl ly_108 rg_108_6 ?_
  refine r_iload_n hP d174_206 rfl ?_
  refine r_aload_n hP d174_207 rfl ?_
  refine r_geti hP d174_208 fr_12_147 rfl ly_108 ?_
  refine r_iastore hP d174_211 ly_113 hi211 ?_
  refine r_aload_n hP d174_212 rfl ?_
  refine r_geti hP d174_213 fr_12_147 rfl ly_108 ?_
  exact r_iret hP d174_216 rfl k
theorem d175_0 : decode (xB 175) 0 = .ok (.aload_n 0, 1) := by decide +kernel
theorem d175_1 : decode (xB 175) 1 = .ok (.iload_n 1, 1) := by decide +kernel
theorem d175_2 : decode (xB 175) 2 = .ok (.invokevirtual 189, 3) := by decide +kernel
theorem d175_5 : decode (xB 175) 5 = .ok (.istore_n 2, 1) := by decide +kernel
theorem d175_6 : decode (xB 175) 6 = .ok (.aload_n 0, 1) := by decide +kernel
theorem d175_7 : decode (xB 175) 7 = .ok (.bipush 60, 2) := by decide +kernel
theorem d175_9 : decode (xB 175) 9 = .ok (.invokevirtual 179, 3) := by decide +kernel
theorem d175_12 : decode (xB 175) 12 = .ok (.ifCond .eq 18, 3) := by decide +kernel
theorem d175_15 : decode (xB 175) 15 = .ok (.iload_n 2, 1) := by decide +kernel
theorem d175_16 : decode (xB 175) 16 = .ok (.aload_n 0, 1) := by decide +kernel
theorem d175_17 : decode (xB 175) 17 = .ok (.iload_n 1, 1) := by decide +kernel
theorem d175_18 : decode (xB 175) 18 = .ok (.invokevirtual 189, 3) := by decide +kernel
theorem d175_21 : decode (xB 175) 21 = .ok (.if_icmp .ge 7, 3) := by decide +kernel
theorem d175_24 : decode (xB 175) 24 = .ok (.iconst 1, 1) := by decide +kernel
theorem d175_25 : decode (xB 175) 25 = .ok (.goto 4, 3) := by decide +kernel
theorem d175_28 : decode (xB 175) 28 = .ok (.iconst 0, 1) := by decide +kernel
theorem d175_29 : decode (xB 175) 29 = .ok (.ireturn, 1) := by decide +kernel
theorem d175_30 : decode (xB 175) 30 = .ok (.aload_n 0, 1) := by decide +kernel
theorem d175_31 : decode (xB 175) 31 = .ok (.bipush 62, 2) := by decide +kernel
theorem d175_33 : decode (xB 175) 33 = .ok (.invokevirtual 179, 3) := by decide +kernel
theorem d175_36 : decode (xB 175) 36 = .ok (.ifCond .eq 18, 3) := by decide +kernel
theorem d175_39 : decode (xB 175) 39 = .ok (.iload_n 2, 1) := by decide +kernel
theorem d175_40 : decode (xB 175) 40 = .ok (.aload_n 0, 1) := by decide +kernel
theorem d175_41 : decode (xB 175) 41 = .ok (.iload_n 1, 1) := by decide +kernel
theorem d175_42 : decode (xB 175) 42 = .ok (.invokevirtual 189, 3) := by decide +kernel
theorem d175_45 : decode (xB 175) 45 = .ok (.if_icmp .le 7, 3) := by decide +kernel
theorem d175_48 : decode (xB 175) 48 = .ok (.iconst 1, 1) := by decide +kernel
theorem d175_49 : decode (xB 175) 49 = .ok (.goto 4, 3) := by decide +kernel
theorem d175_52 : decode (xB 175) 52 = .ok (.iconst 0, 1) := by decide +kernel
theorem d175_53 : decode (xB 175) 53 = .ok (.ireturn, 1) := by decide +kernel
theorem d175_54 : decode (xB 175) 54 = .ok (.aload_n 0, 1) := by decide +kernel
theorem d175_55 : decode (xB 175) 55 = .ok (.bipush 61, 2) := by decide +kernel
theorem d175_57 : decode (xB 175) 57 = .ok (.invokevirtual 179, 3) := by decide +kernel
theorem d175_60 : decode (xB 175) 60 = .ok (.ifCond .eq 18, 3) := by decide +kernel
theorem d175_63 : decode (xB 175) 63 = .ok (.iload_n 2, 1) := by decide +kernel
theorem d175_64 : decode (xB 175) 64 = .ok (.aload_n 0, 1) := by decide +kernel
theorem d175_65 : decode (xB 175) 65 = .ok (.iload_n 1, 1) := by decide +kernel
theorem d175_66 : decode (xB 175) 66 = .ok (.invokevirtual 189, 3) := by decide +kernel
theorem d175_69 : decode (xB 175) 69 = .ok (.if_icmp .ne 7, 3) := by decide +kernel
theorem d175_72 : decode (xB 175) 72 = .ok (.iconst 1, 1) := by decide +kernel
theorem d175_73 : decode (xB 175) 73 = .ok (.goto 4, 3) := by decide +kernel
theorem d175_76 : decode (xB 175) 76 = .ok (.iconst 0, 1) := by decide +kernel
theorem d175_77 : decode (xB 175) 77 = .ok (.ireturn, 1) := by decide +kernel
theorem d175_78 : decode (xB 175) 78 = .ok (.iload_n 2, 1) := by decide +kernel
theorem d175_79 : decode (xB 175) 79 = .ok (.ireturn, 1) := by decide +kernel
theorem b175_0 {d : Nat} {P : xPr} {Q : xQr} {r : Nat} {mem : Nat → Nat → Int32} (hP : Cl d none 175 P Q) {p0 : Int32}
    (k : xCall d 176 [.ref 108, .int p0] (LAY, RFu r, mem) (Bk P 2 [.ref 108, .int p0, .null] [] (0, 0))) : P 0 [.ref 108, .int p0, .null] [] (0, 0) (LAY, RFu r, mem) := by
  refine r_aload_n hP d175_0 rfl ?_
  refine r_iload_n hP d175_1 rfl ?_
  exact r_callv (As := [.int p0]) (S := []) hP d175_2 cr_12_189 (by decide +kernel) rfl (by simp [Value.category]) rfl ly_108 (by simp [Value.category]) ⟨Nat.zero_le _, Nat.zero_le _⟩ k
theorem b175_5 {d : Nat} {P : xPr} {Q : xQr} {r : Nat} {mem : Nat → Nat → Int32} (hP : Cl d none 175 P Q) {x1 : Int32} {v2 : Value} {y0 : Int32}
    (k : xCall d 171 [.ref 108, .int (nI 60)] (LAY, RFu r, mem) (Bk P 9 [.ref 108, .int x1, .int y0] [] (0, 0))) : P 5 [.ref 108, .int x1, v2] [.int y0] (0, 0) (LAY, RFu r, mem) := by
  refine r_istore_n (L' := [.ref 108, .int x1, .int y0]) hP d175_5 (Nat.le_of_ble_eq_true rfl) rfl ?_
  refine r_aload_n hP d175_6 rfl ?_
  refine r_bipush (v := nI 60) hP d175_7 rfl ?_
  exact r_callv (As := [.int (nI 60)]) (S := []) hP d175_9 cr_12_179 (by decide +kernel) rfl (by simp [Value.category]) rfl ly_108 (by simp [Value.category]) ⟨Nat.zero_le _, Nat.zero_le _⟩ k
theorem b175_12 {d : Nat} {P : xPr} {Q : xQr} {r : Nat} {mem : Nat → Nat → Int32} (hP : Cl d none 175 P Q) {x1 : Int32} {x2 : Int32} {y0 : Int32}
    (kt : y0 = 0 → P 30 [.ref 108, .int x1, .int x2] [] (0, 0) (LAY, RFu r, mem)) (kf : ¬ y0 = 0 → P 15 [.ref 108, .int x1, .int x2] [] (0, 0) (LAY, RFu r, mem)) : P 12 [.ref 108, .int x1, .int x2] [.int y0] (0, 0) (LAY, RFu r, mem) := by
  exact r_if (t := 30) hP d175_12 (by decide) kt kf
theorem b175_15 {d : Nat} {P : xPr} {Q : xQr} {r : Nat} {mem : Nat → Nat → Int32} (hP : Cl d none 175 P Q) {x1 : Int32} {x2 : Int32}
    (k : xCall d 176 [.ref 108, .int x1] (LAY, RFu r, mem) (Bk P 18 [.ref 108, .int x1, .int x2] [.int x2] (0, 0))) : P 15 [.ref 108, .int x1, .int x2] [] (0, 0) (LAY, RFu r, mem) := by
  refine r_iload_n hP d175_15 rfl ?_
  refine r_aload_n hP d175_16 rfl ?_
  refine r_iload_n hP d175_17 rfl ?_
  exact r_callv (As := [.int x1]) (S := [.int x2]) hP d175_18 cr_12_189 (by decide +kernel) rfl (by simp [Value.category]) rfl ly_108 (by simp [Value.category]) ⟨Nat.zero_le _, Nat.zero_le _⟩ k
theorem b175_21 {d : Nat} {P : xPr} {Q : xQr} {r : Nat} {mem : Nat → Nat → Int32} (hP : Cl d none 175 P Q) {v0 : Value} {v1 : Value} {v2 : Value} {y0 : Int32} {y1 : Int32}
    (kt : y1 ≤ y0 → P 28 [v0, v1, v2] [] (0, 0) (LAY, RFu r, mem)) (kf : ¬ y1 ≤ y0 → P 24 [v0, v1, v2] [] (0, 0) (LAY, RFu r, mem)) : P 21 [v0, v1, v2] [.int y1, .int y0] (0, 0) (LAY, RFu r, mem) := by
  exact r_icmp (t := 28) hP d175_21 (by decide) kt kf
theorem b175_24 {d : Nat} {P : xPr} {Q : xQr} {r : Nat} {mem : Nat → Nat → Int32} (hP : Cl d none 175 P Q) {v0 : Value} {v1 : Value} {v2 : Value}
    (k : P 29 [v0, v1, v2] [.int (nI 1)] (0, 0) (LAY, RFu r, mem)) : P 24 [v0, v1, v2] [] (0, 0) (LAY, RFu r, mem) := by
  refine r_iconst (v := nI 1) hP d175_24 rfl ?_
  refine r_goto (t := 29) hP d175_25 (by decide) ?_
  exact k
theorem b175_28 {d : Nat} {P : xPr} {Q : xQr} {r : Nat} {mem : Nat → Nat → Int32} (hP : Cl d none 175 P Q) {v0 : Value} {v1 : Value} {v2 : Value}
    (k : P 29 [v0, v1, v2] [.int (nI 0)] (0, 0) (LAY, RFu r, mem)) : P 28 [v0, v1, v2] [] (0, 0) (LAY, RFu r, mem) := by
  refine r_iconst (v := nI 0) hP d175_28 rfl ?_
  exact k
theorem b175_29 {d : Nat} {P : xPr} {Q : xQr} {r : Nat} {mem : Nat → Nat → Int32} (hP : Cl d none 175 P Q) {v0 : Value} {v1 : Value} {v2 : Value} {y0 : Int32}
    (k : Q (some (.int y0)) (LAY, RFu r, mem)) : P 29 [v0, v1, v2] [.int y0] (0, 0) (LAY, RFu r, mem) := by
  exact r_iret hP d175_29 rfl k
theorem b175_30 {d : Nat} {P : xPr} {Q : xQr} {r : Nat} {mem : Nat → Nat → Int32} (hP : Cl d none 175 P Q) {x1 : Int32} {x2 : Int32}
    (k : xCall d 171 [.ref 108, .int (nI 62)] (LAY, RFu r, mem) (Bk P 33 [.ref 108, .int x1, .int x2] [] (0, 0))) : P 30 [.ref 108, .int x1, .int x2] [] (0, 0) (LAY, RFu r, mem) := by
  refine r_aload_n hP d175_30 rfl ?_
  refine r_bipush (v := nI 62) hP d175_31 rfl ?_
  exact r_callv (As := [.int (nI 62)]) (S := []) hP d175_33 cr_12_179 (by decide +kernel) rfl (by simp [Value.category]) rfl ly_108 (by simp [Value.category]) ⟨Nat.zero_le _, Nat.zero_le _⟩ k
theorem b175_36 {d : Nat} {P : xPr} {Q : xQr} {r : Nat} {mem : Nat → Nat → Int32} (hP : Cl d none 175 P Q) {x1 : Int32} {x2 : Int32} {y0 : Int32}
    (kt : y0 = 0 → P 54 [.ref 108, .int x1, .int x2] [] (0, 0) (LAY, RFu r, mem)) (kf : ¬ y0 = 0 → P 39 [.ref 108, .int x1, .int x2] [] (0, 0) (LAY, RFu r, mem)) : P 36 [.ref 108, .int x1, .int x2] [.int y0] (0, 0) (LAY, RFu r, mem) := by
  exact r_if (t := 54) hP d175_36 (by decide) kt kf
theorem b175_39 {d : Nat} {P : xPr} {Q : xQr} {r : Nat} {mem : Nat → Nat → Int32} (hP : Cl d none 175 P Q) {x1 : Int32} {x2 : Int32}
    (k : xCall d 176 [.ref 108, .int x1] (LAY, RFu r, mem) (Bk P 42 [.ref 108, .int x1, .int x2] [.int x2] (0, 0))) : P 39 [.ref 108, .int x1, .int x2] [] (0, 0) (LAY, RFu r, mem) := by
  refine r_iload_n hP d175_39 rfl ?_
  refine r_aload_n hP d175_40 rfl ?_
  refine r_iload_n hP d175_41 rfl ?_
  exact r_callv (As := [.int x1]) (S := [.int x2]) hP d175_42 cr_12_189 (by decide +kernel) rfl (by simp [Value.category]) rfl ly_108 (by simp [Value.category]) ⟨Nat.zero_le _, Nat.zero_le _⟩ k
theorem b175_45 {d : Nat} {P : xPr} {Q : xQr} {r : Nat} {mem : Nat → Nat → Int32} (hP : Cl d none 175 P Q) {v0 : Value} {v1 : Value} {v2 : Value} {y0 : Int32} {y1 : Int32}
    (kt : y0 ≤ y1 → P 52 [v0, v1, v2] [] (0, 0) (LAY, RFu r, mem)) (kf : ¬ y0 ≤ y1 → P 48 [v0, v1, v2] [] (0, 0) (LAY, RFu r, mem)) : P 45 [v0, v1, v2] [.int y1, .int y0] (0, 0) (LAY, RFu r, mem) := by
  exact r_icmp (t := 52) hP d175_45 (by decide) kt kf
theorem b175_48 {d : Nat} {P : xPr} {Q : xQr} {r : Nat} {mem : Nat → Nat → Int32} (hP : Cl d none 175 P Q) {v0 : Value} {v1 : Value} {v2 : Value}
    (k : P 53 [v0, v1, v2] [.int (nI 1)] (0, 0) (LAY, RFu r, mem)) : P 48 [v0, v1, v2] [] (0, 0) (LAY, RFu r, mem) := by
  refine r_iconst (v := nI 1) hP d175_48 rfl ?_
  refine r_goto (t := 53) hP d175_49 (by decide) ?_
  exact k
theorem b175_52 {d : Nat} {P : xPr} {Q : xQr} {r : Nat} {mem : Nat → Nat → Int32} (hP : Cl d none 175 P Q) {v0 : Value} {v1 : Value} {v2 : Value}
    (k : P 53 [v0, v1, v2] [.int (nI 0)] (0, 0) (LAY, RFu r, mem)) : P 52 [v0, v1, v2] [] (0, 0) (LAY, RFu r, mem) := by
  refine r_iconst (v := nI 0) hP d175_52 rfl ?_
  exact k
theorem b175_53 {d : Nat} {P : xPr} {Q : xQr} {r : Nat} {mem : Nat → Nat → Int32} (hP : Cl d none 175 P Q) {v0 : Value} {v1 : Value} {v2 : Value} {y0 : Int32}
    (k : Q (some (.int y0)) (LAY, RFu r, mem)) : P 53 [v0, v1, v2] [.int y0] (0, 0) (LAY, RFu r, mem) := by
  exact r_iret hP d175_53 rfl k
theorem b175_54 {d : Nat} {P : xPr} {Q : xQr} {r : Nat} {mem : Nat → Nat → Int32} (hP : Cl d none 175 P Q) {x1 : Int32} {x2 : Int32}
    (k : xCall d 171 [.ref 108, .int (nI 61)] (LAY, RFu r, mem) (Bk P 57 [.ref 108, .int x1, .int x2] [] (0, 0))) : P 54 [.ref 108, .int x1, .int x2] [] (0, 0) (LAY, RFu r, mem) := by
  refine r_aload_n hP d175_54 rfl ?_
  refine r_bipush (v := nI 61) hP d175_55 rfl ?_
  exact r_callv (As := [.int (nI 61)]) (S := []) hP d175_57 cr_12_179 (by decide +kernel) rfl (by simp [Value.category]) rfl ly_108 (by simp [Value.category]) ⟨Nat.zero_le _, Nat.zero_le _⟩ k
theorem b175_60 {d : Nat} {P : xPr} {Q : xQr} {r : Nat} {mem : Nat → Nat → Int32} (hP : Cl d none 175 P Q) {x1 : Int32} {x2 : Int32} {y0 : Int32}
    (kt : y0 = 0 → P 78 [.ref 108, .int x1, .int x2] [] (0, 0) (LAY, RFu r, mem)) (kf : ¬ y0 = 0 → P 63 [.ref 108, .int x1, .int x2] [] (0, 0) (LAY, RFu r, mem)) : P 60 [.ref 108, .int x1, .int x2] [.int y0] (0, 0) (LAY, RFu r, mem) := by
  exact r_if (t := 78) hP d175_60 (by decide) kt kf
theorem b175_63 {d : Nat} {P : xPr} {Q : xQr} {r : Nat} {mem : Nat → Nat → Int32} (hP : Cl d none 175 P Q) {x1 : Int32} {x2 : Int32}
    (k : xCall d 176 [.ref 108, .int x1] (LAY, RFu r, mem) (Bk P 66 [.ref 108, .int x1, .int x2] [.int x2] (0, 0))) : P 63 [.ref 108, .int x1, .int x2] [] (0, 0) (LAY, RFu r, mem) := by
  refine r_iload_n hP d175_63 rfl ?_
  refine r_aload_n hP d175_64 rfl ?_
  refine r_iload_n hP d175_65 rfl ?_
  exact r_callv (As := [.int x1]) (S := [.int x2]) hP d175_66 cr_12_189 (by decide +kernel) rfl (by simp [Value.category]) rfl ly_108 (by simp [Value.category]) ⟨Nat.zero_le _, Nat.zero_le _⟩ k
theorem b175_69 {d : Nat} {P : xPr} {Q : xQr} {r : Nat} {mem : Nat → Nat → Int32} (hP : Cl d none 175 P Q) {v0 : Value} {v1 : Value} {v2 : Value} {y0 : Int32} {y1 : Int32}
    (kt : ¬ y0 = y1 → P 76 [v0, v1, v2] [] (0, 0) (LAY, RFu r, mem)) (kf : y0 = y1 → P 72 [v0, v1, v2] [] (0, 0) (LAY, RFu r, mem)) : P 69 [v0, v1, v2] [.int y1, .int y0] (0, 0) (LAY, RFu r, mem) := by
  exact r_icmp (t := 76) hP d175_69 (by decide) kt (fun q => kf (Decidable.of_not_not q))
theorem b175_72 {d : Nat} {P : xPr} {Q : xQr} {r : Nat} {mem : Nat → Nat → Int32} (hP : Cl d none 175 P Q) {v0 : Value} {v1 : Value} {v2 : Value}
    (k : P 77 [v0, v1, v2] [.int (nI 1)] (0, 0) (LAY, RFu r, mem)) : P 72 [v0, v1, v2] [] (0, 0) (LAY, RFu r, mem) := by
  refine r_iconst (v := nI 1) hP d175_72 rfl ?_
  refine r_goto (t := 77) hP d175_73 (by decide) ?_
  exact k
theorem b175_76 {d : Nat} {P : xPr} {Q : xQr} {r : Nat} {mem : Nat → Nat → Int32} (hP : Cl d none 175 P Q) {v0 : Value} {v1 : Value} {v2 : Value}
    (k : P 77 [v0, v1, v2] [.int (nI 0)] (0, 0) (LAY, RFu r, mem)) : P 76 [v0, v1, v2] [] (0, 0) (LAY, RFu r, mem) := by
  refine r_iconst (v := nI 0) hP d175_76 rfl ?_
  exact k
theorem b175_77 {d : Nat} {P : xPr} {Q : xQr} {r : Nat} {mem : Nat → Nat → Int32} (hP : Cl d none 175 P Q) {v0 : Value} {v1 : Value} {v2 : Value} {y0 : Int32}
    (k : Q (some (.int y0)) (LAY, RFu r, mem)) : P 77 [v0, v1, v2] [.int y0] (0, 0) (LAY, RFu r, mem) := by
  exact r_iret hP d175_77 rfl k
theorem b175_78 {d : Nat} {P : xPr} {Q : xQr} {r : Nat} {mem : Nat → Nat → Int32} (hP : Cl d none 175 P Q) {v0 : Value} {v1 : Value} {x2 : Int32}
    (k : Q (some (.int x2)) (LAY, RFu r, mem)) : P 78 [v0, v1, .int x2] [] (0, 0) (LAY, RFu r, mem) := by
  refine r_iload_n hP d175_78 rfl ?_
  exact r_iret hP d175_79 rfl k
theorem d176_0 : decode (xB 176) 0 = .ok (.aload_n 0, 1) := by decide +kernel
theorem d176_1 : decode (xB 176) 1 = .ok (.iload_n 1, 1) := by decide +kernel
theorem d176_2 : decode (xB 176) 2 = .ok (.invokevirtual 192, 3) := by decide +kernel
theorem d176_5 : decode (xB 176) 5 = .ok (.istore_n 2, 1) := by decide +kernel
theorem d176_6 : decode (xB 176) 6 = .ok (.aload_n 0, 1) := by decide +kernel
theorem d176_7 : decode (xB 176) 7 = .ok (.invokevirtual 159, 3) := by decide +kernel
theorem d176_10 : decode (xB 176) 10 = .ok (.ifCond .eq 72, 3) := by decide +kernel
theorem d176_13 : decode (xB 176) 13 = .ok (.aload_n 0, 1) := by decide +kernel
theorem d176_14 : decode (xB 176) 14 = .ok (.invokevirtual 163, 3) := by decide +kernel
theorem d176_17 : decode (xB 176) 17 = .ok (.bipush 43, 2) := by decide +kernel
theorem d176_19 : decode (xB 176) 19 = .ok (.if_icmp .eq 12, 3) := by decide +kernel
theorem d176_22 : decode (xB 176) 22 = .ok (.aload_n 0, 1) := by decide +kernel
theorem d176_23 : decode (xB 176) 23 = .ok (.invokevirtual 163, 3) := by decide +kernel
theorem d176_26 : decode (xB 176) 26 = .ok (.bipush 45, 2) := by decide +kernel
theorem d176_28 : decode (xB 176) 28 = .ok (.if_icmp .ne 54, 3) := by decide +kernel
theorem d176_31 : decode (xB 176) 31 = .ok (.aload_n 0, 1) := by decide +kernel
theorem d176_32 : decode (xB 176) 32 = .ok (.invokevirtual 163, 3) := by decide +kernel
theorem d176_35 : decode (xB 176) 35 = .ok (.bipush 43, 2) := by decide +kernel
theorem d176_37 : decode (xB 176) 37 = .ok (.if_icmp .ne 7, 3) := by decide +kernel
theorem d176_40 : decode (xB 176) 40 = .ok (.iconst 1, 1) := by decide +kernel
theorem d176_41 : decode (xB 176) 41 = .ok (.goto 4, 3) := by decide +kernel
theorem d176_44 : decode (xB 176) 44 = .ok (.iconst 0, 1) := by decide +kernel
theorem d176_45 : decode (xB 176) 45 = .ok (.istore_n 3, 1) := by decide +kernel
theorem d176_46 : decode (xB 176) 46 = .ok (.aload_n 0, 1) := by decide +kernel
theorem d176_47 : decode (xB 176) 47 = .ok (.dup, 1) := by decide +kernel
theorem d176_48 : decode (xB 176) 48 = .ok (.getfield 153, 3) := by decide +kernel
theorem d176_51 : decode (xB 176) 51 = .ok (.iconst 1, 1) := by decide +kernel
theorem d176_52 : decode (xB 176) 52 = .ok (.iadd, 1) := by decide +kernel
theorem d176_53 : decode (xB 176) 53 = .ok (.putfield 153, 3) := by decide +kernel
theorem d176_56 : decode (xB 176) 56 = .ok (.aload_n 0, 1) := by decide +kernel
theorem d176_57 : decode (xB 176) 57 = .ok (.iload_n 1, 1) := by decide +kernel
theorem d176_58 : decode (xB 176) 58 = .ok (.invokevirtual 192, 3) := by decide +kernel
theorem d176_61 : decode (xB 176) 61 = .ok (.istore 4, 2) := by decide +kernel
theorem d176_63 : decode (xB 176) 63 = .ok (.iload_n 3, 1) := by decide +kernel
theorem d176_64 : decode (xB 176) 64 = .ok (.ifCond .eq 10, 3) := by decide +kernel
theorem d176_67 : decode (xB 176) 67 = .ok (.iload_n 2, 1) := by decide +kernel
theorem d176_68 : decode (xB 176) 68 = .ok (.iload 4, 2) := by decide +kernel
theorem d176_70 : decode (xB 176) 70 = .ok (.iadd, 1) := by decide +kernel
theorem d176_71 : decode (xB 176) 71 = .ok (.goto 7, 3) := by decide +kernel
theorem d176_74 : decode (xB 176) 74 = .ok (.iload_n 2, 1) := by decide +kernel
theorem d176_75 : decode (xB 176) 75 = .ok (.iload 4, 2) := by decide +kernel
theorem d176_77 : decode (xB 176) 77 = .ok (.isub, 1) := by decide +kernel
theorem d176_78 : decode (xB 176) 78 = .ok (.istore_n 2, 1) := by decide +kernel
theorem d176_79 : decode (xB 176) 79 = .ok (.goto (-73), 3) := by decide +kernel
theorem d176_82 : decode (xB 176) 82 = .ok (.iload_n 2, 1) := by decide +kernel
theorem d176_83 : decode (xB 176) 83 = .ok (.ireturn, 1) := by decide +kernel
theorem b176_0 {d : Nat} {P : xPr} {Q : xQr} {r : Nat} {mem : Nat → Nat → Int32} (hP : Cl d none 176 P Q) {p0 : Int32}
    (k : xCall d 177 [.ref 108, .int p0] (LAY, RFu r, mem) (Bk P 2 [.ref 108, .int p0, .null, .null, .null] [] (0, 0))) : P 0 [.ref 108, .int p0, .null, .null, .null] [] (0, 0) (LAY, RFu r, mem) := by
  refine r_aload_n hP d176_0 rfl ?_
  refine r_iload_n hP d176_1 rfl ?_
  exact r_callv (As := [.int p0]) (S := []) hP d176_2 cr_12_192 (by decide +kernel) rfl (by simp [Value.category]) rfl ly_108 (by simp [Value.category]) ⟨Nat.zero_le _, Nat.zero_le _⟩ k
theorem b176_5 {d : Nat} {P : xPr} {Q : xQr} {r : Nat} {mem : Nat → Nat → Int32} (hP : Cl d none 176 P Q) {x1 : Int32} {v2 : Value} {v3 : Value} {v4 : Value} {y0 : Int32}
    (k : P 6 [.ref 108, .int x1, .int y0, v3, v4] [] (0, 0) (LAY, RFu r, mem)) : P 5 [.ref 108, .int x1, v2, v3, v4] [.int y0] (0, 0) (LAY, RFu r, mem) := by
  refine r_istore_n (L' := [.ref 108, .int x1, .int y0, v3, v4]) hP d176_5 (Nat.le_of_ble_eq_true rfl) rfl ?_
  exact k
theorem b176_6 {d : Nat} {P : xPr} {Q : xQr} {r : Nat} {mem : Nat → Nat → Int32} (hP : Cl d none 176 P Q) {x1 : Int32} {x2 : Int32} {v3 : Value} {v4 : Value}
    (k : xCall d 169 [.ref 108] (LAY, RFu r, mem) (Bk P 7 [.ref 108, .int x1, .int x2, v3, v4] [] (0, 0))) : P 6 [.ref 108, .int x1, .int x2, v3, v4] [] (0, 0) (LAY, RFu r, mem) := by
  refine r_aload_n hP d176_6 rfl ?_
  exact r_callv (As := []) (S := []) hP d176_7 cr_12_159 (by decide +kernel) rfl (by simp) rfl ly_108 (by simp [Value.category]) ⟨Nat.zero_le _, Nat.zero_le _⟩ k
theorem b176_10 {d : Nat} {P : xPr} {Q : xQr} {r : Nat} {mem : Nat → Nat → Int32} (hP : Cl d none 176 P Q) {x1 : Int32} {x2 : Int32} {v3 : Value} {v4 : Value} {y0 : Int32}
    (kt : y0 = 0 → P 82 [.ref 108, .int x1, .int x2, v3, v4] [] (0, 0) (LAY, RFu r, mem)) (kf : ¬ y0 = 0 → P 13 [.ref 108, .int x1, .int x2, v3, v4] [] (0, 0) (LAY, RFu r, mem)) : P 10 [.ref 108, .int x1, .int x2, v3, v4] [.int y0] (0, 0) (LAY, RFu r, mem) := by
  exact r_if (t := 82) hP d176_10 (by decide) kt kf
theorem b176_13 {d : Nat} {P : xPr} {Q : xQr} {r : Nat} {mem : Nat → Nat → Int32} (hP : Cl d none 176 P Q) {x1 : Int32} {x2 : Int32} {v3 : Value} {v4 : Value}
    (k : xCall d 168 [.ref 108] (LAY, RFu r, mem) (Bk P 14 [.ref 108, .int x1, .int x2, v3, v4] [] (0, 0))) : P 13 [.ref 108, .int x1, .int x2, v3, v4] [] (0, 0) (LAY, RFu r, mem) := by
  refine r_aload_n hP d176_13 rfl ?_
  exact r_callv (As := []) (S := []) hP d176_14 cr_12_163 (by decide +kernel) rfl (by simp) rfl ly_108 (by simp [Value.category]) ⟨Nat.zero_le _, Nat.zero_le _⟩ k
theorem b176_17 {d : Nat} {P : xPr} {Q : xQr} {r : Nat} {mem : Nat → Nat → Int32} (hP : Cl d none 176 P Q) {x1 : Int32} {x2 : Int32} {v3 : Value} {v4 : Value} {y0 : Int32}
    (kt : y0 = (nI 43) → P 31 [.ref 108, .int x1, .int x2, v3, v4] [] (0, 0) (LAY, RFu r, mem)) (kf : ¬ y0 = (nI 43) → P 22 [.ref 108, .int x1, .int x2, v3, v4] [] (0, 0) (LAY, RFu r, mem)) : P 17 [.ref 108, .int x1, .int x2, v3, v4] [.int y0] (0, 0) (LAY, RFu r, mem) := by
  refine r_bipush (v := nI 43) hP d176_17 rfl ?_
  exact r_icmp (t := 31) hP d176_19 (by decide) kt kf
theorem b176_22 {d : Nat} {P : xPr} {Q : xQr} {r : Nat} {mem : Nat → Nat → Int32} (hP : Cl d none 176 P Q) {x1 : Int32} {x2 : Int32} {v3 : Value} {v4 : Value}
    (k : xCall d 168 [.ref 108] (LAY, RFu r, mem) (Bk P 23 [.ref 108, .int x1, .int x2, v3, v4] [] (0, 0))) : P 22 [.ref 108, .int x1, .int x2, v3, v4] [] (0, 0) (LAY, RFu r, mem) := by
  refine r_aload_n hP d176_22 rfl ?_
  exact r_callv (As := []) (S := []) hP d176_23 cr_12_163 (by decide +kernel) rfl (by simp) rfl ly_108 (by simp [Value.category]) ⟨Nat.zero_le _, Nat.zero_le _⟩ k
theorem b176_26 {d : Nat} {P : xPr} {Q : xQr} {r : Nat} {mem : Nat → Nat → Int32} (hP : Cl d none 176 P Q) {x1 : Int32} {x2 : Int32} {v3 : Value} {v4 : Value} {y0 : Int32}
    (kt : ¬ y0 = (nI 45) → P 82 [.ref 108, .int x1, .int x2, v3, v4] [] (0, 0) (LAY, RFu r, mem)) (kf : y0 = (nI 45) → P 31 [.ref 108, .int x1, .int x2, v3, v4] [] (0, 0) (LAY, RFu r, mem)) : P 26 [.ref 108, .int x1, .int x2, v3, v4] [.int y0] (0, 0) (LAY, RFu r, mem) := by
  refine r_bipush (v := nI 45) hP d176_26 rfl ?_
  exact r_icmp (t := 82) hP d176_28 (by decide) kt (fun q => kf (Decidable.of_not_not q))
theorem b176_31 {d : Nat} {P : xPr} {Q : xQr} {r : Nat} {mem : Nat → Nat → Int32} (hP : Cl d none 176 P Q) {x1 : Int32} {x2 : Int32} {v3 : Value} {v4 : Value}
    (k : xCall d 168 [.ref 108] (LAY, RFu r, mem) (Bk P 32 [.ref 108, .int x1, .int x2, v3, v4] [] (0, 0))) : P 31 [.ref 108, .int x1, .int x2, v3, v4] [] (0, 0) (LAY, RFu r, mem) := by
  refine r_aload_n hP d176_31 rfl ?_
  exact r_callv (As := []) (S := []) hP d176_32 cr_12_163 (by decide +kernel) rfl (by simp) rfl ly_108 (by simp [Value.category]) ⟨Nat.zero_le _, Nat.zero_le _⟩ k
theorem b176_35 {d : Nat} {P : xPr} {Q : xQr} {r : Nat} {mem : Nat → Nat → Int32} (hP : Cl d none 176 P Q) {x1 : Int32} {x2 : Int32} {v3 : Value} {v4 : Value} {y0 : Int32}
    (kt : ¬ y0 = (nI 43) → P 44 [.ref 108, .int x1, .int x2, v3, v4] [] (0, 0) (LAY, RFu r, mem)) (kf : y0 = (nI 43) → P 40 [.ref 108, .int x1, .int x2, v3, v4] [] (0, 0) (LAY, RFu r, mem)) : P 35 [.ref 108, .int x1, .int x2, v3, v4] [.int y0] (0, 0) (LAY, RFu r, mem) := by
  refine r_bipush (v := nI 43) hP d176_35 rfl ?_
  exact r_icmp (t := 44) hP d176_37 (by decide) kt (fun q => kf (Decidable.of_not_not q))
theorem b176_40 {d : Nat} {P : xPr} {Q : xQr} {r : Nat} {mem : Nat → Nat → Int32} (hP : Cl d none 176 P Q) {x1 : Int32} {x2 : Int32} {v3 : Value} {v4 : Value}
    (k : P 45 [.ref 108, .int x1, .int x2, v3, v4] [.int (nI 1)] (0, 0) (LAY, RFu r, mem)) : P 40 [.ref 108, .int x1, .int x2, v3, v4] [] (0, 0) (LAY, RFu r, mem) := by
  refine r_iconst (v := nI 1) hP d176_40 rfl ?_
  refine r_goto (t := 45) hP d176_41 (by decide) ?_
  exact k
theorem b176_44 {d : Nat} {P : xPr} {Q : xQr} {r : Nat} {mem : Nat → Nat → Int32} (hP : Cl d none 176 P Q) {x1 : Int32} {x2 : Int32} {v3 : Value} {v4 : Value}
    (k : P 45 [.ref 108, .int x1, .int x2, v3, v4] [.int (nI 0)] (0, 0) (LAY, RFu r, mem)) : P 44 [.ref 108, .int x1, .int x2, v3, v4] [] (0, 0) (LAY, RFu r, mem) := by
  refine r_iconst (v := nI 0) hP d176_44 rfl ?_
  exact k
theorem b176_45 {d : Nat} {P : xPr} {Q : xQr} {r : Nat} {mem : Nat → Nat → Int32} (hP : Cl d none 176 P Q) {x1 : Int32} {x2 : Int32} {v3 : Value} {v4 : Value} {y0 : Int32}
    (k : xCall d 177 [.ref 108, .int x1] (LAY, RFu r, xu2 mem 108 24 ((mem 108 24) + (nI 1))) (Bk P 58 [.ref 108, .int x1, .int x2, .int y0, v4] [] (0, 0))) : P 45 [.ref 108, .int x1, .int x2, v3, v4] [.int y0] (0, 0) (LAY, RFu r, mem) := by
  refine r_istore_n (L' := [.ref 108, .int x1, .int x2, .int y0, v4]) hP d176_45 (Nat.le_of_ble_eq_true rfl) rfl ?_
  refine r_aload_n hP d176_46 rfl ?_
  refine r_dup hP d176_47 rfl ?_
  refine r_geti hP d176_48 fr_12_153 rfl ly_108 ?_
  refine r_iconst (v := nI 1) hP d176_51 rfl ?_
  refine r_iadd hP d176_52 ?_
  refine r_puti hP d176_53 fr_12_153 rfl (fun q => by cases q) ly_108 ?_
  refine r_aload_n hP d176_56 rfl ?_
  refine r_iload_n hP d176_57 rfl ?_
  exact r_callv (As := [.int x1]) (S := []) hP d176_58 cr_12_192 (by decide +kernel) rfl (by simp [Value.category]) rfl ly_108 (by simp [Value.category]) ⟨Nat.zero_le _, Nat.zero_le _⟩ k
theorem b176_61 {d : Nat} {P : xPr} {Q : xQr} {r : Nat} {mem : Nat → Nat → Int32} (hP : Cl d none 176 P Q) {x1 : Int32} {x2 : Int32} {x3 : Int32} {v4 : Value} {y0 : Int32}
    (kt : x3 = 0 → P 74 [.ref 108, .int x1, .int x2, .int x3, .int y0] [] (0, 0) (LAY, RFu r, mem)) (kf : ¬ x3 = 0 → P 67 [.ref 108, .int x1, .int x2, .int x3, .int y0] [] (0, 0) (LAY, RFu r, mem)) : P 61 [.ref 108, .int x1, .int x2, .int x3, v4] [.int y0] (0, 0) (LAY, RFu r, mem) := by
  refine r_istore (L' := [.ref 108, .int x1, .int x2, .int x3, .int y0]) hP d176_61 (Nat.le_of_ble_eq_true rfl) rfl ?_
  refine r_iload_n hP d176_63 rfl ?_
  exact r_if (t := 74) hP d176_64 (by decide) kt kf
theorem b176_67 {d : Nat} {P : xPr} {Q : xQr} {r : Nat} {mem : Nat → Nat → Int32} (hP : Cl d none 176 P Q) {x1 : Int32} {x2 : Int32} {v3 : Value} {x4 : Int32}
    (k : P 78 [.ref 108, .int x1, .int x2, v3, .int x4] [.int (x2 + x4)] (0, 0) (LAY, RFu r, mem)) : P 67 [.ref 108, .int x1, .int x2, v3, .int x4] [] (0, 0) (LAY, RFu r, mem) := by
  refine r_iload_n hP d176_67 rfl ?_
  refine r_iload hP d176_68 rfl ?_
  refine r_iadd hP d176_70 ?_
  refine r_goto (t := 78) hP d176_71 (by decide) ?_
  exact k
theorem b176_74 {d : Nat} {P : xPr} {Q : xQr} {r : Nat} {mem : Nat → Nat → Int32} (hP : Cl d none 176 P Q) {x1 : Int32} {x2 : Int32} {v3 : Value} {x4 : Int32}
    (k : P 78 [.ref 108, .int x1, .int x2, v3, .int x4] [.int (x2 - x4)] (0, 0) (LAY, RFu r, mem)) : P 74 [.ref 108, .int x1, .int x2, v3, .int x4] [] (0, 0) (LAY, RFu r, mem) := by
  refine r_iload_n hP d176_74 rfl ?_
  refine r_iload hP d176_75 rfl ?_
  refine r_isub hP d176_77 ?_
  exact k
theorem b176_78 {d : Nat} {P : xPr} {Q : xQr} {r : Nat} {mem : Nat → Nat → Int32} (hP : Cl d none 176 P Q) {x1 : Int32} {v2 : Value} {v3 : Value} {v4 : Value} {y0 : Int32}
    (k : P 6 [.ref 108, .int x1, .int y0, v3, v4] [] (0, 0) (LAY, RFu r, mem)) : P 78 [.ref 108, .int x1, v2, v3, v4] [.int y0] (0, 0) (LAY, RFu r, mem) := by
  refine r_istore_n (L' := [.ref 108, .int x1, .int y0, v3, v4]) hP d176_78 (Nat.le_of_ble_eq_true rfl) rfl ?_
  refine r_goto (t := 6) hP d176_79 (by decide) ?_
  exact k
theorem b176_82 {d : Nat} {P : xPr} {Q : xQr} {r : Nat} {mem : Nat → Nat → Int32} (hP : Cl d none 176 P Q) {v0 : Value} {v1 : Value} {x2 : Int32} {v3 : Value} {v4 : Value}
    (k : Q (some (.int x2)) (LAY, RFu r, mem)) : P 82 [v0, v1, .int x2, v3, v4] [] (0, 0) (LAY, RFu r, mem) := by
  refine r_iload_n hP d176_82 rfl ?_
  exact r_iret hP d176_83 rfl k
theorem d177_0 : decode (xB 177) 0 = .ok (.aload_n 0, 1) := by decide +kernel
theorem d177_1 : decode (xB 177) 1 = .ok (.iload_n 1, 1) := by decide +kernel
theorem d177_2 : decode (xB 177) 2 = .ok (.invokevirtual 195, 3) := by decide +kernel
theorem d177_5 : decode (xB 177) 5 = .ok (.istore_n 2, 1) := by decide +kernel
theorem d177_6 : decode (xB 177) 6 = .ok (.aload_n 0, 1) := by decide +kernel
theorem d177_7 : decode (xB 177) 7 = .ok (.invokevirtual 159, 3) := by decide +kernel
theorem d177_10 : decode (xB 177) 10 = .ok (.ifCond .eq 81, 3) := by decide +kernel
theorem d177_13 : decode (xB 177) 13 = .ok (.aload_n 0, 1) := by decide +kernel
theorem d177_14 : decode (xB 177) 14 = .ok (.invokevirtual 163, 3) := by decide +kernel
theorem d177_17 : decode (xB 177) 17 = .ok (.bipush 42, 2) := by decide +kernel
theorem d177_19 : decode (xB 177) 19 = .ok (.if_icmp .eq 12, 3) := by decide +kernel
theorem d177_22 : decode (xB 177) 22 = .ok (.aload_n 0, 1) := by decide +kernel
theorem d177_23 : decode (xB 177) 23 = .ok (.invokevirtual 163, 3) := by decide +kernel
theorem d177_26 : decode (xB 177) 26 = .ok (.bipush 47, 2) := by decide +kernel
theorem d177_28 : decode (xB 177) 28 = .ok (.if_icmp .ne 63, 3) := by decide +kernel
theorem d177_31 : decode (xB 177) 31 = .ok (.aload_n 0, 1) := by decide +kernel
theorem d177_32 : decode (xB 177) 32 = .ok (.invokevirtual 163, 3) := by decide +kernel
theorem d177_35 : decode (xB 177) 35 = .ok (.bipush 42, 2) := by decide +kernel
theorem d177_37 : decode (xB 177) 37 = .ok (.if_icmp .ne 7, 3) := by decide +kernel
theorem d177_40 : decode (xB 177) 40 = .ok (.iconst 1, 1) := by decide +kernel
theorem d177_41 : decode (xB 177) 41 = .ok (.goto 4, 3) := by decide +kernel
theorem d177_44 : decode (xB 177) 44 = .ok (.iconst 0, 1) := by decide +kernel
theorem d177_45 : decode (xB 177) 45 = .ok (.istore_n 3, 1) := by decide +kernel
theorem d177_46 : decode (xB 177) 46 = .ok (.aload_n 0, 1) := by decide +kernel
theorem d177_47 : decode (xB 177) 47 = .ok (.dup, 1) := by decide +kernel
theorem d177_48 : decode (xB 177) 48 = .ok (.getfield 153, 3) := by decide +kernel
theorem d177_51 : decode (xB 177) 51 = .ok (.iconst 1, 1) := by decide +kernel
theorem d177_52 : decode (xB 177) 52 = .ok (.iadd, 1) := by decide +kernel
theorem d177_53 : decode (xB 177) 53 = .ok (.putfield 153, 3) := by decide +kernel
theorem d177_56 : decode (xB 177) 56 = .ok (.aload_n 0, 1) := by decide +kernel
theorem d177_57 : decode (xB 177) 57 = .ok (.iload_n 1, 1) := by decide +kernel
theorem d177_58 : decode (xB 177) 58 = .ok (.invokevirtual 195, 3) := by decide +kernel
theorem d177_61 : decode (xB 177) 61 = .ok (.istore 4, 2) := by decide +kernel
theorem d177_63 : decode (xB 177) 63 = .ok (.iload_n 3, 1) := by decide +kernel
theorem d177_64 : decode (xB 177) 64 = .ok (.ifCond .eq 10, 3) := by decide +kernel
theorem d177_67 : decode (xB 177) 67 = .ok (.iload_n 2, 1) := by decide +kernel
theorem d177_68 : decode (xB 177) 68 = .ok (.iload 4, 2) := by decide +kernel
theorem d177_70 : decode (xB 177) 70 = .ok (.imul, 1) := by decide +kernel
theorem d177_71 : decode (xB 177) 71 = .ok (.goto 16, 3) := by decide +kernel
theorem d177_74 : decode (xB 177) 74 = .ok (.iload 4, 2) := by decide +kernel
theorem d177_76 : decode (xB 177) 76 = .ok (.ifCond .ne 7, 3) := by decide +kernel
theorem d177_79 : decode (xB 177) 79 = .ok (.iconst 0, 1) := by decide +kernel
theorem d177_80 : decode (xB 177) 80 = .ok (.goto 7, 3) := by decide +kernel
theorem d177_83 : decode (xB 177) 83 = .ok (.iload_n 2, 1) := by decide +kernel
theorem d177_84 : decode (xB 177) 84 = .ok (.iload 4, 2) := by decide +kernel
theorem d177_86 : decode (xB 177) 86 = .ok (.idiv, 1) := by decide +kernel
theorem d177_87 : decode (xB 177) 87 = .ok (.istore_n 2, 1) := by decide +kernel
theorem d177_88 : decode (xB 177) 88 = .ok (.goto (-82), 3) := by decide +kernel
theorem d177_91 : decode (xB 177) 91 = .ok (.iload_n 2, 1) := by decide +kernel
theorem d177_92 : decode (xB 177) 92 = .ok (.ireturn, 1) := by decide +kernel
theorem b177_0 {d : Nat} {P : xPr} {Q : xQr} {r : Nat} {mem : Nat → Nat → Int32} (hP : Cl d none 177 P Q) {p0 : Int32}
    (k : xCall d 178 [.ref 108, .int p0] (LAY, RFu r, mem) (Bk P 2 [.ref 108, .int p0, .null, .null, .null] [] (0, 0))) : P 0 [.ref 108, .int p0, .null, .null, .null] [] (0, 0) (LAY, RFu r, mem) := by
  refine r_aload_n hP d177_0 rfl ?_
  refine r_iload_n hP d177_1 rfl ?_
  exact r_callv (As := [.int p0]) (S := []) hP d177_2 cr_12_195 (by decide +kernel) rfl (by simp [Value.category]) rfl ly_108 (by simp [Value.category]) ⟨Nat.zero_le _, Nat.zero_le _⟩ k
theorem b177_5 {d : Nat} {P : xPr} {Q : xQr} {r : Nat} {mem : Nat → Nat → Int32} (hP : Cl d none 177 P Q) {x1 : Int32} {v2 : Value} {v3 : Value} {v4 : Value} {y0 : Int32}
    (k : P 6 [.ref 108, .int x1, .int y0, v3, v4] [] (0, 0) (LAY, RFu r, mem)) : P 5 [.ref 108, .int x1, v2, v3, v4] [.int y0] (0, 0) (LAY, RFu r, mem) := by
  refine r_istore_n (L' := [.ref 108, .int x1, .int y0, v3, v4]) hP d177_5 (Nat.le_of_ble_eq_true rfl) rfl ?_
  exact k
theorem b177_6 {d : Nat} {P : xPr} {Q : xQr} {r : Nat} {mem : Nat → Nat → Int32} (hP : Cl d none 177 P Q) {x1 : Int32} {x2 : Int32} {v3 : Value} {v4 : Value}
    (k : xCall d 169 [.ref 108] (LAY, RFu r, mem) (Bk P 7 [.ref 108, .int x1, .int x2, v3, v4] [] (0, 0))) : P 6 [.ref 108, .int x1, .int x2, v3, v4] [] (0, 0) (LAY, RFu r, mem) := by
  refine r_aload_n hP d177_6 rfl ?_
  exact r_callv (As := []) (S := []) hP d177_7 cr_12_159 (by decide +kernel) rfl (by simp) rfl ly_108 (by simp [Value.category]) ⟨Nat.zero_le _, Nat.zero_le _⟩ k
theorem b177_10 {d : Nat} {P : xPr} {Q : xQr} {r : Nat} {mem : Nat → Nat → Int32} (hP : Cl d none 177 P Q) {x1 : Int32} {x2 : Int32} {v3 : Value} {v4 : Value} {y0 : Int32}
    (kt : y0 = 0 → P 91 [.ref 108, .int x1, .int x2, v3, v4] [] (0, 0) (LAY, RFu r, mem)) (kf : ¬ y0 = 0 → P 13 [.ref 108, .int x1, .int x2, v3, v4] [] (0, 0) (LAY, RFu r, mem)) : P 10 [.ref 108, .int x1, .int x2, v3, v4] [.int y0] (0, 0) (LAY, RFu r, mem) := by
  exact r_if (t := 91) hP d177_10 (by decide) kt kf
theorem b177_13 {d : Nat} {P : xPr} {Q : xQr} {r : Nat} {mem : Nat → Nat → Int32} (hP : Cl d none 177 P Q) {x1 : Int32} {x2 : Int32} {v3 : Value} {v4 : Value}
    (k : xCall d 168 [.ref 108] (LAY, RFu r, mem) (Bk P 14 [.ref 108, .int x1, .int x2, v3, v4] [] (0, 0))) : P 13 [.ref 108, .int x1, .int x2, v3, v4] [] (0, 0) (LAY, RFu r, mem) := by
  refine r_aload_n hP d177_13 rfl ?_
  exact r_callv (As := []) (S := []) hP d177_14 cr_12_163 (by decide +kernel) rfl (by simp) rfl ly_108 (by simp [Value.category]) ⟨Nat.zero_le _, Nat.zero_le _⟩ k
theorem b177_17 {d : Nat} {P : xPr} {Q : xQr} {r : Nat} {mem : Nat → Nat → Int32} (hP : Cl d none 177 P Q) {x1 : Int32} {x2 : Int32} {v3 : Value} {v4 : Value} {y0 : Int32}
    (kt : y0 = (nI 42) → P 31 [.ref 108, .int x1, .int x2, v3, v4] [] (0, 0) (LAY, RFu r, mem)) (kf : ¬ y0 = (nI 42) → P 22 [.ref 108, .int x1, .int x2, v3, v4] [] (0, 0) (LAY, RFu r, mem)) : P 17 [.ref 108, .int x1, .int x2, v3, v4] [.int y0] (0, 0) (LAY, RFu r, mem) := by
  refine r_bipush (v := nI 42) hP d177_17 rfl ?_
  exact r_icmp (t := 31) hP d177_19 (by decide) kt kf
theorem b177_22 {d : Nat} {P : xPr} {Q : xQr} {r : Nat} {mem : Nat → Nat → Int32} (hP : Cl d none 177 P Q) {x1 : Int32} {x2 : Int32} {v3 : Value} {v4 : Value}
    (k : xCall d 168 [.ref 108] (LAY, RFu r, mem) (Bk P 23 [.ref 108, .int x1, .int x2, v3, v4] [] (0, 0))) : P 22 [.ref 108, .int x1, .int x2, v3, v4] [] (0, 0) (LAY, RFu r, mem) := by
  refine r_aload_n hP d177_22 rfl ?_
  exact r_callv (As := []) (S := []) hP d177_23 cr_12_163 (by decide +kernel) rfl (by simp) rfl ly_108 (by simp [Value.category]) ⟨Nat.zero_le _, Nat.zero_le _⟩ k
theorem b177_26 {d : Nat} {P : xPr} {Q : xQr} {r : Nat} {mem : Nat → Nat → Int32} (hP : Cl d none 177 P Q) {x1 : Int32} {x2 : Int32} {v3 : Value} {v4 : Value} {y0 : Int32}
    (kt : ¬ y0 = (nI 47) → P 91 [.ref 108, .int x1, .int x2, v3, v4] [] (0, 0) (LAY, RFu r, mem)) (kf : y0 = (nI 47) → P 31 [.ref 108, .int x1, .int x2, v3, v4] [] (0, 0) (LAY, RFu r, mem)) : P 26 [.ref 108, .int x1, .int x2, v3, v4] [.int y0] (0, 0) (LAY, RFu r, mem) := by
  refine r_bipush (v := nI 47) hP d177_26 rfl ?_
  exact r_icmp (t := 91) hP d177_28 (by decide) kt (fun q => kf (Decidable.of_not_not q))
theorem b177_31 {d : Nat} {P : xPr} {Q : xQr} {r : Nat} {mem : Nat → Nat → Int32} (hP : Cl d none 177 P Q) {x1 : Int32} {x2 : Int32} {v3 : Value} {v4 : Value}
    (k : xCall d 168 [.ref 108] (LAY, RFu r, mem) (Bk P 32 [.ref 108, .int x1, .int x2, v3, v4] [] (0, 0))) : P 31 [.ref 108, .int x1, .int x2, v3, v4] [] (0, 0) (LAY, RFu r, mem) := by
  refine r_aload_n hP d177_31 rfl ?_
  exact r_callv (As := []) (S := []) hP d177_32 cr_12_163 (by decide +kernel) rfl (by simp) rfl ly_108 (by simp [Value.category]) ⟨Nat.zero_le _, Nat.zero_le _⟩ k
theorem b177_35 {d : Nat} {P : xPr} {Q : xQr} {r : Nat} {mem : Nat → Nat → Int32} (hP : Cl d none 177 P Q) {x1 : Int32} {x2 : Int32} {v3 : Value} {v4 : Value} {y0 : Int32}
    (kt : ¬ y0 = (nI 42) → P 44 [.ref 108, .int x1, .int x2, v3, v4] [] (0, 0) (LAY, RFu r, mem)) (kf : y0 = (nI 42) → P 40 [.ref 108, .int x1, .int x2, v3, v4] [] (0, 0) (LAY, RFu r, mem)) : P 35 [.ref 108, .int x1, .int x2, v3, v4] [.int y0] (0, 0) (LAY, RFu r, mem) := by
  refine r_bipush (v := nI 42) hP d177_35 rfl ?_
  exact r_icmp (t := 44) hP d177_37 (by decide) kt (fun q => kf (Decidable.of_not_not q))
theorem b177_40 {d : Nat} {P : xPr} {Q : xQr} {r : Nat} {mem : Nat → Nat → Int32} (hP : Cl d none 177 P Q) {x1 : Int32} {x2 : Int32} {v3 : Value} {v4 : Value}
    (k : P 45 [.ref 108, .int x1, .int x2, v3, v4] [.int (nI 1)] (0, 0) (LAY, RFu r, mem)) : P 40 [.ref 108, .int x1, .int x2, v3, v4] [] (0, 0) (LAY, RFu r, mem) := by
  refine r_iconst (v := nI 1) hP d177_40 rfl ?_
  refine r_goto (t := 45) hP d177_41 (by decide) ?_
  exact k
theorem b177_44 {d : Nat} {P : xPr} {Q : xQr} {r : Nat} {mem : Nat → Nat → Int32} (hP : Cl d none 177 P Q) {x1 : Int32} {x2 : Int32} {v3 : Value} {v4 : Value}
    (k : P 45 [.ref 108, .int x1, .int x2, v3, v4] [.int (nI 0)] (0, 0) (LAY, RFu r, mem)) : P 44 [.ref 108, .int x1, .int x2, v3, v4] [] (0, 0) (LAY, RFu r, mem) := by
  refine r_iconst (v := nI 0) hP d177_44 rfl ?_
  exact k
theorem b177_45 {d : Nat} {P : xPr} {Q : xQr} {r : Nat} {mem : Nat → Nat → Int32} (hP : Cl d none 177 P Q) {x1 : Int32} {x2 : Int32} {v3 : Value} {v4 : Value} {y0 : Int32}
    (k : xCall d 178 [.ref 108, .int x1] (LAY, RFu r, xu2 mem 108 24 ((mem 108 24) + (nI 1))) (Bk P 58 [.ref 108, .int x1, .int x2, .int y0, v4] [] (0, 0))) : P 45 [.ref 108, .int x1, .int x2, v3, v4] [.int y0] (0, 0) (LAY, RFu r, mem) := by
  refine r_istore_n (L' := [.ref 108, .int x1, .int x2, .int y0, v4]) hP d177_45 (Nat.le_of_ble_eq_true rfl) rfl ?_
  refine r_aload_n hP d177_46 rfl ?_
  refine r_dup hP d177_47 rfl ?_
  refine r_geti hP d177_48 fr_12_153 rfl ly_108 ?_
  refine r_iconst (v := nI 1) hP d177_51 rfl ?_
  refine r_iadd hP d177_52 ?_
  refine r_puti hP d177_53 fr_12_153 rfl (fun q => by cases q) ly_108 ?_
  refine r_aload_n hP d177_56 rfl ?_
  refine r_iload_n hP d177_57 rfl ?_
  exact r_callv (As := [.int x1]) (S := []) hP d177_58 cr_12_195 (by decide +kernel) rfl (by simp [Value.category]) rfl ly_108 (by simp [Value.category]) ⟨Nat.zero_le _, Nat.zero_le _⟩ k
theorem b177_61 {d : Nat} {P : xPr} {Q : xQr} {r : Nat} {mem : Nat → Nat → Int32} (hP : Cl d none 177 P Q) {x1 : Int32} {x2 : Int32} {x3 : Int32} {v4 : Value} {y0 : Int32}
    (kt : x3 = 0 → P 74 [.ref 108, .int x1, .int x2, .int x3, .int y0] [] (0, 0) (LAY, RFu r, mem)) (kf : ¬ x3 = 0 → P 67 [.ref 108, .int x1, .int x2, .int x3, .int y0] [] (0, 0) (LAY, RFu r, mem)) : P 61 [.ref 108, .int x1, .int x2, .int x3, v4] [.int y0] (0, 0) (LAY, RFu r, mem) := by
  refine r_istore (L' := [.ref 108, .int x1, .int x2, .int x3, .int y0]) hP d177_61 (Nat.le_of_ble_eq_true rfl) rfl ?_
  refine r_iload_n hP d177_63 rfl ?_
  exact r_if (t := 74) hP d177_64 (by decide) kt kf
theorem b177_67 {d : Nat} {P : xPr} {Q : xQr} {r : Nat} {mem : Nat → Nat → Int32} (hP : Cl d none 177 P Q) {x1 : Int32} {x2 : Int32} {v3 : Value} {x4 : Int32}
    (k : P 87 [.ref 108, .int x1, .int x2, v3, .int x4] [.int (x2 * x4)] (0, 0) (LAY, RFu r, mem)) : P 67 [.ref 108, .int x1, .int x2, v3, .int x4] [] (0, 0) (LAY, RFu r, mem) := by
  refine r_iload_n hP d177_67 rfl ?_
  refine r_iload hP d177_68 rfl ?_
  refine r_imul hP d177_70 ?_
  refine r_goto (t := 87) hP d177_71 (by decide) ?_
  exact k
theorem b177_74 {d : Nat} {P : xPr} {Q : xQr} {r : Nat} {mem : Nat → Nat → Int32} (hP : Cl d none 177 P Q) {x1 : Int32} {x2 : Int32} {v3 : Value} {x4 : Int32}
    (kt : ¬ x4 = 0 → P 83 [.ref 108, .int x1, .int x2, v3, .int x4] [] (0, 0) (LAY, RFu r, mem)) (kf : x4 = 0 → P 79 [.ref 108, .int x1, .int x2, v3, .int x4] [] (0, 0) (LAY, RFu r, mem)) : P 74 [.ref 108, .int x1, .int x2, v3, .int x4] [] (0, 0) (LAY, RFu r, mem) := by
  refine r_iload hP d177_74 rfl ?_
  exact r_if (t := 83) hP d177_76 (by decide) kt (fun q => kf (Decidable.of_not_not q))
theorem b177_79 {d : Nat} {P : xPr} {Q : xQr} {r : Nat} {mem : Nat → Nat → Int32} (hP : Cl d none 177 P Q) {x1 : Int32} {v2 : Value} {v3 : Value} {v4 : Value}
    (k : P 87 [.ref 108, .int x1, v2, v3, v4] [.int (nI 0)] (0, 0) (LAY, RFu r, mem)) : P 79 [.ref 108, .int x1, v2, v3, v4] [] (0, 0) (LAY, RFu r, mem) := by
  refine r_iconst (v := nI 0) hP d177_79 rfl ?_
  refine r_goto (t := 87) hP d177_80 (by decide) ?_
  exact k
theorem b177_83 {d : Nat} {P : xPr} {Q : xQr} {r : Nat} {mem : Nat → Nat → Int32} (hP : Cl d none 177 P Q) {x1 : Int32} {x2 : Int32} {v3 : Value} {x4 : Int32} (hz86 : ¬ x4 = 0)
    (k : P 87 [.ref 108, .int x1, .int x2, v3, .int x4] [.int (x2 / x4)] (0, 0) (LAY, RFu r, mem)) : P 83 [.ref 108, .int x1, .int x2, v3, .int x4] [] (0, 0) (LAY, RFu r, mem) := by
  refine r_iload_n hP d177_83 rfl ?_
  refine r_iload hP d177_84 rfl ?_
  refine r_idiv hP d177_86 hz86 ?_
  exact k
theorem b177_87 {d : Nat} {P : xPr} {Q : xQr} {r : Nat} {mem : Nat → Nat → Int32} (hP : Cl d none 177 P Q) {x1 : Int32} {v2 : Value} {v3 : Value} {v4 : Value} {y0 : Int32}
    (k : P 6 [.ref 108, .int x1, .int y0, v3, v4] [] (0, 0) (LAY, RFu r, mem)) : P 87 [.ref 108, .int x1, v2, v3, v4] [.int y0] (0, 0) (LAY, RFu r, mem) := by
  refine r_istore_n (L' := [.ref 108, .int x1, .int y0, v3, v4]) hP d177_87 (Nat.le_of_ble_eq_true rfl) rfl ?_
  refine r_goto (t := 6) hP d177_88 (by decide) ?_
  exact k
theorem b177_91 {d : Nat} {P : xPr} {Q : xQr} {r : Nat} {mem : Nat → Nat → Int32} (hP : Cl d none 177 P Q) {v0 : Value} {v1 : Value} {x2 : Int32} {v3 : Value} {v4 : Value}
    (k : Q (some (.int x2)) (LAY, RFu r, mem)) : P 91 [v0, v1, .int x2, v3, v4] [] (0, 0) (LAY, RFu r, mem) := by
  refine r_iload_n hP d177_91 rfl ?_
  exact r_iret hP d177_92 rfl k
theorem d178_0 : decode (xB 178) 0 = .ok (.aload_n 0, 1) := by decide +kernel
theorem d178_1 : decode (xB 178) 1 = .ok (.bipush 45, 2) := by decide +kernel
theorem d178_3 : decode (xB 178) 3 = .ok (.invokevirtual 179, 3) := by decide +kernel
theorem d178_6 : decode (xB 178) 6 = .ok (.ifCond .eq 10, 3) := by decide +kernel
theorem d178_9 : decode (xB 178) 9 = .ok (.aload_n 0, 1) := by decide +kernel
theorem d178_10 : decode (xB 178) 10 = .ok (.iload_n 1, 1) := by decide +kernel
theorem d178_11 : decode (xB 178) 11 = .ok (.invokevirtual 195, 3) := by decide +kernel
theorem d178_14 : decode (xB 178) 14 = .ok (.ineg, 1) := by decide +kernel
theorem d178_15 : decode (xB 178) 15 = .ok (.ireturn, 1) := by decide +kernel
theorem d178_16 : decode (xB 178) 16 = .ok (.aload_n 0, 1) := by decide +kernel
theorem d178_17 : decode (xB 178) 17 = .ok (.invokevirtual 159, 3) := by decide +kernel
theorem d178_20 : decode (xB 178) 20 = .ok (.ifCond .ne 5, 3) := by decide +kernel
theorem d178_23 : decode (xB 178) 23 = .ok (.iconst 0, 1) := by decide +kernel
theorem d178_24 : decode (xB 178) 24 = .ok (.ireturn, 1) := by decide +kernel
theorem d178_25 : decode (xB 178) 25 = .ok (.aload_n 0, 1) := by decide +kernel
theorem d178_26 : decode (xB 178) 26 = .ok (.invokevirtual 163, 3) := by decide +kernel
theorem d178_29 : decode (xB 178) 29 = .ok (.istore_n 2, 1) := by decide +kernel
theorem d178_30 : decode (xB 178) 30 = .ok (.iload_n 2, 1) := by decide +kernel
theorem d178_31 : decode (xB 178) 31 = .ok (.bipush 40, 2) := by decide +kernel
theorem d178_33 : decode (xB 178) 33 = .ok (.if_icmp .ne 45, 3) := by decide +kernel
theorem d178_36 : decode (xB 178) 36 = .ok (.iload_n 1, 1) := by decide +kernel
theorem d178_37 : decode (xB 178) 37 = .ok (.iconst 4, 1) := by decide +kernel
theorem d178_38 : decode (xB 178) 38 = .ok (.if_icmp .ge 40, 3) := by decide +kernel
theorem d178_41 : decode (xB 178) 41 = .ok (.aload_n 0, 1) := by decide +kernel
theorem d178_42 : decode (xB 178) 42 = .ok (.dup, 1) := by decide +kernel
theorem d178_43 : decode (xB 178) 43 = .ok (.getfield 153, 3) := by decide +kernel
theorem d178_46 : decode (xB 178) 46 = .ok (.iconst 1, 1) := by decide +kernel
theorem d178_47 : decode (xB 178) 47 = .ok (.iadd, 1) := by decide +kernel
theorem d178_48 : decode (xB 178) 48 = .ok (.putfield 153, 3) := by decide +kernel
theorem d178_51 : decode (xB 178) 51 = .ok (.aload_n 0, 1) := by decide +kernel
theorem d178_52 : decode (xB 178) 52 = .ok (.iload_n 1, 1) := by decide +kernel
theorem d178_53 : decode (xB 178) 53 = .ok (.iconst 1, 1) := by decide +kernel
theorem d178_54 : decode (xB 178) 54 = .ok (.iadd, 1) := by decide +kernel
theorem d178_55 : decode (xB 178) 55 = .ok (.invokevirtual 198, 3) := by decide +kernel
theorem d178_58 : decode (xB 178) 58 = .ok (.istore_n 3, 1) := by decide +kernel
theorem d178_59 : decode (xB 178) 59 = .ok (.aload_n 0, 1) := by decide +kernel
theorem d178_60 : decode (xB 178) 60 = .ok (.bipush 41, 2) := by decide +kernel
theorem d178_62 : decode (xB 178) 62 = .ok (.invokevirtual 179, 3) := by decide +kernel
theorem d178_65 : decode (xB 178) 65 = .ok (.ifCond .ne 11, 3) := by decide +kernel
theorem d178_68 : decode (xB 178) 68 = .ok (.aload_n 0, 1) := by decide +kernel
theorem d178_69 : decode (xB 178) 69 = .ok (.aload_n 0, 1) := by decide +kernel
theorem d178_70 : decode (xB 178) 70 = .ok (.getfield 153, 3) := by decide +kernel
theorem d178_73 : decode (xB 178) 73 = .ok (.invokevirtual 167, 3) := by decide +kernel
theorem d178_76 : decode (xB 178) 76 = .ok (.iload_n 3, 1) := by decide +kernel
theorem d178_77 : decode (xB 178) 77 = .ok (.ireturn, 1) := by decide +kernel
theorem d178_78 : decode (xB 178) 78 = .ok (.iload_n 2, 1) := by decide +kernel
theorem d178_79 : decode (xB 178) 79 = .ok (.bipush 48, 2) := by decide +kernel
theorem d178_81 : decode (xB 178) 81 = .ok (.bipush 57, 2) := by decide +kernel
theorem d178_83 : decode (xB 178) 83 = .ok (.invokestatic 130, 3) := by decide +kernel
theorem d178_86 : decode (xB 178) 86 = .ok (.ifCond .eq 9, 3) := by decide +kernel
theorem d178_89 : decode (xB 178) 89 = .ok (.aload_n 0, 1) := by decide +kernel
theorem d178_90 : decode (xB 178) 90 = .ok (.iconst 3, 1) := by decide +kernel
theorem d178_91 : decode (xB 178) 91 = .ok (.invokevirtual 175, 3) := by decide +kernel
theorem d178_94 : decode (xB 178) 94 = .ok (.ireturn, 1) := by decide +kernel
theorem d178_95 : decode (xB 178) 95 = .ok (.iload_n 2, 1) := by decide +kernel
theorem d178_96 : decode (xB 178) 96 = .ok (.bipush 105, 2) := by decide +kernel
theorem d178_98 : decode (xB 178) 98 = .ok (.if_icmp .eq 55, 3) := by decide +kernel
theorem d178_101 : decode (xB 178) 101 = .ok (.iload_n 2, 1) := by decide +kernel
theorem d178_102 : decode (xB 178) 102 = .ok (.bipush 103, 2) := by decide +kernel
theorem d178_104 : decode (xB 178) 104 = .ok (.if_icmp .eq 49, 3) := by decide +kernel
theorem d178_107 : decode (xB 178) 107 = .ok (.iload_n 2, 1) := by decide +kernel
theorem d178_108 : decode (xB 178) 108 = .ok (.bipush 107, 2) := by decide +kernel
theorem d178_110 : decode (xB 178) 110 = .ok (.if_icmp .eq 43, 3) := by decide +kernel
theorem d178_113 : decode (xB 178) 113 = .ok (.iload_n 2, 1) := by decide +kernel
theorem d178_114 : decode (xB 178) 114 = .ok (.bipush 115, 2) := by decide +kernel
theorem d178_116 : decode (xB 178) 116 = .ok (.if_icmp .eq 37, 3) := by decide +kernel
theorem d178_119 : decode (xB 178) 119 = .ok (.iload_n 2, 1) := by decide +kernel
theorem d178_120 : decode (xB 178) 120 = .ok (.bipush 116, 2) := by decide +kernel
theorem d178_122 : decode (xB 178) 122 = .ok (.if_icmp .eq 31, 3) := by decide +kernel
theorem d178_125 : decode (xB 178) 125 = .ok (.iload_n 2, 1) := by decide +kernel
theorem d178_126 : decode (xB 178) 126 = .ok (.bipush 97, 2) := by decide +kernel
theorem d178_128 : decode (xB 178) 128 = .ok (.if_icmp .eq 25, 3) := by decide +kernel
theorem d178_131 : decode (xB 178) 131 = .ok (.iload_n 2, 1) := by decide +kernel
theorem d178_132 : decode (xB 178) 132 = .ok (.bipush 98, 2) := by decide +kernel
theorem d178_134 : decode (xB 178) 134 = .ok (.if_icmp .eq 19, 3) := by decide +kernel
theorem d178_137 : decode (xB 178) 137 = .ok (.iload_n 2, 1) := by decide +kernel
theorem d178_138 : decode (xB 178) 138 = .ok (.bipush 99, 2) := by decide +kernel
theorem d178_140 : decode (xB 178) 140 = .ok (.if_icmp .eq 13, 3) := by decide +kernel
theorem d178_143 : decode (xB 178) 143 = .ok (.aload_n 0, 1) := by decide +kernel
theorem d178_144 : decode (xB 178) 144 = .ok (.aload_n 0, 1) := by decide +kernel
theorem d178_145 : decode (xB 178) 145 = .ok (.getfield 153, 3) := by decide +kernel
theorem d178_148 : decode (xB 178) 148 = .ok (.invokevirtual 167, 3) := by decide +kernel
theorem d178_151 : decode (xB 178) 151 = .ok (.iconst 0, 1) := by decide +kernel
theorem d178_152 : decode (xB 178) 152 = .ok (.ireturn, 1) := by decide +kernel
theorem d178_153 : decode (xB 178) 153 = .ok (.aload_n 0, 1) := by decide +kernel
theorem d178_154 : decode (xB 178) 154 = .ok (.dup, 1) := by decide +kernel
theorem d178_155 : decode (xB 178) 155 = .ok (.getfield 153, 3) := by decide +kernel
theorem d178_158 : decode (xB 178) 158 = .ok (.iconst 1, 1) := by decide +kernel
theorem d178_159 : decode (xB 178) 159 = .ok (.iadd, 1) := by decide +kernel
theorem d178_160 : decode (xB 178) 160 = .ok (.putfield 153, 3) := by decide +kernel
theorem d178_163 : decode (xB 178) 163 = .ok (.aload_n 0, 1) := by decide +kernel
theorem d178_164 : decode (xB 178) 164 = .ok (.getfield 65, 3) := by decide +kernel
theorem d178_167 : decode (xB 178) 167 = .ok (.iconst (-1), 1) := by decide +kernel
theorem d178_168 : decode (xB 178) 168 = .ok (.if_icmp .ne 7, 3) := by decide +kernel
theorem d178_171 : decode (xB 178) 171 = .ok (.iconst 0, 1) := by decide +kernel
theorem d178_172 : decode (xB 178) 172 = .ok (.goto 12, 3) := by decide +kernel
theorem d178_175 : decode (xB 178) 175 = .ok (.aload_n 0, 1) := by decide +kernel
theorem d178_176 : decode (xB 178) 176 = .ok (.iload_n 2, 1) := by decide +kernel
theorem d178_177 : decode (xB 178) 177 = .ok (.aload_n 0, 1) := by decide +kernel
theorem d178_178 : decode (xB 178) 178 = .ok (.getfield 65, 3) := by decide +kernel
theorem d178_181 : decode (xB 178) 181 = .ok (.invokevirtual 201, 3) := by decide +kernel
theorem d178_184 : decode (xB 178) 184 = .ok (.ireturn, 1) := by decide +kernel
theorem b178_0 {d : Nat} {P : xPr} {Q : xQr} {r : Nat} {mem : Nat → Nat → Int32} (hP : Cl d none 178 P Q) {p0 : Int32}
    (k : xCall d 171 [.ref 108, .int (nI 45)] (LAY, RFu r, mem) (Bk P 3 [.ref 108, .int p0, .null, .null] [] (0, 0))) : P 0 [.ref 108, .int p0, .null, .null] [] (0, 0) (LAY, RFu r, mem) := by
  refine r_aload_n hP d178_0 rfl ?_
  refine r_bipush (v := nI 45) hP d178_1 rfl ?_
  exact r_callv (As := [.int (nI 45)]) (S := []) hP d178_3 cr_12_179 (by decide +kernel) rfl (by simp [Value.category]) rfl ly_108 (by simp [Value.category]) ⟨Nat.zero_le _, Nat.zero_le _⟩ k
theorem b178_6 {d : Nat} {P : xPr} {Q : xQr} {r : Nat} {mem : Nat → Nat → Int32} (hP : Cl d none 178 P Q) {x1 : Int32} {v2 : Value} {v3 : Value} {y0 : Int32}
    (kt : y0 = 0 → P 16 [.ref 108, .int x1, v2, v3] [] (0, 0) (LAY, RFu r, mem)) (kf : ¬ y0 = 0 → P 9 [.ref 108, .int x1, v2, v3] [] (0, 0) (LAY, RFu r, mem)) : P 6 [.ref 108, .int x1, v2, v3] [.int y0] (0, 0) (LAY, RFu r, mem) := by
  exact r_if (t := 16) hP d178_6 (by decide) kt kf
theorem b178_9 {d : Nat} {P : xPr} {Q : xQr} {r : Nat} {mem : Nat → Nat → Int32} (hP : Cl d none 178 P Q) {x1 : Int32} {v2 : Value} {v3 : Value}
    (k : xCall d 178 [.ref 108, .int x1] (LAY, RFu r, mem) (Bk P 11 [.ref 108, .int x1, v2, v3] [] (0, 0))) : P 9 [.ref 108, .int x1, v2, v3] [] (0, 0) (LAY, RFu r, mem) := by
  refine r_aload_n hP d178_9 rfl ?_
  refine r_iload_n hP d178_10 rfl ?_
  exact r_callv (As := [.int x1]) (S := []) hP d178_11 cr_12_195 (by decide +kernel) rfl (by simp [Value.category]) rfl ly_108 (by simp [Value.category]) ⟨Nat.zero_le _, Nat.zero_le _⟩ k
theorem b178_14 {d : Nat} {P : xPr} {Q : xQr} {r : Nat} {mem : Nat → Nat → Int32} (hP : Cl d none 178 P Q) {v0 : Value} {v1 : Value} {v2 : Value} {v3 : Value} {y0 : Int32}
    (k : Q (some (.int (-y0))) (LAY, RFu r, mem)) : P 14 [v0, v1, v2, v3] [.int y0] (0, 0) (LAY, RFu r, mem) := by
  refine r_ineg hP d178_14 ?_
  exact r_iret hP d178_15 rfl k
theorem b178_16 {d : Nat} {P : xPr} {Q : xQr} {r : Nat} {mem : Nat → Nat → Int32} (hP : Cl d none 178 P Q) {x1 : Int32} {v2 : Value} {v3 : Value}
    (k : xCall d 169 [.ref 108] (LAY, RFu r, mem) (Bk P 17 [.ref 108, .int x1, v2, v3] [] (0, 0))) : P 16 [.ref 108, .int x1, v2, v3] [] (0, 0) (LAY, RFu r, mem) := by
  refine r_aload_n hP d178_16 rfl ?_
  exact r_callv (As := []) (S := []) hP d178_17 cr_12_159 (by decide +kernel) rfl (by simp) rfl ly_108 (by simp [Value.category]) ⟨Nat.zero_le _, Nat.zero_le _⟩ k
theorem b178_20 {d : Nat} {P : xPr} {Q : xQr} {r : Nat} {mem : Nat → Nat → Int32} (hP : Cl d none 178 P Q) {x1 : Int32} {v2 : Value} {v3 : Value} {y0 : Int32}
    (kt : ¬ y0 = 0 → P 25 [.ref 108, .int x1, v2, v3] [] (0, 0) (LAY, RFu r, mem)) (kf : y0 = 0 → P 23 [.ref 108, .int x1, v2, v3] [] (0, 0) (LAY, RFu r, mem)) : P 20 [.ref 108, .int x1, v2, v3] [.int y0] (0, 0) (LAY, RFu r, mem) := by
  exact r_if (t := 25) hP d178_20 (by decide) kt (fun q => kf (Decidable.of_not_not q))
theorem b178_23 {d : Nat} {P : xPr} {Q : xQr} {r : Nat} {mem : Nat → Nat → Int32} (hP : Cl d none 178 P Q) {v0 : Value} {v1 : Value} {v2 : Value} {v3 : Value}
    (k : Q (some (.int (nI 0))) (LAY, RFu r, mem)) : P 23 [v0, v1, v2, v3] [] (0, 0) (LAY, RFu r, mem) := by
  refine r_iconst (v := nI 0) hP d178_23 rfl ?_
  exact r_iret hP d178_24 rfl k
theorem b178_25 {d : Nat} {P : xPr} {Q : xQr} {r : Nat} {mem : Nat → Nat → Int32} (hP : Cl d none 178 P Q) {x1 : Int32} {v2 : Value} {v3 : Value}
    (k : xCall d 168 [.ref 108] (LAY, RFu r, mem) (Bk P 26 [.ref 108, .int x1, v2, v3] [] (0, 0))) : P 25 [.ref 108, .int x1, v2, v3] [] (0, 0) (LAY, RFu r, mem) := by
  refine r_aload_n hP d178_25 rfl ?_
  exact r_callv (As := []) (S := []) hP d178_26 cr_12_163 (by decide +kernel) rfl (by simp) rfl ly_108 (by simp [Value.category]) ⟨Nat.zero_le _, Nat.zero_le _⟩ k
theorem b178_29 {d : Nat} {P : xPr} {Q : xQr} {r : Nat} {mem : Nat → Nat → Int32} (hP : Cl d none 178 P Q) {x1 : Int32} {v2 : Value} {v3 : Value} {y0 : Int32}
    (kt : ¬ y0 = (nI 40) → P 78 [.ref 108, .int x1, .int y0, v3] [] (0, 0) (LAY, RFu r, mem)) (kf : y0 = (nI 40) → P 36 [.ref 108, .int x1, .int y0, v3] [] (0, 0) (LAY, RFu r, mem)) : P 29 [.ref 108, .int x1, v2, v3] [.int y0] (0, 0) (LAY, RFu r, mem) := by
  refine r_istore_n (L' := [.ref 108, .int x1, .int y0, v3]) hP d178_29 (Nat.le_of_ble_eq_true rfl) rfl ?_
  refine r_iload_n hP d178_30 rfl ?_
  refine r_bipush (v := nI 40) hP d178_31 rfl ?_
  exact r_icmp (t := 78) hP d178_33 (by decide) kt (fun q => kf (Decidable.of_not_not q))
theorem b178_36 {d : Nat} {P : xPr} {Q : xQr} {r : Nat} {mem : Nat → Nat → Int32} (hP : Cl d none 178 P Q) {x1 : Int32} {x2 : Int32} {v3 : Value}
    (kt : (nI 4) ≤ x1 → P 78 [.ref 108, .int x1, .int x2, v3] [] (0, 0) (LAY, RFu r, mem)) (kf : ¬ (nI 4) ≤ x1 → P 41 [.ref 108, .int x1, .int x2, v3] [] (0, 0) (LAY, RFu r, mem)) : P 36 [.ref 108, .int x1, .int x2, v3] [] (0, 0) (LAY, RFu r, mem) := by
  refine r_iload_n hP d178_36 rfl ?_
  refine r_iconst (v := nI 4) hP d178_37 rfl ?_
  exact r_icmp (t := 78) hP d178_38 (by decide) kt kf
theorem b178_41 {d : Nat} {P : xPr} {Q : xQr} {r : Nat} {mem : Nat → Nat → Int32} (hP : Cl d none 178 P Q) {x1 : Int32} {v2 : Value} {v3 : Value}
    (k : xCall d 175 [.ref 108, .int (x1 + (nI 1))] (LAY, RFu r, xu2 mem 108 24 ((mem 108 24) + (nI 1))) (Bk P 55 [.ref 108, .int x1, v2, v3] [] (0, 0))) : P 41 [.ref 108, .int x1, v2, v3] [] (0, 0) (LAY, RFu r, mem) := by
  refine r_aload_n hP d178_41 rfl ?_
  refine r_dup hP d178_42 rfl ?_
  refine r_geti hP d178_43 fr_12_153 rfl ly_108 ?_
  refine r_iconst (v := nI 1) hP d178_46 rfl ?_
  refine r_iadd hP d178_47 ?_
  refine r_puti hP d178_48 fr_12_153 rfl (fun q => by cases q) ly_108 ?_
  refine r_aload_n hP d178_51 rfl ?_
  refine r_iload_n hP d178_52 rfl ?_
  refine r_iconst (v := nI 1) hP d178_53 rfl ?_
  refine r_iadd hP d178_54 ?_
  exact r_callv (As := [.int (x1 + (nI 1))]) (S := []) hP d178_55 cr_12_198 (by decide +kernel) rfl (by simp [Value.category]) rfl ly_108 (by simp [Value.category]) ⟨Nat.zero_le _, Nat.zero_le _⟩ k
theorem b178_58 {d : Nat} {P : xPr} {Q : xQr} {r : Nat} {mem : Nat → Nat → Int32} (hP : Cl d none 178 P Q) {v1 : Value} {v2 : Value} {v3 : Value} {y0 : Int32}
    (k : xCall d 171 [.ref 108, .int (nI 41)] (LAY, RFu r, mem) (Bk P 62 [.ref 108, v1, v2, .int y0] [] (0, 0))) : P 58 [.ref 108, v1, v2, v3] [.int y0] (0, 0) (LAY, RFu r, mem) := by
  refine r_istore_n (L' := [.ref 108, v1, v2, .int y0]) hP d178_58 (Nat.le_of_ble_eq_true rfl) rfl ?_
  refine r_aload_n hP d178_59 rfl ?_
  refine r_bipush (v := nI 41) hP d178_60 rfl ?_
  exact r_callv (As := [.int (nI 41)]) (S := []) hP d178_62 cr_12_179 (by decide +kernel) rfl (by simp [Value.category]) rfl ly_108 (by simp [Value.category]) ⟨Nat.zero_le _, Nat.zero_le _⟩ k
theorem b178_65 {d : Nat} {P : xPr} {Q : xQr} {r : Nat} {mem : Nat → Nat → Int32} (hP : Cl d none 178 P Q) {v1 : Value} {v2 : Value} {x3 : Int32} {y0 : Int32}
    (kt : ¬ y0 = 0 → P 76 [.ref 108, v1, v2, .int x3] [] (0, 0) (LAY, RFu r, mem)) (kf : y0 = 0 → P 68 [.ref 108, v1, v2, .int x3] [] (0, 0) (LAY, RFu r, mem)) : P 65 [.ref 108, v1, v2, .int x3] [.int y0] (0, 0) (LAY, RFu r, mem) := by
  exact r_if (t := 76) hP d178_65 (by decide) kt (fun q => kf (Decidable.of_not_not q))
theorem b178_68 {d : Nat} {P : xPr} {Q : xQr} {r : Nat} {mem : Nat → Nat → Int32} (hP : Cl d none 178 P Q) {v1 : Value} {v2 : Value} {x3 : Int32}
    (k : xCall d 170 [.ref 108, .int (mem 108 24)] (LAY, RFu r, mem) (Bk P 73 [.ref 108, v1, v2, .int x3] [] (0, 0))) : P 68 [.ref 108, v1, v2, .int x3] [] (0, 0) (LAY, RFu r, mem) := by
  refine r_aload_n hP d178_68 rfl ?_
  refine r_aload_n hP d178_69 rfl ?_
  refine r_geti hP d178_70 fr_12_153 rfl ly_108 ?_
  exact r_callv (As := [.int (mem 108 24)]) (S := []) hP d178_73 cr_12_167 (by decide +kernel) rfl (by simp [Value.category]) rfl ly_108 (by simp [Value.category]) ⟨Nat.zero_le _, Nat.zero_le _⟩ k
theorem b178_76 {d : Nat} {P : xPr} {Q : xQr} {r : Nat} {mem : Nat → Nat → Int32} (hP : Cl d none 178 P Q) {v0 : Value} {v1 : Value} {v2 : Value} {x3 : Int32}
    (k : Q (some (.int x3)) (LAY, RFu r, mem)) : P 76 [v0, v1, v2, .int x3] [] (0, 0) (LAY, RFu r, mem) := by
  refine r_iload_n hP d178_76 rfl ?_
  exact r_iret hP d178_77 rfl k
theorem b178_78 {d : Nat} {P : xPr} {Q : xQr} {r : Nat} {mem : Nat → Nat → Int32} (hP : Cl d none 178 P Q) {v1 : Value} {x2 : Int32} {v3 : Value}
    (k : xCall d 158 [.int x2, .int (nI 48), .int (nI 57)] (LAY, RFu r, mem) (Bk P 83 [.ref 108, v1, .int x2, v3] [] (0, 0))) : P 78 [.ref 108, v1, .int x2, v3] [] (0, 0) (LAY, RFu r, mem) := by
  refine r_iload_n hP d178_78 rfl ?_
  refine r_bipush (v := nI 48) hP d178_79 rfl ?_
  refine r_bipush (v := nI 57) hP d178_81 rfl ?_
  exact r_calls (As := [.int x2, .int (nI 48), .int (nI 57)]) (S := []) hP d178_83 cr_12_130 (by decide +kernel) rfl (by simp [Value.category]) rfl (by simp [Value.category]) ⟨Nat.zero_le _, Nat.zero_le _⟩ k
theorem b178_86 {d : Nat} {P : xPr} {Q : xQr} {r : Nat} {mem : Nat → Nat → Int32} (hP : Cl d none 178 P Q) {v1 : Value} {x2 : Int32} {v3 : Value} {y0 : Int32}
    (kt : y0 = 0 → P 95 [.ref 108, v1, .int x2, v3] [] (0, 0) (LAY, RFu r, mem)) (kf : ¬ y0 = 0 → P 89 [.ref 108, v1, .int x2, v3] [] (0, 0) (LAY, RFu r, mem)) : P 86 [.ref 108, v1, .int x2, v3] [.int y0] (0, 0) (LAY, RFu r, mem) := by
  exact r_if (t := 95) hP d178_86 (by decide) kt kf
theorem b178_89 {d : Nat} {P : xPr} {Q : xQr} {r : Nat} {mem : Nat → Nat → Int32} (hP : Cl d none 178 P Q) {v1 : Value} {v2 : Value} {v3 : Value}
    (k : xCall d 172 [.ref 108, .int (nI 3)] (LAY, RFu r, mem) (Bk P 91 [.ref 108, v1, v2, v3] [] (0, 0))) : P 89 [.ref 108, v1, v2, v3] [] (0, 0) (LAY, RFu r, mem) := by
  refine r_aload_n hP d178_89 rfl ?_
  refine r_iconst (v := nI 3) hP d178_90 rfl ?_
  exact r_callv (As := [.int (nI 3)]) (S := []) hP d178_91 cr_12_175 (by decide +kernel) rfl (by simp [Value.category]) rfl ly_108 (by simp [Value.category]) ⟨Nat.zero_le _, Nat.zero_le _⟩ k
theorem b178_94 {d : Nat} {P : xPr} {Q : xQr} {r : Nat} {mem : Nat → Nat → Int32} (hP : Cl d none 178 P Q) {v0 : Value} {v1 : Value} {v2 : Value} {v3 : Value} {y0 : Int32}
    (k : Q (some (.int y0)) (LAY, RFu r, mem)) : P 94 [v0, v1, v2, v3] [.int y0] (0, 0) (LAY, RFu r, mem) := by
  exact r_iret hP d178_94 rfl k
theorem b178_95 {d : Nat} {P : xPr} {Q : xQr} {r : Nat} {mem : Nat → Nat → Int32} (hP : Cl d none 178 P Q) {v1 : Value} {x2 : Int32} {v3 : Value}
    (kt : x2 = (nI 105) → P 153 [.ref 108, v1, .int x2, v3] [] (0, 0) (LAY, RFu r, mem)) (kf : ¬ x2 = (nI 105) → P 101 [.ref 108, v1, .int x2, v3] [] (0, 0) (LAY, RFu r, mem)) : P 95 [.ref 108, v1, .int x2, v3] [] (0, 0) (LAY, RFu r, mem) := by
  refine r_iload_n hP d178_95 rfl ?_
  refine r_bipush (v := nI 105) hP d178_96 rfl ?_
  exact r_icmp (t := 153) hP d178_98 (by decide) kt kf
theorem b178_101 {d : Nat} {P : xPr} {Q : xQr} {r : Nat} {mem : Nat → Nat → Int32} (hP : Cl d none 178 P Q) {v1 : Value} {x2 : Int32} {v3 : Value}
    (kt : x2 = (nI 103) → P 153 [.ref 108, v1, .int x2, v3] [] (0, 0) (LAY, RFu r, mem)) (kf : ¬ x2 = (nI 103) → P 107 [.ref 108, v1, .int x2, v3] [] (0, 0) (LAY, RFu r, mem)) : P 101 [.ref 108, v1, .int x2, v3] [] (0, 0) (LAY, RFu r, mem) := by
  refine r_iload_n hP d178_101 rfl ?_
  refine r_bipush (v := nI 103) hP d178_102 rfl ?_
  exact r_icmp (t := 153) hP d178_104 (by decide) kt kf
theorem b178_107 {d : Nat} {P : xPr} {Q : xQr} {r : Nat} {mem : Nat → Nat → Int32} (hP : Cl d none 178 P Q) {v1 : Value} {x2 : Int32} {v3 : Value}
    (kt : x2 = (nI 107) → P 153 [.ref 108, v1, .int x2, v3] [] (0, 0) (LAY, RFu r, mem)) (kf : ¬ x2 = (nI 107) → P 113 [.ref 108, v1, .int x2, v3] [] (0, 0) (LAY, RFu r, mem)) : P 107 [.ref 108, v1, .int x2, v3] [] (0, 0) (LAY, RFu r, mem) := by
  refine r_iload_n hP d178_107 rfl ?_
  refine r_bipush (v := nI 107) hP d178_108 rfl ?_
  exact r_icmp (t := 153) hP d178_110 (by decide) kt kf
theorem b178_113 {d : Nat} {P : xPr} {Q : xQr} {r : Nat} {mem : Nat → Nat → Int32} (hP : Cl d none 178 P Q) {v1 : Value} {x2 : Int32} {v3 : Value}
    (kt : x2 = (nI 115) → P 153 [.ref 108, v1, .int x2, v3] [] (0, 0) (LAY, RFu r, mem)) (kf : ¬ x2 = (nI 115) → P 119 [.ref 108, v1, .int x2, v3] [] (0, 0) (LAY, RFu r, mem)) : P 113 [.ref 108, v1, .int x2, v3] [] (0, 0) (LAY, RFu r, mem) := by
  refine r_iload_n hP d178_113 rfl ?_
  refine r_bipush (v := nI 115) hP d178_114 rfl ?_
  exact r_icmp (t := 153) hP d178_116 (by decide) kt kf
theorem b178_119 {d : Nat} {P : xPr} {Q : xQr} {r : Nat} {mem : Nat → Nat → Int32} (hP : Cl d none 178 P Q) {v1 : Value} {x2 : Int32} {v3 : Value}
    (kt : x2 = (nI 116) → P 153 [.ref 108, v1, .int x2, v3] [] (0, 0) (LAY, RFu r, mem)) (kf : ¬ x2 = (nI 116) → P 125 [.ref 108, v1, .int x2, v3] [] (0, 0) (LAY, RFu r, mem)) : P 119 [.ref 108, v1, .int x2, v3] [] (0, 0) (LAY, RFu r, mem) := by
  refine r_iload_n hP d178_119 rfl ?_
  refine r_bipush (v := nI 116) hP d178_120 rfl ?_
  exact r_icmp (t := 153) hP d178_122 (by decide) kt kf
theorem b178_125 {d : Nat} {P : xPr} {Q : xQr} {r : Nat} {mem : Nat → Nat → Int32} (hP : Cl d none 178 P Q) {v1 : Value} {x2 : Int32} {v3 : Value}
    (kt : x2 = (nI 97) → P 153 [.ref 108, v1, .int x2, v3] [] (0, 0) (LAY, RFu r, mem)) (kf : ¬ x2 = (nI 97) → P 131 [.ref 108, v1, .int x2, v3] [] (0, 0) (LAY, RFu r, mem)) : P 125 [.ref 108, v1, .int x2, v3] [] (0, 0) (LAY, RFu r, mem) := by
  refine r_iload_n hP d178_125 rfl ?_
  refine r_bipush (v := nI 97) hP d178_126 rfl ?_
  exact r_icmp (t := 153) hP d178_128 (by decide) kt kf
theorem b178_131 {d : Nat} {P : xPr} {Q : xQr} {r : Nat} {mem : Nat → Nat → Int32} (hP : Cl d none 178 P Q) {v1 : Value} {x2 : Int32} {v3 : Value}
    (kt : x2 = (nI 98) → P 153 [.ref 108, v1, .int x2, v3] [] (0, 0) (LAY, RFu r, mem)) (kf : ¬ x2 = (nI 98) → P 137 [.ref 108, v1, .int x2, v3] [] (0, 0) (LAY, RFu r, mem)) : P 131 [.ref 108, v1, .int x2, v3] [] (0, 0) (LAY, RFu r, mem) := by
  refine r_iload_n hP d178_131 rfl ?_
  refine r_bipush (v := nI 98) hP d178_132 rfl ?_
  exact r_icmp (t := 153) hP d178_134 (by decide) kt kf
theorem b178_137 {d : Nat} {P : xPr} {Q : xQr} {r : Nat} {mem : Nat → Nat → Int32} (hP : Cl d none 178 P Q) {v1 : Value} {x2 : Int32} {v3 : Value}
    (kt : x2 = (nI 99) → P 153 [.ref 108, v1, .int x2, v3] [] (0, 0) (LAY, RFu r, mem)) (kf : ¬ x2 = (nI 99) → P 143 [.ref 108, v1, .int x2, v3] [] (0, 0) (LAY, RFu r, mem)) : P 137 [.ref 108, v1, .int x2, v3] [] (0, 0) (LAY, RFu r, mem) := by
  refine r_iload_n hP d178_137 rfl ?_
  refine r_bipush (v := nI 99) hP d178_138 rfl ?_
  exact r_icmp (t := 153) hP d178_140 (by decide) kt kf
theorem b178_143 {d : Nat} {P : xPr} {Q : xQr} {r : Nat} {mem : Nat → Nat → Int32} (hP : Cl d none 178 P Q) {v1 : Value} {v2 : Value} {v3 : Value}
    (k : xCall d 170 [.ref 108, .int (mem 108 24)] (LAY, RFu r, mem) (Bk P 148 [.ref 108, v1, v2, v3] [] (0, 0))) : P 143 [.ref 108, v1, v2, v3] [] (0, 0) (LAY, RFu r, mem) := by
  refine r_aload_n hP d178_143 rfl ?_
  refine r_aload_n hP d178_144 rfl ?_
  refine r_geti hP d178_145 fr_12_153 rfl ly_108 ?_
  exact r_callv (As := [.int (mem 108 24)]) (S := []) hP d178_148 cr_12_167 (by decide +kernel) rfl (by simp [Value.category]) rfl ly_108 (by simp [Value.category]) ⟨Nat.zero_le _, Nat.zero_le _⟩ k
theorem b178_151 {d : Nat} {P : xPr} {Q : xQr} {r : Nat} {mem : Nat → Nat → Int32} (hP : Cl d none 178 P Q) {v0 : Value} {v1 : Value} {v2 : Value} {v3 : Value}
    (k : Q (some (.int (nI 0))) (LAY, RFu r, mem)) : P 151 [v0, v1, v2, v3] [] (0, 0) (LAY, RFu r, mem) := by
  refine r_iconst (v := nI 0) hP d178_151 rfl ?_
  exact r_iret hP d178_152 rfl k
theorem b178_153 {d : Nat} {P : xPr} {Q : xQr} {r : Nat} {mem : Nat → Nat → Int32} (hP : Cl d none 178 P Q) {v1 : Value} {x2 : Int32} {v3 : Value}
    (kt : ¬ ((xu2 mem 108 24 ((mem 108 24) + (nI 1))) 108 28) = (-1) → P 175 [.ref 108, v1, .int x2, v3] [] (0, 0) (LAY, RFu r, xu2 mem 108 24 ((mem 108 24) + (nI 1)))) (kf : ((xu2 mem 108 24 ((mem 108 24) + (nI 1))) 108 28) = (-1) → P 171 [.ref 108, v1, .int x2, v3] [] (0, 0) (LAY, RFu r, xu2 mem 108 24 ((mem 108 24) + (nI 1)))) : P 153 [.ref 108, v1, .int x2, v3] [] (0, 0) (LAY, RFu r, mem) := by
  refine r_aload_n hP d178_153 rfl ?_
  refine r_dup hP d178_154 rfl ?_
  refine r_geti hP d178_155 fr_12_153 rfl ly_108 ?_
  refine r_iconst (v := nI 1) hP d178_158 rfl ?_
  refine r_iadd hP d178_159 ?_
  refine r_puti hP d178_160 fr_12_153 rfl (fun q => by cases q) ly_108 ?_
  refine r_aload_n hP d178_163 rfl ?_
  refine r_geti hP d178_164 fr_12_65 rfl ly_108 ?_
  refine r_iconst (v := (-1)) hP d178_167 rfl ?_
  exact r_icmp (t := 175) hP d178_168 (by decide) kt (fun q => kf (Decidable.of_not_not q))
theorem b178_171 {d : Nat} {P : xPr} {Q : xQr} {r : Nat} {mem : Nat → Nat → Int32} (hP : Cl d none 178 P Q) {v0 : Value} {v1 : Value} {v2 : Value} {v3 : Value}
    (k : P 184 [v0, v1, v2, v3] [.int (nI 0)] (0, 0) (LAY, RFu r, mem)) : P 171 [v0, v1, v2, v3] [] (0, 0) (LAY, RFu r, mem) := by
  refine r_iconst (v := nI 0) hP d178_171 rfl ?_
  refine r_goto (t := 184) hP d178_172 (by decide) ?_
  exact k
theorem b178_175 {d : Nat} {P : xPr} {Q : xQr} {r : Nat} {mem : Nat → Nat → Int32} (hP : Cl d none 178 P Q) {v1 : Value} {x2 : Int32} {v3 : Value}
    (k : xCall d 179 [.ref 108, .int x2, .int (mem 108 28)] (LAY, RFu r, mem) (Bk P 181 [.ref 108, v1, .int x2, v3] [] (0, 0))) : P 175 [.ref 108, v1, .int x2, v3] [] (0, 0) (LAY, RFu r, mem) := by
  refine r_aload_n hP d178_175 rfl ?_
  refine r_iload_n hP d178_176 rfl ?_
  refine r_aload_n hP d178_177 rfl ?_
  refine r_geti hP d178_178 fr_12_65 rfl ly_108 ?_
  exact r_callv (As := [.int x2, .int (mem 108 28)]) (S := []) hP d178_181 cr_12_201 (by decide +kernel) rfl (by simp [Value.category]) rfl ly_108 (by simp [Value.category]) ⟨Nat.zero_le _, Nat.zero_le _⟩ k
theorem b178_184 {d : Nat} {P : xPr} {Q : xQr} {r : Nat} {mem : Nat → Nat → Int32} (hP : Cl d none 178 P Q) {v0 : Value} {v1 : Value} {v2 : Value} {v3 : Value} {y0 : Int32}
    (k : Q (some (.int y0)) (LAY, RFu r, mem)) : P 184 [v0, v1, v2, v3] [.int y0] (0, 0) (LAY, RFu r, mem) := by
  exact r_iret hP d178_184 rfl k
theorem d179_0 : decode (xB 179) 0 = .ok (.iload_n 1, 1) := by decide +kernel
theorem d179_1 : decode (xB 179) 1 = .ok (.tableswitch 147 97 116 #[133, 140, 147, 147, 147, 147, 97, 147, 95, 147, 104, 147, 147, 147, 147, 147, 147, 147, 119, 126], 95) := by decide +kernel
theorem d179_96 : decode (xB 179) 96 = .ok (.iload_n 2, 1) := by decide +kernel
theorem d179_97 : decode (xB 179) 97 = .ok (.ireturn, 1) := by decide +kernel
theorem d179_98 : decode (xB 179) 98 = .ok (.aload_n 0, 1) := by decide +kernel
theorem d179_99 : decode (xB 179) 99 = .ok (.getfield 13, 3) := by decide +kernel
theorem d179_102 : decode (xB 179) 102 = .ok (.iload_n 2, 1) := by decide +kernel
theorem d179_103 : decode (xB 179) 103 = .ok (.iaload, 1) := by decide +kernel
theorem d179_104 : decode (xB 179) 104 = .ok (.ireturn, 1) := by decide +kernel
theorem d179_105 : decode (xB 179) 105 = .ok (.aload_n 0, 1) := by decide +kernel
theorem d179_106 : decode (xB 179) 106 = .ok (.getfield 16, 3) := by decide +kernel
theorem d179_109 : decode (xB 179) 109 = .ok (.iload_n 2, 1) := by decide +kernel
theorem d179_110 : decode (xB 179) 110 = .ok (.baload, 1) := by decide +kernel
theorem d179_111 : decode (xB 179) 111 = .ok (.ifCond .eq 7, 3) := by decide +kernel
theorem d179_114 : decode (xB 179) 114 = .ok (.iconst 1, 1) := by decide +kernel
theorem d179_115 : decode (xB 179) 115 = .ok (.goto 4, 3) := by decide +kernel
theorem d179_118 : decode (xB 179) 118 = .ok (.iconst 0, 1) := by decide +kernel
theorem d179_119 : decode (xB 179) 119 = .ok (.ireturn, 1) := by decide +kernel
theorem d179_120 : decode (xB 179) 120 = .ok (.aload_n 0, 1) := by decide +kernel
theorem d179_121 : decode (xB 179) 121 = .ok (.getfield 32, 3) := by decide +kernel
theorem d179_124 : decode (xB 179) 124 = .ok (.iload_n 2, 1) := by decide +kernel
theorem d179_125 : decode (xB 179) 125 = .ok (.iaload, 1) := by decide +kernel
theorem d179_126 : decode (xB 179) 126 = .ok (.ireturn, 1) := by decide +kernel
theorem d179_127 : decode (xB 179) 127 = .ok (.aload_n 0, 1) := by decide +kernel
theorem d179_128 : decode (xB 179) 128 = .ok (.getfield 35, 3) := by decide +kernel
theorem d179_131 : decode (xB 179) 131 = .ok (.iload_n 2, 1) := by decide +kernel
theorem d179_132 : decode (xB 179) 132 = .ok (.iaload, 1) := by decide +kernel
theorem d179_133 : decode (xB 179) 133 = .ok (.ireturn, 1) := by decide +kernel
theorem d179_134 : decode (xB 179) 134 = .ok (.aload_n 0, 1) := by decide +kernel
theorem d179_135 : decode (xB 179) 135 = .ok (.getfield 38, 3) := by decide +kernel
theorem d179_138 : decode (xB 179) 138 = .ok (.iload_n 2, 1) := by decide +kernel
theorem d179_139 : decode (xB 179) 139 = .ok (.iaload, 1) := by decide +kernel
theorem d179_140 : decode (xB 179) 140 = .ok (.ireturn, 1) := by decide +kernel
theorem d179_141 : decode (xB 179) 141 = .ok (.aload_n 0, 1) := by decide +kernel
theorem d179_142 : decode (xB 179) 142 = .ok (.getfield 41, 3) := by decide +kernel
theorem d179_145 : decode (xB 179) 145 = .ok (.iload_n 2, 1) := by decide +kernel
theorem d179_146 : decode (xB 179) 146 = .ok (.iaload, 1) := by decide +kernel
theorem d179_147 : decode (xB 179) 147 = .ok (.ireturn, 1) := by decide +kernel
theorem d179_148 : decode (xB 179) 148 = .ok (.aload_n 0, 1) := by decide +kernel
theorem d179_149 : decode (xB 179) 149 = .ok (.getfield 44, 3) := by decide +kernel
theorem d179_152 : decode (xB 179) 152 = .ok (.iload_n 2, 1) := by decide +kernel
theorem d179_153 : decode (xB 179) 153 = .ok (.iaload, 1) := by decide +kernel
theorem d179_154 : decode (xB 179) 154 = .ok (.ireturn, 1) := by decide +kernel
theorem b179_0 {d : Nat} {P : xPr} {Q : xQr} {r : Nat} {mem : Nat → Nat → Int32} (hP : Cl d none 179 P Q) {p0 : Int32} {p1 : Int32}
    (kd : (p0.toInt < 97 ∨ 116 < p0.toInt) → P 148 [.ref 108, .int p0, .int p1] [] (0, 0) (LAY, RFu r, mem)) (k0 : p0.toInt = 97 → P 134 [.ref 108, .int p0, .int p1] [] (0, 0) (LAY, RFu r, mem)) (k1 : p0.toInt = 98 → P 141 [.ref 108, .int p0, .int p1] [] (0, 0) (LAY, RFu r, mem)) (k2 : p0.toInt = 99 → P 148 [.ref 108, .int p0, .int p1] [] (0, 0) (LAY, RFu r, mem)) (k3 : p0.toInt = 100 → P 148 [.ref 108, .int p0, .int p1] [] (0, 0) (LAY, RFu r, mem)) (k4 : p0.toInt = 101 → P 148 [.ref 108, .int p0, .int p1] [] (0, 0) (LAY, RFu r, mem)) (k5 : p0.toInt = 102 → P 148 [.ref 108, .int p0, .int p1] [] (0, 0) (LAY, RFu r, mem)) (k6 : p0.toInt = 103 → P 98 [.ref 108, .int p0, .int p1] [] (0, 0) (LAY, RFu r, mem)) (k7 : p0.toInt = 104 → P 148 [.ref 108, .int p0, .int p1] [] (0, 0) (LAY, RFu r, mem)) (k8 : p0.toInt = 105 → P 96 [.ref 108, .int p0, .int p1] [] (0, 0) (LAY, RFu r, mem)) (k9 : p0.toInt = 106 → P 148 [.ref 108, .int p0, .int p1] [] (0, 0) (LAY, RFu r, mem)) (k10 : p0.toInt = 107 → P 105 [.ref 108, .int p0, .int p1] [] (0, 0) (LAY, RFu r, mem)) (k11 : p0.toInt = 108 → P 148 [.ref 108, .int p0, .int p1] [] (0, 0) (LAY, RFu r, mem)) (k12 : p0.toInt = 109 → P 148 [.ref 108, .int p0, .int p1] [] (0, 0) (LAY, RFu r, mem)) (k13 : p0.toInt = 110 → P 148 [.ref 108, .int p0, .int p1] [] (0, 0) (LAY, RFu r, mem)) (k14 : p0.toInt = 111 → P 148 [.ref 108, .int p0, .int p1] [] (0, 0) (LAY, RFu r, mem)) (k15 : p0.toInt = 112 → P 148 [.ref 108, .int p0, .int p1] [] (0, 0) (LAY, RFu r, mem)) (k16 : p0.toInt = 113 → P 148 [.ref 108, .int p0, .int p1] [] (0, 0) (LAY, RFu r, mem)) (k17 : p0.toInt = 114 → P 148 [.ref 108, .int p0, .int p1] [] (0, 0) (LAY, RFu r, mem)) (k18 : p0.toInt = 115 → P 120 [.ref 108, .int p0, .int p1] [] (0, 0) (LAY, RFu r, mem)) (k19 : p0.toInt = 116 → P 127 [.ref 108, .int p0, .int p1] [] (0, 0) (LAY, RFu r, mem)) : P 0 [.ref 108, .int p0, .int p1] [] (0, 0) (LAY, RFu r, mem) := by
  refine r_iload_n hP d179_0 rfl ?_
  refine r_table (t := 148) hP d179_1 (by decide) (by decide) kd (fun h1 h2 off ho => ?_)
  have hc : p0.toInt = 97 ∨ p0.toInt = 98 ∨ p0.toInt = 99 ∨ p0.toInt = 100 ∨ p0.toInt = 101 ∨ p0.toInt = 102 ∨ p0.toInt = 103 ∨ p0.toInt = 104 ∨ p0.toInt = 105 ∨ p0.toInt = 106 ∨ p0.toInt = 107 ∨ p0.toInt = 108 ∨ p0.toInt = 109 ∨ p0.toInt = 110 ∨ p0.toInt = 111 ∨ p0.toInt = 112 ∨ p0.toInt = 113 ∨ p0.toInt = 114 ∨ p0.toInt = 115 ∨ p0.toInt = 116 := by omega
  rcases hc with hc | hc | hc | hc | hc | hc | hc | hc | hc | hc | hc | hc | hc | hc | hc | hc | hc | hc | hc | hc
  · rw [hc] at ho; cases ho; exact ⟨134, by decide, k0 hc⟩
  · rw [hc] at ho; cases ho; exact ⟨141, by decide, k1 hc⟩
  · rw [hc] at ho; cases ho; exact ⟨148, by decide, k2 hc⟩
  · rw [hc] at ho; cases ho; exact ⟨148, by decide, k3 hc⟩
  · rw [hc] at ho; cases ho; exact ⟨148, by decide, k4 hc⟩
  · rw [hc] at ho; cases ho; exact ⟨148, by decide, k5 hc⟩
  · rw [hc] at ho; cases ho; exact ⟨98, by decide, k6 hc⟩
  · rw [hc] at ho; cases ho; exact ⟨148, by decide, k7 hc⟩
  · rw [hc] at ho; cases ho; exact ⟨96, by decide, k8 hc⟩
  · rw [hc] at ho; cases ho; exact ⟨148, by decide, k9 hc⟩
  · rw [hc] at ho; cases ho; exact ⟨105, by decide, k10 hc⟩
  · rw [hc] at ho; cases ho; exact ⟨148, by decide, k11 hc⟩
  · rw [hc] at ho; cases ho; exact ⟨148, by decide, k12 hc⟩
  · rw [hc] at ho; cases ho; exact ⟨148, by decide, k13 hc⟩
  · rw [hc] at ho; cases ho; exact ⟨148, by decide, k14 hc⟩
  · rw [hc] at ho; cases ho; exact ⟨148, by decide, k15 hc⟩
  · rw [hc] at ho; cases ho; exact ⟨148, by decide, k16 hc⟩
  · rw [hc] at ho; cases ho; exact ⟨148, by decide, k17 hc⟩
  · rw [hc] at ho; cases ho; exact ⟨120, by decide, k18 hc⟩
  · rw [hc] at ho; cases ho; exact ⟨127, by decide, k19 hc⟩
theorem b179_96 {d : Nat} {P : xPr} {Q : xQr} {r : Nat} {mem : Nat → Nat → Int32} (hP : Cl d none 179 P Q) {v0 : Value} {v1 : Value} {x2 : Int32}
    (k : Q (some (.int x2)) (LAY, RFu r, mem)) : P 96 [v0, v1, .int x2] [] (0, 0) (LAY, RFu r, mem) := by
  refine r_iload_n hP d179_96 rfl ?_
  exact r_iret hP d179_97 rfl k
theorem b179_98 {d : Nat} {P : xPr} {Q : xQr} {r : Nat} {mem : Nat → Nat → Int32} (hP : Cl d none 179 P Q) {v1 : Value} {x2 : Int32} (hi103 : vp_in x2 8)
    (k : Q (some (.int (mem 110 x2.toNatClampNeg))) (LAY, RFu r, mem)) : P 98 [.ref 108, v1, .int x2] [] (0, 0) (LAY, RFu r, mem) := by
  refine r_aload_n hP d179_98 rfl ?_
  refine r_getr (a := 110) hP d179_99 fr_12_13 rfl ly_108 rg_108_3 ?_
  refine r_iload_n hP d179_102 rfl ?_
  refine r_iaload hP d179_103 ly_110 hi103 ?_
  exact r_iret hP d179_104 rfl k
theorem b179_105 {d : Nat} {P : xPr} {Q : xQr} {r : Nat} {mem : Nat → Nat → Int32} (hP : Cl d none 179 P Q) {v1 : Value} {x2 : Int32} (hi110 : vp_in x2 8)
    (kt : (mem 111 x2.toNatClampNeg) = 0 → P 118 [.ref 108, v1, .int x2] [] (0, 0) (LAY, RFu r, mem)) (kf : ¬ (mem 111 x2.toNatClampNeg) = 0 → P 114 [.ref 108, v1, .int x2] [] (0, 0) (LAY, RFu r, mem)) : P 105 [.ref 108, v1, .int x2] [] (0, 0) (LAY, RFu r, mem) := by
  refine r_aload_n hP d179_105 rfl ?_
  refine r_getr (a := 111) hP d179_106 fr_12_16 rfl ly_108 rg_108_4 ?_
  refine r_iload_n hP d179_109 rfl ?_
  refine r_baload hP d179_110 (by decide) ly_111 hi110 ?_
  exact r_if (t := 118) hP d179_111 (by decide) kt kf
theorem b179_114 {d : Nat} {P : xPr} {Q : xQr} {r : Nat} {mem : Nat → Nat → Int32} (hP : Cl d none 179 P Q) {v0 : Value} {v1 : Value} {v2 : Value}
    (k : P 119 [v0, v1, v2] [.int (nI 1)] (0, 0) (LAY, RFu r, mem)) : P 114 [v0, v1, v2] [] (0, 0) (LAY, RFu r, mem) := by
  refine r_iconst (v := nI 1) hP d179_114 rfl ?_
  refine r_goto (t := 119) hP d179_115 (by decide) ?_
  exact k
theorem b179_118 {d : Nat} {P : xPr} {Q : xQr} {r : Nat} {mem : Nat → Nat → Int32} (hP : Cl d none 179 P Q) {v0 : Value} {v1 : Value} {v2 : Value}
    (k : P 119 [v0, v1, v2] [.int (nI 0)] (0, 0) (LAY, RFu r, mem)) : P 118 [v0, v1, v2] [] (0, 0) (LAY, RFu r, mem) := by
  refine r_iconst (v := nI 0) hP d179_118 rfl ?_
  exact k
theorem b179_119 {d : Nat} {P : xPr} {Q : xQr} {r : Nat} {mem : Nat → Nat → Int32} (hP : Cl d none 179 P Q) {v0 : Value} {v1 : Value} {v2 : Value} {y0 : Int32}
    (k : Q (some (.int y0)) (LAY, RFu r, mem)) : P 119 [v0, v1, v2] [.int y0] (0, 0) (LAY, RFu r, mem) := by
  exact r_iret hP d179_119 rfl k
theorem b179_120 {d : Nat} {P : xPr} {Q : xQr} {r : Nat} {mem : Nat → Nat → Int32} (hP : Cl d none 179 P Q) {v1 : Value} {x2 : Int32} (hi125 : vp_in x2 8)
    (k : Q (some (.int (mem 116 x2.toNatClampNeg))) (LAY, RFu r, mem)) : P 120 [.ref 108, v1, .int x2] [] (0, 0) (LAY, RFu r, mem) := by
  refine r_aload_n hP d179_120 rfl ?_
  refine r_getr (a := 116) hP d179_121 fr_12_32 rfl ly_108 rg_108_9 ?_
  refine r_iload_n hP d179_124 rfl ?_
  refine r_iaload hP d179_125 ly_116 hi125 ?_
  exact r_iret hP d179_126 rfl k
theorem b179_127 {d : Nat} {P : xPr} {Q : xQr} {r : Nat} {mem : Nat → Nat → Int32} (hP : Cl d none 179 P Q) {v1 : Value} {x2 : Int32} (hi132 : vp_in x2 8)
    (k : Q (some (.int (mem 117 x2.toNatClampNeg))) (LAY, RFu r, mem)) : P 127 [.ref 108, v1, .int x2] [] (0, 0) (LAY, RFu r, mem) := by
  refine r_aload_n hP d179_127 rfl ?_
  refine r_getr (a := 117) hP d179_128 fr_12_35 rfl ly_108 rg_108_10 ?_
  refine r_iload_n hP d179_131 rfl ?_
  refine r_iaload hP d179_132 ly_117 hi132 ?_
  exact r_iret hP d179_133 rfl k
theorem b179_134 {d : Nat} {P : xPr} {Q : xQr} {r : Nat} {mem : Nat → Nat → Int32} (hP : Cl d none 179 P Q) {v1 : Value} {x2 : Int32} (hi139 : vp_in x2 8)
    (k : Q (some (.int (mem 118 x2.toNatClampNeg))) (LAY, RFu r, mem)) : P 134 [.ref 108, v1, .int x2] [] (0, 0) (LAY, RFu r, mem) := by
  refine r_aload_n hP d179_134 rfl ?_
  refine r_getr (a := 118) hP d179_135 fr_12_38 rfl ly_108 rg_108_11 ?_
  refine r_iload_n hP d179_138 rfl ?_
  refine r_iaload hP d179_139 ly_118 hi139 ?_
  exact r_iret hP d179_140 rfl k
theorem b179_141 {d : Nat} {P : xPr} {Q : xQr} {r : Nat} {mem : Nat → Nat → Int32} (hP : Cl d none 179 P Q) {v1 : Value} {x2 : Int32} (hi146 : vp_in x2 8)
    (k : Q (some (.int (mem 119 x2.toNatClampNeg))) (LAY, RFu r, mem)) : P 141 [.ref 108, v1, .int x2] [] (0, 0) (LAY, RFu r, mem) := by
  refine r_aload_n hP d179_141 rfl ?_
  refine r_getr (a := 119) hP d179_142 fr_12_41 rfl ly_108 rg_108_12 ?_
  refine r_iload_n hP d179_145 rfl ?_
  refine r_iaload hP d179_146 ly_119 hi146 ?_
  exact r_iret hP d179_147 rfl k
theorem b179_148 {d : Nat} {P : xPr} {Q : xQr} {r : Nat} {mem : Nat → Nat → Int32} (hP : Cl d none 179 P Q) {v1 : Value} {x2 : Int32} (hi153 : vp_in x2 8)
    (k : Q (some (.int (mem 120 x2.toNatClampNeg))) (LAY, RFu r, mem)) : P 148 [.ref 108, v1, .int x2] [] (0, 0) (LAY, RFu r, mem) := by
  refine r_aload_n hP d179_148 rfl ?_
  refine r_getr (a := 120) hP d179_149 fr_12_44 rfl ly_108 rg_108_13 ?_
  refine r_iload_n hP d179_152 rfl ?_
  refine r_iaload hP d179_153 ly_120 hi153 ?_
  exact r_iret hP d179_154 rfl k
theorem d180_0 : decode (xB 180) 0 = .ok (.aload_n 0, 1) := by decide +kernel
theorem d180_1 : decode (xB 180) 1 = .ok (.iconst 0, 1) := by decide +kernel
theorem d180_2 : decode (xB 180) 2 = .ok (.putfield 121, 3) := by decide +kernel
theorem d180_5 : decode (xB 180) 5 = .ok (.aload_n 0, 1) := by decide +kernel
theorem d180_6 : decode (xB 180) 6 = .ok (.getfield 141, 3) := by decide +kernel
theorem d180_9 : decode (xB 180) 9 = .ok (.istore_n 2, 1) := by decide +kernel
theorem d180_10 : decode (xB 180) 10 = .ok (.aload_n 0, 1) := by decide +kernel
theorem d180_11 : decode (xB 180) 11 = .ok (.aload_n 0, 1) := by decide +kernel
theorem d180_12 : decode (xB 180) 12 = .ok (.getfield 50, 3) := by decide +kernel
theorem d180_15 : decode (xB 180) 15 = .ok (.iload_n 2, 1) := by decide +kernel
theorem d180_16 : decode (xB 180) 16 = .ok (.bipush 40, 2) := by decide +kernel
theorem d180_18 : decode (xB 180) 18 = .ok (.invokevirtual 171, 3) := by decide +kernel
theorem d180_21 : decode (xB 180) 21 = .ok (.aload_n 0, 1) := by decide +kernel
theorem d180_22 : decode (xB 180) 22 = .ok (.iconst 0, 1) := by decide +kernel
theorem d180_23 : decode (xB 180) 23 = .ok (.putfield 141, 3) := by decide +kernel
theorem d180_26 : decode (xB 180) 26 = .ok (.iload_n 1, 1) := by decide +kernel
theorem d180_27 : decode (xB 180) 27 = .ok (.iconst 0, 1) := by decide +kernel
theorem d180_28 : decode (xB 180) 28 = .ok (.iconst 1, 1) := by decide +kernel
theorem d180_29 : decode (xB 180) 29 = .ok (.invokestatic 130, 3) := by decide +kernel
theorem d180_32 : decode (xB 180) 32 = .ok (.ifCond .ne 6, 3) := by decide +kernel
theorem d180_35 : decode (xB 180) 35 = .ok (.bipush (-100), 2) := by decide +kernel
theorem d180_37 : decode (xB 180) 37 = .ok (.ireturn, 1) := by decide +kernel
theorem d180_38 : decode (xB 180) 38 = .ok (.aload_n 0, 1) := by decide +kernel
theorem d180_39 : decode (xB 180) 39 = .ok (.iconst (-1), 1) := by decide +kernel
theorem d180_40 : decode (xB 180) 40 = .ok (.putfield 65, 3) := by decide +kernel
theorem d180_43 : decode (xB 180) 43 = .ok (.iload_n 2, 1) := by decide +kernel
theorem d180_44 : decode (xB 180) 44 = .ok (.ifCond .le 39, 3) := by decide +kernel
theorem d180_47 : decode (xB 180) 47 = .ok (.aload_n 0, 1) := by decide +kernel
theorem d180_48 : decode (xB 180) 48 = .ok (.iconst 0, 1) := by decide +kernel
theorem d180_49 : decode (xB 180) 49 = .ok (.invokevirtual 198, 3) := by decide +kernel
theorem d180_52 : decode (xB 180) 52 = .ok (.pop, 1) := by decide +kernel
theorem d180_53 : decode (xB 180) 53 = .ok (.aload_n 0, 1) := by decide +kernel
theorem d180_54 : decode (xB 180) 54 = .ok (.getfield 153, 3) := by decide +kernel
theorem d180_57 : decode (xB 180) 57 = .ok (.iload_n 2, 1) := by decide +kernel
theorem d180_58 : decode (xB 180) 58 = .ok (.if_icmp .ge 11, 3) := by decide +kernel
theorem d180_61 : decode (xB 180) 61 = .ok (.aload_n 0, 1) := by decide +kernel
theorem d180_62 : decode (xB 180) 62 = .ok (.aload_n 0, 1) := by decide +kernel
theorem d180_63 : decode (xB 180) 63 = .ok (.getfield 153, 3) := by decide +kernel
theorem d180_66 : decode (xB 180) 66 = .ok (.invokevirtual 167, 3) := by decide +kernel
theorem d180_69 : decode (xB 180) 69 = .ok (.aload_n 0, 1) := by decide +kernel
theorem d180_70 : decode (xB 180) 70 = .ok (.invokevirtual 159, 3) := by decide +kernel
theorem d180_73 : decode (xB 180) 73 = .ok (.ifCond .ne 10, 3) := by decide +kernel
theorem d180_76 : decode (xB 180) 76 = .ok (.iconst (-1), 1) := by decide +kernel
theorem d180_77 : decode (xB 180) 77 = .ok (.aload_n 0, 1) := by decide +kernel
theorem d180_78 : decode (xB 180) 78 = .ok (.getfield 156, 3) := by decide +kernel
theorem d180_81 : decode (xB 180) 81 = .ok (.isub, 1) := by decide +kernel
theorem d180_82 : decode (xB 180) 82 = .ok (.ireturn, 1) := by decide +kernel
theorem d180_83 : decode (xB 180) 83 = .ok (.iconst 0, 1) := by decide +kernel
theorem d180_84 : decode (xB 180) 84 = .ok (.istore_n 3, 1) := by decide +kernel
theorem d180_85 : decode (xB 180) 85 = .ok (.iload_n 3, 1) := by decide +kernel
theorem d180_86 : decode (xB 180) 86 = .ok (.iload_n 2, 1) := by decide +kernel
theorem d180_87 : decode (xB 180) 87 = .ok (.if_icmp .ge 23, 3) := by decide +kernel
theorem d180_90 : decode (xB 180) 90 = .ok (.aload_n 0, 1) := by decide +kernel
theorem d180_91 : decode (xB 180) 91 = .ok (.getfield 59, 3) := by decide +kernel
theorem d180_94 : decode (xB 180) 94 = .ok (.iload_n 1, 1) := by decide +kernel
theorem d180_95 : decode (xB 180) 95 = .ok (.aaload, 1) := by decide +kernel
theorem d180_96 : decode (xB 180) 96 = .ok (.iload_n 3, 1) := by decide +kernel
theorem d180_97 : decode (xB 180) 97 = .ok (.aload_n 0, 1) := by decide +kernel
theorem d180_98 : decode (xB 180) 98 = .ok (.getfield 50, 3) := by decide +kernel
theorem d180_101 : decode (xB 180) 101 = .ok (.iload_n 3, 1) := by decide +kernel
theorem d180_102 : decode (xB 180) 102 = .ok (.baload, 1) := by decide +kernel
theorem d180_103 : decode (xB 180) 103 = .ok (.bastore, 1) := by decide +kernel
theorem d180_104 : decode (xB 180) 104 = .ok (.iinc 3 1, 3) := by decide +kernel
theorem d180_107 : decode (xB 180) 107 = .ok (.goto (-22), 3) := by decide +kernel
theorem d180_110 : decode (xB 180) 110 = .ok (.aload_n 0, 1) := by decide +kernel
theorem d180_111 : decode (xB 180) 111 = .ok (.getfield 62, 3) := by decide +kernel
theorem d180_114 : decode (xB 180) 114 = .ok (.iload_n 1, 1) := by decide +kernel
theorem d180_115 : decode (xB 180) 115 = .ok (.iload_n 2, 1) := by decide +kernel
theorem d180_116 : decode (xB 180) 116 = .ok (.iastore, 1) := by decide +kernel
theorem d180_117 : decode (xB 180) 117 = .ok (.iconst 0, 1) := by decide +kernel
theorem d180_118 : decode (xB 180) 118 = .ok (.ireturn, 1) := by decide +kernel
theorem b180_0 {d : Nat} {P : xPr} {Q : xQr} {r : Nat} {mem : Nat → Nat → Int32} (hP : Cl d none 180 P Q) {p0 : Int32}
    (k : xCall d 167 [.ref 108, .ref 122, .int ((xu2 mem 108 20 (nI 0)) 108 17), .int (nI 40)] (LAY, RFu r, xu2 mem 108 20 (nI 0)) (Bk P 18 [.ref 108, .int p0, .int ((xu2 mem 108 20 (nI 0)) 108 17), .null] [] (0, 0))) : P 0 [.ref 108, .int p0, .null, .null] [] (0, 0) (LAY, RFu r, mem) := by
  refine r_aload_n hP d180_0 rfl ?_
  refine r_iconst (v := nI 0) hP d180_1 rfl ?_
  refine r_puti hP d180_2 fr_12_121 rfl (fun q => by cases q) ly_108 ?_
  refine r_aload_n hP d180_5 rfl ?_
  refine r_geti hP d180_6 fr_12_141 rfl ly_108 ?_
  refine r_istore_n (L' := [.ref 108, .int p0, .int ((xu2 mem 108 20 (nI 0)) 108 17), .null]) hP d180_9 (Nat.le_of_ble_eq_true rfl) rfl ?_
  refine r_aload_n hP d180_10 rfl ?_
  refine r_aload_n hP d180_11 rfl ?_
  refine r_getr (a := 122) hP d180_12 fr_12_50 rfl ly_108 rg_108_16 ?_
  refine r_iload_n hP d180_15 rfl ?_
  refine r_bipush (v := nI 40) hP d180_16 rfl ?_
  exact r_callv (As := [.ref 122, .int ((xu2 mem 108 20 (nI 0)) 108 17), .int (nI 40)]) (S := []) hP d180_18 cr_12_171 (by decide +kernel) rfl (by simp [Value.category]) rfl ly_108 (by simp [Value.category]) ⟨Nat.zero_le _, Nat.zero_le _⟩ k
theorem b180_21 {d : Nat} {P : xPr} {Q : xQr} {r : Nat} {mem : Nat → Nat → Int32} (hP : Cl d none 180 P Q) {x1 : Int32} {x2 : Int32} {v3 : Value}
    (k : xCall d 158 [.int x1, .int (nI 0), .int (nI 1)] (LAY, RFu r, xu2 mem 108 17 (nI 0)) (Bk P 29 [.ref 108, .int x1, .int x2, v3] [] (0, 0))) : P 21 [.ref 108, .int x1, .int x2, v3] [] (0, 0) (LAY, RFu r, mem) := by
  refine r_aload_n hP d180_21 rfl ?_
  refine r_iconst (v := nI 0) hP d180_22 rfl ?_
  refine r_puti hP d180_23 fr_12_141 rfl (fun q => by cases q) ly_108 ?_
  refine r_iload_n hP d180_26 rfl ?_
  refine r_iconst (v := nI 0) hP d180_27 rfl ?_
  refine r_iconst (v := nI 1) hP d180_28 rfl ?_
  exact r_calls (As := [.int x1, .int (nI 0), .int (nI 1)]) (S := []) hP d180_29 cr_12_130 (by decide +kernel) rfl (by simp [Value.category]) rfl (by simp [Value.category]) ⟨Nat.zero_le _, Nat.zero_le _⟩ k
theorem b180_32 {d : Nat} {P : xPr} {Q : xQr} {r : Nat} {mem : Nat → Nat → Int32} (hP : Cl d none 180 P Q) {x1 : Int32} {x2 : Int32} {v3 : Value} {y0 : Int32}
    (kt : ¬ y0 = 0 → P 38 [.ref 108, .int x1, .int x2, v3] [] (0, 0) (LAY, RFu r, mem)) (kf : y0 = 0 → P 35 [.ref 108, .int x1, .int x2, v3] [] (0, 0) (LAY, RFu r, mem)) : P 32 [.ref 108, .int x1, .int x2, v3] [.int y0] (0, 0) (LAY, RFu r, mem) := by
  exact r_if (t := 38) hP d180_32 (by decide) kt (fun q => kf (Decidable.of_not_not q))
theorem b180_35 {d : Nat} {P : xPr} {Q : xQr} {r : Nat} {mem : Nat → Nat → Int32} (hP : Cl d none 180 P Q) {v0 : Value} {v1 : Value} {v2 : Value} {v3 : Value}
    (k : Q (some (.int (-100))) (LAY, RFu r, mem)) : P 35 [v0, v1, v2, v3] [] (0, 0) (LAY, RFu r, mem) := by
  refine r_bipush (v := (-100)) hP d180_35 rfl ?_
  exact r_iret hP d180_37 rfl k
theorem b180_38 {d : Nat} {P : xPr} {Q : xQr} {r : Nat} {mem : Nat → Nat → Int32} (hP : Cl d none 180 P Q) {x1 : Int32} {x2 : Int32} {v3 : Value}
    (kt : x2 ≤ 0 → P 83 [.ref 108, .int x1, .int x2, v3] [] (0, 0) (LAY, RFu r, xu2 mem 108 28 (-1))) (kf : ¬ x2 ≤ 0 → P 47 [.ref 108, .int x1, .int x2, v3] [] (0, 0) (LAY, RFu r, xu2 mem 108 28 (-1))) : P 38 [.ref 108, .int x1, .int x2, v3] [] (0, 0) (LAY, RFu r, mem) := by
  refine r_aload_n hP d180_38 rfl ?_
  refine r_iconst (v := (-1)) hP d180_39 rfl ?_
  refine r_puti hP d180_40 fr_12_65 rfl (fun q => by cases q) ly_108 ?_
  refine r_iload_n hP d180_43 rfl ?_
  exact r_if (t := 83) hP d180_44 (by decide) kt kf
theorem b180_47 {d : Nat} {P : xPr} {Q : xQr} {r : Nat} {mem : Nat → Nat → Int32} (hP : Cl d none 180 P Q) {x1 : Int32} {x2 : Int32} {v3 : Value}
    (k : xCall d 175 [.ref 108, .int (nI 0)] (LAY, RFu r, mem) (Bk P 49 [.ref 108, .int x1, .int x2, v3] [] (0, 0))) : P 47 [.ref 108, .int x1, .int x2, v3] [] (0, 0) (LAY, RFu r, mem) := by
  refine r_aload_n hP d180_47 rfl ?_
  refine r_iconst (v := nI 0) hP d180_48 rfl ?_
  exact r_callv (As := [.int (nI 0)]) (S := []) hP d180_49 cr_12_198 (by decide +kernel) rfl (by simp [Value.category]) rfl ly_108 (by simp [Value.category]) ⟨Nat.zero_le _, Nat.zero_le _⟩ k
theorem b180_52 {d : Nat} {P : xPr} {Q : xQr} {r : Nat} {mem : Nat → Nat → Int32} (hP : Cl d none 180 P Q) {x1 : Int32} {x2 : Int32} {v3 : Value} {y0 : Int32}
    (kt : x2 ≤ (mem 108 24) → P 69 [.ref 108, .int x1, .int x2, v3] [] (0, 0) (LAY, RFu r, mem)) (kf : ¬ x2 ≤ (mem 108 24) → P 61 [.ref 108, .int x1, .int x2, v3] [] (0, 0) (LAY, RFu r, mem)) : P 52 [.ref 108, .int x1, .int x2, v3] [.int y0] (0, 0) (LAY, RFu r, mem) := by
  refine r_pop hP d180_52 rfl ?_
  refine r_aload_n hP d180_53 rfl ?_
  refine r_geti hP d180_54 fr_12_153 rfl ly_108 ?_
  refine r_iload_n hP d180_57 rfl ?_
  exact r_icmp (t := 69) hP d180_58 (by decide) kt kf
theorem b180_61 {d : Nat} {P : xPr} {Q : xQr} {r : Nat} {mem : Nat → Nat → Int32} (hP : Cl d none 180 P Q) {x1 : Int32} {x2 : Int32} {v3 : Value}
    (k : xCall d 170 [.ref 108, .int (mem 108 24)] (LAY, RFu r, mem) (Bk P 66 [.ref 108, .int x1, .int x2, v3] [] (0, 0))) : P 61 [.ref 108, .int x1, .int x2, v3] [] (0, 0) (LAY, RFu r, mem) := by
  refine r_aload_n hP d180_61 rfl ?_
  refine r_aload_n hP d180_62 rfl ?_
  refine r_geti hP d180_63 fr_12_153 rfl ly_108 ?_
  exact r_callv (As := [.int (mem 108 24)]) (S := []) hP d180_66 cr_12_167 (by decide +kernel) rfl (by simp [Value.category]) rfl ly_108 (by simp [Value.category]) ⟨Nat.zero_le _, Nat.zero_le _⟩ k
theorem b180_69 {d : Nat} {P : xPr} {Q : xQr} {r : Nat} {mem : Nat → Nat → Int32} (hP : Cl d none 180 P Q) {x1 : Int32} {x2 : Int32} {v3 : Value}
    (k : xCall d 169 [.ref 108] (LAY, RFu r, mem) (Bk P 70 [.ref 108, .int x1, .int x2, v3] [] (0, 0))) : P 69 [.ref 108, .int x1, .int x2, v3] [] (0, 0) (LAY, RFu r, mem) := by
  refine r_aload_n hP d180_69 rfl ?_
  exact r_callv (As := []) (S := []) hP d180_70 cr_12_159 (by decide +kernel) rfl (by simp) rfl ly_108 (by simp [Value.category]) ⟨Nat.zero_le _, Nat.zero_le _⟩ k
theorem b180_73 {d : Nat} {P : xPr} {Q : xQr} {r : Nat} {mem : Nat → Nat → Int32} (hP : Cl d none 180 P Q) {x1 : Int32} {x2 : Int32} {v3 : Value} {y0 : Int32}
    (kt : ¬ y0 = 0 → P 83 [.ref 108, .int x1, .int x2, v3] [] (0, 0) (LAY, RFu r, mem)) (kf : y0 = 0 → P 76 [.ref 108, .int x1, .int x2, v3] [] (0, 0) (LAY, RFu r, mem)) : P 73 [.ref 108, .int x1, .int x2, v3] [.int y0] (0, 0) (LAY, RFu r, mem) := by
  exact r_if (t := 83) hP d180_73 (by decide) kt (fun q => kf (Decidable.of_not_not q))
theorem b180_76 {d : Nat} {P : xPr} {Q : xQr} {r : Nat} {mem : Nat → Nat → Int32} (hP : Cl d none 180 P Q) {v1 : Value} {v2 : Value} {v3 : Value}
    (k : Q (some (.int ((-1) - (mem 108 25)))) (LAY, RFu r, mem)) : P 76 [.ref 108, v1, v2, v3] [] (0, 0) (LAY, RFu r, mem) := by
  refine r_iconst (v := (-1)) hP d180_76 rfl ?_
  refine r_aload_n hP d180_77 rfl ?_
  refine r_geti hP d180_78 fr_12_156 rfl ly_108 ?_
  refine r_isub hP d180_81 ?_
  exact r_iret hP d180_82 rfl k
theorem b180_83 {d : Nat} {P : xPr} {Q : xQr} {r : Nat} {mem : Nat → Nat → Int32} (hP : Cl d none 180 P Q) {x1 : Int32} {x2 : Int32} {v3 : Value}
    (k : P 85 [.ref 108, .int x1, .int x2, .int (nI 0)] [] (0, 0) (LAY, RFu r, mem)) : P 83 [.ref 108, .int x1, .int x2, v3] [] (0, 0) (LAY, RFu r, mem) := by
  refine r_iconst (v := nI 0) hP d180_83 rfl ?_
  refine r_istore_n (L' := [.ref 108, .int x1, .int x2, .int (nI 0)]) hP d180_84 (Nat.le_of_ble_eq_true rfl) rfl ?_
  exact k
theorem b180_85 {d : Nat} {P : xPr} {Q : xQr} {r : Nat} {mem : Nat → Nat → Int32} (hP : Cl d none 180 P Q) {x1 : Int32} {x2 : Int32} {x3 : Int32}
    (kt : x2 ≤ x3 → P 110 [.ref 108, .int x1, .int x2, .int x3] [] (0, 0) (LAY, RFu r, mem)) (kf : ¬ x2 ≤ x3 → P 90 [.ref 108, .int x1, .int x2, .int x3] [] (0, 0) (LAY, RFu r, mem)) : P 85 [.ref 108, .int x1, .int x2, .int x3] [] (0, 0) (LAY, RFu r, mem) := by
  refine r_iload_n hP d180_85 rfl ?_
  refine r_iload_n hP d180_86 rfl ?_
  exact r_icmp (t := 110) hP d180_87 (by decide) kt kf
theorem b180_90 {d : Nat} {P : xPr} {Q : xQr} {r : Nat} {mem : Nat → Nat → Int32} (hP : Cl d none 180 P Q) {x1 : Int32} {x2 : Int32} {x3 : Int32} (hi95 : vp_in x1 2) (hi102 : vp_in x3 80) (hi103 : vp_in x3 40)
    (k : P 85 [.ref 108, .int x1, .int x2, .int (x3 + nI 1)] [] (0, 0) (LAY, RFu r, xu2 mem (125 + x1.toNatClampNeg) x3.toNatClampNeg (xNar 14 (mem 122 x3.toNatClampNeg)))) : P 90 [.ref 108, .int x1, .int x2, .int x3] [] (0, 0) (LAY, RFu r, mem) := by
  refine r_aload_n hP d180_90 rfl ?_
  refine r_getr (a := 124) hP d180_91 fr_12_59 rfl ly_108 rg_108_26 ?_
  refine r_iload_n hP d180_94 rfl ?_
  refine r_aaload (b := (125 + x1.toNatClampNeg)) hP d180_95 (by decide) ly_124 hi95 (rg2_124 (vp_lt hi95)) ?_
  refine r_iload_n hP d180_96 rfl ?_
  refine r_aload_n hP d180_97 rfl ?_
  refine r_getr (a := 122) hP d180_98 fr_12_50 rfl ly_108 rg_108_16 ?_
  refine r_iload_n hP d180_101 rfl ?_
  refine r_baload hP d180_102 (by decide) ly_122 hi102 ?_
  refine r_bastore hP d180_103 (by decide) (ly2_124 (vp_lt hi95)) hi103 ?_
  refine r_iinc (v := nI 1) (L' := [.ref 108, .int x1, .int x2, .int (x3 + nI 1)]) hP d180_104 rfl rfl rfl ?_
  refine r_goto (t := 85) hP d180_107 (by decide) ?_
  exact k
theorem b180_110 {d : Nat} {P : xPr} {Q : xQr} {r : Nat} {mem : Nat → Nat → Int32} (hP : Cl d none 180 P Q) {x1 : Int32} {x2 : Int32} {v3 : Value} (hi116 : vp_in x1 2)
    (k : Q (some (.int (nI 0))) (LAY, RFu r, xu2 mem 127 x1.toNatClampNeg x2)) : P 110 [.ref 108, .int x1, .int x2, v3] [] (0, 0) (LAY, RFu r, mem) := by
  refine r_aload_n hP d180_110 rfl ?_
  refine r_getr (a := 127) hP d180_111 fr_12_62 rfl ly_108 rg_108_27 ?_
  refine r_iload_n hP d180_114 rfl ?_
  refine r_iload_n hP d180_115 rfl ?_
  refine r_iastore hP d180_116 ly_127 hi116 ?_
  refine r_iconst (v := nI 0) hP d180_117 rfl ?_
  exact r_iret hP d180_118 rfl k
theorem d181_0 : decode (xB 181) 0 = .ok (.iload_n 1, 1) := by decide +kernel
theorem d181_1 : decode (xB 181) 1 = .ok (.ifCond .ne 51, 3) := by decide +kernel
theorem d181_4 : decode (xB 181) 4 = .ok (.aload_n 0, 1) := by decide +kernel
theorem d181_5 : decode (xB 181) 5 = .ok (.getfield 205, 3) := by decide +kernel
theorem d181_8 : decode (xB 181) 8 = .ok (.ifCond .le 44, 3) := by decide +kernel
theorem d181_11 : decode (xB 181) 11 = .ok (.aload_n 0, 1) := by decide +kernel
theorem d181_12 : decode (xB 181) 12 = .ok (.getfield 205, 3) := by decide +kernel
theorem d181_15 : decode (xB 181) 15 = .ok (.iconst 1, 1) := by decide +kernel
theorem d181_16 : decode (xB 181) 16 = .ok (.if_icmp .ne 12, 3) := by decide +kernel
theorem d181_19 : decode (xB 181) 19 = .ok (.aload_n 0, 1) := by decide +kernel
theorem d181_20 : decode (xB 181) 20 = .ok (.getfield 13, 3) := by decide +kernel
theorem d181_23 : decode (xB 181) 23 = .ok (.iload_n 2, 1) := by decide +kernel
theorem d181_24 : decode (xB 181) 24 = .ok (.iaload, 1) := by decide +kernel
theorem d181_25 : decode (xB 181) 25 = .ok (.goto 26, 3) := by decide +kernel
theorem d181_28 : decode (xB 181) 28 = .ok (.aload_n 0, 1) := by decide +kernel
theorem d181_29 : decode (xB 181) 29 = .ok (.getfield 205, 3) := by decide +kernel
theorem d181_32 : decode (xB 181) 32 = .ok (.iconst 2, 1) := by decide +kernel
theorem d181_33 : decode (xB 181) 33 = .ok (.if_icmp .ne 12, 3) := by decide +kernel
theorem d181_36 : decode (xB 181) 36 = .ok (.aload_n 0, 1) := by decide +kernel
theorem d181_37 : decode (xB 181) 37 = .ok (.getfield 41, 3) := by decide +kernel
theorem d181_40 : decode (xB 181) 40 = .ok (.iload_n 2, 1) := by decide +kernel
theorem d181_41 : decode (xB 181) 41 = .ok (.iaload, 1) := by decide +kernel
theorem d181_42 : decode (xB 181) 42 = .ok (.goto 9, 3) := by decide +kernel
theorem d181_45 : decode (xB 181) 45 = .ok (.aload_n 0, 1) := by decide +kernel
theorem d181_46 : decode (xB 181) 46 = .ok (.getfield 44, 3) := by decide +kernel
theorem d181_49 : decode (xB 181) 49 = .ok (.iload_n 2, 1) := by decide +kernel
theorem d181_50 : decode (xB 181) 50 = .ok (.iaload, 1) := by decide +kernel
theorem d181_51 : decode (xB 181) 51 = .ok (.ireturn, 1) := by decide +kernel
theorem d181_52 : decode (xB 181) 52 = .ok (.aload_n 0, 1) := by decide +kernel
theorem d181_53 : decode (xB 181) 53 = .ok (.getfield 62, 3) := by decide +kernel
theorem d181_56 : decode (xB 181) 56 = .ok (.iload_n 1, 1) := by decide +kernel
theorem d181_57 : decode (xB 181) 57 = .ok (.iaload, 1) := by decide +kernel
theorem d181_58 : decode (xB 181) 58 = .ok (.ifCond .ne 23, 3) := by decide +kernel
theorem d181_61 : decode (xB 181) 61 = .ok (.iload_n 1, 1) := by decide +kernel
theorem d181_62 : decode (xB 181) 62 = .ok (.ifCond .ne 12, 3) := by decide +kernel
theorem d181_65 : decode (xB 181) 65 = .ok (.aload_n 0, 1) := by decide +kernel
theorem d181_66 : decode (xB 181) 66 = .ok (.getfield 35, 3) := by decide +kernel
theorem d181_69 : decode (xB 181) 69 = .ok (.iload_n 2, 1) := by decide +kernel
theorem d181_70 : decode (xB 181) 70 = .ok (.iaload, 1) := by decide +kernel
theorem d181_71 : decode (xB 181) 71 = .ok (.goto 9, 3) := by decide +kernel
theorem d181_74 : decode (xB 181) 74 = .ok (.aload_n 0, 1) := by decide +kernel
theorem d181_75 : decode (xB 181) 75 = .ok (.getfield 32, 3) := by decide +kernel
theorem d181_78 : decode (xB 181) 78 = .ok (.iload_n 2, 1) := by decide +kernel
theorem d181_79 : decode (xB 181) 79 = .ok (.iaload, 1) := by decide +kernel
theorem d181_80 : decode (xB 181) 80 = .ok (.ireturn, 1) := by decide +kernel
theorem d181_81 : decode (xB 181) 81 = .ok (.aload_n 0, 1) := by decide +kernel
theorem d181_82 : decode (xB 181) 82 = .ok (.aload_n 0, 1) := by decide +kernel
theorem d181_83 : decode (xB 181) 83 = .ok (.getfield 59, 3) := by decide +kernel
theorem d181_86 : decode (xB 181) 86 = .ok (.iload_n 1, 1) := by decide +kernel
theorem d181_87 : decode (xB 181) 87 = .ok (.aaload, 1) := by decide +kernel
theorem d181_88 : decode (xB 181) 88 = .ok (.aload_n 0, 1) := by decide +kernel
theorem d181_89 : decode (xB 181) 89 = .ok (.getfield 62, 3) := by decide +kernel
theorem d181_92 : decode (xB 181) 92 = .ok (.iload_n 1, 1) := by decide +kernel
theorem d181_93 : decode (xB 181) 93 = .ok (.iaload, 1) := by decide +kernel
theorem d181_94 : decode (xB 181) 94 = .ok (.bipush 40, 2) := by decide +kernel
theorem d181_96 : decode (xB 181) 96 = .ok (.invokevirtual 171, 3) := by decide +kernel
theorem d181_99 : decode (xB 181) 99 = .ok (.aload_n 0, 1) := by decide +kernel
theorem d181_100 : decode (xB 181) 100 = .ok (.iload_n 2, 1) := by decide +kernel
theorem d181_101 : decode (xB 181) 101 = .ok (.putfield 65, 3) := by decide +kernel
theorem d181_104 : decode (xB 181) 104 = .ok (.aload_n 0, 1) := by decide +kernel
theorem d181_105 : decode (xB 181) 105 = .ok (.iconst 0, 1) := by decide +kernel
theorem d181_106 : decode (xB 181) 106 = .ok (.invokevirtual 198, 3) := by decide +kernel
theorem d181_109 : decode (xB 181) 109 = .ok (.ireturn, 1) := by decide +kernel
theorem b181_0 {d : Nat} {P : xPr} {Q : xQr} {r : Nat} {mem : Nat → Nat → Int32} (hP : Cl d none 181 P Q) {p0 : Int32} {p1 : Int32}
    (kt : ¬ p0 = 0 → P 52 [.ref 108, .int p0, .int p1] [] (0, 0) (LAY, RFu r, mem)) (kf : p0 = 0 → P 4 [.ref 108, .int p0, .int p1] [] (0, 0) (LAY, RFu r, mem)) : P 0 [.ref 108, .int p0, .int p1] [] (0, 0) (LAY, RFu r, mem) := by
  refine r_iload_n hP d181_0 rfl ?_
  exact r_if (t := 52) hP d181_1 (by decide) kt (fun q => kf (Decidable.of_not_not q))
theorem b181_4 {d : Nat} {P : xPr} {Q : xQr} {r : Nat} {mem : Nat → Nat → Int32} (hP : Cl d none 181 P Q) {x1 : Int32} {x2 : Int32}
    (kt : (mem 108 29) ≤ 0 → P 52 [.ref 108, .int x1, .int x2] [] (0, 0) (LAY, RFu r, mem)) (kf : ¬ (mem 108 29) ≤ 0 → P 11 [.ref 108, .int x1, .int x2] [] (0, 0) (LAY, RFu r, mem)) : P 4 [.ref 108, .int x1, .int x2] [] (0, 0) (LAY, RFu r, mem) := by
  refine r_aload_n hP d181_4 rfl ?_
  refine r_geti hP d181_5 fr_12_205 rfl ly_108 ?_
  exact r_if (t := 52) hP d181_8 (by decide) kt kf
theorem b181_11 {d : Nat} {P : xPr} {Q : xQr} {r : Nat} {mem : Nat → Nat → Int32} (hP : Cl d none 181 P Q) {v1 : Value} {x2 : Int32}
    (kt : ¬ (mem 108 29) = (nI 1) → P 28 [.ref 108, v1, .int x2] [] (0, 0) (LAY, RFu r, mem)) (kf : (mem 108 29) = (nI 1) → P 19 [.ref 108, v1, .int x2] [] (0, 0) (LAY, RFu r, mem)) : P 11 [.ref 108, v1, .int x2] [] (0, 0) (LAY, RFu r, mem) := by
  refine r_aload_n hP d181_11 rfl ?_
  refine r_geti hP d181_12 fr_12_205 rfl ly_108 ?_
  refine r_iconst (v := nI 1) hP d181_15 rfl ?_
  exact r_icmp (t := 28) hP d181_16 (by decide) kt (fun q => kf (Decidable.of_not_not q))
theorem b181_19 {d : Nat} {P : xPr} {Q : xQr} {r : Nat} {mem : Nat → Nat → Int32} (hP : Cl d none 181 P Q) {v1 : Value} {x2 : Int32} (hi24 : vp_in x2 8)
    (k : P 51 [.ref 108, v1, .int x2] [.int (mem 110 x2.toNatClampNeg)] (0, 0) (LAY, RFu r, mem)) : P 19 [.ref 108, v1, .int x2] [] (0, 0) (LAY, RFu r, mem) := by
  refine r_aload_n hP d181_19 rfl ?_
  refine r_getr (a := 110) hP d181_20 fr_12_13 rfl ly_108 rg_108_3 ?_
  refine r_iload_n hP d181_23 rfl ?_
  refine r_iaload hP d181_24 ly_110 hi24 ?_
  refine r_goto (t := 51) hP d181_25 (by decide) ?_
  exact k
theorem b181_28 {d : Nat} {P : xPr} {Q : xQr} {r : Nat} {mem : Nat → Nat → Int32} (hP : Cl d none 181 P Q) {v1 : Value} {x2 : Int32}
    (kt : ¬ (mem 108 29) = (nI 2) → P 45 [.ref 108, v1, .int x2] [] (0, 0) (LAY, RFu r, mem)) (kf : (mem 108 29) = (nI 2) → P 36 [.ref 108, v1, .int x2] [] (0, 0) (LAY, RFu r, mem)) : P 28 [.ref 108, v1, .int x2] [] (0, 0) (LAY, RFu r, mem) := by
  refine r_aload_n hP d181_28 rfl ?_
  refine r_geti hP d181_29 fr_12_205 rfl ly_108 ?_
  refine r_iconst (v := nI 2) hP d181_32 rfl ?_
  exact r_icmp (t := 45) hP d181_33 (by decide) kt (fun q => kf (Decidable.of_not_not q))
theorem b181_36 {d : Nat} {P : xPr} {Q : xQr} {r : Nat} {mem : Nat → Nat → Int32} (hP : Cl d none 181 P Q) {v1 : Value} {x2 : Int32} (hi41 : vp_in x2 8)
    (k : P 51 [.ref 108, v1, .int x2] [.int (mem 119 x2.toNatClampNeg)] (0, 0) (LAY, RFu r, mem)) : P 36 [.ref 108, v1, .int x2] [] (0, 0) (LAY, RFu r, mem) := by
  refine r_aload_n hP d181_36 rfl ?_
  refine r_getr (a := 119) hP d181_37 fr_12_41 rfl ly_108 rg_108_12 ?_
  refine r_iload_n hP d181_40 rfl ?_
  refine r_iaload hP d181_41 ly_119 hi41 ?_
  refine r_goto (t := 51) hP d181_42 (by decide) ?_
  exact k
theorem b181_45 {d : Nat} {P : xPr} {Q : xQr} {r : Nat} {mem : Nat → Nat → Int32} (hP : Cl d none 181 P Q) {v1 : Value} {x2 : Int32} (hi50 : vp_in x2 8)
    (k : P 51 [.ref 108, v1, .int x2] [.int (mem 120 x2.toNatClampNeg)] (0, 0) (LAY, RFu r, mem)) : P 45 [.ref 108, v1, .int x2] [] (0, 0) (LAY, RFu r, mem) := by
  refine r_aload_n hP d181_45 rfl ?_
  refine r_getr (a := 120) hP d181_46 fr_12_44 rfl ly_108 rg_108_13 ?_
  refine r_iload_n hP d181_49 rfl ?_
  refine r_iaload hP d181_50 ly_120 hi50 ?_
  exact k
theorem b181_51 {d : Nat} {P : xPr} {Q : xQr} {r : Nat} {mem : Nat → Nat → Int32} (hP : Cl d none 181 P Q) {v0 : Value} {v1 : Value} {v2 : Value} {y0 : Int32}
    (k : Q (some (.int y0)) (LAY, RFu r, mem)) : P 51 [v0, v1, v2] [.int y0] (0, 0) (LAY, RFu r, mem) := by
  exact r_iret hP d181_51 rfl k
theorem b181_52 {d : Nat} {P : xPr} {Q : xQr} {r : Nat} {mem : Nat → Nat → Int32} (hP : Cl d none 181 P Q) {x1 : Int32} {x2 : Int32} (hi57 : vp_in x1 2)
    (kt : ¬ (mem 127 x1.toNatClampNeg) = 0 → P 81 [.ref 108, .int x1, .int x2] [] (0, 0) (LAY, RFu r, mem)) (kf : (mem 127 x1.toNatClampNeg) = 0 → P 61 [.ref 108, .int x1, .int x2] [] (0, 0) (LAY, RFu r, mem)) : P 52 [.ref 108, .int x1, .int x2] [] (0, 0) (LAY, RFu r, mem) := by
  refine r_aload_n hP d181_52 rfl ?_
  refine r_getr (a := 127) hP d181_53 fr_12_62 rfl ly_108 rg_108_27 ?_
  refine r_iload_n hP d181_56 rfl ?_
  refine r_iaload hP d181_57 ly_127 hi57 ?_
  exact r_if (t := 81) hP d181_58 (by decide) kt (fun q => kf (Decidable.of_not_not q))
theorem b181_61 {d : Nat} {P : xPr} {Q : xQr} {r : Nat} {mem : Nat → Nat → Int32} (hP : Cl d none 181 P Q) {x1 : Int32} {x2 : Int32}
    (kt : ¬ x1 = 0 → P 74 [.ref 108, .int x1, .int x2] [] (0, 0) (LAY, RFu r, mem)) (kf : x1 = 0 → P 65 [.ref 108, .int x1, .int x2] [] (0, 0) (LAY, RFu r, mem)) : P 61 [.ref 108, .int x1, .int x2] [] (0, 0) (LAY, RFu r, mem) := by
  refine r_iload_n hP d181_61 rfl ?_
  exact r_if (t := 74) hP d181_62 (by decide) kt (fun q => kf (Decidable.of_not_not q))
theorem b181_65 {d : Nat} {P : xPr} {Q : xQr} {r : Nat} {mem : Nat → Nat → Int32} (hP : Cl d none 181 P Q) {v1 : Value} {x2 : Int32} (hi70 : vp_in x2 8)
    (k : P 80 [.ref 108, v1, .int x2] [.int (mem 117 x2.toNatClampNeg)] (0, 0) (LAY, RFu r, mem)) : P 65 [.ref 108, v1, .int x2] [] (0, 0) (LAY, RFu r, mem) := by
  refine r_aload_n hP d181_65 rfl ?_
  refine r_getr (a := 117) hP d181_66 fr_12_35 rfl ly_108 rg_108_10 ?_
  refine r_iload_n hP d181_69 rfl ?_
  refine r_iaload hP d181_70 ly_117 hi70 ?_
  refine r_goto (t := 80) hP d181_71 (by decide) ?_
  exact k
theorem b181_74 {d : Nat} {P : xPr} {Q : xQr} {r : Nat} {mem : Nat → Nat → Int32} (hP : Cl d none 181 P Q) {v1 : Value} {x2 : Int32} (hi79 : vp_in x2 8)
    (k : P 80 [.ref 108, v1, .int x2] [.int (mem 116 x2.toNatClampNeg)] (0, 0) (LAY, RFu r, mem)) : P 74 [.ref 108, v1, .int x2] [] (0, 0) (LAY, RFu r, mem) := by
  refine r_aload_n hP d181_74 rfl ?_
  refine r_getr (a := 116) hP d181_75 fr_12_32 rfl ly_108 rg_108_9 ?_
  refine r_iload_n hP d181_78 rfl ?_
  refine r_iaload hP d181_79 ly_116 hi79 ?_
  exact k
theorem b181_80 {d : Nat} {P : xPr} {Q : xQr} {r : Nat} {mem : Nat → Nat → Int32} (hP : Cl d none 181 P Q) {v0 : Value} {v1 : Value} {v2 : Value} {y0 : Int32}
    (k : Q (some (.int y0)) (LAY, RFu r, mem)) : P 80 [v0, v1, v2] [.int y0] (0, 0) (LAY, RFu r, mem) := by
  exact r_iret hP d181_80 rfl k
theorem b181_81 {d : Nat} {P : xPr} {Q : xQr} {r : Nat} {mem : Nat → Nat → Int32} (hP : Cl d none 181 P Q) {x1 : Int32} {x2 : Int32} (hi87 : vp_in x1 2) (hi93 : vp_in x1 2)
    (k : xCall d 167 [.ref 108, .ref (125 + x1.toNatClampNeg), .int (mem 127 x1.toNatClampNeg), .int (nI 40)] (LAY, RFu r, mem) (Bk P 96 [.ref 108, .int x1, .int x2] [] (0, 0))) : P 81 [.ref 108, .int x1, .int x2] [] (0, 0) (LAY, RFu r, mem) := by
  refine r_aload_n hP d181_81 rfl ?_
  refine r_aload_n hP d181_82 rfl ?_
  refine r_getr (a := 124) hP d181_83 fr_12_59 rfl ly_108 rg_108_26 ?_
  refine r_iload_n hP d181_86 rfl ?_
  refine r_aaload (b := (125 + x1.toNatClampNeg)) hP d181_87 (by decide) ly_124 hi87 (rg2_124 (vp_lt hi87)) ?_
  refine r_aload_n hP d181_88 rfl ?_
  refine r_getr (a := 127) hP d181_89 fr_12_62 rfl ly_108 rg_108_27 ?_
  refine r_iload_n hP d181_92 rfl ?_
  refine r_iaload hP d181_93 ly_127 hi93 ?_
  refine r_bipush (v := nI 40) hP d181_94 rfl ?_
  exact r_callv (As := [.ref (125 + x1.toNatClampNeg), .int (mem 127 x1.toNatClampNeg), .int (nI 40)]) (S := []) hP d181_96 cr_12_171 (by decide +kernel) rfl (by simp [Value.category]) rfl ly_108 (by simp [Value.category]) ⟨Nat.zero_le _, Nat.zero_le _⟩ k
theorem b181_99 {d : Nat} {P : xPr} {Q : xQr} {r : Nat} {mem : Nat → Nat → Int32} (hP : Cl d none 181 P Q) {v1 : Value} {x2 : Int32}
    (k : xCall d 175 [.ref 108, .int (nI 0)] (LAY, RFu r, xu2 mem 108 28 x2) (Bk P 106 [.ref 108, v1, .int x2] [] (0, 0))) : P 99 [.ref 108, v1, .int x2] [] (0, 0) (LAY, RFu r, mem) := by
  refine r_aload_n hP d181_99 rfl ?_
  refine r_iload_n hP d181_100 rfl ?_
  refine r_puti hP d181_101 fr_12_65 rfl (fun q => by cases q) ly_108 ?_
  refine r_aload_n hP d181_104 rfl ?_
  refine r_iconst (v := nI 0) hP d181_105 rfl ?_
  exact r_callv (As := [.int (nI 0)]) (S := []) hP d181_106 cr_12_198 (by decide +kernel) rfl (by simp [Value.category]) rfl ly_108 (by simp [Value.category]) ⟨Nat.zero_le _, Nat.zero_le _⟩ k
theorem b181_109 {d : Nat} {P : xPr} {Q : xQr} {r : Nat} {mem : Nat → Nat → Int32} (hP : Cl d none 181 P Q) {v0 : Value} {v1 : Value} {v2 : Value} {y0 : Int32}
    (k : Q (some (.int y0)) (LAY, RFu r, mem)) : P 109 [v0, v1, v2] [.int y0] (0, 0) (LAY, RFu r, mem) := by
  exact r_iret hP d181_109 rfl k
theorem d182_0 : decode (xB 182) 0 = .ok (.aload_n 0, 1) := by decide +kernel
theorem d182_1 : decode (xB 182) 1 = .ok (.iconst 0, 1) := by decide +kernel
theorem d182_2 : decode (xB 182) 2 = .ok (.putfield 121, 3) := by decide +kernel
theorem d182_5 : decode (xB 182) 5 = .ok (.aload_n 0, 1) := by decide +kernel
theorem d182_6 : decode (xB 182) 6 = .ok (.iload_n 1, 1) := by decide +kernel
theorem d182_7 : decode (xB 182) 7 = .ok (.invokevirtual 134, 3) := by decide +kernel
theorem d182_10 : decode (xB 182) 10 = .ok (.ifCond .eq 13, 3) := by decide +kernel
theorem d182_13 : decode (xB 182) 13 = .ok (.iload_n 2, 1) := by decide +kernel
theorem d182_14 : decode (xB 182) 14 = .ok (.iconst 0, 1) := by decide +kernel
theorem d182_15 : decode (xB 182) 15 = .ok (.bipush 10, 2) := by decide +kernel
theorem d182_17 : decode (xB 182) 17 = .ok (.invokestatic 130, 3) := by decide +kernel
theorem d182_20 : decode (xB 182) 20 = .ok (.ifCond .ne 8, 3) := by decide +kernel
theorem d182_23 : decode (xB 182) 23 = .ok (.aload_n 0, 1) := by decide +kernel
theorem d182_24 : decode (xB 182) 24 = .ok (.invokevirtual 208, 3) := by decide +kernel
theorem d182_27 : decode (xB 182) 27 = .ok (.ireturn, 1) := by decide +kernel
theorem d182_28 : decode (xB 182) 28 = .ok (.iload_n 2, 1) := by decide +kernel
theorem d182_29 : decode (xB 182) 29 = .ok (.tableswitch 122 0 8 #[51, 58, 73, 80, 87, 94, 101, 108, 115], 51) := by decide +kernel
theorem d182_80 : decode (xB 182) 80 = .ok (.aload_n 0, 1) := by decide +kernel
theorem d182_81 : decode (xB 182) 81 = .ok (.getfield 13, 3) := by decide +kernel
theorem d182_84 : decode (xB 182) 84 = .ok (.iload_n 1, 1) := by decide +kernel
theorem d182_85 : decode (xB 182) 85 = .ok (.iaload, 1) := by decide +kernel
theorem d182_86 : decode (xB 182) 86 = .ok (.ireturn, 1) := by decide +kernel
theorem d182_87 : decode (xB 182) 87 = .ok (.aload_n 0, 1) := by decide +kernel
theorem d182_88 : decode (xB 182) 88 = .ok (.getfield 16, 3) := by decide +kernel
theorem d182_91 : decode (xB 182) 91 = .ok (.iload_n 1, 1) := by decide +kernel
theorem d182_92 : decode (xB 182) 92 = .ok (.baload, 1) := by decide +kernel
theorem d182_93 : decode (xB 182) 93 = .ok (.ifCond .eq 7, 3) := by decide +kernel
theorem d182_96 : decode (xB 182) 96 = .ok (.iconst 1, 1) := by decide +kernel
theorem d182_97 : decode (xB 182) 97 = .ok (.goto 4, 3) := by decide +kernel
theorem d182_100 : decode (xB 182) 100 = .ok (.iconst 0, 1) := by decide +kernel
theorem d182_101 : decode (xB 182) 101 = .ok (.ireturn, 1) := by decide +kernel
theorem d182_102 : decode (xB 182) 102 = .ok (.aload_n 0, 1) := by decide +kernel
theorem d182_103 : decode (xB 182) 103 = .ok (.getfield 26, 3) := by decide +kernel
theorem d182_106 : decode (xB 182) 106 = .ok (.iload_n 1, 1) := by decide +kernel
theorem d182_107 : decode (xB 182) 107 = .ok (.iaload, 1) := by decide +kernel
theorem d182_108 : decode (xB 182) 108 = .ok (.ireturn, 1) := by decide +kernel
theorem d182_109 : decode (xB 182) 109 = .ok (.aload_n 0, 1) := by decide +kernel
theorem d182_110 : decode (xB 182) 110 = .ok (.getfield 29, 3) := by decide +kernel
theorem d182_113 : decode (xB 182) 113 = .ok (.iload_n 1, 1) := by decide +kernel
theorem d182_114 : decode (xB 182) 114 = .ok (.iaload, 1) := by decide +kernel
theorem d182_115 : decode (xB 182) 115 = .ok (.ireturn, 1) := by decide +kernel
theorem d182_116 : decode (xB 182) 116 = .ok (.aload_n 0, 1) := by decide +kernel
theorem d182_117 : decode (xB 182) 117 = .ok (.getfield 32, 3) := by decide +kernel
theorem d182_120 : decode (xB 182) 120 = .ok (.iload_n 1, 1) := by decide +kernel
theorem d182_121 : decode (xB 182) 121 = .ok (.iaload, 1) := by decide +kernel
theorem d182_122 : decode (xB 182) 122 = .ok (.ireturn, 1) := by decide +kernel
theorem d182_123 : decode (xB 182) 123 = .ok (.aload_n 0, 1) := by decide +kernel
theorem d182_124 : decode (xB 182) 124 = .ok (.getfield 35, 3) := by decide +kernel
theorem d182_127 : decode (xB 182) 127 = .ok (.iload_n 1, 1) := by decide +kernel
theorem d182_128 : decode (xB 182) 128 = .ok (.iaload, 1) := by decide +kernel
theorem d182_129 : decode (xB 182) 129 = .ok (.ireturn, 1) := by decide +kernel
theorem d182_130 : decode (xB 182) 130 = .ok (.aload_n 0, 1) := by decide +kernel
theorem d182_131 : decode (xB 182) 131 = .ok (.getfield 38, 3) := by decide +kernel
theorem d182_134 : decode (xB 182) 134 = .ok (.iload_n 1, 1) := by decide +kernel
theorem d182_135 : decode (xB 182) 135 = .ok (.iaload, 1) := by decide +kernel
theorem d182_136 : decode (xB 182) 136 = .ok (.ireturn, 1) := by decide +kernel
theorem d182_137 : decode (xB 182) 137 = .ok (.aload_n 0, 1) := by decide +kernel
theorem d182_138 : decode (xB 182) 138 = .ok (.getfield 41, 3) := by decide +kernel
theorem d182_141 : decode (xB 182) 141 = .ok (.iload_n 1, 1) := by decide +kernel
theorem d182_142 : decode (xB 182) 142 = .ok (.iaload, 1) := by decide +kernel
theorem d182_143 : decode (xB 182) 143 = .ok (.ireturn, 1) := by decide +kernel
theorem d182_144 : decode (xB 182) 144 = .ok (.aload_n 0, 1) := by decide +kernel
theorem d182_145 : decode (xB 182) 145 = .ok (.getfield 44, 3) := by decide +kernel
theorem d182_148 : decode (xB 182) 148 = .ok (.iload_n 1, 1) := by decide +kernel
theorem d182_149 : decode (xB 182) 149 = .ok (.iaload, 1) := by decide +kernel
theorem d182_150 : decode (xB 182) 150 = .ok (.ireturn, 1) := by decide +kernel
theorem d182_151 : decode (xB 182) 151 = .ok (.aload_n 0, 1) := by decide +kernel
theorem d182_152 : decode (xB 182) 152 = .ok (.iload_n 2, 1) := by decide +kernel
theorem d182_153 : decode (xB 182) 153 = .ok (.bipush 9, 2) := by decide +kernel
theorem d182_155 : decode (xB 182) 155 = .ok (.isub, 1) := by decide +kernel
theorem d182_156 : decode (xB 182) 156 = .ok (.iload_n 1, 1) := by decide +kernel
theorem d182_157 : decode (xB 182) 157 = .ok (.invokevirtual 211, 3) := by decide +kernel
theorem d182_160 : decode (xB 182) 160 = .ok (.ireturn, 1) := by decide +kernel
theorem b182_0 {d : Nat} {P : xPr} {Q : xQr} {r : Nat} {mem : Nat → Nat → Int32} (hP : Cl d none 182 P Q) {p0 : Int32} {p1 : Int32}
    (k : xCall d 162 [.ref 108, .int p0] (LAY, RFu r, xu2 mem 108 20 (nI 0)) (Bk P 7 [.ref 108, .int p0, .int p1] [] (0, 0))) : P 0 [.ref 108, .int p0, .int p1] [] (0, 0) (LAY, RFu r, mem) := by
  refine r_aload_n hP d182_0 rfl ?_
  refine r_iconst (v := nI 0) hP d182_1 rfl ?_
  refine r_puti hP d182_2 fr_12_121 rfl (fun q => by cases q) ly_108 ?_
  refine r_aload_n hP d182_5 rfl ?_
  refine r_iload_n hP d182_6 rfl ?_
  exact r_callv (As := [.int p0]) (S := []) hP d182_7 cr_12_134 (by decide +kernel) rfl (by simp [Value.category]) rfl ly_108 (by simp [Value.category]) ⟨Nat.zero_le _, Nat.zero_le _⟩ k
theorem b182_10 {d : Nat} {P : xPr} {Q : xQr} {r : Nat} {mem : Nat → Nat → Int32} (hP : Cl d none 182 P Q) {x1 : Int32} {x2 : Int32} {y0 : Int32}
    (kt : y0 = 0 → P 23 [.ref 108, .int x1, .int x2] [] (0, 0) (LAY, RFu r, mem)) (kf : ¬ y0 = 0 → P 13 [.ref 108, .int x1, .int x2] [] (0, 0) (LAY, RFu r, mem)) : P 10 [.ref 108, .int x1, .int x2] [.int y0] (0, 0) (LAY, RFu r, mem) := by
  exact r_if (t := 23) hP d182_10 (by decide) kt kf
theorem b182_13 {d : Nat} {P : xPr} {Q : xQr} {r : Nat} {mem : Nat → Nat → Int32} (hP : Cl d none 182 P Q) {x1 : Int32} {x2 : Int32}
    (k : xCall d 158 [.int x2, .int (nI 0), .int (nI 10)] (LAY, RFu r, mem) (Bk P 17 [.ref 108, .int x1, .int x2] [] (0, 0))) : P 13 [.ref 108, .int x1, .int x2] [] (0, 0) (LAY, RFu r, mem) := by
  refine r_iload_n hP d182_13 rfl ?_
  refine r_iconst (v := nI 0) hP d182_14 rfl ?_
  refine r_bipush (v := nI 10) hP d182_15 rfl ?_
  exact r_calls (As := [.int x2, .int (nI 0), .int (nI 10)]) (S := []) hP d182_17 cr_12_130 (by decide +kernel) rfl (by simp [Value.category]) rfl (by simp [Value.category]) ⟨Nat.zero_le _, Nat.zero_le _⟩ k
theorem b182_20 {d : Nat} {P : xPr} {Q : xQr} {r : Nat} {mem : Nat → Nat → Int32} (hP : Cl d none 182 P Q) {x1 : Int32} {x2 : Int32} {y0 : Int32}
    (kt : ¬ y0 = 0 → P 28 [.ref 108, .int x1, .int x2] [] (0, 0) (LAY, RFu r, mem)) (kf : y0 = 0 → P 23 [.ref 108, .int x1, .int x2] [] (0, 0) (LAY, RFu r, mem)) : P 20 [.ref 108, .int x1, .int x2] [.int y0] (0, 0) (LAY, RFu r, mem) := by
  exact r_if (t := 28) hP d182_20 (by decide) kt (fun q => kf (Decidable.of_not_not q))
theorem b182_23 {d : Nat} {P : xPr} {Q : xQr} {r : Nat} {mem : Nat → Nat → Int32} (hP : Cl d none 182 P Q) {v1 : Value} {v2 : Value}
    (k : xCall d 160 [.ref 108] (LAY, RFu r, mem) (Bk P 24 [.ref 108, v1, v2] [] (0, 0))) : P 23 [.ref 108, v1, v2] [] (0, 0) (LAY, RFu r, mem) := by
  refine r_aload_n hP d182_23 rfl ?_
  exact r_callv (As := []) (S := []) hP d182_24 cr_12_208 (by decide +kernel) rfl (by simp) rfl ly_108 (by simp [Value.category]) ⟨Nat.zero_le _, Nat.zero_le _⟩ k
theorem b182_27 {d : Nat} {P : xPr} {Q : xQr} {r : Nat} {mem : Nat → Nat → Int32} (hP : Cl d none 182 P Q) {v0 : Value} {v1 : Value} {v2 : Value} {y0 : Int32}
    (k : Q (some (.int y0)) (LAY, RFu r, mem)) : P 27 [v0, v1, v2] [.int y0] (0, 0) (LAY, RFu r, mem) := by
  exact r_iret hP d182_27 rfl k
theorem b182_28 {d : Nat} {P : xPr} {Q : xQr} {r : Nat} {mem : Nat → Nat → Int32} (hP : Cl d none 182 P Q) {x1 : Int32} {x2 : Int32}
    (kd : (x2.toInt < 0 ∨ 8 < x2.toInt) → P 151 [.ref 108, .int x1, .int x2] [] (0, 0) (LAY, RFu r, mem)) (k0 : x2.toInt = 0 → P 80 [.ref 108, .int x1, .int x2] [] (0, 0) (LAY, RFu r, mem)) (k1 : x2.toInt = 1 → P 87 [.ref 108, .int x1, .int x2] [] (0, 0) (LAY, RFu r, mem)) (k2 : x2.toInt = 2 → P 102 [.ref 108, .int x1, .int x2] [] (0, 0) (LAY, RFu r, mem)) (k3 : x2.toInt = 3 → P 109 [.ref 108, .int x1, .int x2] [] (0, 0) (LAY, RFu r, mem)) (k4 : x2.toInt = 4 → P 116 [.ref 108, .int x1, .int x2] [] (0, 0) (LAY, RFu r, mem)) (k5 : x2.toInt = 5 → P 123 [.ref 108, .int x1, .int x2] [] (0, 0) (LAY, RFu r, mem)) (k6 : x2.toInt = 6 → P 130 [.ref 108, .int x1, .int x2] [] (0, 0) (LAY, RFu r, mem)) (k7 : x2.toInt = 7 → P 137 [.ref 108, .int x1, .int x2] [] (0, 0) (LAY, RFu r, mem)) (k8 : x2.toInt = 8 → P 144 [.ref 108, .int x1, .int x2] [] (0, 0) (LAY, RFu r, mem)) : P 28 [.ref 108, .int x1, .int x2] [] (0, 0) (LAY, RFu r, mem) := by
  refine r_iload_n hP d182_28 rfl ?_
  refine r_table (t := 151) hP d182_29 (by decide) (by decide) kd (fun h1 h2 off ho => ?_)
  have hc : x2.toInt = 0 ∨ x2.toInt = 1 ∨ x2.toInt = 2 ∨ x2.toInt = 3 ∨ x2.toInt = 4 ∨ x2.toInt = 5 ∨ x2.toInt = 6 ∨ x2.toInt = 7 ∨ x2.toInt = 8 := by omega
  rcases hc with hc | hc | hc | hc | hc | hc | hc | hc | hc
  · rw [hc] at ho; cases ho; exact ⟨80, by decide, k0 hc⟩
  · rw [hc] at ho; cases ho; exact ⟨87, by decide, k1 hc⟩
  · rw [hc] at ho; cases ho; exact ⟨102, by decide, k2 hc⟩
  · rw [hc] at ho; cases ho; exact ⟨109, by decide, k3 hc⟩
  · rw [hc] at ho; cases ho; exact ⟨116, by decide, k4 hc⟩
  · rw [hc] at ho; cases ho; exact ⟨123, by decide, k5 hc⟩
  · rw [hc] at ho; cases ho; exact ⟨130, by decide, k6 hc⟩
  · rw [hc] at ho; cases ho; exact ⟨137, by decide, k7 hc⟩
  · rw [hc] at ho; cases ho; exact ⟨144, by decide, k8 hc⟩
theorem b182_80 {d : Nat} {P : xPr} {Q : xQr} {r : Nat} {mem : Nat → Nat → Int32} (hP : Cl d none 182 P Q) {x1 : Int32} {v2 : Value} (hi85 : vp_in x1 8)
    (k : Q (some (.int (mem 110 x1.toNatClampNeg))) (LAY, RFu r, mem)) : P 80 [.ref 108, .int x1, v2] [] (0, 0) (LAY, RFu r, mem) := by
  refine r_aload_n hP d182_80 rfl ?_
  refine r_getr (a := 110) hP d182_81 fr_12_13 rfl ly_108 rg_108_3 ?_
  refine r_iload_n hP d182_84 rfl ?_
  refine r_iaload hP d182_85 ly_110 hi85 ?_
  exact r_iret hP d182_86 rfl k
theorem b182_87 {d : Nat} {P : xPr} {Q : xQr} {r : Nat} {mem : Nat → Nat → Int32} (hP : Cl d none 182 P Q) {x1 : Int32} {v2 : Value} (hi92 : vp_in x1 8)
    (kt : (mem 111 x1.toNatClampNeg) = 0 → P 100 [.ref 108, .int x1, v2] [] (0, 0) (LAY, RFu r, mem)) (kf : ¬ (mem 111 x1.toNatClampNeg) = 0 → P 96 [.ref 108, .int x1, v2] [] (0, 0) (LAY, RFu r, mem)) : P 87 [.ref 108, .int x1, v2] [] (0, 0) (LAY, RFu r, mem) := by
  refine r_aload_n hP d182_87 rfl ?_
  refine r_getr (a := 111) hP d182_88 fr_12_16 rfl ly_108 rg_108_4 ?_
  refine r_iload_n hP d182_91 rfl ?_
  refine r_baload hP d182_92 (by decide) ly_111 hi92 ?_
  exact r_if (t := 100) hP d182_93 (by decide) kt kf
theorem b182_96 {d : Nat} {P : xPr} {Q : xQr} {r : Nat} {mem : Nat → Nat → Int32} (hP : Cl d none 182 P Q) {v0 : Value} {v1 : Value} {v2 : Value}
    (k : P 101 [v0, v1, v2] [.int (nI 1)] (0, 0) (LAY, RFu r, mem)) : P 96 [v0, v1, v2] [] (0, 0) (LAY, RFu r, mem) := by
  refine r_iconst (v := nI 1) hP d182_96 rfl ?_
  refine r_goto (t := 101) hP d182_97 (by decide) ?_
  exact k
theorem b182_100 {d : Nat} {P : xPr} {Q : xQr} {r : Nat} {mem : Nat → Nat → Int32} (hP : Cl d none 182 P Q) {v0 : Value} {v1 : Value} {v2 : Value}
    (k : P 101 [v0, v1, v2] [.int (nI 0)] (0, 0) (LAY, RFu r, mem)) : P 100 [v0, v1, v2] [] (0, 0) (LAY, RFu r, mem) := by
  refine r_iconst (v := nI 0) hP d182_100 rfl ?_
  exact k
theorem b182_101 {d : Nat} {P : xPr} {Q : xQr} {r : Nat} {mem : Nat → Nat → Int32} (hP : Cl d none 182 P Q) {v0 : Value} {v1 : Value} {v2 : Value} {y0 : Int32}
    (k : Q (some (.int y0)) (LAY, RFu r, mem)) : P 101 [v0, v1, v2] [.int y0] (0, 0) (LAY, RFu r, mem) := by
  exact r_iret hP d182_101 rfl k
theorem b182_102 {d : Nat} {P : xPr} {Q : xQr} {r : Nat} {mem : Nat → Nat → Int32} (hP : Cl d none 182 P Q) {x1 : Int32} {v2 : Value} (hi107 : vp_in x1 8)
    (k : Q (some (.int (mem 114 x1.toNatClampNeg))) (LAY, RFu r, mem)) : P 102 [.ref 108, .int x1, v2] [] (0, 0) (LAY, RFu r, mem) := by
  refine r_aload_n hP d182_102 rfl ?_
  refine r_getr (a := 114) hP d182_103 fr_12_26 rfl ly_108 rg_108_7 ?_
  refine r_iload_n hP d182_106 rfl ?_
  refine r_iaload hP d182_107 ly_114 hi107 ?_
  exact r_iret hP d182_108 rfl k
theorem b182_109 {d : Nat} {P : xPr} {Q : xQr} {r : Nat} {mem : Nat → Nat → Int32} (hP : Cl d none 182 P Q) {x1 : Int32} {v2 : Value} (hi114 : vp_in x1 8)
    (k : Q (some (.int (mem 115 x1.toNatClampNeg))) (LAY, RFu r, mem)) : P 109 [.ref 108, .int x1, v2] [] (0, 0) (LAY, RFu r, mem) := by
  refine r_aload_n hP d182_109 rfl ?_
  refine r_getr (a := 115) hP d182_110 fr_12_29 rfl ly_108 rg_108_8 ?_
  refine r_iload_n hP d182_113 rfl ?_
  refine r_iaload hP d182_114 ly_115 hi114 ?_
  exact r_iret hP d182_115 rfl k
theorem b182_116 {d : Nat} {P : xPr} {Q : xQr} {r : Nat} {mem : Nat → Nat → Int32} (hP : Cl d none 182 P Q) {x1 : Int32} {v2 : Value} (hi121 : vp_in x1 8)
    (k : Q (some (.int (mem 116 x1.toNatClampNeg))) (LAY, RFu r, mem)) : P 116 [.ref 108, .int x1, v2] [] (0, 0) (LAY, RFu r, mem) := by
  refine r_aload_n hP d182_116 rfl ?_
  refine r_getr (a := 116) hP d182_117 fr_12_32 rfl ly_108 rg_108_9 ?_
  refine r_iload_n hP d182_120 rfl ?_
  refine r_iaload hP d182_121 ly_116 hi121 ?_
  exact r_iret hP d182_122 rfl k
theorem b182_123 {d : Nat} {P : xPr} {Q : xQr} {r : Nat} {mem : Nat → Nat → Int32} (hP : Cl d none 182 P Q) {x1 : Int32} {v2 : Value} (hi128 : vp_in x1 8)
    (k : Q (some (.int (mem 117 x1.toNatClampNeg))) (LAY, RFu r, mem)) : P 123 [.ref 108, .int x1, v2] [] (0, 0) (LAY, RFu r, mem) := by
  refine r_aload_n hP d182_123 rfl ?_
  refine r_getr (a := 117) hP d182_124 fr_12_35 rfl ly_108 rg_108_10 ?_
  refine r_iload_n hP d182_127 rfl ?_
  refine r_iaload hP d182_128 ly_117 hi128 ?_
  exact r_iret hP d182_129 rfl k
theorem b182_130 {d : Nat} {P : xPr} {Q : xQr} {r : Nat} {mem : Nat → Nat → Int32} (hP : Cl d none 182 P Q) {x1 : Int32} {v2 : Value} (hi135 : vp_in x1 8)
    (k : Q (some (.int (mem 118 x1.toNatClampNeg))) (LAY, RFu r, mem)) : P 130 [.ref 108, .int x1, v2] [] (0, 0) (LAY, RFu r, mem) := by
  refine r_aload_n hP d182_130 rfl ?_
  refine r_getr (a := 118) hP d182_131 fr_12_38 rfl ly_108 rg_108_11 ?_
  refine r_iload_n hP d182_134 rfl ?_
  refine r_iaload hP d182_135 ly_118 hi135 ?_
  exact r_iret hP d182_136 rfl k
theorem b182_137 {d : Nat} {P : xPr} {Q : xQr} {r : Nat} {mem : Nat → Nat → Int32} (hP : Cl d none 182 P Q) {x1 : Int32} {v2 : Value} (hi142 : vp_in x1 8)
    (k : Q (some (.int (mem 119 x1.toNatClampNeg))) (LAY, RFu r, mem)) : P 137 [.ref 108, .int x1, v2] [] (0, 0) (LAY, RFu r, mem) := by
  refine r_aload_n hP d182_137 rfl ?_
  refine r_getr (a := 119) hP d182_138 fr_12_41 rfl ly_108 rg_108_12 ?_
  refine r_iload_n hP d182_141 rfl ?_
  refine r_iaload hP d182_142 ly_119 hi142 ?_
  exact r_iret hP d182_143 rfl k
theorem b182_144 {d : Nat} {P : xPr} {Q : xQr} {r : Nat} {mem : Nat → Nat → Int32} (hP : Cl d none 182 P Q) {x1 : Int32} {v2 : Value} (hi149 : vp_in x1 8)
    (k : Q (some (.int (mem 120 x1.toNatClampNeg))) (LAY, RFu r, mem)) : P 144 [.ref 108, .int x1, v2] [] (0, 0) (LAY, RFu r, mem) := by
  refine r_aload_n hP d182_144 rfl ?_
  refine r_getr (a := 120) hP d182_145 fr_12_44 rfl ly_108 rg_108_13 ?_
  refine r_iload_n hP d182_148 rfl ?_
  refine r_iaload hP d182_149 ly_120 hi149 ?_
  exact r_iret hP d182_150 rfl k
theorem b182_151 {d : Nat} {P : xPr} {Q : xQr} {r : Nat} {mem : Nat → Nat → Int32} (hP : Cl d none 182 P Q) {x1 : Int32} {x2 : Int32}
    (k : xCall d 181 [.ref 108, .int (x2 - (nI 9)), .int x1] (LAY, RFu r, mem) (Bk P 157 [.ref 108, .int x1, .int x2] [] (0, 0))) : P 151 [.ref 108, .int x1, .int x2] [] (0, 0) (LAY, RFu r, mem) := by
  refine r_aload_n hP d182_151 rfl ?_
  refine r_iload_n hP d182_152 rfl ?_
  refine r_bipush (v := nI 9) hP d182_153 rfl ?_
  refine r_isub hP d182_155 ?_
  refine r_iload_n hP d182_156 rfl ?_
  exact r_callv (As := [.int (x2 - (nI 9)), .int x1]) (S := []) hP d182_157 cr_12_211 (by decide +kernel) rfl (by simp [Value.category]) rfl ly_108 (by simp [Value.category]) ⟨Nat.zero_le _, Nat.zero_le _⟩ k
theorem b182_160 {d : Nat} {P : xPr} {Q : xQr} {r : Nat} {mem : Nat → Nat → Int32} (hP : Cl d none 182 P Q) {v0 : Value} {v1 : Value} {v2 : Value} {y0 : Int32}
    (k : Q (some (.int y0)) (LAY, RFu r, mem)) : P 160 [v0, v1, v2] [.int y0] (0, 0) (LAY, RFu r, mem) := by
  exact r_iret hP d182_160 rfl k
theorem d183_0 : decode (xB 183) 0 = .ok (.aload_n 0, 1) := by decide +kernel
theorem d183_1 : decode (xB 183) 1 = .ok (.iconst 0, 1) := by decide +kernel
theorem d183_2 : decode (xB 183) 2 = .ok (.putfield 121, 3) := by decide +kernel
theorem d183_5 : decode (xB 183) 5 = .ok (.aload_n 0, 1) := by decide +kernel
theorem d183_6 : decode (xB 183) 6 = .ok (.iload_n 1, 1) := by decide +kernel
theorem d183_7 : decode (xB 183) 7 = .ok (.invokevirtual 214, 3) := by decide +kernel
theorem d183_10 : decode (xB 183) 10 = .ok (.ifCond .eq 13, 3) := by decide +kernel
theorem d183_13 : decode (xB 183) 13 = .ok (.iload_n 2, 1) := by decide +kernel
theorem d183_14 : decode (xB 183) 14 = .ok (.iconst 0, 1) := by decide +kernel
theorem d183_15 : decode (xB 183) 15 = .ok (.bipush 8, 2) := by decide +kernel
theorem d183_17 : decode (xB 183) 17 = .ok (.invokestatic 130, 3) := by decide +kernel
theorem d183_20 : decode (xB 183) 20 = .ok (.ifCond .ne 5, 3) := by decide +kernel
theorem d183_23 : decode (xB 183) 23 = .ok (.iconst (-1), 1) := by decide +kernel
theorem d183_24 : decode (xB 183) 24 = .ok (.ireturn, 1) := by decide +kernel
theorem d183_25 : decode (xB 183) 25 = .ok (.aload_n 0, 1) := by decide +kernel
theorem d183_26 : decode (xB 183) 26 = .ok (.getfield 9, 3) := by decide +kernel
theorem d183_29 : decode (xB 183) 29 = .ok (.iload_n 1, 1) := by decide +kernel
theorem d183_30 : decode (xB 183) 30 = .ok (.iaload, 1) := by decide +kernel
theorem d183_31 : decode (xB 183) 31 = .ok (.istore_n 3, 1) := by decide +kernel
theorem d183_32 : decode (xB 183) 32 = .ok (.aload_n 0, 1) := by decide +kernel
theorem d183_33 : decode (xB 183) 33 = .ok (.getfield 9, 3) := by decide +kernel
theorem d183_36 : decode (xB 183) 36 = .ok (.iload_n 1, 1) := by decide +kernel
theorem d183_37 : decode (xB 183) 37 = .ok (.iload_n 2, 1) := by decide +kernel
theorem d183_38 : decode (xB 183) 38 = .ok (.iastore, 1) := by decide +kernel
theorem d183_39 : decode (xB 183) 39 = .ok (.iload_n 3, 1) := by decide +kernel
theorem d183_40 : decode (xB 183) 40 = .ok (.ireturn, 1) := by decide +kernel
theorem b183_0 {d : Nat} {P : xPr} {Q : xQr} {r : Nat} {mem : Nat → Nat → Int32} (hP : Cl d none 183 P Q) {p0 : Int32} {p1 : Int32}
    (k : xCall d 164 [.ref 108, .int p0] (LAY, RFu r, xu2 mem 108 20 (nI 0)) (Bk P 7 [.ref 108, .int p0, .int p1, .null] [] (0, 0))) : P 0 [.ref 108, .int p0, .int p1, .null] [] (0, 0) (LAY, RFu r, mem) := by
  refine r_aload_n hP d183_0 rfl ?_
  refine r_iconst (v := nI 0) hP d183_1 rfl ?_
  refine r_puti hP d183_2 fr_12_121 rfl (fun q => by cases q) ly_108 ?_
  refine r_aload_n hP d183_5 rfl ?_
  refine r_iload_n hP d183_6 rfl ?_
  exact r_callv (As := [.int p0]) (S := []) hP d183_7 cr_12_214 (by decide +kernel) rfl (by simp [Value.category]) rfl ly_108 (by simp [Value.category]) ⟨Nat.zero_le _, Nat.zero_le _⟩ k
theorem b183_10 {d : Nat} {P : xPr} {Q : xQr} {r : Nat} {mem : Nat → Nat → Int32} (hP : Cl d none 183 P Q) {x1 : Int32} {x2 : Int32} {v3 : Value} {y0 : Int32}
    (kt : y0 = 0 → P 23 [.ref 108, .int x1, .int x2, v3] [] (0, 0) (LAY, RFu r, mem)) (kf : ¬ y0 = 0 → P 13 [.ref 108, .int x1, .int x2, v3] [] (0, 0) (LAY, RFu r, mem)) : P 10 [.ref 108, .int x1, .int x2, v3] [.int y0] (0, 0) (LAY, RFu r, mem) := by
  exact r_if (t := 23) hP d183_10 (by decide) kt kf
theorem b183_13 {d : Nat} {P : xPr} {Q : xQr} {r : Nat} {mem : Nat → Nat → Int32} (hP : Cl d none 183 P Q) {x1 : Int32} {x2 : Int32} {v3 : Value}
    (k : xCall d 158 [.int x2, .int (nI 0), .int (nI 8)] (LAY, RFu r, mem) (Bk P 17 [.ref 108, .int x1, .int x2, v3] [] (0, 0))) : P 13 [.ref 108, .int x1, .int x2, v3] [] (0, 0) (LAY, RFu r, mem) := by
  refine r_iload_n hP d183_13 rfl ?_
  refine r_iconst (v := nI 0) hP d183_14 rfl ?_
  refine r_bipush (v := nI 8) hP d183_15 rfl ?_
  exact r_calls (As := [.int x2, .int (nI 0), .int (nI 8)]) (S := []) hP d183_17 cr_12_130 (by decide +kernel) rfl (by simp [Value.category]) rfl (by simp [Value.category]) ⟨Nat.zero_le _, Nat.zero_le _⟩ k
theorem b183_20 {d : Nat} {P : xPr} {Q : xQr} {r : Nat} {mem : Nat → Nat → Int32} (hP : Cl d none 183 P Q) {x1 : Int32} {x2 : Int32} {v3 : Value} {y0 : Int32}
    (kt : ¬ y0 = 0 → P 25 [.ref 108, .int x1, .int x2, v3] [] (0, 0) (LAY, RFu r, mem)) (kf : y0 = 0 → P 23 [.ref 108, .int x1, .int x2, v3] [] (0, 0) (LAY, RFu r, mem)) : P 20 [.ref 108, .int x1, .int x2, v3] [.int y0] (0, 0) (LAY, RFu r, mem) := by
  exact r_if (t := 25) hP d183_20 (by decide) kt (fun q => kf (Decidable.of_not_not q))
theorem b183_23 {d : Nat} {P : xPr} {Q : xQr} {r : Nat} {mem : Nat → Nat → Int32} (hP : Cl d none 183 P Q) {v0 : Value} {v1 : Value} {v2 : Value} {v3 : Value}
    (k : Q (some (.int (-1))) (LAY, RFu r, mem)) : P 23 [v0, v1, v2, v3] [] (0, 0) (LAY, RFu r, mem) := by
  refine r_iconst (v := (-1)) hP d183_23 rfl ?_
  exact r_iret hP d183_24 rfl k
theorem b183_25 {d : Nat} {P : xPr} {Q : xQr} {r : Nat} {mem : Nat → Nat → Int32} (hP : Cl d none 183 P Q) {x1 : Int32} {x2 : Int32} {v3 : Value} (hi30 : vp_in x1 4) (hi38 : vp_in x1 4)
    (k : Q (some (.int (mem 109 x1.toNatClampNeg))) (LAY, RFu r, xu2 mem 109 x1.toNatClampNeg x2)) : P 25 [.ref 108, .int x1, .int x2, v3] [] (0, 0) (LAY, RFu r, mem) := by
  refine r_aload_n hP d183_25 rfl ?_
  refine r_getr (a := 109) hP d183_26 fr_12_9 rfl ly_108 rg_108_1 ?_
  refine r_iload_n hP d183_29 rfl ?_
  refine r_iaload hP d183_30 ly_109 hi30 ?_
  refine r_istore_n (L' := [.ref 108, .int x1, .int x2, .int (mem 109 x1.toNatClampNeg)]) hP d183_31 (Nat.le_of_ble_eq_true rfl) rfl ?_
  refine r_aload_n hP d183_32 rfl ?_
  refine r_getr (a := 109) hP d183_33 fr_12_9 rfl ly_108 rg_108_1 ?_
  refine r_iload_n hP d183_36 rfl ?_
  refine r_iload_n hP d183_37 rfl ?_
  refine r_iastore hP d183_38 ly_109 hi38 ?_
  refine r_iload_n hP d183_39 rfl ?_
  exact r_iret hP d183_40 rfl k
theorem d184_0 : decode (xB 184) 0 = .ok (.aload_n 0, 1) := by decide +kernel
theorem d184_1 : decode (xB 184) 1 = .ok (.iconst 0, 1) := by decide +kernel
theorem d184_2 : decode (xB 184) 2 = .ok (.putfield 121, 3) := by decide +kernel
theorem d184_5 : decode (xB 184) 5 = .ok (.aload_n 0, 1) := by decide +kernel
theorem d184_6 : decode (xB 184) 6 = .ok (.iload_n 1, 1) := by decide +kernel
theorem d184_7 : decode (xB 184) 7 = .ok (.invokevirtual 134, 3) := by decide +kernel
theorem d184_10 : decode (xB 184) 10 = .ok (.ifCond .ne 5, 3) := by decide +kernel
theorem d184_13 : decode (xB 184) 13 = .ok (.iconst 0, 1) := by decide +kernel
theorem d184_14 : decode (xB 184) 14 = .ok (.ireturn, 1) := by decide +kernel
theorem d184_15 : decode (xB 184) 15 = .ok (.aload_n 0, 1) := by decide +kernel
theorem d184_16 : decode (xB 184) 16 = .ok (.getfield 16, 3) := by decide +kernel
theorem d184_19 : decode (xB 184) 19 = .ok (.iload_n 1, 1) := by decide +kernel
theorem d184_20 : decode (xB 184) 20 = .ok (.iload_n 2, 1) := by decide +kernel
theorem d184_21 : decode (xB 184) 21 = .ok (.bastore, 1) := by decide +kernel
theorem d184_22 : decode (xB 184) 22 = .ok (.iconst 1, 1) := by decide +kernel
theorem d184_23 : decode (xB 184) 23 = .ok (.ireturn, 1) := by decide +kernel
theorem b184_0 {d : Nat} {P : xPr} {Q : xQr} {r : Nat} {mem : Nat → Nat → Int32} (hP : Cl d none 184 P Q) {p0 : Int32} {p1 : Int32}
    (k : xCall d 162 [.ref 108, .int p0] (LAY, RFu r, xu2 mem 108 20 (nI 0)) (Bk P 7 [.ref 108, .int p0, .int p1] [] (0, 0))) : P 0 [.ref 108, .int p0, .int p1] [] (0, 0) (LAY, RFu r, mem) := by
  refine r_aload_n hP d184_0 rfl ?_
  refine r_iconst (v := nI 0) hP d184_1 rfl ?_
  refine r_puti hP d184_2 fr_12_121 rfl (fun q => by cases q) ly_108 ?_
  refine r_aload_n hP d184_5 rfl ?_
  refine r_iload_n hP d184_6 rfl ?_
  exact r_callv (As := [.int p0]) (S := []) hP d184_7 cr_12_134 (by decide +kernel) rfl (by simp [Value.category]) rfl ly_108 (by simp [Value.category]) ⟨Nat.zero_le _, Nat.zero_le _⟩ k
theorem b184_10 {d : Nat} {P : xPr} {Q : xQr} {r : Nat} {mem : Nat → Nat → Int32} (hP : Cl d none 184 P Q) {x1 : Int32} {x2 : Int32} {y0 : Int32}
    (kt : ¬ y0 = 0 → P 15 [.ref 108, .int x1, .int x2] [] (0, 0) (LAY, RFu r, mem)) (kf : y0 = 0 → P 13 [.ref 108, .int x1, .int x2] [] (0, 0) (LAY, RFu r, mem)) : P 10 [.ref 108, .int x1, .int x2] [.int y0] (0, 0) (LAY, RFu r, mem) := by
  exact r_if (t := 15) hP d184_10 (by decide) kt (fun q => kf (Decidable.of_not_not q))
theorem b184_13 {d : Nat} {P : xPr} {Q : xQr} {r : Nat} {mem : Nat → Nat → Int32} (hP : Cl d none 184 P Q) {v0 : Value} {v1 : Value} {v2 : Value} (hzr : nI 0 = 0 ∨ nI 0 = 1)
    (k : Q (some (.int (nI 0))) (LAY, RFu r, mem)) : P 13 [v0, v1, v2] [] (0, 0) (LAY, RFu r, mem) := by
  refine r_iconst (v := nI 0) hP d184_13 rfl ?_
  exact r_zret hP d184_14 rfl hzr k
theorem b184_15 {d : Nat} {P : xPr} {Q : xQr} {r : Nat} {mem : Nat → Nat → Int32} (hP : Cl d none 184 P Q) {x1 : Int32} {x2 : Int32} (hi21 : vp_in x1 8) (hzr : nI 1 = 0 ∨ nI 1 = 1)
    (k : Q (some (.int (nI 1))) (LAY, RFu r, xu2 mem 111 x1.toNatClampNeg (xNar 15 x2))) : P 15 [.ref 108, .int x1, .int x2] [] (0, 0) (LAY, RFu r, mem) := by
  refine r_aload_n hP d184_15 rfl ?_
  refine r_getr (a := 111) hP d184_16 fr_12_16 rfl ly_108 rg_108_4 ?_
  refine r_iload_n hP d184_19 rfl ?_
  refine r_iload_n hP d184_20 rfl ?_
  refine r_bastore hP d184_21 (by decide) ly_111 hi21 ?_
  refine r_iconst (v := nI 1) hP d184_22 rfl ?_
  exact r_zret hP d184_23 rfl hzr k
theorem d185_0 : decode (xB 185) 0 = .ok (.aload_n 0, 1) := by decide +kernel
theorem d185_1 : decode (xB 185) 1 = .ok (.iconst 0, 1) := by decide +kernel
theorem d185_2 : decode (xB 185) 2 = .ok (.putfield 121, 3) := by decide +kernel
theorem d185_5 : decode (xB 185) 5 = .ok (.iload_n 1, 1) := by decide +kernel
theorem d185_6 : decode (xB 185) 6 = .ok (.iconst 0, 1) := by decide +kernel
theorem d185_7 : decode (xB 185) 7 = .ok (.iconst 3, 1) := by decide +kernel
theorem d185_8 : decode (xB 185) 8 = .ok (.invokestatic 130, 3) := by decide +kernel
theorem d185_11 : decode (xB 185) 11 = .ok (.ifCond .eq 9, 3) := by decide +kernel
theorem d185_14 : decode (xB 185) 14 = .ok (.iload_n 2, 1) := by decide +kernel
theorem d185_15 : decode (xB 185) 15 = .ok (.bipush 8, 2) := by decide +kernel
theorem d185_17 : decode (xB 185) 17 = .ok (.if_icmp .le 5, 3) := by decide +kernel
theorem d185_20 : decode (xB 185) 20 = .ok (.iconst (-1), 1) := by decide +kernel
theorem d185_21 : decode (xB 185) 21 = .ok (.ireturn, 1) := by decide +kernel
theorem d185_22 : decode (xB 185) 22 = .ok (.iload_n 1, 1) := by decide +kernel
theorem d185_23 : decode (xB 185) 23 = .ok (.iconst 3, 1) := by decide +kernel
theorem d185_24 : decode (xB 185) 24 = .ok (.if_icmp .ge 10, 3) := by decide +kernel
theorem d185_27 : decode (xB 185) 27 = .ok (.iload_n 2, 1) := by decide +kernel
theorem d185_28 : decode (xB 185) 28 = .ok (.ifCond .ge 6, 3) := by decide +kernel
theorem d185_31 : decode (xB 185) 31 = .ok (.bipush (-2), 2) := by decide +kernel
theorem d185_33 : decode (xB 185) 33 = .ok (.ireturn, 1) := by decide +kernel
theorem d185_34 : decode (xB 185) 34 = .ok (.iconst 0, 1) := by decide +kernel
theorem d185_35 : decode (xB 185) 35 = .ok (.istore 5, 2) := by decide +kernel
theorem d185_37 : decode (xB 185) 37 = .ok (.iload_n 3, 1) := by decide +kernel
theorem d185_38 : decode (xB 185) 38 = .ok (.istore 6, 2) := by decide +kernel
theorem d185_40 : decode (xB 185) 40 = .ok (.iconst 0, 1) := by decide +kernel
theorem d185_41 : decode (xB 185) 41 = .ok (.istore 7, 2) := by decide +kernel
theorem d185_43 : decode (xB 185) 43 = .ok (.iload 7, 2) := by decide +kernel
theorem d185_45 : decode (xB 185) 45 = .ok (.aload_n 0, 1) := by decide +kernel
theorem d185_46 : decode (xB 185) 46 = .ok (.getfield 127, 3) := by decide +kernel
theorem d185_49 : decode (xB 185) 49 = .ok (.if_icmp .ge 86, 3) := by decide +kernel
theorem d185_52 : decode (xB 185) 52 = .ok (.iload_n 1, 1) := by decide +kernel
theorem d185_53 : decode (xB 185) 53 = .ok (.ifCond .ne 9, 3) := by decide +kernel
theorem d185_56 : decode (xB 185) 56 = .ok (.iload 6, 2) := by decide +kernel
theorem d185_58 : decode (xB 185) 58 = .ok (.i2b, 1) := by decide +kernel
theorem d185_59 : decode (xB 185) 59 = .ok (.goto 16, 3) := by decide +kernel
theorem d185_62 : decode (xB 185) 62 = .ok (.iload_n 1, 1) := by decide +kernel
theorem d185_63 : decode (xB 185) 63 = .ok (.iconst 1, 1) := by decide +kernel
theorem d185_64 : decode (xB 185) 64 = .ok (.if_icmp .ne 9, 3) := by decide +kernel
theorem d185_67 : decode (xB 185) 67 = .ok (.iload 6, 2) := by decide +kernel
theorem d185_69 : decode (xB 185) 69 = .ok (.i2s, 1) := by decide +kernel
theorem d185_70 : decode (xB 185) 70 = .ok (.goto 5, 3) := by decide +kernel
theorem d185_73 : decode (xB 185) 73 = .ok (.iload 6, 2) := by decide +kernel
theorem d185_75 : decode (xB 185) 75 = .ok (.istore 8, 2) := by decide +kernel
theorem d185_77 : decode (xB 185) 77 = .ok (.aload_n 0, 1) := by decide +kernel
theorem d185_78 : decode (xB 185) 78 = .ok (.getfield 13, 3) := by decide +kernel
theorem d185_81 : decode (xB 185) 81 = .ok (.iload 7, 2) := by decide +kernel
theorem d185_83 : decode (xB 185) 83 = .ok (.iload_n 1, 1) := by decide +kernel
theorem d185_84 : decode (xB 185) 84 = .ok (.iconst 3, 1) := by decide +kernel
theorem d185_85 : decode (xB 185) 85 = .ok (.if_icmp .eq 9, 3) := by decide +kernel
theorem d185_88 : decode (xB 185) 88 = .ok (.iload 7, 2) := by decide +kernel
theorem d185_90 : decode (xB 185) 90 = .ok (.iload_n 2, 1) := by decide +kernel
theorem d185_91 : decode (xB 185) 91 = .ok (.if_icmp .lt 7, 3) := by decide +kernel
theorem d185_94 : decode (xB 185) 94 = .ok (.iconst 0, 1) := by decide +kernel
theorem d185_95 : decode (xB 185) 95 = .ok (.goto 14, 3) := by decide +kernel
theorem d185_98 : decode (xB 185) 98 = .ok (.iconst 0, 1) := by decide +kernel
theorem d185_99 : decode (xB 185) 99 = .ok (.bipush 99, 2) := by decide +kernel
theorem d185_101 : decode (xB 185) 101 = .ok (.iload 8, 2) := by decide +kernel
theorem d185_103 : decode (xB 185) 103 = .ok (.invokestatic 217, 3) := by decide +kernel
theorem d185_106 : decode (xB 185) 106 = .ok (.invokestatic 222, 3) := by decide +kernel
theorem d185_109 : decode (xB 185) 109 = .ok (.iastore, 1) := by decide +kernel
theorem d185_110 : decode (xB 185) 110 = .ok (.iload 5, 2) := by decide +kernel
theorem d185_112 : decode (xB 185) 112 = .ok (.aload_n 0, 1) := by decide +kernel
theorem d185_113 : decode (xB 185) 113 = .ok (.getfield 13, 3) := by decide +kernel
theorem d185_116 : decode (xB 185) 116 = .ok (.iload 7, 2) := by decide +kernel
theorem d185_118 : decode (xB 185) 118 = .ok (.iaload, 1) := by decide +kernel
theorem d185_119 : decode (xB 185) 119 = .ok (.iadd, 1) := by decide +kernel
theorem d185_120 : decode (xB 185) 120 = .ok (.istore 5, 2) := by decide +kernel
theorem d185_122 : decode (xB 185) 122 = .ok (.iload 6, 2) := by decide +kernel
theorem d185_124 : decode (xB 185) 124 = .ok (.iload 4, 2) := by decide +kernel
theorem d185_126 : decode (xB 185) 126 = .ok (.iadd, 1) := by decide +kernel
theorem d185_127 : decode (xB 185) 127 = .ok (.istore 6, 2) := by decide +kernel
theorem d185_129 : decode (xB 185) 129 = .ok (.iinc 7 1, 3) := by decide +kernel
theorem d185_132 : decode (xB 185) 132 = .ok (.goto (-89), 3) := by decide +kernel
theorem d185_135 : decode (xB 185) 135 = .ok (.iload_n 1, 1) := by decide +kernel
theorem d185_136 : decode (xB 185) 136 = .ok (.iconst 3, 1) := by decide +kernel
theorem d185_137 : decode (xB 185) 137 = .ok (.if_icmp .ne 8, 3) := by decide +kernel
theorem d185_140 : decode (xB 185) 140 = .ok (.bipush (-3), 2) := by decide +kernel
theorem d185_142 : decode (xB 185) 142 = .ok (.goto 5, 3) := by decide +kernel
theorem d185_145 : decode (xB 185) 145 = .ok (.iload 5, 2) := by decide +kernel
theorem d185_147 : decode (xB 185) 147 = .ok (.ireturn, 1) := by decide +kernel
theorem b185_0 {d : Nat} {P : xPr} {Q : xQr} {r : Nat} {mem : Nat → Nat → Int32} (hP : Cl d none 185 P Q) {p0 : Int32} {p1 : Int32} {p2 : Int32} {p3 : Int32}
    (k : xCall d 158 [.int p0, .int (nI 0), .int (nI 3)] (LAY, RFu r, xu2 mem 108 20 (nI 0)) (Bk P 8 [.ref 108, .int p0, .int p1, .int p2, .int p3, .null, .null, .null, .null] [] (0, 0))) : P 0 [.ref 108, .int p0, .int p1, .int p2, .int p3, .null, .null, .null, .null] [] (0, 0) (LAY, RFu r, mem) := by
  refine r_aload_n hP d185_0 rfl ?_
  refine r_iconst (v := nI 0) hP d185_1 rfl ?_
  refine r_puti hP d185_2 fr_12_121 rfl (fun q => by cases q) ly_108 ?_
  refine r_iload_n hP d185_5 rfl ?_
  refine r_iconst (v := nI 0) hP d185_6 rfl ?_
  refine r_iconst (v := nI 3) hP d185_7 rfl ?_
  exact r_calls (As := [.int p0, .int (nI 0), .int (nI 3)]) (S := []) hP d185_8 cr_12_130 (by decide +kernel) rfl (by simp [Value.category]) rfl (by simp [Value.category]) ⟨Nat.zero_le _, Nat.zero_le _⟩ k
theorem b185_11 {d : Nat} {P : xPr} {Q : xQr} {r : Nat} {mem : Nat → Nat → Int32} (hP : Cl d none 185 P Q) {x1 : Int32} {x2 : Int32} {x3 : Int32} {x4 : Int32} {v5 : Value} {v6 : Value} {v7 : Value} {v8 : Value} {y0 : Int32}
    (kt : y0 = 0 → P 20 [.ref 108, .int x1, .int x2, .int x3, .int x4, v5, v6, v7, v8] [] (0, 0) (LAY, RFu r, mem)) (kf : ¬ y0 = 0 → P 14 [.ref 108, .int x1, .int x2, .int x3, .int x4, v5, v6, v7, v8] [] (0, 0) (LAY, RFu r, mem)) : P 11 [.ref 108, .int x1, .int x2, .int x3, .int x4, v5, v6, v7, v8] [.int y0] (0, 0) (LAY, RFu r, mem) := by
  exact r_if (t := 20) hP d185_11 (by decide) kt kf
theorem b185_14 {d : Nat} {P : xPr} {Q : xQr} {r : Nat} {mem : Nat → Nat → Int32} (hP : Cl d none 185 P Q) {x1 : Int32} {x2 : Int32} {x3 : Int32} {x4 : Int32} {v5 : Value} {v6 : Value} {v7 : Value} {v8 : Value}
    (kt : x2 ≤ (nI 8) → P 22 [.ref 108, .int x1, .int x2, .int x3, .int x4, v5, v6, v7, v8] [] (0, 0) (LAY, RFu r, mem)) (kf : ¬ x2 ≤ (nI 8) → P 20 [.ref 108, .int x1, .int x2, .int x3, .int x4, v5, v6, v7, v8] [] (0, 0) (LAY, RFu r, mem)) : P 14 [.ref 108, .int x1, .int x2, .int x3, .int x4, v5, v6, v7, v8] [] (0, 0) (LAY, RFu r, mem) := by
  refine r_iload_n hP d185_14 rfl ?_
  refine r_bipush (v := nI 8) hP d185_15 rfl ?_
  exact r_icmp (t := 22) hP d185_17 (by decide) kt kf
theorem b185_20 {d : Nat} {P : xPr} {Q : xQr} {r : Nat} {mem : Nat → Nat → Int32} (hP : Cl d none 185 P Q) {v0 : Value} {v1 : Value} {v2 : Value} {v3 : Value} {v4 : Value} {v5 : Value} {v6 : Value} {v7 : Value} {v8 : Value}
    (k : Q (some (.int (-1))) (LAY, RFu r, mem)) : P 20 [v0, v1, v2, v3, v4, v5, v6, v7, v8] [] (0, 0) (LAY, RFu r, mem) := by
  refine r_iconst (v := (-1)) hP d185_20 rfl ?_
  exact r_iret hP d185_21 rfl k
theorem b185_22 {d : Nat} {P : xPr} {Q : xQr} {r : Nat} {mem : Nat → Nat → Int32} (hP : Cl d none 185 P Q) {x1 : Int32} {x2 : Int32} {x3 : Int32} {x4 : Int32} {v5 : Value} {v6 : Value} {v7 : Value} {v8 : Value}
    (kt : (nI 3) ≤ x1 → P 34 [.ref 108, .int x1, .int x2, .int x3, .int x4, v5, v6, v7, v8] [] (0, 0) (LAY, RFu r, mem)) (kf : ¬ (nI 3) ≤ x1 → P 27 [.ref 108, .int x1, .int x2, .int x3, .int x4, v5, v6, v7, v8] [] (0, 0) (LAY, RFu r, mem)) : P 22 [.ref 108, .int x1, .int x2, .int x3, .int x4, v5, v6, v7, v8] [] (0, 0) (LAY, RFu r, mem) := by
  refine r_iload_n hP d185_22 rfl ?_
  refine r_iconst (v := nI 3) hP d185_23 rfl ?_
  exact r_icmp (t := 34) hP d185_24 (by decide) kt kf
theorem b185_27 {d : Nat} {P : xPr} {Q : xQr} {r : Nat} {mem : Nat → Nat → Int32} (hP : Cl d none 185 P Q) {x1 : Int32} {x2 : Int32} {x3 : Int32} {x4 : Int32} {v5 : Value} {v6 : Value} {v7 : Value} {v8 : Value}
    (kt : 0 ≤ x2 → P 34 [.ref 108, .int x1, .int x2, .int x3, .int x4, v5, v6, v7, v8] [] (0, 0) (LAY, RFu r, mem)) (kf : ¬ 0 ≤ x2 → P 31 [.ref 108, .int x1, .int x2, .int x3, .int x4, v5, v6, v7, v8] [] (0, 0) (LAY, RFu r, mem)) : P 27 [.ref 108, .int x1, .int x2, .int x3, .int x4, v5, v6, v7, v8] [] (0, 0) (LAY, RFu r, mem) := by
  refine r_iload_n hP d185_27 rfl ?_
  exact r_if (t := 34) hP d185_28 (by decide) kt kf
theorem b185_31 {d : Nat} {P : xPr} {Q : xQr} {r : Nat} {mem : Nat → Nat → Int32} (hP : Cl d none 185 P Q) {v0 : Value} {v1 : Value} {v2 : Value} {v3 : Value} {v4 : Value} {v5 : Value} {v6 : Value} {v7 : Value} {v8 : Value}
    (k : Q (some (.int (-2))) (LAY, RFu r, mem)) : P 31 [v0, v1, v2, v3, v4, v5, v6, v7, v8] [] (0, 0) (LAY, RFu r, mem) := by
  refine r_bipush (v := (-2)) hP d185_31 rfl ?_
  exact r_iret hP d185_33 rfl k
theorem b185_34 {d : Nat} {P : xPr} {Q : xQr} {r : Nat} {mem : Nat → Nat → Int32} (hP : Cl d none 185 P Q) {x1 : Int32} {x2 : Int32} {x3 : Int32} {x4 : Int32} {v5 : Value} {v6 : Value} {v7 : Value} {v8 : Value}
    (k : P 43 [.ref 108, .int x1, .int x2, .int x3, .int x4, .int (nI 0), .int x3, .int (nI 0), v8] [] (0, 0) (LAY, RFu r, mem)) : P 34 [.ref 108, .int x1, .int x2, .int x3, .int x4, v5, v6, v7, v8] [] (0, 0) (LAY, RFu r, mem) := by
  refine r_iconst (v := nI 0) hP d185_34 rfl ?_
  refine r_istore (L' := [.ref 108, .int x1, .int x2, .int x3, .int x4, .int (nI 0), v6, v7, v8]) hP d185_35 (Nat.le_of_ble_eq_true rfl) rfl ?_
  refine r_iload_n hP d185_37 rfl ?_
  refine r_istore (L' := [.ref 108, .int x1, .int x2, .int x3, .int x4, .int (nI 0), .int x3, v7, v8]) hP d185_38 (Nat.le_of_ble_eq_true rfl) rfl ?_
  refine r_iconst (v := nI 0) hP d185_40 rfl ?_
  refine r_istore (L' := [.ref 108, .int x1, .int x2, .int x3, .int x4, .int (nI 0), .int x3, .int (nI 0), v8]) hP d185_41 (Nat.le_of_ble_eq_true rfl) rfl ?_
  exact k
theorem b185_43 {d : Nat} {P : xPr} {Q : xQr} {r : Nat} {mem : Nat → Nat → Int32} (hP : Cl d none 185 P Q) {x1 : Int32} {x2 : Int32} {v3 : Value} {x4 : Int32} {x5 : Int32} {x6 : Int32} {x7 : Int32} {v8 : Value}
    (kt : (mem 108 2) ≤ x7 → P 135 [.ref 108, .int x1, .int x2, v3, .int x4, .int x5, .int x6, .int x7, v8] [] (0, 0) (LAY, RFu r, mem)) (kf : ¬ (mem 108 2) ≤ x7 → P 52 [.ref 108, .int x1, .int x2, v3, .int x4, .int x5, .int x6, .int x7, v8] [] (0, 0) (LAY, RFu r, mem)) : P 43 [.ref 108, .int x1, .int x2, v3, .int x4, .int x5, .int x6, .int x7, v8] [] (0, 0) (LAY, RFu r, mem) := by
  refine r_iload hP d185_43 rfl ?_
  refine r_aload_n hP d185_45 rfl ?_
  refine r_geti hP d185_46 fr_12_127 rfl ly_108 ?_
  exact r_icmp (t := 135) hP d185_49 (by decide) kt kf
theorem b185_52 {d : Nat} {P : xPr} {Q : xQr} {r : Nat} {mem : Nat → Nat → Int32} (hP : Cl d none 185 P Q) {x1 : Int32} {x2 : Int32} {v3 : Value} {x4 : Int32} {x5 : Int32} {x6 : Int32} {x7 : Int32} {v8 : Value}
    (kt : ¬ x1 = 0 → P 62 [.ref 108, .int x1, .int x2, v3, .int x4, .int x5, .int x6, .int x7, v8] [] (0, 0) (LAY, RFu r, mem)) (kf : x1 = 0 → P 56 [.ref 108, .int x1, .int x2, v3, .int x4, .int x5, .int x6, .int x7, v8] [] (0, 0) (LAY, RFu r, mem)) : P 52 [.ref 108, .int x1, .int x2, v3, .int x4, .int x5, .int x6, .int x7, v8] [] (0, 0) (LAY, RFu r, mem) := by
  refine r_iload_n hP d185_52 rfl ?_
  exact r_if (t := 62) hP d185_53 (by decide) kt (fun q => kf (Decidable.of_not_not q))
theorem b185_56 {d : Nat} {P : xPr} {Q : xQr} {r : Nat} {mem : Nat → Nat → Int32} (hP : Cl d none 185 P Q) {x1 : Int32} {x2 : Int32} {v3 : Value} {x4 : Int32} {x5 : Int32} {x6 : Int32} {x7 : Int32} {v8 : Value}
    (k : P 75 [.ref 108, .int x1, .int x2, v3, .int x4, .int x5, .int x6, .int x7, v8] [.int x6.toInt8.toInt32] (0, 0) (LAY, RFu r, mem)) : P 56 [.ref 108, .int x1, .int x2, v3, .int x4, .int x5, .int x6, .int x7, v8] [] (0, 0) (LAY, RFu r, mem) := by
  refine r_iload hP d185_56 rfl ?_
  refine r_i2b hP d185_58 ?_
  refine r_goto (t := 75) hP d185_59 (by decide) ?_
  exact k
theorem b185_62 {d : Nat} {P : xPr} {Q : xQr} {r : Nat} {mem : Nat → Nat → Int32} (hP : Cl d none 185 P Q) {x1 : Int32} {x2 : Int32} {v3 : Value} {x4 : Int32} {x5 : Int32} {x6 : Int32} {x7 : Int32} {v8 : Value}
    (kt : ¬ x1 = (nI 1) → P 73 [.ref 108, .int x1, .int x2, v3, .int x4, .int x5, .int x6, .int x7, v8] [] (0, 0) (LAY, RFu r, mem)) (kf : x1 = (nI 1) → P 67 [.ref 108, .int x1, .int x2, v3, .int x4, .int x5, .int x6, .int x7, v8] [] (0, 0) (LAY, RFu r, mem)) : P 62 [.ref 108, .int x1, .int x2, v3, .int x4, .int x5, .int x6, .int x7, v8] [] (0, 0) (LAY, RFu r, mem) := by
  refine r_iload_n hP d185_62 rfl ?_
  refine r_iconst (v := nI 1) hP d185_63 rfl ?_
  exact r_icmp (t := 73) hP d185_64 (by decide) kt (fun q => kf (Decidable.of_not_not q))
theorem b185_67 {d : Nat} {P : xPr} {Q : xQr} {r : Nat} {mem : Nat → Nat → Int32} (hP : Cl d none 185 P Q) {x1 : Int32} {x2 : Int32} {v3 : Value} {x4 : Int32} {x5 : Int32} {x6 : Int32} {x7 : Int32} {v8 : Value}
    (k : P 75 [.ref 108, .int x1, .int x2, v3, .int x4, .int x5, .int x6, .int x7, v8] [.int x6.toInt16.toInt32] (0, 0) (LAY, RFu r, mem)) : P 67 [.ref 108, .int x1, .int x2, v3, .int x4, .int x5, .int x6, .int x7, v8] [] (0, 0) (LAY, RFu r, mem) := by
  refine r_iload hP d185_67 rfl ?_
  refine r_i2s hP d185_69 ?_
  refine r_goto (t := 75) hP d185_70 (by decide) ?_
  exact k
theorem b185_73 {d : Nat} {P : xPr} {Q : xQr} {r : Nat} {mem : Nat → Nat → Int32} (hP : Cl d none 185 P Q) {x1 : Int32} {x2 : Int32} {v3 : Value} {x4 : Int32} {x5 : Int32} {x6 : Int32} {x7 : Int32} {v8 : Value}
    (k : P 75 [.ref 108, .int x1, .int x2, v3, .int x4, .int x5, .int x6, .int x7, v8] [.int x6] (0, 0) (LAY, RFu r, mem)) : P 73 [.ref 108, .int x1, .int x2, v3, .int x4, .int x5, .int x6, .int x7, v8] [] (0, 0) (LAY, RFu r, mem) := by
  refine r_iload hP d185_73 rfl ?_
  exact k
theorem b185_75 {d : Nat} {P : xPr} {Q : xQr} {r : Nat} {mem : Nat → Nat → Int32} (hP : Cl d none 185 P Q) {x1 : Int32} {x2 : Int32} {v3 : Value} {x4 : Int32} {x5 : Int32} {x6 : Int32} {x7 : Int32} {v8 : Value} {y0 : Int32}
    (kt : x1 = (nI 3) → P 94 [.ref 108, .int x1, .int x2, v3, .int x4, .int x5, .int x6, .int x7, .int y0] [.int x7, .ref 110] (0, 0) (LAY, RFu r, mem)) (kf : ¬ x1 = (nI 3) → P 88 [.ref 108, .int x1, .int x2, v3, .int x4, .int x5, .int x6, .int x7, .int y0] [.int x7, .ref 110] (0, 0) (LAY, RFu r, mem)) : P 75 [.ref 108, .int x1, .int x2, v3, .int x4, .int x5, .int x6, .int x7, v8] [.int y0] (0, 0) (LAY, RFu r, mem) := by
  refine r_istore (L' := [.ref 108, .int x1, .int x2, v3, .int x4, .int x5, .int x6, .int x7, .int y0]) hP d185_75 (Nat.le_of_ble_eq_true rfl) rfl ?_
  refine r_aload_n hP d185_77 rfl ?_
  refine r_getr (a := 110) hP d185_78 fr_12_13 rfl ly_108 rg_108_3 ?_
  refine r_iload hP d185_81 rfl ?_
  refine r_iload_n hP d185_83 rfl ?_
  refine r_iconst (v := nI 3) hP d185_84 rfl ?_
  exact r_icmp (t := 94) hP d185_85 (by decide) kt kf
theorem b185_88 {d : Nat} {P : xPr} {Q : xQr} {r : Nat} {mem : Nat → Nat → Int32} (hP : Cl d none 185 P Q) {x1 : Int32} {x2 : Int32} {v3 : Value} {x4 : Int32} {x5 : Int32} {x6 : Int32} {x7 : Int32} {x8 : Int32} {y1 : Int32}
    (kt : x7 < x2 → P 98 [.ref 108, .int x1, .int x2, v3, .int x4, .int x5, .int x6, .int x7, .int x8] [.int y1, .ref 110] (0, 0) (LAY, RFu r, mem)) (kf : ¬ x7 < x2 → P 94 [.ref 108, .int x1, .int x2, v3, .int x4, .int x5, .int x6, .int x7, .int x8] [.int y1, .ref 110] (0, 0) (LAY, RFu r, mem)) : P 88 [.ref 108, .int x1, .int x2, v3, .int x4, .int x5, .int x6, .int x7, .int x8] [.int y1, .ref 110] (0, 0) (LAY, RFu r, mem) := by
  refine r_iload hP d185_88 rfl ?_
  refine r_iload_n hP d185_90 rfl ?_
  exact r_icmp (t := 98) hP d185_91 (by decide) kt kf
theorem b185_94 {d : Nat} {P : xPr} {Q : xQr} {r : Nat} {mem : Nat → Nat → Int32} (hP : Cl d none 185 P Q) {x1 : Int32} {x2 : Int32} {v3 : Value} {x4 : Int32} {x5 : Int32} {x6 : Int32} {x7 : Int32} {v8 : Value} {y1 : Int32}
    (k : P 109 [.ref 108, .int x1, .int x2, v3, .int x4, .int x5, .int x6, .int x7, v8] [.int (nI 0), .int y1, .ref 110] (0, 0) (LAY, RFu r, mem)) : P 94 [.ref 108, .int x1, .int x2, v3, .int x4, .int x5, .int x6, .int x7, v8] [.int y1, .ref 110] (0, 0) (LAY, RFu r, mem) := by
  refine r_iconst (v := nI 0) hP d185_94 rfl ?_
  refine r_goto (t := 109) hP d185_95 (by decide) ?_
  exact k
theorem b185_98 {d : Nat} {P : xPr} {Q : xQr} {r : Nat} {mem : Nat → Nat → Int32} (hP : Cl d none 185 P Q) {x1 : Int32} {x2 : Int32} {v3 : Value} {x4 : Int32} {x5 : Int32} {x6 : Int32} {x7 : Int32} {x8 : Int32} {y1 : Int32}
    (k : P 109 [.ref 108, .int x1, .int x2, v3, .int x4, .int x5, .int x6, .int x7, .int x8] [.int (if nI 0 < if x8 < nI 99 then x8 else nI 99 then if x8 < nI 99 then x8 else nI 99 else nI 0), .int y1, .ref 110] (0, 0) (LAY, RFu r, mem)) : P 98 [.ref 108, .int x1, .int x2, v3, .int x4, .int x5, .int x6, .int x7, .int x8] [.int y1, .ref 110] (0, 0) (LAY, RFu r, mem) := by
  refine r_iconst (v := nI 0) hP d185_98 rfl ?_
  refine r_bipush (v := nI 99) hP d185_99 rfl ?_
  refine r_iload hP d185_101 rfl ?_
  refine r_min hP d185_103 cr_12_217 (by simp [Value.category]) ?_
  refine r_max hP d185_106 cr_12_222 (by simp [Value.category]) ?_
  exact k
theorem b185_109 {d : Nat} {P : xPr} {Q : xQr} {r : Nat} {mem : Nat → Nat → Int32} (hP : Cl d none 185 P Q) {x1 : Int32} {x2 : Int32} {v3 : Value} {x4 : Int32} {x5 : Int32} {x6 : Int32} {x7 : Int32} {v8 : Value} {y1 : Int32} {y2 : Int32} (hi109 : vp_in y1 8) (hi118 : vp_in x7 8)
    (k : P 43 [.ref 108, .int x1, .int x2, v3, .int x4, .int (x5 + ((xu2 mem 110 y1.toNatClampNeg y2) 110 x7.toNatClampNeg)), .int (x6 + x4), .int (x7 + nI 1), v8] [] (0, 0) (LAY, RFu r, xu2 mem 110 y1.toNatClampNeg y2)) : P 109 [.ref 108, .int x1, .int x2, v3, .int x4, .int x5, .int x6, .int x7, v8] [.int y2, .int y1, .ref 110] (0, 0) (LAY, RFu r, mem) := by
  refine r_iastore hP d185_109 ly_110 hi109 ?_
  refine r_iload hP d185_110 rfl ?_
  refine r_aload_n hP d185_112 rfl ?_
  refine r_getr (a := 110) hP d185_113 fr_12_13 rfl ly_108 rg_108_3 ?_
  refine r_iload hP d185_116 rfl ?_
  refine r_iaload hP d185_118 ly_110 hi118 ?_
  refine r_iadd hP d185_119 ?_
  refine r_istore (L' := [.ref 108, .int x1, .int x2, v3, .int x4, .int (x5 + ((xu2 mem 110 y1.toNatClampNeg y2) 110 x7.toNatClampNeg)), .int x6, .int x7, v8]) hP d185_120 (Nat.le_of_ble_eq_true rfl) rfl ?_
  refine r_iload hP d185_122 rfl ?_
  refine r_iload hP d185_124 rfl ?_
  refine r_iadd hP d185_126 ?_
  refine r_istore (L' := [.ref 108, .int x1, .int x2, v3, .int x4, .int (x5 + ((xu2 mem 110 y1.toNatClampNeg y2) 110 x7.toNatClampNeg)), .int (x6 + x4), .int x7, v8]) hP d185_127 (Nat.le_of_ble_eq_true rfl) rfl ?_
  refine r_iinc (v := nI 1) (L' := [.ref 108, .int x1, .int x2, v3, .int x4, .int (x5 + ((xu2 mem 110 y1.toNatClampNeg y2) 110 x7.toNatClampNeg)), .int (x6 + x4), .int (x7 + nI 1), v8]) hP d185_129 rfl rfl rfl ?_
  refine r_goto (t := 43) hP d185_132 (by decide) ?_
  exact k
theorem b185_135 {d : Nat} {P : xPr} {Q : xQr} {r : Nat} {mem : Nat → Nat → Int32} (hP : Cl d none 185 P Q) {v0 : Value} {x1 : Int32} {v2 : Value} {v3 : Value} {v4 : Value} {x5 : Int32} {v6 : Value} {v7 : Value} {v8 : Value}
    (kt : ¬ x1 = (nI 3) → P 145 [v0, .int x1, v2, v3, v4, .int x5, v6, v7, v8] [] (0, 0) (LAY, RFu r, mem)) (kf : x1 = (nI 3) → P 140 [v0, .int x1, v2, v3, v4, .int x5, v6, v7, v8] [] (0, 0) (LAY, RFu r, mem)) : P 135 [v0, .int x1, v2, v3, v4, .int x5, v6, v7, v8] [] (0, 0) (LAY, RFu r, mem) := by
  refine r_iload_n hP d185_135 rfl ?_
  refine r_iconst (v := nI 3) hP d185_136 rfl ?_
  exact r_icmp (t := 145) hP d185_137 (by decide) kt (fun q => kf (Decidable.of_not_not q))
theorem b185_140 {d : Nat} {P : xPr} {Q : xQr} {r : Nat} {mem : Nat → Nat → Int32} (hP : Cl d none 185 P Q) {v0 : Value} {v1 : Value} {v2 : Value} {v3 : Value} {v4 : Value} {v5 : Value} {v6 : Value} {v7 : Value} {v8 : Value}
    (k : P 147 [v0, v1, v2, v3, v4, v5, v6, v7, v8] [.int (-3)] (0, 0) (LAY, RFu r, mem)) : P 140 [v0, v1, v2, v3, v4, v5, v6, v7, v8] [] (0, 0) (LAY, RFu r, mem) := by
  refine r_bipush (v := (-3)) hP d185_140 rfl ?_
  refine r_goto (t := 147) hP d185_142 (by decide) ?_
  exact k
theorem b185_145 {d : Nat} {P : xPr} {Q : xQr} {r : Nat} {mem : Nat → Nat → Int32} (hP : Cl d none 185 P Q) {v0 : Value} {v1 : Value} {v2 : Value} {v3 : Value} {v4 : Value} {x5 : Int32} {v6 : Value} {v7 : Value} {v8 : Value}
    (k : P 147 [v0, v1, v2, v3, v4, .int x5, v6, v7, v8] [.int x5] (0, 0) (LAY, RFu r, mem)) : P 145 [v0, v1, v2, v3, v4, .int x5, v6, v7, v8] [] (0, 0) (LAY, RFu r, mem) := by
  refine r_iload hP d185_145 rfl ?_
  exact k
theorem b185_147 {d : Nat} {P : xPr} {Q : xQr} {r : Nat} {mem : Nat → Nat → Int32} (hP : Cl d none 185 P Q) {v0 : Value} {v1 : Value} {v2 : Value} {v3 : Value} {v4 : Value} {v5 : Value} {v6 : Value} {v7 : Value} {v8 : Value} {y0 : Int32}
    (k : Q (some (.int y0)) (LAY, RFu r, mem)) : P 147 [v0, v1, v2, v3, v4, v5, v6, v7, v8] [.int y0] (0, 0) (LAY, RFu r, mem) := by
  exact r_iret hP d185_147 rfl k
theorem d186_0 : decode (xB 186) 0 = .ok (.aload_n 0, 1) := by decide +kernel
theorem d186_1 : decode (xB 186) 1 = .ok (.getfield 69, 3) := by decide +kernel
theorem d186_4 : decode (xB 186) 4 = .ok (.iload_n 1, 1) := by decide +kernel
theorem d186_5 : decode (xB 186) 5 = .ok (.iaload, 1) := by decide +kernel
theorem d186_6 : decode (xB 186) 6 = .ok (.bipush 99, 2) := by decide +kernel
theorem d186_8 : decode (xB 186) 8 = .ok (.if_icmp .eq 12, 3) := by decide +kernel
theorem d186_11 : decode (xB 186) 11 = .ok (.aload_n 0, 1) := by decide +kernel
theorem d186_12 : decode (xB 186) 12 = .ok (.getfield 69, 3) := by decide +kernel
theorem d186_15 : decode (xB 186) 15 = .ok (.iload_n 1, 1) := by decide +kernel
theorem d186_16 : decode (xB 186) 16 = .ok (.iaload, 1) := by decide +kernel
theorem d186_17 : decode (xB 186) 17 = .ok (.goto 44, 3) := by decide +kernel
theorem d186_20 : decode (xB 186) 20 = .ok (.aload_n 0, 1) := by decide +kernel
theorem d186_21 : decode (xB 186) 21 = .ok (.getfield 23, 3) := by decide +kernel
theorem d186_24 : decode (xB 186) 24 = .ok (.iload_n 1, 1) := by decide +kernel
theorem d186_25 : decode (xB 186) 25 = .ok (.iaload, 1) := by decide +kernel
theorem d186_26 : decode (xB 186) 26 = .ok (.ifCond .ne 7, 3) := by decide +kernel
theorem d186_29 : decode (xB 186) 29 = .ok (.iconst (-1), 1) := by decide +kernel
theorem d186_30 : decode (xB 186) 30 = .ok (.goto 31, 3) := by decide +kernel
theorem d186_33 : decode (xB 186) 33 = .ok (.aload_n 0, 1) := by decide +kernel
theorem d186_34 : decode (xB 186) 34 = .ok (.getfield 20, 3) := by decide +kernel
theorem d186_37 : decode (xB 186) 37 = .ok (.bipush 24, 2) := by decide +kernel
theorem d186_39 : decode (xB 186) 39 = .ok (.iload_n 1, 1) := by decide +kernel
theorem d186_40 : decode (xB 186) 40 = .ok (.imul, 1) := by decide +kernel
theorem d186_41 : decode (xB 186) 41 = .ok (.aload_n 0, 1) := by decide +kernel
theorem d186_42 : decode (xB 186) 42 = .ok (.getfield 225, 3) := by decide +kernel
theorem d186_45 : decode (xB 186) 45 = .ok (.aload_n 0, 1) := by decide +kernel
theorem d186_46 : decode (xB 186) 46 = .ok (.getfield 72, 3) := by decide +kernel
theorem d186_49 : decode (xB 186) 49 = .ok (.iload_n 1, 1) := by decide +kernel
theorem d186_50 : decode (xB 186) 50 = .ok (.iaload, 1) := by decide +kernel
theorem d186_51 : decode (xB 186) 51 = .ok (.iadd, 1) := by decide +kernel
theorem d186_52 : decode (xB 186) 52 = .ok (.aload_n 0, 1) := by decide +kernel
theorem d186_53 : decode (xB 186) 53 = .ok (.getfield 23, 3) := by decide +kernel
theorem d186_56 : decode (xB 186) 56 = .ok (.iload_n 1, 1) := by decide +kernel
theorem d186_57 : decode (xB 186) 57 = .ok (.iaload, 1) := by decide +kernel
theorem d186_58 : decode (xB 186) 58 = .ok (.irem, 1) := by decide +kernel
theorem d186_59 : decode (xB 186) 59 = .ok (.iadd, 1) := by decide +kernel
theorem d186_60 : decode (xB 186) 60 = .ok (.iaload, 1) := by decide +kernel
theorem d186_61 : decode (xB 186) 61 = .ok (.istore_n 2, 1) := by decide +kernel
theorem d186_62 : decode (xB 186) 62 = .ok (.iload_n 2, 1) := by decide +kernel
theorem d186_63 : decode (xB 186) 63 = .ok (.iconst (-1), 1) := by decide +kernel
theorem d186_64 : decode (xB 186) 64 = .ok (.if_icmp .eq 18, 3) := by decide +kernel
theorem d186_67 : decode (xB 186) 67 = .ok (.iload_n 2, 1) := by decide +kernel
theorem d186_68 : decode (xB 186) 68 = .ok (.aload_n 0, 1) := by decide +kernel
theorem d186_69 : decode (xB 186) 69 = .ok (.getfield 75, 3) := by decide +kernel
theorem d186_72 : decode (xB 186) 72 = .ok (.if_icmp .ne 10, 3) := by decide +kernel
theorem d186_75 : decode (xB 186) 75 = .ok (.aload_n 0, 1) := by decide +kernel
theorem d186_76 : decode (xB 186) 76 = .ok (.getfield 228, 3) := by decide +kernel
theorem d186_79 : decode (xB 186) 79 = .ok (.goto 4, 3) := by decide +kernel
theorem d186_82 : decode (xB 186) 82 = .ok (.iload_n 2, 1) := by decide +kernel
theorem d186_83 : decode (xB 186) 83 = .ok (.ireturn, 1) := by decide +kernel
theorem b186_0 {d : Nat} {P : xPr} {Q : xQr} {r : Nat} {mem : Nat → Nat → Int32} (hP : Cl d none 186 P Q) {p0 : Int32} (hi5 : vp_in p0 8)
    (kt : (mem 128 p0.toNatClampNeg) = (nI 99) → P 20 [.ref 108, .int p0, .null] [] (0, 0) (LAY, RFu r, mem)) (kf : ¬ (mem 128 p0.toNatClampNeg) = (nI 99) → P 11 [.ref 108, .int p0, .null] [] (0, 0) (LAY, RFu r, mem)) : P 0 [.ref 108, .int p0, .null] [] (0, 0) (LAY, RFu r, mem) := by
  refine r_aload_n hP d186_0 rfl ?_
  refine r_getr (a := 128) hP d186_1 fr_12_69 rfl ly_108 rg_108_30 ?_
  refine r_iload_n hP d186_4 rfl ?_
  refine r_iaload hP d186_5 ly_128 hi5 ?_
  refine r_bipush (v := nI 99) hP d186_6 rfl ?_
  exact r_icmp (t := 20) hP d186_8 (by decide) kt kf
theorem b186_11 {d : Nat} {P : xPr} {Q : xQr} {r : Nat} {mem : Nat → Nat → Int32} (hP : Cl d none 186 P Q) {x1 : Int32} {v2 : Value} (hi16 : vp_in x1 8)
    (k : P 61 [.ref 108, .int x1, v2] [.int (mem 128 x1.toNatClampNeg)] (0, 0) (LAY, RFu r, mem)) : P 11 [.ref 108, .int x1, v2] [] (0, 0) (LAY, RFu r, mem) := by
  refine r_aload_n hP d186_11 rfl ?_
  refine r_getr (a := 128) hP d186_12 fr_12_69 rfl ly_108 rg_108_30 ?_
  refine r_iload_n hP d186_15 rfl ?_
  refine r_iaload hP d186_16 ly_128 hi16 ?_
  refine r_goto (t := 61) hP d186_17 (by decide) ?_
  exact k
theorem b186_20 {d : Nat} {P : xPr} {Q : xQr} {r : Nat} {mem : Nat → Nat → Int32} (hP : Cl d none 186 P Q) {x1 : Int32} {v2 : Value} (hi25 : vp_in x1 8)
    (kt : ¬ (mem 113 x1.toNatClampNeg) = 0 → P 33 [.ref 108, .int x1, v2] [] (0, 0) (LAY, RFu r, mem)) (kf : (mem 113 x1.toNatClampNeg) = 0 → P 29 [.ref 108, .int x1, v2] [] (0, 0) (LAY, RFu r, mem)) : P 20 [.ref 108, .int x1, v2] [] (0, 0) (LAY, RFu r, mem) := by
  refine r_aload_n hP d186_20 rfl ?_
  refine r_getr (a := 113) hP d186_21 fr_12_23 rfl ly_108 rg_108_6 ?_
  refine r_iload_n hP d186_24 rfl ?_
  refine r_iaload hP d186_25 ly_113 hi25 ?_
  exact r_if (t := 33) hP d186_26 (by decide) kt (fun q => kf (Decidable.of_not_not q))
theorem b186_29 {d : Nat} {P : xPr} {Q : xQr} {r : Nat} {mem : Nat → Nat → Int32} (hP : Cl d none 186 P Q) {v1 : Value} {v2 : Value}
    (k : P 61 [.ref 108, v1, v2] [.int (-1)] (0, 0) (LAY, RFu r, mem)) : P 29 [.ref 108, v1, v2] [] (0, 0) (LAY, RFu r, mem) := by
  refine r_iconst (v := (-1)) hP d186_29 rfl ?_
  refine r_goto (t := 61) hP d186_30 (by decide) ?_
  exact k
theorem b186_33 {d : Nat} {P : xPr} {Q : xQr} {r : Nat} {mem : Nat → Nat → Int32} (hP : Cl d none 186 P Q) {x1 : Int32} {v2 : Value} (hi50 : vp_in x1 8) (hi57 : vp_in x1 8) (hz58 : ¬ (mem 113 x1.toNatClampNeg) = 0) (hi60 : vp_in (((nI 24) * x1) + (((mem 108 15) + (mem 129 x1.toNatClampNeg)) - ((mem 108 15) + (mem 129 x1.toNatClampNeg)) / (mem 113 x1.toNatClampNeg) * (mem 113 x1.toNatClampNeg))) 192)
    (k : P 61 [.ref 108, .int x1, v2] [.int (mem 112 (((nI 24) * x1) + (((mem 108 15) + (mem 129 x1.toNatClampNeg)) - ((mem 108 15) + (mem 129 x1.toNatClampNeg)) / (mem 113 x1.toNatClampNeg) * (mem 113 x1.toNatClampNeg))).toNatClampNeg)] (0, 0) (LAY, RFu r, mem)) : P 33 [.ref 108, .int x1, v2] [] (0, 0) (LAY, RFu r, mem) := by
  refine r_aload_n hP d186_33 rfl ?_
  refine r_getr (a := 112) hP d186_34 fr_12_20 rfl ly_108 rg_108_5 ?_
  refine r_bipush (v := nI 24) hP d186_37 rfl ?_
  refine r_iload_n hP d186_39 rfl ?_
  refine r_imul hP d186_40 ?_
  refine r_aload_n hP d186_41 rfl ?_
  refine r_geti hP d186_42 fr_12_225 rfl ly_108 ?_
  refine r_aload_n hP d186_45 rfl ?_
  refine r_getr (a := 129) hP d186_46 fr_12_72 rfl ly_108 rg_108_31 ?_
  refine r_iload_n hP d186_49 rfl ?_
  refine r_iaload hP d186_50 ly_129 hi50 ?_
  refine r_iadd hP d186_51 ?_
  refine r_aload_n hP d186_52 rfl ?_
  refine r_getr (a := 113) hP d186_53 fr_12_23 rfl ly_108 rg_108_6 ?_
  refine r_iload_n hP d186_56 rfl ?_
  refine r_iaload hP d186_57 ly_113 hi57 ?_
  refine r_irem hP d186_58 hz58 ?_
  refine r_iadd hP d186_59 ?_
  refine r_iaload hP d186_60 ly_112 hi60 ?_
  exact k
theorem b186_61 {d : Nat} {P : xPr} {Q : xQr} {r : Nat} {mem : Nat → Nat → Int32} (hP : Cl d none 186 P Q) {v1 : Value} {v2 : Value} {y0 : Int32}
    (kt : y0 = (-1) → P 82 [.ref 108, v1, .int y0] [] (0, 0) (LAY, RFu r, mem)) (kf : ¬ y0 = (-1) → P 67 [.ref 108, v1, .int y0] [] (0, 0) (LAY, RFu r, mem)) : P 61 [.ref 108, v1, v2] [.int y0] (0, 0) (LAY, RFu r, mem) := by
  refine r_istore_n (L' := [.ref 108, v1, .int y0]) hP d186_61 (Nat.le_of_ble_eq_true rfl) rfl ?_
  refine r_iload_n hP d186_62 rfl ?_
  refine r_iconst (v := (-1)) hP d186_63 rfl ?_
  exact r_icmp (t := 82) hP d186_64 (by decide) kt kf
theorem b186_67 {d : Nat} {P : xPr} {Q : xQr} {r : Nat} {mem : Nat → Nat → Int32} (hP : Cl d none 186 P Q) {v1 : Value} {x2 : Int32}
    (kt : ¬ x2 = (mem 108 32) → P 82 [.ref 108, v1, .int x2] [] (0, 0) (LAY, RFu r, mem)) (kf : x2 = (mem 108 32) → P 75 [.ref 108, v1, .int x2] [] (0, 0) (LAY, RFu r, mem)) : P 67 [.ref 108, v1, .int x2] [] (0, 0) (LAY, RFu r, mem) := by
  refine r_iload_n hP d186_67 rfl ?_
  refine r_aload_n hP d186_68 rfl ?_
  refine r_geti hP d186_69 fr_12_75 rfl ly_108 ?_
  exact r_icmp (t := 82) hP d186_72 (by decide) kt (fun q => kf (Decidable.of_not_not q))
theorem b186_75 {d : Nat} {P : xPr} {Q : xQr} {r : Nat} {mem : Nat → Nat → Int32} (hP : Cl d none 186 P Q) {v1 : Value} {v2 : Value}
    (k : P 83 [.ref 108, v1, v2] [.int (mem 108 33)] (0, 0) (LAY, RFu r, mem)) : P 75 [.ref 108, v1, v2] [] (0, 0) (LAY, RFu r, mem) := by
  refine r_aload_n hP d186_75 rfl ?_
  refine r_geti hP d186_76 fr_12_228 rfl ly_108 ?_
  refine r_goto (t := 83) hP d186_79 (by decide) ?_
  exact k
theorem b186_82 {d : Nat} {P : xPr} {Q : xQr} {r : Nat} {mem : Nat → Nat → Int32} (hP : Cl d none 186 P Q) {v0 : Value} {v1 : Value} {x2 : Int32}
    (k : P 83 [v0, v1, .int x2] [.int x2] (0, 0) (LAY, RFu r, mem)) : P 82 [v0, v1, .int x2] [] (0, 0) (LAY, RFu r, mem) := by
  refine r_iload_n hP d186_82 rfl ?_
  exact k
theorem b186_83 {d : Nat} {P : xPr} {Q : xQr} {r : Nat} {mem : Nat → Nat → Int32} (hP : Cl d none 186 P Q) {v0 : Value} {v1 : Value} {v2 : Value} {y0 : Int32}
    (k : Q (some (.int y0)) (LAY, RFu r, mem)) : P 83 [v0, v1, v2] [.int y0] (0, 0) (LAY, RFu r, mem) := by
  exact r_iret hP d186_83 rfl k
theorem d187_0 : decode (xB 187) 0 = .ok (.iconst (-1), 1) := by decide +kernel
theorem d187_1 : decode (xB 187) 1 = .ok (.istore 5, 2) := by decide +kernel
theorem d187_3 : decode (xB 187) 3 = .ok (.iconst 0, 1) := by decide +kernel
theorem d187_4 : decode (xB 187) 4 = .ok (.istore 6, 2) := by decide +kernel
theorem d187_6 : decode (xB 187) 6 = .ok (.iconst 0, 1) := by decide +kernel
theorem d187_7 : decode (xB 187) 7 = .ok (.istore 7, 2) := by decide +kernel
theorem d187_9 : decode (xB 187) 9 = .ok (.iload 7, 2) := by decide +kernel
theorem d187_11 : decode (xB 187) 11 = .ok (.aload_n 0, 1) := by decide +kernel
theorem d187_12 : decode (xB 187) 12 = .ok (.getfield 127, 3) := by decide +kernel
theorem d187_15 : decode (xB 187) 15 = .ok (.if_icmp .ge 115, 3) := by decide +kernel
theorem d187_18 : decode (xB 187) 18 = .ok (.aload_n 0, 1) := by decide +kernel
theorem d187_19 : decode (xB 187) 19 = .ok (.getfield 26, 3) := by decide +kernel
theorem d187_22 : decode (xB 187) 22 = .ok (.iload 7, 2) := by decide +kernel
theorem d187_24 : decode (xB 187) 24 = .ok (.iaload, 1) := by decide +kernel
theorem d187_25 : decode (xB 187) 25 = .ok (.iload_n 1, 1) := by decide +kernel
theorem d187_26 : decode (xB 187) 26 = .ok (.if_icmp .ne 98, 3) := by decide +kernel
theorem d187_29 : decode (xB 187) 29 = .ok (.aload_n 0, 1) := by decide +kernel
theorem d187_30 : decode (xB 187) 30 = .ok (.getfield 29, 3) := by decide +kernel
theorem d187_33 : decode (xB 187) 33 = .ok (.iload 7, 2) := by decide +kernel
theorem d187_35 : decode (xB 187) 35 = .ok (.iaload, 1) := by decide +kernel
theorem d187_36 : decode (xB 187) 36 = .ok (.iload_n 2, 1) := by decide +kernel
theorem d187_37 : decode (xB 187) 37 = .ok (.if_icmp .eq 6, 3) := by decide +kernel
theorem d187_40 : decode (xB 187) 40 = .ok (.goto 84, 3) := by decide +kernel
theorem d187_43 : decode (xB 187) 43 = .ok (.iload 4, 2) := by decide +kernel
theorem d187_45 : decode (xB 187) 45 = .ok (.ifCond .eq 46, 3) := by decide +kernel
theorem d187_48 : decode (xB 187) 48 = .ok (.iload_n 2, 1) := by decide +kernel
theorem d187_49 : decode (xB 187) 49 = .ok (.iconst 1, 1) := by decide +kernel
theorem d187_50 : decode (xB 187) 50 = .ok (.if_icmp .ne 27, 3) := by decide +kernel
theorem d187_53 : decode (xB 187) 53 = .ok (.aload_n 0, 1) := by decide +kernel
theorem d187_54 : decode (xB 187) 54 = .ok (.getfield 32, 3) := by decide +kernel
theorem d187_57 : decode (xB 187) 57 = .ok (.iload 7, 2) := by decide +kernel
theorem d187_59 : decode (xB 187) 59 = .ok (.iaload, 1) := by decide +kernel
theorem d187_60 : decode (xB 187) 60 = .ok (.iconst 1, 1) := by decide +kernel
theorem d187_61 : decode (xB 187) 61 = .ok (.if_icmp .lt 63, 3) := by decide +kernel
theorem d187_64 : decode (xB 187) 64 = .ok (.aload_n 0, 1) := by decide +kernel
theorem d187_65 : decode (xB 187) 65 = .ok (.getfield 16, 3) := by decide +kernel
theorem d187_68 : decode (xB 187) 68 = .ok (.iload 7, 2) := by decide +kernel
theorem d187_70 : decode (xB 187) 70 = .ok (.baload, 1) := by decide +kernel
theorem d187_71 : decode (xB 187) 71 = .ok (.ifCond .eq 20, 3) := by decide +kernel
theorem d187_74 : decode (xB 187) 74 = .ok (.goto 50, 3) := by decide +kernel
theorem d187_77 : decode (xB 187) 77 = .ok (.aload_n 0, 1) := by decide +kernel
theorem d187_78 : decode (xB 187) 78 = .ok (.getfield 35, 3) := by decide +kernel
theorem d187_81 : decode (xB 187) 81 = .ok (.iload 7, 2) := by decide +kernel
theorem d187_83 : decode (xB 187) 83 = .ok (.iaload, 1) := by decide +kernel
theorem d187_84 : decode (xB 187) 84 = .ok (.iconst 1, 1) := by decide +kernel
theorem d187_85 : decode (xB 187) 85 = .ok (.if_icmp .ge 6, 3) := by decide +kernel
theorem d187_88 : decode (xB 187) 88 = .ok (.goto 36, 3) := by decide +kernel
theorem d187_91 : decode (xB 187) 91 = .ok (.aload_n 0, 1) := by decide +kernel
theorem d187_92 : decode (xB 187) 92 = .ok (.iload_n 3, 1) := by decide +kernel
theorem d187_93 : decode (xB 187) 93 = .ok (.iload 7, 2) := by decide +kernel
theorem d187_95 : decode (xB 187) 95 = .ok (.invokevirtual 211, 3) := by decide +kernel
theorem d187_98 : decode (xB 187) 98 = .ok (.istore 8, 2) := by decide +kernel
theorem d187_100 : decode (xB 187) 100 = .ok (.iload 5, 2) := by decide +kernel
theorem d187_102 : decode (xB 187) 102 = .ok (.iconst (-1), 1) := by decide +kernel
theorem d187_103 : decode (xB 187) 103 = .ok (.if_icmp .eq 13, 3) := by decide +kernel
theorem d187_106 : decode (xB 187) 106 = .ok (.iload 8, 2) := by decide +kernel
theorem d187_108 : decode (xB 187) 108 = .ok (.iload 6, 2) := by decide +kernel
theorem d187_110 : decode (xB 187) 110 = .ok (.if_icmp .gt 6, 3) := by decide +kernel
theorem d187_113 : decode (xB 187) 113 = .ok (.goto 11, 3) := by decide +kernel
theorem d187_116 : decode (xB 187) 116 = .ok (.iload 7, 2) := by decide +kernel
theorem d187_118 : decode (xB 187) 118 = .ok (.istore 5, 2) := by decide +kernel
theorem d187_120 : decode (xB 187) 120 = .ok (.iload 8, 2) := by decide +kernel
theorem d187_122 : decode (xB 187) 122 = .ok (.istore 6, 2) := by decide +kernel
theorem d187_124 : decode (xB 187) 124 = .ok (.iinc 7 1, 3) := by decide +kernel
theorem d187_127 : decode (xB 187) 127 = .ok (.goto (-118), 3) := by decide +kernel
theorem d187_130 : decode (xB 187) 130 = .ok (.iload 5, 2) := by decide +kernel
theorem d187_132 : decode (xB 187) 132 = .ok (.ireturn, 1) := by decide +kernel
theorem b187_0 {d : Nat} {P : xPr} {Q : xQr} {r : Nat} {mem : Nat → Nat → Int32} (hP : Cl d none 187 P Q) {p0 : Int32} {p1 : Int32} {p2 : Int32} {p3 : Int32}
    (k : P 9 [.ref 108, .int p0, .int p1, .int p2, .int p3, .int (-1), .int (nI 0), .int (nI 0), .null] [] (0, 0) (LAY, RFu r, mem)) : P 0 [.ref 108, .int p0, .int p1, .int p2, .int p3, .null, .null, .null, .null] [] (0, 0) (LAY, RFu r, mem) := by
  refine r_iconst (v := (-1)) hP d187_0 rfl ?_
  refine r_istore (L' := [.ref 108, .int p0, .int p1, .int p2, .int p3, .int (-1), .null, .null, .null]) hP d187_1 (Nat.le_of_ble_eq_true rfl) rfl ?_
  refine r_iconst (v := nI 0) hP d187_3 rfl ?_
  refine r_istore (L' := [.ref 108, .int p0, .int p1, .int p2, .int p3, .int (-1), .int (nI 0), .null, .null]) hP d187_4 (Nat.le_of_ble_eq_true rfl) rfl ?_
  refine r_iconst (v := nI 0) hP d187_6 rfl ?_
  refine r_istore (L' := [.ref 108, .int p0, .int p1, .int p2, .int p3, .int (-1), .int (nI 0), .int (nI 0), .null]) hP d187_7 (Nat.le_of_ble_eq_true rfl) rfl ?_
  exact k
theorem b187_9 {d : Nat} {P : xPr} {Q : xQr} {r : Nat} {mem : Nat → Nat → Int32} (hP : Cl d none 187 P Q) {x1 : Int32} {x2 : Int32} {x3 : Int32} {x4 : Int32} {x5 : Int32} {x6 : Int32} {x7 : Int32} {v8 : Value}
    (kt : (mem 108 2) ≤ x7 → P 130 [.ref 108, .int x1, .int x2, .int x3, .int x4, .int x5, .int x6, .int x7, v8] [] (0, 0) (LAY, RFu r, mem)) (kf : ¬ (mem 108 2) ≤ x7 → P 18 [.ref 108, .int x1, .int x2, .int x3, .int x4, .int x5, .int x6, .int x7, v8] [] (0, 0) (LAY, RFu r, mem)) : P 9 [.ref 108, .int x1, .int x2, .int x3, .int x4, .int x5, .int x6, .int x7, v8] [] (0, 0) (LAY, RFu r, mem) := by
  refine r_iload hP d187_9 rfl ?_
  refine r_aload_n hP d187_11 rfl ?_
  refine r_geti hP d187_12 fr_12_127 rfl ly_108 ?_
  exact r_icmp (t := 130) hP d187_15 (by decide) kt kf
theorem b187_18 {d : Nat} {P : xPr} {Q : xQr} {r : Nat} {mem : Nat → Nat → Int32} (hP : Cl d none 187 P Q) {x1 : Int32} {x2 : Int32} {x3 : Int32} {x4 : Int32} {x5 : Int32} {x6 : Int32} {x7 : Int32} {v8 : Value} (hi24 : vp_in x7 8)
    (kt : ¬ (mem 114 x7.toNatClampNeg) = x1 → P 124 [.ref 108, .int x1, .int x2, .int x3, .int x4, .int x5, .int x6, .int x7, v8] [] (0, 0) (LAY, RFu r, mem)) (kf : (mem 114 x7.toNatClampNeg) = x1 → P 29 [.ref 108, .int x1, .int x2, .int x3, .int x4, .int x5, .int x6, .int x7, v8] [] (0, 0) (LAY, RFu r, mem)) : P 18 [.ref 108, .int x1, .int x2, .int x3, .int x4, .int x5, .int x6, .int x7, v8] [] (0, 0) (LAY, RFu r, mem) := by
  refine r_aload_n hP d187_18 rfl ?_
  refine r_getr (a := 114) hP d187_19 fr_12_26 rfl ly_108 rg_108_7 ?_
  refine r_iload hP d187_22 rfl ?_
  refine r_iaload hP d187_24 ly_114 hi24 ?_
  refine r_iload_n hP d187_25 rfl ?_
  exact r_icmp (t := 124) hP d187_26 (by decide) kt (fun q => kf (Decidable.of_not_not q))
theorem b187_29 {d : Nat} {P : xPr} {Q : xQr} {r : Nat} {mem : Nat → Nat → Int32} (hP : Cl d none 187 P Q) {x1 : Int32} {x2 : Int32} {x3 : Int32} {x4 : Int32} {x5 : Int32} {x6 : Int32} {x7 : Int32} {v8 : Value} (hi35 : vp_in x7 8)
    (kt : (mem 115 x7.toNatClampNeg) = x2 → P 43 [.ref 108, .int x1, .int x2, .int x3, .int x4, .int x5, .int x6, .int x7, v8] [] (0, 0) (LAY, RFu r, mem)) (kf : ¬ (mem 115 x7.toNatClampNeg) = x2 → P 40 [.ref 108, .int x1, .int x2, .int x3, .int x4, .int x5, .int x6, .int x7, v8] [] (0, 0) (LAY, RFu r, mem)) : P 29 [.ref 108, .int x1, .int x2, .int x3, .int x4, .int x5, .int x6, .int x7, v8] [] (0, 0) (LAY, RFu r, mem) := by
  refine r_aload_n hP d187_29 rfl ?_
  refine r_getr (a := 115) hP d187_30 fr_12_29 rfl ly_108 rg_108_8 ?_
  refine r_iload hP d187_33 rfl ?_
  refine r_iaload hP d187_35 ly_115 hi35 ?_
  refine r_iload_n hP d187_36 rfl ?_
  exact r_icmp (t := 43) hP d187_37 (by decide) kt kf
theorem b187_40 {d : Nat} {P : xPr} {Q : xQr} {r : Nat} {mem : Nat → Nat → Int32} (hP : Cl d none 187 P Q) {x1 : Int32} {x2 : Int32} {x3 : Int32} {x4 : Int32} {x5 : Int32} {x6 : Int32} {x7 : Int32} {v8 : Value}
    (k : P 124 [.ref 108, .int x1, .int x2, .int x3, .int x4, .int x5, .int x6, .int x7, v8] [] (0, 0) (LAY, RFu r, mem)) : P 40 [.ref 108, .int x1, .int x2, .int x3, .int x4, .int x5, .int x6, .int x7, v8] [] (0, 0) (LAY, RFu r, mem) := by
  refine r_goto (t := 124) hP d187_40 (by decide) ?_
  exact k
theorem b187_43 {d : Nat} {P : xPr} {Q : xQr} {r : Nat} {mem : Nat → Nat → Int32} (hP : Cl d none 187 P Q) {x1 : Int32} {x2 : Int32} {x3 : Int32} {x4 : Int32} {x5 : Int32} {x6 : Int32} {x7 : Int32} {v8 : Value}
    (kt : x4 = 0 → P 91 [.ref 108, .int x1, .int x2, .int x3, .int x4, .int x5, .int x6, .int x7, v8] [] (0, 0) (LAY, RFu r, mem)) (kf : ¬ x4 = 0 → P 48 [.ref 108, .int x1, .int x2, .int x3, .int x4, .int x5, .int x6, .int x7, v8] [] (0, 0) (LAY, RFu r, mem)) : P 43 [.ref 108, .int x1, .int x2, .int x3, .int x4, .int x5, .int x6, .int x7, v8] [] (0, 0) (LAY, RFu r, mem) := by
  refine r_iload hP d187_43 rfl ?_
  exact r_if (t := 91) hP d187_45 (by decide) kt kf
theorem b187_48 {d : Nat} {P : xPr} {Q : xQr} {r : Nat} {mem : Nat → Nat → Int32} (hP : Cl d none 187 P Q) {x1 : Int32} {x2 : Int32} {x3 : Int32} {x4 : Int32} {x5 : Int32} {x6 : Int32} {x7 : Int32} {v8 : Value}
    (kt : ¬ x2 = (nI 1) → P 77 [.ref 108, .int x1, .int x2, .int x3, .int x4, .int x5, .int x6, .int x7, v8] [] (0, 0) (LAY, RFu r, mem)) (kf : x2 = (nI 1) → P 53 [.ref 108, .int x1, .int x2, .int x3, .int x4, .int x5, .int x6, .int x7, v8] [] (0, 0) (LAY, RFu r, mem)) : P 48 [.ref 108, .int x1, .int x2, .int x3, .int x4, .int x5, .int x6, .int x7, v8] [] (0, 0) (LAY, RFu r, mem) := by
  refine r_iload_n hP d187_48 rfl ?_
  refine r_iconst (v := nI 1) hP d187_49 rfl ?_
  exact r_icmp (t := 77) hP d187_50 (by decide) kt (fun q => kf (Decidable.of_not_not q))
theorem b187_53 {d : Nat} {P : xPr} {Q : xQr} {r : Nat} {mem : Nat → Nat → Int32} (hP : Cl d none 187 P Q) {x1 : Int32} {x2 : Int32} {x3 : Int32} {x4 : Int32} {x5 : Int32} {x6 : Int32} {x7 : Int32} {v8 : Value} (hi59 : vp_in x7 8)
    (kt : (mem 116 x7.toNatClampNeg) < (nI 1) → P 124 [.ref 108, .int x1, .int x2, .int x3, .int x4, .int x5, .int x6, .int x7, v8] [] (0, 0) (LAY, RFu r, mem)) (kf : ¬ (mem 116 x7.toNatClampNeg) < (nI 1) → P 64 [.ref 108, .int x1, .int x2, .int x3, .int x4, .int x5, .int x6, .int x7, v8] [] (0, 0) (LAY, RFu r, mem)) : P 53 [.ref 108, .int x1, .int x2, .int x3, .int x4, .int x5, .int x6, .int x7, v8] [] (0, 0) (LAY, RFu r, mem) := by
  refine r_aload_n hP d187_53 rfl ?_
  refine r_getr (a := 116) hP d187_54 fr_12_32 rfl ly_108 rg_108_9 ?_
  refine r_iload hP d187_57 rfl ?_
  refine r_iaload hP d187_59 ly_116 hi59 ?_
  refine r_iconst (v := nI 1) hP d187_60 rfl ?_
  exact r_icmp (t := 124) hP d187_61 (by decide) kt kf
theorem b187_64 {d : Nat} {P : xPr} {Q : xQr} {r : Nat} {mem : Nat → Nat → Int32} (hP : Cl d none 187 P Q) {x1 : Int32} {x2 : Int32} {x3 : Int32} {x4 : Int32} {x5 : Int32} {x6 : Int32} {x7 : Int32} {v8 : Value} (hi70 : vp_in x7 8)
    (kt : (mem 111 x7.toNatClampNeg) = 0 → P 91 [.ref 108, .int x1, .int x2, .int x3, .int x4, .int x5, .int x6, .int x7, v8] [] (0, 0) (LAY, RFu r, mem)) (kf : ¬ (mem 111 x7.toNatClampNeg) = 0 → P 74 [.ref 108, .int x1, .int x2, .int x3, .int x4, .int x5, .int x6, .int x7, v8] [] (0, 0) (LAY, RFu r, mem)) : P 64 [.ref 108, .int x1, .int x2, .int x3, .int x4, .int x5, .int x6, .int x7, v8] [] (0, 0) (LAY, RFu r, mem) := by
  refine r_aload_n hP d187_64 rfl ?_
  refine r_getr (a := 111) hP d187_65 fr_12_16 rfl ly_108 rg_108_4 ?_
  refine r_iload hP d187_68 rfl ?_
  refine r_baload hP d187_70 (by decide) ly_111 hi70 ?_
  exact r_if (t := 91) hP d187_71 (by decide) kt kf
theorem b187_74 {d : Nat} {P : xPr} {Q : xQr} {r : Nat} {mem : Nat → Nat → Int32} (hP : Cl d none 187 P Q) {x1 : Int32} {x2 : Int32} {x3 : Int32} {x4 : Int32} {x5 : Int32} {x6 : Int32} {x7 : Int32} {v8 : Value}
    (k : P 124 [.ref 108, .int x1, .int x2, .int x3, .int x4, .int x5, .int x6, .int x7, v8] [] (0, 0) (LAY, RFu r, mem)) : P 74 [.ref 108, .int x1, .int x2, .int x3, .int x4, .int x5, .int x6, .int x7, v8] [] (0, 0) (LAY, RFu r, mem) := by
  refine r_goto (t := 124) hP d187_74 (by decide) ?_
  exact k
theorem b187_77 {d : Nat} {P : xPr} {Q : xQr} {r : Nat} {mem : Nat → Nat → Int32} (hP : Cl d none 187 P Q) {x1 : Int32} {x2 : Int32} {x3 : Int32} {x4 : Int32} {x5 : Int32} {x6 : Int32} {x7 : Int32} {v8 : Value} (hi83 : vp_in x7 8)
    (kt : (nI 1) ≤ (mem 117 x7.toNatClampNeg) → P 91 [.ref 108, .int x1, .int x2, .int x3, .int x4, .int x5, .int x6, .int x7, v8] [] (0, 0) (LAY, RFu r, mem)) (kf : ¬ (nI 1) ≤ (mem 117 x7.toNatClampNeg) → P 88 [.ref 108, .int x1, .int x2, .int x3, .int x4, .int x5, .int x6, .int x7, v8] [] (0, 0) (LAY, RFu r, mem)) : P 77 [.ref 108, .int x1, .int x2, .int x3, .int x4, .int x5, .int x6, .int x7, v8] [] (0, 0) (LAY, RFu r, mem) := by
  refine r_aload_n hP d187_77 rfl ?_
  refine r_getr (a := 117) hP d187_78 fr_12_35 rfl ly_108 rg_108_10 ?_
  refine r_iload hP d187_81 rfl ?_
  refine r_iaload hP d187_83 ly_117 hi83 ?_
  refine r_iconst (v := nI 1) hP d187_84 rfl ?_
  exact r_icmp (t := 91) hP d187_85 (by decide) kt kf
theorem b187_88 {d : Nat} {P : xPr} {Q : xQr} {r : Nat} {mem : Nat → Nat → Int32} (hP : Cl d none 187 P Q) {x1 : Int32} {x2 : Int32} {x3 : Int32} {x4 : Int32} {x5 : Int32} {x6 : Int32} {x7 : Int32} {v8 : Value}
    (k : P 124 [.ref 108, .int x1, .int x2, .int x3, .int x4, .int x5, .int x6, .int x7, v8] [] (0, 0) (LAY, RFu r, mem)) : P 88 [.ref 108, .int x1, .int x2, .int x3, .int x4, .int x5, .int x6, .int x7, v8] [] (0, 0) (LAY, RFu r, mem) := by
  refine r_goto (t := 124) hP d187_88 (by decide) ?_
  exact k
theorem b187_91 {d : Nat} {P : xPr} {Q : xQr} {r : Nat} {mem : Nat → Nat → Int32} (hP : Cl d none 187 P Q) {x1 : Int32} {x2 : Int32} {x3 : Int32} {x4 : Int32} {x5 : Int32} {x6 : Int32} {x7 : Int32} {v8 : Value}
    (k : xCall d 181 [.ref 108, .int x3, .int x7] (LAY, RFu r, mem) (Bk P 95 [.ref 108, .int x1, .int x2, .int x3, .int x4, .int x5, .int x6, .int x7, v8] [] (0, 0))) : P 91 [.ref 108, .int x1, .int x2, .int x3, .int x4, .int x5, .int x6, .int x7, v8] [] (0, 0) (LAY, RFu r, mem) := by
  refine r_aload_n hP d187_91 rfl ?_
  refine r_iload_n hP d187_92 rfl ?_
  refine r_iload hP d187_93 rfl ?_
  exact r_callv (As := [.int x3, .int x7]) (S := []) hP d187_95 cr_12_211 (by decide +kernel) rfl (by simp [Value.category]) rfl ly_108 (by simp [Value.category]) ⟨Nat.zero_le _, Nat.zero_le _⟩ k
theorem b187_98 {d : Nat} {P : xPr} {Q : xQr} {r : Nat} {mem : Nat → Nat → Int32} (hP : Cl d none 187 P Q) {x1 : Int32} {x2 : Int32} {x3 : Int32} {x4 : Int32} {x5 : Int32} {x6 : Int32} {x7 : Int32} {v8 : Value} {y0 : Int32}
    (kt : x5 = (-1) → P 116 [.ref 108, .int x1, .int x2, .int x3, .int x4, .int x5, .int x6, .int x7, .int y0] [] (0, 0) (LAY, RFu r, mem)) (kf : ¬ x5 = (-1) → P 106 [.ref 108, .int x1, .int x2, .int x3, .int x4, .int x5, .int x6, .int x7, .int y0] [] (0, 0) (LAY, RFu r, mem)) : P 98 [.ref 108, .int x1, .int x2, .int x3, .int x4, .int x5, .int x6, .int x7, v8] [.int y0] (0, 0) (LAY, RFu r, mem) := by
  refine r_istore (L' := [.ref 108, .int x1, .int x2, .int x3, .int x4, .int x5, .int x6, .int x7, .int y0]) hP d187_98 (Nat.le_of_ble_eq_true rfl) rfl ?_
  refine r_iload hP d187_100 rfl ?_
  refine r_iconst (v := (-1)) hP d187_102 rfl ?_
  exact r_icmp (t := 116) hP d187_103 (by decide) kt kf
theorem b187_106 {d : Nat} {P : xPr} {Q : xQr} {r : Nat} {mem : Nat → Nat → Int32} (hP : Cl d none 187 P Q) {x1 : Int32} {x2 : Int32} {x3 : Int32} {x4 : Int32} {x5 : Int32} {x6 : Int32} {x7 : Int32} {x8 : Int32}
    (kt : x6 < x8 → P 116 [.ref 108, .int x1, .int x2, .int x3, .int x4, .int x5, .int x6, .int x7, .int x8] [] (0, 0) (LAY, RFu r, mem)) (kf : ¬ x6 < x8 → P 113 [.ref 108, .int x1, .int x2, .int x3, .int x4, .int x5, .int x6, .int x7, .int x8] [] (0, 0) (LAY, RFu r, mem)) : P 106 [.ref 108, .int x1, .int x2, .int x3, .int x4, .int x5, .int x6, .int x7, .int x8] [] (0, 0) (LAY, RFu r, mem) := by
  refine r_iload hP d187_106 rfl ?_
  refine r_iload hP d187_108 rfl ?_
  exact r_icmp (t := 116) hP d187_110 (by decide) kt kf
theorem b187_113 {d : Nat} {P : xPr} {Q : xQr} {r : Nat} {mem : Nat → Nat → Int32} (hP : Cl d none 187 P Q) {x1 : Int32} {x2 : Int32} {x3 : Int32} {x4 : Int32} {x5 : Int32} {x6 : Int32} {x7 : Int32} {v8 : Value}
    (k : P 124 [.ref 108, .int x1, .int x2, .int x3, .int x4, .int x5, .int x6, .int x7, v8] [] (0, 0) (LAY, RFu r, mem)) : P 113 [.ref 108, .int x1, .int x2, .int x3, .int x4, .int x5, .int x6, .int x7, v8] [] (0, 0) (LAY, RFu r, mem) := by
  refine r_goto (t := 124) hP d187_113 (by decide) ?_
  exact k
theorem b187_116 {d : Nat} {P : xPr} {Q : xQr} {r : Nat} {mem : Nat → Nat → Int32} (hP : Cl d none 187 P Q) {x1 : Int32} {x2 : Int32} {x3 : Int32} {x4 : Int32} {v5 : Value} {v6 : Value} {x7 : Int32} {x8 : Int32}
    (k : P 124 [.ref 108, .int x1, .int x2, .int x3, .int x4, .int x7, .int x8, .int x7, .int x8] [] (0, 0) (LAY, RFu r, mem)) : P 116 [.ref 108, .int x1, .int x2, .int x3, .int x4, v5, v6, .int x7, .int x8] [] (0, 0) (LAY, RFu r, mem) := by
  refine r_iload hP d187_116 rfl ?_
  refine r_istore (L' := [.ref 108, .int x1, .int x2, .int x3, .int x4, .int x7, v6, .int x7, .int x8]) hP d187_118 (Nat.le_of_ble_eq_true rfl) rfl ?_
  refine r_iload hP d187_120 rfl ?_
  refine r_istore (L' := [.ref 108, .int x1, .int x2, .int x3, .int x4, .int x7, .int x8, .int x7, .int x8]) hP d187_122 (Nat.le_of_ble_eq_true rfl) rfl ?_
  exact k
theorem b187_124 {d : Nat} {P : xPr} {Q : xQr} {r : Nat} {mem : Nat → Nat → Int32} (hP : Cl d none 187 P Q) {x1 : Int32} {x2 : Int32} {x3 : Int32} {x4 : Int32} {x5 : Int32} {x6 : Int32} {x7 : Int32} {v8 : Value}
    (k : P 9 [.ref 108, .int x1, .int x2, .int x3, .int x4, .int x5, .int x6, .int (x7 + nI 1), v8] [] (0, 0) (LAY, RFu r, mem)) : P 124 [.ref 108, .int x1, .int x2, .int x3, .int x4, .int x5, .int x6, .int x7, v8] [] (0, 0) (LAY, RFu r, mem) := by
  refine r_iinc (v := nI 1) (L' := [.ref 108, .int x1, .int x2, .int x3, .int x4, .int x5, .int x6, .int (x7 + nI 1), v8]) hP d187_124 rfl rfl rfl ?_
  refine r_goto (t := 9) hP d187_127 (by decide) ?_
  exact k
theorem b187_130 {d : Nat} {P : xPr} {Q : xQr} {r : Nat} {mem : Nat → Nat → Int32} (hP : Cl d none 187 P Q) {v0 : Value} {v1 : Value} {v2 : Value} {v3 : Value} {v4 : Value} {x5 : Int32} {v6 : Value} {v7 : Value} {v8 : Value}
    (k : Q (some (.int x5)) (LAY, RFu r, mem)) : P 130 [v0, v1, v2, v3, v4, .int x5, v6, v7, v8] [] (0, 0) (LAY, RFu r, mem) := by
  refine r_iload hP d187_130 rfl ?_
  exact r_iret hP d187_132 rfl k
theorem d188_0 : decode (xB 188) 0 = .ok (.iconst 0, 1) := by decide +kernel
theorem d188_1 : decode (xB 188) 1 = .ok (.istore_n 2, 1) := by decide +kernel
theorem d188_2 : decode (xB 188) 2 = .ok (.iconst 0, 1) := by decide +kernel
theorem d188_3 : decode (xB 188) 3 = .ok (.istore_n 3, 1) := by decide +kernel
theorem d188_4 : decode (xB 188) 4 = .ok (.iload_n 3, 1) := by decide +kernel
theorem d188_5 : decode (xB 188) 5 = .ok (.aload_n 0, 1) := by decide +kernel
theorem d188_6 : decode (xB 188) 6 = .ok (.getfield 127, 3) := by decide +kernel
theorem d188_9 : decode (xB 188) 9 = .ok (.if_icmp .ge 37, 3) := by decide +kernel
theorem d188_12 : decode (xB 188) 12 = .ok (.iload_n 2, 1) := by decide +kernel
theorem d188_13 : decode (xB 188) 13 = .ok (.aload_n 0, 1) := by decide +kernel
theorem d188_14 : decode (xB 188) 14 = .ok (.getfield 26, 3) := by decide +kernel
theorem d188_17 : decode (xB 188) 17 = .ok (.iload_n 3, 1) := by decide +kernel
theorem d188_18 : decode (xB 188) 18 = .ok (.iaload, 1) := by decide +kernel
theorem d188_19 : decode (xB 188) 19 = .ok (.iload_n 1, 1) := by decide +kernel
theorem d188_20 : decode (xB 188) 20 = .ok (.if_icmp .ne 17, 3) := by decide +kernel
theorem d188_23 : decode (xB 188) 23 = .ok (.aload_n 0, 1) := by decide +kernel
theorem d188_24 : decode (xB 188) 24 = .ok (.getfield 29, 3) := by decide +kernel
theorem d188_27 : decode (xB 188) 27 = .ok (.iload_n 3, 1) := by decide +kernel
theorem d188_28 : decode (xB 188) 28 = .ok (.iaload, 1) := by decide +kernel
theorem d188_29 : decode (xB 188) 29 = .ok (.iconst 1, 1) := by decide +kernel
theorem d188_30 : decode (xB 188) 30 = .ok (.if_icmp .ne 7, 3) := by decide +kernel
theorem d188_33 : decode (xB 188) 33 = .ok (.iconst 1, 1) := by decide +kernel
theorem d188_34 : decode (xB 188) 34 = .ok (.goto 4, 3) := by decide +kernel
theorem d188_37 : decode (xB 188) 37 = .ok (.iconst 0, 1) := by decide +kernel
theorem d188_38 : decode (xB 188) 38 = .ok (.iadd, 1) := by decide +kernel
theorem d188_39 : decode (xB 188) 39 = .ok (.istore_n 2, 1) := by decide +kernel
theorem d188_40 : decode (xB 188) 40 = .ok (.iinc 3 1, 3) := by decide +kernel
theorem d188_43 : decode (xB 188) 43 = .ok (.goto (-39), 3) := by decide +kernel
theorem d188_46 : decode (xB 188) 46 = .ok (.iload_n 2, 1) := by decide +kernel
theorem d188_47 : decode (xB 188) 47 = .ok (.ireturn, 1) := by decide +kernel
theorem b188_0 {d : Nat} {P : xPr} {Q : xQr} {r : Nat} {mem : Nat → Nat → Int32} (hP : Cl d none 188 P Q) {p0 : Int32}
    (k : P 4 [.ref 108, .int p0, .int (nI 0), .int (nI 0)] [] (0, 0) (LAY, RFu r, mem)) : P 0 [.ref 108, .int p0, .null, .null] [] (0, 0) (LAY, RFu r, mem) := by
  refine r_iconst (v := nI 0) hP d188_0 rfl ?_
  refine r_istore_n (L' := [.ref 108, .int p0, .int (nI 0), .null]) hP d188_1 (Nat.le_of_ble_eq_true rfl) rfl ?_
  refine r_iconst (v := nI 0) hP d188_2 rfl ?_
  refine r_istore_n (L' := [.ref 108, .int p0, .int (nI 0), .int (nI 0)]) hP d188_3 (Nat.le_of_ble_eq_true rfl) rfl ?_
  exact k
theorem b188_4 {d : Nat} {P : xPr} {Q : xQr} {r : Nat} {mem : Nat → Nat → Int32} (hP : Cl d none 188 P Q) {x1 : Int32} {x2 : Int32} {x3 : Int32}
    (kt : (mem 108 2) ≤ x3 → P 46 [.ref 108, .int x1, .int x2, .int x3] [] (0, 0) (LAY, RFu r, mem)) (kf : ¬ (mem 108 2) ≤ x3 → P 12 [.ref 108, .int x1, .int x2, .int x3] [] (0, 0) (LAY, RFu r, mem)) : P 4 [.ref 108, .int x1, .int x2, .int x3] [] (0, 0) (LAY, RFu r, mem) := by
  refine r_iload_n hP d188_4 rfl ?_
  refine r_aload_n hP d188_5 rfl ?_
  refine r_geti hP d188_6 fr_12_127 rfl ly_108 ?_
  exact r_icmp (t := 46) hP d188_9 (by decide) kt kf
theorem b188_12 {d : Nat} {P : xPr} {Q : xQr} {r : Nat} {mem : Nat → Nat → Int32} (hP : Cl d none 188 P Q) {x1 : Int32} {x2 : Int32} {x3 : Int32} (hi18 : vp_in x3 8)
    (kt : ¬ (mem 114 x3.toNatClampNeg) = x1 → P 37 [.ref 108, .int x1, .int x2, .int x3] [.int x2] (0, 0) (LAY, RFu r, mem)) (kf : (mem 114 x3.toNatClampNeg) = x1 → P 23 [.ref 108, .int x1, .int x2, .int x3] [.int x2] (0, 0) (LAY, RFu r, mem)) : P 12 [.ref 108, .int x1, .int x2, .int x3] [] (0, 0) (LAY, RFu r, mem) := by
  refine r_iload_n hP d188_12 rfl ?_
  refine r_aload_n hP d188_13 rfl ?_
  refine r_getr (a := 114) hP d188_14 fr_12_26 rfl ly_108 rg_108_7 ?_
  refine r_iload_n hP d188_17 rfl ?_
  refine r_iaload hP d188_18 ly_114 hi18 ?_
  refine r_iload_n hP d188_19 rfl ?_
  exact r_icmp (t := 37) hP d188_20 (by decide) kt (fun q => kf (Decidable.of_not_not q))
theorem b188_23 {d : Nat} {P : xPr} {Q : xQr} {r : Nat} {mem : Nat → Nat → Int32} (hP : Cl d none 188 P Q) {x1 : Int32} {v2 : Value} {x3 : Int32} {y0 : Int32} (hi28 : vp_in x3 8)
    (kt : ¬ (mem 115 x3.toNatClampNeg) = (nI 1) → P 37 [.ref 108, .int x1, v2, .int x3] [.int y0] (0, 0) (LAY, RFu r, mem)) (kf : (mem 115 x3.toNatClampNeg) = (nI 1) → P 33 [.ref 108, .int x1, v2, .int x3] [.int y0] (0, 0) (LAY, RFu r, mem)) : P 23 [.ref 108, .int x1, v2, .int x3] [.int y0] (0, 0) (LAY, RFu r, mem) := by
  refine r_aload_n hP d188_23 rfl ?_
  refine r_getr (a := 115) hP d188_24 fr_12_29 rfl ly_108 rg_108_8 ?_
  refine r_iload_n hP d188_27 rfl ?_
  refine r_iaload hP d188_28 ly_115 hi28 ?_
  refine r_iconst (v := nI 1) hP d188_29 rfl ?_
  exact r_icmp (t := 37) hP d188_30 (by decide) kt (fun q => kf (Decidable.of_not_not q))
theorem b188_33 {d : Nat} {P : xPr} {Q : xQr} {r : Nat} {mem : Nat → Nat → Int32} (hP : Cl d none 188 P Q) {x1 : Int32} {v2 : Value} {x3 : Int32} {y0 : Int32}
    (k : P 38 [.ref 108, .int x1, v2, .int x3] [.int (nI 1), .int y0] (0, 0) (LAY, RFu r, mem)) : P 33 [.ref 108, .int x1, v2, .int x3] [.int y0] (0, 0) (LAY, RFu r, mem) := by
  refine r_iconst (v := nI 1) hP d188_33 rfl ?_
  refine r_goto (t := 38) hP d188_34 (by decide) ?_
  exact k
theorem b188_37 {d : Nat} {P : xPr} {Q : xQr} {r : Nat} {mem : Nat → Nat → Int32} (hP : Cl d none 188 P Q) {x1 : Int32} {v2 : Value} {x3 : Int32} {y0 : Int32}
    (k : P 38 [.ref 108, .int x1, v2, .int x3] [.int (nI 0), .int y0] (0, 0) (LAY, RFu r, mem)) : P 37 [.ref 108, .int x1, v2, .int x3] [.int y0] (0, 0) (LAY, RFu r, mem) := by
  refine r_iconst (v := nI 0) hP d188_37 rfl ?_
  exact k
theorem b188_38 {d : Nat} {P : xPr} {Q : xQr} {r : Nat} {mem : Nat → Nat → Int32} (hP : Cl d none 188 P Q) {x1 : Int32} {v2 : Value} {x3 : Int32} {y0 : Int32} {y1 : Int32}
    (k : P 4 [.ref 108, .int x1, .int (y0 + y1), .int (x3 + nI 1)] [] (0, 0) (LAY, RFu r, mem)) : P 38 [.ref 108, .int x1, v2, .int x3] [.int y1, .int y0] (0, 0) (LAY, RFu r, mem) := by
  refine r_iadd hP d188_38 ?_
  refine r_istore_n (L' := [.ref 108, .int x1, .int (y0 + y1), .int x3]) hP d188_39 (Nat.le_of_ble_eq_true rfl) rfl ?_
  refine r_iinc (v := nI 1) (L' := [.ref 108, .int x1, .int (y0 + y1), .int (x3 + nI 1)]) hP d188_40 rfl rfl rfl ?_
  refine r_goto (t := 4) hP d188_43 (by decide) ?_
  exact k
theorem b188_46 {d : Nat} {P : xPr} {Q : xQr} {r : Nat} {mem : Nat → Nat → Int32} (hP : Cl d none 188 P Q) {v0 : Value} {v1 : Value} {x2 : Int32} {v3 : Value}
    (k : Q (some (.int x2)) (LAY, RFu r, mem)) : P 46 [v0, v1, .int x2, v3] [] (0, 0) (LAY, RFu r, mem) := by
  refine r_iload_n hP d188_46 rfl ?_
  exact r_iret hP d188_47 rfl k
theorem d189_0 : decode (xB 189) 0 = .ok (.aload_n 0, 1) := by decide +kernel
theorem d189_1 : decode (xB 189) 1 = .ok (.iload_n 1, 1) := by decide +kernel
theorem d189_2 : decode (xB 189) 2 = .ok (.invokevirtual 231, 3) := by decide +kernel
theorem d189_5 : decode (xB 189) 5 = .ok (.iload_n 2, 1) := by decide +kernel
theorem d189_6 : decode (xB 189) 6 = .ok (.if_icmp .le 20, 3) := by decide +kernel
theorem d189_9 : decode (xB 189) 9 = .ok (.aload_n 0, 1) := by decide +kernel
theorem d189_10 : decode (xB 189) 10 = .ok (.getfield 29, 3) := by decide +kernel
theorem d189_13 : decode (xB 189) 13 = .ok (.aload_n 0, 1) := by decide +kernel
theorem d189_14 : decode (xB 189) 14 = .ok (.iload_n 1, 1) := by decide +kernel
theorem d189_15 : decode (xB 189) 15 = .ok (.iconst 1, 1) := by decide +kernel
theorem d189_16 : decode (xB 189) 16 = .ok (.iconst 1, 1) := by decide +kernel
theorem d189_17 : decode (xB 189) 17 = .ok (.iconst 0, 1) := by decide +kernel
theorem d189_18 : decode (xB 189) 18 = .ok (.invokevirtual 234, 3) := by decide +kernel
theorem d189_21 : decode (xB 189) 21 = .ok (.iconst 0, 1) := by decide +kernel
theorem d189_22 : decode (xB 189) 22 = .ok (.iastore, 1) := by decide +kernel
theorem d189_23 : decode (xB 189) 23 = .ok (.goto (-23), 3) := by decide +kernel
theorem d189_26 : decode (xB 189) 26 = .ok (.aload_n 0, 1) := by decide +kernel
theorem d189_27 : decode (xB 189) 27 = .ok (.iload_n 1, 1) := by decide +kernel
theorem d189_28 : decode (xB 189) 28 = .ok (.iconst 0, 1) := by decide +kernel
theorem d189_29 : decode (xB 189) 29 = .ok (.iconst 0, 1) := by decide +kernel
theorem d189_30 : decode (xB 189) 30 = .ok (.iconst 0, 1) := by decide +kernel
theorem d189_31 : decode (xB 189) 31 = .ok (.invokevirtual 234, 3) := by decide +kernel
theorem d189_34 : decode (xB 189) 34 = .ok (.istore_n 3, 1) := by decide +kernel
theorem d189_35 : decode (xB 189) 35 = .ok (.iload_n 3, 1) := by decide +kernel
theorem d189_36 : decode (xB 189) 36 = .ok (.iconst (-1), 1) := by decide +kernel
theorem d189_37 : decode (xB 189) 37 = .ok (.if_icmp .eq 31, 3) := by decide +kernel
theorem d189_40 : decode (xB 189) 40 = .ok (.aload_n 0, 1) := by decide +kernel
theorem d189_41 : decode (xB 189) 41 = .ok (.iload_n 1, 1) := by decide +kernel
theorem d189_42 : decode (xB 189) 42 = .ok (.invokevirtual 231, 3) := by decide +kernel
theorem d189_45 : decode (xB 189) 45 = .ok (.iload_n 2, 1) := by decide +kernel
theorem d189_46 : decode (xB 189) 46 = .ok (.if_icmp .ge 22, 3) := by decide +kernel
theorem d189_49 : decode (xB 189) 49 = .ok (.aload_n 0, 1) := by decide +kernel
theorem d189_50 : decode (xB 189) 50 = .ok (.getfield 29, 3) := by decide +kernel
theorem d189_53 : decode (xB 189) 53 = .ok (.iload_n 3, 1) := by decide +kernel
theorem d189_54 : decode (xB 189) 54 = .ok (.iconst 1, 1) := by decide +kernel
theorem d189_55 : decode (xB 189) 55 = .ok (.iastore, 1) := by decide +kernel
theorem d189_56 : decode (xB 189) 56 = .ok (.aload_n 0, 1) := by decide +kernel
theorem d189_57 : decode (xB 189) 57 = .ok (.iload_n 1, 1) := by decide +kernel
theorem d189_58 : decode (xB 189) 58 = .ok (.iconst 0, 1) := by decide +kernel
theorem d189_59 : decode (xB 189) 59 = .ok (.iconst 0, 1) := by decide +kernel
theorem d189_60 : decode (xB 189) 60 = .ok (.iconst 0, 1) := by decide +kernel
theorem d189_61 : decode (xB 189) 61 = .ok (.invokevirtual 234, 3) := by decide +kernel
theorem d189_64 : decode (xB 189) 64 = .ok (.istore_n 3, 1) := by decide +kernel
theorem d189_65 : decode (xB 189) 65 = .ok (.goto (-30), 3) := by decide +kernel
theorem d189_68 : decode (xB 189) 68 = .ok (.aload_n 0, 1) := by decide +kernel
theorem d189_69 : decode (xB 189) 69 = .ok (.iload_n 1, 1) := by decide +kernel
theorem d189_70 : decode (xB 189) 70 = .ok (.iconst 0, 1) := by decide +kernel
theorem d189_71 : decode (xB 189) 71 = .ok (.iconst 0, 1) := by decide +kernel
theorem d189_72 : decode (xB 189) 72 = .ok (.iconst 1, 1) := by decide +kernel
theorem d189_73 : decode (xB 189) 73 = .ok (.invokevirtual 234, 3) := by decide +kernel
theorem d189_76 : decode (xB 189) 76 = .ok (.istore 4, 2) := by decide +kernel
theorem d189_78 : decode (xB 189) 78 = .ok (.aload_n 0, 1) := by decide +kernel
theorem d189_79 : decode (xB 189) 79 = .ok (.iload_n 1, 1) := by decide +kernel
theorem d189_80 : decode (xB 189) 80 = .ok (.iconst 1, 1) := by decide +kernel
theorem d189_81 : decode (xB 189) 81 = .ok (.iconst 1, 1) := by decide +kernel
theorem d189_82 : decode (xB 189) 82 = .ok (.iconst 1, 1) := by decide +kernel
theorem d189_83 : decode (xB 189) 83 = .ok (.invokevirtual 234, 3) := by decide +kernel
theorem d189_86 : decode (xB 189) 86 = .ok (.istore 5, 2) := by decide +kernel
theorem d189_88 : decode (xB 189) 88 = .ok (.aload_n 0, 1) := by decide +kernel
theorem d189_89 : decode (xB 189) 89 = .ok (.getfield 78, 3) := by decide +kernel
theorem d189_92 : decode (xB 189) 92 = .ok (.iload_n 1, 1) := by decide +kernel
theorem d189_93 : decode (xB 189) 93 = .ok (.iconst (-1), 1) := by decide +kernel
theorem d189_94 : decode (xB 189) 94 = .ok (.iastore, 1) := by decide +kernel
theorem d189_95 : decode (xB 189) 95 = .ok (.iload 4, 2) := by decide +kernel
theorem d189_97 : decode (xB 189) 97 = .ok (.iconst (-1), 1) := by decide +kernel
theorem d189_98 : decode (xB 189) 98 = .ok (.if_icmp .eq 9, 3) := by decide +kernel
theorem d189_101 : decode (xB 189) 101 = .ok (.iload 5, 2) := by decide +kernel
theorem d189_103 : decode (xB 189) 103 = .ok (.iconst (-1), 1) := by decide +kernel
theorem d189_104 : decode (xB 189) 104 = .ok (.if_icmp .ne 5, 3) := by decide +kernel
theorem d189_107 : decode (xB 189) 107 = .ok (.iconst 0, 1) := by decide +kernel
theorem d189_108 : decode (xB 189) 108 = .ok (.ireturn, 1) := by decide +kernel
theorem d189_109 : decode (xB 189) 109 = .ok (.aload_n 0, 1) := by decide +kernel
theorem d189_110 : decode (xB 189) 110 = .ok (.getfield 78, 3) := by decide +kernel
theorem d189_113 : decode (xB 189) 113 = .ok (.iload_n 1, 1) := by decide +kernel
theorem d189_114 : decode (xB 189) 114 = .ok (.iload 4, 2) := by decide +kernel
theorem d189_116 : decode (xB 189) 116 = .ok (.iastore, 1) := by decide +kernel
theorem d189_117 : decode (xB 189) 117 = .ok (.aload_n 0, 1) := by decide +kernel
theorem d189_118 : decode (xB 189) 118 = .ok (.getfield 81, 3) := by decide +kernel
theorem d189_121 : decode (xB 189) 121 = .ok (.iload_n 1, 1) := by decide +kernel
theorem d189_122 : decode (xB 189) 122 = .ok (.iload 5, 2) := by decide +kernel
theorem d189_124 : decode (xB 189) 124 = .ok (.iastore, 1) := by decide +kernel
theorem d189_125 : decode (xB 189) 125 = .ok (.aload_n 0, 1) := by decide +kernel
theorem d189_126 : decode (xB 189) 126 = .ok (.getfield 29, 3) := by decide +kernel
theorem d189_129 : decode (xB 189) 129 = .ok (.iload 4, 2) := by decide +kernel
theorem d189_131 : decode (xB 189) 131 = .ok (.iconst 1, 1) := by decide +kernel
theorem d189_132 : decode (xB 189) 132 = .ok (.iastore, 1) := by decide +kernel
theorem d189_133 : decode (xB 189) 133 = .ok (.aload_n 0, 1) := by decide +kernel
theorem d189_134 : decode (xB 189) 134 = .ok (.getfield 29, 3) := by decide +kernel
theorem d189_137 : decode (xB 189) 137 = .ok (.iload 5, 2) := by decide +kernel
theorem d189_139 : decode (xB 189) 139 = .ok (.iconst 0, 1) := by decide +kernel
theorem d189_140 : decode (xB 189) 140 = .ok (.iastore, 1) := by decide +kernel
theorem d189_141 : decode (xB 189) 141 = .ok (.aload_n 0, 1) := by decide +kernel
theorem d189_142 : decode (xB 189) 142 = .ok (.getfield 44, 3) := by decide +kernel
theorem d189_145 : decode (xB 189) 145 = .ok (.iload 5, 2) := by decide +kernel
theorem d189_147 : decode (xB 189) 147 = .ok (.dup2, 1) := by decide +kernel
theorem d189_148 : decode (xB 189) 148 = .ok (.iaload, 1) := by decide +kernel
theorem d189_149 : decode (xB 189) 149 = .ok (.iconst 1, 1) := by decide +kernel
theorem d189_150 : decode (xB 189) 150 = .ok (.iadd, 1) := by decide +kernel
theorem d189_151 : decode (xB 189) 151 = .ok (.iastore, 1) := by decide +kernel
theorem d189_152 : decode (xB 189) 152 = .ok (.aload_n 0, 1) := by decide +kernel
theorem d189_153 : decode (xB 189) 153 = .ok (.getfield 44, 3) := by decide +kernel
theorem d189_156 : decode (xB 189) 156 = .ok (.iload 4, 2) := by decide +kernel
theorem d189_158 : decode (xB 189) 158 = .ok (.dup2, 1) := by decide +kernel
theorem d189_159 : decode (xB 189) 159 = .ok (.iaload, 1) := by decide +kernel
theorem d189_160 : decode (xB 189) 160 = .ok (.iconst 1, 1) := by decide +kernel
theorem d189_161 : decode (xB 189) 161 = .ok (.isub, 1) := by decide +kernel
theorem d189_162 : decode (xB 189) 162 = .ok (.iastore, 1) := by decide +kernel
theorem d189_163 : decode (xB 189) 163 = .ok (.aload_n 0, 1) := by decide +kernel
theorem d189_164 : decode (xB 189) 164 = .ok (.getfield 47, 3) := by decide +kernel
theorem d189_167 : decode (xB 189) 167 = .ok (.bipush 8, 2) := by decide +kernel
theorem d189_169 : decode (xB 189) 169 = .ok (.iload 5, 2) := by decide +kernel
theorem d189_171 : decode (xB 189) 171 = .ok (.imul, 1) := by decide +kernel
theorem d189_172 : decode (xB 189) 172 = .ok (.iload 4, 2) := by decide +kernel
theorem d189_174 : decode (xB 189) 174 = .ok (.iadd, 1) := by decide +kernel
theorem d189_175 : decode (xB 189) 175 = .ok (.dup2, 1) := by decide +kernel
theorem d189_176 : decode (xB 189) 176 = .ok (.iaload, 1) := by decide +kernel
theorem d189_177 : decode (xB 189) 177 = .ok (.iconst 1, 1) := by decide +kernel
theorem d189_178 : decode (xB 189) 178 = .ok (.iadd, 1) := by decide +kernel
theorem d189_179 : decode (xB 189) 179 = .ok (.iastore, 1) := by decide +kernel
theorem d189_180 : decode (xB 189) 180 = .ok (.iconst 1, 1) := by decide +kernel
theorem d189_181 : decode (xB 189) 181 = .ok (.ireturn, 1) := by decide +kernel
theorem b189_0 {d : Nat} {P : xPr} {Q : xQr} {r : Nat} {mem : Nat → Nat → Int32} (hP : Cl d none 189 P Q) {p0 : Int32} {p1 : Int32}
    (k : xCall d 188 [.ref 108, .int p0] (LAY, RFu r, mem) (Bk P 2 [.ref 108, .int p0, .int p1, .null, .null, .null] [] (0, 0))) : P 0 [.ref 108, .int p0, .int p1, .null, .null, .null] [] (0, 0) (LAY, RFu r, mem) := by
  refine r_aload_n hP d189_0 rfl ?_
  refine r_iload_n hP d189_1 rfl ?_
  exact r_callv (As := [.int p0]) (S := []) hP d189_2 cr_12_231 (by decide +kernel) rfl (by simp [Value.category]) rfl ly_108 (by simp [Value.category]) ⟨Nat.zero_le _, Nat.zero_le _⟩ k
theorem b189_5 {d : Nat} {P : xPr} {Q : xQr} {r : Nat} {mem : Nat → Nat → Int32} (hP : Cl d none 189 P Q) {x1 : Int32} {x2 : Int32} {v3 : Value} {v4 : Value} {v5 : Value} {y0 : Int32}
    (kt : y0 ≤ x2 → P 26 [.ref 108, .int x1, .int x2, v3, v4, v5] [] (0, 0) (LAY, RFu r, mem)) (kf : ¬ y0 ≤ x2 → P 9 [.ref 108, .int x1, .int x2, v3, v4, v5] [] (0, 0) (LAY, RFu r, mem)) : P 5 [.ref 108, .int x1, .int x2, v3, v4, v5] [.int y0] (0, 0) (LAY, RFu r, mem) := by
  refine r_iload_n hP d189_5 rfl ?_
  exact r_icmp (t := 26) hP d189_6 (by decide) kt kf
theorem b189_9 {d : Nat} {P : xPr} {Q : xQr} {r : Nat} {mem : Nat → Nat → Int32} (hP : Cl d none 189 P Q) {x1 : Int32} {x2 : Int32} {v3 : Value} {v4 : Value} {v5 : Value}
    (k : xCall d 187 [.ref 108, .int x1, .int (nI 1), .int (nI 1), .int (nI 0)] (LAY, RFu r, mem) (Bk P 18 [.ref 108, .int x1, .int x2, v3, v4, v5] [.ref 115] (0, 0))) : P 9 [.ref 108, .int x1, .int x2, v3, v4, v5] [] (0, 0) (LAY, RFu r, mem) := by
  refine r_aload_n hP d189_9 rfl ?_
  refine r_getr (a := 115) hP d189_10 fr_12_29 rfl ly_108 rg_108_8 ?_
  refine r_aload_n hP d189_13 rfl ?_
  refine r_iload_n hP d189_14 rfl ?_
  refine r_iconst (v := nI 1) hP d189_15 rfl ?_
  refine r_iconst (v := nI 1) hP d189_16 rfl ?_
  refine r_iconst (v := nI 0) hP d189_17 rfl ?_
  exact r_callv (As := [.int x1, .int (nI 1), .int (nI 1), .int (nI 0)]) (S := [.ref 115]) hP d189_18 cr_12_234 (by decide +kernel) rfl (by simp [Value.category]) rfl ly_108 (by simp [Value.category]) ⟨Nat.zero_le _, Nat.zero_le _⟩ k
theorem b189_21 {d : Nat} {P : xPr} {Q : xQr} {r : Nat} {mem : Nat → Nat → Int32} (hP : Cl d none 189 P Q) {x1 : Int32} {x2 : Int32} {v3 : Value} {v4 : Value} {v5 : Value} {y1 : Int32} (hi22 : vp_in y1 8)
    (k : P 0 [.ref 108, .int x1, .int x2, v3, v4, v5] [] (0, 0) (LAY, RFu r, xu2 mem 115 y1.toNatClampNeg (nI 0))) : P 21 [.ref 108, .int x1, .int x2, v3, v4, v5] [.int y1, .ref 115] (0, 0) (LAY, RFu r, mem) := by
  refine r_iconst (v := nI 0) hP d189_21 rfl ?_
  refine r_iastore hP d189_22 ly_115 hi22 ?_
  refine r_goto (t := 0) hP d189_23 (by decide) ?_
  exact k
theorem b189_26 {d : Nat} {P : xPr} {Q : xQr} {r : Nat} {mem : Nat → Nat → Int32} (hP : Cl d none 189 P Q) {x1 : Int32} {x2 : Int32} {v3 : Value} {v4 : Value} {v5 : Value}
    (k : xCall d 187 [.ref 108, .int x1, .int (nI 0), .int (nI 0), .int (nI 0)] (LAY, RFu r, mem) (Bk P 31 [.ref 108, .int x1, .int x2, v3, v4, v5] [] (0, 0))) : P 26 [.ref 108, .int x1, .int x2, v3, v4, v5] [] (0, 0) (LAY, RFu r, mem) := by
  refine r_aload_n hP d189_26 rfl ?_
  refine r_iload_n hP d189_27 rfl ?_
  refine r_iconst (v := nI 0) hP d189_28 rfl ?_
  refine r_iconst (v := nI 0) hP d189_29 rfl ?_
  refine r_iconst (v := nI 0) hP d189_30 rfl ?_
  exact r_callv (As := [.int x1, .int (nI 0), .int (nI 0), .int (nI 0)]) (S := []) hP d189_31 cr_12_234 (by decide +kernel) rfl (by simp [Value.category]) rfl ly_108 (by simp [Value.category]) ⟨Nat.zero_le _, Nat.zero_le _⟩ k
theorem b189_34 {d : Nat} {P : xPr} {Q : xQr} {r : Nat} {mem : Nat → Nat → Int32} (hP : Cl d none 189 P Q) {x1 : Int32} {x2 : Int32} {v3 : Value} {v4 : Value} {v5 : Value} {y0 : Int32}
    (k : P 35 [.ref 108, .int x1, .int x2, .int y0, v4, v5] [] (0, 0) (LAY, RFu r, mem)) : P 34 [.ref 108, .int x1, .int x2, v3, v4, v5] [.int y0] (0, 0) (LAY, RFu r, mem) := by
  refine r_istore_n (L' := [.ref 108, .int x1, .int x2, .int y0, v4, v5]) hP d189_34 (Nat.le_of_ble_eq_true rfl) rfl ?_
  exact k
theorem b189_35 {d : Nat} {P : xPr} {Q : xQr} {r : Nat} {mem : Nat → Nat → Int32} (hP : Cl d none 189 P Q) {x1 : Int32} {x2 : Int32} {x3 : Int32} {v4 : Value} {v5 : Value}
    (kt : x3 = (-1) → P 68 [.ref 108, .int x1, .int x2, .int x3, v4, v5] [] (0, 0) (LAY, RFu r, mem)) (kf : ¬ x3 = (-1) → P 40 [.ref 108, .int x1, .int x2, .int x3, v4, v5] [] (0, 0) (LAY, RFu r, mem)) : P 35 [.ref 108, .int x1, .int x2, .int x3, v4, v5] [] (0, 0) (LAY, RFu r, mem) := by
  refine r_iload_n hP d189_35 rfl ?_
  refine r_iconst (v := (-1)) hP d189_36 rfl ?_
  exact r_icmp (t := 68) hP d189_37 (by decide) kt kf
theorem b189_40 {d : Nat} {P : xPr} {Q : xQr} {r : Nat} {mem : Nat → Nat → Int32} (hP : Cl d none 189 P Q) {x1 : Int32} {x2 : Int32} {x3 : Int32} {v4 : Value} {v5 : Value}
    (k : xCall d 188 [.ref 108, .int x1] (LAY, RFu r, mem) (Bk P 42 [.ref 108, .int x1, .int x2, .int x3, v4, v5] [] (0, 0))) : P 40 [.ref 108, .int x1, .int x2, .int x3, v4, v5] [] (0, 0) (LAY, RFu r, mem) := by
  refine r_aload_n hP d189_40 rfl ?_
  refine r_iload_n hP d189_41 rfl ?_
  exact r_callv (As := [.int x1]) (S := []) hP d189_42 cr_12_231 (by decide +kernel) rfl (by simp [Value.category]) rfl ly_108 (by simp [Value.category]) ⟨Nat.zero_le _, Nat.zero_le _⟩ k
theorem b189_45 {d : Nat} {P : xPr} {Q : xQr} {r : Nat} {mem : Nat → Nat → Int32} (hP : Cl d none 189 P Q) {x1 : Int32} {x2 : Int32} {x3 : Int32} {v4 : Value} {v5 : Value} {y0 : Int32}
    (kt : x2 ≤ y0 → P 68 [.ref 108, .int x1, .int x2, .int x3, v4, v5] [] (0, 0) (LAY, RFu r, mem)) (kf : ¬ x2 ≤ y0 → P 49 [.ref 108, .int x1, .int x2, .int x3, v4, v5] [] (0, 0) (LAY, RFu r, mem)) : P 45 [.ref 108, .int x1, .int x2, .int x3, v4, v5] [.int y0] (0, 0) (LAY, RFu r, mem) := by
  refine r_iload_n hP d189_45 rfl ?_
  exact r_icmp (t := 68) hP d189_46 (by decide) kt kf
theorem b189_49 {d : Nat} {P : xPr} {Q : xQr} {r : Nat} {mem : Nat → Nat → Int32} (hP : Cl d none 189 P Q) {x1 : Int32} {x2 : Int32} {x3 : Int32} {v4 : Value} {v5 : Value} (hi55 : vp_in x3 8)
    (k : xCall d 187 [.ref 108, .int x1, .int (nI 0), .int (nI 0), .int (nI 0)] (LAY, RFu r, xu2 mem 115 x3.toNatClampNeg (nI 1)) (Bk P 61 [.ref 108, .int x1, .int x2, .int x3, v4, v5] [] (0, 0))) : P 49 [.ref 108, .int x1, .int x2, .int x3, v4, v5] [] (0, 0) (LAY, RFu r, mem) := by
  refine r_aload_n hP d189_49 rfl ?_
  refine r_getr (a := 115) hP d189_50 fr_12_29 rfl ly_108 rg_108_8 ?_
  refine r_iload_n hP d189_53 rfl ?_
  refine r_iconst (v := nI 1) hP d189_54 rfl ?_
  refine r_iastore hP d189_55 ly_115 hi55 ?_
  refine r_aload_n hP d189_56 rfl ?_
  refine r_iload_n hP d189_57 rfl ?_
  refine r_iconst (v := nI 0) hP d189_58 rfl ?_
  refine r_iconst (v := nI 0) hP d189_59 rfl ?_
  refine r_iconst (v := nI 0) hP d189_60 rfl ?_
  exact r_callv (As := [.int x1, .int (nI 0), .int (nI 0), .int (nI 0)]) (S := []) hP d189_61 cr_12_234 (by decide +kernel) rfl (by simp [Value.category]) rfl ly_108 (by simp [Value.category]) ⟨Nat.zero_le _, Nat.zero_le _⟩ k
theorem b189_64 {d : Nat} {P : xPr} {Q : xQr} {r : Nat} {mem : Nat → Nat → Int32} (hP : Cl d none 189 P Q) {x1 : Int32} {x2 : Int32} {v3 : Value} {v4 : Value} {v5 : Value} {y0 : Int32}
    (k : P 35 [.ref 108, .int x1, .int x2, .int y0, v4, v5] [] (0, 0) (LAY, RFu r, mem)) : P 64 [.ref 108, .int x1, .int x2, v3, v4, v5] [.int y0] (0, 0) (LAY, RFu r, mem) := by
  refine r_istore_n (L' := [.ref 108, .int x1, .int x2, .int y0, v4, v5]) hP d189_64 (Nat.le_of_ble_eq_true rfl) rfl ?_
  refine r_goto (t := 35) hP d189_65 (by decide) ?_
  exact k
theorem b189_68 {d : Nat} {P : xPr} {Q : xQr} {r : Nat} {mem : Nat → Nat → Int32} (hP : Cl d none 189 P Q) {x1 : Int32} {v2 : Value} {v3 : Value} {v4 : Value} {v5 : Value}
    (k : xCall d 187 [.ref 108, .int x1, .int (nI 0), .int (nI 0), .int (nI 1)] (LAY, RFu r, mem) (Bk P 73 [.ref 108, .int x1, v2, v3, v4, v5] [] (0, 0))) : P 68 [.ref 108, .int x1, v2, v3, v4, v5] [] (0, 0) (LAY, RFu r, mem) := by
  refine r_aload_n hP d189_68 rfl ?_
  refine r_iload_n hP d189_69 rfl ?_
  refine r_iconst (v := nI 0) hP d189_70 rfl ?_
  refine r_iconst (v := nI 0) hP d189_71 rfl ?_
  refine r_iconst (v := nI 1) hP d189_72 rfl ?_
  exact r_callv (As := [.int x1, .int (nI 0), .int (nI 0), .int (nI 1)]) (S := []) hP d189_73 cr_12_234 (by decide +kernel) rfl (by simp [Value.category]) rfl ly_108 (by simp [Value.category]) ⟨Nat.zero_le _, Nat.zero_le _⟩ k
theorem b189_76 {d : Nat} {P : xPr} {Q : xQr} {r : Nat} {mem : Nat → Nat → Int32} (hP : Cl d none 189 P Q) {x1 : Int32} {v2 : Value} {v3 : Value} {v4 : Value} {v5 : Value} {y0 : Int32}
    (k : xCall d 187 [.ref 108, .int x1, .int (nI 1), .int (nI 1), .int (nI 1)] (LAY, RFu r, mem) (Bk P 83 [.ref 108, .int x1, v2, v3, .int y0, v5] [] (0, 0))) : P 76 [.ref 108, .int x1, v2, v3, v4, v5] [.int y0] (0, 0) (LAY, RFu r, mem) := by
  refine r_istore (L' := [.ref 108, .int x1, v2, v3, .int y0, v5]) hP d189_76 (Nat.le_of_ble_eq_true rfl) rfl ?_
  refine r_aload_n hP d189_78 rfl ?_
  refine r_iload_n hP d189_79 rfl ?_
  refine r_iconst (v := nI 1) hP d189_80 rfl ?_
  refine r_iconst (v := nI 1) hP d189_81 rfl ?_
  refine r_iconst (v := nI 1) hP d189_82 rfl ?_
  exact r_callv (As := [.int x1, .int (nI 1), .int (nI 1), .int (nI 1)]) (S := []) hP d189_83 cr_12_234 (by decide +kernel) rfl (by simp [Value.category]) rfl ly_108 (by simp [Value.category]) ⟨Nat.zero_le _, Nat.zero_le _⟩ k
theorem b189_86 {d : Nat} {P : xPr} {Q : xQr} {r : Nat} {mem : Nat → Nat → Int32} (hP : Cl d none 189 P Q) {x1 : Int32} {v2 : Value} {v3 : Value} {x4 : Int32} {v5 : Value} {y0 : Int32} (hi94 : vp_in x1 4)
    (kt : x4 = (-1) → P 107 [.ref 108, .int x1, v2, v3, .int x4, .int y0] [] (0, 0) (LAY, RFu r, xu2 mem 130 x1.toNatClampNeg (-1))) (kf : ¬ x4 = (-1) → P 101 [.ref 108, .int x1, v2, v3, .int x4, .int y0] [] (0, 0) (LAY, RFu r, xu2 mem 130 x1.toNatClampNeg (-1))) : P 86 [.ref 108, .int x1, v2, v3, .int x4, v5] [.int y0] (0, 0) (LAY, RFu r, mem) := by
  refine r_istore (L' := [.ref 108, .int x1, v2, v3, .int x4, .int y0]) hP d189_86 (Nat.le_of_ble_eq_true rfl) rfl ?_
  refine r_aload_n hP d189_88 rfl ?_
  refine r_getr (a := 130) hP d189_89 fr_12_78 rfl ly_108 rg_108_34 ?_
  refine r_iload_n hP d189_92 rfl ?_
  refine r_iconst (v := (-1)) hP d189_93 rfl ?_
  refine r_iastore hP d189_94 ly_130 hi94 ?_
  refine r_iload hP d189_95 rfl ?_
  refine r_iconst (v := (-1)) hP d189_97 rfl ?_
  exact r_icmp (t := 107) hP d189_98 (by decide) kt kf
theorem b189_101 {d : Nat} {P : xPr} {Q : xQr} {r : Nat} {mem : Nat → Nat → Int32} (hP : Cl d none 189 P Q) {x1 : Int32} {v2 : Value} {v3 : Value} {x4 : Int32} {x5 : Int32}
    (kt : ¬ x5 = (-1) → P 109 [.ref 108, .int x1, v2, v3, .int x4, .int x5] [] (0, 0) (LAY, RFu r, mem)) (kf : x5 = (-1) → P 107 [.ref 108, .int x1, v2, v3, .int x4, .int x5] [] (0, 0) (LAY, RFu r, mem)) : P 101 [.ref 108, .int x1, v2, v3, .int x4, .int x5] [] (0, 0) (LAY, RFu r, mem) := by
  refine r_iload hP d189_101 rfl ?_
  refine r_iconst (v := (-1)) hP d189_103 rfl ?_
  exact r_icmp (t := 109) hP d189_104 (by decide) kt (fun q => kf (Decidable.of_not_not q))
theorem b189_107 {d : Nat} {P : xPr} {Q : xQr} {r : Nat} {mem : Nat → Nat → Int32} (hP : Cl d none 189 P Q) {v0 : Value} {v1 : Value} {v2 : Value} {v3 : Value} {v4 : Value} {v5 : Value} (hzr : nI 0 = 0 ∨ nI 0 = 1)
    (k : Q (some (.int (nI 0))) (LAY, RFu r, mem)) : P 107 [v0, v1, v2, v3, v4, v5] [] (0, 0) (LAY, RFu r, mem) := by
  refine r_iconst (v := nI 0) hP d189_107 rfl ?_
  exact r_zret hP d189_108 rfl hzr k
theorem b189_109 {d : Nat} {P : xPr} {Q : xQr} {r : Nat} {mem : Nat → Nat → Int32} (hP : Cl d none 189 P Q) {x1 : Int32} {v2 : Value} {v3 : Value} {x4 : Int32} {x5 : Int32} (hi116 : vp_in x1 4) (hi124 : vp_in x1 4) (hi132 : vp_in x4 8) (hi140 : vp_in x5 8) (hi148 : vp_in x5 8) (hi151 : vp_in x5 8) (hi159 : vp_in x4 8) (hi162 : vp_in x4 8) (hi176 : vp_in (((nI 8) * x5) + x4) 64) (hi179 : vp_in (((nI 8) * x5) + x4) 64) (hzr : nI 1 = 0 ∨ nI 1 = 1)
    (k : Q (some (.int (nI 1))) (LAY, RFu r, xu2 (xu2 (xu2 (xu2 (xu2 (xu2 (xu2 mem 130 x1.toNatClampNeg x4) 131 x1.toNatClampNeg x5) 115 x4.toNatClampNeg (nI 1)) 115 x5.toNatClampNeg (nI 0)) 120 x5.toNatClampNeg (((xu2 (xu2 (xu2 (xu2 mem 130 x1.toNatClampNeg x4) 131 x1.toNatClampNeg x5) 115 x4.toNatClampNeg (nI 1)) 115 x5.toNatClampNeg (nI 0)) 120 x5.toNatClampNeg) + (nI 1))) 120 x4.toNatClampNeg (((xu2 (xu2 (xu2 (xu2 (xu2 mem 130 x1.toNatClampNeg x4) 131 x1.toNatClampNeg x5) 115 x4.toNatClampNeg (nI 1)) 115 x5.toNatClampNeg (nI 0)) 120 x5.toNatClampNeg (((xu2 (xu2 (xu2 (xu2 mem 130 x1.toNatClampNeg x4) 131 x1.toNatClampNeg x5) 115 x4.toNatClampNeg (nI 1)) 115 x5.toNatClampNeg (nI 0)) 120 x5.toNatClampNeg) + (nI 1))) 120 x4.toNatClampNeg) - (nI 1))) 121 (((nI 8) * x5) + x4).toNatClampNeg (((xu2 (xu2 (xu2 (xu2 (xu2 (xu2 mem 130 x1.toNatClampNeg x4) 131 x1.toNatClampNeg x5) 115 x4.toNatClampNeg (nI 1)) 115 x5.toNatClampNeg (nI 0)) 120 x5.toNatClampNeg (((xu2 (xu2 (xu2 (xu2 mem 130 x1.toNatClampNeg x4) 131 x1.toNatClampNeg x5) 115 x4.toNatClampNeg (nI 1)) 115 x5.toNatClampNeg (nI 0)) 120 x5.toNatClampNeg) + (nI 1))) 120 x4.toNatClampNeg (((xu2 (xu2 (xu2 (xu2 (xu2 mem 130 x1.toNatClampNeg x4) 131 x1.toNatClampNeg x5) 115 x4.toNatClampNeg (nI 1)) 115 x5.toNatClampNeg (nI 0)) 120 x5.toNatClampNeg (((xu2 (xu2 (xu2 (xu2 mem 130 x1.toNatClampNeg x4) 131 x1.toNatClampNeg x5) 115 x4.toNatClampNeg (nI 1)) 115 x5.toNatClampNeg (nI 0)) 120 x5.toNatClampNeg) + (nI 1))) 120 x4.toNatClampNeg) - (nI 1))) 121 (((nI 8) * x5) + x4).toNatClampNeg) + (nI 1)))) : P 109 [.ref 108, .int x1, v2, v3, .int x4, .int x5] [] (0, 0) (LAY, RFu r, mem) := by
  refine r_aload_n hP d189_109 rfl ?_
  refine r_getr (a := 130) hP d189_110 fr_12_78 rfl ly_108 rg_108_34 ?_
  refine r_iload_n hP d189_113 rfl ?_
  refine r_iload hP d189_114 rfl ?_
  refine r_iastore hP d189_116 ly_130 hi116 ?_
  refine r_aload_n hP d189_117 rfl ?_
  refine r_getr (a := 131) hP d189_118 fr_12_81 rfl ly_108 rg_108_35 ?_
  refine r_iload_n hP d189_121 rfl ?_
  refine r_iload hP d189_122 rfl ?_
  refine r_iastore hP d189_124 ly_131 hi124 ?_
  refine r_aload_n hP d189_125 rfl ?_
  refine r_getr (a := 115) hP d189_126 fr_12_29 rfl ly_108 rg_108_8 ?_
  refine r_iload hP d189_129 rfl ?_
  refine r_iconst (v := nI 1) hP d189_131 rfl ?_
  refine r_iastore hP d189_132 ly_115 hi132 ?_
  refine r_aload_n hP d189_133 rfl ?_
  refine r_getr (a := 115) hP d189_134 fr_12_29 rfl ly_108 rg_108_8 ?_
  refine r_iload hP d189_137 rfl ?_
  refine r_iconst (v := nI 0) hP d189_139 rfl ?_
  refine r_iastore hP d189_140 ly_115 hi140 ?_
  refine r_aload_n hP d189_141 rfl ?_
  refine r_getr (a := 120) hP d189_142 fr_12_44 rfl ly_108 rg_108_13 ?_
  refine r_iload hP d189_145 rfl ?_
  refine r_dup2 hP d189_147 rfl rfl ?_
  refine r_iaload hP d189_148 ly_120 hi148 ?_
  refine r_iconst (v := nI 1) hP d189_149 rfl ?_
  refine r_iadd hP d189_150 ?_
  refine r_iastore hP d189_151 ly_120 hi151 ?_
  refine r_aload_n hP d189_152 rfl ?_
  refine r_getr (a := 120) hP d189_153 fr_12_44 rfl ly_108 rg_108_13 ?_
  refine r_iload hP d189_156 rfl ?_
  refine r_dup2 hP d189_158 rfl rfl ?_
  refine r_iaload hP d189_159 ly_120 hi159 ?_
  refine r_iconst (v := nI 1) hP d189_160 rfl ?_
  refine r_isub hP d189_161 ?_
  refine r_iastore hP d189_162 ly_120 hi162 ?_
  refine r_aload_n hP d189_163 rfl ?_
  refine r_getr (a := 121) hP d189_164 fr_12_47 rfl ly_108 rg_108_14 ?_
  refine r_bipush (v := nI 8) hP d189_167 rfl ?_
  refine r_iload hP d189_169 rfl ?_
  refine r_imul hP d189_171 ?_
  refine r_iload hP d189_172 rfl ?_
  refine r_iadd hP d189_174 ?_
  refine r_dup2 hP d189_175 rfl rfl ?_
  refine r_iaload hP d189_176 ly_121 hi176 ?_
  refine r_iconst (v := nI 1) hP d189_177 rfl ?_
  refine r_iadd hP d189_178 ?_
  refine r_iastore hP d189_179 ly_121 hi179 ?_
  refine r_iconst (v := nI 1) hP d189_180 rfl ?_
  exact r_zret hP d189_181 rfl hzr k
theorem d190_0 : decode (xB 190) 0 = .ok (.iconst 0, 1) := by decide +kernel
theorem d190_1 : decode (xB 190) 1 = .ok (.istore_n 1, 1) := by decide +kernel
theorem d190_2 : decode (xB 190) 2 = .ok (.iload_n 1, 1) := by decide +kernel
theorem d190_3 : decode (xB 190) 3 = .ok (.aload_n 0, 1) := by decide +kernel
theorem d190_4 : decode (xB 190) 4 = .ok (.getfield 127, 3) := by decide +kernel
theorem d190_7 : decode (xB 190) 7 = .ok (.if_icmp .ge 39, 3) := by decide +kernel
theorem d190_10 : decode (xB 190) 10 = .ok (.aload_n 0, 1) := by decide +kernel
theorem d190_11 : decode (xB 190) 11 = .ok (.iload_n 1, 1) := by decide +kernel
theorem d190_12 : decode (xB 190) 12 = .ok (.invokevirtual 238, 3) := by decide +kernel
theorem d190_15 : decode (xB 190) 15 = .ok (.istore_n 2, 1) := by decide +kernel
theorem d190_16 : decode (xB 190) 16 = .ok (.iload_n 2, 1) := by decide +kernel
theorem d190_17 : decode (xB 190) 17 = .ok (.aload_n 0, 1) := by decide +kernel
theorem d190_18 : decode (xB 190) 18 = .ok (.getfield 26, 3) := by decide +kernel
theorem d190_21 : decode (xB 190) 21 = .ok (.iload_n 1, 1) := by decide +kernel
theorem d190_22 : decode (xB 190) 22 = .ok (.iaload, 1) := by decide +kernel
theorem d190_23 : decode (xB 190) 23 = .ok (.if_icmp .eq 10, 3) := by decide +kernel
theorem d190_26 : decode (xB 190) 26 = .ok (.aload_n 0, 1) := by decide +kernel
theorem d190_27 : decode (xB 190) 27 = .ok (.getfield 29, 3) := by decide +kernel
theorem d190_30 : decode (xB 190) 30 = .ok (.iload_n 1, 1) := by decide +kernel
theorem d190_31 : decode (xB 190) 31 = .ok (.iconst 0, 1) := by decide +kernel
theorem d190_32 : decode (xB 190) 32 = .ok (.iastore, 1) := by decide +kernel
theorem d190_33 : decode (xB 190) 33 = .ok (.aload_n 0, 1) := by decide +kernel
theorem d190_34 : decode (xB 190) 34 = .ok (.getfield 26, 3) := by decide +kernel
theorem d190_37 : decode (xB 190) 37 = .ok (.iload_n 1, 1) := by decide +kernel
theorem d190_38 : decode (xB 190) 38 = .ok (.iload_n 2, 1) := by decide +kernel
theorem d190_39 : decode (xB 190) 39 = .ok (.iastore, 1) := by decide +kernel
theorem d190_40 : decode (xB 190) 40 = .ok (.iinc 1 1, 3) := by decide +kernel
theorem d190_43 : decode (xB 190) 43 = .ok (.goto (-41), 3) := by decide +kernel
theorem d190_46 : decode (xB 190) 46 = .ok (.iconst 0, 1) := by decide +kernel
theorem d190_47 : decode (xB 190) 47 = .ok (.istore_n 1, 1) := by decide +kernel
theorem d190_48 : decode (xB 190) 48 = .ok (.iconst 0, 1) := by decide +kernel
theorem d190_49 : decode (xB 190) 49 = .ok (.istore_n 2, 1) := by decide +kernel
theorem d190_50 : decode (xB 190) 50 = .ok (.iload_n 2, 1) := by decide +kernel
theorem d190_51 : decode (xB 190) 51 = .ok (.aload_n 0, 1) := by decide +kernel
theorem d190_52 : decode (xB 190) 52 = .ok (.getfield 138, 3) := by decide +kernel
theorem d190_55 : decode (xB 190) 55 = .ok (.if_icmp .ge 80, 3) := by decide +kernel
theorem d190_58 : decode (xB 190) 58 = .ok (.iload_n 2, 1) := by decide +kernel
theorem d190_59 : decode (xB 190) 59 = .ok (.aload_n 0, 1) := by decide +kernel
theorem d190_60 : decode (xB 190) 60 = .ok (.getfield 75, 3) := by decide +kernel
theorem d190_63 : decode (xB 190) 63 = .ok (.if_icmp .ne 7, 3) := by decide +kernel
theorem d190_66 : decode (xB 190) 66 = .ok (.iconst 0, 1) := by decide +kernel
theorem d190_67 : decode (xB 190) 67 = .ok (.goto 44, 3) := by decide +kernel
theorem d190_70 : decode (xB 190) 70 = .ok (.aload_n 0, 1) := by decide +kernel
theorem d190_71 : decode (xB 190) 71 = .ok (.getfield 75, 3) := by decide +kernel
theorem d190_74 : decode (xB 190) 74 = .ok (.iconst (-1), 1) := by decide +kernel
theorem d190_75 : decode (xB 190) 75 = .ok (.if_icmp .eq 30, 3) := by decide +kernel
theorem d190_78 : decode (xB 190) 78 = .ok (.iload_n 2, 1) := by decide +kernel
theorem d190_79 : decode (xB 190) 79 = .ok (.aload_n 0, 1) := by decide +kernel
theorem d190_80 : decode (xB 190) 80 = .ok (.getfield 228, 3) := by decide +kernel
theorem d190_83 : decode (xB 190) 83 = .ok (.if_icmp .ne 22, 3) := by decide +kernel
theorem d190_86 : decode (xB 190) 86 = .ok (.aload_n 0, 1) := by decide +kernel
theorem d190_87 : decode (xB 190) 87 = .ok (.getfield 9, 3) := by decide +kernel
theorem d190_90 : decode (xB 190) 90 = .ok (.iload_n 2, 1) := by decide +kernel
theorem d190_91 : decode (xB 190) 91 = .ok (.iaload, 1) := by decide +kernel
theorem d190_92 : decode (xB 190) 92 = .ok (.aload_n 0, 1) := by decide +kernel
theorem d190_93 : decode (xB 190) 93 = .ok (.getfield 9, 3) := by decide +kernel
theorem d190_96 : decode (xB 190) 96 = .ok (.aload_n 0, 1) := by decide +kernel
theorem d190_97 : decode (xB 190) 97 = .ok (.getfield 75, 3) := by decide +kernel
theorem d190_100 : decode (xB 190) 100 = .ok (.iaload, 1) := by decide +kernel
theorem d190_101 : decode (xB 190) 101 = .ok (.iadd, 1) := by decide +kernel
theorem d190_102 : decode (xB 190) 102 = .ok (.goto 9, 3) := by decide +kernel
theorem d190_105 : decode (xB 190) 105 = .ok (.aload_n 0, 1) := by decide +kernel
theorem d190_106 : decode (xB 190) 106 = .ok (.getfield 9, 3) := by decide +kernel
theorem d190_109 : decode (xB 190) 109 = .ok (.iload_n 2, 1) := by decide +kernel
theorem d190_110 : decode (xB 190) 110 = .ok (.iaload, 1) := by decide +kernel
theorem d190_111 : decode (xB 190) 111 = .ok (.istore_n 3, 1) := by decide +kernel
theorem d190_112 : decode (xB 190) 112 = .ok (.iload_n 1, 1) := by decide +kernel
theorem d190_113 : decode (xB 190) 113 = .ok (.aload_n 0, 1) := by decide +kernel
theorem d190_114 : decode (xB 190) 114 = .ok (.iload_n 2, 1) := by decide +kernel
theorem d190_115 : decode (xB 190) 115 = .ok (.iload_n 3, 1) := by decide +kernel
theorem d190_116 : decode (xB 190) 116 = .ok (.invokevirtual 241, 3) := by decide +kernel
theorem d190_119 : decode (xB 190) 119 = .ok (.ifCond .eq 7, 3) := by decide +kernel
theorem d190_122 : decode (xB 190) 122 = .ok (.iconst 1, 1) := by decide +kernel
theorem d190_123 : decode (xB 190) 123 = .ok (.goto 4, 3) := by decide +kernel
theorem d190_126 : decode (xB 190) 126 = .ok (.iconst 0, 1) := by decide +kernel
theorem d190_127 : decode (xB 190) 127 = .ok (.iadd, 1) := by decide +kernel
theorem d190_128 : decode (xB 190) 128 = .ok (.istore_n 1, 1) := by decide +kernel
theorem d190_129 : decode (xB 190) 129 = .ok (.iinc 2 1, 3) := by decide +kernel
theorem d190_132 : decode (xB 190) 132 = .ok (.goto (-82), 3) := by decide +kernel
theorem d190_135 : decode (xB 190) 135 = .ok (.iconst 0, 1) := by decide +kernel
theorem d190_136 : decode (xB 190) 136 = .ok (.istore_n 2, 1) := by decide +kernel
theorem d190_137 : decode (xB 190) 137 = .ok (.iload_n 2, 1) := by decide +kernel
theorem d190_138 : decode (xB 190) 138 = .ok (.aload_n 0, 1) := by decide +kernel
theorem d190_139 : decode (xB 190) 139 = .ok (.getfield 127, 3) := by decide +kernel
theorem d190_142 : decode (xB 190) 142 = .ok (.if_icmp .ge 103, 3) := by decide +kernel
theorem d190_145 : decode (xB 190) 145 = .ok (.aload_n 0, 1) := by decide +kernel
theorem d190_146 : decode (xB 190) 146 = .ok (.getfield 26, 3) := by decide +kernel
theorem d190_149 : decode (xB 190) 149 = .ok (.iload_n 2, 1) := by decide +kernel
theorem d190_150 : decode (xB 190) 150 = .ok (.iaload, 1) := by decide +kernel
theorem d190_151 : decode (xB 190) 151 = .ok (.iconst (-1), 1) := by decide +kernel
theorem d190_152 : decode (xB 190) 152 = .ok (.if_icmp .ne 20, 3) := by decide +kernel
theorem d190_155 : decode (xB 190) 155 = .ok (.aload_n 0, 1) := by decide +kernel
theorem d190_156 : decode (xB 190) 156 = .ok (.getfield 32, 3) := by decide +kernel
theorem d190_159 : decode (xB 190) 159 = .ok (.iload_n 2, 1) := by decide +kernel
theorem d190_160 : decode (xB 190) 160 = .ok (.iconst 0, 1) := by decide +kernel
theorem d190_161 : decode (xB 190) 161 = .ok (.iastore, 1) := by decide +kernel
theorem d190_162 : decode (xB 190) 162 = .ok (.aload_n 0, 1) := by decide +kernel
theorem d190_163 : decode (xB 190) 163 = .ok (.getfield 35, 3) := by decide +kernel
theorem d190_166 : decode (xB 190) 166 = .ok (.iload_n 2, 1) := by decide +kernel
theorem d190_167 : decode (xB 190) 167 = .ok (.iconst 0, 1) := by decide +kernel
theorem d190_168 : decode (xB 190) 168 = .ok (.iastore, 1) := by decide +kernel
theorem d190_169 : decode (xB 190) 169 = .ok (.goto 70, 3) := by decide +kernel
theorem d190_172 : decode (xB 190) 172 = .ok (.aload_n 0, 1) := by decide +kernel
theorem d190_173 : decode (xB 190) 173 = .ok (.getfield 29, 3) := by decide +kernel
theorem d190_176 : decode (xB 190) 176 = .ok (.iload_n 2, 1) := by decide +kernel
theorem d190_177 : decode (xB 190) 177 = .ok (.iaload, 1) := by decide +kernel
theorem d190_178 : decode (xB 190) 178 = .ok (.iconst 1, 1) := by decide +kernel
theorem d190_179 : decode (xB 190) 179 = .ok (.if_icmp .ne 33, 3) := by decide +kernel
theorem d190_182 : decode (xB 190) 182 = .ok (.aload_n 0, 1) := by decide +kernel
theorem d190_183 : decode (xB 190) 183 = .ok (.getfield 32, 3) := by decide +kernel
theorem d190_186 : decode (xB 190) 186 = .ok (.iload_n 2, 1) := by decide +kernel
theorem d190_187 : decode (xB 190) 187 = .ok (.dup2, 1) := by decide +kernel
theorem d190_188 : decode (xB 190) 188 = .ok (.iaload, 1) := by decide +kernel
theorem d190_189 : decode (xB 190) 189 = .ok (.iconst 1, 1) := by decide +kernel
theorem d190_190 : decode (xB 190) 190 = .ok (.iadd, 1) := by decide +kernel
theorem d190_191 : decode (xB 190) 191 = .ok (.iastore, 1) := by decide +kernel
theorem d190_192 : decode (xB 190) 192 = .ok (.aload_n 0, 1) := by decide +kernel
theorem d190_193 : decode (xB 190) 193 = .ok (.getfield 38, 3) := by decide +kernel
theorem d190_196 : decode (xB 190) 196 = .ok (.iload_n 2, 1) := by decide +kernel
theorem d190_197 : decode (xB 190) 197 = .ok (.dup2, 1) := by decide +kernel
theorem d190_198 : decode (xB 190) 198 = .ok (.iaload, 1) := by decide +kernel
theorem d190_199 : decode (xB 190) 199 = .ok (.iconst 1, 1) := by decide +kernel
theorem d190_200 : decode (xB 190) 200 = .ok (.iadd, 1) := by decide +kernel
theorem d190_201 : decode (xB 190) 201 = .ok (.iastore, 1) := by decide +kernel
theorem d190_202 : decode (xB 190) 202 = .ok (.aload_n 0, 1) := by decide +kernel
theorem d190_203 : decode (xB 190) 203 = .ok (.getfield 35, 3) := by decide +kernel
theorem d190_206 : decode (xB 190) 206 = .ok (.iload_n 2, 1) := by decide +kernel
theorem d190_207 : decode (xB 190) 207 = .ok (.iconst 0, 1) := by decide +kernel
theorem d190_208 : decode (xB 190) 208 = .ok (.iastore, 1) := by decide +kernel
theorem d190_209 : decode (xB 190) 209 = .ok (.goto 30, 3) := by decide +kernel
theorem d190_212 : decode (xB 190) 212 = .ok (.aload_n 0, 1) := by decide +kernel
theorem d190_213 : decode (xB 190) 213 = .ok (.getfield 35, 3) := by decide +kernel
theorem d190_216 : decode (xB 190) 216 = .ok (.iload_n 2, 1) := by decide +kernel
theorem d190_217 : decode (xB 190) 217 = .ok (.dup2, 1) := by decide +kernel
theorem d190_218 : decode (xB 190) 218 = .ok (.iaload, 1) := by decide +kernel
theorem d190_219 : decode (xB 190) 219 = .ok (.iconst 1, 1) := by decide +kernel
theorem d190_220 : decode (xB 190) 220 = .ok (.iadd, 1) := by decide +kernel
theorem d190_221 : decode (xB 190) 221 = .ok (.iastore, 1) := by decide +kernel
theorem d190_222 : decode (xB 190) 222 = .ok (.aload_n 0, 1) := by decide +kernel
theorem d190_223 : decode (xB 190) 223 = .ok (.getfield 41, 3) := by decide +kernel
theorem d190_226 : decode (xB 190) 226 = .ok (.iload_n 2, 1) := by decide +kernel
theorem d190_227 : decode (xB 190) 227 = .ok (.dup2, 1) := by decide +kernel
theorem d190_228 : decode (xB 190) 228 = .ok (.iaload, 1) := by decide +kernel
theorem d190_229 : decode (xB 190) 229 = .ok (.iconst 1, 1) := by decide +kernel
theorem d190_230 : decode (xB 190) 230 = .ok (.iadd, 1) := by decide +kernel
theorem d190_231 : decode (xB 190) 231 = .ok (.iastore, 1) := by decide +kernel
theorem d190_232 : decode (xB 190) 232 = .ok (.aload_n 0, 1) := by decide +kernel
theorem d190_233 : decode (xB 190) 233 = .ok (.getfield 32, 3) := by decide +kernel
theorem d190_236 : decode (xB 190) 236 = .ok (.iload_n 2, 1) := by decide +kernel
theorem d190_237 : decode (xB 190) 237 = .ok (.iconst 0, 1) := by decide +kernel
theorem d190_238 : decode (xB 190) 238 = .ok (.iastore, 1) := by decide +kernel
theorem d190_239 : decode (xB 190) 239 = .ok (.iinc 2 1, 3) := by decide +kernel
theorem d190_242 : decode (xB 190) 242 = .ok (.goto (-105), 3) := by decide +kernel
theorem d190_245 : decode (xB 190) 245 = .ok (.aload_n 0, 1) := by decide +kernel
theorem d190_246 : decode (xB 190) 246 = .ok (.dup, 1) := by decide +kernel
theorem d190_247 : decode (xB 190) 247 = .ok (.getfield 225, 3) := by decide +kernel
theorem d190_250 : decode (xB 190) 250 = .ok (.iconst 1, 1) := by decide +kernel
theorem d190_251 : decode (xB 190) 251 = .ok (.iadd, 1) := by decide +kernel
theorem d190_252 : decode (xB 190) 252 = .ok (.putfield 225, 3) := by decide +kernel
theorem d190_255 : decode (xB 190) 255 = .ok (.iload_n 1, 1) := by decide +kernel
theorem d190_256 : decode (xB 190) 256 = .ok (.ireturn, 1) := by decide +kernel
theorem b190_0 {d : Nat} {P : xPr} {Q : xQr} {r : Nat} {mem : Nat → Nat → Int32} (hP : Cl d none 190 P Q)
    (k : P 2 [.ref 108, .int (nI 0), .null, .null] [] (0, 0) (LAY, RFu r, mem)) : P 0 [.ref 108, .null, .null, .null] [] (0, 0) (LAY, RFu r, mem) := by
  refine r_iconst (v := nI 0) hP d190_0 rfl ?_
  refine r_istore_n (L' := [.ref 108, .int (nI 0), .null, .null]) hP d190_1 (Nat.le_of_ble_eq_true rfl) rfl ?_
  exact k
theorem b190_2 {d : Nat} {P : xPr} {Q : xQr} {r : Nat} {mem : Nat → Nat → Int32} (hP : Cl d none 190 P Q) {x1 : Int32} {v2 : Value} {v3 : Value}
    (kt : (mem 108 2) ≤ x1 → P 46 [.ref 108, .int x1, v2, v3] [] (0, 0) (LAY, RFu r, mem)) (kf : ¬ (mem 108 2) ≤ x1 → P 10 [.ref 108, .int x1, v2, v3] [] (0, 0) (LAY, RFu r, mem)) : P 2 [.ref 108, .int x1, v2, v3] [] (0, 0) (LAY, RFu r, mem) := by
  refine r_iload_n hP d190_2 rfl ?_
  refine r_aload_n hP d190_3 rfl ?_
  refine r_geti hP d190_4 fr_12_127 rfl ly_108 ?_
  exact r_icmp (t := 46) hP d190_7 (by decide) kt kf
theorem b190_10 {d : Nat} {P : xPr} {Q : xQr} {r : Nat} {mem : Nat → Nat → Int32} (hP : Cl d none 190 P Q) {x1 : Int32} {v2 : Value} {v3 : Value}
    (k : xCall d 186 [.ref 108, .int x1] (LAY, RFu r, mem) (Bk P 12 [.ref 108, .int x1, v2, v3] [] (0, 0))) : P 10 [.ref 108, .int x1, v2, v3] [] (0, 0) (LAY, RFu r, mem) := by
  refine r_aload_n hP d190_10 rfl ?_
  refine r_iload_n hP d190_11 rfl ?_
  exact r_callv (As := [.int x1]) (S := []) hP d190_12 cr_12_238 (by decide +kernel) rfl (by simp [Value.category]) rfl ly_108 (by simp [Value.category]) ⟨Nat.zero_le _, Nat.zero_le _⟩ k
theorem b190_15 {d : Nat} {P : xPr} {Q : xQr} {r : Nat} {mem : Nat → Nat → Int32} (hP : Cl d none 190 P Q) {x1 : Int32} {v2 : Value} {v3 : Value} {y0 : Int32} (hi22 : vp_in x1 8)
    (kt : y0 = (mem 114 x1.toNatClampNeg) → P 33 [.ref 108, .int x1, .int y0, v3] [] (0, 0) (LAY, RFu r, mem)) (kf : ¬ y0 = (mem 114 x1.toNatClampNeg) → P 26 [.ref 108, .int x1, .int y0, v3] [] (0, 0) (LAY, RFu r, mem)) : P 15 [.ref 108, .int x1, v2, v3] [.int y0] (0, 0) (LAY, RFu r, mem) := by
  refine r_istore_n (L' := [.ref 108, .int x1, .int y0, v3]) hP d190_15 (Nat.le_of_ble_eq_true rfl) rfl ?_
  refine r_iload_n hP d190_16 rfl ?_
  refine r_aload_n hP d190_17 rfl ?_
  refine r_getr (a := 114) hP d190_18 fr_12_26 rfl ly_108 rg_108_7 ?_
  refine r_iload_n hP d190_21 rfl ?_
  refine r_iaload hP d190_22 ly_114 hi22 ?_
  exact r_icmp (t := 33) hP d190_23 (by decide) kt kf
theorem b190_26 {d : Nat} {P : xPr} {Q : xQr} {r : Nat} {mem : Nat → Nat → Int32} (hP : Cl d none 190 P Q) {x1 : Int32} {x2 : Int32} {v3 : Value} (hi32 : vp_in x1 8)
    (k : P 33 [.ref 108, .int x1, .int x2, v3] [] (0, 0) (LAY, RFu r, xu2 mem 115 x1.toNatClampNeg (nI 0))) : P 26 [.ref 108, .int x1, .int x2, v3] [] (0, 0) (LAY, RFu r, mem) := by
  refine r_aload_n hP d190_26 rfl ?_
  refine r_getr (a := 115) hP d190_27 fr_12_29 rfl ly_108 rg_108_8 ?_
  refine r_iload_n hP d190_30 rfl ?_
  refine r_iconst (v := nI 0) hP d190_31 rfl ?_
  refine r_iastore hP d190_32 ly_115 hi32 ?_
  exact k
theorem b190_33 {d : Nat} {P : xPr} {Q : xQr} {r : Nat} {mem : Nat → Nat → Int32} (hP : Cl d none 190 P Q) {x1 : Int32} {x2 : Int32} {v3 : Value} (hi39 : vp_in x1 8)
    (k : P 2 [.ref 108, .int (x1 + nI 1), .int x2, v3] [] (0, 0) (LAY, RFu r, xu2 mem 114 x1.toNatClampNeg x2)) : P 33 [.ref 108, .int x1, .int x2, v3] [] (0, 0) (LAY, RFu r, mem) := by
  refine r_aload_n hP d190_33 rfl ?_
  refine r_getr (a := 114) hP d190_34 fr_12_26 rfl ly_108 rg_108_7 ?_
  refine r_iload_n hP d190_37 rfl ?_
  refine r_iload_n hP d190_38 rfl ?_
  refine r_iastore hP d190_39 ly_114 hi39 ?_
  refine r_iinc (v := nI 1) (L' := [.ref 108, .int (x1 + nI 1), .int x2, v3]) hP d190_40 rfl rfl rfl ?_
  refine r_goto (t := 2) hP d190_43 (by decide) ?_
  exact k
theorem b190_46 {d : Nat} {P : xPr} {Q : xQr} {r : Nat} {mem : Nat → Nat → Int32} (hP : Cl d none 190 P Q) {v1 : Value} {v2 : Value} {v3 : Value}
    (k : P 50 [.ref 108, .int (nI 0), .int (nI 0), v3] [] (0, 0) (LAY, RFu r, mem)) : P 46 [.ref 108, v1, v2, v3] [] (0, 0) (LAY, RFu r, mem) := by
  refine r_iconst (v := nI 0) hP d190_46 rfl ?_
  refine r_istore_n (L' := [.ref 108, .int (nI 0), v2, v3]) hP d190_47 (Nat.le_of_ble_eq_true rfl) rfl ?_
  refine r_iconst (v := nI 0) hP d190_48 rfl ?_
  refine r_istore_n (L' := [.ref 108, .int (nI 0), .int (nI 0), v3]) hP d190_49 (Nat.le_of_ble_eq_true rfl) rfl ?_
  exact k
theorem b190_50 {d : Nat} {P : xPr} {Q : xQr} {r : Nat} {mem : Nat → Nat → Int32} (hP : Cl d none 190 P Q) {x1 : Int32} {x2 : Int32} {v3 : Value}
    (kt : (mem 108 0) ≤ x2 → P 135 [.ref 108, .int x1, .int x2, v3] [] (0, 0) (LAY, RFu r, mem)) (kf : ¬ (mem 108 0) ≤ x2 → P 58 [.ref 108, .int x1, .int x2, v3] [] (0, 0) (LAY, RFu r, mem)) : P 50 [.ref 108, .int x1, .int x2, v3] [] (0, 0) (LAY, RFu r, mem) := by
  refine r_iload_n hP d190_50 rfl ?_
  refine r_aload_n hP d190_51 rfl ?_
  refine r_geti hP d190_52 fr_12_138 rfl ly_108 ?_
  exact r_icmp (t := 135) hP d190_55 (by decide) kt kf
theorem b190_58 {d : Nat} {P : xPr} {Q : xQr} {r : Nat} {mem : Nat → Nat → Int32} (hP : Cl d none 190 P Q) {x1 : Int32} {x2 : Int32} {v3 : Value}
    (kt : ¬ x2 = (mem 108 32) → P 70 [.ref 108, .int x1, .int x2, v3] [] (0, 0) (LAY, RFu r, mem)) (kf : x2 = (mem 108 32) → P 66 [.ref 108, .int x1, .int x2, v3] [] (0, 0) (LAY, RFu r, mem)) : P 58 [.ref 108, .int x1, .int x2, v3] [] (0, 0) (LAY, RFu r, mem) := by
  refine r_iload_n hP d190_58 rfl ?_
  refine r_aload_n hP d190_59 rfl ?_
  refine r_geti hP d190_60 fr_12_75 rfl ly_108 ?_
  exact r_icmp (t := 70) hP d190_63 (by decide) kt (fun q => kf (Decidable.of_not_not q))
theorem b190_66 {d : Nat} {P : xPr} {Q : xQr} {r : Nat} {mem : Nat → Nat → Int32} (hP : Cl d none 190 P Q) {x1 : Int32} {x2 : Int32} {v3 : Value}
    (k : P 111 [.ref 108, .int x1, .int x2, v3] [.int (nI 0)] (0, 0) (LAY, RFu r, mem)) : P 66 [.ref 108, .int x1, .int x2, v3] [] (0, 0) (LAY, RFu r, mem) := by
  refine r_iconst (v := nI 0) hP d190_66 rfl ?_
  refine r_goto (t := 111) hP d190_67 (by decide) ?_
  exact k
theorem b190_70 {d : Nat} {P : xPr} {Q : xQr} {r : Nat} {mem : Nat → Nat → Int32} (hP : Cl d none 190 P Q) {x1 : Int32} {x2 : Int32} {v3 : Value}
    (kt : (mem 108 32) = (-1) → P 105 [.ref 108, .int x1, .int x2, v3] [] (0, 0) (LAY, RFu r, mem)) (kf : ¬ (mem 108 32) = (-1) → P 78 [.ref 108, .int x1, .int x2, v3] [] (0, 0) (LAY, RFu r, mem)) : P 70 [.ref 108, .int x1, .int x2, v3] [] (0, 0) (LAY, RFu r, mem) := by
  refine r_aload_n hP d190_70 rfl ?_
  refine r_geti hP d190_71 fr_12_75 rfl ly_108 ?_
  refine r_iconst (v := (-1)) hP d190_74 rfl ?_
  exact r_icmp (t := 105) hP d190_75 (by decide) kt kf
theorem b190_78 {d : Nat} {P : xPr} {Q : xQr} {r : Nat} {mem : Nat → Nat → Int32} (hP : Cl d none 190 P Q) {x1 : Int32} {x2 : Int32} {v3 : Value}
    (kt : ¬ x2 = (mem 108 33) → P 105 [.ref 108, .int x1, .int x2, v3] [] (0, 0) (LAY, RFu r, mem)) (kf : x2 = (mem 108 33) → P 86 [.ref 108, .int x1, .int x2, v3] [] (0, 0) (LAY, RFu r, mem)) : P 78 [.ref 108, .int x1, .int x2, v3] [] (0, 0) (LAY, RFu r, mem) := by
  refine r_iload_n hP d190_78 rfl ?_
  refine r_aload_n hP d190_79 rfl ?_
  refine r_geti hP d190_80 fr_12_228 rfl ly_108 ?_
  exact r_icmp (t := 105) hP d190_83 (by decide) kt (fun q => kf (Decidable.of_not_not q))
theorem b190_86 {d : Nat} {P : xPr} {Q : xQr} {r : Nat} {mem : Nat → Nat → Int32} (hP : Cl d none 190 P Q) {x1 : Int32} {x2 : Int32} {v3 : Value} (hi91 : vp_in x2 4) (hi100 : vp_in (mem 108 32) 4)
    (k : P 111 [.ref 108, .int x1, .int x2, v3] [.int ((mem 109 x2.toNatClampNeg) + (mem 109 (mem 108 32).toNatClampNeg))] (0, 0) (LAY, RFu r, mem)) : P 86 [.ref 108, .int x1, .int x2, v3] [] (0, 0) (LAY, RFu r, mem) := by
  refine r_aload_n hP d190_86 rfl ?_
  refine r_getr (a := 109) hP d190_87 fr_12_9 rfl ly_108 rg_108_1 ?_
  refine r_iload_n hP d190_90 rfl ?_
  refine r_iaload hP d190_91 ly_109 hi91 ?_
  refine r_aload_n hP d190_92 rfl ?_
  refine r_getr (a := 109) hP d190_93 fr_12_9 rfl ly_108 rg_108_1 ?_
  refine r_aload_n hP d190_96 rfl ?_
  refine r_geti hP d190_97 fr_12_75 rfl ly_108 ?_
  refine r_iaload hP d190_100 ly_109 hi100 ?_
  refine r_iadd hP d190_101 ?_
  refine r_goto (t := 111) hP d190_102 (by decide) ?_
  exact k
theorem b190_105 {d : Nat} {P : xPr} {Q : xQr} {r : Nat} {mem : Nat → Nat → Int32} (hP : Cl d none 190 P Q) {x1 : Int32} {x2 : Int32} {v3 : Value} (hi110 : vp_in x2 4)
    (k : P 111 [.ref 108, .int x1, .int x2, v3] [.int (mem 109 x2.toNatClampNeg)] (0, 0) (LAY, RFu r, mem)) : P 105 [.ref 108, .int x1, .int x2, v3] [] (0, 0) (LAY, RFu r, mem) := by
  refine r_aload_n hP d190_105 rfl ?_
  refine r_getr (a := 109) hP d190_106 fr_12_9 rfl ly_108 rg_108_1 ?_
  refine r_iload_n hP d190_109 rfl ?_
  refine r_iaload hP d190_110 ly_109 hi110 ?_
  exact k
theorem b190_111 {d : Nat} {P : xPr} {Q : xQr} {r : Nat} {mem : Nat → Nat → Int32} (hP : Cl d none 190 P Q) {x1 : Int32} {x2 : Int32} {v3 : Value} {y0 : Int32}
    (k : xCall d 189 [.ref 108, .int x2, .int y0] (LAY, RFu r, mem) (Bk P 116 [.ref 108, .int x1, .int x2, .int y0] [.int x1] (0, 0))) : P 111 [.ref 108, .int x1, .int x2, v3] [.int y0] (0, 0) (LAY, RFu r, mem) := by
  refine r_istore_n (L' := [.ref 108, .int x1, .int x2, .int y0]) hP d190_111 (Nat.le_of_ble_eq_true rfl) rfl ?_
  refine r_iload_n hP d190_112 rfl ?_
  refine r_aload_n hP d190_113 rfl ?_
  refine r_iload_n hP d190_114 rfl ?_
  refine r_iload_n hP d190_115 rfl ?_
  exact r_callv (As := [.int x2, .int y0]) (S := [.int x1]) hP d190_116 cr_12_241 (by decide +kernel) rfl (by simp [Value.category]) rfl ly_108 (by simp [Value.category]) ⟨Nat.zero_le _, Nat.zero_le _⟩ k
theorem b190_119 {d : Nat} {P : xPr} {Q : xQr} {r : Nat} {mem : Nat → Nat → Int32} (hP : Cl d none 190 P Q) {v1 : Value} {x2 : Int32} {v3 : Value} {y0 : Int32} {y1 : Int32}
    (kt : y1 = 0 → P 126 [.ref 108, v1, .int x2, v3] [.int y0] (0, 0) (LAY, RFu r, mem)) (kf : ¬ y1 = 0 → P 122 [.ref 108, v1, .int x2, v3] [.int y0] (0, 0) (LAY, RFu r, mem)) : P 119 [.ref 108, v1, .int x2, v3] [.int y1, .int y0] (0, 0) (LAY, RFu r, mem) := by
  exact r_if (t := 126) hP d190_119 (by decide) kt kf
theorem b190_122 {d : Nat} {P : xPr} {Q : xQr} {r : Nat} {mem : Nat → Nat → Int32} (hP : Cl d none 190 P Q) {v1 : Value} {x2 : Int32} {v3 : Value} {y0 : Int32}
    (k : P 127 [.ref 108, v1, .int x2, v3] [.int (nI 1), .int y0] (0, 0) (LAY, RFu r, mem)) : P 122 [.ref 108, v1, .int x2, v3] [.int y0] (0, 0) (LAY, RFu r, mem) := by
  refine r_iconst (v := nI 1) hP d190_122 rfl ?_
  refine r_goto (t := 127) hP d190_123 (by decide) ?_
  exact k
theorem b190_126 {d : Nat} {P : xPr} {Q : xQr} {r : Nat} {mem : Nat → Nat → Int32} (hP : Cl d none 190 P Q) {v1 : Value} {x2 : Int32} {v3 : Value} {y0 : Int32}
    (k : P 127 [.ref 108, v1, .int x2, v3] [.int (nI 0), .int y0] (0, 0) (LAY, RFu r, mem)) : P 126 [.ref 108, v1, .int x2, v3] [.int y0] (0, 0) (LAY, RFu r, mem) := by
  refine r_iconst (v := nI 0) hP d190_126 rfl ?_
  exact k
theorem b190_127 {d : Nat} {P : xPr} {Q : xQr} {r : Nat} {mem : Nat → Nat → Int32} (hP : Cl d none 190 P Q) {v1 : Value} {x2 : Int32} {v3 : Value} {y0 : Int32} {y1 : Int32}
    (k : P 50 [.ref 108, .int (y0 + y1), .int (x2 + nI 1), v3] [] (0, 0) (LAY, RFu r, mem)) : P 127 [.ref 108, v1, .int x2, v3] [.int y1, .int y0] (0, 0) (LAY, RFu r, mem) := by
  refine r_iadd hP d190_127 ?_
  refine r_istore_n (L' := [.ref 108, .int (y0 + y1), .int x2, v3]) hP d190_128 (Nat.le_of_ble_eq_true rfl) rfl ?_
  refine r_iinc (v := nI 1) (L' := [.ref 108, .int (y0 + y1), .int (x2 + nI 1), v3]) hP d190_129 rfl rfl rfl ?_
  refine r_goto (t := 50) hP d190_132 (by decide) ?_
  exact k
theorem b190_135 {d : Nat} {P : xPr} {Q : xQr} {r : Nat} {mem : Nat → Nat → Int32} (hP : Cl d none 190 P Q) {x1 : Int32} {v2 : Value} {v3 : Value}
    (k : P 137 [.ref 108, .int x1, .int (nI 0), v3] [] (0, 0) (LAY, RFu r, mem)) : P 135 [.ref 108, .int x1, v2, v3] [] (0, 0) (LAY, RFu r, mem) := by
  refine r_iconst (v := nI 0) hP d190_135 rfl ?_
  refine r_istore_n (L' := [.ref 108, .int x1, .int (nI 0), v3]) hP d190_136 (Nat.le_of_ble_eq_true rfl) rfl ?_
  exact k
theorem b190_137 {d : Nat} {P : xPr} {Q : xQr} {r : Nat} {mem : Nat → Nat → Int32} (hP : Cl d none 190 P Q) {x1 : Int32} {x2 : Int32} {v3 : Value}
    (kt : (mem 108 2) ≤ x2 → P 245 [.ref 108, .int x1, .int x2, v3] [] (0, 0) (LAY, RFu r, mem)) (kf : ¬ (mem 108 2) ≤ x2 → P 145 [.ref 108, .int x1, .int x2, v3] [] (0, 0) (LAY, RFu r, mem)) : P 137 [.ref 108, .int x1, .int x2, v3] [] (0, 0) (LAY, RFu r, mem) := by
  refine r_iload_n hP d190_137 rfl ?_
  refine r_aload_n hP d190_138 rfl ?_
  refine r_geti hP d190_139 fr_12_127 rfl ly_108 ?_
  exact r_icmp (t := 245) hP d190_142 (by decide) kt kf
theorem b190_145 {d : Nat} {P : xPr} {Q : xQr} {r : Nat} {mem : Nat → Nat → Int32} (hP : Cl d none 190 P Q) {x1 : Int32} {x2 : Int32} {v3 : Value} (hi150 : vp_in x2 8)
    (kt : ¬ (mem 114 x2.toNatClampNeg) = (-1) → P 172 [.ref 108, .int x1, .int x2, v3] [] (0, 0) (LAY, RFu r, mem)) (kf : (mem 114 x2.toNatClampNeg) = (-1) → P 155 [.ref 108, .int x1, .int x2, v3] [] (0, 0) (LAY, RFu r, mem)) : P 145 [.ref 108, .int x1, .int x2, v3] [] (0, 0) (LAY, RFu r, mem) := by
  refine r_aload_n hP d190_145 rfl ?_
  refine r_getr (a := 114) hP d190_146 fr_12_26 rfl ly_108 rg_108_7 ?_
  refine r_iload_n hP d190_149 rfl ?_
  refine r_iaload hP d190_150 ly_114 hi150 ?_
  refine r_iconst (v := (-1)) hP d190_151 rfl ?_
  exact r_icmp (t := 172) hP d190_152 (by decide) kt (fun q => kf (Decidable.of_not_not q))
theorem b190_155 {d : Nat} {P : xPr} {Q : xQr} {r : Nat} {mem : Nat → Nat → Int32} (hP : Cl d none 190 P Q) {x1 : Int32} {x2 : Int32} {v3 : Value} (hi161 : vp_in x2 8) (hi168 : vp_in x2 8)
    (k : P 239 [.ref 108, .int x1, .int x2, v3] [] (0, 0) (LAY, RFu r, xu2 (xu2 mem 116 x2.toNatClampNeg (nI 0)) 117 x2.toNatClampNeg (nI 0))) : P 155 [.ref 108, .int x1, .int x2, v3] [] (0, 0) (LAY, RFu r, mem) := by
  refine r_aload_n hP d190_155 rfl ?_
  refine r_getr (a := 116) hP d190_156 fr_12_32 rfl ly_108 rg_108_9 ?_
  refine r_iload_n hP d190_159 rfl ?_
  refine r_iconst (v := nI 0) hP d190_160 rfl ?_
  refine r_iastore hP d190_161 ly_116 hi161 ?_
  refine r_aload_n hP d190_162 rfl ?_
  refine r_getr (a := 117) hP d190_163 fr_12_35 rfl ly_108 rg_108_10 ?_
  refine r_iload_n hP d190_166 rfl ?_
  refine r_iconst (v := nI 0) hP d190_167 rfl ?_
  refine r_iastore hP d190_168 ly_117 hi168 ?_
  refine r_goto (t := 239) hP d190_169 (by decide) ?_
  exact k
theorem b190_172 {d : Nat} {P : xPr} {Q : xQr} {r : Nat} {mem : Nat → Nat → Int32} (hP : Cl d none 190 P Q) {x1 : Int32} {x2 : Int32} {v3 : Value} (hi177 : vp_in x2 8)
    (kt : ¬ (mem 115 x2.toNatClampNeg) = (nI 1) → P 212 [.ref 108, .int x1, .int x2, v3] [] (0, 0) (LAY, RFu r, mem)) (kf : (mem 115 x2.toNatClampNeg) = (nI 1) → P 182 [.ref 108, .int x1, .int x2, v3] [] (0, 0) (LAY, RFu r, mem)) : P 172 [.ref 108, .int x1, .int x2, v3] [] (0, 0) (LAY, RFu r, mem) := by
  refine r_aload_n hP d190_172 rfl ?_
  refine r_getr (a := 115) hP d190_173 fr_12_29 rfl ly_108 rg_108_8 ?_
  refine r_iload_n hP d190_176 rfl ?_
  refine r_iaload hP d190_177 ly_115 hi177 ?_
  refine r_iconst (v := nI 1) hP d190_178 rfl ?_
  exact r_icmp (t := 212) hP d190_179 (by decide) kt (fun q => kf (Decidable.of_not_not q))
theorem b190_182 {d : Nat} {P : xPr} {Q : xQr} {r : Nat} {mem : Nat → Nat → Int32} (hP : Cl d none 190 P Q) {x1 : Int32} {x2 : Int32} {v3 : Value} (hi188 : vp_in x2 8) (hi191 : vp_in x2 8) (hi198 : vp_in x2 8) (hi201 : vp_in x2 8) (hi208 : vp_in x2 8)
    (k : P 239 [.ref 108, .int x1, .int x2, v3] [] (0, 0) (LAY, RFu r, xu2 (xu2 (xu2 mem 116 x2.toNatClampNeg ((mem 116 x2.toNatClampNeg) + (nI 1))) 118 x2.toNatClampNeg (((xu2 mem 116 x2.toNatClampNeg ((mem 116 x2.toNatClampNeg) + (nI 1))) 118 x2.toNatClampNeg) + (nI 1))) 117 x2.toNatClampNeg (nI 0))) : P 182 [.ref 108, .int x1, .int x2, v3] [] (0, 0) (LAY, RFu r, mem) := by
  refine r_aload_n hP d190_182 rfl ?_
  refine r_getr (a := 116) hP d190_183 fr_12_32 rfl ly_108 rg_108_9 ?_
  refine r_iload_n hP d190_186 rfl ?_
  refine r_dup2 hP d190_187 rfl rfl ?_
  refine r_iaload hP d190_188 ly_116 hi188 ?_
  refine r_iconst (v := nI 1) hP d190_189 rfl ?_
  refine r_iadd hP d190_190 ?_
  refine r_iastore hP d190_191 ly_116 hi191 ?_
  refine r_aload_n hP d190_192 rfl ?_
  refine r_getr (a := 118) hP d190_193 fr_12_38 rfl ly_108 rg_108_11 ?_
  refine r_iload_n hP d190_196 rfl ?_
  refine r_dup2 hP d190_197 rfl rfl ?_
  refine r_iaload hP d190_198 ly_118 hi198 ?_
  refine r_iconst (v := nI 1) hP d190_199 rfl ?_
  refine r_iadd hP d190_200 ?_
  refine r_iastore hP d190_201 ly_118 hi201 ?_
  refine r_aload_n hP d190_202 rfl ?_
  refine r_getr (a := 117) hP d190_203 fr_12_35 rfl ly_108 rg_108_10 ?_
  refine r_iload_n hP d190_206 rfl ?_
  refine r_iconst (v := nI 0) hP d190_207 rfl ?_
  refine r_iastore hP d190_208 ly_117 hi208 ?_
  refine r_goto (t := 239) hP d190_209 (by decide) ?_
  exact k
theorem b190_212 {d : Nat} {P : xPr} {Q : xQr} {r : Nat} {mem : Nat → Nat → Int32} (hP : Cl d none 190 P Q) {x1 : Int32} {x2 : Int32} {v3 : Value} (hi218 : vp_in x2 8) (hi221 : vp_in x2 8) (hi228 : vp_in x2 8) (hi231 : vp_in x2 8) (hi238 : vp_in x2 8)
    (k : P 239 [.ref 108, .int x1, .int x2, v3] [] (0, 0) (LAY, RFu r, xu2 (xu2 (xu2 mem 117 x2.toNatClampNeg ((mem 117 x2.toNatClampNeg) + (nI 1))) 119 x2.toNatClampNeg (((xu2 mem 117 x2.toNatClampNeg ((mem 117 x2.toNatClampNeg) + (nI 1))) 119 x2.toNatClampNeg) + (nI 1))) 116 x2.toNatClampNeg (nI 0))) : P 212 [.ref 108, .int x1, .int x2, v3] [] (0, 0) (LAY, RFu r, mem) := by
  refine r_aload_n hP d190_212 rfl ?_
  refine r_getr (a := 117) hP d190_213 fr_12_35 rfl ly_108 rg_108_10 ?_
  refine r_iload_n hP d190_216 rfl ?_
  refine r_dup2 hP d190_217 rfl rfl ?_
  refine r_iaload hP d190_218 ly_117 hi218 ?_
  refine r_iconst (v := nI 1) hP d190_219 rfl ?_
  refine r_iadd hP d190_220 ?_
  refine r_iastore hP d190_221 ly_117 hi221 ?_
  refine r_aload_n hP d190_222 rfl ?_
  refine r_getr (a := 119) hP d190_223 fr_12_41 rfl ly_108 rg_108_12 ?_
  refine r_iload_n hP d190_226 rfl ?_
  refine r_dup2 hP d190_227 rfl rfl ?_
  refine r_iaload hP d190_228 ly_119 hi228 ?_
  refine r_iconst (v := nI 1) hP d190_229 rfl ?_
  refine r_iadd hP d190_230 ?_
  refine r_iastore hP d190_231 ly_119 hi231 ?_
  refine r_aload_n hP d190_232 rfl ?_
  refine r_getr (a := 116) hP d190_233 fr_12_32 rfl ly_108 rg_108_9 ?_
  refine r_iload_n hP d190_236 rfl ?_
  refine r_iconst (v := nI 0) hP d190_237 rfl ?_
  refine r_iastore hP d190_238 ly_116 hi238 ?_
  exact k
theorem b190_239 {d : Nat} {P : xPr} {Q : xQr} {r : Nat} {mem : Nat → Nat → Int32} (hP : Cl d none 190 P Q) {x1 : Int32} {x2 : Int32} {v3 : Value}
    (k : P 137 [.ref 108, .int x1, .int (x2 + nI 1), v3] [] (0, 0) (LAY, RFu r, mem)) : P 239 [.ref 108, .int x1, .int x2, v3] [] (0, 0) (LAY, RFu r, mem) := by
  refine r_iinc (v := nI 1) (L' := [.ref 108, .int x1, .int (x2 + nI 1), v3]) hP d190_239 rfl rfl rfl ?_
  refine r_goto (t := 137) hP d190_242 (by decide) ?_
  exact k
theorem b190_245 {d : Nat} {P : xPr} {Q : xQr} {r : Nat} {mem : Nat → Nat → Int32} (hP : Cl d none 190 P Q) {x1 : Int32} {v2 : Value} {v3 : Value}
    (k : Q (some (.int x1)) (LAY, RFu r, xu2 mem 108 15 ((mem 108 15) + (nI 1)))) : P 245 [.ref 108, .int x1, v2, v3] [] (0, 0) (LAY, RFu r, mem) := by
  refine r_aload_n hP d190_245 rfl ?_
  refine r_dup hP d190_246 rfl ?_
  refine r_geti hP d190_247 fr_12_225 rfl ly_108 ?_
  refine r_iconst (v := nI 1) hP d190_250 rfl ?_
  refine r_iadd hP d190_251 ?_
  refine r_puti hP d190_252 fr_12_225 rfl (fun q => by cases q) ly_108 ?_
  refine r_iload_n hP d190_255 rfl ?_
  exact r_iret hP d190_256 rfl k
theorem d191_0 : decode (xB 191) 0 = .ok (.iconst 0, 1) := by decide +kernel
theorem d191_1 : decode (xB 191) 1 = .ok (.istore_n 3, 1) := by decide +kernel
theorem d191_2 : decode (xB 191) 2 = .ok (.iload_n 3, 1) := by decide +kernel
theorem d191_3 : decode (xB 191) 3 = .ok (.bipush 8, 2) := by decide +kernel
theorem d191_5 : decode (xB 191) 5 = .ok (.if_icmp .ge 120, 3) := by decide +kernel
theorem d191_8 : decode (xB 191) 8 = .ok (.aload_n 1, 1) := by decide +kernel
theorem d191_9 : decode (xB 191) 9 = .ok (.iload_n 2, 1) := by decide +kernel
theorem d191_10 : decode (xB 191) 10 = .ok (.bipush 7, 2) := by decide +kernel
theorem d191_12 : decode (xB 191) 12 = .ok (.iload_n 3, 1) := by decide +kernel
theorem d191_13 : decode (xB 191) 13 = .ok (.imul, 1) := by decide +kernel
theorem d191_14 : decode (xB 191) 14 = .ok (.iadd, 1) := by decide +kernel
theorem d191_15 : decode (xB 191) 15 = .ok (.aload_n 0, 1) := by decide +kernel
theorem d191_16 : decode (xB 191) 16 = .ok (.getfield 26, 3) := by decide +kernel
theorem d191_19 : decode (xB 191) 19 = .ok (.iload_n 3, 1) := by decide +kernel
theorem d191_20 : decode (xB 191) 20 = .ok (.iaload, 1) := by decide +kernel
theorem d191_21 : decode (xB 191) 21 = .ok (.iastore, 1) := by decide +kernel
theorem d191_22 : decode (xB 191) 22 = .ok (.aload_n 1, 1) := by decide +kernel
theorem d191_23 : decode (xB 191) 23 = .ok (.iload_n 2, 1) := by decide +kernel
theorem d191_24 : decode (xB 191) 24 = .ok (.bipush 7, 2) := by decide +kernel
theorem d191_26 : decode (xB 191) 26 = .ok (.iload_n 3, 1) := by decide +kernel
theorem d191_27 : decode (xB 191) 27 = .ok (.imul, 1) := by decide +kernel
theorem d191_28 : decode (xB 191) 28 = .ok (.iadd, 1) := by decide +kernel
theorem d191_29 : decode (xB 191) 29 = .ok (.iconst 1, 1) := by decide +kernel
theorem d191_30 : decode (xB 191) 30 = .ok (.iadd, 1) := by decide +kernel
theorem d191_31 : decode (xB 191) 31 = .ok (.aload_n 0, 1) := by decide +kernel
theorem d191_32 : decode (xB 191) 32 = .ok (.getfield 29, 3) := by decide +kernel
theorem d191_35 : decode (xB 191) 35 = .ok (.iload_n 3, 1) := by decide +kernel
theorem d191_36 : decode (xB 191) 36 = .ok (.iaload, 1) := by decide +kernel
theorem d191_37 : decode (xB 191) 37 = .ok (.iastore, 1) := by decide +kernel
theorem d191_38 : decode (xB 191) 38 = .ok (.aload_n 1, 1) := by decide +kernel
theorem d191_39 : decode (xB 191) 39 = .ok (.iload_n 2, 1) := by decide +kernel
theorem d191_40 : decode (xB 191) 40 = .ok (.bipush 7, 2) := by decide +kernel
theorem d191_42 : decode (xB 191) 42 = .ok (.iload_n 3, 1) := by decide +kernel
theorem d191_43 : decode (xB 191) 43 = .ok (.imul, 1) := by decide +kernel
theorem d191_44 : decode (xB 191) 44 = .ok (.iadd, 1) := by decide +kernel
theorem d191_45 : decode (xB 191) 45 = .ok (.iconst 2, 1) := by decide +kernel
theorem d191_46 : decode (xB 191) 46 = .ok (.iadd, 1) := by decide +kernel
theorem d191_47 : decode (xB 191) 47 = .ok (.aload_n 0, 1) := by decide +kernel
theorem d191_48 : decode (xB 191) 48 = .ok (.getfield 32, 3) := by decide +kernel
theorem d191_51 : decode (xB 191) 51 = .ok (.iload_n 3, 1) := by decide +kernel
theorem d191_52 : decode (xB 191) 52 = .ok (.iaload, 1) := by decide +kernel
theorem d191_53 : decode (xB 191) 53 = .ok (.iastore, 1) := by decide +kernel
theorem d191_54 : decode (xB 191) 54 = .ok (.aload_n 1, 1) := by decide +kernel
theorem d191_55 : decode (xB 191) 55 = .ok (.iload_n 2, 1) := by decide +kernel
theorem d191_56 : decode (xB 191) 56 = .ok (.bipush 7, 2) := by decide +kernel
theorem d191_58 : decode (xB 191) 58 = .ok (.iload_n 3, 1) := by decide +kernel
theorem d191_59 : decode (xB 191) 59 = .ok (.imul, 1) := by decide +kernel
theorem d191_60 : decode (xB 191) 60 = .ok (.iadd, 1) := by decide +kernel
theorem d191_61 : decode (xB 191) 61 = .ok (.iconst 3, 1) := by decide +kernel
theorem d191_62 : decode (xB 191) 62 = .ok (.iadd, 1) := by decide +kernel
theorem d191_63 : decode (xB 191) 63 = .ok (.aload_n 0, 1) := by decide +kernel
theorem d191_64 : decode (xB 191) 64 = .ok (.getfield 35, 3) := by decide +kernel
theorem d191_67 : decode (xB 191) 67 = .ok (.iload_n 3, 1) := by decide +kernel
theorem d191_68 : decode (xB 191) 68 = .ok (.iaload, 1) := by decide +kernel
theorem d191_69 : decode (xB 191) 69 = .ok (.iastore, 1) := by decide +kernel
theorem d191_70 : decode (xB 191) 70 = .ok (.aload_n 1, 1) := by decide +kernel
theorem d191_71 : decode (xB 191) 71 = .ok (.iload_n 2, 1) := by decide +kernel
theorem d191_72 : decode (xB 191) 72 = .ok (.bipush 7, 2) := by decide +kernel
theorem d191_74 : decode (xB 191) 74 = .ok (.iload_n 3, 1) := by decide +kernel
theorem d191_75 : decode (xB 191) 75 = .ok (.imul, 1) := by decide +kernel
theorem d191_76 : decode (xB 191) 76 = .ok (.iadd, 1) := by decide +kernel
theorem d191_77 : decode (xB 191) 77 = .ok (.iconst 4, 1) := by decide +kernel
theorem d191_78 : decode (xB 191) 78 = .ok (.iadd, 1) := by decide +kernel
theorem d191_79 : decode (xB 191) 79 = .ok (.aload_n 0, 1) := by decide +kernel
theorem d191_80 : decode (xB 191) 80 = .ok (.getfield 38, 3) := by decide +kernel
theorem d191_83 : decode (xB 191) 83 = .ok (.iload_n 3, 1) := by decide +kernel
theorem d191_84 : decode (xB 191) 84 = .ok (.iaload, 1) := by decide +kernel
theorem d191_85 : decode (xB 191) 85 = .ok (.iastore, 1) := by decide +kernel
theorem d191_86 : decode (xB 191) 86 = .ok (.aload_n 1, 1) := by decide +kernel
theorem d191_87 : decode (xB 191) 87 = .ok (.iload_n 2, 1) := by decide +kernel
theorem d191_88 : decode (xB 191) 88 = .ok (.bipush 7, 2) := by decide +kernel
theorem d191_90 : decode (xB 191) 90 = .ok (.iload_n 3, 1) := by decide +kernel
theorem d191_91 : decode (xB 191) 91 = .ok (.imul, 1) := by decide +kernel
theorem d191_92 : decode (xB 191) 92 = .ok (.iadd, 1) := by decide +kernel
theorem d191_93 : decode (xB 191) 93 = .ok (.iconst 5, 1) := by decide +kernel
theorem d191_94 : decode (xB 191) 94 = .ok (.iadd, 1) := by decide +kernel
theorem d191_95 : decode (xB 191) 95 = .ok (.aload_n 0, 1) := by decide +kernel
theorem d191_96 : decode (xB 191) 96 = .ok (.getfield 41, 3) := by decide +kernel
theorem d191_99 : decode (xB 191) 99 = .ok (.iload_n 3, 1) := by decide +kernel
theorem d191_100 : decode (xB 191) 100 = .ok (.iaload, 1) := by decide +kernel
theorem d191_101 : decode (xB 191) 101 = .ok (.iastore, 1) := by decide +kernel
theorem d191_102 : decode (xB 191) 102 = .ok (.aload_n 1, 1) := by decide +kernel
theorem d191_103 : decode (xB 191) 103 = .ok (.iload_n 2, 1) := by decide +kernel
theorem d191_104 : decode (xB 191) 104 = .ok (.bipush 7, 2) := by decide +kernel
theorem d191_106 : decode (xB 191) 106 = .ok (.iload_n 3, 1) := by decide +kernel
theorem d191_107 : decode (xB 191) 107 = .ok (.imul, 1) := by decide +kernel
theorem d191_108 : decode (xB 191) 108 = .ok (.iadd, 1) := by decide +kernel
theorem d191_109 : decode (xB 191) 109 = .ok (.bipush 6, 2) := by decide +kernel
theorem d191_111 : decode (xB 191) 111 = .ok (.iadd, 1) := by decide +kernel
theorem d191_112 : decode (xB 191) 112 = .ok (.aload_n 0, 1) := by decide +kernel
theorem d191_113 : decode (xB 191) 113 = .ok (.getfield 44, 3) := by decide +kernel
theorem d191_116 : decode (xB 191) 116 = .ok (.iload_n 3, 1) := by decide +kernel
theorem d191_117 : decode (xB 191) 117 = .ok (.iaload, 1) := by decide +kernel
theorem d191_118 : decode (xB 191) 118 = .ok (.iastore, 1) := by decide +kernel
theorem d191_119 : decode (xB 191) 119 = .ok (.iinc 3 1, 3) := by decide +kernel
theorem d191_122 : decode (xB 191) 122 = .ok (.goto (-120), 3) := by decide +kernel
theorem d191_125 : decode (xB 191) 125 = .ok (.aload_n 1, 1) := by decide +kernel
theorem d191_126 : decode (xB 191) 126 = .ok (.iload_n 2, 1) := by decide +kernel
theorem d191_127 : decode (xB 191) 127 = .ok (.bipush 56, 2) := by decide +kernel
theorem d191_129 : decode (xB 191) 129 = .ok (.iadd, 1) := by decide +kernel
theorem d191_130 : decode (xB 191) 130 = .ok (.aload_n 0, 1) := by decide +kernel
theorem d191_131 : decode (xB 191) 131 = .ok (.getfield 225, 3) := by decide +kernel
theorem d191_134 : decode (xB 191) 134 = .ok (.iastore, 1) := by decide +kernel
theorem d191_135 : decode (xB 191) 135 = .ok (.iconst 0, 1) := by decide +kernel
theorem d191_136 : decode (xB 191) 136 = .ok (.istore_n 3, 1) := by decide +kernel
theorem d191_137 : decode (xB 191) 137 = .ok (.iload_n 3, 1) := by decide +kernel
theorem d191_138 : decode (xB 191) 138 = .ok (.bipush 64, 2) := by decide +kernel
theorem d191_140 : decode (xB 191) 140 = .ok (.if_icmp .ge 25, 3) := by decide +kernel
theorem d191_143 : decode (xB 191) 143 = .ok (.aload_n 1, 1) := by decide +kernel
theorem d191_144 : decode (xB 191) 144 = .ok (.iload_n 2, 1) := by decide +kernel
theorem d191_145 : decode (xB 191) 145 = .ok (.bipush 56, 2) := by decide +kernel
theorem d191_147 : decode (xB 191) 147 = .ok (.iadd, 1) := by decide +kernel
theorem d191_148 : decode (xB 191) 148 = .ok (.iconst 1, 1) := by decide +kernel
theorem d191_149 : decode (xB 191) 149 = .ok (.iadd, 1) := by decide +kernel
theorem d191_150 : decode (xB 191) 150 = .ok (.iload_n 3, 1) := by decide +kernel
theorem d191_151 : decode (xB 191) 151 = .ok (.iadd, 1) := by decide +kernel
theorem d191_152 : decode (xB 191) 152 = .ok (.aload_n 0, 1) := by decide +kernel
theorem d191_153 : decode (xB 191) 153 = .ok (.getfield 47, 3) := by decide +kernel
theorem d191_156 : decode (xB 191) 156 = .ok (.iload_n 3, 1) := by decide +kernel
theorem d191_157 : decode (xB 191) 157 = .ok (.iaload, 1) := by decide +kernel
theorem d191_158 : decode (xB 191) 158 = .ok (.iastore, 1) := by decide +kernel
theorem d191_159 : decode (xB 191) 159 = .ok (.iinc 3 1, 3) := by decide +kernel
theorem d191_162 : decode (xB 191) 162 = .ok (.goto (-25), 3) := by decide +kernel
theorem d191_165 : decode (xB 191) 165 = .ok (.return_, 1) := by decide +kernel
theorem b191_0 {d : Nat} {P : xPr} {Q : xQr} {r : Nat} {mem : Nat → Nat → Int32} (hP : Cl d none 191 P Q) {p0 : Nat} {np0 : Nat} {p1 : Int32} (hp0 : LAY[p0]? = some (13, np0))
    (k : P 2 [.ref 108, .ref p0, .int p1, .int (nI 0)] [] (0, 0) (LAY, RFu r, mem)) : P 0 [.ref 108, .ref p0, .int p1, .null] [] (0, 0) (LAY, RFu r, mem) := by
  refine r_iconst (v := nI 0) hP d191_0 rfl ?_
  refine r_istore_n (L' := [.ref 108, .ref p0, .int p1, .int (nI 0)]) hP d191_1 (Nat.le_of_ble_eq_true rfl) rfl ?_
  exact k
theorem b191_2 {d : Nat} {P : xPr} {Q : xQr} {r : Nat} {mem : Nat → Nat → Int32} (hP : Cl d none 191 P Q) {p0 : Nat} {np0 : Nat} {x2 : Int32} {x3 : Int32} (hp0 : LAY[p0]? = some (13, np0))
    (kt : (nI 8) ≤ x3 → P 125 [.ref 108, .ref p0, .int x2, .int x3] [] (0, 0) (LAY, RFu r, mem)) (kf : ¬ (nI 8) ≤ x3 → P 8 [.ref 108, .ref p0, .int x2, .int x3] [] (0, 0) (LAY, RFu r, mem)) : P 2 [.ref 108, .ref p0, .int x2, .int x3] [] (0, 0) (LAY, RFu r, mem) := by
  refine r_iload_n hP d191_2 rfl ?_
  refine r_bipush (v := nI 8) hP d191_3 rfl ?_
  exact r_icmp (t := 125) hP d191_5 (by decide) kt kf
theorem b191_8 {d : Nat} {P : xPr} {Q : xQr} {r : Nat} {mem : Nat → Nat → Int32} (hP : Cl d none 191 P Q) {p0 : Nat} {np0 : Nat} {x2 : Int32} {x3 : Int32} (hp0 : LAY[p0]? = some (13, np0)) (hi20 : vp_in x3 8) (hi21 : vp_in (x2 + ((nI 7) * x3)) np0) (hi36 : vp_in x3 8) (hi37 : vp_in ((x2 + ((nI 7) * x3)) + (nI 1)) np0) (hi52 : vp_in x3 8) (hi53 : vp_in ((x2 + ((nI 7) * x3)) + (nI 2)) np0) (hi68 : vp_in x3 8) (hi69 : vp_in ((x2 + ((nI 7) * x3)) + (nI 3)) np0) (hi84 : vp_in x3 8) (hi85 : vp_in ((x2 + ((nI 7) * x3)) + (nI 4)) np0) (hi100 : vp_in x3 8) (hi101 : vp_in ((x2 + ((nI 7) * x3)) + (nI 5)) np0) (hi117 : vp_in x3 8) (hi118 : vp_in ((x2 + ((nI 7) * x3)) + (nI 6)) np0)
    (k : P 2 [.ref 108, .ref p0, .int x2, .int (x3 + nI 1)] [] (0, 0) (LAY, RFu r, xu2 (xu2 (xu2 (xu2 (xu2 (xu2 (xu2 mem p0 (x2 + ((nI 7) * x3)).toNatClampNeg (mem 114 x3.toNatClampNeg)) p0 ((x2 + ((nI 7) * x3)) + (nI 1)).toNatClampNeg ((xu2 mem p0 (x2 + ((nI 7) * x3)).toNatClampNeg (mem 114 x3.toNatClampNeg)) 115 x3.toNatClampNeg)) p0 ((x2 + ((nI 7) * x3)) + (nI 2)).toNatClampNeg ((xu2 (xu2 mem p0 (x2 + ((nI 7) * x3)).toNatClampNeg (mem 114 x3.toNatClampNeg)) p0 ((x2 + ((nI 7) * x3)) + (nI 1)).toNatClampNeg ((xu2 mem p0 (x2 + ((nI 7) * x3)).toNatClampNeg (mem 114 x3.toNatClampNeg)) 115 x3.toNatClampNeg)) 116 x3.toNatClampNeg)) p0 ((x2 + ((nI 7) * x3)) + (nI 3)).toNatClampNeg ((xu2 (xu2 (xu2 mem p0 (x2 + ((nI 7) * x3)).toNatClampNeg (mem 114 x3.toNatClampNeg)) p0 ((x2 + ((nI 7) * x3)) + (nI 1)).toNatClampNeg ((xu2 mem p0 (x2 + ((nI 7) * x3)).toNatClampNeg (mem 114 x3.toNatClampNeg)) 115 x3.toNatClampNeg)) p0 ((x2 + ((nI 7) * x3)) + (nI 2)).toNatClampNeg ((xu2 (xu2 mem p0 (x2 + ((nI 7) * x3)).toNatClampNeg (mem 114 x3.toNatClampNeg)) p0 ((x2 + ((nI 7) * x3)) + (nI 1)).toNatClampNeg ((xu2 mem p0 (x2 + ((nI 7) * x3)).toNatClampNeg (mem 114 x3.toNatClampNeg)) 115 x3.toNatClampNeg)) 116 x3.toNatClampNeg)) 117 x3.toNatClampNeg)) p0 ((x2 + ((nI 7) * x3)) + (nI 4)).toNatClampNeg ((xu2 (xu2 (xu2 (xu2 mem p0 (x2 + ((nI 7) * x3)).toNatClampNeg (mem 114 x3.toNatClampNeg)) p0 ((x2 + ((nI 7) * x3)) + (nI 1)).toNatClampNeg ((xu2 mem p0 (x2 + ((nI 7) * x3)).toNatClampNeg (mem 114 x3.toNatClampNeg)) 115 x3.toNatClampNeg)) p0 ((x2 + ((nI 7) * x3)) + (nI 2)).toNatClampNeg ((xu2 (xu2 mem p0 (x2 + ((nI 7) * x3)).toNatClampNeg (mem 114 x3.toNatClampNeg)) p0 ((x2 + ((nI 7) * x3)) + (nI 1)).toNatClampNeg ((xu2 mem p0 (x2 + ((nI 7) * x3)).toNatClampNeg (mem 114 x3.toNatClampNeg)) 115 x3.toNatClampNeg)) 116 x3.toNatClampNeg)) p0 ((x2 + ((nI 7) * x3)) + (nI 3)).toNatClampNeg ((xu2 (xu2 (xu2 mem p0 (x2 + ((nI 7) * x3)).toNatClampNeg (mem 114 x3.toNatClampNeg)) p0 ((x2 + ((nI 7) * x3)) + (nI 1)).toNatClampNeg ((xu2 mem p0 (x2 + ((nI 7) * x3)).toNatClampNeg (mem 114 x3.toNatClampNeg)) 115 x3.toNatClampNeg)) p0 ((x2 + ((nI 7) * x3)) + (nI 2)).toNatClampNeg ((xu2 (xu2 mem p0 (x2 + ((nI 7) * x3)).toNatClampNeg (mem 114 x3.toNatClampNeg)) p0 ((x2 + ((nI 7) * x3)) + (nI 1)).toNatClampNeg ((xu2 mem p0 (x2 + ((nI 7) * x3)).toNatClampNeg (mem 114 x3.toNatClampNeg)) 115 x3.toNatClampNeg)) 116 x3.toNatClampNeg)) 117 x3.toNatClampNeg)) 118 x3.toNatClampNeg)) p0 ((x2 + ((nI 7) * x3)) + (nI 5)).toNatClampNeg ((xu2 (xu2 (xu2 (xu2 (xu2 mem p0 (x2 + ((nI 7) * x3)).toNatClampNeg (mem 114 x3.toNatClampNeg)) p0 ((x2 + ((nI 7) * x3)) + (nI 1)).toNatClampNeg ((xu2 mem p0 (x2 + ((nI 7) * x3)).toNatClampNeg (mem 114 x3.toNatClampNeg)) 115 x3.toNatClampNeg)) p0 ((x2 + ((nI 7) * x3)) + (nI 2)).toNatClampNeg ((xu2 (xu2 mem p0 (x2 + ((nI 7) * x3)).toNatClampNeg (mem 114 x3.toNatClampNeg)) p0 ((x2 + ((nI 7) * x3)) + (nI 1)).toNatClampNeg ((xu2 mem p0 (x2 + ((nI 7) * x3)).toNatClampNeg (mem 114 x3.toNatClampNeg)) 115 x3.toNatClampNeg)) 116 x3.toNatClampNeg)) p0 ((x2 + ((nI 7) * x3)) + (nI 3)).toNatClampNeg ((xu2 (xu2 (xu2 mem p0 (x2 + ((nI 7) * x3)).toNatClampNeg (mem 114 x3.toNatClampNeg)) p0 ((x2 + ((nI 7) * x3)) + (nI 1)).toNatClampNeg ((xu2 mem p0 (x2 + ((nI 7) * x3)).toNatClampNeg (mem 114 x3.toNatClampNeg)) 115 x3.toNatClampNeg)) p0 ((x2 + ((nI 7) * x3)) + (nI 2)).toNatClampNeg ((xu2 (xu2 mem p0 (x2 + ((nI 7) * x3)).toNatClampNeg (mem 114 x3.toNatClampNeg)) p0 ((x2 + ((nI 7) * x3)) + (nI 1)).toNatClampNeg ((xu2 mem p0 (x2 + ((nI 7) * x3)).toNatClampNeg (mem 114 x3.toNatClampNeg)) 115 x3.toNatClampNeg)) 116 x3.toNatClampNeg)) 117 x3.toNatClampNeg)) p0 ((x2 + ((nI 7) * x3)) + (nI 4)).toNatClampNeg ((xu2 (xu2 (xu2 (xu2 mem p0 (x2 + ((nI 7) * x3)).toNatClampNeg (mem 114 x3.toNatClampNeg)) p0 ((x2 + ((nI 7) * x3)) + (nI 1)).toNatClampNeg ((xu2 mem p0 (x2 + ((nI 7) * x3)).toNatClampNeg (mem 114 x3.toNatClampNeg)) 115 x3.toNatClampNeg)) p0 ((x2 + ((nI 7) * x3)) + (nI 2)).toNatClampNeg ((xu2 (xu2 mem p0 (x2 + ((nI 7) * x3)).toNatClampNeg (mem 114 x3.toNatClampNeg)) p0 ((x2 + ((nI 7) * x3)) + (nI 1)).toNatClampNeg ((xu2 mem p0 (x2 + ((nI 7) * x3)).toNatClampNeg (mem 114 x3.toNatClampNeg)) 115 x3.toNatClampNeg)) 116 x3.toNatClampNeg)) p0 ((x2 + ((nI 7) * x3)) + (nI 3)).toNatClampNeg ((xu2 (xu2 (xu2 mem p0 (x2 + ((nI 7) * x3)).toNatClampNeg (mem 114 x3.toNatClampNeg)) p0 ((x2 + ((nI 7) * x3)) + (nI 1)).toNatClampNeg ((xu2 mem p0 (x2 + ((nI 7) * x3)).toNatClampNeg (mem 114 x3.toNatClampNeg)) 115 x3.toNatClampNeg)) p0 ((x2 + ((nI 7) * x3)) + (nI 2)).toNatClampNeg ((xu2 (xu2 mem p0 (x2 + ((nI 7) * x3)).toNatClampNeg (mem 114 x3.toNatClampNeg)) p0 ((x2 + ((nI 7) * x3)) + (nI 1)).toNatClampNeg ((xu2 mem p0 (x2 + ((nI 7) * x3)).toNatClampNeg (mem 114 x3.toNatClampNeg)) 115 x3.toNatClampNeg)) 116 x3.toNatClampNeg)) 117 x3.toNatClampNeg)) 118 x3.toNatClampNeg)) 119 x3.toNatClampNeg)) p0 ((x2 + ((nI 7) * x3)) + (nI 6)).toNatClampNeg ((xu2 (xu2 (xu2 (xu2 (xu2 (xu2 mem p0 (x2 + ((nI 7) * x3)).toNatClampNeg (mem 114 x3.toNatClampNeg)) p0 ((x2 + ((nI 7) * x3)) + (nI 1)).toNatClampNeg ((xu2 mem p0 (x2 + ((nI 7) * x3)).toNatClampNeg (mem 114 x3.toNatClampNeg)) 115 x3.toNatClampNeg)) p0 ((x2 + ((nI 7) * x3)) + (nI 2)).toNatClampNeg ((xu2 (xu2 mem p0 (x2 + ((nI 7) * x3)).toNatClampNeg (mem 114 x3.toNatClampNeg)) p0 ((x2 + ((nI 7) * x3)) + (nI 1)).toNatClampNeg ((xu2 mem p0 (x2 + ((nI 7) * x3)).toNatClampNeg (mem 114 x3.toNatClampNeg)) 115 x3.toNatClampNeg)) 116 x3.toNatClampNeg)) p0 ((x2 + ((nI 7) * x3)) + (nI 3)).toNatClampNeg ((xu2 (xu2 (xu2 mem p0 (x2 + ((nI 7) * x3)).toNatClampNeg (mem 114 x3.toNatClampNeg)) p0 ((x2 + ((nI 7) * x3)) + (nI 1)).toNatClampNeg ((xu2 mem p0 (x2 + ((nI 7) * x3)).toNatClampNeg (mem 114 x3.toNatClampNeg)) 115 x3.toNatClampNeg)) p0 ((x2 + ((nI 7) * x3)) + (nI 2)).toNatClampNeg ((xu2 (xu2 mem p0 (x2 + ((nI 7) * x3)).toNatClampNeg (mem 114 x3.toNatClampNeg)) p0 ((x2 + ((nI 7) * x3)) + (nI 1)).toNatClampNeg ((xu2 mem p0 (x2 + ((nI 7) * x3)).toNatClampNeg (mem 114 x3.toNatClampNeg)) 115 x3.toNatClampNeg)) 116 x3.toNatClampNeg)) 117 x3.toNatClampNeg)) p0 ((x2 + ((nI 7) * x3)) + (nI 4)).toNatClampNeg ((xu2 (xu2 (xu2 (xu2 mem p0 (x2 + ((nI 7) * x3)).toNatClampNeg (mem 114 x3.toNatClampNeg)) p0 ((x2 + ((nI 7) * x3)) + (nI 1)).toNatClampNeg ((xu2 mem p0 (x2 + ((nI 7) * x3)).toNatClampNeg (mem 114 x3.toNatClampNeg)) 115 x3.toNatClampNeg)) p0 ((x2 + ((nI 7) * x3)) + (nI 2)).toNatClampNeg ((xu2 (xu2 mem p0 (x2 + ((nI 7) * x3)).toNatClampNeg (mem 114 x3.toNatClampNeg)) p0 ((x2 + ((nI 7) * x3)) + (nI 1)).toNatClampNeg ((xu2 mem p0 (x2 + ((nI 7) * x3)).toNatClampNeg (mem 114 x3.toNatClampNeg)) 115 x3.toNatClampNeg)) 116 x3.toNatClampNeg)) p0 ((x2 + ((nI 7) * x3)) + (nI 3)).toNatClampNeg ((xu2 (xu2 (xu2 mem p0 (x2 + ((nI 7) * x3)).toNatClampNeg (mem 114 x3.toNatClampNeg)) p0 ((x2 + ((nI 7) * x3)) + (nI 1)).toNatClampNeg ((xu2 mem p0 (x2 + ((nI 7) * x3)).toNatClampNeg (mem 114 x3.toNatClampNeg)) 115 x3.toNatClampNeg)) p0 ((x2 + ((nI 7) * x3)) + (nI 2)).toNatClampNeg ((xu2 (xu2 mem p0 (x2 + ((nI 7) * x3)).toNatClampNeg (mem 114 x3.toNatClampNeg)) p0 ((x2 + ((nI 7) * x3)) + (nI 1)).toNatClampNeg ((xu2 mem p0 (x2 + ((nI 7) * x3)).toNatClampNeg (mem 114 x3.toNatClampNeg)) 115 x3.toNatClampNeg)) 116 x3.toNatClampNeg)) 117 x3.toNatClampNeg)) 118 x3.toNatClampNeg)) p0 ((x2 + ((nI 7) * x3)) + (nI 5)).toNatClampNeg ((xu2 (xu2 (xu2 (xu2 (xu2 mem p0 (x2 + ((nI 7) * x3)).toNatClampNeg (mem 114 x3.toNatClampNeg)) p0 ((x2 + ((nI 7) * x3)) + (nI 1)).toNatClampNeg ((xu2 mem p0 (x2 + ((nI 7) * x3)).toNatClampNeg (mem 114 x3.toNatClampNeg)) 115 x3.toNatClampNeg)) p0 ((x2 + ((nI 7) * x3)) + (nI 2)).toNatClampNeg ((xu2 (xu2 mem p0 (x2 + ((nI 7) * x3)).toNatClampNeg (mem 114 x3.toNatClampNeg)) p0 ((x2 + ((nI 7) * x3)) + (nI 1)).toNatClampNeg ((xu2 mem p0 (x2 + ((nI 7) * x3)).toNatClampNeg (mem 114 x3.toNatClampNeg)) 115 x3.toNatClampNeg)) 116 x3.toNatClampNeg)) p0 ((x2 + ((nI 7) * x3)) + (nI 3)).toNatClampNeg ((xu2 (xu2 (xu2 mem p0 (x2 + ((nI 7) * x3)).toNatClampNeg (mem 114 x3.toNatClampNeg)) p0 ((x2 + ((nI 7) * x3)) + (nI 1)).toNatClampNeg ((xu2 mem p0 (x2 + ((nI 7) * x3)).toNatClampNeg (mem 114 x3.toNatClampNeg)) 115 x3.toNatClampNeg)) p0 ((x2 + ((nI 7) * x3)) + (nI 2)).toNatClampNeg ((xu2 (xu2 mem p0 (x2 + ((nI 7) * x3)).toNatClampNeg (mem 114 x3.toNatClampNeg)) p0 ((x2 + ((nI 7) * x3)) + (nI 1)).toNatClampNeg ((xu2 mem p0 (x2 + ((nI 7) * x3)).toNatClampNeg (mem 114 x3.toNatClampNeg)) 115 x3.toNatClampNeg)) 116 x3.toNatClampNeg)) 117 x3.toNatClampNeg)) p0 ((x2 + ((nI 7) * x3)) + (nI 4)).toNatClampNeg ((xu2 (xu2 (xu2 (xu2 mem p0 (x2 + ((nI 7) * x3)).toNatClampNeg (mem 114 x3.toNatClampNeg)) p0 ((x2 + ((nI 7) * x3)) + (nI 1)).toNatClampNeg ((xu2 mem p0 (x2 + ((nI 7) * x3)).toNatClampNeg (mem 114 x3.toNatClampNeg)) 115 x3.toNatClampNeg)) p0 ((x2 + ((nI 7) * x3)) + (nI 2)).toNatClampNeg ((xu2 (xu2 mem p0 (x2 + ((nI 7) * x3)).toNatClampNeg (mem 114 x3.toNatClampNeg)) p0 ((x2 + ((nI 7) * x3)) + (nI 1)).toNatClampNeg ((xu2 mem p0 (x2 + ((nI 7) * x3)).toNatClampNeg (mem 114 x3.toNatClampNeg)) 115 x3.toNatClampNeg)) 116 x3.toNatClampNeg)) p0 ((x2 + ((nI 7) * x3)) + (nI 3)).toNatClampNeg ((xu2 (xu2 (xu2 mem p0 (x2 + ((nI 7) * x3)).toNatClampNeg (mem 114 x3.toNatClampNeg)) p0 ((x2 + ((nI 7) * x3)) + (nI 1)).toNatClampNeg ((xu2 mem p0 (x2 + ((nI 7) * x3)).toNatClampNeg (mem 114 x3.toNatClampNeg)) 115 x3.toNatClampNeg)) p0 ((x2 + ((nI 7) * x3)) + (nI 2)).toNatClampNeg ((xu2 (xu2 mem p0 (x2 + ((nI 7) * x3)).toNatClampNeg (mem 114 x3.toNatClampNeg)) p0 ((x2 + ((nI 7) * x3)) + (nI 1)).toNatClampNeg ((xu2 mem p0 (x2 + ((nI 7) * x3)).toNatClampNeg (mem 114 x3.toNatClampNeg)) 115 x3.toNatClampNeg)) 116 x3.toNatClampNeg)) 117 x3.toNatClampNeg)) 118 x3.toNatClampNeg)) 119 x3.toNatClampNeg)) 120 x3.toNatClampNeg))) : P 8 [.ref 108, .ref p0, .int x2, .int x3] [] (0, 0) (LAY, RFu r, mem) := by
  refine r_aload_n hP d191_8 rfl ?_
  refine r_iload_n hP d191_9 rfl ?_
  refine r_bipush (v := nI 7) hP d191_10 rfl ?_
  refine r_iload_n hP d191_12 rfl ?_
  refine r_imul hP d191_13 ?_
  refine r_iadd hP d191_14 ?_
  refine r_aload_n hP d191_15 rfl ?_
  refine r_getr (a := 114) hP d191_16 fr_12_26 rfl ly_108 rg_108_7 ?_
  refine r_iload_n hP d191_19 rfl ?_
  refine r_iaload hP d191_20 ly_114 hi20 ?_
  refine r_iastore hP d191_21 hp0 hi21 ?_
  refine r_aload_n hP d191_22 rfl ?_
  refine r_iload_n hP d191_23 rfl ?_
  refine r_bipush (v := nI 7) hP d191_24 rfl ?_
  refine r_iload_n hP d191_26 rfl ?_
  refine r_imul hP d191_27 ?_
  refine r_iadd hP d191_28 ?_
  refine r_iconst (v := nI 1) hP d191_29 rfl ?_
  refine r_iadd hP d191_30 ?_
  refine r_aload_n hP d191_31 rfl ?_
  refine r_getr (a := 115) hP d191_32 fr_12_29 rfl ly_108 rg_108_8 ?_
  refine r_iload_n hP d191_35 rfl ?_
  refine r_iaload hP d191_36 ly_115 hi36 ?_
  refine r_iastore hP d191_37 hp0 hi37 ?_
  refine r_aload_n hP d191_38 rfl ?_
  refine r_iload_n hP d191_39 rfl ?_
  refine r_bipush (v := nI 7) hP d191_40 rfl ?_
  refine r_iload_n hP d191_42 rfl ?_
  refine r_imul hP d191_43 ?_
  refine r_iadd hP d191_44 ?_
  refine r_iconst (v := nI 2) hP d191_45 rfl ?_
  refine r_iadd hP d191_46 ?_
  refine r_aload_n hP d191_47 rfl ?_
  refine r_getr (a := 116) hP d191_48 fr_12_32 rfl ly_108 rg_108_9 ?_
  refine r_iload_n hP d191_51 rfl ?_
  refine r_iaload hP d191_52 ly_116 hi52 ?_
  refine r_iastore hP d191_53 hp0 hi53 ?_
  refine r_aload_n hP d191_54 rfl ?_
  refine r_iload_n hP d191_55 rfl ?_
  refine r_bipush (v := nI 7) hP d191_56 rfl ?_
  refine r_iload_n hP d191_58 rfl ?_
  refine r_imul hP d191_59 ?_
  refine r_iadd hP d191_60 ?_
  refine r_iconst (v := nI 3) hP d191_61 rfl ?_
  refine r_iadd hP d191_62 ?_
  refine r_aload_n hP d191_63 rfl ?_
  refine r_getr (a := 117) hP d191_64 fr_12_35 rfl ly_108 rg_108_10 ?_
  refine r_iload_n hP d191_67 rfl ?_
  refine r_iaload hP d191_68 ly_117 hi68 ?_
  refine r_iastore hP d191_69 hp0 hi69 ?_
  refine r_aload_n hP d191_70 rfl ?_
  refine r_iload_n hP d191_71 rfl ?_
  refine r_bipush (v := nI 7) hP d191_72 rfl ?_
  refine r_iload_n hP d191_74 rfl ?_
  refine r_imul hP d191_75 ?_
  refine r_iadd hP d191_76 ?_
  refine r_iconst (v := nI 4) hP d191_77 rfl ?_
  refine r_iadd hP d191_78 ?_
  refine r_aload_n hP d191_79 rfl ?_
  refine r_getr (a := 118) hP d191_80 fr_12_38 rfl ly_108 rg_108_11 ?_
  refine r_iload_n hP d191_83 rfl ?_
  refine r_iaload hP d191_84 ly_118 hi84 ?_
  refine r_iastore hP d191_85 hp0 hi85 ?_
  refine r_aload_n hP d191_86 rfl ?_
  refine r_iload_n hP d191_87 rfl ?_
  refine r_bipush (v := nI 7) hP d191_88 rfl ?_
  refine r_iload_n hP d191_90 rfl ?_
  refine r_imul hP d191_91 ?_
  refine r_iadd hP d191_92 ?_
  refine r_iconst (v := nI 5) hP d191_93 rfl ?_
  refine r_iadd hP d191_94 ?_
  refine r_aload_n hP d191_95 rfl ?_
  refine r_getr (a := 119) hP d191_96 fr_12_41 rfl ly_108 rg_108_12 ?_
  refine r_iload_n hP d191_99 rfl ?_
  refine r_iaload hP d191_100 ly_119 hi100 ?_
  refine r_iastore hP d191_101 hp0 hi101 ?_
  refine r_aload_n hP d191_102 rfl ?_
  refine r_iload_n hP d191_103 rfl ?_
  refine r_bipush (v := nI 7) hP d191_104 rfl ?_
  refine r_iload_n hP d191_106 rfl ?_
  refine r_imul hP d191_107 ?_
  refine r_iadd hP d191_108 ?_
  refine r_bipush (v := nI 6) hP d191_109 rfl ?_
  refine r_iadd hP d191_111 ?_
  refine r_aload_n hP d191_112 rfl ?_
  refine r_getr (a := 120) hP d191_113 fr_12_44 rfl ly_108 rg_108_13 ?_
  refine r_iload_n hP d191_116 rfl ?_
  refine r_iaload hP d191_117 ly_120 hi117 ?_
  refine r_iastore hP d191_118 hp0 hi118 ?_
  refine r_iinc (v := nI 1) (L' := [.ref 108, .ref p0, .int x2, .int (x3 + nI 1)]) hP d191_119 rfl rfl rfl ?_
  refine r_goto (t := 2) hP d191_122 (by decide) ?_
  exact k
theorem b191_125 {d : Nat} {P : xPr} {Q : xQr} {r : Nat} {mem : Nat → Nat → Int32} (hP : Cl d none 191 P Q) {p0 : Nat} {np0 : Nat} {x2 : Int32} {v3 : Value} (hp0 : LAY[p0]? = some (13, np0)) (hi134 : vp_in (x2 + (nI 56)) np0)
    (k : P 137 [.ref 108, .ref p0, .int x2, .int (nI 0)] [] (0, 0) (LAY, RFu r, xu2 mem p0 (x2 + (nI 56)).toNatClampNeg (mem 108 15))) : P 125 [.ref 108, .ref p0, .int x2, v3] [] (0, 0) (LAY, RFu r, mem) := by
  refine r_aload_n hP d191_125 rfl ?_
  refine r_iload_n hP d191_126 rfl ?_
  refine r_bipush (v := nI 56) hP d191_127 rfl ?_
  refine r_iadd hP d191_129 ?_
  refine r_aload_n hP d191_130 rfl ?_
  refine r_geti hP d191_131 fr_12_225 rfl ly_108 ?_
  refine r_iastore hP d191_134 hp0 hi134 ?_
  refine r_iconst (v := nI 0) hP d191_135 rfl ?_
  refine r_istore_n (L' := [.ref 108, .ref p0, .int x2, .int (nI 0)]) hP d191_136 (Nat.le_of_ble_eq_true rfl) rfl ?_
  exact k
theorem b191_137 {d : Nat} {P : xPr} {Q : xQr} {r : Nat} {mem : Nat → Nat → Int32} (hP : Cl d none 191 P Q) {p0 : Nat} {np0 : Nat} {x2 : Int32} {x3 : Int32} (hp0 : LAY[p0]? = some (13, np0))
    (kt : (nI 64) ≤ x3 → P 165 [.ref 108, .ref p0, .int x2, .int x3] [] (0, 0) (LAY, RFu r, mem)) (kf : ¬ (nI 64) ≤ x3 → P 143 [.ref 108, .ref p0, .int x2, .int x3] [] (0, 0) (LAY, RFu r, mem)) : P 137 [.ref 108, .ref p0, .int x2, .int x3] [] (0, 0) (LAY, RFu r, mem) := by
  refine r_iload_n hP d191_137 rfl ?_
  refine r_bipush (v := nI 64) hP d191_138 rfl ?_
  exact r_icmp (t := 165) hP d191_140 (by decide) kt kf
theorem b191_143 {d : Nat} {P : xPr} {Q : xQr} {r : Nat} {mem : Nat → Nat → Int32} (hP : Cl d none 191 P Q) {p0 : Nat} {np0 : Nat} {x2 : Int32} {x3 : Int32} (hp0 : LAY[p0]? = some (13, np0)) (hi157 : vp_in x3 64) (hi158 : vp_in (((x2 + (nI 56)) + (nI 1)) + x3) np0)
    (k : P 137 [.ref 108, .ref p0, .int x2, .int (x3 + nI 1)] [] (0, 0) (LAY, RFu r, xu2 mem p0 (((x2 + (nI 56)) + (nI 1)) + x3).toNatClampNeg (mem 121 x3.toNatClampNeg))) : P 143 [.ref 108, .ref p0, .int x2, .int x3] [] (0, 0) (LAY, RFu r, mem) := by
  refine r_aload_n hP d191_143 rfl ?_
  refine r_iload_n hP d191_144 rfl ?_
  refine r_bipush (v := nI 56) hP d191_145 rfl ?_
  refine r_iadd hP d191_147 ?_
  refine r_iconst (v := nI 1) hP d191_148 rfl ?_
  refine r_iadd hP d191_149 ?_
  refine r_iload_n hP d191_150 rfl ?_
  refine r_iadd hP d191_151 ?_
  refine r_aload_n hP d191_152 rfl ?_
  refine r_getr (a := 121) hP d191_153 fr_12_47 rfl ly_108 rg_108_14 ?_
  refine r_iload_n hP d191_156 rfl ?_
  refine r_iaload hP d191_157 ly_121 hi157 ?_
  refine r_iastore hP d191_158 hp0 hi158 ?_
  refine r_iinc (v := nI 1) (L' := [.ref 108, .ref p0, .int x2, .int (x3 + nI 1)]) hP d191_159 rfl rfl rfl ?_
  refine r_goto (t := 137) hP d191_162 (by decide) ?_
  exact k
theorem b191_165 {d : Nat} {P : xPr} {Q : xQr} {r : Nat} {mem : Nat → Nat → Int32} (hP : Cl d none 191 P Q) {p0 : Nat} {np0 : Nat} {v0 : Value} {v1 : Value} {v2 : Value} {v3 : Value} (hp0 : LAY[p0]? = some (13, np0))
    (k : Q none (LAY, RFu r, mem)) : P 165 [v0, v1, v2, v3] [] (0, 0) (LAY, RFu r, mem) := by
  exact r_vret hP d191_165 rfl k
theorem d192_0 : decode (xB 192) 0 = .ok (.iconst 0, 1) := by decide +kernel
theorem d192_1 : decode (xB 192) 1 = .ok (.istore_n 3, 1) := by decide +kernel
theorem d192_2 : decode (xB 192) 2 = .ok (.iload_n 3, 1) := by decide +kernel
theorem d192_3 : decode (xB 192) 3 = .ok (.aload_n 0, 1) := by decide +kernel
theorem d192_4 : decode (xB 192) 4 = .ok (.getfield 127, 3) := by decide +kernel
theorem d192_7 : decode (xB 192) 7 = .ok (.if_icmp .ge 120, 3) := by decide +kernel
theorem d192_10 : decode (xB 192) 10 = .ok (.aload_n 0, 1) := by decide +kernel
theorem d192_11 : decode (xB 192) 11 = .ok (.getfield 26, 3) := by decide +kernel
theorem d192_14 : decode (xB 192) 14 = .ok (.iload_n 3, 1) := by decide +kernel
theorem d192_15 : decode (xB 192) 15 = .ok (.aload_n 1, 1) := by decide +kernel
theorem d192_16 : decode (xB 192) 16 = .ok (.iload_n 2, 1) := by decide +kernel
theorem d192_17 : decode (xB 192) 17 = .ok (.bipush 7, 2) := by decide +kernel
theorem d192_19 : decode (xB 192) 19 = .ok (.iload_n 3, 1) := by decide +kernel
theorem d192_20 : decode (xB 192) 20 = .ok (.imul, 1) := by decide +kernel
theorem d192_21 : decode (xB 192) 21 = .ok (.iadd, 1) := by decide +kernel
theorem d192_22 : decode (xB 192) 22 = .ok (.iaload, 1) := by decide +kernel
theorem d192_23 : decode (xB 192) 23 = .ok (.iastore, 1) := by decide +kernel
theorem d192_24 : decode (xB 192) 24 = .ok (.aload_n 0, 1) := by decide +kernel
theorem d192_25 : decode (xB 192) 25 = .ok (.getfield 29, 3) := by decide +kernel
theorem d192_28 : decode (xB 192) 28 = .ok (.iload_n 3, 1) := by decide +kernel
theorem d192_29 : decode (xB 192) 29 = .ok (.aload_n 1, 1) := by decide +kernel
theorem d192_30 : decode (xB 192) 30 = .ok (.iload_n 2, 1) := by decide +kernel
theorem d192_31 : decode (xB 192) 31 = .ok (.bipush 7, 2) := by decide +kernel
theorem d192_33 : decode (xB 192) 33 = .ok (.iload_n 3, 1) := by decide +kernel
theorem d192_34 : decode (xB 192) 34 = .ok (.imul, 1) := by decide +kernel
theorem d192_35 : decode (xB 192) 35 = .ok (.iadd, 1) := by decide +kernel
theorem d192_36 : decode (xB 192) 36 = .ok (.iconst 1, 1) := by decide +kernel
theorem d192_37 : decode (xB 192) 37 = .ok (.iadd, 1) := by decide +kernel
theorem d192_38 : decode (xB 192) 38 = .ok (.iaload, 1) := by decide +kernel
theorem d192_39 : decode (xB 192) 39 = .ok (.iastore, 1) := by decide +kernel
theorem d192_40 : decode (xB 192) 40 = .ok (.aload_n 0, 1) := by decide +kernel
theorem d192_41 : decode (xB 192) 41 = .ok (.getfield 32, 3) := by decide +kernel
theorem d192_44 : decode (xB 192) 44 = .ok (.iload_n 3, 1) := by decide +kernel
theorem d192_45 : decode (xB 192) 45 = .ok (.aload_n 1, 1) := by decide +kernel
theorem d192_46 : decode (xB 192) 46 = .ok (.iload_n 2, 1) := by decide +kernel
theorem d192_47 : decode (xB 192) 47 = .ok (.bipush 7, 2) := by decide +kernel
theorem d192_49 : decode (xB 192) 49 = .ok (.iload_n 3, 1) := by decide +kernel
theorem d192_50 : decode (xB 192) 50 = .ok (.imul, 1) := by decide +kernel
theorem d192_51 : decode (xB 192) 51 = .ok (.iadd, 1) := by decide +kernel
theorem d192_52 : decode (xB 192) 52 = .ok (.iconst 2, 1) := by decide +kernel
theorem d192_53 : decode (xB 192) 53 = .ok (.iadd, 1) := by decide +kernel
theorem d192_54 : decode (xB 192) 54 = .ok (.iaload, 1) := by decide +kernel
theorem d192_55 : decode (xB 192) 55 = .ok (.iastore, 1) := by decide +kernel
theorem d192_56 : decode (xB 192) 56 = .ok (.aload_n 0, 1) := by decide +kernel
theorem d192_57 : decode (xB 192) 57 = .ok (.getfield 35, 3) := by decide +kernel
theorem d192_60 : decode (xB 192) 60 = .ok (.iload_n 3, 1) := by decide +kernel
theorem d192_61 : decode (xB 192) 61 = .ok (.aload_n 1, 1) := by decide +kernel
theorem d192_62 : decode (xB 192) 62 = .ok (.iload_n 2, 1) := by decide +kernel
theorem d192_63 : decode (xB 192) 63 = .ok (.bipush 7, 2) := by decide +kernel
theorem d192_65 : decode (xB 192) 65 = .ok (.iload_n 3, 1) := by decide +kernel
theorem d192_66 : decode (xB 192) 66 = .ok (.imul, 1) := by decide +kernel
theorem d192_67 : decode (xB 192) 67 = .ok (.iadd, 1) := by decide +kernel
theorem d192_68 : decode (xB 192) 68 = .ok (.iconst 3, 1) := by decide +kernel
theorem d192_69 : decode (xB 192) 69 = .ok (.iadd, 1) := by decide +kernel
theorem d192_70 : decode (xB 192) 70 = .ok (.iaload, 1) := by decide +kernel
theorem d192_71 : decode (xB 192) 71 = .ok (.iastore, 1) := by decide +kernel
theorem d192_72 : decode (xB 192) 72 = .ok (.aload_n 0, 1) := by decide +kernel
theorem d192_73 : decode (xB 192) 73 = .ok (.getfield 38, 3) := by decide +kernel
theorem d192_76 : decode (xB 192) 76 = .ok (.iload_n 3, 1) := by decide +kernel
theorem d192_77 : decode (xB 192) 77 = .ok (.aload_n 1, 1) := by decide +kernel
theorem d192_78 : decode (xB 192) 78 = .ok (.iload_n 2, 1) := by decide +kernel
theorem d192_79 : decode (xB 192) 79 = .ok (.bipush 7, 2) := by decide +kernel
theorem d192_81 : decode (xB 192) 81 = .ok (.iload_n 3, 1) := by decide +kernel
theorem d192_82 : decode (xB 192) 82 = .ok (.imul, 1) := by decide +kernel
theorem d192_83 : decode (xB 192) 83 = .ok (.iadd, 1) := by decide +kernel
theorem d192_84 : decode (xB 192) 84 = .ok (.iconst 4, 1) := by decide +kernel
theorem d192_85 : decode (xB 192) 85 = .ok (.iadd, 1) := by decide +kernel
theorem d192_86 : decode (xB 192) 86 = .ok (.iaload, 1) := by decide +kernel
theorem d192_87 : decode (xB 192) 87 = .ok (.iastore, 1) := by decide +kernel
theorem d192_88 : decode (xB 192) 88 = .ok (.aload_n 0, 1) := by decide +kernel
theorem d192_89 : decode (xB 192) 89 = .ok (.getfield 41, 3) := by decide +kernel
theorem d192_92 : decode (xB 192) 92 = .ok (.iload_n 3, 1) := by decide +kernel
theorem d192_93 : decode (xB 192) 93 = .ok (.aload_n 1, 1) := by decide +kernel
theorem d192_94 : decode (xB 192) 94 = .ok (.iload_n 2, 1) := by decide +kernel
theorem d192_95 : decode (xB 192) 95 = .ok (.bipush 7, 2) := by decide +kernel
theorem d192_97 : decode (xB 192) 97 = .ok (.iload_n 3, 1) := by decide +kernel
theorem d192_98 : decode (xB 192) 98 = .ok (.imul, 1) := by decide +kernel
theorem d192_99 : decode (xB 192) 99 = .ok (.iadd, 1) := by decide +kernel
theorem d192_100 : decode (xB 192) 100 = .ok (.iconst 5, 1) := by decide +kernel
theorem d192_101 : decode (xB 192) 101 = .ok (.iadd, 1) := by decide +kernel
theorem d192_102 : decode (xB 192) 102 = .ok (.iaload, 1) := by decide +kernel
theorem d192_103 : decode (xB 192) 103 = .ok (.iastore, 1) := by decide +kernel
theorem d192_104 : decode (xB 192) 104 = .ok (.aload_n 0, 1) := by decide +kernel
theorem d192_105 : decode (xB 192) 105 = .ok (.getfield 44, 3) := by decide +kernel
theorem d192_108 : decode (xB 192) 108 = .ok (.iload_n 3, 1) := by decide +kernel
theorem d192_109 : decode (xB 192) 109 = .ok (.aload_n 1, 1) := by decide +kernel
theorem d192_110 : decode (xB 192) 110 = .ok (.iload_n 2, 1) := by decide +kernel
theorem d192_111 : decode (xB 192) 111 = .ok (.bipush 7, 2) := by decide +kernel
theorem d192_113 : decode (xB 192) 113 = .ok (.iload_n 3, 1) := by decide +kernel
theorem d192_114 : decode (xB 192) 114 = .ok (.imul, 1) := by decide +kernel
theorem d192_115 : decode (xB 192) 115 = .ok (.iadd, 1) := by decide +kernel
theorem d192_116 : decode (xB 192) 116 = .ok (.bipush 6, 2) := by decide +kernel
theorem d192_118 : decode (xB 192) 118 = .ok (.iadd, 1) := by decide +kernel
theorem d192_119 : decode (xB 192) 119 = .ok (.iaload, 1) := by decide +kernel
theorem d192_120 : decode (xB 192) 120 = .ok (.iastore, 1) := by decide +kernel
theorem d192_121 : decode (xB 192) 121 = .ok (.iinc 3 1, 3) := by decide +kernel
theorem d192_124 : decode (xB 192) 124 = .ok (.goto (-122), 3) := by decide +kernel
theorem d192_127 : decode (xB 192) 127 = .ok (.aload_n 0, 1) := by decide +kernel
theorem d192_128 : decode (xB 192) 128 = .ok (.aload_n 1, 1) := by decide +kernel
theorem d192_129 : decode (xB 192) 129 = .ok (.iload_n 2, 1) := by decide +kernel
theorem d192_130 : decode (xB 192) 130 = .ok (.bipush 56, 2) := by decide +kernel
theorem d192_132 : decode (xB 192) 132 = .ok (.iadd, 1) := by decide +kernel
theorem d192_133 : decode (xB 192) 133 = .ok (.iaload, 1) := by decide +kernel
theorem d192_134 : decode (xB 192) 134 = .ok (.putfield 225, 3) := by decide +kernel
theorem d192_137 : decode (xB 192) 137 = .ok (.iconst 0, 1) := by decide +kernel
theorem d192_138 : decode (xB 192) 138 = .ok (.istore_n 3, 1) := by decide +kernel
theorem d192_139 : decode (xB 192) 139 = .ok (.iload_n 3, 1) := by decide +kernel
theorem d192_140 : decode (xB 192) 140 = .ok (.bipush 64, 2) := by decide +kernel
theorem d192_142 : decode (xB 192) 142 = .ok (.if_icmp .ge 25, 3) := by decide +kernel
theorem d192_145 : decode (xB 192) 145 = .ok (.aload_n 0, 1) := by decide +kernel
theorem d192_146 : decode (xB 192) 146 = .ok (.getfield 47, 3) := by decide +kernel
theorem d192_149 : decode (xB 192) 149 = .ok (.iload_n 3, 1) := by decide +kernel
theorem d192_150 : decode (xB 192) 150 = .ok (.aload_n 1, 1) := by decide +kernel
theorem d192_151 : decode (xB 192) 151 = .ok (.iload_n 2, 1) := by decide +kernel
theorem d192_152 : decode (xB 192) 152 = .ok (.bipush 56, 2) := by decide +kernel
theorem d192_154 : decode (xB 192) 154 = .ok (.iadd, 1) := by decide +kernel
theorem d192_155 : decode (xB 192) 155 = .ok (.iconst 1, 1) := by decide +kernel
theorem d192_156 : decode (xB 192) 156 = .ok (.iadd, 1) := by decide +kernel
theorem d192_157 : decode (xB 192) 157 = .ok (.iload_n 3, 1) := by decide +kernel
theorem d192_158 : decode (xB 192) 158 = .ok (.iadd, 1) := by decide +kernel
theorem d192_159 : decode (xB 192) 159 = .ok (.iaload, 1) := by decide +kernel
theorem d192_160 : decode (xB 192) 160 = .ok (.iastore, 1) := by decide +kernel
theorem d192_161 : decode (xB 192) 161 = .ok (.iinc 3 1, 3) := by decide +kernel
theorem d192_164 : decode (xB 192) 164 = .ok (.goto (-25), 3) := by decide +kernel
theorem d192_167 : decode (xB 192) 167 = .ok (.return_, 1) := by decide +kernel
theorem b192_0 {d : Nat} {P : xPr} {Q : xQr} {r : Nat} {mem : Nat → Nat → Int32} (hP : Cl d none 192 P Q) {p0 : Nat} {np0 : Nat} {p1 : Int32} (hp0 : LAY[p0]? = some (13, np0))
    (k : P 2 [.ref 108, .ref p0, .int p1, .int (nI 0)] [] (0, 0) (LAY, RFu r, mem)) : P 0 [.ref 108, .ref p0, .int p1, .null] [] (0, 0) (LAY, RFu r, mem) := by
  refine r_iconst (v := nI 0) hP d192_0 rfl ?_
  refine r_istore_n (L' := [.ref 108, .ref p0, .int p1, .int (nI 0)]) hP d192_1 (Nat.le_of_ble_eq_true rfl) rfl ?_
  exact k
theorem b192_2 {d : Nat} {P : xPr} {Q : xQr} {r : Nat} {mem : Nat → Nat → Int32} (hP : Cl d none 192 P Q) {p0 : Nat} {np0 : Nat} {x2 : Int32} {x3 : Int32} (hp0 : LAY[p0]? = some (13, np0))
    (kt : (mem 108 2) ≤ x3 → P 127 [.ref 108, .ref p0, .int x2, .int x3] [] (0, 0) (LAY, RFu r, mem)) (kf : ¬ (mem 108 2) ≤ x3 → P 10 [.ref 108, .ref p0, .int x2, .int x3] [] (0, 0) (LAY, RFu r, mem)) : P 2 [.ref 108, .ref p0, .int x2, .int x3] [] (0, 0) (LAY, RFu r, mem) := by
  refine r_iload_n hP d192_2 rfl ?_
  refine r_aload_n hP d192_3 rfl ?_
  refine r_geti hP d192_4 fr_12_127 rfl ly_108 ?_
  exact r_icmp (t := 127) hP d192_7 (by decide) kt kf
theorem b192_10 {d : Nat} {P : xPr} {Q : xQr} {r : Nat} {mem : Nat → Nat → Int32} (hP : Cl d none 192 P Q) {p0 : Nat} {np0 : Nat} {x2 : Int32} {x3 : Int32} (hp0 : LAY[p0]? = some (13, np0)) (hi22 : vp_in (x2 + ((nI 7) * x3)) np0) (hi23 : vp_in x3 8) (hi38 : vp_in ((x2 + ((nI 7) * x3)) + (nI 1)) np0) (hi39 : vp_in x3 8) (hi54 : vp_in ((x2 + ((nI 7) * x3)) + (nI 2)) np0) (hi55 : vp_in x3 8) (hi70 : vp_in ((x2 + ((nI 7) * x3)) + (nI 3)) np0) (hi71 : vp_in x3 8) (hi86 : vp_in ((x2 + ((nI 7) * x3)) + (nI 4)) np0) (hi87 : vp_in x3 8) (hi102 : vp_in ((x2 + ((nI 7) * x3)) + (nI 5)) np0) (hi103 : vp_in x3 8) (hi119 : vp_in ((x2 + ((nI 7) * x3)) + (nI 6)) np0) (hi120 : vp_in x3 8)
    (k : P 2 [.ref 108, .ref p0, .int x2, .int (x3 + nI 1)] [] (0, 0) (LAY, RFu r, xu2 (xu2 (xu2 (xu2 (xu2 (xu2 (xu2 mem 114 x3.toNatClampNeg (mem p0 (x2 + ((nI 7) * x3)).toNatClampNeg)) 115 x3.toNatClampNeg ((xu2 mem 114 x3.toNatClampNeg (mem p0 (x2 + ((nI 7) * x3)).toNatClampNeg)) p0 ((x2 + ((nI 7) * x3)) + (nI 1)).toNatClampNeg)) 116 x3.toNatClampNeg ((xu2 (xu2 mem 114 x3.toNatClampNeg (mem p0 (x2 + ((nI 7) * x3)).toNatClampNeg)) 115 x3.toNatClampNeg ((xu2 mem 114 x3.toNatClampNeg (mem p0 (x2 + ((nI 7) * x3)).toNatClampNeg)) p0 ((x2 + ((nI 7) * x3)) + (nI 1)).toNatClampNeg)) p0 ((x2 + ((nI 7) * x3)) + (nI 2)).toNatClampNeg)) 117 x3.toNatClampNeg ((xu2 (xu2 (xu2 mem 114 x3.toNatClampNeg (mem p0 (x2 + ((nI 7) * x3)).toNatClampNeg)) 115 x3.toNatClampNeg ((xu2 mem 114 x3.toNatClampNeg (mem p0 (x2 + ((nI 7) * x3)).toNatClampNeg)) p0 ((x2 + ((nI 7) * x3)) + (nI 1)).toNatClampNeg)) 116 x3.toNatClampNeg ((xu2 (xu2 mem 114 x3.toNatClampNeg (mem p0 (x2 + ((nI 7) * x3)).toNatClampNeg)) 115 x3.toNatClampNeg ((xu2 mem 114 x3.toNatClampNeg (mem p0 (x2 + ((nI 7) * x3)).toNatClampNeg)) p0 ((x2 + ((nI 7) * x3)) + (nI 1)).toNatClampNeg)) p0 ((x2 + ((nI 7) * x3)) + (nI 2)).toNatClampNeg)) p0 ((x2 + ((nI 7) * x3)) + (nI 3)).toNatClampNeg)) 118 x3.toNatClampNeg ((xu2 (xu2 (xu2 (xu2 mem 114 x3.toNatClampNeg (mem p0 (x2 + ((nI 7) * x3)).toNatClampNeg)) 115 x3.toNatClampNeg ((xu2 mem 114 x3.toNatClampNeg (mem p0 (x2 + ((nI 7) * x3)).toNatClampNeg)) p0 ((x2 + ((nI 7) * x3)) + (nI 1)).toNatClampNeg)) 116 x3.toNatClampNeg ((xu2 (xu2 mem 114 x3.toNatClampNeg (mem p0 (x2 + ((nI 7) * x3)).toNatClampNeg)) 115 x3.toNatClampNeg ((xu2 mem 114 x3.toNatClampNeg (mem p0 (x2 + ((nI 7) * x3)).toNatClampNeg)) p0 ((x2 + ((nI 7) * x3)) + (nI 1)).toNatClampNeg)) p0 ((x2 + ((nI 7) * x3)) + (nI 2)).toNatClampNeg)) 117 x3.toNatClampNeg ((xu2 (xu2 (xu2 mem 114 x3.toNatClampNeg (mem p0 (x2 + ((nI 7) * x3)).toNatClampNeg)) 115 x3.toNatClampNeg ((xu2 mem 114 x3.toNatClampNeg (mem p0 (x2 + ((nI 7) * x3)).toNatClampNeg)) p0 ((x2 + ((nI 7) * x3)) + (nI 1)).toNatClampNeg)) 116 x3.toNatClampNeg ((xu2 (xu2 mem 114 x3.toNatClampNeg (mem p0 (x2 + ((nI 7) * x3)).toNatClampNeg)) 115 x3.toNatClampNeg ((xu2 mem 114 x3.toNatClampNeg (mem p0 (x2 + ((nI 7) * x3)).toNatClampNeg)) p0 ((x2 + ((nI 7) * x3)) + (nI 1)).toNatClampNeg)) p0 ((x2 + ((nI 7) * x3)) + (nI 2)).toNatClampNeg)) p0 ((x2 + ((nI 7) * x3)) + (nI 3)).toNatClampNeg)) p0 ((x2 + ((nI 7) * x3)) + (nI 4)).toNatClampNeg)) 119 x3.toNatClampNeg ((xu2 (xu2 (xu2 (xu2 (xu2 mem 114 x3.toNatClampNeg (mem p0 (x2 + ((nI 7) * x3)).toNatClampNeg)) 115 x3.toNatClampNeg ((xu2 mem 114 x3.toNatClampNeg (mem p0 (x2 + ((nI 7) * x3)).toNatClampNeg)) p0 ((x2 + ((nI 7) * x3)) + (nI 1)).toNatClampNeg)) 116 x3.toNatClampNeg ((xu2 (xu2 mem 114 x3.toNatClampNeg (mem p0 (x2 + ((nI 7) * x3)).toNatClampNeg)) 115 x3.toNatClampNeg ((xu2 mem 114 x3.toNatClampNeg (mem p0 (x2 + ((nI 7) * x3)).toNatClampNeg)) p0 ((x2 + ((nI 7) * x3)) + (nI 1)).toNatClampNeg)) p0 ((x2 + ((nI 7) * x3)) + (nI 2)).toNatClampNeg)) 117 x3.toNatClampNeg ((xu2 (xu2 (xu2 mem 114 x3.toNatClampNeg (mem p0 (x2 + ((nI 7) * x3)).toNatClampNeg)) 115 x3.toNatClampNeg ((xu2 mem 114 x3.toNatClampNeg (mem p0 (x2 + ((nI 7) * x3)).toNatClampNeg)) p0 ((x2 + ((nI 7) * x3)) + (nI 1)).toNatClampNeg)) 116 x3.toNatClampNeg ((xu2 (xu2 mem 114 x3.toNatClampNeg (mem p0 (x2 + ((nI 7) * x3)).toNatClampNeg)) 115 x3.toNatClampNeg ((xu2 mem 114 x3.toNatClampNeg (mem p0 (x2 + ((nI 7) * x3)).toNatClampNeg)) p0 ((x2 + ((nI 7) * x3)) + (nI 1)).toNatClampNeg)) p0 ((x2 + ((nI 7) * x3)) + (nI 2)).toNatClampNeg)) p0 ((x2 + ((nI 7) * x3)) + (nI 3)).toNatClampNeg)) 118 x3.toNatClampNeg ((xu2 (xu2 (xu2 (xu2 mem 114 x3.toNatClampNeg (mem p0 (x2 + ((nI 7) * x3)).toNatClampNeg)) 115 x3.toNatClampNeg ((xu2 mem 114 x3.toNatClampNeg (mem p0 (x2 + ((nI 7) * x3)).toNatClampNeg)) p0 ((x2 + ((nI 7) * x3)) + (nI 1)).toNatClampNeg)) 116 x3.toNatClampNeg ((xu2 (xu2 mem 114 x3.toNatClampNeg (mem p0 (x2 + ((nI 7) * x3)).toNatClampNeg)) 115 x3.toNatClampNeg ((xu2 mem 114 x3.toNatClampNeg (mem p0 (x2 + ((nI 7) * x3)).toNatClampNeg)) p0 ((x2 + ((nI 7) * x3)) + (nI 1)).toNatClampNeg)) p0 ((x2 + ((nI 7) * x3)) + (nI 2)).toNatClampNeg)) 117 x3.toNatClampNeg ((xu2 (xu2 (xu2 mem 114 x3.toNatClampNeg (mem p0 (x2 + ((nI 7) * x3)).toNatClampNeg)) 115 x3.toNatClampNeg ((xu2 mem 114 x3.toNatClampNeg (mem p0 (x2 + ((nI 7) * x3)).toNatClampNeg)) p0 ((x2 + ((nI 7) * x3)) + (nI 1)).toNatClampNeg)) 116 x3.toNatClampNeg ((xu2 (xu2 mem 114 x3.toNatClampNeg (mem p0 (x2 + ((nI 7) * x3)).toNatClampNeg)) 115 x3.toNatClampNeg ((xu2 mem 114 x3.toNatClampNeg (mem p0 (x2 + ((nI 7) * x3)).toNatClampNeg)) p0 ((x2 + ((nI 7) * x3)) + (nI 1)).toNatClampNeg)) p0 ((x2 + ((nI 7) * x3)) + (nI 2)).toNatClampNeg)) p0 ((x2 + ((nI 7) * x3)) + (nI 3)).toNatClampNeg)) p0 ((x2 + ((nI 7) * x3)) + (nI 4)).toNatClampNeg)) p0 ((x2 + ((nI 7) * x3)) + (nI 5)).toNatClampNeg)) 120 x3.toNatClampNeg ((xu2 (xu2 (xu2 (xu2 (xu2 (xu2 mem 114 x3.toNatClampNeg (mem p0 (x2 + ((nI 7) * x3)).toNatClampNeg)) 115 x3.toNatClampNeg ((xu2 mem 114 x3.toNatClampNeg (mem p0 (x2 + ((nI 7) * x3)).toNatClampNeg)) p0 ((x2 + ((nI 7) * x3)) + (nI 1)).toNatClampNeg)) 116 x3.toNatClampNeg ((xu2 (xu2 mem 114 x3.toNatClampNeg (mem p0 (x2 + ((nI 7) * x3)).toNatClampNeg)) 115 x3.toNatClampNeg ((xu2 mem 114 x3.toNatClampNeg (mem p0 (x2 + ((nI 7) * x3)).toNatClampNeg)) p0 ((x2 + ((nI 7) * x3)) + (nI 1)).toNatClampNeg)) p0 ((x2 + ((nI 7) * x3)) + (nI 2)).toNatClampNeg)) 117 x3.toNatClampNeg ((xu2 (xu2 (xu2 mem 114 x3.toNatClampNeg (mem p0 (x2 + ((nI 7) * x3)).toNatClampNeg)) 115 x3.toNatClampNeg ((xu2 mem 114 x3.toNatClampNeg (mem p0 (x2 + ((nI 7) * x3)).toNatClampNeg)) p0 ((x2 + ((nI 7) * x3)) + (nI 1)).toNatClampNeg)) 116 x3.toNatClampNeg ((xu2 (xu2 mem 114 x3.toNatClampNeg (mem p0 (x2 + ((nI 7) * x3)).toNatClampNeg)) 115 x3.toNatClampNeg ((xu2 mem 114 x3.toNatClampNeg (mem p0 (x2 + ((nI 7) * x3)).toNatClampNeg)) p0 ((x2 + ((nI 7) * x3)) + (nI 1)).toNatClampNeg)) p0 ((x2 + ((nI 7) * x3)) + (nI 2)).toNatClampNeg)) p0 ((x2 + ((nI 7) * x3)) + (nI 3)).toNatClampNeg)) 118 x3.toNatClampNeg ((xu2 (xu2 (xu2 (xu2 mem 114 x3.toNatClampNeg (mem p0 (x2 + ((nI 7) * x3)).toNatClampNeg)) 115 x3.toNatClampNeg ((xu2 mem 114 x3.toNatClampNeg (mem p0 (x2 + ((nI 7) * x3)).toNatClampNeg)) p0 ((x2 + ((nI 7) * x3)) + (nI 1)).toNatClampNeg)) 116 x3.toNatClampNeg ((xu2 (xu2 mem 114 x3.toNatClampNeg (mem p0 (x2 + ((nI 7) * x3)).toNatClampNeg)) 115 x3.toNatClampNeg ((xu2 mem 114 x3.toNatClampNeg (mem p0 (x2 + ((nI 7) * x3)).toNatClampNeg)) p0 ((x2 + ((nI 7) * x3)) + (nI 1)).toNatClampNeg)) p0 ((x2 + ((nI 7) * x3)) + (nI 2)).toNatClampNeg)) 117 x3.toNatClampNeg ((xu2 (xu2 (xu2 mem 114 x3.toNatClampNeg (mem p0 (x2 + ((nI 7) * x3)).toNatClampNeg)) 115 x3.toNatClampNeg ((xu2 mem 114 x3.toNatClampNeg (mem p0 (x2 + ((nI 7) * x3)).toNatClampNeg)) p0 ((x2 + ((nI 7) * x3)) + (nI 1)).toNatClampNeg)) 116 x3.toNatClampNeg ((xu2 (xu2 mem 114 x3.toNatClampNeg (mem p0 (x2 + ((nI 7) * x3)).toNatClampNeg)) 115 x3.toNatClampNeg ((xu2 mem 114 x3.toNatClampNeg (mem p0 (x2 + ((nI 7) * x3)).toNatClampNeg)) p0 ((x2 + ((nI 7) * x3)) + (nI 1)).toNatClampNeg)) p0 ((x2 + ((nI 7) * x3)) + (nI 2)).toNatClampNeg)) p0 ((x2 + ((nI 7) * x3)) + (nI 3)).toNatClampNeg)) p0 ((x2 + ((nI 7) * x3)) + (nI 4)).toNatClampNeg)) 119 x3.toNatClampNeg ((xu2 (xu2 (xu2 (xu2 (xu2 mem 114 x3.toNatClampNeg (mem p0 (x2 + ((nI 7) * x3)).toNatClampNeg)) 115 x3.toNatClampNeg ((xu2 mem 114 x3.toNatClampNeg (mem p0 (x2 + ((nI 7) * x3)).toNatClampNeg)) p0 ((x2 + ((nI 7) * x3)) + (nI 1)).toNatClampNeg)) 116 x3.toNatClampNeg ((xu2 (xu2 mem 114 x3.toNatClampNeg (mem p0 (x2 + ((nI 7) * x3)).toNatClampNeg)) 115 x3.toNatClampNeg ((xu2 mem 114 x3.toNatClampNeg (mem p0 (x2 + ((nI 7) * x3)).toNatClampNeg)) p0 ((x2 + ((nI 7) * x3)) + (nI 1)).toNatClampNeg)) p0 ((x2 + ((nI 7) * x3)) + (nI 2)).toNatClampNeg)) 117 x3.toNatClampNeg ((xu2 (xu2 (xu2 mem 114 x3.toNatClampNeg (mem p0 (x2 + ((nI 7) * x3)).toNatClampNeg)) 115 x3.toNatClampNeg ((xu2 mem 114 x3.toNatClampNeg (mem p0 (x2 + ((nI 7) * x3)).toNatClampNeg)) p0 ((x2 + ((nI 7) * x3)) + (nI 1)).toNatClampNeg)) 116 x3.toNatClampNeg ((xu2 (xu2 mem 114 x3.toNatClampNeg (mem p0 (x2 + ((nI 7) * x3)).toNatClampNeg)) 115 x3.toNatClampNeg ((xu2 mem 114 x3.toNatClampNeg (mem p0 (x2 + ((nI 7) * x3)).toNatClampNeg)) p0 ((x2 + ((nI 7) * x3)) + (nI 1)).toNatClampNeg)) p0 ((x2 + ((nI 7) * x3)) + (nI 2)).toNatClampNeg)) p0 ((x2 + ((nI 7) * x3)) + (nI 3)).toNatClampNeg)) 118 x3.toNatClampNeg ((xu2 (xu2 (xu2 (xu2 mem 114 x3.toNatClampNeg (mem p0 (x2 + ((nI 7) * x3)).toNatClampNeg)) 115 x3.toNatClampNeg ((xu2 mem 114 x3.toNatClampNeg (mem p0 (x2 + ((nI 7) * x3)).toNatClampNeg)) p0 ((x2 + ((nI 7) * x3)) + (nI 1)).toNatClampNeg)) 116 x3.toNatClampNeg ((xu2 (xu2 mem 114 x3.toNatClampNeg (mem p0 (x2 + ((nI 7) * x3)).toNatClampNeg)) 115 x3.toNatClampNeg ((xu2 mem 114 x3.toNatClampNeg (mem p0 (x2 + ((nI 7) * x3)).toNatClampNeg)) p0 ((x2 + ((nI 7) * x3)) + (nI 1)).toNatClampNeg)) p0 ((x2 + ((nI 7) * x3)) + (nI 2)).toNatClampNeg)) 117 x3.toNatClampNeg ((xu2 (xu2 (xu2 mem 114 x3.toNatClampNeg (mem p0 (x2 + ((nI 7) * x3)).toNatClampNeg)) 115 x3.toNatClampNeg ((xu2 mem 114 x3.toNatClampNeg (mem p0 (x2 + ((nI 7) * x3)).toNatClampNeg)) p0 ((x2 + ((nI 7) * x3)) + (nI 1)).toNatClampNeg)) 116 x3.toNatClampNeg ((xu2 (xu2 mem 114 x3.toNatClampNeg (mem p0 (x2 + ((nI 7) * x3)).toNatClampNeg)) 115 x3.toNatClampNeg ((xu2 mem 114 x3.toNatClampNeg (mem p0 (x2 + ((nI 7) * x3)).toNatClampNeg)) p0 ((x2 + ((nI 7) * x3)) + (nI 1)).toNatClampNeg)) p0 ((x2 + ((nI 7) * x3)) + (nI 2)).toNatClampNeg)) p0 ((x2 + ((nI 7) * x3)) + (nI 3)).toNatClampNeg)) p0 ((x2 + ((nI 7) * x3)) + (nI 4)).toNatClampNeg)) p0 ((x2 + ((nI 7) * x3)) + (nI 5)).toNatClampNeg)) p0 ((x2 + ((nI 7) * x3)) + (nI 6)).toNatClampNeg))) : P 10 [.ref 108, .ref p0, .int x2, .int x3] [] (0, 0) (LAY, RFu r, mem) := by
  refine r_aload_n hP d192_10 rfl ?_
  refine r_getr (a := 114) hP d192_11 fr_12_26 rfl ly_108 rg_108_7 ?_
  refine r_iload_n hP d192_14 rfl ?_
  refine r_aload_n hP d192_15 rfl ?_
  refine r_iload_n hP d192_16 rfl ?_
  refine r_bipush (v := nI 7) hP d192_17 rfl ?_
  refine r_iload_n hP d192_19 rfl ?_
  refine r_imul hP d192_20 ?_
  refine r_iadd hP d192_21 ?_
  refine r_iaload hP d192_22 hp0 hi22 ?_
  refine r_iastore hP d192_23 ly_114 hi23 ?_
  refine r_aload_n hP d192_24 rfl ?_
  refine r_getr (a := 115) hP d192_25 fr_12_29 rfl ly_108 rg_108_8 ?_
  refine r_iload_n hP d192_28 rfl ?_
  refine r_aload_n hP d192_29 rfl ?_
  refine r_iload_n hP d192_30 rfl ?_
  refine r_bipush (v := nI 7) hP d192_31 rfl ?_
  refine r_iload_n hP d192_33 rfl ?_
  refine r_imul hP d192_34 ?_
  refine r_iadd hP d192_35 ?_
  refine r_iconst (v := nI 1) hP d192_36 rfl ?_
  refine r_iadd hP d192_37 ?_
  refine r_iaload hP d192_38 hp0 hi38 ?_
  refine r_iastore hP d192_39 ly_115 hi39 ?_
  refine r_aload_n hP d192_40 rfl ?_
  refine r_getr (a := 116) hP d192_41 fr_12_32 rfl ly_108 rg_108_9 ?_
  refine r_iload_n hP d192_44 rfl ?_
  refine r_aload_n hP d192_45 rfl ?_
  refine r_iload_n hP d192_46 rfl ?_
  refine r_bipush (v := nI 7) hP d192_47 rfl ?_
  refine r_iload_n hP d192_49 rfl ?_
  refine r_imul hP d192_50 ?_
  refine r_iadd hP d192_51 ?_
  refine r_iconst (v := nI 2) hP d192_52 rfl ?_
  refine r_iadd hP d192_53 ?_
  refine r_iaload hP d192_54 hp0 hi54 ?_
  refine r_iastore hP d192_55 ly_116 hi55 ?_
  refine r_aload_n hP d192_56 rfl ?_
  refine r_getr (a := 117) hP d192_57 fr_12_35 rfl ly_108 rg_108_10 ?_
  refine r_iload_n hP d192_60 rfl ?_
  refine r_aload_n hP d192_61 rfl ?_
  refine r_iload_n hP d192_62 rfl ?_
  refine r_bipush (v := nI 7) hP d192_63 rfl ?_
  refine r_iload_n hP d192_65 rfl ?_
  refine r_imul hP d192_66 ?_
  refine r_iadd hP d192_67 ?_
  refine r_iconst (v := nI 3) hP d192_68 rfl ?_
  refine r_iadd hP d192_69 ?_
  refine r_iaload hP d192_70 hp0 hi70 ?_
  refine r_iastore hP d192_71 ly_117 hi71 ?_
  refine r_aload_n hP d192_72 rfl ?_
  refine r_getr (a := 118) hP d192_73 fr_12_38 rfl ly_108 rg_108_11 ?_
  refine r_iload_n hP d192_76 rfl ?_
  refine r_aload_n hP d192_77 rfl ?_
  refine r_iload_n hP d192_78 rfl ?_
  refine r_bipush (v := nI 7) hP d192_79 rfl ?_
  refine r_iload_n hP d192_81 rfl ?_
  refine r_imul hP d192_82 ?_
  refine r_iadd hP d192_83 ?_
  refine r_iconst (v := nI 4) hP d192_84 rfl ?_
  refine r_iadd hP d192_85 ?_
  refine r_iaload hP d192_86 hp0 hi86 ?_
  refine r_iastore hP d192_87 ly_118 hi87 ?_
  refine r_aload_n hP d192_88 rfl ?_
  refine r_getr (a := 119) hP d192_89 fr_12_41 rfl ly_108 rg_108_12 ?_
  refine r_iload_n hP d192_92 rfl ?_
  refine r_aload_n hP d192_93 rfl ?_
  refine r_iload_n hP d192_94 rfl ?_
  refine r_bipush (v := nI 7) hP d192_95 rfl ?_
  refine r_iload_n hP d192_97 rfl ?_
  refine r_imul hP d192_98 ?_
  refine r_iadd hP d192_99 ?_
  refine r_iconst (v := nI 5) hP d192_100 rfl ?_
  refine r_iadd hP d192_101 ?_
  refine r_iaload hP d192_102 hp0 hi102 ?_
  refine r_iastore hP d192_103 ly_119 hi103 ?_
  refine r_aload_n hP d192_104 rfl ?_
  refine r_getr (a := 120) hP d192_105 fr_12_44 rfl ly_108 rg_108_13 ?_
  refine r_iload_n hP d192_108 rfl ?_
  refine r_aload_n hP d192_109 rfl ?_
  refine r_iload_n hP d192_110 rfl ?_
  refine r_bipush (v := nI 7) hP d192_111 rfl ?_
  refine r_iload_n hP d192_113 rfl ?_
  refine r_imul hP d192_114 ?_
  refine r_iadd hP d192_115 ?_
  refine r_bipush (v := nI 6) hP d192_116 rfl ?_
  refine r_iadd hP d192_118 ?_
  refine r_iaload hP d192_119 hp0 hi119 ?_
  refine r_iastore hP d192_120 ly_120 hi120 ?_
  refine r_iinc (v := nI 1) (L' := [.ref 108, .ref p0, .int x2, .int (x3 + nI 1)]) hP d192_121 rfl rfl rfl ?_
  refine r_goto (t := 2) hP d192_124 (by decide) ?_
  exact k
theorem b192_127 {d : Nat} {P : xPr} {Q : xQr} {r : Nat} {mem : Nat → Nat → Int32} (hP : Cl d none 192 P Q) {p0 : Nat} {np0 : Nat} {x2 : Int32} {v3 : Value} (hp0 : LAY[p0]? = some (13, np0)) (hi133 : vp_in (x2 + (nI 56)) np0)
    (k : P 139 [.ref 108, .ref p0, .int x2, .int (nI 0)] [] (0, 0) (LAY, RFu r, xu2 mem 108 15 (mem p0 (x2 + (nI 56)).toNatClampNeg))) : P 127 [.ref 108, .ref p0, .int x2, v3] [] (0, 0) (LAY, RFu r, mem) := by
  refine r_aload_n hP d192_127 rfl ?_
  refine r_aload_n hP d192_128 rfl ?_
  refine r_iload_n hP d192_129 rfl ?_
  refine r_bipush (v := nI 56) hP d192_130 rfl ?_
  refine r_iadd hP d192_132 ?_
  refine r_iaload hP d192_133 hp0 hi133 ?_
  refine r_puti hP d192_134 fr_12_225 rfl (fun q => by cases q) ly_108 ?_
  refine r_iconst (v := nI 0) hP d192_137 rfl ?_
  refine r_istore_n (L' := [.ref 108, .ref p0, .int x2, .int (nI 0)]) hP d192_138 (Nat.le_of_ble_eq_true rfl) rfl ?_
  exact k
theorem b192_139 {d : Nat} {P : xPr} {Q : xQr} {r : Nat} {mem : Nat → Nat → Int32} (hP : Cl d none 192 P Q) {p0 : Nat} {np0 : Nat} {x2 : Int32} {x3 : Int32} (hp0 : LAY[p0]? = some (13, np0))
    (kt : (nI 64) ≤ x3 → P 167 [.ref 108, .ref p0, .int x2, .int x3] [] (0, 0) (LAY, RFu r, mem)) (kf : ¬ (nI 64) ≤ x3 → P 145 [.ref 108, .ref p0, .int x2, .int x3] [] (0, 0) (LAY, RFu r, mem)) : P 139 [.ref 108, .ref p0, .int x2, .int x3] [] (0, 0) (LAY, RFu r, mem) := by
  refine r_iload_n hP d192_139 rfl ?_
  refine r_bipush (v := nI 64) hP d192_140 rfl ?_
  exact r_icmp (t := 167) hP d192_142 (by decide) kt kf
theorem b192_145 {d : Nat} {P : xPr} {Q : xQr} {r : Nat} {mem : Nat → Nat → Int32} (hP : Cl d none 192 P Q) {p0 : Nat} {np0 : Nat} {x2 : Int32} {x3 : Int32} (hp0 : LAY[p0]? = some (13, np0)) (hi159 : vp_in (((x2 + (nI 56)) + (nI 1)) + x3) np0) (hi160 : vp_in x3 64)
    (k : P 139 [.ref 108, .ref p0, .int x2, .int (x3 + nI 1)] [] (0, 0) (LAY, RFu r, xu2 mem 121 x3.toNatClampNeg (mem p0 (((x2 + (nI 56)) + (nI 1)) + x3).toNatClampNeg))) : P 145 [.ref 108, .ref p0, .int x2, .int x3] [] (0, 0) (LAY, RFu r, mem) := by
  refine r_aload_n hP d192_145 rfl ?_
  refine r_getr (a := 121) hP d192_146 fr_12_47 rfl ly_108 rg_108_14 ?_
  refine r_iload_n hP d192_149 rfl ?_
  refine r_aload_n hP d192_150 rfl ?_
  refine r_iload_n hP d192_151 rfl ?_
  refine r_bipush (v := nI 56) hP d192_152 rfl ?_
  refine r_iadd hP d192_154 ?_
  refine r_iconst (v := nI 1) hP d192_155 rfl ?_
  refine r_iadd hP d192_156 ?_
  refine r_iload_n hP d192_157 rfl ?_
  refine r_iadd hP d192_158 ?_
  refine r_iaload hP d192_159 hp0 hi159 ?_
  refine r_iastore hP d192_160 ly_121 hi160 ?_
  refine r_iinc (v := nI 1) (L' := [.ref 108, .ref p0, .int x2, .int (x3 + nI 1)]) hP d192_161 rfl rfl rfl ?_
  refine r_goto (t := 139) hP d192_164 (by decide) ?_
  exact k
theorem b192_167 {d : Nat} {P : xPr} {Q : xQr} {r : Nat} {mem : Nat → Nat → Int32} (hP : Cl d none 192 P Q) {p0 : Nat} {np0 : Nat} {v0 : Value} {v1 : Value} {v2 : Value} {v3 : Value} (hp0 : LAY[p0]? = some (13, np0))
    (k : Q none (LAY, RFu r, mem)) : P 167 [v0, v1, v2, v3] [] (0, 0) (LAY, RFu r, mem) := by
  exact r_vret hP d192_167 rfl k
theorem d193_0 : decode (xB 193) 0 = .ok (.aload_n 0, 1) := by decide +kernel
theorem d193_1 : decode (xB 193) 1 = .ok (.getfield 26, 3) := by decide +kernel
theorem d193_4 : decode (xB 193) 4 = .ok (.iload_n 1, 1) := by decide +kernel
theorem d193_5 : decode (xB 193) 5 = .ok (.iaload, 1) := by decide +kernel
theorem d193_6 : decode (xB 193) 6 = .ok (.iconst (-1), 1) := by decide +kernel
theorem d193_7 : decode (xB 193) 7 = .ok (.if_icmp .eq 16, 3) := by decide +kernel
theorem d193_10 : decode (xB 193) 10 = .ok (.aload_n 0, 1) := by decide +kernel
theorem d193_11 : decode (xB 193) 11 = .ok (.getfield 29, 3) := by decide +kernel
theorem d193_14 : decode (xB 193) 14 = .ok (.iload_n 1, 1) := by decide +kernel
theorem d193_15 : decode (xB 193) 15 = .ok (.iaload, 1) := by decide +kernel
theorem d193_16 : decode (xB 193) 16 = .ok (.ifCond .ne 7, 3) := by decide +kernel
theorem d193_19 : decode (xB 193) 19 = .ok (.iconst 1, 1) := by decide +kernel
theorem d193_20 : decode (xB 193) 20 = .ok (.goto 4, 3) := by decide +kernel
theorem d193_23 : decode (xB 193) 23 = .ok (.iconst 0, 1) := by decide +kernel
theorem d193_24 : decode (xB 193) 24 = .ok (.ireturn, 1) := by decide +kernel
theorem b193_0 {d : Nat} {P : xPr} {Q : xQr} {r : Nat} {mem : Nat → Nat → Int32} (hP : Cl d none 193 P Q) {p0 : Int32} (hi5 : vp_in p0 8)
    (kt : (mem 114 p0.toNatClampNeg) = (-1) → P 23 [.ref 108, .int p0] [] (0, 0) (LAY, RFu r, mem)) (kf : ¬ (mem 114 p0.toNatClampNeg) = (-1) → P 10 [.ref 108, .int p0] [] (0, 0) (LAY, RFu r, mem)) : P 0 [.ref 108, .int p0] [] (0, 0) (LAY, RFu r, mem) := by
  refine r_aload_n hP d193_0 rfl ?_
  refine r_getr (a := 114) hP d193_1 fr_12_26 rfl ly_108 rg_108_7 ?_
  refine r_iload_n hP d193_4 rfl ?_
  refine r_iaload hP d193_5 ly_114 hi5 ?_
  refine r_iconst (v := (-1)) hP d193_6 rfl ?_
  exact r_icmp (t := 23) hP d193_7 (by decide) kt kf
theorem b193_10 {d : Nat} {P : xPr} {Q : xQr} {r : Nat} {mem : Nat → Nat → Int32} (hP : Cl d none 193 P Q) {x1 : Int32} (hi15 : vp_in x1 8)
    (kt : ¬ (mem 115 x1.toNatClampNeg) = 0 → P 23 [.ref 108, .int x1] [] (0, 0) (LAY, RFu r, mem)) (kf : (mem 115 x1.toNatClampNeg) = 0 → P 19 [.ref 108, .int x1] [] (0, 0) (LAY, RFu r, mem)) : P 10 [.ref 108, .int x1] [] (0, 0) (LAY, RFu r, mem) := by
  refine r_aload_n hP d193_10 rfl ?_
  refine r_getr (a := 115) hP d193_11 fr_12_29 rfl ly_108 rg_108_8 ?_
  refine r_iload_n hP d193_14 rfl ?_
  refine r_iaload hP d193_15 ly_115 hi15 ?_
  exact r_if (t := 23) hP d193_16 (by decide) kt (fun q => kf (Decidable.of_not_not q))
theorem b193_19 {d : Nat} {P : xPr} {Q : xQr} {r : Nat} {mem : Nat → Nat → Int32} (hP : Cl d none 193 P Q) {v0 : Value} {v1 : Value}
    (k : P 24 [v0, v1] [.int (nI 1)] (0, 0) (LAY, RFu r, mem)) : P 19 [v0, v1] [] (0, 0) (LAY, RFu r, mem) := by
  refine r_iconst (v := nI 1) hP d193_19 rfl ?_
  refine r_goto (t := 24) hP d193_20 (by decide) ?_
  exact k
theorem b193_23 {d : Nat} {P : xPr} {Q : xQr} {r : Nat} {mem : Nat → Nat → Int32} (hP : Cl d none 193 P Q) {v0 : Value} {v1 : Value}
    (k : P 24 [v0, v1] [.int (nI 0)] (0, 0) (LAY, RFu r, mem)) : P 23 [v0, v1] [] (0, 0) (LAY, RFu r, mem) := by
  refine r_iconst (v := nI 0) hP d193_23 rfl ?_
  exact k
theorem b193_24 {d : Nat} {P : xPr} {Q : xQr} {r : Nat} {mem : Nat → Nat → Int32} (hP : Cl d none 193 P Q) {v0 : Value} {v1 : Value} {y0 : Int32} (hzr : y0 = 0 ∨ y0 = 1)
    (k : Q (some (.int y0)) (LAY, RFu r, mem)) : P 24 [v0, v1] [.int y0] (0, 0) (LAY, RFu r, mem) := by
  exact r_zret hP d193_24 rfl hzr k
theorem d194_0 : decode (xB 194) 0 = .ok (.iconst 0, 1) := by decide +kernel
theorem d194_1 : decode (xB 194) 1 = .ok (.istore_n 1, 1) := by decide +kernel
theorem d194_2 : decode (xB 194) 2 = .ok (.iconst 0, 1) := by decide +kernel
theorem d194_3 : decode (xB 194) 3 = .ok (.istore_n 2, 1) := by decide +kernel
theorem d194_4 : decode (xB 194) 4 = .ok (.iload_n 2, 1) := by decide +kernel
theorem d194_5 : decode (xB 194) 5 = .ok (.aload_n 0, 1) := by decide +kernel
theorem d194_6 : decode (xB 194) 6 = .ok (.getfield 127, 3) := by decide +kernel
theorem d194_9 : decode (xB 194) 9 = .ok (.if_icmp .ge 18, 3) := by decide +kernel
theorem d194_12 : decode (xB 194) 12 = .ok (.iload_n 1, 1) := by decide +kernel
theorem d194_13 : decode (xB 194) 13 = .ok (.aload_n 0, 1) := by decide +kernel
theorem d194_14 : decode (xB 194) 14 = .ok (.getfield 41, 3) := by decide +kernel
theorem d194_17 : decode (xB 194) 17 = .ok (.iload_n 2, 1) := by decide +kernel
theorem d194_18 : decode (xB 194) 18 = .ok (.iaload, 1) := by decide +kernel
theorem d194_19 : decode (xB 194) 19 = .ok (.iadd, 1) := by decide +kernel
theorem d194_20 : decode (xB 194) 20 = .ok (.istore_n 1, 1) := by decide +kernel
theorem d194_21 : decode (xB 194) 21 = .ok (.iinc 2 1, 3) := by decide +kernel
theorem d194_24 : decode (xB 194) 24 = .ok (.goto (-20), 3) := by decide +kernel
theorem d194_27 : decode (xB 194) 27 = .ok (.iload_n 1, 1) := by decide +kernel
theorem d194_28 : decode (xB 194) 28 = .ok (.ireturn, 1) := by decide +kernel
theorem b194_0 {d : Nat} {P : xPr} {Q : xQr} {r : Nat} {mem : Nat → Nat → Int32} (hP : Cl d none 194 P Q)
    (k : P 4 [.ref 108, .int (nI 0), .int (nI 0)] [] (0, 0) (LAY, RFu r, mem)) : P 0 [.ref 108, .null, .null] [] (0, 0) (LAY, RFu r, mem) := by
  refine r_iconst (v := nI 0) hP d194_0 rfl ?_
  refine r_istore_n (L' := [.ref 108, .int (nI 0), .null]) hP d194_1 (Nat.le_of_ble_eq_true rfl) rfl ?_
  refine r_iconst (v := nI 0) hP d194_2 rfl ?_
  refine r_istore_n (L' := [.ref 108, .int (nI 0), .int (nI 0)]) hP d194_3 (Nat.le_of_ble_eq_true rfl) rfl ?_
  exact k
theorem b194_4 {d : Nat} {P : xPr} {Q : xQr} {r : Nat} {mem : Nat → Nat → Int32} (hP : Cl d none 194 P Q) {x1 : Int32} {x2 : Int32}
    (kt : (mem 108 2) ≤ x2 → P 27 [.ref 108, .int x1, .int x2] [] (0, 0) (LAY, RFu r, mem)) (kf : ¬ (mem 108 2) ≤ x2 → P 12 [.ref 108, .int x1, .int x2] [] (0, 0) (LAY, RFu r, mem)) : P 4 [.ref 108, .int x1, .int x2] [] (0, 0) (LAY, RFu r, mem) := by
  refine r_iload_n hP d194_4 rfl ?_
  refine r_aload_n hP d194_5 rfl ?_
  refine r_geti hP d194_6 fr_12_127 rfl ly_108 ?_
  exact r_icmp (t := 27) hP d194_9 (by decide) kt kf
theorem b194_12 {d : Nat} {P : xPr} {Q : xQr} {r : Nat} {mem : Nat → Nat → Int32} (hP : Cl d none 194 P Q) {x1 : Int32} {x2 : Int32} (hi18 : vp_in x2 8)
    (k : P 4 [.ref 108, .int (x1 + (mem 119 x2.toNatClampNeg)), .int (x2 + nI 1)] [] (0, 0) (LAY, RFu r, mem)) : P 12 [.ref 108, .int x1, .int x2] [] (0, 0) (LAY, RFu r, mem) := by
  refine r_iload_n hP d194_12 rfl ?_
  refine r_aload_n hP d194_13 rfl ?_
  refine r_getr (a := 119) hP d194_14 fr_12_41 rfl ly_108 rg_108_12 ?_
  refine r_iload_n hP d194_17 rfl ?_
  refine r_iaload hP d194_18 ly_119 hi18 ?_
  refine r_iadd hP d194_19 ?_
  refine r_istore_n (L' := [.ref 108, .int (x1 + (mem 119 x2.toNatClampNeg)), .int x2]) hP d194_20 (Nat.le_of_ble_eq_true rfl) rfl ?_
  refine r_iinc (v := nI 1) (L' := [.ref 108, .int (x1 + (mem 119 x2.toNatClampNeg)), .int (x2 + nI 1)]) hP d194_21 rfl rfl rfl ?_
  refine r_goto (t := 4) hP d194_24 (by decide) ?_
  exact k
theorem b194_27 {d : Nat} {P : xPr} {Q : xQr} {r : Nat} {mem : Nat → Nat → Int32} (hP : Cl d none 194 P Q) {v0 : Value} {x1 : Int32} {v2 : Value}
    (k : Q (some (.int x1)) (LAY, RFu r, mem)) : P 27 [v0, .int x1, v2] [] (0, 0) (LAY, RFu r, mem) := by
  refine r_iload_n hP d194_27 rfl ?_
  exact r_iret hP d194_28 rfl k
