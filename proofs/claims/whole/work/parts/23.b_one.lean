/-! blocks: X11_sign, X11_end, X11_town, X11_plan, X11_rule, X11_readRule, X11_of, X11_chairs, X11_sick, X11_sheet, X11_ageTold, X11_quarters, X11_passQuarters, X11_undo, X11_in, X11_asks, X11_queue, X11_lineUp, X11_day, X11_act, X11_will, X11_longest, X11_gave, X11_pair, X11_lend, X11_fewest, X11_settle, X11_least, X11_together, X11_both, X11_often, X11_swap, X11_exchange, X11_delay, X11_crowd, X11_calm, X11_more, X11_mostFreed, X11_feast, X11_told, X11_forget, X11_stolen, X11_fitsWhatWasTold, X11_even, X11_askBy, X11_spares, X11_round, X11_remember, X11_wereAlike, X11_keep, X11_again, X11_count, X11_row, X11_isWithin, X11_areTwo, X11_tryOut, X11_stoodBy, X11_stoodByAll -/
theorem d98_0 : decode (xB 98) 0 = .ok (.aload_n 0, 1) := by decide +kernel
theorem d98_1 : decode (xB 98) 1 = .ok (.getfield 10, 3) := by decide +kernel
theorem d98_4 : decode (xB 98) 4 = .ok (.iload_n 1, 1) := by decide +kernel
theorem d98_5 : decode (xB 98) 5 = .ok (.invokevirtual 102, 3) := by decide +kernel
theorem d98_8 : decode (xB 98) 8 = .ok (.ifCond .eq 13, 3) := by decide +kernel
theorem d98_11 : decode (xB 98) 11 = .ok (.aload_n 0, 1) := by decide +kernel
theorem d98_12 : decode (xB 98) 12 = .ok (.getfield 10, 3) := by decide +kernel
theorem d98_15 : decode (xB 98) 15 = .ok (.getfield 106, 3) := by decide +kernel
theorem d98_18 : decode (xB 98) 18 = .ok (.goto 4, 3) := by decide +kernel
theorem d98_21 : decode (xB 98) 21 = .ok (.iconst (-1), 1) := by decide +kernel
theorem d98_22 : decode (xB 98) 22 = .ok (.ireturn, 1) := by decide +kernel
theorem b98_0 {d : Nat} {P : xPr} {Q : xQr} {r : Nat} {mem : Nat → Nat → Int32} (hP : Cl d none 98 P Q) {p0 : Int32}
    (k : xCall d 71 [.ref 1, .int p0] (LAY, RFu r, mem) (Bk P 5 [.ref 0, .int p0] [] (0, 0))) : P 0 [.ref 0, .int p0] [] (0, 0) (LAY, RFu r, mem) := by
  refine r_aload_n hP d98_0 rfl ?_
  refine r_getr (a := 1) hP d98_1 fr_11_10 rfl ly_0 rg_0_0 ?_
  refine r_iload_n hP d98_4 rfl ?_
  exact r_callv (As := [.int p0]) (S := []) hP d98_5 cr_11_102 (by decide +kernel) rfl (by simp [Value.category]) rfl ly_1 (by simp [Value.category]) ⟨Nat.zero_le _, Nat.zero_le _⟩ k
theorem b98_8 {d : Nat} {P : xPr} {Q : xQr} {r : Nat} {mem : Nat → Nat → Int32} (hP : Cl d none 98 P Q) {v1 : Value} {y0 : Int32}
    (kt : y0 = 0 → P 21 [.ref 0, v1] [] (0, 0) (LAY, RFu r, mem)) (kf : ¬ y0 = 0 → P 11 [.ref 0, v1] [] (0, 0) (LAY, RFu r, mem)) : P 8 [.ref 0, v1] [.int y0] (0, 0) (LAY, RFu r, mem) := by
  exact r_if (t := 21) hP d98_8 (by decide) kt kf
theorem b98_11 {d : Nat} {P : xPr} {Q : xQr} {r : Nat} {mem : Nat → Nat → Int32} (hP : Cl d none 98 P Q) {v1 : Value}
    (k : P 22 [.ref 0, v1] [.int (mem 1 1)] (0, 0) (LAY, RFu r, mem)) : P 11 [.ref 0, v1] [] (0, 0) (LAY, RFu r, mem) := by
  refine r_aload_n hP d98_11 rfl ?_
  refine r_getr (a := 1) hP d98_12 fr_11_10 rfl ly_0 rg_0_0 ?_
  refine r_geti hP d98_15 fr_11_106 rfl ly_1 ?_
  refine r_goto (t := 22) hP d98_18 (by decide) ?_
  exact k
theorem b98_21 {d : Nat} {P : xPr} {Q : xQr} {r : Nat} {mem : Nat → Nat → Int32} (hP : Cl d none 98 P Q) {v0 : Value} {v1 : Value}
    (k : P 22 [v0, v1] [.int (-1)] (0, 0) (LAY, RFu r, mem)) : P 21 [v0, v1] [] (0, 0) (LAY, RFu r, mem) := by
  refine r_iconst (v := (-1)) hP d98_21 rfl ?_
  exact k
theorem b98_22 {d : Nat} {P : xPr} {Q : xQr} {r : Nat} {mem : Nat → Nat → Int32} (hP : Cl d none 98 P Q) {v0 : Value} {v1 : Value} {y0 : Int32}
    (k : Q (some (.int y0)) (LAY, RFu r, mem)) : P 22 [v0, v1] [.int y0] (0, 0) (LAY, RFu r, mem) := by
  exact r_iret hP d98_22 rfl k
theorem d99_0 : decode (xB 99) 0 = .ok (.aload_n 0, 1) := by decide +kernel
theorem d99_1 : decode (xB 99) 1 = .ok (.getfield 10, 3) := by decide +kernel
theorem d99_4 : decode (xB 99) 4 = .ok (.iload_n 1, 1) := by decide +kernel
theorem d99_5 : decode (xB 99) 5 = .ok (.invokevirtual 110, 3) := by decide +kernel
theorem d99_8 : decode (xB 99) 8 = .ok (.ireturn, 1) := by decide +kernel
theorem b99_0 {d : Nat} {P : xPr} {Q : xQr} {r : Nat} {mem : Nat → Nat → Int32} (hP : Cl d none 99 P Q) {p0 : Int32}
    (k : xCall d 72 [.ref 1, .int p0] (LAY, RFu r, mem) (Bk P 5 [.ref 0, .int p0] [] (0, 0))) : P 0 [.ref 0, .int p0] [] (0, 0) (LAY, RFu r, mem) := by
  refine r_aload_n hP d99_0 rfl ?_
  refine r_getr (a := 1) hP d99_1 fr_11_10 rfl ly_0 rg_0_0 ?_
  refine r_iload_n hP d99_4 rfl ?_
  exact r_callv (As := [.int p0]) (S := []) hP d99_5 cr_11_110 (by decide +kernel) rfl (by simp [Value.category]) rfl ly_1 (by simp [Value.category]) ⟨Nat.zero_le _, Nat.zero_le _⟩ k
theorem b99_8 {d : Nat} {P : xPr} {Q : xQr} {r : Nat} {mem : Nat → Nat → Int32} (hP : Cl d none 99 P Q) {v0 : Value} {v1 : Value} {y0 : Int32} (hzr : y0 = 0 ∨ y0 = 1)
    (k : Q (some (.int y0)) (LAY, RFu r, mem)) : P 8 [v0, v1] [.int y0] (0, 0) (LAY, RFu r, mem) := by
  exact r_zret hP d99_8 rfl hzr k
theorem d100_0 : decode (xB 100) 0 = .ok (.aload_n 0, 1) := by decide +kernel
theorem d100_1 : decode (xB 100) 1 = .ok (.getfield 26, 3) := by decide +kernel
theorem d100_4 : decode (xB 100) 4 = .ok (.aload_n 0, 1) := by decide +kernel
theorem d100_5 : decode (xB 100) 5 = .ok (.getfield 10, 3) := by decide +kernel
theorem d100_8 : decode (xB 100) 8 = .ok (.invokevirtual 113, 3) := by decide +kernel
theorem d100_11 : decode (xB 100) 11 = .ok (.istore_n 1, 1) := by decide +kernel
theorem d100_12 : decode (xB 100) 12 = .ok (.iload_n 1, 1) := by decide +kernel
theorem d100_13 : decode (xB 100) 13 = .ok (.iconst (-1), 1) := by decide +kernel
theorem d100_14 : decode (xB 100) 14 = .ok (.if_icmp .ne 14, 3) := by decide +kernel
theorem d100_17 : decode (xB 100) 17 = .ok (.aload_n 0, 1) := by decide +kernel
theorem d100_18 : decode (xB 100) 18 = .ok (.getfield 10, 3) := by decide +kernel
theorem d100_21 : decode (xB 100) 21 = .ok (.invokevirtual 117, 3) := by decide +kernel
theorem d100_24 : decode (xB 100) 24 = .ok (.istore_n 1, 1) := by decide +kernel
theorem d100_25 : decode (xB 100) 25 = .ok (.goto 14, 3) := by decide +kernel
theorem d100_28 : decode (xB 100) 28 = .ok (.iload_n 1, 1) := by decide +kernel
theorem d100_29 : decode (xB 100) 29 = .ok (.ifCond .le 10, 3) := by decide +kernel
theorem d100_32 : decode (xB 100) 32 = .ok (.aload_n 0, 1) := by decide +kernel
theorem d100_33 : decode (xB 100) 33 = .ok (.getfield 53, 3) := by decide +kernel
theorem d100_36 : decode (xB 100) 36 = .ok (.invokevirtual 121, 3) := by decide +kernel
theorem d100_39 : decode (xB 100) 39 = .ok (.aload_n 0, 1) := by decide +kernel
theorem d100_40 : decode (xB 100) 40 = .ok (.getfield 10, 3) := by decide +kernel
theorem d100_43 : decode (xB 100) 43 = .ok (.invokevirtual 124, 3) := by decide +kernel
theorem d100_46 : decode (xB 100) 46 = .ok (.iload_n 1, 1) := by decide +kernel
theorem d100_47 : decode (xB 100) 47 = .ok (.ireturn, 1) := by decide +kernel
theorem b100_0 {d : Nat} {P : xPr} {Q : xQr} {r : Nat} {mem : Nat → Nat → Int32} (hP : Cl d none 100 P Q)
    (k : xCall d 84 [.ref 5, .ref 1] (LAY, RFu r, mem) (Bk P 8 [.ref 0, .null] [] (0, 0))) : P 0 [.ref 0, .null] [] (0, 0) (LAY, RFu r, mem) := by
  refine r_aload_n hP d100_0 rfl ?_
  refine r_getr (a := 5) hP d100_1 fr_11_26 rfl ly_0 rg_0_2 ?_
  refine r_aload_n hP d100_4 rfl ?_
  refine r_getr (a := 1) hP d100_5 fr_11_10 rfl ly_0 rg_0_0 ?_
  exact r_callv (As := [.ref 1]) (S := []) hP d100_8 cr_11_113 (by decide +kernel) rfl (by simp [Value.category]) rfl ly_5 (by simp [Value.category]) ⟨Nat.zero_le _, Nat.zero_le _⟩ k
theorem b100_11 {d : Nat} {P : xPr} {Q : xQr} {r : Nat} {mem : Nat → Nat → Int32} (hP : Cl d none 100 P Q) {v1 : Value} {y0 : Int32}
    (kt : ¬ y0 = (-1) → P 28 [.ref 0, .int y0] [] (0, 0) (LAY, RFu r, mem)) (kf : y0 = (-1) → P 17 [.ref 0, .int y0] [] (0, 0) (LAY, RFu r, mem)) : P 11 [.ref 0, v1] [.int y0] (0, 0) (LAY, RFu r, mem) := by
  refine r_istore_n (L' := [.ref 0, .int y0]) hP d100_11 (Nat.le_of_ble_eq_true rfl) rfl ?_
  refine r_iload_n hP d100_12 rfl ?_
  refine r_iconst (v := (-1)) hP d100_13 rfl ?_
  exact r_icmp (t := 28) hP d100_14 (by decide) kt (fun q => kf (Decidable.of_not_not q))
theorem b100_17 {d : Nat} {P : xPr} {Q : xQr} {r : Nat} {mem : Nat → Nat → Int32} (hP : Cl d none 100 P Q) {v1 : Value}
    (k : xCall d 80 [.ref 1] (LAY, RFu r, mem) (Bk P 21 [.ref 0, v1] [] (0, 0))) : P 17 [.ref 0, v1] [] (0, 0) (LAY, RFu r, mem) := by
  refine r_aload_n hP d100_17 rfl ?_
  refine r_getr (a := 1) hP d100_18 fr_11_10 rfl ly_0 rg_0_0 ?_
  exact r_callv (As := []) (S := []) hP d100_21 cr_11_117 (by decide +kernel) rfl (by simp) rfl ly_1 (by simp [Value.category]) ⟨Nat.zero_le _, Nat.zero_le _⟩ k
theorem b100_24 {d : Nat} {P : xPr} {Q : xQr} {r : Nat} {mem : Nat → Nat → Int32} (hP : Cl d none 100 P Q) {v1 : Value} {y0 : Int32}
    (k : P 39 [.ref 0, .int y0] [] (0, 0) (LAY, RFu r, mem)) : P 24 [.ref 0, v1] [.int y0] (0, 0) (LAY, RFu r, mem) := by
  refine r_istore_n (L' := [.ref 0, .int y0]) hP d100_24 (Nat.le_of_ble_eq_true rfl) rfl ?_
  refine r_goto (t := 39) hP d100_25 (by decide) ?_
  exact k
theorem b100_28 {d : Nat} {P : xPr} {Q : xQr} {r : Nat} {mem : Nat → Nat → Int32} (hP : Cl d none 100 P Q) {x1 : Int32}
    (kt : x1 ≤ 0 → P 39 [.ref 0, .int x1] [] (0, 0) (LAY, RFu r, mem)) (kf : ¬ x1 ≤ 0 → P 32 [.ref 0, .int x1] [] (0, 0) (LAY, RFu r, mem)) : P 28 [.ref 0, .int x1] [] (0, 0) (LAY, RFu r, mem) := by
  refine r_iload_n hP d100_28 rfl ?_
  exact r_if (t := 39) hP d100_29 (by decide) kt kf
theorem b100_32 {d : Nat} {P : xPr} {Q : xQr} {r : Nat} {mem : Nat → Nat → Int32} (hP : Cl d none 100 P Q) {x1 : Int32}
    (k : xCall d 27 [.ref 55] (LAY, RFu r, mem) (Bk P 36 [.ref 0, .int x1] [] (0, 0))) : P 32 [.ref 0, .int x1] [] (0, 0) (LAY, RFu r, mem) := by
  refine r_aload_n hP d100_32 rfl ?_
  refine r_getr (a := 55) hP d100_33 fr_11_53 rfl ly_0 rg_0_7 ?_
  exact r_callv (As := []) (S := []) hP d100_36 cr_11_121 (by decide +kernel) rfl (by simp) rfl ly_55 (by simp [Value.category]) ⟨Nat.zero_le _, Nat.zero_le _⟩ k
theorem b100_39 {d : Nat} {P : xPr} {Q : xQr} {r : Nat} {mem : Nat → Nat → Int32} (hP : Cl d none 100 P Q) {x1 : Int32}
    (k : xCall d 73 [.ref 1] (LAY, RFu r, mem) (Bk P 43 [.ref 0, .int x1] [] (0, 0))) : P 39 [.ref 0, .int x1] [] (0, 0) (LAY, RFu r, mem) := by
  refine r_aload_n hP d100_39 rfl ?_
  refine r_getr (a := 1) hP d100_40 fr_11_10 rfl ly_0 rg_0_0 ?_
  exact r_callv (As := []) (S := []) hP d100_43 cr_11_124 (by decide +kernel) rfl (by simp) rfl ly_1 (by simp [Value.category]) ⟨Nat.zero_le _, Nat.zero_le _⟩ k
theorem b100_46 {d : Nat} {P : xPr} {Q : xQr} {r : Nat} {mem : Nat → Nat → Int32} (hP : Cl d none 100 P Q) {v0 : Value} {x1 : Int32}
    (k : Q (some (.int x1)) (LAY, RFu r, mem)) : P 46 [v0, .int x1] [] (0, 0) (LAY, RFu r, mem) := by
  refine r_iload_n hP d100_46 rfl ?_
  exact r_iret hP d100_47 rfl k
theorem d101_0 : decode (xB 101) 0 = .ok (.bipush (-100), 2) := by decide +kernel
theorem d101_2 : decode (xB 101) 2 = .ok (.istore_n 2, 1) := by decide +kernel
theorem d101_3 : decode (xB 101) 3 = .ok (.aload_n 0, 1) := by decide +kernel
theorem d101_4 : decode (xB 101) 4 = .ok (.getfield 26, 3) := by decide +kernel
theorem d101_7 : decode (xB 101) 7 = .ok (.iload_n 1, 1) := by decide +kernel
theorem d101_8 : decode (xB 101) 8 = .ok (.invokevirtual 127, 3) := by decide +kernel
theorem d101_11 : decode (xB 101) 11 = .ok (.ifCond .eq 36, 3) := by decide +kernel
theorem d101_14 : decode (xB 101) 14 = .ok (.aload_n 0, 1) := by decide +kernel
theorem d101_15 : decode (xB 101) 15 = .ok (.getfield 26, 3) := by decide +kernel
theorem d101_18 : decode (xB 101) 18 = .ok (.aload_n 0, 1) := by decide +kernel
theorem d101_19 : decode (xB 101) 19 = .ok (.getfield 10, 3) := by decide +kernel
theorem d101_22 : decode (xB 101) 22 = .ok (.iload_n 1, 1) := by decide +kernel
theorem d101_23 : decode (xB 101) 23 = .ok (.invokevirtual 130, 3) := by decide +kernel
theorem d101_26 : decode (xB 101) 26 = .ok (.ifCond .eq 13, 3) := by decide +kernel
theorem d101_29 : decode (xB 101) 29 = .ok (.aload_n 0, 1) := by decide +kernel
theorem d101_30 : decode (xB 101) 30 = .ok (.getfield 10, 3) := by decide +kernel
theorem d101_33 : decode (xB 101) 33 = .ok (.getfield 106, 3) := by decide +kernel
theorem d101_36 : decode (xB 101) 36 = .ok (.goto 10, 3) := by decide +kernel
theorem d101_39 : decode (xB 101) 39 = .ok (.aload_n 0, 1) := by decide +kernel
theorem d101_40 : decode (xB 101) 40 = .ok (.getfield 10, 3) := by decide +kernel
theorem d101_43 : decode (xB 101) 43 = .ok (.invokevirtual 117, 3) := by decide +kernel
theorem d101_46 : decode (xB 101) 46 = .ok (.istore_n 2, 1) := by decide +kernel
theorem d101_47 : decode (xB 101) 47 = .ok (.aload_n 0, 1) := by decide +kernel
theorem d101_48 : decode (xB 101) 48 = .ok (.getfield 10, 3) := by decide +kernel
theorem d101_51 : decode (xB 101) 51 = .ok (.invokevirtual 124, 3) := by decide +kernel
theorem d101_54 : decode (xB 101) 54 = .ok (.iload_n 2, 1) := by decide +kernel
theorem d101_55 : decode (xB 101) 55 = .ok (.ireturn, 1) := by decide +kernel
theorem b101_0 {d : Nat} {P : xPr} {Q : xQr} {r : Nat} {mem : Nat → Nat → Int32} (hP : Cl d none 101 P Q) {p0 : Int32}
    (k : xCall d 83 [.ref 5, .int p0] (LAY, RFu r, mem) (Bk P 8 [.ref 0, .int p0, .int (-100)] [] (0, 0))) : P 0 [.ref 0, .int p0, .null] [] (0, 0) (LAY, RFu r, mem) := by
  refine r_bipush (v := (-100)) hP d101_0 rfl ?_
  refine r_istore_n (L' := [.ref 0, .int p0, .int (-100)]) hP d101_2 (Nat.le_of_ble_eq_true rfl) rfl ?_
  refine r_aload_n hP d101_3 rfl ?_
  refine r_getr (a := 5) hP d101_4 fr_11_26 rfl ly_0 rg_0_2 ?_
  refine r_iload_n hP d101_7 rfl ?_
  exact r_callv (As := [.int p0]) (S := []) hP d101_8 cr_11_127 (by decide +kernel) rfl (by simp [Value.category]) rfl ly_5 (by simp [Value.category]) ⟨Nat.zero_le _, Nat.zero_le _⟩ k
theorem b101_11 {d : Nat} {P : xPr} {Q : xQr} {r : Nat} {mem : Nat → Nat → Int32} (hP : Cl d none 101 P Q) {x1 : Int32} {x2 : Int32} {y0 : Int32}
    (kt : y0 = 0 → P 47 [.ref 0, .int x1, .int x2] [] (0, 0) (LAY, RFu r, mem)) (kf : ¬ y0 = 0 → P 14 [.ref 0, .int x1, .int x2] [] (0, 0) (LAY, RFu r, mem)) : P 11 [.ref 0, .int x1, .int x2] [.int y0] (0, 0) (LAY, RFu r, mem) := by
  exact r_if (t := 47) hP d101_11 (by decide) kt kf
theorem b101_14 {d : Nat} {P : xPr} {Q : xQr} {r : Nat} {mem : Nat → Nat → Int32} (hP : Cl d none 101 P Q) {x1 : Int32} {v2 : Value}
    (k : xCall d 87 [.ref 5, .ref 1, .int x1] (LAY, RFu r, mem) (Bk P 23 [.ref 0, .int x1, v2] [] (0, 0))) : P 14 [.ref 0, .int x1, v2] [] (0, 0) (LAY, RFu r, mem) := by
  refine r_aload_n hP d101_14 rfl ?_
  refine r_getr (a := 5) hP d101_15 fr_11_26 rfl ly_0 rg_0_2 ?_
  refine r_aload_n hP d101_18 rfl ?_
  refine r_getr (a := 1) hP d101_19 fr_11_10 rfl ly_0 rg_0_0 ?_
  refine r_iload_n hP d101_22 rfl ?_
  exact r_callv (As := [.ref 1, .int x1]) (S := []) hP d101_23 cr_11_130 (by decide +kernel) rfl (by simp [Value.category]) rfl ly_5 (by simp [Value.category]) ⟨Nat.zero_le _, Nat.zero_le _⟩ k
theorem b101_26 {d : Nat} {P : xPr} {Q : xQr} {r : Nat} {mem : Nat → Nat → Int32} (hP : Cl d none 101 P Q) {v1 : Value} {v2 : Value} {y0 : Int32}
    (kt : y0 = 0 → P 39 [.ref 0, v1, v2] [] (0, 0) (LAY, RFu r, mem)) (kf : ¬ y0 = 0 → P 29 [.ref 0, v1, v2] [] (0, 0) (LAY, RFu r, mem)) : P 26 [.ref 0, v1, v2] [.int y0] (0, 0) (LAY, RFu r, mem) := by
  exact r_if (t := 39) hP d101_26 (by decide) kt kf
theorem b101_29 {d : Nat} {P : xPr} {Q : xQr} {r : Nat} {mem : Nat → Nat → Int32} (hP : Cl d none 101 P Q) {v1 : Value} {v2 : Value}
    (k : P 46 [.ref 0, v1, v2] [.int (mem 1 1)] (0, 0) (LAY, RFu r, mem)) : P 29 [.ref 0, v1, v2] [] (0, 0) (LAY, RFu r, mem) := by
  refine r_aload_n hP d101_29 rfl ?_
  refine r_getr (a := 1) hP d101_30 fr_11_10 rfl ly_0 rg_0_0 ?_
  refine r_geti hP d101_33 fr_11_106 rfl ly_1 ?_
  refine r_goto (t := 46) hP d101_36 (by decide) ?_
  exact k
theorem b101_39 {d : Nat} {P : xPr} {Q : xQr} {r : Nat} {mem : Nat → Nat → Int32} (hP : Cl d none 101 P Q) {v1 : Value} {v2 : Value}
    (k : xCall d 80 [.ref 1] (LAY, RFu r, mem) (Bk P 43 [.ref 0, v1, v2] [] (0, 0))) : P 39 [.ref 0, v1, v2] [] (0, 0) (LAY, RFu r, mem) := by
  refine r_aload_n hP d101_39 rfl ?_
  refine r_getr (a := 1) hP d101_40 fr_11_10 rfl ly_0 rg_0_0 ?_
  exact r_callv (As := []) (S := []) hP d101_43 cr_11_117 (by decide +kernel) rfl (by simp) rfl ly_1 (by simp [Value.category]) ⟨Nat.zero_le _, Nat.zero_le _⟩ k
theorem b101_46 {d : Nat} {P : xPr} {Q : xQr} {r : Nat} {mem : Nat → Nat → Int32} (hP : Cl d none 101 P Q) {v1 : Value} {v2 : Value} {y0 : Int32}
    (k : P 47 [.ref 0, v1, .int y0] [] (0, 0) (LAY, RFu r, mem)) : P 46 [.ref 0, v1, v2] [.int y0] (0, 0) (LAY, RFu r, mem) := by
  refine r_istore_n (L' := [.ref 0, v1, .int y0]) hP d101_46 (Nat.le_of_ble_eq_true rfl) rfl ?_
  exact k
theorem b101_47 {d : Nat} {P : xPr} {Q : xQr} {r : Nat} {mem : Nat → Nat → Int32} (hP : Cl d none 101 P Q) {v1 : Value} {x2 : Int32}
    (k : xCall d 73 [.ref 1] (LAY, RFu r, mem) (Bk P 51 [.ref 0, v1, .int x2] [] (0, 0))) : P 47 [.ref 0, v1, .int x2] [] (0, 0) (LAY, RFu r, mem) := by
  refine r_aload_n hP d101_47 rfl ?_
  refine r_getr (a := 1) hP d101_48 fr_11_10 rfl ly_0 rg_0_0 ?_
  exact r_callv (As := []) (S := []) hP d101_51 cr_11_124 (by decide +kernel) rfl (by simp) rfl ly_1 (by simp [Value.category]) ⟨Nat.zero_le _, Nat.zero_le _⟩ k
theorem b101_54 {d : Nat} {P : xPr} {Q : xQr} {r : Nat} {mem : Nat → Nat → Int32} (hP : Cl d none 101 P Q) {v0 : Value} {v1 : Value} {x2 : Int32}
    (k : Q (some (.int x2)) (LAY, RFu r, mem)) : P 54 [v0, v1, .int x2] [] (0, 0) (LAY, RFu r, mem) := by
  refine r_iload_n hP d101_54 rfl ?_
  exact r_iret hP d101_55 rfl k
theorem d102_0 : decode (xB 102) 0 = .ok (.bipush (-100), 2) := by decide +kernel
theorem d102_2 : decode (xB 102) 2 = .ok (.istore_n 2, 1) := by decide +kernel
theorem d102_3 : decode (xB 102) 3 = .ok (.iload_n 1, 1) := by decide +kernel
theorem d102_4 : decode (xB 102) 4 = .ok (.ifCond .ne 20, 3) := by decide +kernel
theorem d102_7 : decode (xB 102) 7 = .ok (.aload_n 0, 1) := by decide +kernel
theorem d102_8 : decode (xB 102) 8 = .ok (.aload_n 0, 1) := by decide +kernel
theorem d102_9 : decode (xB 102) 9 = .ok (.getfield 26, 3) := by decide +kernel
theorem d102_12 : decode (xB 102) 12 = .ok (.getfield 134, 3) := by decide +kernel
theorem d102_15 : decode (xB 102) 15 = .ok (.bipush 116, 2) := by decide +kernel
theorem d102_17 : decode (xB 102) 17 = .ok (.invokevirtual 138, 3) := by decide +kernel
theorem d102_20 : decode (xB 102) 20 = .ok (.istore_n 2, 1) := by decide +kernel
theorem d102_21 : decode (xB 102) 21 = .ok (.goto 22, 3) := by decide +kernel
theorem d102_24 : decode (xB 102) 24 = .ok (.iload_n 1, 1) := by decide +kernel
theorem d102_25 : decode (xB 102) 25 = .ok (.iconst 1, 1) := by decide +kernel
theorem d102_26 : decode (xB 102) 26 = .ok (.if_icmp .ne 17, 3) := by decide +kernel
theorem d102_29 : decode (xB 102) 29 = .ok (.aload_n 0, 1) := by decide +kernel
theorem d102_30 : decode (xB 102) 30 = .ok (.aload_n 0, 1) := by decide +kernel
theorem d102_31 : decode (xB 102) 31 = .ok (.getfield 26, 3) := by decide +kernel
theorem d102_34 : decode (xB 102) 34 = .ok (.getfield 142, 3) := by decide +kernel
theorem d102_37 : decode (xB 102) 37 = .ok (.bipush 115, 2) := by decide +kernel
theorem d102_39 : decode (xB 102) 39 = .ok (.invokevirtual 138, 3) := by decide +kernel
theorem d102_42 : decode (xB 102) 42 = .ok (.istore_n 2, 1) := by decide +kernel
theorem d102_43 : decode (xB 102) 43 = .ok (.aload_n 0, 1) := by decide +kernel
theorem d102_44 : decode (xB 102) 44 = .ok (.getfield 10, 3) := by decide +kernel
theorem d102_47 : decode (xB 102) 47 = .ok (.invokevirtual 124, 3) := by decide +kernel
theorem d102_50 : decode (xB 102) 50 = .ok (.iload_n 2, 1) := by decide +kernel
theorem d102_51 : decode (xB 102) 51 = .ok (.ireturn, 1) := by decide +kernel
theorem b102_0 {d : Nat} {P : xPr} {Q : xQr} {r : Nat} {mem : Nat → Nat → Int32} (hP : Cl d none 102 P Q) {p0 : Int32}
    (kt : ¬ p0 = 0 → P 24 [.ref 0, .int p0, .int (-100)] [] (0, 0) (LAY, RFu r, mem)) (kf : p0 = 0 → P 7 [.ref 0, .int p0, .int (-100)] [] (0, 0) (LAY, RFu r, mem)) : P 0 [.ref 0, .int p0, .null] [] (0, 0) (LAY, RFu r, mem) := by
  refine r_bipush (v := (-100)) hP d102_0 rfl ?_
  refine r_istore_n (L' := [.ref 0, .int p0, .int (-100)]) hP d102_2 (Nat.le_of_ble_eq_true rfl) rfl ?_
  refine r_iload_n hP d102_3 rfl ?_
  exact r_if (t := 24) hP d102_4 (by decide) kt (fun q => kf (Decidable.of_not_not q))
theorem b102_7 {d : Nat} {P : xPr} {Q : xQr} {r : Nat} {mem : Nat → Nat → Int32} (hP : Cl d none 102 P Q) {v1 : Value} {v2 : Value}
    (k : xCall d 103 [.ref 0, .ref 20, .int (nI 116)] (LAY, RFu r, mem) (Bk P 17 [.ref 0, v1, v2] [] (0, 0))) : P 7 [.ref 0, v1, v2] [] (0, 0) (LAY, RFu r, mem) := by
  refine r_aload_n hP d102_7 rfl ?_
  refine r_aload_n hP d102_8 rfl ?_
  refine r_getr (a := 5) hP d102_9 fr_11_26 rfl ly_0 rg_0_2 ?_
  refine r_getr (a := 20) hP d102_12 fr_11_134 rfl ly_5 rg_5_8 ?_
  refine r_bipush (v := nI 116) hP d102_15 rfl ?_
  exact r_callv (As := [.ref 20, .int (nI 116)]) (S := []) hP d102_17 cr_11_138 (by decide +kernel) rfl (by simp [Value.category]) rfl ly_0 (by simp [Value.category]) ⟨Nat.zero_le _, Nat.zero_le _⟩ k
theorem b102_20 {d : Nat} {P : xPr} {Q : xQr} {r : Nat} {mem : Nat → Nat → Int32} (hP : Cl d none 102 P Q) {v1 : Value} {v2 : Value} {y0 : Int32}
    (k : P 43 [.ref 0, v1, .int y0] [] (0, 0) (LAY, RFu r, mem)) : P 20 [.ref 0, v1, v2] [.int y0] (0, 0) (LAY, RFu r, mem) := by
  refine r_istore_n (L' := [.ref 0, v1, .int y0]) hP d102_20 (Nat.le_of_ble_eq_true rfl) rfl ?_
  refine r_goto (t := 43) hP d102_21 (by decide) ?_
  exact k
theorem b102_24 {d : Nat} {P : xPr} {Q : xQr} {r : Nat} {mem : Nat → Nat → Int32} (hP : Cl d none 102 P Q) {x1 : Int32} {x2 : Int32}
    (kt : ¬ x1 = (nI 1) → P 43 [.ref 0, .int x1, .int x2] [] (0, 0) (LAY, RFu r, mem)) (kf : x1 = (nI 1) → P 29 [.ref 0, .int x1, .int x2] [] (0, 0) (LAY, RFu r, mem)) : P 24 [.ref 0, .int x1, .int x2] [] (0, 0) (LAY, RFu r, mem) := by
  refine r_iload_n hP d102_24 rfl ?_
  refine r_iconst (v := nI 1) hP d102_25 rfl ?_
  exact r_icmp (t := 43) hP d102_26 (by decide) kt (fun q => kf (Decidable.of_not_not q))
theorem b102_29 {d : Nat} {P : xPr} {Q : xQr} {r : Nat} {mem : Nat → Nat → Int32} (hP : Cl d none 102 P Q) {v1 : Value} {v2 : Value}
    (k : xCall d 103 [.ref 0, .ref 23, .int (nI 115)] (LAY, RFu r, mem) (Bk P 39 [.ref 0, v1, v2] [] (0, 0))) : P 29 [.ref 0, v1, v2] [] (0, 0) (LAY, RFu r, mem) := by
  refine r_aload_n hP d102_29 rfl ?_
  refine r_aload_n hP d102_30 rfl ?_
  refine r_getr (a := 5) hP d102_31 fr_11_26 rfl ly_0 rg_0_2 ?_
  refine r_getr (a := 23) hP d102_34 fr_11_142 rfl ly_5 rg_5_9 ?_
  refine r_bipush (v := nI 115) hP d102_37 rfl ?_
  exact r_callv (As := [.ref 23, .int (nI 115)]) (S := []) hP d102_39 cr_11_138 (by decide +kernel) rfl (by simp [Value.category]) rfl ly_0 (by simp [Value.category]) ⟨Nat.zero_le _, Nat.zero_le _⟩ k
theorem b102_42 {d : Nat} {P : xPr} {Q : xQr} {r : Nat} {mem : Nat → Nat → Int32} (hP : Cl d none 102 P Q) {v1 : Value} {v2 : Value} {y0 : Int32}
    (k : P 43 [.ref 0, v1, .int y0] [] (0, 0) (LAY, RFu r, mem)) : P 42 [.ref 0, v1, v2] [.int y0] (0, 0) (LAY, RFu r, mem) := by
  refine r_istore_n (L' := [.ref 0, v1, .int y0]) hP d102_42 (Nat.le_of_ble_eq_true rfl) rfl ?_
  exact k
theorem b102_43 {d : Nat} {P : xPr} {Q : xQr} {r : Nat} {mem : Nat → Nat → Int32} (hP : Cl d none 102 P Q) {v1 : Value} {x2 : Int32}
    (k : xCall d 73 [.ref 1] (LAY, RFu r, mem) (Bk P 47 [.ref 0, v1, .int x2] [] (0, 0))) : P 43 [.ref 0, v1, .int x2] [] (0, 0) (LAY, RFu r, mem) := by
  refine r_aload_n hP d102_43 rfl ?_
  refine r_getr (a := 1) hP d102_44 fr_11_10 rfl ly_0 rg_0_0 ?_
  exact r_callv (As := []) (S := []) hP d102_47 cr_11_124 (by decide +kernel) rfl (by simp) rfl ly_1 (by simp [Value.category]) ⟨Nat.zero_le _, Nat.zero_le _⟩ k
theorem b102_50 {d : Nat} {P : xPr} {Q : xQr} {r : Nat} {mem : Nat → Nat → Int32} (hP : Cl d none 102 P Q) {v0 : Value} {v1 : Value} {x2 : Int32}
    (k : Q (some (.int x2)) (LAY, RFu r, mem)) : P 50 [v0, v1, .int x2] [] (0, 0) (LAY, RFu r, mem) := by
  refine r_iload_n hP d102_50 rfl ?_
  exact r_iret hP d102_51 rfl k
theorem d103_0 : decode (xB 103) 0 = .ok (.aload_n 0, 1) := by decide +kernel
theorem d103_1 : decode (xB 103) 1 = .ok (.getfield 10, 3) := by decide +kernel
theorem d103_4 : decode (xB 103) 4 = .ok (.getfield 106, 3) := by decide +kernel
theorem d103_7 : decode (xB 103) 7 = .ok (.ifCond .ne 10, 3) := by decide +kernel
theorem d103_10 : decode (xB 103) 10 = .ok (.aload_n 1, 1) := by decide +kernel
theorem d103_11 : decode (xB 103) 11 = .ok (.iload_n 2, 1) := by decide +kernel
theorem d103_12 : decode (xB 103) 12 = .ok (.invokevirtual 145, 3) := by decide +kernel
theorem d103_15 : decode (xB 103) 15 = .ok (.iconst 0, 1) := by decide +kernel
theorem d103_16 : decode (xB 103) 16 = .ok (.ireturn, 1) := by decide +kernel
theorem d103_17 : decode (xB 103) 17 = .ok (.aload_n 0, 1) := by decide +kernel
theorem d103_18 : decode (xB 103) 18 = .ok (.getfield 78, 3) := by decide +kernel
theorem d103_21 : decode (xB 103) 21 = .ok (.invokevirtual 151, 3) := by decide +kernel
theorem d103_24 : decode (xB 103) 24 = .ok (.ifCond .ne 11, 3) := by decide +kernel
theorem d103_27 : decode (xB 103) 27 = .ok (.aload_n 0, 1) := by decide +kernel
theorem d103_28 : decode (xB 103) 28 = .ok (.getfield 10, 3) := by decide +kernel
theorem d103_31 : decode (xB 103) 31 = .ok (.invokevirtual 117, 3) := by decide +kernel
theorem d103_34 : decode (xB 103) 34 = .ok (.ireturn, 1) := by decide +kernel
theorem d103_35 : decode (xB 103) 35 = .ok (.aload_n 1, 1) := by decide +kernel
theorem d103_36 : decode (xB 103) 36 = .ok (.aload_n 0, 1) := by decide +kernel
theorem d103_37 : decode (xB 103) 37 = .ok (.getfield 78, 3) := by decide +kernel
theorem d103_40 : decode (xB 103) 40 = .ok (.getfield 155, 3) := by decide +kernel
theorem d103_43 : decode (xB 103) 43 = .ok (.invokevirtual 158, 3) := by decide +kernel
theorem d103_46 : decode (xB 103) 46 = .ok (.iconst 0, 1) := by decide +kernel
theorem d103_47 : decode (xB 103) 47 = .ok (.ireturn, 1) := by decide +kernel
theorem b103_0 {d : Nat} {P : xPr} {Q : xQr} {r : Nat} {mem : Nat → Nat → Int32} (hP : Cl d none 103 P Q) {q : Nat} {p1 : Int32} (hq : isRule q)
    (kt : ¬ (mem 1 1) = 0 → P 17 [.ref 0, .ref q, .int p1] [] (0, 0) (LAY, RFu r, mem)) (kf : (mem 1 1) = 0 → P 10 [.ref 0, .ref q, .int p1] [] (0, 0) (LAY, RFu r, mem)) : P 0 [.ref 0, .ref q, .int p1] [] (0, 0) (LAY, RFu r, mem) := by
  refine r_aload_n hP d103_0 rfl ?_
  refine r_getr (a := 1) hP d103_1 fr_11_10 rfl ly_0 rg_0_0 ?_
  refine r_geti hP d103_4 fr_11_106 rfl ly_1 ?_
  exact r_if (t := 17) hP d103_7 (by decide) kt (fun q => kf (Decidable.of_not_not q))
theorem b103_10 {d : Nat} {P : xPr} {Q : xQr} {r : Nat} {mem : Nat → Nat → Int32} (hP : Cl d none 103 P Q) {q : Nat} {v0 : Value} {x2 : Int32} (hq : isRule q)
    (k : xCall d 37 [.ref q, .int x2] (LAY, RFu r, mem) (Bk P 12 [v0, .ref q, .int x2] [] (0, 0))) : P 10 [v0, .ref q, .int x2] [] (0, 0) (LAY, RFu r, mem) := by
  refine r_aload_n hP d103_10 rfl ?_
  refine r_iload_n hP d103_11 rfl ?_
  exact r_callv (As := [.int x2]) (S := []) hP d103_12 cr_11_145 (by decide +kernel) rfl (by simp [Value.category]) rfl (lt_5 hq) (by simp [Value.category]) ⟨Nat.zero_le _, Nat.zero_le _⟩ k
theorem b103_15 {d : Nat} {P : xPr} {Q : xQr} {r : Nat} {mem : Nat → Nat → Int32} (hP : Cl d none 103 P Q) {q : Nat} {v0 : Value} {v1 : Value} {v2 : Value} (hq : isRule q)
    (k : Q (some (.int (nI 0))) (LAY, RFu r, mem)) : P 15 [v0, v1, v2] [] (0, 0) (LAY, RFu r, mem) := by
  refine r_iconst (v := nI 0) hP d103_15 rfl ?_
  exact r_iret hP d103_16 rfl k
theorem b103_17 {d : Nat} {P : xPr} {Q : xQr} {r : Nat} {mem : Nat → Nat → Int32} (hP : Cl d none 103 P Q) {q : Nat} {v2 : Value} (hq : isRule q)
    (k : xCall d 44 [.ref 94] (LAY, RFu r, mem) (Bk P 21 [.ref 0, .ref q, v2] [] (0, 0))) : P 17 [.ref 0, .ref q, v2] [] (0, 0) (LAY, RFu r, mem) := by
  refine r_aload_n hP d103_17 rfl ?_
  refine r_getr (a := 94) hP d103_18 fr_11_78 rfl ly_0 rg_0_10 ?_
  exact r_callv (As := []) (S := []) hP d103_21 cr_11_151 (by decide +kernel) rfl (by simp) rfl ly_94 (by simp [Value.category]) ⟨Nat.zero_le _, Nat.zero_le _⟩ k
theorem b103_24 {d : Nat} {P : xPr} {Q : xQr} {r : Nat} {mem : Nat → Nat → Int32} (hP : Cl d none 103 P Q) {q : Nat} {v2 : Value} {y0 : Int32} (hq : isRule q)
    (kt : ¬ y0 = 0 → P 35 [.ref 0, .ref q, v2] [] (0, 0) (LAY, RFu r, mem)) (kf : y0 = 0 → P 27 [.ref 0, .ref q, v2] [] (0, 0) (LAY, RFu r, mem)) : P 24 [.ref 0, .ref q, v2] [.int y0] (0, 0) (LAY, RFu r, mem) := by
  exact r_if (t := 35) hP d103_24 (by decide) kt (fun q => kf (Decidable.of_not_not q))
theorem b103_27 {d : Nat} {P : xPr} {Q : xQr} {r : Nat} {mem : Nat → Nat → Int32} (hP : Cl d none 103 P Q) {q : Nat} {v1 : Value} {v2 : Value} (hq : isRule q)
    (k : xCall d 80 [.ref 1] (LAY, RFu r, mem) (Bk P 31 [.ref 0, v1, v2] [] (0, 0))) : P 27 [.ref 0, v1, v2] [] (0, 0) (LAY, RFu r, mem) := by
  refine r_aload_n hP d103_27 rfl ?_
  refine r_getr (a := 1) hP d103_28 fr_11_10 rfl ly_0 rg_0_0 ?_
  exact r_callv (As := []) (S := []) hP d103_31 cr_11_117 (by decide +kernel) rfl (by simp) rfl ly_1 (by simp [Value.category]) ⟨Nat.zero_le _, Nat.zero_le _⟩ k
theorem b103_34 {d : Nat} {P : xPr} {Q : xQr} {r : Nat} {mem : Nat → Nat → Int32} (hP : Cl d none 103 P Q) {q : Nat} {v0 : Value} {v1 : Value} {v2 : Value} {y0 : Int32} (hq : isRule q)
    (k : Q (some (.int y0)) (LAY, RFu r, mem)) : P 34 [v0, v1, v2] [.int y0] (0, 0) (LAY, RFu r, mem) := by
  exact r_iret hP d103_34 rfl k
theorem b103_35 {d : Nat} {P : xPr} {Q : xQr} {r : Nat} {mem : Nat → Nat → Int32} (hP : Cl d none 103 P Q) {q : Nat} {v2 : Value} (hq : isRule q)
    (k : xCall d 39 [.ref q, .ref 95] (LAY, RFu r, mem) (Bk P 43 [.ref 0, .ref q, v2] [] (0, 0))) : P 35 [.ref 0, .ref q, v2] [] (0, 0) (LAY, RFu r, mem) := by
  refine r_aload_n hP d103_35 rfl ?_
  refine r_aload_n hP d103_36 rfl ?_
  refine r_getr (a := 94) hP d103_37 fr_11_78 rfl ly_0 rg_0_10 ?_
  refine r_getr (a := 95) hP d103_40 fr_11_155 rfl ly_94 rg_94_0 ?_
  exact r_callv (As := [.ref 95]) (S := []) hP d103_43 cr_11_158 (by decide +kernel) rfl (by simp [Value.category]) rfl (lt_5 hq) (by simp [Value.category]) ⟨Nat.zero_le _, Nat.zero_le _⟩ k
theorem b103_46 {d : Nat} {P : xPr} {Q : xQr} {r : Nat} {mem : Nat → Nat → Int32} (hP : Cl d none 103 P Q) {q : Nat} {v0 : Value} {v1 : Value} {v2 : Value} (hq : isRule q)
    (k : Q (some (.int (nI 0))) (LAY, RFu r, mem)) : P 46 [v0, v1, v2] [] (0, 0) (LAY, RFu r, mem) := by
  refine r_iconst (v := nI 0) hP d103_46 rfl ?_
  exact r_iret hP d103_47 rfl k
theorem d104_0 : decode (xB 104) 0 = .ok (.aload_n 0, 1) := by decide +kernel
theorem d104_1 : decode (xB 104) 1 = .ok (.getfield 26, 3) := by decide +kernel
theorem d104_4 : decode (xB 104) 4 = .ok (.iload_n 1, 1) := by decide +kernel
theorem d104_5 : decode (xB 104) 5 = .ok (.invokevirtual 127, 3) := by decide +kernel
theorem d104_8 : decode (xB 104) 8 = .ok (.ifCond .ne 11, 3) := by decide +kernel
theorem d104_11 : decode (xB 104) 11 = .ok (.new 162, 3) := by decide +kernel
theorem d104_19 : decode (xB 104) 19 = .ok (.iload_n 2, 1) := by decide +kernel
theorem d104_20 : decode (xB 104) 20 = .ok (.tableswitch 215 0 10 #[60, 70, 80, 92, 110, 123, 136, 149, 162, 175, 195], 60) := by decide +kernel
theorem d104_80 : decode (xB 104) 80 = .ok (.aload_n 0, 1) := by decide +kernel
theorem d104_81 : decode (xB 104) 81 = .ok (.getfield 26, 3) := by decide +kernel
theorem d104_84 : decode (xB 104) 84 = .ok (.getfield 165, 3) := by decide +kernel
theorem d104_87 : decode (xB 104) 87 = .ok (.iload_n 1, 1) := by decide +kernel
theorem d104_88 : decode (xB 104) 88 = .ok (.iaload, 1) := by decide +kernel
theorem d104_89 : decode (xB 104) 89 = .ok (.ireturn, 1) := by decide +kernel
theorem d104_90 : decode (xB 104) 90 = .ok (.aload_n 0, 1) := by decide +kernel
theorem d104_91 : decode (xB 104) 91 = .ok (.getfield 26, 3) := by decide +kernel
theorem d104_94 : decode (xB 104) 94 = .ok (.getfield 168, 3) := by decide +kernel
theorem d104_97 : decode (xB 104) 97 = .ok (.iload_n 1, 1) := by decide +kernel
theorem d104_98 : decode (xB 104) 98 = .ok (.iaload, 1) := by decide +kernel
theorem d104_99 : decode (xB 104) 99 = .ok (.ireturn, 1) := by decide +kernel
theorem d104_100 : decode (xB 104) 100 = .ok (.aload_n 0, 1) := by decide +kernel
theorem d104_101 : decode (xB 104) 101 = .ok (.getfield 36, 3) := by decide +kernel
theorem d104_104 : decode (xB 104) 104 = .ok (.getfield 171, 3) := by decide +kernel
theorem d104_107 : decode (xB 104) 107 = .ok (.iconst 0, 1) := by decide +kernel
theorem d104_108 : decode (xB 104) 108 = .ok (.iload_n 1, 1) := by decide +kernel
theorem d104_109 : decode (xB 104) 109 = .ok (.iadd, 1) := by decide +kernel
theorem d104_110 : decode (xB 104) 110 = .ok (.iaload, 1) := by decide +kernel
theorem d104_111 : decode (xB 104) 111 = .ok (.ireturn, 1) := by decide +kernel
theorem d104_112 : decode (xB 104) 112 = .ok (.aload_n 0, 1) := by decide +kernel
theorem d104_113 : decode (xB 104) 113 = .ok (.getfield 36, 3) := by decide +kernel
theorem d104_116 : decode (xB 104) 116 = .ok (.iload_n 1, 1) := by decide +kernel
theorem d104_117 : decode (xB 104) 117 = .ok (.invokevirtual 174, 3) := by decide +kernel
theorem d104_120 : decode (xB 104) 120 = .ok (.iconst 2, 1) := by decide +kernel
theorem d104_121 : decode (xB 104) 121 = .ok (.if_icmp .ne 7, 3) := by decide +kernel
theorem d104_124 : decode (xB 104) 124 = .ok (.iconst 1, 1) := by decide +kernel
theorem d104_125 : decode (xB 104) 125 = .ok (.goto 4, 3) := by decide +kernel
theorem d104_128 : decode (xB 104) 128 = .ok (.iconst 0, 1) := by decide +kernel
theorem d104_129 : decode (xB 104) 129 = .ok (.ireturn, 1) := by decide +kernel
theorem d104_130 : decode (xB 104) 130 = .ok (.aload_n 0, 1) := by decide +kernel
theorem d104_131 : decode (xB 104) 131 = .ok (.getfield 36, 3) := by decide +kernel
theorem d104_134 : decode (xB 104) 134 = .ok (.getfield 171, 3) := by decide +kernel
theorem d104_137 : decode (xB 104) 137 = .ok (.bipush 16, 2) := by decide +kernel
theorem d104_139 : decode (xB 104) 139 = .ok (.iload_n 1, 1) := by decide +kernel
theorem d104_140 : decode (xB 104) 140 = .ok (.iadd, 1) := by decide +kernel
theorem d104_141 : decode (xB 104) 141 = .ok (.iaload, 1) := by decide +kernel
theorem d104_142 : decode (xB 104) 142 = .ok (.ireturn, 1) := by decide +kernel
theorem d104_143 : decode (xB 104) 143 = .ok (.aload_n 0, 1) := by decide +kernel
theorem d104_144 : decode (xB 104) 144 = .ok (.getfield 36, 3) := by decide +kernel
theorem d104_147 : decode (xB 104) 147 = .ok (.getfield 171, 3) := by decide +kernel
theorem d104_150 : decode (xB 104) 150 = .ok (.bipush 24, 2) := by decide +kernel
theorem d104_152 : decode (xB 104) 152 = .ok (.iload_n 1, 1) := by decide +kernel
theorem d104_153 : decode (xB 104) 153 = .ok (.iadd, 1) := by decide +kernel
theorem d104_154 : decode (xB 104) 154 = .ok (.iaload, 1) := by decide +kernel
theorem d104_155 : decode (xB 104) 155 = .ok (.ireturn, 1) := by decide +kernel
theorem d104_156 : decode (xB 104) 156 = .ok (.aload_n 0, 1) := by decide +kernel
theorem d104_157 : decode (xB 104) 157 = .ok (.getfield 36, 3) := by decide +kernel
theorem d104_160 : decode (xB 104) 160 = .ok (.getfield 171, 3) := by decide +kernel
theorem d104_163 : decode (xB 104) 163 = .ok (.bipush 32, 2) := by decide +kernel
theorem d104_165 : decode (xB 104) 165 = .ok (.iload_n 1, 1) := by decide +kernel
theorem d104_166 : decode (xB 104) 166 = .ok (.iadd, 1) := by decide +kernel
theorem d104_167 : decode (xB 104) 167 = .ok (.iaload, 1) := by decide +kernel
theorem d104_168 : decode (xB 104) 168 = .ok (.ireturn, 1) := by decide +kernel
theorem d104_169 : decode (xB 104) 169 = .ok (.aload_n 0, 1) := by decide +kernel
theorem d104_170 : decode (xB 104) 170 = .ok (.getfield 36, 3) := by decide +kernel
theorem d104_173 : decode (xB 104) 173 = .ok (.getfield 171, 3) := by decide +kernel
theorem d104_176 : decode (xB 104) 176 = .ok (.bipush 40, 2) := by decide +kernel
theorem d104_178 : decode (xB 104) 178 = .ok (.iload_n 1, 1) := by decide +kernel
theorem d104_179 : decode (xB 104) 179 = .ok (.iadd, 1) := by decide +kernel
theorem d104_180 : decode (xB 104) 180 = .ok (.iaload, 1) := by decide +kernel
theorem d104_181 : decode (xB 104) 181 = .ok (.ireturn, 1) := by decide +kernel
theorem d104_182 : decode (xB 104) 182 = .ok (.aload_n 0, 1) := by decide +kernel
theorem d104_183 : decode (xB 104) 183 = .ok (.getfield 36, 3) := by decide +kernel
theorem d104_186 : decode (xB 104) 186 = .ok (.getfield 171, 3) := by decide +kernel
theorem d104_189 : decode (xB 104) 189 = .ok (.bipush 48, 2) := by decide +kernel
theorem d104_191 : decode (xB 104) 191 = .ok (.iload_n 1, 1) := by decide +kernel
theorem d104_192 : decode (xB 104) 192 = .ok (.iadd, 1) := by decide +kernel
theorem d104_193 : decode (xB 104) 193 = .ok (.iaload, 1) := by decide +kernel
theorem d104_194 : decode (xB 104) 194 = .ok (.ireturn, 1) := by decide +kernel
theorem d104_195 : decode (xB 104) 195 = .ok (.aload_n 0, 1) := by decide +kernel
theorem d104_196 : decode (xB 104) 196 = .ok (.getfield 26, 3) := by decide +kernel
theorem d104_199 : decode (xB 104) 199 = .ok (.getfield 134, 3) := by decide +kernel
theorem d104_202 : decode (xB 104) 202 = .ok (.aload_n 0, 1) := by decide +kernel
theorem d104_203 : decode (xB 104) 203 = .ok (.getfield 26, 3) := by decide +kernel
theorem d104_206 : decode (xB 104) 206 = .ok (.aload_n 0, 1) := by decide +kernel
theorem d104_207 : decode (xB 104) 207 = .ok (.getfield 36, 3) := by decide +kernel
theorem d104_210 : decode (xB 104) 210 = .ok (.iload_n 1, 1) := by decide +kernel
theorem d104_211 : decode (xB 104) 211 = .ok (.invokevirtual 178, 3) := by decide +kernel
theorem d104_214 : decode (xB 104) 214 = .ok (.ireturn, 1) := by decide +kernel
theorem d104_215 : decode (xB 104) 215 = .ok (.aload_n 0, 1) := by decide +kernel
theorem d104_216 : decode (xB 104) 216 = .ok (.getfield 26, 3) := by decide +kernel
theorem d104_219 : decode (xB 104) 219 = .ok (.getfield 142, 3) := by decide +kernel
theorem d104_222 : decode (xB 104) 222 = .ok (.aload_n 0, 1) := by decide +kernel
theorem d104_223 : decode (xB 104) 223 = .ok (.getfield 26, 3) := by decide +kernel
theorem d104_226 : decode (xB 104) 226 = .ok (.aload_n 0, 1) := by decide +kernel
theorem d104_227 : decode (xB 104) 227 = .ok (.getfield 36, 3) := by decide +kernel
theorem d104_230 : decode (xB 104) 230 = .ok (.iload_n 1, 1) := by decide +kernel
theorem d104_231 : decode (xB 104) 231 = .ok (.invokevirtual 178, 3) := by decide +kernel
theorem d104_234 : decode (xB 104) 234 = .ok (.ireturn, 1) := by decide +kernel
theorem d104_235 : decode (xB 104) 235 = .ok (.new 162, 3) := by decide +kernel
theorem b104_0 {d : Nat} {P : xPr} {Q : xQr} {r : Nat} {mem : Nat → Nat → Int32} (hP : Cl d none 104 P Q) {p0 : Int32} {p1 : Int32}
    (k : xCall d 83 [.ref 5, .int p0] (LAY, RFu r, mem) (Bk P 5 [.ref 0, .int p0, .int p1] [] (0, 0))) : P 0 [.ref 0, .int p0, .int p1] [] (0, 0) (LAY, RFu r, mem) := by
  refine r_aload_n hP d104_0 rfl ?_
  refine r_getr (a := 5) hP d104_1 fr_11_26 rfl ly_0 rg_0_2 ?_
  refine r_iload_n hP d104_4 rfl ?_
  exact r_callv (As := [.int p0]) (S := []) hP d104_5 cr_11_127 (by decide +kernel) rfl (by simp [Value.category]) rfl ly_5 (by simp [Value.category]) ⟨Nat.zero_le _, Nat.zero_le _⟩ k
theorem b104_8 {d : Nat} {P : xPr} {Q : xQr} {r : Nat} {mem : Nat → Nat → Int32} (hP : Cl d none 104 P Q) {x1 : Int32} {x2 : Int32} {y0 : Int32}
    (kt : ¬ y0 = 0 → P 19 [.ref 0, .int x1, .int x2] [] (0, 0) (LAY, RFu r, mem)) (kf : y0 = 0 → P 11 [.ref 0, .int x1, .int x2] [] (0, 0) (LAY, RFu r, mem)) : P 8 [.ref 0, .int x1, .int x2] [.int y0] (0, 0) (LAY, RFu r, mem) := by
  exact r_if (t := 19) hP d104_8 (by decide) kt (fun q => kf (Decidable.of_not_not q))
theorem b104_11 {d : Nat} {P : xPr} {Q : xQr} {r : Nat} {mem : Nat → Nat → Int32} (hP : Cl d none 104 P Q) {v0 : Value} {v1 : Value} {v2 : Value}
    (k : Q (some .null) (LAY, RFu r, mem)) : P 11 [v0, v1, v2] [] (0, 0) (LAY, RFu r, mem) := by
  exact r_throw hP d104_11 rfl k
theorem b104_19 {d : Nat} {P : xPr} {Q : xQr} {r : Nat} {mem : Nat → Nat → Int32} (hP : Cl d none 104 P Q) {x1 : Int32} {x2 : Int32}
    (kd : (x2.toInt < 0 ∨ 10 < x2.toInt) → P 235 [.ref 0, .int x1, .int x2] [] (0, 0) (LAY, RFu r, mem)) (k0 : x2.toInt = 0 → P 80 [.ref 0, .int x1, .int x2] [] (0, 0) (LAY, RFu r, mem)) (k1 : x2.toInt = 1 → P 90 [.ref 0, .int x1, .int x2] [] (0, 0) (LAY, RFu r, mem)) (k2 : x2.toInt = 2 → P 100 [.ref 0, .int x1, .int x2] [] (0, 0) (LAY, RFu r, mem)) (k3 : x2.toInt = 3 → P 112 [.ref 0, .int x1, .int x2] [] (0, 0) (LAY, RFu r, mem)) (k4 : x2.toInt = 4 → P 130 [.ref 0, .int x1, .int x2] [] (0, 0) (LAY, RFu r, mem)) (k5 : x2.toInt = 5 → P 143 [.ref 0, .int x1, .int x2] [] (0, 0) (LAY, RFu r, mem)) (k6 : x2.toInt = 6 → P 156 [.ref 0, .int x1, .int x2] [] (0, 0) (LAY, RFu r, mem)) (k7 : x2.toInt = 7 → P 169 [.ref 0, .int x1, .int x2] [] (0, 0) (LAY, RFu r, mem)) (k8 : x2.toInt = 8 → P 182 [.ref 0, .int x1, .int x2] [] (0, 0) (LAY, RFu r, mem)) (k9 : x2.toInt = 9 → P 195 [.ref 0, .int x1, .int x2] [] (0, 0) (LAY, RFu r, mem)) (k10 : x2.toInt = 10 → P 215 [.ref 0, .int x1, .int x2] [] (0, 0) (LAY, RFu r, mem)) : P 19 [.ref 0, .int x1, .int x2] [] (0, 0) (LAY, RFu r, mem) := by
  refine r_iload_n hP d104_19 rfl ?_
  refine r_table (t := 235) hP d104_20 (by decide) (by decide) kd (fun h1 h2 off ho => ?_)
  have hc : x2.toInt = 0 ∨ x2.toInt = 1 ∨ x2.toInt = 2 ∨ x2.toInt = 3 ∨ x2.toInt = 4 ∨ x2.toInt = 5 ∨ x2.toInt = 6 ∨ x2.toInt = 7 ∨ x2.toInt = 8 ∨ x2.toInt = 9 ∨ x2.toInt = 10 := by omega
  rcases hc with hc | hc | hc | hc | hc | hc | hc | hc | hc | hc | hc
  · rw [hc] at ho; cases ho; exact ⟨80, by decide, k0 hc⟩
  · rw [hc] at ho; cases ho; exact ⟨90, by decide, k1 hc⟩
  · rw [hc] at ho; cases ho; exact ⟨100, by decide, k2 hc⟩
  · rw [hc] at ho; cases ho; exact ⟨112, by decide, k3 hc⟩
  · rw [hc] at ho; cases ho; exact ⟨130, by decide, k4 hc⟩
  · rw [hc] at ho; cases ho; exact ⟨143, by decide, k5 hc⟩
  · rw [hc] at ho; cases ho; exact ⟨156, by decide, k6 hc⟩
  · rw [hc] at ho; cases ho; exact ⟨169, by decide, k7 hc⟩
  · rw [hc] at ho; cases ho; exact ⟨182, by decide, k8 hc⟩
  · rw [hc] at ho; cases ho; exact ⟨195, by decide, k9 hc⟩
  · rw [hc] at ho; cases ho; exact ⟨215, by decide, k10 hc⟩
theorem b104_80 {d : Nat} {P : xPr} {Q : xQr} {r : Nat} {mem : Nat → Nat → Int32} (hP : Cl d none 104 P Q) {x1 : Int32} {v2 : Value} (hi88 : vp_in x1 8)
    (k : Q (some (.int (mem 7 x1.toNatClampNeg))) (LAY, RFu r, mem)) : P 80 [.ref 0, .int x1, v2] [] (0, 0) (LAY, RFu r, mem) := by
  refine r_aload_n hP d104_80 rfl ?_
  refine r_getr (a := 5) hP d104_81 fr_11_26 rfl ly_0 rg_0_2 ?_
  refine r_getr (a := 7) hP d104_84 fr_11_165 rfl ly_5 rg_5_3 ?_
  refine r_iload_n hP d104_87 rfl ?_
  refine r_iaload hP d104_88 ly_7 hi88 ?_
  exact r_iret hP d104_89 rfl k
theorem b104_90 {d : Nat} {P : xPr} {Q : xQr} {r : Nat} {mem : Nat → Nat → Int32} (hP : Cl d none 104 P Q) {x1 : Int32} {v2 : Value} (hi98 : vp_in x1 8)
    (k : Q (some (.int (mem 8 x1.toNatClampNeg))) (LAY, RFu r, mem)) : P 90 [.ref 0, .int x1, v2] [] (0, 0) (LAY, RFu r, mem) := by
  refine r_aload_n hP d104_90 rfl ?_
  refine r_getr (a := 5) hP d104_91 fr_11_26 rfl ly_0 rg_0_2 ?_
  refine r_getr (a := 8) hP d104_94 fr_11_168 rfl ly_5 rg_5_4 ?_
  refine r_iload_n hP d104_97 rfl ?_
  refine r_iaload hP d104_98 ly_8 hi98 ?_
  exact r_iret hP d104_99 rfl k
theorem b104_100 {d : Nat} {P : xPr} {Q : xQr} {r : Nat} {mem : Nat → Nat → Int32} (hP : Cl d none 104 P Q) {x1 : Int32} {v2 : Value} (hi110 : vp_in ((nI 0) + x1) 121)
    (k : Q (some (.int (mem 48 ((nI 0) + x1).toNatClampNeg))) (LAY, RFu r, mem)) : P 100 [.ref 0, .int x1, v2] [] (0, 0) (LAY, RFu r, mem) := by
  refine r_aload_n hP d104_100 rfl ?_
  refine r_getr (a := 47) hP d104_101 fr_11_36 rfl ly_0 rg_0_4 ?_
  refine r_getr (a := 48) hP d104_104 fr_11_171 rfl ly_47 rg_47_0 ?_
  refine r_iconst (v := nI 0) hP d104_107 rfl ?_
  refine r_iload_n hP d104_108 rfl ?_
  refine r_iadd hP d104_109 ?_
  refine r_iaload hP d104_110 ly_48 hi110 ?_
  exact r_iret hP d104_111 rfl k
theorem b104_112 {d : Nat} {P : xPr} {Q : xQr} {r : Nat} {mem : Nat → Nat → Int32} (hP : Cl d none 104 P Q) {x1 : Int32} {v2 : Value}
    (k : xCall d 61 [.ref 47, .int x1] (LAY, RFu r, mem) (Bk P 117 [.ref 0, .int x1, v2] [] (0, 0))) : P 112 [.ref 0, .int x1, v2] [] (0, 0) (LAY, RFu r, mem) := by
  refine r_aload_n hP d104_112 rfl ?_
  refine r_getr (a := 47) hP d104_113 fr_11_36 rfl ly_0 rg_0_4 ?_
  refine r_iload_n hP d104_116 rfl ?_
  exact r_callv (As := [.int x1]) (S := []) hP d104_117 cr_11_174 (by decide +kernel) rfl (by simp [Value.category]) rfl ly_47 (by simp [Value.category]) ⟨Nat.zero_le _, Nat.zero_le _⟩ k
theorem b104_120 {d : Nat} {P : xPr} {Q : xQr} {r : Nat} {mem : Nat → Nat → Int32} (hP : Cl d none 104 P Q) {v0 : Value} {v1 : Value} {v2 : Value} {y0 : Int32}
    (kt : ¬ y0 = (nI 2) → P 128 [v0, v1, v2] [] (0, 0) (LAY, RFu r, mem)) (kf : y0 = (nI 2) → P 124 [v0, v1, v2] [] (0, 0) (LAY, RFu r, mem)) : P 120 [v0, v1, v2] [.int y0] (0, 0) (LAY, RFu r, mem) := by
  refine r_iconst (v := nI 2) hP d104_120 rfl ?_
  exact r_icmp (t := 128) hP d104_121 (by decide) kt (fun q => kf (Decidable.of_not_not q))
theorem b104_124 {d : Nat} {P : xPr} {Q : xQr} {r : Nat} {mem : Nat → Nat → Int32} (hP : Cl d none 104 P Q) {v0 : Value} {v1 : Value} {v2 : Value}
    (k : P 129 [v0, v1, v2] [.int (nI 1)] (0, 0) (LAY, RFu r, mem)) : P 124 [v0, v1, v2] [] (0, 0) (LAY, RFu r, mem) := by
  refine r_iconst (v := nI 1) hP d104_124 rfl ?_
  refine r_goto (t := 129) hP d104_125 (by decide) ?_
  exact k
theorem b104_128 {d : Nat} {P : xPr} {Q : xQr} {r : Nat} {mem : Nat → Nat → Int32} (hP : Cl d none 104 P Q) {v0 : Value} {v1 : Value} {v2 : Value}
    (k : P 129 [v0, v1, v2] [.int (nI 0)] (0, 0) (LAY, RFu r, mem)) : P 128 [v0, v1, v2] [] (0, 0) (LAY, RFu r, mem) := by
  refine r_iconst (v := nI 0) hP d104_128 rfl ?_
  exact k
theorem b104_129 {d : Nat} {P : xPr} {Q : xQr} {r : Nat} {mem : Nat → Nat → Int32} (hP : Cl d none 104 P Q) {v0 : Value} {v1 : Value} {v2 : Value} {y0 : Int32}
    (k : Q (some (.int y0)) (LAY, RFu r, mem)) : P 129 [v0, v1, v2] [.int y0] (0, 0) (LAY, RFu r, mem) := by
  exact r_iret hP d104_129 rfl k
theorem b104_130 {d : Nat} {P : xPr} {Q : xQr} {r : Nat} {mem : Nat → Nat → Int32} (hP : Cl d none 104 P Q) {x1 : Int32} {v2 : Value} (hi141 : vp_in ((nI 16) + x1) 121)
    (k : Q (some (.int (mem 48 ((nI 16) + x1).toNatClampNeg))) (LAY, RFu r, mem)) : P 130 [.ref 0, .int x1, v2] [] (0, 0) (LAY, RFu r, mem) := by
  refine r_aload_n hP d104_130 rfl ?_
  refine r_getr (a := 47) hP d104_131 fr_11_36 rfl ly_0 rg_0_4 ?_
  refine r_getr (a := 48) hP d104_134 fr_11_171 rfl ly_47 rg_47_0 ?_
  refine r_bipush (v := nI 16) hP d104_137 rfl ?_
  refine r_iload_n hP d104_139 rfl ?_
  refine r_iadd hP d104_140 ?_
  refine r_iaload hP d104_141 ly_48 hi141 ?_
  exact r_iret hP d104_142 rfl k
theorem b104_143 {d : Nat} {P : xPr} {Q : xQr} {r : Nat} {mem : Nat → Nat → Int32} (hP : Cl d none 104 P Q) {x1 : Int32} {v2 : Value} (hi154 : vp_in ((nI 24) + x1) 121)
    (k : Q (some (.int (mem 48 ((nI 24) + x1).toNatClampNeg))) (LAY, RFu r, mem)) : P 143 [.ref 0, .int x1, v2] [] (0, 0) (LAY, RFu r, mem) := by
  refine r_aload_n hP d104_143 rfl ?_
  refine r_getr (a := 47) hP d104_144 fr_11_36 rfl ly_0 rg_0_4 ?_
  refine r_getr (a := 48) hP d104_147 fr_11_171 rfl ly_47 rg_47_0 ?_
  refine r_bipush (v := nI 24) hP d104_150 rfl ?_
  refine r_iload_n hP d104_152 rfl ?_
  refine r_iadd hP d104_153 ?_
  refine r_iaload hP d104_154 ly_48 hi154 ?_
  exact r_iret hP d104_155 rfl k
theorem b104_156 {d : Nat} {P : xPr} {Q : xQr} {r : Nat} {mem : Nat → Nat → Int32} (hP : Cl d none 104 P Q) {x1 : Int32} {v2 : Value} (hi167 : vp_in ((nI 32) + x1) 121)
    (k : Q (some (.int (mem 48 ((nI 32) + x1).toNatClampNeg))) (LAY, RFu r, mem)) : P 156 [.ref 0, .int x1, v2] [] (0, 0) (LAY, RFu r, mem) := by
  refine r_aload_n hP d104_156 rfl ?_
  refine r_getr (a := 47) hP d104_157 fr_11_36 rfl ly_0 rg_0_4 ?_
  refine r_getr (a := 48) hP d104_160 fr_11_171 rfl ly_47 rg_47_0 ?_
  refine r_bipush (v := nI 32) hP d104_163 rfl ?_
  refine r_iload_n hP d104_165 rfl ?_
  refine r_iadd hP d104_166 ?_
  refine r_iaload hP d104_167 ly_48 hi167 ?_
  exact r_iret hP d104_168 rfl k
theorem b104_169 {d : Nat} {P : xPr} {Q : xQr} {r : Nat} {mem : Nat → Nat → Int32} (hP : Cl d none 104 P Q) {x1 : Int32} {v2 : Value} (hi180 : vp_in ((nI 40) + x1) 121)
    (k : Q (some (.int (mem 48 ((nI 40) + x1).toNatClampNeg))) (LAY, RFu r, mem)) : P 169 [.ref 0, .int x1, v2] [] (0, 0) (LAY, RFu r, mem) := by
  refine r_aload_n hP d104_169 rfl ?_
  refine r_getr (a := 47) hP d104_170 fr_11_36 rfl ly_0 rg_0_4 ?_
  refine r_getr (a := 48) hP d104_173 fr_11_171 rfl ly_47 rg_47_0 ?_
  refine r_bipush (v := nI 40) hP d104_176 rfl ?_
  refine r_iload_n hP d104_178 rfl ?_
  refine r_iadd hP d104_179 ?_
  refine r_iaload hP d104_180 ly_48 hi180 ?_
  exact r_iret hP d104_181 rfl k
theorem b104_182 {d : Nat} {P : xPr} {Q : xQr} {r : Nat} {mem : Nat → Nat → Int32} (hP : Cl d none 104 P Q) {x1 : Int32} {v2 : Value} (hi193 : vp_in ((nI 48) + x1) 121)
    (k : Q (some (.int (mem 48 ((nI 48) + x1).toNatClampNeg))) (LAY, RFu r, mem)) : P 182 [.ref 0, .int x1, v2] [] (0, 0) (LAY, RFu r, mem) := by
  refine r_aload_n hP d104_182 rfl ?_
  refine r_getr (a := 47) hP d104_183 fr_11_36 rfl ly_0 rg_0_4 ?_
  refine r_getr (a := 48) hP d104_186 fr_11_171 rfl ly_47 rg_47_0 ?_
  refine r_bipush (v := nI 48) hP d104_189 rfl ?_
  refine r_iload_n hP d104_191 rfl ?_
  refine r_iadd hP d104_192 ?_
  refine r_iaload hP d104_193 ly_48 hi193 ?_
  exact r_iret hP d104_194 rfl k
theorem b104_195 {d : Nat} {P : xPr} {Q : xQr} {r : Nat} {mem : Nat → Nat → Int32} (hP : Cl d none 104 P Q) {x1 : Int32} {v2 : Value}
    (k : xCall d 40 [.ref 20, .ref 5, .ref 47, .int x1] (LAY, RFu r, mem) (Bk P 211 [.ref 0, .int x1, v2] [] (0, 0))) : P 195 [.ref 0, .int x1, v2] [] (0, 0) (LAY, RFu r, mem) := by
  refine r_aload_n hP d104_195 rfl ?_
  refine r_getr (a := 5) hP d104_196 fr_11_26 rfl ly_0 rg_0_2 ?_
  refine r_getr (a := 20) hP d104_199 fr_11_134 rfl ly_5 rg_5_8 ?_
  refine r_aload_n hP d104_202 rfl ?_
  refine r_getr (a := 5) hP d104_203 fr_11_26 rfl ly_0 rg_0_2 ?_
  refine r_aload_n hP d104_206 rfl ?_
  refine r_getr (a := 47) hP d104_207 fr_11_36 rfl ly_0 rg_0_4 ?_
  refine r_iload_n hP d104_210 rfl ?_
  exact r_callv (As := [.ref 5, .ref 47, .int x1]) (S := []) hP d104_211 cr_11_178 (by decide +kernel) rfl (by simp [Value.category]) rfl ly_20 (by simp [Value.category]) ⟨Nat.zero_le _, Nat.zero_le _⟩ k
theorem b104_214 {d : Nat} {P : xPr} {Q : xQr} {r : Nat} {mem : Nat → Nat → Int32} (hP : Cl d none 104 P Q) {v0 : Value} {v1 : Value} {v2 : Value} {y0 : Int32}
    (k : Q (some (.int y0)) (LAY, RFu r, mem)) : P 214 [v0, v1, v2] [.int y0] (0, 0) (LAY, RFu r, mem) := by
  exact r_iret hP d104_214 rfl k
theorem b104_215 {d : Nat} {P : xPr} {Q : xQr} {r : Nat} {mem : Nat → Nat → Int32} (hP : Cl d none 104 P Q) {x1 : Int32} {v2 : Value}
    (k : xCall d 40 [.ref 23, .ref 5, .ref 47, .int x1] (LAY, RFu r, mem) (Bk P 231 [.ref 0, .int x1, v2] [] (0, 0))) : P 215 [.ref 0, .int x1, v2] [] (0, 0) (LAY, RFu r, mem) := by
  refine r_aload_n hP d104_215 rfl ?_
  refine r_getr (a := 5) hP d104_216 fr_11_26 rfl ly_0 rg_0_2 ?_
  refine r_getr (a := 23) hP d104_219 fr_11_142 rfl ly_5 rg_5_9 ?_
  refine r_aload_n hP d104_222 rfl ?_
  refine r_getr (a := 5) hP d104_223 fr_11_26 rfl ly_0 rg_0_2 ?_
  refine r_aload_n hP d104_226 rfl ?_
  refine r_getr (a := 47) hP d104_227 fr_11_36 rfl ly_0 rg_0_4 ?_
  refine r_iload_n hP d104_230 rfl ?_
  exact r_callv (As := [.ref 5, .ref 47, .int x1]) (S := []) hP d104_231 cr_11_178 (by decide +kernel) rfl (by simp [Value.category]) rfl ly_23 (by simp [Value.category]) ⟨Nat.zero_le _, Nat.zero_le _⟩ k
theorem b104_234 {d : Nat} {P : xPr} {Q : xQr} {r : Nat} {mem : Nat → Nat → Int32} (hP : Cl d none 104 P Q) {v0 : Value} {v1 : Value} {v2 : Value} {y0 : Int32}
    (k : Q (some (.int y0)) (LAY, RFu r, mem)) : P 234 [v0, v1, v2] [.int y0] (0, 0) (LAY, RFu r, mem) := by
  exact r_iret hP d104_234 rfl k
theorem b104_235 {d : Nat} {P : xPr} {Q : xQr} {r : Nat} {mem : Nat → Nat → Int32} (hP : Cl d none 104 P Q) {v0 : Value} {v1 : Value} {v2 : Value}
    (k : Q (some .null) (LAY, RFu r, mem)) : P 235 [v0, v1, v2] [] (0, 0) (LAY, RFu r, mem) := by
  exact r_throw hP d104_235 rfl k
theorem d105_0 : decode (xB 105) 0 = .ok (.aload_n 0, 1) := by decide +kernel
theorem d105_1 : decode (xB 105) 1 = .ok (.getfield 26, 3) := by decide +kernel
theorem d105_4 : decode (xB 105) 4 = .ok (.iload_n 1, 1) := by decide +kernel
theorem d105_5 : decode (xB 105) 5 = .ok (.invokevirtual 182, 3) := by decide +kernel
theorem d105_8 : decode (xB 105) 8 = .ok (.ifCond .eq 13, 3) := by decide +kernel
theorem d105_11 : decode (xB 105) 11 = .ok (.iload_n 2, 1) := by decide +kernel
theorem d105_12 : decode (xB 105) 12 = .ok (.iconst 0, 1) := by decide +kernel
theorem d105_13 : decode (xB 105) 13 = .ok (.bipush 8, 2) := by decide +kernel
theorem d105_15 : decode (xB 105) 15 = .ok (.invokestatic 185, 3) := by decide +kernel
theorem d105_18 : decode (xB 105) 18 = .ok (.ifCond .ne 5, 3) := by decide +kernel
theorem d105_21 : decode (xB 105) 21 = .ok (.iconst (-1), 1) := by decide +kernel
theorem d105_22 : decode (xB 105) 22 = .ok (.ireturn, 1) := by decide +kernel
theorem d105_23 : decode (xB 105) 23 = .ok (.aload_n 0, 1) := by decide +kernel
theorem d105_24 : decode (xB 105) 24 = .ok (.getfield 26, 3) := by decide +kernel
theorem d105_27 : decode (xB 105) 27 = .ok (.getfield 189, 3) := by decide +kernel
theorem d105_30 : decode (xB 105) 30 = .ok (.iload_n 1, 1) := by decide +kernel
theorem d105_31 : decode (xB 105) 31 = .ok (.iaload, 1) := by decide +kernel
theorem d105_32 : decode (xB 105) 32 = .ok (.istore_n 3, 1) := by decide +kernel
theorem d105_33 : decode (xB 105) 33 = .ok (.aload_n 0, 1) := by decide +kernel
theorem d105_34 : decode (xB 105) 34 = .ok (.getfield 26, 3) := by decide +kernel
theorem d105_37 : decode (xB 105) 37 = .ok (.getfield 189, 3) := by decide +kernel
theorem d105_40 : decode (xB 105) 40 = .ok (.iload_n 1, 1) := by decide +kernel
theorem d105_41 : decode (xB 105) 41 = .ok (.iload_n 2, 1) := by decide +kernel
theorem d105_42 : decode (xB 105) 42 = .ok (.iastore, 1) := by decide +kernel
theorem d105_43 : decode (xB 105) 43 = .ok (.iload_n 3, 1) := by decide +kernel
theorem d105_44 : decode (xB 105) 44 = .ok (.ireturn, 1) := by decide +kernel
theorem b105_0 {d : Nat} {P : xPr} {Q : xQr} {r : Nat} {mem : Nat → Nat → Int32} (hP : Cl d none 105 P Q) {p0 : Int32} {p1 : Int32}
    (k : xCall d 82 [.ref 5, .int p0] (LAY, RFu r, mem) (Bk P 5 [.ref 0, .int p0, .int p1, .null] [] (0, 0))) : P 0 [.ref 0, .int p0, .int p1, .null] [] (0, 0) (LAY, RFu r, mem) := by
  refine r_aload_n hP d105_0 rfl ?_
  refine r_getr (a := 5) hP d105_1 fr_11_26 rfl ly_0 rg_0_2 ?_
  refine r_iload_n hP d105_4 rfl ?_
  exact r_callv (As := [.int p0]) (S := []) hP d105_5 cr_11_182 (by decide +kernel) rfl (by simp [Value.category]) rfl ly_5 (by simp [Value.category]) ⟨Nat.zero_le _, Nat.zero_le _⟩ k
theorem b105_8 {d : Nat} {P : xPr} {Q : xQr} {r : Nat} {mem : Nat → Nat → Int32} (hP : Cl d none 105 P Q) {x1 : Int32} {x2 : Int32} {v3 : Value} {y0 : Int32}
    (kt : y0 = 0 → P 21 [.ref 0, .int x1, .int x2, v3] [] (0, 0) (LAY, RFu r, mem)) (kf : ¬ y0 = 0 → P 11 [.ref 0, .int x1, .int x2, v3] [] (0, 0) (LAY, RFu r, mem)) : P 8 [.ref 0, .int x1, .int x2, v3] [.int y0] (0, 0) (LAY, RFu r, mem) := by
  exact r_if (t := 21) hP d105_8 (by decide) kt kf
theorem b105_11 {d : Nat} {P : xPr} {Q : xQr} {r : Nat} {mem : Nat → Nat → Int32} (hP : Cl d none 105 P Q) {x1 : Int32} {x2 : Int32} {v3 : Value}
    (k : xCall d 151 [.int x2, .int (nI 0), .int (nI 8)] (LAY, RFu r, mem) (Bk P 15 [.ref 0, .int x1, .int x2, v3] [] (0, 0))) : P 11 [.ref 0, .int x1, .int x2, v3] [] (0, 0) (LAY, RFu r, mem) := by
  refine r_iload_n hP d105_11 rfl ?_
  refine r_iconst (v := nI 0) hP d105_12 rfl ?_
  refine r_bipush (v := nI 8) hP d105_13 rfl ?_
  exact r_calls (As := [.int x2, .int (nI 0), .int (nI 8)]) (S := []) hP d105_15 cr_11_185 (by decide +kernel) rfl (by simp [Value.category]) rfl (by simp [Value.category]) ⟨Nat.zero_le _, Nat.zero_le _⟩ k
theorem b105_18 {d : Nat} {P : xPr} {Q : xQr} {r : Nat} {mem : Nat → Nat → Int32} (hP : Cl d none 105 P Q) {x1 : Int32} {x2 : Int32} {v3 : Value} {y0 : Int32}
    (kt : ¬ y0 = 0 → P 23 [.ref 0, .int x1, .int x2, v3] [] (0, 0) (LAY, RFu r, mem)) (kf : y0 = 0 → P 21 [.ref 0, .int x1, .int x2, v3] [] (0, 0) (LAY, RFu r, mem)) : P 18 [.ref 0, .int x1, .int x2, v3] [.int y0] (0, 0) (LAY, RFu r, mem) := by
  exact r_if (t := 23) hP d105_18 (by decide) kt (fun q => kf (Decidable.of_not_not q))
theorem b105_21 {d : Nat} {P : xPr} {Q : xQr} {r : Nat} {mem : Nat → Nat → Int32} (hP : Cl d none 105 P Q) {v0 : Value} {v1 : Value} {v2 : Value} {v3 : Value}
    (k : Q (some (.int (-1))) (LAY, RFu r, mem)) : P 21 [v0, v1, v2, v3] [] (0, 0) (LAY, RFu r, mem) := by
  refine r_iconst (v := (-1)) hP d105_21 rfl ?_
  exact r_iret hP d105_22 rfl k
theorem b105_23 {d : Nat} {P : xPr} {Q : xQr} {r : Nat} {mem : Nat → Nat → Int32} (hP : Cl d none 105 P Q) {x1 : Int32} {x2 : Int32} {v3 : Value} (hi31 : vp_in x1 4) (hi42 : vp_in x1 4)
    (k : Q (some (.int (mem 6 x1.toNatClampNeg))) (LAY, RFu r, xu2 mem 6 x1.toNatClampNeg x2)) : P 23 [.ref 0, .int x1, .int x2, v3] [] (0, 0) (LAY, RFu r, mem) := by
  refine r_aload_n hP d105_23 rfl ?_
  refine r_getr (a := 5) hP d105_24 fr_11_26 rfl ly_0 rg_0_2 ?_
  refine r_getr (a := 6) hP d105_27 fr_11_189 rfl ly_5 rg_5_2 ?_
  refine r_iload_n hP d105_30 rfl ?_
  refine r_iaload hP d105_31 ly_6 hi31 ?_
  refine r_istore_n (L' := [.ref 0, .int x1, .int x2, .int (mem 6 x1.toNatClampNeg)]) hP d105_32 (Nat.le_of_ble_eq_true rfl) rfl ?_
  refine r_aload_n hP d105_33 rfl ?_
  refine r_getr (a := 5) hP d105_34 fr_11_26 rfl ly_0 rg_0_2 ?_
  refine r_getr (a := 6) hP d105_37 fr_11_189 rfl ly_5 rg_5_2 ?_
  refine r_iload_n hP d105_40 rfl ?_
  refine r_iload_n hP d105_41 rfl ?_
  refine r_iastore hP d105_42 ly_6 hi42 ?_
  refine r_iload_n hP d105_43 rfl ?_
  exact r_iret hP d105_44 rfl k
theorem d106_0 : decode (xB 106) 0 = .ok (.aload_n 0, 1) := by decide +kernel
theorem d106_1 : decode (xB 106) 1 = .ok (.getfield 26, 3) := by decide +kernel
theorem d106_4 : decode (xB 106) 4 = .ok (.iload_n 1, 1) := by decide +kernel
theorem d106_5 : decode (xB 106) 5 = .ok (.invokevirtual 127, 3) := by decide +kernel
theorem d106_8 : decode (xB 106) 8 = .ok (.ifCond .ne 5, 3) := by decide +kernel
theorem d106_11 : decode (xB 106) 11 = .ok (.iconst 0, 1) := by decide +kernel
theorem d106_12 : decode (xB 106) 12 = .ok (.ireturn, 1) := by decide +kernel
theorem d106_13 : decode (xB 106) 13 = .ok (.aload_n 0, 1) := by decide +kernel
theorem d106_14 : decode (xB 106) 14 = .ok (.getfield 26, 3) := by decide +kernel
theorem d106_17 : decode (xB 106) 17 = .ok (.getfield 168, 3) := by decide +kernel
theorem d106_20 : decode (xB 106) 20 = .ok (.iload_n 1, 1) := by decide +kernel
theorem d106_21 : decode (xB 106) 21 = .ok (.iload_n 2, 1) := by decide +kernel
theorem d106_22 : decode (xB 106) 22 = .ok (.ifCond .eq 7, 3) := by decide +kernel
theorem d106_25 : decode (xB 106) 25 = .ok (.iconst 1, 1) := by decide +kernel
theorem d106_26 : decode (xB 106) 26 = .ok (.goto 4, 3) := by decide +kernel
theorem d106_29 : decode (xB 106) 29 = .ok (.iconst 0, 1) := by decide +kernel
theorem d106_30 : decode (xB 106) 30 = .ok (.iastore, 1) := by decide +kernel
theorem d106_31 : decode (xB 106) 31 = .ok (.iconst 1, 1) := by decide +kernel
theorem d106_32 : decode (xB 106) 32 = .ok (.ireturn, 1) := by decide +kernel
theorem b106_0 {d : Nat} {P : xPr} {Q : xQr} {r : Nat} {mem : Nat → Nat → Int32} (hP : Cl d none 106 P Q) {p0 : Int32} {p1 : Int32}
    (k : xCall d 83 [.ref 5, .int p0] (LAY, RFu r, mem) (Bk P 5 [.ref 0, .int p0, .int p1] [] (0, 0))) : P 0 [.ref 0, .int p0, .int p1] [] (0, 0) (LAY, RFu r, mem) := by
  refine r_aload_n hP d106_0 rfl ?_
  refine r_getr (a := 5) hP d106_1 fr_11_26 rfl ly_0 rg_0_2 ?_
  refine r_iload_n hP d106_4 rfl ?_
  exact r_callv (As := [.int p0]) (S := []) hP d106_5 cr_11_127 (by decide +kernel) rfl (by simp [Value.category]) rfl ly_5 (by simp [Value.category]) ⟨Nat.zero_le _, Nat.zero_le _⟩ k
theorem b106_8 {d : Nat} {P : xPr} {Q : xQr} {r : Nat} {mem : Nat → Nat → Int32} (hP : Cl d none 106 P Q) {x1 : Int32} {x2 : Int32} {y0 : Int32}
    (kt : ¬ y0 = 0 → P 13 [.ref 0, .int x1, .int x2] [] (0, 0) (LAY, RFu r, mem)) (kf : y0 = 0 → P 11 [.ref 0, .int x1, .int x2] [] (0, 0) (LAY, RFu r, mem)) : P 8 [.ref 0, .int x1, .int x2] [.int y0] (0, 0) (LAY, RFu r, mem) := by
  exact r_if (t := 13) hP d106_8 (by decide) kt (fun q => kf (Decidable.of_not_not q))
theorem b106_11 {d : Nat} {P : xPr} {Q : xQr} {r : Nat} {mem : Nat → Nat → Int32} (hP : Cl d none 106 P Q) {v0 : Value} {v1 : Value} {v2 : Value} (hzr : nI 0 = 0 ∨ nI 0 = 1)
    (k : Q (some (.int (nI 0))) (LAY, RFu r, mem)) : P 11 [v0, v1, v2] [] (0, 0) (LAY, RFu r, mem) := by
  refine r_iconst (v := nI 0) hP d106_11 rfl ?_
  exact r_zret hP d106_12 rfl hzr k
theorem b106_13 {d : Nat} {P : xPr} {Q : xQr} {r : Nat} {mem : Nat → Nat → Int32} (hP : Cl d none 106 P Q) {x1 : Int32} {x2 : Int32}
    (kt : x2 = 0 → P 29 [.ref 0, .int x1, .int x2] [.int x1, .ref 8] (0, 0) (LAY, RFu r, mem)) (kf : ¬ x2 = 0 → P 25 [.ref 0, .int x1, .int x2] [.int x1, .ref 8] (0, 0) (LAY, RFu r, mem)) : P 13 [.ref 0, .int x1, .int x2] [] (0, 0) (LAY, RFu r, mem) := by
  refine r_aload_n hP d106_13 rfl ?_
  refine r_getr (a := 5) hP d106_14 fr_11_26 rfl ly_0 rg_0_2 ?_
  refine r_getr (a := 8) hP d106_17 fr_11_168 rfl ly_5 rg_5_4 ?_
  refine r_iload_n hP d106_20 rfl ?_
  refine r_iload_n hP d106_21 rfl ?_
  exact r_if (t := 29) hP d106_22 (by decide) kt kf
theorem b106_25 {d : Nat} {P : xPr} {Q : xQr} {r : Nat} {mem : Nat → Nat → Int32} (hP : Cl d none 106 P Q) {v0 : Value} {v1 : Value} {v2 : Value} {y1 : Int32}
    (k : P 30 [v0, v1, v2] [.int (nI 1), .int y1, .ref 8] (0, 0) (LAY, RFu r, mem)) : P 25 [v0, v1, v2] [.int y1, .ref 8] (0, 0) (LAY, RFu r, mem) := by
  refine r_iconst (v := nI 1) hP d106_25 rfl ?_
  refine r_goto (t := 30) hP d106_26 (by decide) ?_
  exact k
theorem b106_29 {d : Nat} {P : xPr} {Q : xQr} {r : Nat} {mem : Nat → Nat → Int32} (hP : Cl d none 106 P Q) {v0 : Value} {v1 : Value} {v2 : Value} {y1 : Int32}
    (k : P 30 [v0, v1, v2] [.int (nI 0), .int y1, .ref 8] (0, 0) (LAY, RFu r, mem)) : P 29 [v0, v1, v2] [.int y1, .ref 8] (0, 0) (LAY, RFu r, mem) := by
  refine r_iconst (v := nI 0) hP d106_29 rfl ?_
  exact k
theorem b106_30 {d : Nat} {P : xPr} {Q : xQr} {r : Nat} {mem : Nat → Nat → Int32} (hP : Cl d none 106 P Q) {v0 : Value} {v1 : Value} {v2 : Value} {y1 : Int32} {y2 : Int32} (hi30 : vp_in y1 8) (hzr : nI 1 = 0 ∨ nI 1 = 1)
    (k : Q (some (.int (nI 1))) (LAY, RFu r, xu2 mem 8 y1.toNatClampNeg y2)) : P 30 [v0, v1, v2] [.int y2, .int y1, .ref 8] (0, 0) (LAY, RFu r, mem) := by
  refine r_iastore hP d106_30 ly_8 hi30 ?_
  refine r_iconst (v := nI 1) hP d106_31 rfl ?_
  exact r_zret hP d106_32 rfl hzr k
theorem d107_0 : decode (xB 107) 0 = .ok (.iload_n 1, 1) := by decide +kernel
theorem d107_1 : decode (xB 107) 1 = .ok (.iconst 0, 1) := by decide +kernel
theorem d107_2 : decode (xB 107) 2 = .ok (.iconst 3, 1) := by decide +kernel
theorem d107_3 : decode (xB 107) 3 = .ok (.invokestatic 185, 3) := by decide +kernel
theorem d107_6 : decode (xB 107) 6 = .ok (.ifCond .eq 9, 3) := by decide +kernel
theorem d107_9 : decode (xB 107) 9 = .ok (.iload_n 2, 1) := by decide +kernel
theorem d107_10 : decode (xB 107) 10 = .ok (.bipush 8, 2) := by decide +kernel
theorem d107_12 : decode (xB 107) 12 = .ok (.if_icmp .le 5, 3) := by decide +kernel
theorem d107_15 : decode (xB 107) 15 = .ok (.iconst (-1), 1) := by decide +kernel
theorem d107_16 : decode (xB 107) 16 = .ok (.ireturn, 1) := by decide +kernel
theorem d107_17 : decode (xB 107) 17 = .ok (.iload_n 1, 1) := by decide +kernel
theorem d107_18 : decode (xB 107) 18 = .ok (.iconst 3, 1) := by decide +kernel
theorem d107_19 : decode (xB 107) 19 = .ok (.if_icmp .eq 10, 3) := by decide +kernel
theorem d107_22 : decode (xB 107) 22 = .ok (.iload_n 2, 1) := by decide +kernel
theorem d107_23 : decode (xB 107) 23 = .ok (.ifCond .ge 6, 3) := by decide +kernel
theorem d107_26 : decode (xB 107) 26 = .ok (.bipush (-2), 2) := by decide +kernel
theorem d107_28 : decode (xB 107) 28 = .ok (.ireturn, 1) := by decide +kernel
theorem d107_29 : decode (xB 107) 29 = .ok (.iload_n 1, 1) := by decide +kernel
theorem d107_30 : decode (xB 107) 30 = .ok (.iconst 3, 1) := by decide +kernel
theorem d107_31 : decode (xB 107) 31 = .ok (.if_icmp .ne 7, 3) := by decide +kernel
theorem d107_34 : decode (xB 107) 34 = .ok (.iconst 0, 1) := by decide +kernel
theorem d107_35 : decode (xB 107) 35 = .ok (.goto 4, 3) := by decide +kernel
theorem d107_38 : decode (xB 107) 38 = .ok (.iload_n 2, 1) := by decide +kernel
theorem d107_39 : decode (xB 107) 39 = .ok (.istore 5, 2) := by decide +kernel
theorem d107_41 : decode (xB 107) 41 = .ok (.iconst 0, 1) := by decide +kernel
theorem d107_42 : decode (xB 107) 42 = .ok (.istore 6, 2) := by decide +kernel
theorem d107_44 : decode (xB 107) 44 = .ok (.iconst 0, 1) := by decide +kernel
theorem d107_45 : decode (xB 107) 45 = .ok (.istore 7, 2) := by decide +kernel
theorem d107_47 : decode (xB 107) 47 = .ok (.iload 7, 2) := by decide +kernel
theorem d107_49 : decode (xB 107) 49 = .ok (.aload_n 0, 1) := by decide +kernel
theorem d107_50 : decode (xB 107) 50 = .ok (.getfield 26, 3) := by decide +kernel
theorem d107_53 : decode (xB 107) 53 = .ok (.getfield 192, 3) := by decide +kernel
theorem d107_56 : decode (xB 107) 56 = .ok (.if_icmp .ge 56, 3) := by decide +kernel
theorem d107_59 : decode (xB 107) 59 = .ok (.aload_n 0, 1) := by decide +kernel
theorem d107_60 : decode (xB 107) 60 = .ok (.getfield 26, 3) := by decide +kernel
theorem d107_63 : decode (xB 107) 63 = .ok (.getfield 165, 3) := by decide +kernel
theorem d107_66 : decode (xB 107) 66 = .ok (.iload 7, 2) := by decide +kernel
theorem d107_68 : decode (xB 107) 68 = .ok (.iload 7, 2) := by decide +kernel
theorem d107_70 : decode (xB 107) 70 = .ok (.iload 5, 2) := by decide +kernel
theorem d107_72 : decode (xB 107) 72 = .ok (.if_icmp .ge 17, 3) := by decide +kernel
theorem d107_75 : decode (xB 107) 75 = .ok (.iload_n 1, 1) := by decide +kernel
theorem d107_76 : decode (xB 107) 76 = .ok (.iload_n 3, 1) := by decide +kernel
theorem d107_77 : decode (xB 107) 77 = .ok (.iload 7, 2) := by decide +kernel
theorem d107_79 : decode (xB 107) 79 = .ok (.iload 4, 2) := by decide +kernel
theorem d107_81 : decode (xB 107) 81 = .ok (.imul, 1) := by decide +kernel
theorem d107_82 : decode (xB 107) 82 = .ok (.iadd, 1) := by decide +kernel
theorem d107_83 : decode (xB 107) 83 = .ok (.invokestatic 195, 3) := by decide +kernel
theorem d107_86 : decode (xB 107) 86 = .ok (.goto 4, 3) := by decide +kernel
theorem d107_89 : decode (xB 107) 89 = .ok (.iconst 0, 1) := by decide +kernel
theorem d107_90 : decode (xB 107) 90 = .ok (.iastore, 1) := by decide +kernel
theorem d107_91 : decode (xB 107) 91 = .ok (.iload 6, 2) := by decide +kernel
theorem d107_93 : decode (xB 107) 93 = .ok (.aload_n 0, 1) := by decide +kernel
theorem d107_94 : decode (xB 107) 94 = .ok (.getfield 26, 3) := by decide +kernel
theorem d107_97 : decode (xB 107) 97 = .ok (.getfield 165, 3) := by decide +kernel
theorem d107_100 : decode (xB 107) 100 = .ok (.iload 7, 2) := by decide +kernel
theorem d107_102 : decode (xB 107) 102 = .ok (.iaload, 1) := by decide +kernel
theorem d107_103 : decode (xB 107) 103 = .ok (.iadd, 1) := by decide +kernel
theorem d107_104 : decode (xB 107) 104 = .ok (.istore 6, 2) := by decide +kernel
theorem d107_106 : decode (xB 107) 106 = .ok (.iinc 7 1, 3) := by decide +kernel
theorem d107_109 : decode (xB 107) 109 = .ok (.goto (-62), 3) := by decide +kernel
theorem d107_112 : decode (xB 107) 112 = .ok (.iload_n 1, 1) := by decide +kernel
theorem d107_113 : decode (xB 107) 113 = .ok (.iconst 3, 1) := by decide +kernel
theorem d107_114 : decode (xB 107) 114 = .ok (.if_icmp .ne 8, 3) := by decide +kernel
theorem d107_117 : decode (xB 107) 117 = .ok (.bipush (-3), 2) := by decide +kernel
theorem d107_119 : decode (xB 107) 119 = .ok (.goto 5, 3) := by decide +kernel
theorem d107_122 : decode (xB 107) 122 = .ok (.iload 6, 2) := by decide +kernel
theorem d107_124 : decode (xB 107) 124 = .ok (.ireturn, 1) := by decide +kernel
theorem b107_0 {d : Nat} {P : xPr} {Q : xQr} {r : Nat} {mem : Nat → Nat → Int32} (hP : Cl d none 107 P Q) {p0 : Int32} {p1 : Int32} {p2 : Int32} {p3 : Int32}
    (k : xCall d 151 [.int p0, .int (nI 0), .int (nI 3)] (LAY, RFu r, mem) (Bk P 3 [.ref 0, .int p0, .int p1, .int p2, .int p3, .null, .null, .null] [] (0, 0))) : P 0 [.ref 0, .int p0, .int p1, .int p2, .int p3, .null, .null, .null] [] (0, 0) (LAY, RFu r, mem) := by
  refine r_iload_n hP d107_0 rfl ?_
  refine r_iconst (v := nI 0) hP d107_1 rfl ?_
  refine r_iconst (v := nI 3) hP d107_2 rfl ?_
  exact r_calls (As := [.int p0, .int (nI 0), .int (nI 3)]) (S := []) hP d107_3 cr_11_185 (by decide +kernel) rfl (by simp [Value.category]) rfl (by simp [Value.category]) ⟨Nat.zero_le _, Nat.zero_le _⟩ k
theorem b107_6 {d : Nat} {P : xPr} {Q : xQr} {r : Nat} {mem : Nat → Nat → Int32} (hP : Cl d none 107 P Q) {x1 : Int32} {x2 : Int32} {x3 : Int32} {x4 : Int32} {v5 : Value} {v6 : Value} {v7 : Value} {y0 : Int32}
    (kt : y0 = 0 → P 15 [.ref 0, .int x1, .int x2, .int x3, .int x4, v5, v6, v7] [] (0, 0) (LAY, RFu r, mem)) (kf : ¬ y0 = 0 → P 9 [.ref 0, .int x1, .int x2, .int x3, .int x4, v5, v6, v7] [] (0, 0) (LAY, RFu r, mem)) : P 6 [.ref 0, .int x1, .int x2, .int x3, .int x4, v5, v6, v7] [.int y0] (0, 0) (LAY, RFu r, mem) := by
  exact r_if (t := 15) hP d107_6 (by decide) kt kf
theorem b107_9 {d : Nat} {P : xPr} {Q : xQr} {r : Nat} {mem : Nat → Nat → Int32} (hP : Cl d none 107 P Q) {x1 : Int32} {x2 : Int32} {x3 : Int32} {x4 : Int32} {v5 : Value} {v6 : Value} {v7 : Value}
    (kt : x2 ≤ (nI 8) → P 17 [.ref 0, .int x1, .int x2, .int x3, .int x4, v5, v6, v7] [] (0, 0) (LAY, RFu r, mem)) (kf : ¬ x2 ≤ (nI 8) → P 15 [.ref 0, .int x1, .int x2, .int x3, .int x4, v5, v6, v7] [] (0, 0) (LAY, RFu r, mem)) : P 9 [.ref 0, .int x1, .int x2, .int x3, .int x4, v5, v6, v7] [] (0, 0) (LAY, RFu r, mem) := by
  refine r_iload_n hP d107_9 rfl ?_
  refine r_bipush (v := nI 8) hP d107_10 rfl ?_
  exact r_icmp (t := 17) hP d107_12 (by decide) kt kf
theorem b107_15 {d : Nat} {P : xPr} {Q : xQr} {r : Nat} {mem : Nat → Nat → Int32} (hP : Cl d none 107 P Q) {v0 : Value} {v1 : Value} {v2 : Value} {v3 : Value} {v4 : Value} {v5 : Value} {v6 : Value} {v7 : Value}
    (k : Q (some (.int (-1))) (LAY, RFu r, mem)) : P 15 [v0, v1, v2, v3, v4, v5, v6, v7] [] (0, 0) (LAY, RFu r, mem) := by
  refine r_iconst (v := (-1)) hP d107_15 rfl ?_
  exact r_iret hP d107_16 rfl k
theorem b107_17 {d : Nat} {P : xPr} {Q : xQr} {r : Nat} {mem : Nat → Nat → Int32} (hP : Cl d none 107 P Q) {x1 : Int32} {x2 : Int32} {x3 : Int32} {x4 : Int32} {v5 : Value} {v6 : Value} {v7 : Value}
    (kt : x1 = (nI 3) → P 29 [.ref 0, .int x1, .int x2, .int x3, .int x4, v5, v6, v7] [] (0, 0) (LAY, RFu r, mem)) (kf : ¬ x1 = (nI 3) → P 22 [.ref 0, .int x1, .int x2, .int x3, .int x4, v5, v6, v7] [] (0, 0) (LAY, RFu r, mem)) : P 17 [.ref 0, .int x1, .int x2, .int x3, .int x4, v5, v6, v7] [] (0, 0) (LAY, RFu r, mem) := by
  refine r_iload_n hP d107_17 rfl ?_
  refine r_iconst (v := nI 3) hP d107_18 rfl ?_
  exact r_icmp (t := 29) hP d107_19 (by decide) kt kf
theorem b107_22 {d : Nat} {P : xPr} {Q : xQr} {r : Nat} {mem : Nat → Nat → Int32} (hP : Cl d none 107 P Q) {x1 : Int32} {x2 : Int32} {x3 : Int32} {x4 : Int32} {v5 : Value} {v6 : Value} {v7 : Value}
    (kt : 0 ≤ x2 → P 29 [.ref 0, .int x1, .int x2, .int x3, .int x4, v5, v6, v7] [] (0, 0) (LAY, RFu r, mem)) (kf : ¬ 0 ≤ x2 → P 26 [.ref 0, .int x1, .int x2, .int x3, .int x4, v5, v6, v7] [] (0, 0) (LAY, RFu r, mem)) : P 22 [.ref 0, .int x1, .int x2, .int x3, .int x4, v5, v6, v7] [] (0, 0) (LAY, RFu r, mem) := by
  refine r_iload_n hP d107_22 rfl ?_
  exact r_if (t := 29) hP d107_23 (by decide) kt kf
theorem b107_26 {d : Nat} {P : xPr} {Q : xQr} {r : Nat} {mem : Nat → Nat → Int32} (hP : Cl d none 107 P Q) {v0 : Value} {v1 : Value} {v2 : Value} {v3 : Value} {v4 : Value} {v5 : Value} {v6 : Value} {v7 : Value}
    (k : Q (some (.int (-2))) (LAY, RFu r, mem)) : P 26 [v0, v1, v2, v3, v4, v5, v6, v7] [] (0, 0) (LAY, RFu r, mem) := by
  refine r_bipush (v := (-2)) hP d107_26 rfl ?_
  exact r_iret hP d107_28 rfl k
theorem b107_29 {d : Nat} {P : xPr} {Q : xQr} {r : Nat} {mem : Nat → Nat → Int32} (hP : Cl d none 107 P Q) {x1 : Int32} {x2 : Int32} {x3 : Int32} {x4 : Int32} {v5 : Value} {v6 : Value} {v7 : Value}
    (kt : ¬ x1 = (nI 3) → P 38 [.ref 0, .int x1, .int x2, .int x3, .int x4, v5, v6, v7] [] (0, 0) (LAY, RFu r, mem)) (kf : x1 = (nI 3) → P 34 [.ref 0, .int x1, .int x2, .int x3, .int x4, v5, v6, v7] [] (0, 0) (LAY, RFu r, mem)) : P 29 [.ref 0, .int x1, .int x2, .int x3, .int x4, v5, v6, v7] [] (0, 0) (LAY, RFu r, mem) := by
  refine r_iload_n hP d107_29 rfl ?_
  refine r_iconst (v := nI 3) hP d107_30 rfl ?_
  exact r_icmp (t := 38) hP d107_31 (by decide) kt (fun q => kf (Decidable.of_not_not q))
theorem b107_34 {d : Nat} {P : xPr} {Q : xQr} {r : Nat} {mem : Nat → Nat → Int32} (hP : Cl d none 107 P Q) {x1 : Int32} {v2 : Value} {x3 : Int32} {x4 : Int32} {v5 : Value} {v6 : Value} {v7 : Value}
    (k : P 39 [.ref 0, .int x1, v2, .int x3, .int x4, v5, v6, v7] [.int (nI 0)] (0, 0) (LAY, RFu r, mem)) : P 34 [.ref 0, .int x1, v2, .int x3, .int x4, v5, v6, v7] [] (0, 0) (LAY, RFu r, mem) := by
  refine r_iconst (v := nI 0) hP d107_34 rfl ?_
  refine r_goto (t := 39) hP d107_35 (by decide) ?_
  exact k
theorem b107_38 {d : Nat} {P : xPr} {Q : xQr} {r : Nat} {mem : Nat → Nat → Int32} (hP : Cl d none 107 P Q) {x1 : Int32} {x2 : Int32} {x3 : Int32} {x4 : Int32} {v5 : Value} {v6 : Value} {v7 : Value}
    (k : P 39 [.ref 0, .int x1, .int x2, .int x3, .int x4, v5, v6, v7] [.int x2] (0, 0) (LAY, RFu r, mem)) : P 38 [.ref 0, .int x1, .int x2, .int x3, .int x4, v5, v6, v7] [] (0, 0) (LAY, RFu r, mem) := by
  refine r_iload_n hP d107_38 rfl ?_
  exact k
theorem b107_39 {d : Nat} {P : xPr} {Q : xQr} {r : Nat} {mem : Nat → Nat → Int32} (hP : Cl d none 107 P Q) {x1 : Int32} {v2 : Value} {x3 : Int32} {x4 : Int32} {v5 : Value} {v6 : Value} {v7 : Value} {y0 : Int32}
    (k : P 47 [.ref 0, .int x1, v2, .int x3, .int x4, .int y0, .int (nI 0), .int (nI 0)] [] (0, 0) (LAY, RFu r, mem)) : P 39 [.ref 0, .int x1, v2, .int x3, .int x4, v5, v6, v7] [.int y0] (0, 0) (LAY, RFu r, mem) := by
  refine r_istore (L' := [.ref 0, .int x1, v2, .int x3, .int x4, .int y0, v6, v7]) hP d107_39 (Nat.le_of_ble_eq_true rfl) rfl ?_
  refine r_iconst (v := nI 0) hP d107_41 rfl ?_
  refine r_istore (L' := [.ref 0, .int x1, v2, .int x3, .int x4, .int y0, .int (nI 0), v7]) hP d107_42 (Nat.le_of_ble_eq_true rfl) rfl ?_
  refine r_iconst (v := nI 0) hP d107_44 rfl ?_
  refine r_istore (L' := [.ref 0, .int x1, v2, .int x3, .int x4, .int y0, .int (nI 0), .int (nI 0)]) hP d107_45 (Nat.le_of_ble_eq_true rfl) rfl ?_
  exact k
theorem b107_47 {d : Nat} {P : xPr} {Q : xQr} {r : Nat} {mem : Nat → Nat → Int32} (hP : Cl d none 107 P Q) {x1 : Int32} {v2 : Value} {x3 : Int32} {x4 : Int32} {x5 : Int32} {x6 : Int32} {x7 : Int32}
    (kt : (mem 5 1) ≤ x7 → P 112 [.ref 0, .int x1, v2, .int x3, .int x4, .int x5, .int x6, .int x7] [] (0, 0) (LAY, RFu r, mem)) (kf : ¬ (mem 5 1) ≤ x7 → P 59 [.ref 0, .int x1, v2, .int x3, .int x4, .int x5, .int x6, .int x7] [] (0, 0) (LAY, RFu r, mem)) : P 47 [.ref 0, .int x1, v2, .int x3, .int x4, .int x5, .int x6, .int x7] [] (0, 0) (LAY, RFu r, mem) := by
  refine r_iload hP d107_47 rfl ?_
  refine r_aload_n hP d107_49 rfl ?_
  refine r_getr (a := 5) hP d107_50 fr_11_26 rfl ly_0 rg_0_2 ?_
  refine r_geti hP d107_53 fr_11_192 rfl ly_5 ?_
  exact r_icmp (t := 112) hP d107_56 (by decide) kt kf
theorem b107_59 {d : Nat} {P : xPr} {Q : xQr} {r : Nat} {mem : Nat → Nat → Int32} (hP : Cl d none 107 P Q) {x1 : Int32} {v2 : Value} {x3 : Int32} {x4 : Int32} {x5 : Int32} {x6 : Int32} {x7 : Int32}
    (kt : x5 ≤ x7 → P 89 [.ref 0, .int x1, v2, .int x3, .int x4, .int x5, .int x6, .int x7] [.int x7, .ref 7] (0, 0) (LAY, RFu r, mem)) (kf : ¬ x5 ≤ x7 → P 75 [.ref 0, .int x1, v2, .int x3, .int x4, .int x5, .int x6, .int x7] [.int x7, .ref 7] (0, 0) (LAY, RFu r, mem)) : P 59 [.ref 0, .int x1, v2, .int x3, .int x4, .int x5, .int x6, .int x7] [] (0, 0) (LAY, RFu r, mem) := by
  refine r_aload_n hP d107_59 rfl ?_
  refine r_getr (a := 5) hP d107_60 fr_11_26 rfl ly_0 rg_0_2 ?_
  refine r_getr (a := 7) hP d107_63 fr_11_165 rfl ly_5 rg_5_3 ?_
  refine r_iload hP d107_66 rfl ?_
  refine r_iload hP d107_68 rfl ?_
  refine r_iload hP d107_70 rfl ?_
  exact r_icmp (t := 89) hP d107_72 (by decide) kt kf
theorem b107_75 {d : Nat} {P : xPr} {Q : xQr} {r : Nat} {mem : Nat → Nat → Int32} (hP : Cl d none 107 P Q) {x1 : Int32} {v2 : Value} {x3 : Int32} {x4 : Int32} {x5 : Int32} {x6 : Int32} {x7 : Int32} {y1 : Int32}
    (k : xCall d 108 [.int x1, .int (x3 + (x7 * x4))] (LAY, RFu r, mem) (Bk P 83 [.ref 0, .int x1, v2, .int x3, .int x4, .int x5, .int x6, .int x7] [.int y1, .ref 7] (0, 0))) : P 75 [.ref 0, .int x1, v2, .int x3, .int x4, .int x5, .int x6, .int x7] [.int y1, .ref 7] (0, 0) (LAY, RFu r, mem) := by
  refine r_iload_n hP d107_75 rfl ?_
  refine r_iload_n hP d107_76 rfl ?_
  refine r_iload hP d107_77 rfl ?_
  refine r_iload hP d107_79 rfl ?_
  refine r_imul hP d107_81 ?_
  refine r_iadd hP d107_82 ?_
  exact r_calls (As := [.int x1, .int (x3 + (x7 * x4))]) (S := [.int y1, .ref 7]) hP d107_83 cr_11_195 (by decide +kernel) rfl (by simp [Value.category]) rfl (by simp [Value.category]) ⟨Nat.zero_le _, Nat.zero_le _⟩ k
theorem b107_86 {d : Nat} {P : xPr} {Q : xQr} {r : Nat} {mem : Nat → Nat → Int32} (hP : Cl d none 107 P Q) {x1 : Int32} {v2 : Value} {x3 : Int32} {x4 : Int32} {x5 : Int32} {x6 : Int32} {x7 : Int32} {y1 : Int32} {y2 : Int32}
    (k : P 90 [.ref 0, .int x1, v2, .int x3, .int x4, .int x5, .int x6, .int x7] [.int y2, .int y1, .ref 7] (0, 0) (LAY, RFu r, mem)) : P 86 [.ref 0, .int x1, v2, .int x3, .int x4, .int x5, .int x6, .int x7] [.int y2, .int y1, .ref 7] (0, 0) (LAY, RFu r, mem) := by
  refine r_goto (t := 90) hP d107_86 (by decide) ?_
  exact k
theorem b107_89 {d : Nat} {P : xPr} {Q : xQr} {r : Nat} {mem : Nat → Nat → Int32} (hP : Cl d none 107 P Q) {x1 : Int32} {v2 : Value} {x3 : Int32} {x4 : Int32} {x5 : Int32} {x6 : Int32} {x7 : Int32} {y1 : Int32}
    (k : P 90 [.ref 0, .int x1, v2, .int x3, .int x4, .int x5, .int x6, .int x7] [.int (nI 0), .int y1, .ref 7] (0, 0) (LAY, RFu r, mem)) : P 89 [.ref 0, .int x1, v2, .int x3, .int x4, .int x5, .int x6, .int x7] [.int y1, .ref 7] (0, 0) (LAY, RFu r, mem) := by
  refine r_iconst (v := nI 0) hP d107_89 rfl ?_
  exact k
theorem b107_90 {d : Nat} {P : xPr} {Q : xQr} {r : Nat} {mem : Nat → Nat → Int32} (hP : Cl d none 107 P Q) {x1 : Int32} {v2 : Value} {x3 : Int32} {x4 : Int32} {x5 : Int32} {x6 : Int32} {x7 : Int32} {y1 : Int32} {y2 : Int32} (hi90 : vp_in y1 8) (hi102 : vp_in x7 8)
    (k : P 47 [.ref 0, .int x1, v2, .int x3, .int x4, .int x5, .int (x6 + ((xu2 mem 7 y1.toNatClampNeg y2) 7 x7.toNatClampNeg)), .int (x7 + nI 1)] [] (0, 0) (LAY, RFu r, xu2 mem 7 y1.toNatClampNeg y2)) : P 90 [.ref 0, .int x1, v2, .int x3, .int x4, .int x5, .int x6, .int x7] [.int y2, .int y1, .ref 7] (0, 0) (LAY, RFu r, mem) := by
  refine r_iastore hP d107_90 ly_7 hi90 ?_
  refine r_iload hP d107_91 rfl ?_
  refine r_aload_n hP d107_93 rfl ?_
  refine r_getr (a := 5) hP d107_94 fr_11_26 rfl ly_0 rg_0_2 ?_
  refine r_getr (a := 7) hP d107_97 fr_11_165 rfl ly_5 rg_5_3 ?_
  refine r_iload hP d107_100 rfl ?_
  refine r_iaload hP d107_102 ly_7 hi102 ?_
  refine r_iadd hP d107_103 ?_
  refine r_istore (L' := [.ref 0, .int x1, v2, .int x3, .int x4, .int x5, .int (x6 + ((xu2 mem 7 y1.toNatClampNeg y2) 7 x7.toNatClampNeg)), .int x7]) hP d107_104 (Nat.le_of_ble_eq_true rfl) rfl ?_
  refine r_iinc (v := nI 1) (L' := [.ref 0, .int x1, v2, .int x3, .int x4, .int x5, .int (x6 + ((xu2 mem 7 y1.toNatClampNeg y2) 7 x7.toNatClampNeg)), .int (x7 + nI 1)]) hP d107_106 rfl rfl rfl ?_
  refine r_goto (t := 47) hP d107_109 (by decide) ?_
  exact k
theorem b107_112 {d : Nat} {P : xPr} {Q : xQr} {r : Nat} {mem : Nat → Nat → Int32} (hP : Cl d none 107 P Q) {v0 : Value} {x1 : Int32} {v2 : Value} {v3 : Value} {v4 : Value} {v5 : Value} {x6 : Int32} {v7 : Value}
    (kt : ¬ x1 = (nI 3) → P 122 [v0, .int x1, v2, v3, v4, v5, .int x6, v7] [] (0, 0) (LAY, RFu r, mem)) (kf : x1 = (nI 3) → P 117 [v0, .int x1, v2, v3, v4, v5, .int x6, v7] [] (0, 0) (LAY, RFu r, mem)) : P 112 [v0, .int x1, v2, v3, v4, v5, .int x6, v7] [] (0, 0) (LAY, RFu r, mem) := by
  refine r_iload_n hP d107_112 rfl ?_
  refine r_iconst (v := nI 3) hP d107_113 rfl ?_
  exact r_icmp (t := 122) hP d107_114 (by decide) kt (fun q => kf (Decidable.of_not_not q))
theorem b107_117 {d : Nat} {P : xPr} {Q : xQr} {r : Nat} {mem : Nat → Nat → Int32} (hP : Cl d none 107 P Q) {v0 : Value} {v1 : Value} {v2 : Value} {v3 : Value} {v4 : Value} {v5 : Value} {v6 : Value} {v7 : Value}
    (k : P 124 [v0, v1, v2, v3, v4, v5, v6, v7] [.int (-3)] (0, 0) (LAY, RFu r, mem)) : P 117 [v0, v1, v2, v3, v4, v5, v6, v7] [] (0, 0) (LAY, RFu r, mem) := by
  refine r_bipush (v := (-3)) hP d107_117 rfl ?_
  refine r_goto (t := 124) hP d107_119 (by decide) ?_
  exact k
theorem b107_122 {d : Nat} {P : xPr} {Q : xQr} {r : Nat} {mem : Nat → Nat → Int32} (hP : Cl d none 107 P Q) {v0 : Value} {v1 : Value} {v2 : Value} {v3 : Value} {v4 : Value} {v5 : Value} {x6 : Int32} {v7 : Value}
    (k : P 124 [v0, v1, v2, v3, v4, v5, .int x6, v7] [.int x6] (0, 0) (LAY, RFu r, mem)) : P 122 [v0, v1, v2, v3, v4, v5, .int x6, v7] [] (0, 0) (LAY, RFu r, mem) := by
  refine r_iload hP d107_122 rfl ?_
  exact k
theorem b107_124 {d : Nat} {P : xPr} {Q : xQr} {r : Nat} {mem : Nat → Nat → Int32} (hP : Cl d none 107 P Q) {v0 : Value} {v1 : Value} {v2 : Value} {v3 : Value} {v4 : Value} {v5 : Value} {v6 : Value} {v7 : Value} {y0 : Int32}
    (k : Q (some (.int y0)) (LAY, RFu r, mem)) : P 124 [v0, v1, v2, v3, v4, v5, v6, v7] [.int y0] (0, 0) (LAY, RFu r, mem) := by
  exact r_iret hP d107_124 rfl k
theorem d108_0 : decode (xB 108) 0 = .ok (.iload_n 1, 1) := by decide +kernel
theorem d108_1 : decode (xB 108) 1 = .ok (.istore_n 2, 1) := by decide +kernel
theorem d108_2 : decode (xB 108) 2 = .ok (.iload_n 0, 1) := by decide +kernel
theorem d108_3 : decode (xB 108) 3 = .ok (.ifCond .ne 9, 3) := by decide +kernel
theorem d108_6 : decode (xB 108) 6 = .ok (.iload_n 1, 1) := by decide +kernel
theorem d108_7 : decode (xB 108) 7 = .ok (.i2b, 1) := by decide +kernel
theorem d108_8 : decode (xB 108) 8 = .ok (.istore_n 2, 1) := by decide +kernel
theorem d108_9 : decode (xB 108) 9 = .ok (.goto 11, 3) := by decide +kernel
theorem d108_12 : decode (xB 108) 12 = .ok (.iload_n 0, 1) := by decide +kernel
theorem d108_13 : decode (xB 108) 13 = .ok (.iconst 1, 1) := by decide +kernel
theorem d108_14 : decode (xB 108) 14 = .ok (.if_icmp .ne 6, 3) := by decide +kernel
theorem d108_17 : decode (xB 108) 17 = .ok (.iload_n 1, 1) := by decide +kernel
theorem d108_18 : decode (xB 108) 18 = .ok (.i2s, 1) := by decide +kernel
theorem d108_19 : decode (xB 108) 19 = .ok (.istore_n 2, 1) := by decide +kernel
theorem d108_20 : decode (xB 108) 20 = .ok (.iconst 0, 1) := by decide +kernel
theorem d108_21 : decode (xB 108) 21 = .ok (.bipush 99, 2) := by decide +kernel
theorem d108_23 : decode (xB 108) 23 = .ok (.iload_n 2, 1) := by decide +kernel
theorem d108_24 : decode (xB 108) 24 = .ok (.invokestatic 199, 3) := by decide +kernel
theorem d108_27 : decode (xB 108) 27 = .ok (.invokestatic 204, 3) := by decide +kernel
theorem d108_30 : decode (xB 108) 30 = .ok (.ireturn, 1) := by decide +kernel
theorem b108_0 {d : Nat} {P : xPr} {Q : xQr} {r : Nat} {mem : Nat → Nat → Int32} (hP : Cl d none 108 P Q) {p0 : Int32} {p1 : Int32}
    (kt : ¬ p0 = 0 → P 12 [.int p0, .int p1, .int p1] [] (0, 0) (LAY, RFu r, mem)) (kf : p0 = 0 → P 6 [.int p0, .int p1, .int p1] [] (0, 0) (LAY, RFu r, mem)) : P 0 [.int p0, .int p1, .null] [] (0, 0) (LAY, RFu r, mem) := by
  refine r_iload_n hP d108_0 rfl ?_
  refine r_istore_n (L' := [.int p0, .int p1, .int p1]) hP d108_1 (Nat.le_of_ble_eq_true rfl) rfl ?_
  refine r_iload_n hP d108_2 rfl ?_
  exact r_if (t := 12) hP d108_3 (by decide) kt (fun q => kf (Decidable.of_not_not q))
theorem b108_6 {d : Nat} {P : xPr} {Q : xQr} {r : Nat} {mem : Nat → Nat → Int32} (hP : Cl d none 108 P Q) {v0 : Value} {x1 : Int32} {v2 : Value}
    (k : P 20 [v0, .int x1, .int x1.toInt8.toInt32] [] (0, 0) (LAY, RFu r, mem)) : P 6 [v0, .int x1, v2] [] (0, 0) (LAY, RFu r, mem) := by
  refine r_iload_n hP d108_6 rfl ?_
  refine r_i2b hP d108_7 ?_
  refine r_istore_n (L' := [v0, .int x1, .int x1.toInt8.toInt32]) hP d108_8 (Nat.le_of_ble_eq_true rfl) rfl ?_
  refine r_goto (t := 20) hP d108_9 (by decide) ?_
  exact k
theorem b108_12 {d : Nat} {P : xPr} {Q : xQr} {r : Nat} {mem : Nat → Nat → Int32} (hP : Cl d none 108 P Q) {x0 : Int32} {x1 : Int32} {x2 : Int32}
    (kt : ¬ x0 = (nI 1) → P 20 [.int x0, .int x1, .int x2] [] (0, 0) (LAY, RFu r, mem)) (kf : x0 = (nI 1) → P 17 [.int x0, .int x1, .int x2] [] (0, 0) (LAY, RFu r, mem)) : P 12 [.int x0, .int x1, .int x2] [] (0, 0) (LAY, RFu r, mem) := by
  refine r_iload_n hP d108_12 rfl ?_
  refine r_iconst (v := nI 1) hP d108_13 rfl ?_
  exact r_icmp (t := 20) hP d108_14 (by decide) kt (fun q => kf (Decidable.of_not_not q))
theorem b108_17 {d : Nat} {P : xPr} {Q : xQr} {r : Nat} {mem : Nat → Nat → Int32} (hP : Cl d none 108 P Q) {v0 : Value} {x1 : Int32} {v2 : Value}
    (k : P 20 [v0, .int x1, .int x1.toInt16.toInt32] [] (0, 0) (LAY, RFu r, mem)) : P 17 [v0, .int x1, v2] [] (0, 0) (LAY, RFu r, mem) := by
  refine r_iload_n hP d108_17 rfl ?_
  refine r_i2s hP d108_18 ?_
  refine r_istore_n (L' := [v0, .int x1, .int x1.toInt16.toInt32]) hP d108_19 (Nat.le_of_ble_eq_true rfl) rfl ?_
  exact k
theorem b108_20 {d : Nat} {P : xPr} {Q : xQr} {r : Nat} {mem : Nat → Nat → Int32} (hP : Cl d none 108 P Q) {v0 : Value} {v1 : Value} {x2 : Int32}
    (k : Q (some (.int (if nI 0 < if x2 < nI 99 then x2 else nI 99 then if x2 < nI 99 then x2 else nI 99 else nI 0))) (LAY, RFu r, mem)) : P 20 [v0, v1, .int x2] [] (0, 0) (LAY, RFu r, mem) := by
  refine r_iconst (v := nI 0) hP d108_20 rfl ?_
  refine r_bipush (v := nI 99) hP d108_21 rfl ?_
  refine r_iload_n hP d108_23 rfl ?_
  refine r_min hP d108_24 cr_11_199 (by simp [Value.category]) ?_
  refine r_max hP d108_27 cr_11_204 (by decide) ?_
  exact r_iret hP d108_30 rfl k
theorem d109_0 : decode (xB 109) 0 = .ok (.iload_n 1, 1) := by decide +kernel
theorem d109_1 : decode (xB 109) 1 = .ok (.iconst 0, 1) := by decide +kernel
theorem d109_2 : decode (xB 109) 2 = .ok (.sipush 200, 3) := by decide +kernel
theorem d109_5 : decode (xB 109) 5 = .ok (.invokestatic 185, 3) := by decide +kernel
theorem d109_8 : decode (xB 109) 8 = .ok (.ifCond .ne 5, 3) := by decide +kernel
theorem d109_11 : decode (xB 109) 11 = .ok (.iconst (-1), 1) := by decide +kernel
theorem d109_12 : decode (xB 109) 12 = .ok (.ireturn, 1) := by decide +kernel
theorem d109_13 : decode (xB 109) 13 = .ok (.aload_n 0, 1) := by decide +kernel
theorem d109_14 : decode (xB 109) 14 = .ok (.getfield 36, 3) := by decide +kernel
theorem d109_17 : decode (xB 109) 17 = .ok (.invokevirtual 207, 3) := by decide +kernel
theorem d109_20 : decode (xB 109) 20 = .ok (.istore_n 2, 1) := by decide +kernel
theorem d109_21 : decode (xB 109) 21 = .ok (.aload_n 0, 1) := by decide +kernel
theorem d109_22 : decode (xB 109) 22 = .ok (.iload_n 1, 1) := by decide +kernel
theorem d109_23 : decode (xB 109) 23 = .ok (.invokevirtual 210, 3) := by decide +kernel
theorem d109_26 : decode (xB 109) 26 = .ok (.istore_n 3, 1) := by decide +kernel
theorem d109_27 : decode (xB 109) 27 = .ok (.aload_n 0, 1) := by decide +kernel
theorem d109_28 : decode (xB 109) 28 = .ok (.getfield 19, 3) := by decide +kernel
theorem d109_31 : decode (xB 109) 31 = .ok (.invokevirtual 213, 3) := by decide +kernel
theorem d109_34 : decode (xB 109) 34 = .ok (.aload_n 0, 1) := by decide +kernel
theorem d109_35 : decode (xB 109) 35 = .ok (.getfield 19, 3) := by decide +kernel
theorem d109_38 : decode (xB 109) 38 = .ok (.aload_n 0, 1) := by decide +kernel
theorem d109_39 : decode (xB 109) 39 = .ok (.getfield 36, 3) := by decide +kernel
theorem d109_42 : decode (xB 109) 42 = .ok (.iconst 1, 1) := by decide +kernel
theorem d109_43 : decode (xB 109) 43 = .ok (.invokevirtual 214, 3) := by decide +kernel
theorem d109_46 : decode (xB 109) 46 = .ok (.invokestatic 217, 3) := by decide +kernel
theorem d109_49 : decode (xB 109) 49 = .ok (.invokevirtual 222, 3) := by decide +kernel
theorem d109_52 : decode (xB 109) 52 = .ok (.aload_n 0, 1) := by decide +kernel
theorem d109_53 : decode (xB 109) 53 = .ok (.getfield 19, 3) := by decide +kernel
theorem d109_56 : decode (xB 109) 56 = .ok (.aload_n 0, 1) := by decide +kernel
theorem d109_57 : decode (xB 109) 57 = .ok (.getfield 36, 3) := by decide +kernel
theorem d109_60 : decode (xB 109) 60 = .ok (.invokevirtual 207, 3) := by decide +kernel
theorem d109_63 : decode (xB 109) 63 = .ok (.iload_n 2, 1) := by decide +kernel
theorem d109_64 : decode (xB 109) 64 = .ok (.isub, 1) := by decide +kernel
theorem d109_65 : decode (xB 109) 65 = .ok (.invokevirtual 222, 3) := by decide +kernel
theorem d109_68 : decode (xB 109) 68 = .ok (.iload_n 3, 1) := by decide +kernel
theorem d109_69 : decode (xB 109) 69 = .ok (.ireturn, 1) := by decide +kernel
theorem b109_0 {d : Nat} {P : xPr} {Q : xQr} {r : Nat} {mem : Nat → Nat → Int32} (hP : Cl d none 109 P Q) {p0 : Int32}
    (k : xCall d 151 [.int p0, .int (nI 0), .int (nI 200)] (LAY, RFu r, mem) (Bk P 5 [.ref 0, .int p0, .null, .null] [] (0, 0))) : P 0 [.ref 0, .int p0, .null, .null] [] (0, 0) (LAY, RFu r, mem) := by
  refine r_iload_n hP d109_0 rfl ?_
  refine r_iconst (v := nI 0) hP d109_1 rfl ?_
  refine r_sipush (v := nI 200) hP d109_2 rfl ?_
  exact r_calls (As := [.int p0, .int (nI 0), .int (nI 200)]) (S := []) hP d109_5 cr_11_185 (by decide +kernel) rfl (by simp [Value.category]) rfl (by simp [Value.category]) ⟨Nat.zero_le _, Nat.zero_le _⟩ k
theorem b109_8 {d : Nat} {P : xPr} {Q : xQr} {r : Nat} {mem : Nat → Nat → Int32} (hP : Cl d none 109 P Q) {x1 : Int32} {v2 : Value} {v3 : Value} {y0 : Int32}
    (kt : ¬ y0 = 0 → P 13 [.ref 0, .int x1, v2, v3] [] (0, 0) (LAY, RFu r, mem)) (kf : y0 = 0 → P 11 [.ref 0, .int x1, v2, v3] [] (0, 0) (LAY, RFu r, mem)) : P 8 [.ref 0, .int x1, v2, v3] [.int y0] (0, 0) (LAY, RFu r, mem) := by
  exact r_if (t := 13) hP d109_8 (by decide) kt (fun q => kf (Decidable.of_not_not q))
theorem b109_11 {d : Nat} {P : xPr} {Q : xQr} {r : Nat} {mem : Nat → Nat → Int32} (hP : Cl d none 109 P Q) {v0 : Value} {v1 : Value} {v2 : Value} {v3 : Value}
    (k : Q (some (.int (-1))) (LAY, RFu r, mem)) : P 11 [v0, v1, v2, v3] [] (0, 0) (LAY, RFu r, mem) := by
  refine r_iconst (v := (-1)) hP d109_11 rfl ?_
  exact r_iret hP d109_12 rfl k
theorem b109_13 {d : Nat} {P : xPr} {Q : xQr} {r : Nat} {mem : Nat → Nat → Int32} (hP : Cl d none 109 P Q) {x1 : Int32} {v2 : Value} {v3 : Value}
    (k : xCall d 64 [.ref 47] (LAY, RFu r, mem) (Bk P 17 [.ref 0, .int x1, v2, v3] [] (0, 0))) : P 13 [.ref 0, .int x1, v2, v3] [] (0, 0) (LAY, RFu r, mem) := by
  refine r_aload_n hP d109_13 rfl ?_
  refine r_getr (a := 47) hP d109_14 fr_11_36 rfl ly_0 rg_0_4 ?_
  exact r_callv (As := []) (S := []) hP d109_17 cr_11_207 (by decide +kernel) rfl (by simp) rfl ly_47 (by simp [Value.category]) ⟨Nat.zero_le _, Nat.zero_le _⟩ k
theorem b109_20 {d : Nat} {P : xPr} {Q : xQr} {r : Nat} {mem : Nat → Nat → Int32} (hP : Cl d none 109 P Q) {x1 : Int32} {v2 : Value} {v3 : Value} {y0 : Int32}
    (k : xCall d 110 [.ref 0, .int x1] (LAY, RFu r, mem) (Bk P 23 [.ref 0, .int x1, .int y0, v3] [] (0, 0))) : P 20 [.ref 0, .int x1, v2, v3] [.int y0] (0, 0) (LAY, RFu r, mem) := by
  refine r_istore_n (L' := [.ref 0, .int x1, .int y0, v3]) hP d109_20 (Nat.le_of_ble_eq_true rfl) rfl ?_
  refine r_aload_n hP d109_21 rfl ?_
  refine r_iload_n hP d109_22 rfl ?_
  exact r_callv (As := [.int x1]) (S := []) hP d109_23 cr_11_210 (by decide +kernel) rfl (by simp [Value.category]) rfl ly_0 (by simp [Value.category]) ⟨Nat.zero_le _, Nat.zero_le _⟩ k
theorem b109_26 {d : Nat} {P : xPr} {Q : xQr} {r : Nat} {mem : Nat → Nat → Int32} (hP : Cl d none 109 P Q) {v1 : Value} {x2 : Int32} {v3 : Value} {y0 : Int32}
    (k : xCall d 31 [.ref 3] (LAY, RFu r, mem) (Bk P 31 [.ref 0, v1, .int x2, .int y0] [] (0, 0))) : P 26 [.ref 0, v1, .int x2, v3] [.int y0] (0, 0) (LAY, RFu r, mem) := by
  refine r_istore_n (L' := [.ref 0, v1, .int x2, .int y0]) hP d109_26 (Nat.le_of_ble_eq_true rfl) rfl ?_
  refine r_aload_n hP d109_27 rfl ?_
  refine r_getr (a := 3) hP d109_28 fr_11_19 rfl ly_0 rg_0_1 ?_
  exact r_callv (As := []) (S := []) hP d109_31 cr_11_213 (by decide +kernel) rfl (by simp) rfl ly_3 (by simp [Value.category]) ⟨Nat.zero_le _, Nat.zero_le _⟩ k
theorem b109_34 {d : Nat} {P : xPr} {Q : xQr} {r : Nat} {mem : Nat → Nat → Int32} (hP : Cl d none 109 P Q) {v1 : Value} {x2 : Int32} {x3 : Int32}
    (k : xCall d 62 [.ref 47, .int (nI 1)] (LAY, RFu r, mem) (Bk P 43 [.ref 0, v1, .int x2, .int x3] [.ref 3] (0, 0))) : P 34 [.ref 0, v1, .int x2, .int x3] [] (0, 0) (LAY, RFu r, mem) := by
  refine r_aload_n hP d109_34 rfl ?_
  refine r_getr (a := 3) hP d109_35 fr_11_19 rfl ly_0 rg_0_1 ?_
  refine r_aload_n hP d109_38 rfl ?_
  refine r_getr (a := 47) hP d109_39 fr_11_36 rfl ly_0 rg_0_4 ?_
  refine r_iconst (v := nI 1) hP d109_42 rfl ?_
  exact r_callv (As := [.int (nI 1)]) (S := [.ref 3]) hP d109_43 cr_11_214 (by decide +kernel) rfl (by simp [Value.category]) rfl ly_47 (by simp [Value.category]) ⟨Nat.zero_le _, Nat.zero_le _⟩ k
theorem b109_46 {d : Nat} {P : xPr} {Q : xQr} {r : Nat} {mem : Nat → Nat → Int32} (hP : Cl d none 109 P Q) {v1 : Value} {x2 : Int32} {x3 : Int32} {y1 : Int32}
    (k : xCall d 237 [.int y1] (LAY, RFu r, mem) (Bk P 46 [.ref 0, v1, .int x2, .int x3] [.ref 3] (0, 0))) : P 46 [.ref 0, v1, .int x2, .int x3] [.int y1, .ref 3] (0, 0) (LAY, RFu r, mem) := by
  exact r_calls (As := [.int y1]) (S := [.ref 3]) hP d109_46 cr_11_217 (by decide +kernel) rfl (by simp [Value.category]) rfl (by simp [Value.category]) ⟨Nat.zero_le _, Nat.zero_le _⟩ k
theorem b109_49 {d : Nat} {P : xPr} {Q : xQr} {r : Nat} {mem : Nat → Nat → Int32} (hP : Cl d none 109 P Q) {v1 : Value} {x2 : Int32} {x3 : Int32} {y1 : Int32}
    (k : xCall d 32 [.ref 3, .int y1] (LAY, RFu r, mem) (Bk P 49 [.ref 0, v1, .int x2, .int x3] [] (0, 0))) : P 49 [.ref 0, v1, .int x2, .int x3] [.int y1, .ref 3] (0, 0) (LAY, RFu r, mem) := by
  exact r_callv (As := [.int y1]) (S := []) hP d109_49 cr_11_222 (by decide +kernel) rfl (by simp [Value.category]) rfl ly_3 (by simp [Value.category]) ⟨Nat.zero_le _, Nat.zero_le _⟩ k
theorem b109_52 {d : Nat} {P : xPr} {Q : xQr} {r : Nat} {mem : Nat → Nat → Int32} (hP : Cl d none 109 P Q) {v1 : Value} {x2 : Int32} {x3 : Int32}
    (k : xCall d 64 [.ref 47] (LAY, RFu r, mem) (Bk P 60 [.ref 0, v1, .int x2, .int x3] [.ref 3] (0, 0))) : P 52 [.ref 0, v1, .int x2, .int x3] [] (0, 0) (LAY, RFu r, mem) := by
  refine r_aload_n hP d109_52 rfl ?_
  refine r_getr (a := 3) hP d109_53 fr_11_19 rfl ly_0 rg_0_1 ?_
  refine r_aload_n hP d109_56 rfl ?_
  refine r_getr (a := 47) hP d109_57 fr_11_36 rfl ly_0 rg_0_4 ?_
  exact r_callv (As := []) (S := [.ref 3]) hP d109_60 cr_11_207 (by decide +kernel) rfl (by simp) rfl ly_47 (by simp [Value.category]) ⟨Nat.zero_le _, Nat.zero_le _⟩ k
theorem b109_63 {d : Nat} {P : xPr} {Q : xQr} {r : Nat} {mem : Nat → Nat → Int32} (hP : Cl d none 109 P Q) {v0 : Value} {v1 : Value} {x2 : Int32} {x3 : Int32} {y1 : Int32}
    (k : xCall d 32 [.ref 3, .int (y1 - x2)] (LAY, RFu r, mem) (Bk P 65 [v0, v1, .int x2, .int x3] [] (0, 0))) : P 63 [v0, v1, .int x2, .int x3] [.int y1, .ref 3] (0, 0) (LAY, RFu r, mem) := by
  refine r_iload_n hP d109_63 rfl ?_
  refine r_isub hP d109_64 ?_
  exact r_callv (As := [.int (y1 - x2)]) (S := []) hP d109_65 cr_11_222 (by decide +kernel) rfl (by simp [Value.category]) rfl ly_3 (by simp [Value.category]) ⟨Nat.zero_le _, Nat.zero_le _⟩ k
theorem b109_68 {d : Nat} {P : xPr} {Q : xQr} {r : Nat} {mem : Nat → Nat → Int32} (hP : Cl d none 109 P Q) {v0 : Value} {v1 : Value} {v2 : Value} {x3 : Int32}
    (k : Q (some (.int x3)) (LAY, RFu r, mem)) : P 68 [v0, v1, v2, .int x3] [] (0, 0) (LAY, RFu r, mem) := by
  refine r_iload_n hP d109_68 rfl ?_
  exact r_iret hP d109_69 rfl k
theorem d110_0 : decode (xB 110) 0 = .ok (.iload_n 1, 1) := by decide +kernel
theorem d110_1 : decode (xB 110) 1 = .ok (.ifCond .le 14, 3) := by decide +kernel
theorem d110_4 : decode (xB 110) 4 = .ok (.aload_n 0, 1) := by decide +kernel
theorem d110_5 : decode (xB 110) 5 = .ok (.getfield 53, 3) := by decide +kernel
theorem d110_8 : decode (xB 110) 8 = .ok (.aload_n 0, 1) := by decide +kernel
theorem d110_9 : decode (xB 110) 9 = .ok (.getfield 36, 3) := by decide +kernel
theorem d110_12 : decode (xB 110) 12 = .ok (.invokevirtual 225, 3) := by decide +kernel
theorem d110_15 : decode (xB 110) 15 = .ok (.iconst 0, 1) := by decide +kernel
theorem d110_16 : decode (xB 110) 16 = .ok (.istore_n 2, 1) := by decide +kernel
theorem d110_17 : decode (xB 110) 17 = .ok (.iconst 0, 1) := by decide +kernel
theorem d110_18 : decode (xB 110) 18 = .ok (.istore_n 3, 1) := by decide +kernel
theorem d110_19 : decode (xB 110) 19 = .ok (.iload_n 3, 1) := by decide +kernel
theorem d110_20 : decode (xB 110) 20 = .ok (.iload_n 1, 1) := by decide +kernel
theorem d110_21 : decode (xB 110) 21 = .ok (.if_icmp .ge 27, 3) := by decide +kernel
theorem d110_24 : decode (xB 110) 24 = .ok (.iload_n 2, 1) := by decide +kernel
theorem d110_25 : decode (xB 110) 25 = .ok (.aload_n 0, 1) := by decide +kernel
theorem d110_26 : decode (xB 110) 26 = .ok (.getfield 46, 3) := by decide +kernel
theorem d110_29 : decode (xB 110) 29 = .ok (.aload_n 0, 1) := by decide +kernel
theorem d110_30 : decode (xB 110) 30 = .ok (.getfield 26, 3) := by decide +kernel
theorem d110_33 : decode (xB 110) 33 = .ok (.aload_n 0, 1) := by decide +kernel
theorem d110_34 : decode (xB 110) 34 = .ok (.getfield 36, 3) := by decide +kernel
theorem d110_37 : decode (xB 110) 37 = .ok (.invokevirtual 229, 3) := by decide +kernel
theorem d110_40 : decode (xB 110) 40 = .ok (.iadd, 1) := by decide +kernel
theorem d110_41 : decode (xB 110) 41 = .ok (.istore_n 2, 1) := by decide +kernel
theorem d110_42 : decode (xB 110) 42 = .ok (.iinc 3 1, 3) := by decide +kernel
theorem d110_45 : decode (xB 110) 45 = .ok (.goto (-26), 3) := by decide +kernel
theorem d110_48 : decode (xB 110) 48 = .ok (.iload_n 2, 1) := by decide +kernel
theorem d110_49 : decode (xB 110) 49 = .ok (.ireturn, 1) := by decide +kernel
theorem b110_0 {d : Nat} {P : xPr} {Q : xQr} {r : Nat} {mem : Nat → Nat → Int32} (hP : Cl d none 110 P Q) {p0 : Int32}
    (kt : p0 ≤ 0 → P 15 [.ref 0, .int p0, .null, .null] [] (0, 0) (LAY, RFu r, mem)) (kf : ¬ p0 ≤ 0 → P 4 [.ref 0, .int p0, .null, .null] [] (0, 0) (LAY, RFu r, mem)) : P 0 [.ref 0, .int p0, .null, .null] [] (0, 0) (LAY, RFu r, mem) := by
  refine r_iload_n hP d110_0 rfl ?_
  exact r_if (t := 15) hP d110_1 (by decide) kt kf
theorem b110_4 {d : Nat} {P : xPr} {Q : xQr} {r : Nat} {mem : Nat → Nat → Int32} (hP : Cl d none 110 P Q) {x1 : Int32} {v2 : Value} {v3 : Value}
    (k : xCall d 25 [.ref 55, .ref 47] (LAY, RFu r, mem) (Bk P 12 [.ref 0, .int x1, v2, v3] [] (0, 0))) : P 4 [.ref 0, .int x1, v2, v3] [] (0, 0) (LAY, RFu r, mem) := by
  refine r_aload_n hP d110_4 rfl ?_
  refine r_getr (a := 55) hP d110_5 fr_11_53 rfl ly_0 rg_0_7 ?_
  refine r_aload_n hP d110_8 rfl ?_
  refine r_getr (a := 47) hP d110_9 fr_11_36 rfl ly_0 rg_0_4 ?_
  exact r_callv (As := [.ref 47]) (S := []) hP d110_12 cr_11_225 (by decide +kernel) rfl (by simp [Value.category]) rfl ly_55 (by simp [Value.category]) ⟨Nat.zero_le _, Nat.zero_le _⟩ k
theorem b110_15 {d : Nat} {P : xPr} {Q : xQr} {r : Nat} {mem : Nat → Nat → Int32} (hP : Cl d none 110 P Q) {x1 : Int32} {v2 : Value} {v3 : Value}
    (k : P 19 [.ref 0, .int x1, .int (nI 0), .int (nI 0)] [] (0, 0) (LAY, RFu r, mem)) : P 15 [.ref 0, .int x1, v2, v3] [] (0, 0) (LAY, RFu r, mem) := by
  refine r_iconst (v := nI 0) hP d110_15 rfl ?_
  refine r_istore_n (L' := [.ref 0, .int x1, .int (nI 0), v3]) hP d110_16 (Nat.le_of_ble_eq_true rfl) rfl ?_
  refine r_iconst (v := nI 0) hP d110_17 rfl ?_
  refine r_istore_n (L' := [.ref 0, .int x1, .int (nI 0), .int (nI 0)]) hP d110_18 (Nat.le_of_ble_eq_true rfl) rfl ?_
  exact k
theorem b110_19 {d : Nat} {P : xPr} {Q : xQr} {r : Nat} {mem : Nat → Nat → Int32} (hP : Cl d none 110 P Q) {x1 : Int32} {x2 : Int32} {x3 : Int32}
    (kt : x1 ≤ x3 → P 48 [.ref 0, .int x1, .int x2, .int x3] [] (0, 0) (LAY, RFu r, mem)) (kf : ¬ x1 ≤ x3 → P 24 [.ref 0, .int x1, .int x2, .int x3] [] (0, 0) (LAY, RFu r, mem)) : P 19 [.ref 0, .int x1, .int x2, .int x3] [] (0, 0) (LAY, RFu r, mem) := by
  refine r_iload_n hP d110_19 rfl ?_
  refine r_iload_n hP d110_20 rfl ?_
  exact r_icmp (t := 48) hP d110_21 (by decide) kt kf
theorem b110_24 {d : Nat} {P : xPr} {Q : xQr} {r : Nat} {mem : Nat → Nat → Int32} (hP : Cl d none 110 P Q) {x1 : Int32} {x2 : Int32} {x3 : Int32}
    (k : xCall d 8 [.ref 51, .ref 5, .ref 47] (LAY, RFu r, mem) (Bk P 37 [.ref 0, .int x1, .int x2, .int x3] [.int x2] (0, 0))) : P 24 [.ref 0, .int x1, .int x2, .int x3] [] (0, 0) (LAY, RFu r, mem) := by
  refine r_iload_n hP d110_24 rfl ?_
  refine r_aload_n hP d110_25 rfl ?_
  refine r_getr (a := 51) hP d110_26 fr_11_46 rfl ly_0 rg_0_6 ?_
  refine r_aload_n hP d110_29 rfl ?_
  refine r_getr (a := 5) hP d110_30 fr_11_26 rfl ly_0 rg_0_2 ?_
  refine r_aload_n hP d110_33 rfl ?_
  refine r_getr (a := 47) hP d110_34 fr_11_36 rfl ly_0 rg_0_4 ?_
  exact r_callv (As := [.ref 5, .ref 47]) (S := [.int x2]) hP d110_37 cr_11_229 (by decide +kernel) rfl (by simp [Value.category]) rfl ly_51 (by simp [Value.category]) ⟨Nat.zero_le _, Nat.zero_le _⟩ k
theorem b110_40 {d : Nat} {P : xPr} {Q : xQr} {r : Nat} {mem : Nat → Nat → Int32} (hP : Cl d none 110 P Q) {x1 : Int32} {v2 : Value} {x3 : Int32} {y0 : Int32} {y1 : Int32}
    (k : P 19 [.ref 0, .int x1, .int (y0 + y1), .int (x3 + nI 1)] [] (0, 0) (LAY, RFu r, mem)) : P 40 [.ref 0, .int x1, v2, .int x3] [.int y1, .int y0] (0, 0) (LAY, RFu r, mem) := by
  refine r_iadd hP d110_40 ?_
  refine r_istore_n (L' := [.ref 0, .int x1, .int (y0 + y1), .int x3]) hP d110_41 (Nat.le_of_ble_eq_true rfl) rfl ?_
  refine r_iinc (v := nI 1) (L' := [.ref 0, .int x1, .int (y0 + y1), .int (x3 + nI 1)]) hP d110_42 rfl rfl rfl ?_
  refine r_goto (t := 19) hP d110_45 (by decide) ?_
  exact k
theorem b110_48 {d : Nat} {P : xPr} {Q : xQr} {r : Nat} {mem : Nat → Nat → Int32} (hP : Cl d none 110 P Q) {v0 : Value} {v1 : Value} {x2 : Int32} {v3 : Value}
    (k : Q (some (.int x2)) (LAY, RFu r, mem)) : P 48 [v0, v1, .int x2, v3] [] (0, 0) (LAY, RFu r, mem) := by
  refine r_iload_n hP d110_48 rfl ?_
  exact r_iret hP d110_49 rfl k
theorem d111_0 : decode (xB 111) 0 = .ok (.aload_n 0, 1) := by decide +kernel
theorem d111_1 : decode (xB 111) 1 = .ok (.getfield 53, 3) := by decide +kernel
theorem d111_4 : decode (xB 111) 4 = .ok (.aload_n 0, 1) := by decide +kernel
theorem d111_5 : decode (xB 111) 5 = .ok (.getfield 36, 3) := by decide +kernel
theorem d111_8 : decode (xB 111) 8 = .ok (.invokevirtual 233, 3) := by decide +kernel
theorem d111_11 : decode (xB 111) 11 = .ok (.ifCond .eq 13, 3) := by decide +kernel
theorem d111_14 : decode (xB 111) 14 = .ok (.aload_n 0, 1) := by decide +kernel
theorem d111_15 : decode (xB 111) 15 = .ok (.getfield 53, 3) := by decide +kernel
theorem d111_18 : decode (xB 111) 18 = .ok (.getfield 237, 3) := by decide +kernel
theorem d111_21 : decode (xB 111) 21 = .ok (.goto 4, 3) := by decide +kernel
theorem d111_24 : decode (xB 111) 24 = .ok (.iconst (-1), 1) := by decide +kernel
theorem d111_25 : decode (xB 111) 25 = .ok (.ireturn, 1) := by decide +kernel
theorem b111_0 {d : Nat} {P : xPr} {Q : xQr} {r : Nat} {mem : Nat → Nat → Int32} (hP : Cl d none 111 P Q)
    (k : xCall d 26 [.ref 55, .ref 47] (LAY, RFu r, mem) (Bk P 8 [.ref 0] [] (0, 0))) : P 0 [.ref 0] [] (0, 0) (LAY, RFu r, mem) := by
  refine r_aload_n hP d111_0 rfl ?_
  refine r_getr (a := 55) hP d111_1 fr_11_53 rfl ly_0 rg_0_7 ?_
  refine r_aload_n hP d111_4 rfl ?_
  refine r_getr (a := 47) hP d111_5 fr_11_36 rfl ly_0 rg_0_4 ?_
  exact r_callv (As := [.ref 47]) (S := []) hP d111_8 cr_11_233 (by decide +kernel) rfl (by simp [Value.category]) rfl ly_55 (by simp [Value.category]) ⟨Nat.zero_le _, Nat.zero_le _⟩ k
theorem b111_11 {d : Nat} {P : xPr} {Q : xQr} {r : Nat} {mem : Nat → Nat → Int32} (hP : Cl d none 111 P Q) {y0 : Int32}
    (kt : y0 = 0 → P 24 [.ref 0] [] (0, 0) (LAY, RFu r, mem)) (kf : ¬ y0 = 0 → P 14 [.ref 0] [] (0, 0) (LAY, RFu r, mem)) : P 11 [.ref 0] [.int y0] (0, 0) (LAY, RFu r, mem) := by
  exact r_if (t := 24) hP d111_11 (by decide) kt kf
theorem b111_14 {d : Nat} {P : xPr} {Q : xQr} {r : Nat} {mem : Nat → Nat → Int32} (hP : Cl d none 111 P Q)
    (k : P 25 [.ref 0] [.int (mem 55 0)] (0, 0) (LAY, RFu r, mem)) : P 14 [.ref 0] [] (0, 0) (LAY, RFu r, mem) := by
  refine r_aload_n hP d111_14 rfl ?_
  refine r_getr (a := 55) hP d111_15 fr_11_53 rfl ly_0 rg_0_7 ?_
  refine r_geti hP d111_18 fr_11_237 rfl ly_55 ?_
  refine r_goto (t := 25) hP d111_21 (by decide) ?_
  exact k
theorem b111_24 {d : Nat} {P : xPr} {Q : xQr} {r : Nat} {mem : Nat → Nat → Int32} (hP : Cl d none 111 P Q) {v0 : Value}
    (k : P 25 [v0] [.int (-1)] (0, 0) (LAY, RFu r, mem)) : P 24 [v0] [] (0, 0) (LAY, RFu r, mem) := by
  refine r_iconst (v := (-1)) hP d111_24 rfl ?_
  exact k
theorem b111_25 {d : Nat} {P : xPr} {Q : xQr} {r : Nat} {mem : Nat → Nat → Int32} (hP : Cl d none 111 P Q) {v0 : Value} {y0 : Int32}
    (k : Q (some (.int y0)) (LAY, RFu r, mem)) : P 25 [v0] [.int y0] (0, 0) (LAY, RFu r, mem) := by
  exact r_iret hP d111_25 rfl k
theorem d112_0 : decode (xB 112) 0 = .ok (.aload_n 0, 1) := by decide +kernel
theorem d112_1 : decode (xB 112) 1 = .ok (.getfield 26, 3) := by decide +kernel
theorem d112_4 : decode (xB 112) 4 = .ok (.iload_n 1, 1) := by decide +kernel
theorem d112_5 : decode (xB 112) 5 = .ok (.invokevirtual 182, 3) := by decide +kernel
theorem d112_8 : decode (xB 112) 8 = .ok (.ifCond .ne 5, 3) := by decide +kernel
theorem d112_11 : decode (xB 112) 11 = .ok (.iconst (-1), 1) := by decide +kernel
theorem d112_12 : decode (xB 112) 12 = .ok (.ireturn, 1) := by decide +kernel
theorem d112_13 : decode (xB 112) 13 = .ok (.aload_n 0, 1) := by decide +kernel
theorem d112_14 : decode (xB 112) 14 = .ok (.getfield 36, 3) := by decide +kernel
theorem d112_17 : decode (xB 112) 17 = .ok (.iload_n 1, 1) := by decide +kernel
theorem d112_18 : decode (xB 112) 18 = .ok (.iconst 2, 1) := by decide +kernel
theorem d112_19 : decode (xB 112) 19 = .ok (.invokevirtual 240, 3) := by decide +kernel
theorem d112_22 : decode (xB 112) 22 = .ok (.istore_n 2, 1) := by decide +kernel
theorem d112_23 : decode (xB 112) 23 = .ok (.aload_n 0, 1) := by decide +kernel
theorem d112_24 : decode (xB 112) 24 = .ok (.getfield 19, 3) := by decide +kernel
theorem d112_27 : decode (xB 112) 27 = .ok (.invokevirtual 213, 3) := by decide +kernel
theorem d112_30 : decode (xB 112) 30 = .ok (.aload_n 0, 1) := by decide +kernel
theorem d112_31 : decode (xB 112) 31 = .ok (.getfield 19, 3) := by decide +kernel
theorem d112_34 : decode (xB 112) 34 = .ok (.iload_n 2, 1) := by decide +kernel
theorem d112_35 : decode (xB 112) 35 = .ok (.invokevirtual 222, 3) := by decide +kernel
theorem d112_38 : decode (xB 112) 38 = .ok (.iload_n 2, 1) := by decide +kernel
theorem d112_39 : decode (xB 112) 39 = .ok (.aload_n 0, 1) := by decide +kernel
theorem d112_40 : decode (xB 112) 40 = .ok (.getfield 36, 3) := by decide +kernel
theorem d112_43 : decode (xB 112) 43 = .ok (.iload_n 1, 1) := by decide +kernel
theorem d112_44 : decode (xB 112) 44 = .ok (.iconst 1, 1) := by decide +kernel
theorem d112_45 : decode (xB 112) 45 = .ok (.invokevirtual 240, 3) := by decide +kernel
theorem d112_48 : decode (xB 112) 48 = .ok (.ior, 1) := by decide +kernel
theorem d112_49 : decode (xB 112) 49 = .ok (.ireturn, 1) := by decide +kernel
theorem b112_0 {d : Nat} {P : xPr} {Q : xQr} {r : Nat} {mem : Nat → Nat → Int32} (hP : Cl d none 112 P Q) {p0 : Int32}
    (k : xCall d 82 [.ref 5, .int p0] (LAY, RFu r, mem) (Bk P 5 [.ref 0, .int p0, .null] [] (0, 0))) : P 0 [.ref 0, .int p0, .null] [] (0, 0) (LAY, RFu r, mem) := by
  refine r_aload_n hP d112_0 rfl ?_
  refine r_getr (a := 5) hP d112_1 fr_11_26 rfl ly_0 rg_0_2 ?_
  refine r_iload_n hP d112_4 rfl ?_
  exact r_callv (As := [.int p0]) (S := []) hP d112_5 cr_11_182 (by decide +kernel) rfl (by simp [Value.category]) rfl ly_5 (by simp [Value.category]) ⟨Nat.zero_le _, Nat.zero_le _⟩ k
theorem b112_8 {d : Nat} {P : xPr} {Q : xQr} {r : Nat} {mem : Nat → Nat → Int32} (hP : Cl d none 112 P Q) {x1 : Int32} {v2 : Value} {y0 : Int32}
    (kt : ¬ y0 = 0 → P 13 [.ref 0, .int x1, v2] [] (0, 0) (LAY, RFu r, mem)) (kf : y0 = 0 → P 11 [.ref 0, .int x1, v2] [] (0, 0) (LAY, RFu r, mem)) : P 8 [.ref 0, .int x1, v2] [.int y0] (0, 0) (LAY, RFu r, mem) := by
  exact r_if (t := 13) hP d112_8 (by decide) kt (fun q => kf (Decidable.of_not_not q))
theorem b112_11 {d : Nat} {P : xPr} {Q : xQr} {r : Nat} {mem : Nat → Nat → Int32} (hP : Cl d none 112 P Q) {v0 : Value} {v1 : Value} {v2 : Value}
    (k : Q (some (.int (-1))) (LAY, RFu r, mem)) : P 11 [v0, v1, v2] [] (0, 0) (LAY, RFu r, mem) := by
  refine r_iconst (v := (-1)) hP d112_11 rfl ?_
  exact r_iret hP d112_12 rfl k
theorem b112_13 {d : Nat} {P : xPr} {Q : xQr} {r : Nat} {mem : Nat → Nat → Int32} (hP : Cl d none 112 P Q) {x1 : Int32} {v2 : Value}
    (k : xCall d 63 [.ref 47, .int x1, .int (nI 2)] (LAY, RFu r, mem) (Bk P 19 [.ref 0, .int x1, v2] [] (0, 0))) : P 13 [.ref 0, .int x1, v2] [] (0, 0) (LAY, RFu r, mem) := by
  refine r_aload_n hP d112_13 rfl ?_
  refine r_getr (a := 47) hP d112_14 fr_11_36 rfl ly_0 rg_0_4 ?_
  refine r_iload_n hP d112_17 rfl ?_
  refine r_iconst (v := nI 2) hP d112_18 rfl ?_
  exact r_callv (As := [.int x1, .int (nI 2)]) (S := []) hP d112_19 cr_11_240 (by decide +kernel) rfl (by simp [Value.category]) rfl ly_47 (by simp [Value.category]) ⟨Nat.zero_le _, Nat.zero_le _⟩ k
theorem b112_22 {d : Nat} {P : xPr} {Q : xQr} {r : Nat} {mem : Nat → Nat → Int32} (hP : Cl d none 112 P Q) {x1 : Int32} {v2 : Value} {y0 : Int32}
    (k : xCall d 31 [.ref 3] (LAY, RFu r, mem) (Bk P 27 [.ref 0, .int x1, .int y0] [] (0, 0))) : P 22 [.ref 0, .int x1, v2] [.int y0] (0, 0) (LAY, RFu r, mem) := by
  refine r_istore_n (L' := [.ref 0, .int x1, .int y0]) hP d112_22 (Nat.le_of_ble_eq_true rfl) rfl ?_
  refine r_aload_n hP d112_23 rfl ?_
  refine r_getr (a := 3) hP d112_24 fr_11_19 rfl ly_0 rg_0_1 ?_
  exact r_callv (As := []) (S := []) hP d112_27 cr_11_213 (by decide +kernel) rfl (by simp) rfl ly_3 (by simp [Value.category]) ⟨Nat.zero_le _, Nat.zero_le _⟩ k
theorem b112_30 {d : Nat} {P : xPr} {Q : xQr} {r : Nat} {mem : Nat → Nat → Int32} (hP : Cl d none 112 P Q) {x1 : Int32} {x2 : Int32}
    (k : xCall d 32 [.ref 3, .int x2] (LAY, RFu r, mem) (Bk P 35 [.ref 0, .int x1, .int x2] [] (0, 0))) : P 30 [.ref 0, .int x1, .int x2] [] (0, 0) (LAY, RFu r, mem) := by
  refine r_aload_n hP d112_30 rfl ?_
  refine r_getr (a := 3) hP d112_31 fr_11_19 rfl ly_0 rg_0_1 ?_
  refine r_iload_n hP d112_34 rfl ?_
  exact r_callv (As := [.int x2]) (S := []) hP d112_35 cr_11_222 (by decide +kernel) rfl (by simp [Value.category]) rfl ly_3 (by simp [Value.category]) ⟨Nat.zero_le _, Nat.zero_le _⟩ k
theorem b112_38 {d : Nat} {P : xPr} {Q : xQr} {r : Nat} {mem : Nat → Nat → Int32} (hP : Cl d none 112 P Q) {x1 : Int32} {x2 : Int32}
    (k : xCall d 63 [.ref 47, .int x1, .int (nI 1)] (LAY, RFu r, mem) (Bk P 45 [.ref 0, .int x1, .int x2] [.int x2] (0, 0))) : P 38 [.ref 0, .int x1, .int x2] [] (0, 0) (LAY, RFu r, mem) := by
  refine r_iload_n hP d112_38 rfl ?_
  refine r_aload_n hP d112_39 rfl ?_
  refine r_getr (a := 47) hP d112_40 fr_11_36 rfl ly_0 rg_0_4 ?_
  refine r_iload_n hP d112_43 rfl ?_
  refine r_iconst (v := nI 1) hP d112_44 rfl ?_
  exact r_callv (As := [.int x1, .int (nI 1)]) (S := [.int x2]) hP d112_45 cr_11_240 (by decide +kernel) rfl (by simp [Value.category]) rfl ly_47 (by simp [Value.category]) ⟨Nat.zero_le _, Nat.zero_le _⟩ k
theorem b112_48 {d : Nat} {P : xPr} {Q : xQr} {r : Nat} {mem : Nat → Nat → Int32} (hP : Cl d none 112 P Q) {v0 : Value} {v1 : Value} {v2 : Value} {y0 : Int32} {y1 : Int32}
    (k : Q (some (.int (y0 ||| y1))) (LAY, RFu r, mem)) : P 48 [v0, v1, v2] [.int y1, .int y0] (0, 0) (LAY, RFu r, mem) := by
  refine r_ior hP d112_48 ?_
  exact r_iret hP d112_49 rfl k
theorem d113_0 : decode (xB 113) 0 = .ok (.aload_n 0, 1) := by decide +kernel
theorem d113_1 : decode (xB 113) 1 = .ok (.getfield 26, 3) := by decide +kernel
theorem d113_4 : decode (xB 113) 4 = .ok (.iload_n 1, 1) := by decide +kernel
theorem d113_5 : decode (xB 113) 5 = .ok (.invokevirtual 182, 3) := by decide +kernel
theorem d113_8 : decode (xB 113) 8 = .ok (.ifCond .ne 5, 3) := by decide +kernel
theorem d113_11 : decode (xB 113) 11 = .ok (.iconst (-1), 1) := by decide +kernel
theorem d113_12 : decode (xB 113) 12 = .ok (.ireturn, 1) := by decide +kernel
theorem d113_13 : decode (xB 113) 13 = .ok (.aload_n 0, 1) := by decide +kernel
theorem d113_14 : decode (xB 113) 14 = .ok (.aload_n 0, 1) := by decide +kernel
theorem d113_15 : decode (xB 113) 15 = .ok (.getfield 26, 3) := by decide +kernel
theorem d113_18 : decode (xB 113) 18 = .ok (.iconst 1, 1) := by decide +kernel
theorem d113_19 : decode (xB 113) 19 = .ok (.invokevirtual 243, 3) := by decide +kernel
theorem d113_22 : decode (xB 113) 22 = .ok (.aload_n 0, 1) := by decide +kernel
theorem d113_23 : decode (xB 113) 23 = .ok (.getfield 46, 3) := by decide +kernel
theorem d113_26 : decode (xB 113) 26 = .ok (.getfield 247, 3) := by decide +kernel
theorem d113_29 : decode (xB 113) 29 = .ok (.iload_n 1, 1) := by decide +kernel
theorem d113_30 : decode (xB 113) 30 = .ok (.iaload, 1) := by decide +kernel
theorem d113_31 : decode (xB 113) 31 = .ok (.iconst (-1), 1) := by decide +kernel
theorem d113_32 : decode (xB 113) 32 = .ok (.if_icmp .ne 6, 3) := by decide +kernel
theorem d113_35 : decode (xB 113) 35 = .ok (.bipush (-2), 2) := by decide +kernel
theorem d113_37 : decode (xB 113) 37 = .ok (.ireturn, 1) := by decide +kernel
theorem d113_38 : decode (xB 113) 38 = .ok (.aload_n 0, 1) := by decide +kernel
theorem d113_39 : decode (xB 113) 39 = .ok (.getfield 19, 3) := by decide +kernel
theorem d113_42 : decode (xB 113) 42 = .ok (.invokevirtual 213, 3) := by decide +kernel
theorem d113_45 : decode (xB 113) 45 = .ok (.aload_n 0, 1) := by decide +kernel
theorem d113_46 : decode (xB 113) 46 = .ok (.getfield 19, 3) := by decide +kernel
theorem d113_49 : decode (xB 113) 49 = .ok (.aload_n 0, 1) := by decide +kernel
theorem d113_50 : decode (xB 113) 50 = .ok (.getfield 46, 3) := by decide +kernel
theorem d113_53 : decode (xB 113) 53 = .ok (.getfield 250, 3) := by decide +kernel
theorem d113_56 : decode (xB 113) 56 = .ok (.iload_n 1, 1) := by decide +kernel
theorem d113_57 : decode (xB 113) 57 = .ok (.iaload, 1) := by decide +kernel
theorem d113_58 : decode (xB 113) 58 = .ok (.invokevirtual 222, 3) := by decide +kernel
theorem d113_61 : decode (xB 113) 61 = .ok (.aload_n 0, 1) := by decide +kernel
theorem d113_62 : decode (xB 113) 62 = .ok (.getfield 46, 3) := by decide +kernel
theorem d113_65 : decode (xB 113) 65 = .ok (.getfield 247, 3) := by decide +kernel
theorem d113_68 : decode (xB 113) 68 = .ok (.iload_n 1, 1) := by decide +kernel
theorem d113_69 : decode (xB 113) 69 = .ok (.iaload, 1) := by decide +kernel
theorem d113_70 : decode (xB 113) 70 = .ok (.ireturn, 1) := by decide +kernel
theorem b113_0 {d : Nat} {P : xPr} {Q : xQr} {r : Nat} {mem : Nat → Nat → Int32} (hP : Cl d none 113 P Q) {p0 : Int32}
    (k : xCall d 82 [.ref 5, .int p0] (LAY, RFu r, mem) (Bk P 5 [.ref 0, .int p0] [] (0, 0))) : P 0 [.ref 0, .int p0] [] (0, 0) (LAY, RFu r, mem) := by
  refine r_aload_n hP d113_0 rfl ?_
  refine r_getr (a := 5) hP d113_1 fr_11_26 rfl ly_0 rg_0_2 ?_
  refine r_iload_n hP d113_4 rfl ?_
  exact r_callv (As := [.int p0]) (S := []) hP d113_5 cr_11_182 (by decide +kernel) rfl (by simp [Value.category]) rfl ly_5 (by simp [Value.category]) ⟨Nat.zero_le _, Nat.zero_le _⟩ k
theorem b113_8 {d : Nat} {P : xPr} {Q : xQr} {r : Nat} {mem : Nat → Nat → Int32} (hP : Cl d none 113 P Q) {x1 : Int32} {y0 : Int32}
    (kt : ¬ y0 = 0 → P 13 [.ref 0, .int x1] [] (0, 0) (LAY, RFu r, mem)) (kf : y0 = 0 → P 11 [.ref 0, .int x1] [] (0, 0) (LAY, RFu r, mem)) : P 8 [.ref 0, .int x1] [.int y0] (0, 0) (LAY, RFu r, mem) := by
  exact r_if (t := 13) hP d113_8 (by decide) kt (fun q => kf (Decidable.of_not_not q))
theorem b113_11 {d : Nat} {P : xPr} {Q : xQr} {r : Nat} {mem : Nat → Nat → Int32} (hP : Cl d none 113 P Q) {v0 : Value} {v1 : Value}
    (k : Q (some (.int (-1))) (LAY, RFu r, mem)) : P 11 [v0, v1] [] (0, 0) (LAY, RFu r, mem) := by
  refine r_iconst (v := (-1)) hP d113_11 rfl ?_
  exact r_iret hP d113_12 rfl k
theorem b113_13 {d : Nat} {P : xPr} {Q : xQr} {r : Nat} {mem : Nat → Nat → Int32} (hP : Cl d none 113 P Q) {x1 : Int32}
    (k : xCall d 153 [.ref 0, .ref 5, .int (nI 1)] (LAY, RFu r, mem) (Bk P 19 [.ref 0, .int x1] [] (0, 0))) : P 13 [.ref 0, .int x1] [] (0, 0) (LAY, RFu r, mem) := by
  refine r_aload_n hP d113_13 rfl ?_
  refine r_aload_n hP d113_14 rfl ?_
  refine r_getr (a := 5) hP d113_15 fr_11_26 rfl ly_0 rg_0_2 ?_
  refine r_iconst (v := nI 1) hP d113_18 rfl ?_
  exact r_callv (As := [.ref 5, .int (nI 1)]) (S := []) hP d113_19 cr_11_243 (by decide +kernel) rfl (by simp [Value.category]) rfl ly_0 (by simp [Value.category]) ⟨Nat.zero_le _, Nat.zero_le _⟩ k
theorem b113_22 {d : Nat} {P : xPr} {Q : xQr} {r : Nat} {mem : Nat → Nat → Int32} (hP : Cl d none 113 P Q) {x1 : Int32} (hi30 : vp_in x1 4)
    (kt : ¬ (mem 52 x1.toNatClampNeg) = (-1) → P 38 [.ref 0, .int x1] [] (0, 0) (LAY, RFu r, mem)) (kf : (mem 52 x1.toNatClampNeg) = (-1) → P 35 [.ref 0, .int x1] [] (0, 0) (LAY, RFu r, mem)) : P 22 [.ref 0, .int x1] [] (0, 0) (LAY, RFu r, mem) := by
  refine r_aload_n hP d113_22 rfl ?_
  refine r_getr (a := 51) hP d113_23 fr_11_46 rfl ly_0 rg_0_6 ?_
  refine r_getr (a := 52) hP d113_26 fr_11_247 rfl ly_51 rg_51_0 ?_
  refine r_iload_n hP d113_29 rfl ?_
  refine r_iaload hP d113_30 ly_52 hi30 ?_
  refine r_iconst (v := (-1)) hP d113_31 rfl ?_
  exact r_icmp (t := 38) hP d113_32 (by decide) kt (fun q => kf (Decidable.of_not_not q))
theorem b113_35 {d : Nat} {P : xPr} {Q : xQr} {r : Nat} {mem : Nat → Nat → Int32} (hP : Cl d none 113 P Q) {v0 : Value} {v1 : Value}
    (k : Q (some (.int (-2))) (LAY, RFu r, mem)) : P 35 [v0, v1] [] (0, 0) (LAY, RFu r, mem) := by
  refine r_bipush (v := (-2)) hP d113_35 rfl ?_
  exact r_iret hP d113_37 rfl k
theorem b113_38 {d : Nat} {P : xPr} {Q : xQr} {r : Nat} {mem : Nat → Nat → Int32} (hP : Cl d none 113 P Q) {x1 : Int32}
    (k : xCall d 31 [.ref 3] (LAY, RFu r, mem) (Bk P 42 [.ref 0, .int x1] [] (0, 0))) : P 38 [.ref 0, .int x1] [] (0, 0) (LAY, RFu r, mem) := by
  refine r_aload_n hP d113_38 rfl ?_
  refine r_getr (a := 3) hP d113_39 fr_11_19 rfl ly_0 rg_0_1 ?_
  exact r_callv (As := []) (S := []) hP d113_42 cr_11_213 (by decide +kernel) rfl (by simp) rfl ly_3 (by simp [Value.category]) ⟨Nat.zero_le _, Nat.zero_le _⟩ k
theorem b113_45 {d : Nat} {P : xPr} {Q : xQr} {r : Nat} {mem : Nat → Nat → Int32} (hP : Cl d none 113 P Q) {x1 : Int32} (hi57 : vp_in x1 4)
    (k : xCall d 32 [.ref 3, .int (mem 53 x1.toNatClampNeg)] (LAY, RFu r, mem) (Bk P 58 [.ref 0, .int x1] [] (0, 0))) : P 45 [.ref 0, .int x1] [] (0, 0) (LAY, RFu r, mem) := by
  refine r_aload_n hP d113_45 rfl ?_
  refine r_getr (a := 3) hP d113_46 fr_11_19 rfl ly_0 rg_0_1 ?_
  refine r_aload_n hP d113_49 rfl ?_
  refine r_getr (a := 51) hP d113_50 fr_11_46 rfl ly_0 rg_0_6 ?_
  refine r_getr (a := 53) hP d113_53 fr_11_250 rfl ly_51 rg_51_1 ?_
  refine r_iload_n hP d113_56 rfl ?_
  refine r_iaload hP d113_57 ly_53 hi57 ?_
  exact r_callv (As := [.int (mem 53 x1.toNatClampNeg)]) (S := []) hP d113_58 cr_11_222 (by decide +kernel) rfl (by simp [Value.category]) rfl ly_3 (by simp [Value.category]) ⟨Nat.zero_le _, Nat.zero_le _⟩ k
theorem b113_61 {d : Nat} {P : xPr} {Q : xQr} {r : Nat} {mem : Nat → Nat → Int32} (hP : Cl d none 113 P Q) {x1 : Int32} (hi69 : vp_in x1 4)
    (k : Q (some (.int (mem 52 x1.toNatClampNeg))) (LAY, RFu r, mem)) : P 61 [.ref 0, .int x1] [] (0, 0) (LAY, RFu r, mem) := by
  refine r_aload_n hP d113_61 rfl ?_
  refine r_getr (a := 51) hP d113_62 fr_11_46 rfl ly_0 rg_0_6 ?_
  refine r_getr (a := 52) hP d113_65 fr_11_247 rfl ly_51 rg_51_0 ?_
  refine r_iload_n hP d113_68 rfl ?_
  refine r_iaload hP d113_69 ly_52 hi69 ?_
  exact r_iret hP d113_70 rfl k
theorem d114_0 : decode (xB 114) 0 = .ok (.aload_n 0, 1) := by decide +kernel
theorem d114_1 : decode (xB 114) 1 = .ok (.getfield 26, 3) := by decide +kernel
theorem d114_4 : decode (xB 114) 4 = .ok (.iload_n 1, 1) := by decide +kernel
theorem d114_5 : decode (xB 114) 5 = .ok (.invokevirtual 182, 3) := by decide +kernel
theorem d114_8 : decode (xB 114) 8 = .ok (.ifCond .ne 5, 3) := by decide +kernel
theorem d114_11 : decode (xB 114) 11 = .ok (.iconst (-1), 1) := by decide +kernel
theorem d114_12 : decode (xB 114) 12 = .ok (.ireturn, 1) := by decide +kernel
theorem d114_13 : decode (xB 114) 13 = .ok (.aload_n 0, 1) := by decide +kernel
theorem d114_14 : decode (xB 114) 14 = .ok (.getfield 19, 3) := by decide +kernel
theorem d114_17 : decode (xB 114) 17 = .ok (.invokevirtual 213, 3) := by decide +kernel
theorem d114_20 : decode (xB 114) 20 = .ok (.aload_n 0, 1) := by decide +kernel
theorem d114_21 : decode (xB 114) 21 = .ok (.aload_n 0, 1) := by decide +kernel
theorem d114_22 : decode (xB 114) 22 = .ok (.getfield 26, 3) := by decide +kernel
theorem d114_25 : decode (xB 114) 25 = .ok (.getfield 134, 3) := by decide +kernel
theorem d114_28 : decode (xB 114) 28 = .ok (.aload_n 0, 1) := by decide +kernel
theorem d114_29 : decode (xB 114) 29 = .ok (.getfield 36, 3) := by decide +kernel
theorem d114_32 : decode (xB 114) 32 = .ok (.iload_n 1, 1) := by decide +kernel
theorem d114_33 : decode (xB 114) 33 = .ok (.iconst 1, 1) := by decide +kernel
theorem d114_34 : decode (xB 114) 34 = .ok (.invokevirtual 240, 3) := by decide +kernel
theorem d114_37 : decode (xB 114) 37 = .ok (.invokevirtual 253, 3) := by decide +kernel
theorem d114_40 : decode (xB 114) 40 = .ok (.aload_n 0, 1) := by decide +kernel
theorem d114_41 : decode (xB 114) 41 = .ok (.aload_n 0, 1) := by decide +kernel
theorem d114_42 : decode (xB 114) 42 = .ok (.getfield 26, 3) := by decide +kernel
theorem d114_45 : decode (xB 114) 45 = .ok (.getfield 142, 3) := by decide +kernel
theorem d114_48 : decode (xB 114) 48 = .ok (.aload_n 0, 1) := by decide +kernel
theorem d114_49 : decode (xB 114) 49 = .ok (.getfield 36, 3) := by decide +kernel
theorem d114_52 : decode (xB 114) 52 = .ok (.iload_n 1, 1) := by decide +kernel
theorem d114_53 : decode (xB 114) 53 = .ok (.iconst 2, 1) := by decide +kernel
theorem d114_54 : decode (xB 114) 54 = .ok (.invokevirtual 240, 3) := by decide +kernel
theorem d114_57 : decode (xB 114) 57 = .ok (.invokevirtual 253, 3) := by decide +kernel
theorem d114_60 : decode (xB 114) 60 = .ok (.aload_n 0, 1) := by decide +kernel
theorem d114_61 : decode (xB 114) 61 = .ok (.getfield 19, 3) := by decide +kernel
theorem d114_64 : decode (xB 114) 64 = .ok (.getfield 257, 3) := by decide +kernel
theorem d114_67 : decode (xB 114) 67 = .ok (.ireturn, 1) := by decide +kernel
theorem b114_0 {d : Nat} {P : xPr} {Q : xQr} {r : Nat} {mem : Nat → Nat → Int32} (hP : Cl d none 114 P Q) {p0 : Int32}
    (k : xCall d 82 [.ref 5, .int p0] (LAY, RFu r, mem) (Bk P 5 [.ref 0, .int p0] [] (0, 0))) : P 0 [.ref 0, .int p0] [] (0, 0) (LAY, RFu r, mem) := by
  refine r_aload_n hP d114_0 rfl ?_
  refine r_getr (a := 5) hP d114_1 fr_11_26 rfl ly_0 rg_0_2 ?_
  refine r_iload_n hP d114_4 rfl ?_
  exact r_callv (As := [.int p0]) (S := []) hP d114_5 cr_11_182 (by decide +kernel) rfl (by simp [Value.category]) rfl ly_5 (by simp [Value.category]) ⟨Nat.zero_le _, Nat.zero_le _⟩ k
theorem b114_8 {d : Nat} {P : xPr} {Q : xQr} {r : Nat} {mem : Nat → Nat → Int32} (hP : Cl d none 114 P Q) {x1 : Int32} {y0 : Int32}
    (kt : ¬ y0 = 0 → P 13 [.ref 0, .int x1] [] (0, 0) (LAY, RFu r, mem)) (kf : y0 = 0 → P 11 [.ref 0, .int x1] [] (0, 0) (LAY, RFu r, mem)) : P 8 [.ref 0, .int x1] [.int y0] (0, 0) (LAY, RFu r, mem) := by
  exact r_if (t := 13) hP d114_8 (by decide) kt (fun q => kf (Decidable.of_not_not q))
theorem b114_11 {d : Nat} {P : xPr} {Q : xQr} {r : Nat} {mem : Nat → Nat → Int32} (hP : Cl d none 114 P Q) {v0 : Value} {v1 : Value}
    (k : Q (some (.int (-1))) (LAY, RFu r, mem)) : P 11 [v0, v1] [] (0, 0) (LAY, RFu r, mem) := by
  refine r_iconst (v := (-1)) hP d114_11 rfl ?_
  exact r_iret hP d114_12 rfl k
theorem b114_13 {d : Nat} {P : xPr} {Q : xQr} {r : Nat} {mem : Nat → Nat → Int32} (hP : Cl d none 114 P Q) {x1 : Int32}
    (k : xCall d 31 [.ref 3] (LAY, RFu r, mem) (Bk P 17 [.ref 0, .int x1] [] (0, 0))) : P 13 [.ref 0, .int x1] [] (0, 0) (LAY, RFu r, mem) := by
  refine r_aload_n hP d114_13 rfl ?_
  refine r_getr (a := 3) hP d114_14 fr_11_19 rfl ly_0 rg_0_1 ?_
  exact r_callv (As := []) (S := []) hP d114_17 cr_11_213 (by decide +kernel) rfl (by simp) rfl ly_3 (by simp [Value.category]) ⟨Nat.zero_le _, Nat.zero_le _⟩ k
theorem b114_20 {d : Nat} {P : xPr} {Q : xQr} {r : Nat} {mem : Nat → Nat → Int32} (hP : Cl d none 114 P Q) {x1 : Int32}
    (k : xCall d 63 [.ref 47, .int x1, .int (nI 1)] (LAY, RFu r, mem) (Bk P 34 [.ref 0, .int x1] [.ref 20, .ref 0] (0, 0))) : P 20 [.ref 0, .int x1] [] (0, 0) (LAY, RFu r, mem) := by
  refine r_aload_n hP d114_20 rfl ?_
  refine r_aload_n hP d114_21 rfl ?_
  refine r_getr (a := 5) hP d114_22 fr_11_26 rfl ly_0 rg_0_2 ?_
  refine r_getr (a := 20) hP d114_25 fr_11_134 rfl ly_5 rg_5_8 ?_
  refine r_aload_n hP d114_28 rfl ?_
  refine r_getr (a := 47) hP d114_29 fr_11_36 rfl ly_0 rg_0_4 ?_
  refine r_iload_n hP d114_32 rfl ?_
  refine r_iconst (v := nI 1) hP d114_33 rfl ?_
  exact r_callv (As := [.int x1, .int (nI 1)]) (S := [.ref 20, .ref 0]) hP d114_34 cr_11_240 (by decide +kernel) rfl (by simp [Value.category]) rfl ly_47 (by simp [Value.category]) ⟨Nat.zero_le _, Nat.zero_le _⟩ k
theorem b114_37 {d : Nat} {P : xPr} {Q : xQr} {r : Nat} {mem : Nat → Nat → Int32} (hP : Cl d none 114 P Q) {x1 : Int32} {y2 : Int32}
    (k : xCall d 115 [.ref 0, .ref 20, .int y2] (LAY, RFu r, mem) (Bk P 37 [.ref 0, .int x1] [] (0, 0))) : P 37 [.ref 0, .int x1] [.int y2, .ref 20, .ref 0] (0, 0) (LAY, RFu r, mem) := by
  exact r_callv (As := [.ref 20, .int y2]) (S := []) hP d114_37 cr_11_253 (by decide +kernel) rfl (by simp [Value.category]) rfl ly_0 (by simp [Value.category]) ⟨Nat.zero_le _, Nat.zero_le _⟩ k
theorem b114_40 {d : Nat} {P : xPr} {Q : xQr} {r : Nat} {mem : Nat → Nat → Int32} (hP : Cl d none 114 P Q) {x1 : Int32}
    (k : xCall d 63 [.ref 47, .int x1, .int (nI 2)] (LAY, RFu r, mem) (Bk P 54 [.ref 0, .int x1] [.ref 23, .ref 0] (0, 0))) : P 40 [.ref 0, .int x1] [] (0, 0) (LAY, RFu r, mem) := by
  refine r_aload_n hP d114_40 rfl ?_
  refine r_aload_n hP d114_41 rfl ?_
  refine r_getr (a := 5) hP d114_42 fr_11_26 rfl ly_0 rg_0_2 ?_
  refine r_getr (a := 23) hP d114_45 fr_11_142 rfl ly_5 rg_5_9 ?_
  refine r_aload_n hP d114_48 rfl ?_
  refine r_getr (a := 47) hP d114_49 fr_11_36 rfl ly_0 rg_0_4 ?_
  refine r_iload_n hP d114_52 rfl ?_
  refine r_iconst (v := nI 2) hP d114_53 rfl ?_
  exact r_callv (As := [.int x1, .int (nI 2)]) (S := [.ref 23, .ref 0]) hP d114_54 cr_11_240 (by decide +kernel) rfl (by simp [Value.category]) rfl ly_47 (by simp [Value.category]) ⟨Nat.zero_le _, Nat.zero_le _⟩ k
theorem b114_57 {d : Nat} {P : xPr} {Q : xQr} {r : Nat} {mem : Nat → Nat → Int32} (hP : Cl d none 114 P Q) {v1 : Value} {y2 : Int32}
    (k : xCall d 115 [.ref 0, .ref 23, .int y2] (LAY, RFu r, mem) (Bk P 57 [.ref 0, v1] [] (0, 0))) : P 57 [.ref 0, v1] [.int y2, .ref 23, .ref 0] (0, 0) (LAY, RFu r, mem) := by
  exact r_callv (As := [.ref 23, .int y2]) (S := []) hP d114_57 cr_11_253 (by decide +kernel) rfl (by simp [Value.category]) rfl ly_0 (by simp [Value.category]) ⟨Nat.zero_le _, Nat.zero_le _⟩ k
theorem b114_60 {d : Nat} {P : xPr} {Q : xQr} {r : Nat} {mem : Nat → Nat → Int32} (hP : Cl d none 114 P Q) {v1 : Value}
    (k : Q (some (.int (mem 3 1))) (LAY, RFu r, mem)) : P 60 [.ref 0, v1] [] (0, 0) (LAY, RFu r, mem) := by
  refine r_aload_n hP d114_60 rfl ?_
  refine r_getr (a := 3) hP d114_61 fr_11_19 rfl ly_0 rg_0_1 ?_
  refine r_geti hP d114_64 fr_11_257 rfl ly_3 ?_
  exact r_iret hP d114_67 rfl k
theorem d115_0 : decode (xB 115) 0 = .ok (.aload_n 0, 1) := by decide +kernel
theorem d115_1 : decode (xB 115) 1 = .ok (.getfield 46, 3) := by decide +kernel
theorem d115_4 : decode (xB 115) 4 = .ok (.aload_n 1, 1) := by decide +kernel
theorem d115_5 : decode (xB 115) 5 = .ok (.aload_n 0, 1) := by decide +kernel
theorem d115_6 : decode (xB 115) 6 = .ok (.getfield 26, 3) := by decide +kernel
theorem d115_9 : decode (xB 115) 9 = .ok (.aload_n 0, 1) := by decide +kernel
theorem d115_10 : decode (xB 115) 10 = .ok (.getfield 36, 3) := by decide +kernel
theorem d115_13 : decode (xB 115) 13 = .ok (.iload_n 2, 1) := by decide +kernel
theorem d115_14 : decode (xB 115) 14 = .ok (.invokevirtual 260, 3) := by decide +kernel
theorem d115_17 : decode (xB 115) 17 = .ok (.iload_n 2, 1) := by decide +kernel
theorem d115_18 : decode (xB 115) 18 = .ok (.istore_n 3, 1) := by decide +kernel
theorem d115_19 : decode (xB 115) 19 = .ok (.iconst 0, 1) := by decide +kernel
theorem d115_20 : decode (xB 115) 20 = .ok (.istore 4, 2) := by decide +kernel
theorem d115_22 : decode (xB 115) 22 = .ok (.iload 4, 2) := by decide +kernel
theorem d115_24 : decode (xB 115) 24 = .ok (.bipush 8, 2) := by decide +kernel
theorem d115_26 : decode (xB 115) 26 = .ok (.if_icmp .ge 41, 3) := by decide +kernel
theorem d115_29 : decode (xB 115) 29 = .ok (.iload_n 3, 1) := by decide +kernel
theorem d115_30 : decode (xB 115) 30 = .ok (.ifCond .eq 37, 3) := by decide +kernel
theorem d115_33 : decode (xB 115) 33 = .ok (.aload_n 0, 1) := by decide +kernel
theorem d115_34 : decode (xB 115) 34 = .ok (.getfield 46, 3) := by decide +kernel
theorem d115_37 : decode (xB 115) 37 = .ok (.iload_n 3, 1) := by decide +kernel
theorem d115_38 : decode (xB 115) 38 = .ok (.invokevirtual 264, 3) := by decide +kernel
theorem d115_41 : decode (xB 115) 41 = .ok (.istore 5, 2) := by decide +kernel
theorem d115_43 : decode (xB 115) 43 = .ok (.aload_n 0, 1) := by decide +kernel
theorem d115_44 : decode (xB 115) 44 = .ok (.getfield 19, 3) := by decide +kernel
theorem d115_47 : decode (xB 115) 47 = .ok (.iload 5, 2) := by decide +kernel
theorem d115_49 : decode (xB 115) 49 = .ok (.invokevirtual 222, 3) := by decide +kernel
theorem d115_52 : decode (xB 115) 52 = .ok (.iload_n 3, 1) := by decide +kernel
theorem d115_53 : decode (xB 115) 53 = .ok (.iconst 1, 1) := by decide +kernel
theorem d115_54 : decode (xB 115) 54 = .ok (.iload 5, 2) := by decide +kernel
theorem d115_56 : decode (xB 115) 56 = .ok (.ishl, 1) := by decide +kernel
theorem d115_57 : decode (xB 115) 57 = .ok (.iconst (-1), 1) := by decide +kernel
theorem d115_58 : decode (xB 115) 58 = .ok (.ixor, 1) := by decide +kernel
theorem d115_59 : decode (xB 115) 59 = .ok (.iand, 1) := by decide +kernel
theorem d115_60 : decode (xB 115) 60 = .ok (.istore_n 3, 1) := by decide +kernel
theorem d115_61 : decode (xB 115) 61 = .ok (.iinc 4 1, 3) := by decide +kernel
theorem d115_64 : decode (xB 115) 64 = .ok (.goto (-42), 3) := by decide +kernel
theorem d115_67 : decode (xB 115) 67 = .ok (.return_, 1) := by decide +kernel
theorem b115_0 {d : Nat} {P : xPr} {Q : xQr} {r : Nat} {mem : Nat → Nat → Int32} (hP : Cl d none 115 P Q) {q : Nat} {p1 : Int32} (hq : isRule q)
    (k : xCall d 15 [.ref 51, .ref q, .ref 5, .ref 47, .int p1] (LAY, RFu r, mem) (Bk P 14 [.ref 0, .ref q, .int p1, .null, .null, .null] [] (0, 0))) : P 0 [.ref 0, .ref q, .int p1, .null, .null, .null] [] (0, 0) (LAY, RFu r, mem) := by
  refine r_aload_n hP d115_0 rfl ?_
  refine r_getr (a := 51) hP d115_1 fr_11_46 rfl ly_0 rg_0_6 ?_
  refine r_aload_n hP d115_4 rfl ?_
  refine r_aload_n hP d115_5 rfl ?_
  refine r_getr (a := 5) hP d115_6 fr_11_26 rfl ly_0 rg_0_2 ?_
  refine r_aload_n hP d115_9 rfl ?_
  refine r_getr (a := 47) hP d115_10 fr_11_36 rfl ly_0 rg_0_4 ?_
  refine r_iload_n hP d115_13 rfl ?_
  exact r_callv (As := [.ref q, .ref 5, .ref 47, .int p1]) (S := []) hP d115_14 cr_11_260 (by decide +kernel) rfl (by simp [Value.category]) rfl ly_51 (by simp [Value.category]) ⟨Nat.zero_le _, Nat.zero_le _⟩ k
theorem b115_17 {d : Nat} {P : xPr} {Q : xQr} {r : Nat} {mem : Nat → Nat → Int32} (hP : Cl d none 115 P Q) {q : Nat} {v1 : Value} {x2 : Int32} {v3 : Value} {v4 : Value} {v5 : Value} (hq : isRule q)
    (k : P 22 [.ref 0, v1, .int x2, .int x2, .int (nI 0), v5] [] (0, 0) (LAY, RFu r, mem)) : P 17 [.ref 0, v1, .int x2, v3, v4, v5] [] (0, 0) (LAY, RFu r, mem) := by
  refine r_iload_n hP d115_17 rfl ?_
  refine r_istore_n (L' := [.ref 0, v1, .int x2, .int x2, v4, v5]) hP d115_18 (Nat.le_of_ble_eq_true rfl) rfl ?_
  refine r_iconst (v := nI 0) hP d115_19 rfl ?_
  refine r_istore (L' := [.ref 0, v1, .int x2, .int x2, .int (nI 0), v5]) hP d115_20 (Nat.le_of_ble_eq_true rfl) rfl ?_
  exact k
theorem b115_22 {d : Nat} {P : xPr} {Q : xQr} {r : Nat} {mem : Nat → Nat → Int32} (hP : Cl d none 115 P Q) {q : Nat} {v1 : Value} {v2 : Value} {x3 : Int32} {x4 : Int32} {v5 : Value} (hq : isRule q)
    (kt : (nI 8) ≤ x4 → P 67 [.ref 0, v1, v2, .int x3, .int x4, v5] [] (0, 0) (LAY, RFu r, mem)) (kf : ¬ (nI 8) ≤ x4 → P 29 [.ref 0, v1, v2, .int x3, .int x4, v5] [] (0, 0) (LAY, RFu r, mem)) : P 22 [.ref 0, v1, v2, .int x3, .int x4, v5] [] (0, 0) (LAY, RFu r, mem) := by
  refine r_iload hP d115_22 rfl ?_
  refine r_bipush (v := nI 8) hP d115_24 rfl ?_
  exact r_icmp (t := 67) hP d115_26 (by decide) kt kf
theorem b115_29 {d : Nat} {P : xPr} {Q : xQr} {r : Nat} {mem : Nat → Nat → Int32} (hP : Cl d none 115 P Q) {q : Nat} {v1 : Value} {v2 : Value} {x3 : Int32} {x4 : Int32} {v5 : Value} (hq : isRule q)
    (kt : x3 = 0 → P 67 [.ref 0, v1, v2, .int x3, .int x4, v5] [] (0, 0) (LAY, RFu r, mem)) (kf : ¬ x3 = 0 → P 33 [.ref 0, v1, v2, .int x3, .int x4, v5] [] (0, 0) (LAY, RFu r, mem)) : P 29 [.ref 0, v1, v2, .int x3, .int x4, v5] [] (0, 0) (LAY, RFu r, mem) := by
  refine r_iload_n hP d115_29 rfl ?_
  exact r_if (t := 67) hP d115_30 (by decide) kt kf
theorem b115_33 {d : Nat} {P : xPr} {Q : xQr} {r : Nat} {mem : Nat → Nat → Int32} (hP : Cl d none 115 P Q) {q : Nat} {v1 : Value} {v2 : Value} {x3 : Int32} {x4 : Int32} {v5 : Value} (hq : isRule q)
    (k : xCall d 16 [.ref 51, .int x3] (LAY, RFu r, mem) (Bk P 38 [.ref 0, v1, v2, .int x3, .int x4, v5] [] (0, 0))) : P 33 [.ref 0, v1, v2, .int x3, .int x4, v5] [] (0, 0) (LAY, RFu r, mem) := by
  refine r_aload_n hP d115_33 rfl ?_
  refine r_getr (a := 51) hP d115_34 fr_11_46 rfl ly_0 rg_0_6 ?_
  refine r_iload_n hP d115_37 rfl ?_
  exact r_callv (As := [.int x3]) (S := []) hP d115_38 cr_11_264 (by decide +kernel) rfl (by simp [Value.category]) rfl ly_51 (by simp [Value.category]) ⟨Nat.zero_le _, Nat.zero_le _⟩ k
theorem b115_41 {d : Nat} {P : xPr} {Q : xQr} {r : Nat} {mem : Nat → Nat → Int32} (hP : Cl d none 115 P Q) {q : Nat} {v1 : Value} {v2 : Value} {x3 : Int32} {x4 : Int32} {v5 : Value} {y0 : Int32} (hq : isRule q)
    (k : xCall d 32 [.ref 3, .int y0] (LAY, RFu r, mem) (Bk P 49 [.ref 0, v1, v2, .int x3, .int x4, .int y0] [] (0, 0))) : P 41 [.ref 0, v1, v2, .int x3, .int x4, v5] [.int y0] (0, 0) (LAY, RFu r, mem) := by
  refine r_istore (L' := [.ref 0, v1, v2, .int x3, .int x4, .int y0]) hP d115_41 (Nat.le_of_ble_eq_true rfl) rfl ?_
  refine r_aload_n hP d115_43 rfl ?_
  refine r_getr (a := 3) hP d115_44 fr_11_19 rfl ly_0 rg_0_1 ?_
  refine r_iload hP d115_47 rfl ?_
  exact r_callv (As := [.int y0]) (S := []) hP d115_49 cr_11_222 (by decide +kernel) rfl (by simp [Value.category]) rfl ly_3 (by simp [Value.category]) ⟨Nat.zero_le _, Nat.zero_le _⟩ k
theorem b115_52 {d : Nat} {P : xPr} {Q : xQr} {r : Nat} {mem : Nat → Nat → Int32} (hP : Cl d none 115 P Q) {q : Nat} {v1 : Value} {v2 : Value} {x3 : Int32} {x4 : Int32} {x5 : Int32} (hq : isRule q)
    (k : P 22 [.ref 0, v1, v2, .int (x3 &&& (((nI 1) <<< (x5 &&& 31)) ^^^ (-1))), .int (x4 + nI 1), .int x5] [] (0, 0) (LAY, RFu r, mem)) : P 52 [.ref 0, v1, v2, .int x3, .int x4, .int x5] [] (0, 0) (LAY, RFu r, mem) := by
  refine r_iload_n hP d115_52 rfl ?_
  refine r_iconst (v := nI 1) hP d115_53 rfl ?_
  refine r_iload hP d115_54 rfl ?_
  refine r_ishl hP d115_56 ?_
  refine r_iconst (v := (-1)) hP d115_57 rfl ?_
  refine r_ixor hP d115_58 ?_
  refine r_iand hP d115_59 ?_
  refine r_istore_n (L' := [.ref 0, v1, v2, .int (x3 &&& (((nI 1) <<< (x5 &&& 31)) ^^^ (-1))), .int x4, .int x5]) hP d115_60 (Nat.le_of_ble_eq_true rfl) rfl ?_
  refine r_iinc (v := nI 1) (L' := [.ref 0, v1, v2, .int (x3 &&& (((nI 1) <<< (x5 &&& 31)) ^^^ (-1))), .int (x4 + nI 1), .int x5]) hP d115_61 rfl rfl rfl ?_
  refine r_goto (t := 22) hP d115_64 (by decide) ?_
  exact k
theorem b115_67 {d : Nat} {P : xPr} {Q : xQr} {r : Nat} {mem : Nat → Nat → Int32} (hP : Cl d none 115 P Q) {q : Nat} {v0 : Value} {v1 : Value} {v2 : Value} {v3 : Value} {v4 : Value} {v5 : Value} (hq : isRule q)
    (k : Q none (LAY, RFu r, mem)) : P 67 [v0, v1, v2, v3, v4, v5] [] (0, 0) (LAY, RFu r, mem) := by
  exact r_vret hP d115_67 rfl k
theorem d116_0 : decode (xB 116) 0 = .ok (.aload_n 0, 1) := by decide +kernel
theorem d116_1 : decode (xB 116) 1 = .ok (.getfield 85, 3) := by decide +kernel
theorem d116_4 : decode (xB 116) 4 = .ok (.invokevirtual 267, 3) := by decide +kernel
theorem d116_7 : decode (xB 116) 7 = .ok (.ifCond .ne 18, 3) := by decide +kernel
theorem d116_10 : decode (xB 116) 10 = .ok (.aload_n 0, 1) := by decide +kernel
theorem d116_11 : decode (xB 116) 11 = .ok (.getfield 10, 3) := by decide +kernel
theorem d116_14 : decode (xB 116) 14 = .ok (.invokevirtual 124, 3) := by decide +kernel
theorem d116_17 : decode (xB 116) 17 = .ok (.aload_n 0, 1) := by decide +kernel
theorem d116_18 : decode (xB 116) 18 = .ok (.getfield 10, 3) := by decide +kernel
theorem d116_21 : decode (xB 116) 21 = .ok (.invokevirtual 117, 3) := by decide +kernel
theorem d116_24 : decode (xB 116) 24 = .ok (.ireturn, 1) := by decide +kernel
theorem d116_25 : decode (xB 116) 25 = .ok (.aload_n 0, 1) := by decide +kernel
theorem d116_26 : decode (xB 116) 26 = .ok (.getfield 10, 3) := by decide +kernel
theorem d116_29 : decode (xB 116) 29 = .ok (.invokevirtual 124, 3) := by decide +kernel
theorem d116_32 : decode (xB 116) 32 = .ok (.iconst 0, 1) := by decide +kernel
theorem d116_33 : decode (xB 116) 33 = .ok (.istore_n 1, 1) := by decide +kernel
theorem d116_34 : decode (xB 116) 34 = .ok (.iconst 0, 1) := by decide +kernel
theorem d116_35 : decode (xB 116) 35 = .ok (.istore_n 2, 1) := by decide +kernel
theorem d116_36 : decode (xB 116) 36 = .ok (.iconst 0, 1) := by decide +kernel
theorem d116_37 : decode (xB 116) 37 = .ok (.istore_n 3, 1) := by decide +kernel
theorem d116_38 : decode (xB 116) 38 = .ok (.iconst 0, 1) := by decide +kernel
theorem d116_39 : decode (xB 116) 39 = .ok (.istore 4, 2) := by decide +kernel
theorem d116_41 : decode (xB 116) 41 = .ok (.iload 4, 2) := by decide +kernel
theorem d116_43 : decode (xB 116) 43 = .ok (.aload_n 0, 1) := by decide +kernel
theorem d116_44 : decode (xB 116) 44 = .ok (.getfield 85, 3) := by decide +kernel
theorem d116_47 : decode (xB 116) 47 = .ok (.getfield 268, 3) := by decide +kernel
theorem d116_50 : decode (xB 116) 50 = .ok (.if_icmp .ge 110, 3) := by decide +kernel
theorem d116_53 : decode (xB 116) 53 = .ok (.aload_n 0, 1) := by decide +kernel
theorem d116_54 : decode (xB 116) 54 = .ok (.getfield 85, 3) := by decide +kernel
theorem d116_57 : decode (xB 116) 57 = .ok (.getfield 269, 3) := by decide +kernel
theorem d116_60 : decode (xB 116) 60 = .ok (.iload 4, 2) := by decide +kernel
theorem d116_62 : decode (xB 116) 62 = .ok (.iaload, 1) := by decide +kernel
theorem d116_63 : decode (xB 116) 63 = .ok (.bipush 113, 2) := by decide +kernel
theorem d116_65 : decode (xB 116) 65 = .ok (.if_icmp .ne 36, 3) := by decide +kernel
theorem d116_68 : decode (xB 116) 68 = .ok (.iload_n 1, 1) := by decide +kernel
theorem d116_69 : decode (xB 116) 69 = .ok (.aload_n 0, 1) := by decide +kernel
theorem d116_70 : decode (xB 116) 70 = .ok (.getfield 85, 3) := by decide +kernel
theorem d116_73 : decode (xB 116) 73 = .ok (.getfield 272, 3) := by decide +kernel
theorem d116_76 : decode (xB 116) 76 = .ok (.iload 4, 2) := by decide +kernel
theorem d116_78 : decode (xB 116) 78 = .ok (.iaload, 1) := by decide +kernel
theorem d116_79 : decode (xB 116) 79 = .ok (.iadd, 1) := by decide +kernel
theorem d116_80 : decode (xB 116) 80 = .ok (.istore_n 1, 1) := by decide +kernel
theorem d116_81 : decode (xB 116) 81 = .ok (.iload_n 2, 1) := by decide +kernel
theorem d116_82 : decode (xB 116) 82 = .ok (.aload_n 0, 1) := by decide +kernel
theorem d116_83 : decode (xB 116) 83 = .ok (.aload_n 0, 1) := by decide +kernel
theorem d116_84 : decode (xB 116) 84 = .ok (.getfield 85, 3) := by decide +kernel
theorem d116_87 : decode (xB 116) 87 = .ok (.getfield 272, 3) := by decide +kernel
theorem d116_90 : decode (xB 116) 90 = .ok (.iload 4, 2) := by decide +kernel
theorem d116_92 : decode (xB 116) 92 = .ok (.iaload, 1) := by decide +kernel
theorem d116_93 : decode (xB 116) 93 = .ok (.invokevirtual 210, 3) := by decide +kernel
theorem d116_96 : decode (xB 116) 96 = .ok (.iadd, 1) := by decide +kernel
theorem d116_97 : decode (xB 116) 97 = .ok (.istore_n 2, 1) := by decide +kernel
theorem d116_98 : decode (xB 116) 98 = .ok (.goto 53, 3) := by decide +kernel
theorem d116_101 : decode (xB 116) 101 = .ok (.aload_n 0, 1) := by decide +kernel
theorem d116_102 : decode (xB 116) 102 = .ok (.aload_n 0, 1) := by decide +kernel
theorem d116_103 : decode (xB 116) 103 = .ok (.getfield 85, 3) := by decide +kernel
theorem d116_106 : decode (xB 116) 106 = .ok (.getfield 269, 3) := by decide +kernel
theorem d116_109 : decode (xB 116) 109 = .ok (.iload 4, 2) := by decide +kernel
theorem d116_111 : decode (xB 116) 111 = .ok (.iaload, 1) := by decide +kernel
theorem d116_112 : decode (xB 116) 112 = .ok (.aload_n 0, 1) := by decide +kernel
theorem d116_113 : decode (xB 116) 113 = .ok (.getfield 85, 3) := by decide +kernel
theorem d116_116 : decode (xB 116) 116 = .ok (.getfield 275, 3) := by decide +kernel
theorem d116_119 : decode (xB 116) 119 = .ok (.iload 4, 2) := by decide +kernel
theorem d116_121 : decode (xB 116) 121 = .ok (.iaload, 1) := by decide +kernel
theorem d116_122 : decode (xB 116) 122 = .ok (.aload_n 0, 1) := by decide +kernel
theorem d116_123 : decode (xB 116) 123 = .ok (.getfield 85, 3) := by decide +kernel
theorem d116_126 : decode (xB 116) 126 = .ok (.getfield 278, 3) := by decide +kernel
theorem d116_129 : decode (xB 116) 129 = .ok (.iload 4, 2) := by decide +kernel
theorem d116_131 : decode (xB 116) 131 = .ok (.iaload, 1) := by decide +kernel
theorem d116_132 : decode (xB 116) 132 = .ok (.aload_n 0, 1) := by decide +kernel
theorem d116_133 : decode (xB 116) 133 = .ok (.getfield 85, 3) := by decide +kernel
theorem d116_136 : decode (xB 116) 136 = .ok (.getfield 272, 3) := by decide +kernel
theorem d116_139 : decode (xB 116) 139 = .ok (.iload 4, 2) := by decide +kernel
theorem d116_141 : decode (xB 116) 141 = .ok (.iaload, 1) := by decide +kernel
theorem d116_142 : decode (xB 116) 142 = .ok (.invokevirtual 281, 3) := by decide +kernel
theorem d116_145 : decode (xB 116) 145 = .ok (.ifCond .ne 6, 3) := by decide +kernel
theorem d116_148 : decode (xB 116) 148 = .ok (.goto 12, 3) := by decide +kernel
theorem d116_151 : decode (xB 116) 151 = .ok (.iinc 3 1, 3) := by decide +kernel
theorem d116_154 : decode (xB 116) 154 = .ok (.iinc 4 1, 3) := by decide +kernel
theorem d116_157 : decode (xB 116) 157 = .ok (.goto (-116), 3) := by decide +kernel
theorem d116_160 : decode (xB 116) 160 = .ok (.aload_n 0, 1) := by decide +kernel
theorem d116_161 : decode (xB 116) 161 = .ok (.getfield 19, 3) := by decide +kernel
theorem d116_164 : decode (xB 116) 164 = .ok (.invokevirtual 213, 3) := by decide +kernel
theorem d116_167 : decode (xB 116) 167 = .ok (.aload_n 0, 1) := by decide +kernel
theorem d116_168 : decode (xB 116) 168 = .ok (.getfield 19, 3) := by decide +kernel
theorem d116_171 : decode (xB 116) 171 = .ok (.iload_n 1, 1) := by decide +kernel
theorem d116_172 : decode (xB 116) 172 = .ok (.invokevirtual 222, 3) := by decide +kernel
theorem d116_175 : decode (xB 116) 175 = .ok (.aload_n 0, 1) := by decide +kernel
theorem d116_176 : decode (xB 116) 176 = .ok (.getfield 19, 3) := by decide +kernel
theorem d116_179 : decode (xB 116) 179 = .ok (.iload_n 2, 1) := by decide +kernel
theorem d116_180 : decode (xB 116) 180 = .ok (.invokevirtual 222, 3) := by decide +kernel
theorem d116_183 : decode (xB 116) 183 = .ok (.aload_n 0, 1) := by decide +kernel
theorem d116_184 : decode (xB 116) 184 = .ok (.getfield 19, 3) := by decide +kernel
theorem d116_187 : decode (xB 116) 187 = .ok (.iload_n 3, 1) := by decide +kernel
theorem d116_188 : decode (xB 116) 188 = .ok (.aload_n 0, 1) := by decide +kernel
theorem d116_189 : decode (xB 116) 189 = .ok (.getfield 85, 3) := by decide +kernel
theorem d116_192 : decode (xB 116) 192 = .ok (.getfield 268, 3) := by decide +kernel
theorem d116_195 : decode (xB 116) 195 = .ok (.if_icmp .ge 7, 3) := by decide +kernel
theorem d116_198 : decode (xB 116) 198 = .ok (.iconst 1, 1) := by decide +kernel
theorem d116_199 : decode (xB 116) 199 = .ok (.goto 4, 3) := by decide +kernel
theorem d116_202 : decode (xB 116) 202 = .ok (.iconst 0, 1) := by decide +kernel
theorem d116_203 : decode (xB 116) 203 = .ok (.invokevirtual 222, 3) := by decide +kernel
theorem d116_206 : decode (xB 116) 206 = .ok (.iload_n 3, 1) := by decide +kernel
theorem d116_207 : decode (xB 116) 207 = .ok (.ireturn, 1) := by decide +kernel
theorem b116_0 {d : Nat} {P : xPr} {Q : xQr} {r : Nat} {mem : Nat → Nat → Int32} (hP : Cl d none 116 P Q)
    (k : xCall d 18 [.ref 99] (LAY, RFu r, mem) (Bk P 4 [.ref 0, .null, .null, .null, .null] [] (0, 0))) : P 0 [.ref 0, .null, .null, .null, .null] [] (0, 0) (LAY, RFu r, mem) := by
  refine r_aload_n hP d116_0 rfl ?_
  refine r_getr (a := 99) hP d116_1 fr_11_85 rfl ly_0 rg_0_11 ?_
  exact r_callv (As := []) (S := []) hP d116_4 cr_11_267 (by decide +kernel) rfl (by simp) rfl ly_99 (by simp [Value.category]) ⟨Nat.zero_le _, Nat.zero_le _⟩ k
theorem b116_7 {d : Nat} {P : xPr} {Q : xQr} {r : Nat} {mem : Nat → Nat → Int32} (hP : Cl d none 116 P Q) {v1 : Value} {v2 : Value} {v3 : Value} {v4 : Value} {y0 : Int32}
    (kt : ¬ y0 = 0 → P 25 [.ref 0, v1, v2, v3, v4] [] (0, 0) (LAY, RFu r, mem)) (kf : y0 = 0 → P 10 [.ref 0, v1, v2, v3, v4] [] (0, 0) (LAY, RFu r, mem)) : P 7 [.ref 0, v1, v2, v3, v4] [.int y0] (0, 0) (LAY, RFu r, mem) := by
  exact r_if (t := 25) hP d116_7 (by decide) kt (fun q => kf (Decidable.of_not_not q))
theorem b116_10 {d : Nat} {P : xPr} {Q : xQr} {r : Nat} {mem : Nat → Nat → Int32} (hP : Cl d none 116 P Q) {v1 : Value} {v2 : Value} {v3 : Value} {v4 : Value}
    (k : xCall d 73 [.ref 1] (LAY, RFu r, mem) (Bk P 14 [.ref 0, v1, v2, v3, v4] [] (0, 0))) : P 10 [.ref 0, v1, v2, v3, v4] [] (0, 0) (LAY, RFu r, mem) := by
  refine r_aload_n hP d116_10 rfl ?_
  refine r_getr (a := 1) hP d116_11 fr_11_10 rfl ly_0 rg_0_0 ?_
  exact r_callv (As := []) (S := []) hP d116_14 cr_11_124 (by decide +kernel) rfl (by simp) rfl ly_1 (by simp [Value.category]) ⟨Nat.zero_le _, Nat.zero_le _⟩ k
theorem b116_17 {d : Nat} {P : xPr} {Q : xQr} {r : Nat} {mem : Nat → Nat → Int32} (hP : Cl d none 116 P Q) {v1 : Value} {v2 : Value} {v3 : Value} {v4 : Value}
    (k : xCall d 80 [.ref 1] (LAY, RFu r, mem) (Bk P 21 [.ref 0, v1, v2, v3, v4] [] (0, 0))) : P 17 [.ref 0, v1, v2, v3, v4] [] (0, 0) (LAY, RFu r, mem) := by
  refine r_aload_n hP d116_17 rfl ?_
  refine r_getr (a := 1) hP d116_18 fr_11_10 rfl ly_0 rg_0_0 ?_
  exact r_callv (As := []) (S := []) hP d116_21 cr_11_117 (by decide +kernel) rfl (by simp) rfl ly_1 (by simp [Value.category]) ⟨Nat.zero_le _, Nat.zero_le _⟩ k
theorem b116_24 {d : Nat} {P : xPr} {Q : xQr} {r : Nat} {mem : Nat → Nat → Int32} (hP : Cl d none 116 P Q) {v0 : Value} {v1 : Value} {v2 : Value} {v3 : Value} {v4 : Value} {y0 : Int32}
    (k : Q (some (.int y0)) (LAY, RFu r, mem)) : P 24 [v0, v1, v2, v3, v4] [.int y0] (0, 0) (LAY, RFu r, mem) := by
  exact r_iret hP d116_24 rfl k
theorem b116_25 {d : Nat} {P : xPr} {Q : xQr} {r : Nat} {mem : Nat → Nat → Int32} (hP : Cl d none 116 P Q) {v1 : Value} {v2 : Value} {v3 : Value} {v4 : Value}
    (k : xCall d 73 [.ref 1] (LAY, RFu r, mem) (Bk P 29 [.ref 0, v1, v2, v3, v4] [] (0, 0))) : P 25 [.ref 0, v1, v2, v3, v4] [] (0, 0) (LAY, RFu r, mem) := by
  refine r_aload_n hP d116_25 rfl ?_
  refine r_getr (a := 1) hP d116_26 fr_11_10 rfl ly_0 rg_0_0 ?_
  exact r_callv (As := []) (S := []) hP d116_29 cr_11_124 (by decide +kernel) rfl (by simp) rfl ly_1 (by simp [Value.category]) ⟨Nat.zero_le _, Nat.zero_le _⟩ k
theorem b116_32 {d : Nat} {P : xPr} {Q : xQr} {r : Nat} {mem : Nat → Nat → Int32} (hP : Cl d none 116 P Q) {v1 : Value} {v2 : Value} {v3 : Value} {v4 : Value}
    (k : P 41 [.ref 0, .int (nI 0), .int (nI 0), .int (nI 0), .int (nI 0)] [] (0, 0) (LAY, RFu r, mem)) : P 32 [.ref 0, v1, v2, v3, v4] [] (0, 0) (LAY, RFu r, mem) := by
  refine r_iconst (v := nI 0) hP d116_32 rfl ?_
  refine r_istore_n (L' := [.ref 0, .int (nI 0), v2, v3, v4]) hP d116_33 (Nat.le_of_ble_eq_true rfl) rfl ?_
  refine r_iconst (v := nI 0) hP d116_34 rfl ?_
  refine r_istore_n (L' := [.ref 0, .int (nI 0), .int (nI 0), v3, v4]) hP d116_35 (Nat.le_of_ble_eq_true rfl) rfl ?_
  refine r_iconst (v := nI 0) hP d116_36 rfl ?_
  refine r_istore_n (L' := [.ref 0, .int (nI 0), .int (nI 0), .int (nI 0), v4]) hP d116_37 (Nat.le_of_ble_eq_true rfl) rfl ?_
  refine r_iconst (v := nI 0) hP d116_38 rfl ?_
  refine r_istore (L' := [.ref 0, .int (nI 0), .int (nI 0), .int (nI 0), .int (nI 0)]) hP d116_39 (Nat.le_of_ble_eq_true rfl) rfl ?_
  exact k
theorem b116_41 {d : Nat} {P : xPr} {Q : xQr} {r : Nat} {mem : Nat → Nat → Int32} (hP : Cl d none 116 P Q) {x1 : Int32} {x2 : Int32} {x3 : Int32} {x4 : Int32}
    (kt : (mem 99 4) ≤ x4 → P 160 [.ref 0, .int x1, .int x2, .int x3, .int x4] [] (0, 0) (LAY, RFu r, mem)) (kf : ¬ (mem 99 4) ≤ x4 → P 53 [.ref 0, .int x1, .int x2, .int x3, .int x4] [] (0, 0) (LAY, RFu r, mem)) : P 41 [.ref 0, .int x1, .int x2, .int x3, .int x4] [] (0, 0) (LAY, RFu r, mem) := by
  refine r_iload hP d116_41 rfl ?_
  refine r_aload_n hP d116_43 rfl ?_
  refine r_getr (a := 99) hP d116_44 fr_11_85 rfl ly_0 rg_0_11 ?_
  refine r_geti hP d116_47 fr_11_268 rfl ly_99 ?_
  exact r_icmp (t := 160) hP d116_50 (by decide) kt kf
theorem b116_53 {d : Nat} {P : xPr} {Q : xQr} {r : Nat} {mem : Nat → Nat → Int32} (hP : Cl d none 116 P Q) {x1 : Int32} {x2 : Int32} {x3 : Int32} {x4 : Int32} (hi62 : vp_in x4 60)
    (kt : ¬ (mem 100 x4.toNatClampNeg) = (nI 113) → P 101 [.ref 0, .int x1, .int x2, .int x3, .int x4] [] (0, 0) (LAY, RFu r, mem)) (kf : (mem 100 x4.toNatClampNeg) = (nI 113) → P 68 [.ref 0, .int x1, .int x2, .int x3, .int x4] [] (0, 0) (LAY, RFu r, mem)) : P 53 [.ref 0, .int x1, .int x2, .int x3, .int x4] [] (0, 0) (LAY, RFu r, mem) := by
  refine r_aload_n hP d116_53 rfl ?_
  refine r_getr (a := 99) hP d116_54 fr_11_85 rfl ly_0 rg_0_11 ?_
  refine r_getr (a := 100) hP d116_57 fr_11_269 rfl ly_99 rg_99_0 ?_
  refine r_iload hP d116_60 rfl ?_
  refine r_iaload hP d116_62 ly_100 hi62 ?_
  refine r_bipush (v := nI 113) hP d116_63 rfl ?_
  exact r_icmp (t := 101) hP d116_65 (by decide) kt (fun q => kf (Decidable.of_not_not q))
theorem b116_68 {d : Nat} {P : xPr} {Q : xQr} {r : Nat} {mem : Nat → Nat → Int32} (hP : Cl d none 116 P Q) {x1 : Int32} {x2 : Int32} {x3 : Int32} {x4 : Int32} (hi78 : vp_in x4 60) (hi92 : vp_in x4 60)
    (k : xCall d 110 [.ref 0, .int (mem 103 x4.toNatClampNeg)] (LAY, RFu r, mem) (Bk P 93 [.ref 0, .int (x1 + (mem 103 x4.toNatClampNeg)), .int x2, .int x3, .int x4] [.int x2] (0, 0))) : P 68 [.ref 0, .int x1, .int x2, .int x3, .int x4] [] (0, 0) (LAY, RFu r, mem) := by
  refine r_iload_n hP d116_68 rfl ?_
  refine r_aload_n hP d116_69 rfl ?_
  refine r_getr (a := 99) hP d116_70 fr_11_85 rfl ly_0 rg_0_11 ?_
  refine r_getr (a := 103) hP d116_73 fr_11_272 rfl ly_99 rg_99_3 ?_
  refine r_iload hP d116_76 rfl ?_
  refine r_iaload hP d116_78 ly_103 hi78 ?_
  refine r_iadd hP d116_79 ?_
  refine r_istore_n (L' := [.ref 0, .int (x1 + (mem 103 x4.toNatClampNeg)), .int x2, .int x3, .int x4]) hP d116_80 (Nat.le_of_ble_eq_true rfl) rfl ?_
  refine r_iload_n hP d116_81 rfl ?_
  refine r_aload_n hP d116_82 rfl ?_
  refine r_aload_n hP d116_83 rfl ?_
  refine r_getr (a := 99) hP d116_84 fr_11_85 rfl ly_0 rg_0_11 ?_
  refine r_getr (a := 103) hP d116_87 fr_11_272 rfl ly_99 rg_99_3 ?_
  refine r_iload hP d116_90 rfl ?_
  refine r_iaload hP d116_92 ly_103 hi92 ?_
  exact r_callv (As := [.int (mem 103 x4.toNatClampNeg)]) (S := [.int x2]) hP d116_93 cr_11_210 (by decide +kernel) rfl (by simp [Value.category]) rfl ly_0 (by simp [Value.category]) ⟨Nat.zero_le _, Nat.zero_le _⟩ k
theorem b116_96 {d : Nat} {P : xPr} {Q : xQr} {r : Nat} {mem : Nat → Nat → Int32} (hP : Cl d none 116 P Q) {x1 : Int32} {v2 : Value} {x3 : Int32} {x4 : Int32} {y0 : Int32} {y1 : Int32}
    (k : P 151 [.ref 0, .int x1, .int (y0 + y1), .int x3, .int x4] [] (0, 0) (LAY, RFu r, mem)) : P 96 [.ref 0, .int x1, v2, .int x3, .int x4] [.int y1, .int y0] (0, 0) (LAY, RFu r, mem) := by
  refine r_iadd hP d116_96 ?_
  refine r_istore_n (L' := [.ref 0, .int x1, .int (y0 + y1), .int x3, .int x4]) hP d116_97 (Nat.le_of_ble_eq_true rfl) rfl ?_
  refine r_goto (t := 151) hP d116_98 (by decide) ?_
  exact k
theorem b116_101 {d : Nat} {P : xPr} {Q : xQr} {r : Nat} {mem : Nat → Nat → Int32} (hP : Cl d none 116 P Q) {x1 : Int32} {x2 : Int32} {x3 : Int32} {x4 : Int32} (hi111 : vp_in x4 60) (hi121 : vp_in x4 60) (hi131 : vp_in x4 60) (hi141 : vp_in x4 60)
    (k : xCall d 117 [.ref 0, .int (mem 100 x4.toNatClampNeg), .int (mem 101 x4.toNatClampNeg), .int (mem 102 x4.toNatClampNeg), .int (mem 103 x4.toNatClampNeg)] (LAY, RFu r, mem) (Bk P 142 [.ref 0, .int x1, .int x2, .int x3, .int x4] [] (0, 0))) : P 101 [.ref 0, .int x1, .int x2, .int x3, .int x4] [] (0, 0) (LAY, RFu r, mem) := by
  refine r_aload_n hP d116_101 rfl ?_
  refine r_aload_n hP d116_102 rfl ?_
  refine r_getr (a := 99) hP d116_103 fr_11_85 rfl ly_0 rg_0_11 ?_
  refine r_getr (a := 100) hP d116_106 fr_11_269 rfl ly_99 rg_99_0 ?_
  refine r_iload hP d116_109 rfl ?_
  refine r_iaload hP d116_111 ly_100 hi111 ?_
  refine r_aload_n hP d116_112 rfl ?_
  refine r_getr (a := 99) hP d116_113 fr_11_85 rfl ly_0 rg_0_11 ?_
  refine r_getr (a := 101) hP d116_116 fr_11_275 rfl ly_99 rg_99_1 ?_
  refine r_iload hP d116_119 rfl ?_
  refine r_iaload hP d116_121 ly_101 hi121 ?_
  refine r_aload_n hP d116_122 rfl ?_
  refine r_getr (a := 99) hP d116_123 fr_11_85 rfl ly_0 rg_0_11 ?_
  refine r_getr (a := 102) hP d116_126 fr_11_278 rfl ly_99 rg_99_2 ?_
  refine r_iload hP d116_129 rfl ?_
  refine r_iaload hP d116_131 ly_102 hi131 ?_
  refine r_aload_n hP d116_132 rfl ?_
  refine r_getr (a := 99) hP d116_133 fr_11_85 rfl ly_0 rg_0_11 ?_
  refine r_getr (a := 103) hP d116_136 fr_11_272 rfl ly_99 rg_99_3 ?_
  refine r_iload hP d116_139 rfl ?_
  refine r_iaload hP d116_141 ly_103 hi141 ?_
  exact r_callv (As := [.int (mem 100 x4.toNatClampNeg), .int (mem 101 x4.toNatClampNeg), .int (mem 102 x4.toNatClampNeg), .int (mem 103 x4.toNatClampNeg)]) (S := []) hP d116_142 cr_11_281 (by decide +kernel) rfl (by simp [Value.category]) rfl ly_0 (by simp [Value.category]) ⟨Nat.zero_le _, Nat.zero_le _⟩ k
theorem b116_145 {d : Nat} {P : xPr} {Q : xQr} {r : Nat} {mem : Nat → Nat → Int32} (hP : Cl d none 116 P Q) {x1 : Int32} {x2 : Int32} {x3 : Int32} {x4 : Int32} {y0 : Int32}
    (kt : ¬ y0 = 0 → P 151 [.ref 0, .int x1, .int x2, .int x3, .int x4] [] (0, 0) (LAY, RFu r, mem)) (kf : y0 = 0 → P 148 [.ref 0, .int x1, .int x2, .int x3, .int x4] [] (0, 0) (LAY, RFu r, mem)) : P 145 [.ref 0, .int x1, .int x2, .int x3, .int x4] [.int y0] (0, 0) (LAY, RFu r, mem) := by
  exact r_if (t := 151) hP d116_145 (by decide) kt (fun q => kf (Decidable.of_not_not q))
theorem b116_148 {d : Nat} {P : xPr} {Q : xQr} {r : Nat} {mem : Nat → Nat → Int32} (hP : Cl d none 116 P Q) {x1 : Int32} {x2 : Int32} {x3 : Int32} {v4 : Value}
    (k : P 160 [.ref 0, .int x1, .int x2, .int x3, v4] [] (0, 0) (LAY, RFu r, mem)) : P 148 [.ref 0, .int x1, .int x2, .int x3, v4] [] (0, 0) (LAY, RFu r, mem) := by
  refine r_goto (t := 160) hP d116_148 (by decide) ?_
  exact k
theorem b116_151 {d : Nat} {P : xPr} {Q : xQr} {r : Nat} {mem : Nat → Nat → Int32} (hP : Cl d none 116 P Q) {x1 : Int32} {x2 : Int32} {x3 : Int32} {x4 : Int32}
    (k : P 41 [.ref 0, .int x1, .int x2, .int (x3 + nI 1), .int (x4 + nI 1)] [] (0, 0) (LAY, RFu r, mem)) : P 151 [.ref 0, .int x1, .int x2, .int x3, .int x4] [] (0, 0) (LAY, RFu r, mem) := by
  refine r_iinc (v := nI 1) (L' := [.ref 0, .int x1, .int x2, .int (x3 + nI 1), .int x4]) hP d116_151 rfl rfl rfl ?_
  refine r_iinc (v := nI 1) (L' := [.ref 0, .int x1, .int x2, .int (x3 + nI 1), .int (x4 + nI 1)]) hP d116_154 rfl rfl rfl ?_
  refine r_goto (t := 41) hP d116_157 (by decide) ?_
  exact k
theorem b116_160 {d : Nat} {P : xPr} {Q : xQr} {r : Nat} {mem : Nat → Nat → Int32} (hP : Cl d none 116 P Q) {x1 : Int32} {x2 : Int32} {x3 : Int32} {v4 : Value}
    (k : xCall d 31 [.ref 3] (LAY, RFu r, mem) (Bk P 164 [.ref 0, .int x1, .int x2, .int x3, v4] [] (0, 0))) : P 160 [.ref 0, .int x1, .int x2, .int x3, v4] [] (0, 0) (LAY, RFu r, mem) := by
  refine r_aload_n hP d116_160 rfl ?_
  refine r_getr (a := 3) hP d116_161 fr_11_19 rfl ly_0 rg_0_1 ?_
  exact r_callv (As := []) (S := []) hP d116_164 cr_11_213 (by decide +kernel) rfl (by simp) rfl ly_3 (by simp [Value.category]) ⟨Nat.zero_le _, Nat.zero_le _⟩ k
theorem b116_167 {d : Nat} {P : xPr} {Q : xQr} {r : Nat} {mem : Nat → Nat → Int32} (hP : Cl d none 116 P Q) {x1 : Int32} {x2 : Int32} {x3 : Int32} {v4 : Value}
    (k : xCall d 32 [.ref 3, .int x1] (LAY, RFu r, mem) (Bk P 172 [.ref 0, .int x1, .int x2, .int x3, v4] [] (0, 0))) : P 167 [.ref 0, .int x1, .int x2, .int x3, v4] [] (0, 0) (LAY, RFu r, mem) := by
  refine r_aload_n hP d116_167 rfl ?_
  refine r_getr (a := 3) hP d116_168 fr_11_19 rfl ly_0 rg_0_1 ?_
  refine r_iload_n hP d116_171 rfl ?_
  exact r_callv (As := [.int x1]) (S := []) hP d116_172 cr_11_222 (by decide +kernel) rfl (by simp [Value.category]) rfl ly_3 (by simp [Value.category]) ⟨Nat.zero_le _, Nat.zero_le _⟩ k
theorem b116_175 {d : Nat} {P : xPr} {Q : xQr} {r : Nat} {mem : Nat → Nat → Int32} (hP : Cl d none 116 P Q) {v1 : Value} {x2 : Int32} {x3 : Int32} {v4 : Value}
    (k : xCall d 32 [.ref 3, .int x2] (LAY, RFu r, mem) (Bk P 180 [.ref 0, v1, .int x2, .int x3, v4] [] (0, 0))) : P 175 [.ref 0, v1, .int x2, .int x3, v4] [] (0, 0) (LAY, RFu r, mem) := by
  refine r_aload_n hP d116_175 rfl ?_
  refine r_getr (a := 3) hP d116_176 fr_11_19 rfl ly_0 rg_0_1 ?_
  refine r_iload_n hP d116_179 rfl ?_
  exact r_callv (As := [.int x2]) (S := []) hP d116_180 cr_11_222 (by decide +kernel) rfl (by simp [Value.category]) rfl ly_3 (by simp [Value.category]) ⟨Nat.zero_le _, Nat.zero_le _⟩ k
theorem b116_183 {d : Nat} {P : xPr} {Q : xQr} {r : Nat} {mem : Nat → Nat → Int32} (hP : Cl d none 116 P Q) {v1 : Value} {v2 : Value} {x3 : Int32} {v4 : Value}
    (kt : (mem 99 4) ≤ x3 → P 202 [.ref 0, v1, v2, .int x3, v4] [.ref 3] (0, 0) (LAY, RFu r, mem)) (kf : ¬ (mem 99 4) ≤ x3 → P 198 [.ref 0, v1, v2, .int x3, v4] [.ref 3] (0, 0) (LAY, RFu r, mem)) : P 183 [.ref 0, v1, v2, .int x3, v4] [] (0, 0) (LAY, RFu r, mem) := by
  refine r_aload_n hP d116_183 rfl ?_
  refine r_getr (a := 3) hP d116_184 fr_11_19 rfl ly_0 rg_0_1 ?_
  refine r_iload_n hP d116_187 rfl ?_
  refine r_aload_n hP d116_188 rfl ?_
  refine r_getr (a := 99) hP d116_189 fr_11_85 rfl ly_0 rg_0_11 ?_
  refine r_geti hP d116_192 fr_11_268 rfl ly_99 ?_
  exact r_icmp (t := 202) hP d116_195 (by decide) kt kf
theorem b116_198 {d : Nat} {P : xPr} {Q : xQr} {r : Nat} {mem : Nat → Nat → Int32} (hP : Cl d none 116 P Q) {v0 : Value} {v1 : Value} {v2 : Value} {x3 : Int32} {v4 : Value}
    (k : P 203 [v0, v1, v2, .int x3, v4] [.int (nI 1), .ref 3] (0, 0) (LAY, RFu r, mem)) : P 198 [v0, v1, v2, .int x3, v4] [.ref 3] (0, 0) (LAY, RFu r, mem) := by
  refine r_iconst (v := nI 1) hP d116_198 rfl ?_
  refine r_goto (t := 203) hP d116_199 (by decide) ?_
  exact k
theorem b116_202 {d : Nat} {P : xPr} {Q : xQr} {r : Nat} {mem : Nat → Nat → Int32} (hP : Cl d none 116 P Q) {v0 : Value} {v1 : Value} {v2 : Value} {x3 : Int32} {v4 : Value}
    (k : P 203 [v0, v1, v2, .int x3, v4] [.int (nI 0), .ref 3] (0, 0) (LAY, RFu r, mem)) : P 202 [v0, v1, v2, .int x3, v4] [.ref 3] (0, 0) (LAY, RFu r, mem) := by
  refine r_iconst (v := nI 0) hP d116_202 rfl ?_
  exact k
theorem b116_203 {d : Nat} {P : xPr} {Q : xQr} {r : Nat} {mem : Nat → Nat → Int32} (hP : Cl d none 116 P Q) {v0 : Value} {v1 : Value} {v2 : Value} {x3 : Int32} {v4 : Value} {y1 : Int32}
    (k : xCall d 32 [.ref 3, .int y1] (LAY, RFu r, mem) (Bk P 203 [v0, v1, v2, .int x3, v4] [] (0, 0))) : P 203 [v0, v1, v2, .int x3, v4] [.int y1, .ref 3] (0, 0) (LAY, RFu r, mem) := by
  exact r_callv (As := [.int y1]) (S := []) hP d116_203 cr_11_222 (by decide +kernel) rfl (by simp [Value.category]) rfl ly_3 (by simp [Value.category]) ⟨Nat.zero_le _, Nat.zero_le _⟩ k
theorem b116_206 {d : Nat} {P : xPr} {Q : xQr} {r : Nat} {mem : Nat → Nat → Int32} (hP : Cl d none 116 P Q) {v0 : Value} {v1 : Value} {v2 : Value} {x3 : Int32} {v4 : Value}
    (k : Q (some (.int x3)) (LAY, RFu r, mem)) : P 206 [v0, v1, v2, .int x3, v4] [] (0, 0) (LAY, RFu r, mem) := by
  refine r_iload_n hP d116_206 rfl ?_
  exact r_iret hP d116_207 rfl k
theorem d117_0 : decode (xB 117) 0 = .ok (.iload_n 1, 1) := by decide +kernel
theorem d117_1 : decode (xB 117) 1 = .ok (.lookupswitch 66 #[(99, 35), (115, 52), (119, 59)], 35) := by decide +kernel
theorem d117_36 : decode (xB 117) 36 = .ok (.aload_n 0, 1) := by decide +kernel
theorem d117_37 : decode (xB 117) 37 = .ok (.iload_n 2, 1) := by decide +kernel
theorem d117_38 : decode (xB 117) 38 = .ok (.iload 4, 2) := by decide +kernel
theorem d117_40 : decode (xB 117) 40 = .ok (.invokevirtual 285, 3) := by decide +kernel
theorem d117_43 : decode (xB 117) 43 = .ok (.iconst (-1), 1) := by decide +kernel
theorem d117_44 : decode (xB 117) 44 = .ok (.if_icmp .eq 7, 3) := by decide +kernel
theorem d117_47 : decode (xB 117) 47 = .ok (.iconst 1, 1) := by decide +kernel
theorem d117_48 : decode (xB 117) 48 = .ok (.goto 4, 3) := by decide +kernel
theorem d117_51 : decode (xB 117) 51 = .ok (.iconst 0, 1) := by decide +kernel
theorem d117_52 : decode (xB 117) 52 = .ok (.ireturn, 1) := by decide +kernel
theorem d117_53 : decode (xB 117) 53 = .ok (.aload_n 0, 1) := by decide +kernel
theorem d117_54 : decode (xB 117) 54 = .ok (.iload_n 2, 1) := by decide +kernel
theorem d117_55 : decode (xB 117) 55 = .ok (.iconst 1, 1) := by decide +kernel
theorem d117_56 : decode (xB 117) 56 = .ok (.invokevirtual 287, 3) := by decide +kernel
theorem d117_59 : decode (xB 117) 59 = .ok (.ireturn, 1) := by decide +kernel
theorem d117_60 : decode (xB 117) 60 = .ok (.aload_n 0, 1) := by decide +kernel
theorem d117_61 : decode (xB 117) 61 = .ok (.iload_n 2, 1) := by decide +kernel
theorem d117_62 : decode (xB 117) 62 = .ok (.iconst 0, 1) := by decide +kernel
theorem d117_63 : decode (xB 117) 63 = .ok (.invokevirtual 287, 3) := by decide +kernel
theorem d117_66 : decode (xB 117) 66 = .ok (.ireturn, 1) := by decide +kernel
theorem d117_67 : decode (xB 117) 67 = .ok (.aload_n 0, 1) := by decide +kernel
theorem d117_68 : decode (xB 117) 68 = .ok (.iload_n 2, 1) := by decide +kernel
theorem d117_69 : decode (xB 117) 69 = .ok (.iload_n 3, 1) := by decide +kernel
theorem d117_70 : decode (xB 117) 70 = .ok (.iload 4, 2) := by decide +kernel
theorem d117_72 : decode (xB 117) 72 = .ok (.invokevirtual 290, 3) := by decide +kernel
theorem d117_75 : decode (xB 117) 75 = .ok (.ireturn, 1) := by decide +kernel
theorem b117_0 {d : Nat} {P : xPr} {Q : xQr} {r : Nat} {mem : Nat → Nat → Int32} (hP : Cl d none 117 P Q) {p0 : Int32} {p1 : Int32} {p2 : Int32} {p3 : Int32}
    (kd : ¬ p0.toInt = 99 → ¬ p0.toInt = 115 → ¬ p0.toInt = 119 → P 67 [.ref 0, .int p0, .int p1, .int p2, .int p3] [] (0, 0) (LAY, RFu r, mem)) (k0 : p0.toInt = 99 → P 36 [.ref 0, .int p0, .int p1, .int p2, .int p3] [] (0, 0) (LAY, RFu r, mem)) (k1 : p0.toInt = 115 → P 53 [.ref 0, .int p0, .int p1, .int p2, .int p3] [] (0, 0) (LAY, RFu r, mem)) (k2 : p0.toInt = 119 → P 60 [.ref 0, .int p0, .int p1, .int p2, .int p3] [] (0, 0) (LAY, RFu r, mem)) : P 0 [.ref 0, .int p0, .int p1, .int p2, .int p3] [] (0, 0) (LAY, RFu r, mem) := by
  refine r_iload_n hP d117_0 rfl ?_
  refine r_lookup hP d117_1 (by decide) ?_
  by_cases c0 : p0.toInt = 99
  · rw [c0]; exact ⟨36, by decide, k0 c0⟩
  by_cases c1 : p0.toInt = 115
  · rw [c1]; exact ⟨53, by decide, k1 c1⟩
  by_cases c2 : p0.toInt = 119
  · rw [c2]; exact ⟨60, by decide, k2 c2⟩
  have e : Op.lookupswitch.offset [(99, 35), (115, 52), (119, 59)] 66 p0.toInt = 66 := by simp [Op.lookupswitch.offset, Ne.symm c0, Ne.symm c1, Ne.symm c2]
  exact ⟨67, by show (1 : Int) + Op.lookupswitch.offset [(99, 35), (115, 52), (119, 59)] 66 p0.toInt = _; rw [e]; decide, kd c0 c1 c2⟩
theorem b117_36 {d : Nat} {P : xPr} {Q : xQr} {r : Nat} {mem : Nat → Nat → Int32} (hP : Cl d none 117 P Q) {v1 : Value} {x2 : Int32} {v3 : Value} {x4 : Int32}
    (k : xCall d 105 [.ref 0, .int x2, .int x4] (LAY, RFu r, mem) (Bk P 40 [.ref 0, v1, .int x2, v3, .int x4] [] (0, 0))) : P 36 [.ref 0, v1, .int x2, v3, .int x4] [] (0, 0) (LAY, RFu r, mem) := by
  refine r_aload_n hP d117_36 rfl ?_
  refine r_iload_n hP d117_37 rfl ?_
  refine r_iload hP d117_38 rfl ?_
  exact r_callv (As := [.int x2, .int x4]) (S := []) hP d117_40 cr_11_285 (by decide +kernel) rfl (by simp [Value.category]) rfl ly_0 (by simp [Value.category]) ⟨Nat.zero_le _, Nat.zero_le _⟩ k
theorem b117_43 {d : Nat} {P : xPr} {Q : xQr} {r : Nat} {mem : Nat → Nat → Int32} (hP : Cl d none 117 P Q) {v0 : Value} {v1 : Value} {v2 : Value} {v3 : Value} {v4 : Value} {y0 : Int32}
    (kt : y0 = (-1) → P 51 [v0, v1, v2, v3, v4] [] (0, 0) (LAY, RFu r, mem)) (kf : ¬ y0 = (-1) → P 47 [v0, v1, v2, v3, v4] [] (0, 0) (LAY, RFu r, mem)) : P 43 [v0, v1, v2, v3, v4] [.int y0] (0, 0) (LAY, RFu r, mem) := by
  refine r_iconst (v := (-1)) hP d117_43 rfl ?_
  exact r_icmp (t := 51) hP d117_44 (by decide) kt kf
theorem b117_47 {d : Nat} {P : xPr} {Q : xQr} {r : Nat} {mem : Nat → Nat → Int32} (hP : Cl d none 117 P Q) {v0 : Value} {v1 : Value} {v2 : Value} {v3 : Value} {v4 : Value}
    (k : P 52 [v0, v1, v2, v3, v4] [.int (nI 1)] (0, 0) (LAY, RFu r, mem)) : P 47 [v0, v1, v2, v3, v4] [] (0, 0) (LAY, RFu r, mem) := by
  refine r_iconst (v := nI 1) hP d117_47 rfl ?_
  refine r_goto (t := 52) hP d117_48 (by decide) ?_
  exact k
theorem b117_51 {d : Nat} {P : xPr} {Q : xQr} {r : Nat} {mem : Nat → Nat → Int32} (hP : Cl d none 117 P Q) {v0 : Value} {v1 : Value} {v2 : Value} {v3 : Value} {v4 : Value}
    (k : P 52 [v0, v1, v2, v3, v4] [.int (nI 0)] (0, 0) (LAY, RFu r, mem)) : P 51 [v0, v1, v2, v3, v4] [] (0, 0) (LAY, RFu r, mem) := by
  refine r_iconst (v := nI 0) hP d117_51 rfl ?_
  exact k
theorem b117_52 {d : Nat} {P : xPr} {Q : xQr} {r : Nat} {mem : Nat → Nat → Int32} (hP : Cl d none 117 P Q) {v0 : Value} {v1 : Value} {v2 : Value} {v3 : Value} {v4 : Value} {y0 : Int32} (hzr : y0 = 0 ∨ y0 = 1)
    (k : Q (some (.int y0)) (LAY, RFu r, mem)) : P 52 [v0, v1, v2, v3, v4] [.int y0] (0, 0) (LAY, RFu r, mem) := by
  exact r_zret hP d117_52 rfl hzr k
theorem b117_53 {d : Nat} {P : xPr} {Q : xQr} {r : Nat} {mem : Nat → Nat → Int32} (hP : Cl d none 117 P Q) {v1 : Value} {x2 : Int32} {v3 : Value} {v4 : Value}
    (k : xCall d 106 [.ref 0, .int x2, .int (nI 1)] (LAY, RFu r, mem) (Bk P 56 [.ref 0, v1, .int x2, v3, v4] [] (0, 0))) : P 53 [.ref 0, v1, .int x2, v3, v4] [] (0, 0) (LAY, RFu r, mem) := by
  refine r_aload_n hP d117_53 rfl ?_
  refine r_iload_n hP d117_54 rfl ?_
  refine r_iconst (v := nI 1) hP d117_55 rfl ?_
  exact r_callv (As := [.int x2, .int (nI 1)]) (S := []) hP d117_56 cr_11_287 (by decide +kernel) rfl (by simp [Value.category]) rfl ly_0 (by simp [Value.category]) ⟨Nat.zero_le _, Nat.zero_le _⟩ k
theorem b117_59 {d : Nat} {P : xPr} {Q : xQr} {r : Nat} {mem : Nat → Nat → Int32} (hP : Cl d none 117 P Q) {v0 : Value} {v1 : Value} {v2 : Value} {v3 : Value} {v4 : Value} {y0 : Int32} (hzr : y0 = 0 ∨ y0 = 1)
    (k : Q (some (.int y0)) (LAY, RFu r, mem)) : P 59 [v0, v1, v2, v3, v4] [.int y0] (0, 0) (LAY, RFu r, mem) := by
  exact r_zret hP d117_59 rfl hzr k
theorem b117_60 {d : Nat} {P : xPr} {Q : xQr} {r : Nat} {mem : Nat → Nat → Int32} (hP : Cl d none 117 P Q) {v1 : Value} {x2 : Int32} {v3 : Value} {v4 : Value}
    (k : xCall d 106 [.ref 0, .int x2, .int (nI 0)] (LAY, RFu r, mem) (Bk P 63 [.ref 0, v1, .int x2, v3, v4] [] (0, 0))) : P 60 [.ref 0, v1, .int x2, v3, v4] [] (0, 0) (LAY, RFu r, mem) := by
  refine r_aload_n hP d117_60 rfl ?_
  refine r_iload_n hP d117_61 rfl ?_
  refine r_iconst (v := nI 0) hP d117_62 rfl ?_
  exact r_callv (As := [.int x2, .int (nI 0)]) (S := []) hP d117_63 cr_11_287 (by decide +kernel) rfl (by simp [Value.category]) rfl ly_0 (by simp [Value.category]) ⟨Nat.zero_le _, Nat.zero_le _⟩ k
theorem b117_66 {d : Nat} {P : xPr} {Q : xQr} {r : Nat} {mem : Nat → Nat → Int32} (hP : Cl d none 117 P Q) {v0 : Value} {v1 : Value} {v2 : Value} {v3 : Value} {v4 : Value} {y0 : Int32} (hzr : y0 = 0 ∨ y0 = 1)
    (k : Q (some (.int y0)) (LAY, RFu r, mem)) : P 66 [v0, v1, v2, v3, v4] [.int y0] (0, 0) (LAY, RFu r, mem) := by
  exact r_zret hP d117_66 rfl hzr k
theorem b117_67 {d : Nat} {P : xPr} {Q : xQr} {r : Nat} {mem : Nat → Nat → Int32} (hP : Cl d none 117 P Q) {v1 : Value} {x2 : Int32} {x3 : Int32} {x4 : Int32}
    (k : xCall d 122 [.ref 0, .int x2, .int x3, .int x4] (LAY, RFu r, mem) (Bk P 72 [.ref 0, v1, .int x2, .int x3, .int x4] [] (0, 0))) : P 67 [.ref 0, v1, .int x2, .int x3, .int x4] [] (0, 0) (LAY, RFu r, mem) := by
  refine r_aload_n hP d117_67 rfl ?_
  refine r_iload_n hP d117_68 rfl ?_
  refine r_iload_n hP d117_69 rfl ?_
  refine r_iload hP d117_70 rfl ?_
  exact r_callv (As := [.int x2, .int x3, .int x4]) (S := []) hP d117_72 cr_11_290 (by decide +kernel) rfl (by simp [Value.category]) rfl ly_0 (by simp [Value.category]) ⟨Nat.zero_le _, Nat.zero_le _⟩ k
theorem b117_75 {d : Nat} {P : xPr} {Q : xQr} {r : Nat} {mem : Nat → Nat → Int32} (hP : Cl d none 117 P Q) {v0 : Value} {v1 : Value} {v2 : Value} {v3 : Value} {v4 : Value} {y0 : Int32} (hzr : y0 = 0 ∨ y0 = 1)
    (k : Q (some (.int y0)) (LAY, RFu r, mem)) : P 75 [v0, v1, v2, v3, v4] [.int y0] (0, 0) (LAY, RFu r, mem) := by
  exact r_zret hP d117_75 rfl hzr k
theorem d118_0 : decode (xB 118) 0 = .ok (.aload_n 0, 1) := by decide +kernel
theorem d118_1 : decode (xB 118) 1 = .ok (.getfield 26, 3) := by decide +kernel
theorem d118_4 : decode (xB 118) 4 = .ok (.iload_n 1, 1) := by decide +kernel
theorem d118_5 : decode (xB 118) 5 = .ok (.invokevirtual 127, 3) := by decide +kernel
theorem d118_8 : decode (xB 118) 8 = .ok (.ifCond .eq 13, 3) := by decide +kernel
theorem d118_11 : decode (xB 118) 11 = .ok (.iload_n 2, 1) := by decide +kernel
theorem d118_12 : decode (xB 118) 12 = .ok (.iconst 0, 1) := by decide +kernel
theorem d118_13 : decode (xB 118) 13 = .ok (.bipush 30, 2) := by decide +kernel
theorem d118_15 : decode (xB 118) 15 = .ok (.invokestatic 185, 3) := by decide +kernel
theorem d118_18 : decode (xB 118) 18 = .ok (.ifCond .ne 11, 3) := by decide +kernel
theorem d118_21 : decode (xB 118) 21 = .ok (.new 162, 3) := by decide +kernel
theorem d118_29 : decode (xB 118) 29 = .ok (.iconst 0, 1) := by decide +kernel
theorem d118_30 : decode (xB 118) 30 = .ok (.istore_n 3, 1) := by decide +kernel
theorem d118_31 : decode (xB 118) 31 = .ok (.aload_n 0, 1) := by decide +kernel
theorem d118_32 : decode (xB 118) 32 = .ok (.getfield 40, 3) := by decide +kernel
theorem d118_35 : decode (xB 118) 35 = .ok (.aload_n 0, 1) := by decide +kernel
theorem d118_36 : decode (xB 118) 36 = .ok (.getfield 36, 3) := by decide +kernel
theorem d118_39 : decode (xB 118) 39 = .ok (.invokevirtual 293, 3) := by decide +kernel
theorem d118_42 : decode (xB 118) 42 = .ok (.iconst 0, 1) := by decide +kernel
theorem d118_43 : decode (xB 118) 43 = .ok (.istore 4, 2) := by decide +kernel
theorem d118_45 : decode (xB 118) 45 = .ok (.iload 4, 2) := by decide +kernel
theorem d118_47 : decode (xB 118) 47 = .ok (.iload_n 2, 1) := by decide +kernel
theorem d118_48 : decode (xB 118) 48 = .ok (.if_icmp .ge 44, 3) := by decide +kernel
theorem d118_51 : decode (xB 118) 51 = .ok (.aload_n 0, 1) := by decide +kernel
theorem d118_52 : decode (xB 118) 52 = .ok (.getfield 46, 3) := by decide +kernel
theorem d118_55 : decode (xB 118) 55 = .ok (.aload_n 0, 1) := by decide +kernel
theorem d118_56 : decode (xB 118) 56 = .ok (.getfield 26, 3) := by decide +kernel
theorem d118_59 : decode (xB 118) 59 = .ok (.aload_n 0, 1) := by decide +kernel
theorem d118_60 : decode (xB 118) 60 = .ok (.getfield 40, 3) := by decide +kernel
theorem d118_63 : decode (xB 118) 63 = .ok (.invokevirtual 229, 3) := by decide +kernel
theorem d118_66 : decode (xB 118) 66 = .ok (.pop, 1) := by decide +kernel
theorem d118_67 : decode (xB 118) 67 = .ok (.aload_n 0, 1) := by decide +kernel
theorem d118_68 : decode (xB 118) 68 = .ok (.getfield 40, 3) := by decide +kernel
theorem d118_71 : decode (xB 118) 71 = .ok (.iload_n 1, 1) := by decide +kernel
theorem d118_72 : decode (xB 118) 72 = .ok (.invokevirtual 174, 3) := by decide +kernel
theorem d118_75 : decode (xB 118) 75 = .ok (.iconst 1, 1) := by decide +kernel
theorem d118_76 : decode (xB 118) 76 = .ok (.if_icmp .ne 10, 3) := by decide +kernel
theorem d118_79 : decode (xB 118) 79 = .ok (.iload_n 3, 1) := by decide +kernel
theorem d118_80 : decode (xB 118) 80 = .ok (.iconst 1, 1) := by decide +kernel
theorem d118_81 : decode (xB 118) 81 = .ok (.iload 4, 2) := by decide +kernel
theorem d118_83 : decode (xB 118) 83 = .ok (.ishl, 1) := by decide +kernel
theorem d118_84 : decode (xB 118) 84 = .ok (.ior, 1) := by decide +kernel
theorem d118_85 : decode (xB 118) 85 = .ok (.istore_n 3, 1) := by decide +kernel
theorem d118_86 : decode (xB 118) 86 = .ok (.iinc 4 1, 3) := by decide +kernel
theorem d118_89 : decode (xB 118) 89 = .ok (.goto (-44), 3) := by decide +kernel
theorem d118_92 : decode (xB 118) 92 = .ok (.iload_n 3, 1) := by decide +kernel
theorem d118_93 : decode (xB 118) 93 = .ok (.ireturn, 1) := by decide +kernel
theorem b118_0 {d : Nat} {P : xPr} {Q : xQr} {r : Nat} {mem : Nat → Nat → Int32} (hP : Cl d none 118 P Q) {p0 : Int32} {p1 : Int32}
    (k : xCall d 83 [.ref 5, .int p0] (LAY, RFu r, mem) (Bk P 5 [.ref 0, .int p0, .int p1, .null, .null] [] (0, 0))) : P 0 [.ref 0, .int p0, .int p1, .null, .null] [] (0, 0) (LAY, RFu r, mem) := by
  refine r_aload_n hP d118_0 rfl ?_
  refine r_getr (a := 5) hP d118_1 fr_11_26 rfl ly_0 rg_0_2 ?_
  refine r_iload_n hP d118_4 rfl ?_
  exact r_callv (As := [.int p0]) (S := []) hP d118_5 cr_11_127 (by decide +kernel) rfl (by simp [Value.category]) rfl ly_5 (by simp [Value.category]) ⟨Nat.zero_le _, Nat.zero_le _⟩ k
theorem b118_8 {d : Nat} {P : xPr} {Q : xQr} {r : Nat} {mem : Nat → Nat → Int32} (hP : Cl d none 118 P Q) {x1 : Int32} {x2 : Int32} {v3 : Value} {v4 : Value} {y0 : Int32}
    (kt : y0 = 0 → P 21 [.ref 0, .int x1, .int x2, v3, v4] [] (0, 0) (LAY, RFu r, mem)) (kf : ¬ y0 = 0 → P 11 [.ref 0, .int x1, .int x2, v3, v4] [] (0, 0) (LAY, RFu r, mem)) : P 8 [.ref 0, .int x1, .int x2, v3, v4] [.int y0] (0, 0) (LAY, RFu r, mem) := by
  exact r_if (t := 21) hP d118_8 (by decide) kt kf
theorem b118_11 {d : Nat} {P : xPr} {Q : xQr} {r : Nat} {mem : Nat → Nat → Int32} (hP : Cl d none 118 P Q) {x1 : Int32} {x2 : Int32} {v3 : Value} {v4 : Value}
    (k : xCall d 151 [.int x2, .int (nI 0), .int (nI 30)] (LAY, RFu r, mem) (Bk P 15 [.ref 0, .int x1, .int x2, v3, v4] [] (0, 0))) : P 11 [.ref 0, .int x1, .int x2, v3, v4] [] (0, 0) (LAY, RFu r, mem) := by
  refine r_iload_n hP d118_11 rfl ?_
  refine r_iconst (v := nI 0) hP d118_12 rfl ?_
  refine r_bipush (v := nI 30) hP d118_13 rfl ?_
  exact r_calls (As := [.int x2, .int (nI 0), .int (nI 30)]) (S := []) hP d118_15 cr_11_185 (by decide +kernel) rfl (by simp [Value.category]) rfl (by simp [Value.category]) ⟨Nat.zero_le _, Nat.zero_le _⟩ k
theorem b118_18 {d : Nat} {P : xPr} {Q : xQr} {r : Nat} {mem : Nat → Nat → Int32} (hP : Cl d none 118 P Q) {x1 : Int32} {x2 : Int32} {v3 : Value} {v4 : Value} {y0 : Int32}
    (kt : ¬ y0 = 0 → P 29 [.ref 0, .int x1, .int x2, v3, v4] [] (0, 0) (LAY, RFu r, mem)) (kf : y0 = 0 → P 21 [.ref 0, .int x1, .int x2, v3, v4] [] (0, 0) (LAY, RFu r, mem)) : P 18 [.ref 0, .int x1, .int x2, v3, v4] [.int y0] (0, 0) (LAY, RFu r, mem) := by
  exact r_if (t := 29) hP d118_18 (by decide) kt (fun q => kf (Decidable.of_not_not q))
theorem b118_21 {d : Nat} {P : xPr} {Q : xQr} {r : Nat} {mem : Nat → Nat → Int32} (hP : Cl d none 118 P Q) {v0 : Value} {v1 : Value} {v2 : Value} {v3 : Value} {v4 : Value}
    (k : Q (some .null) (LAY, RFu r, mem)) : P 21 [v0, v1, v2, v3, v4] [] (0, 0) (LAY, RFu r, mem) := by
  exact r_throw hP d118_21 rfl k
theorem b118_29 {d : Nat} {P : xPr} {Q : xQr} {r : Nat} {mem : Nat → Nat → Int32} (hP : Cl d none 118 P Q) {x1 : Int32} {x2 : Int32} {v3 : Value} {v4 : Value}
    (k : xCall d 60 [.ref 49, .ref 47] (LAY, RFu r, mem) (Bk P 39 [.ref 0, .int x1, .int x2, .int (nI 0), v4] [] (0, 0))) : P 29 [.ref 0, .int x1, .int x2, v3, v4] [] (0, 0) (LAY, RFu r, mem) := by
  refine r_iconst (v := nI 0) hP d118_29 rfl ?_
  refine r_istore_n (L' := [.ref 0, .int x1, .int x2, .int (nI 0), v4]) hP d118_30 (Nat.le_of_ble_eq_true rfl) rfl ?_
  refine r_aload_n hP d118_31 rfl ?_
  refine r_getr (a := 49) hP d118_32 fr_11_40 rfl ly_0 rg_0_5 ?_
  refine r_aload_n hP d118_35 rfl ?_
  refine r_getr (a := 47) hP d118_36 fr_11_36 rfl ly_0 rg_0_4 ?_
  exact r_callv (As := [.ref 47]) (S := []) hP d118_39 cr_11_293 (by decide +kernel) rfl (by simp [Value.category]) rfl ly_49 (by simp [Value.category]) ⟨Nat.zero_le _, Nat.zero_le _⟩ k
theorem b118_42 {d : Nat} {P : xPr} {Q : xQr} {r : Nat} {mem : Nat → Nat → Int32} (hP : Cl d none 118 P Q) {x1 : Int32} {x2 : Int32} {x3 : Int32} {v4 : Value}
    (k : P 45 [.ref 0, .int x1, .int x2, .int x3, .int (nI 0)] [] (0, 0) (LAY, RFu r, mem)) : P 42 [.ref 0, .int x1, .int x2, .int x3, v4] [] (0, 0) (LAY, RFu r, mem) := by
  refine r_iconst (v := nI 0) hP d118_42 rfl ?_
  refine r_istore (L' := [.ref 0, .int x1, .int x2, .int x3, .int (nI 0)]) hP d118_43 (Nat.le_of_ble_eq_true rfl) rfl ?_
  exact k
theorem b118_45 {d : Nat} {P : xPr} {Q : xQr} {r : Nat} {mem : Nat → Nat → Int32} (hP : Cl d none 118 P Q) {x1 : Int32} {x2 : Int32} {x3 : Int32} {x4 : Int32}
    (kt : x2 ≤ x4 → P 92 [.ref 0, .int x1, .int x2, .int x3, .int x4] [] (0, 0) (LAY, RFu r, mem)) (kf : ¬ x2 ≤ x4 → P 51 [.ref 0, .int x1, .int x2, .int x3, .int x4] [] (0, 0) (LAY, RFu r, mem)) : P 45 [.ref 0, .int x1, .int x2, .int x3, .int x4] [] (0, 0) (LAY, RFu r, mem) := by
  refine r_iload hP d118_45 rfl ?_
  refine r_iload_n hP d118_47 rfl ?_
  exact r_icmp (t := 92) hP d118_48 (by decide) kt kf
theorem b118_51 {d : Nat} {P : xPr} {Q : xQr} {r : Nat} {mem : Nat → Nat → Int32} (hP : Cl d none 118 P Q) {x1 : Int32} {x2 : Int32} {x3 : Int32} {x4 : Int32}
    (k : xCall d 8 [.ref 51, .ref 5, .ref 49] (LAY, RFu r, mem) (Bk P 63 [.ref 0, .int x1, .int x2, .int x3, .int x4] [] (0, 0))) : P 51 [.ref 0, .int x1, .int x2, .int x3, .int x4] [] (0, 0) (LAY, RFu r, mem) := by
  refine r_aload_n hP d118_51 rfl ?_
  refine r_getr (a := 51) hP d118_52 fr_11_46 rfl ly_0 rg_0_6 ?_
  refine r_aload_n hP d118_55 rfl ?_
  refine r_getr (a := 5) hP d118_56 fr_11_26 rfl ly_0 rg_0_2 ?_
  refine r_aload_n hP d118_59 rfl ?_
  refine r_getr (a := 49) hP d118_60 fr_11_40 rfl ly_0 rg_0_5 ?_
  exact r_callv (As := [.ref 5, .ref 49]) (S := []) hP d118_63 cr_11_229 (by decide +kernel) rfl (by simp [Value.category]) rfl ly_51 (by simp [Value.category]) ⟨Nat.zero_le _, Nat.zero_le _⟩ k
theorem b118_66 {d : Nat} {P : xPr} {Q : xQr} {r : Nat} {mem : Nat → Nat → Int32} (hP : Cl d none 118 P Q) {x1 : Int32} {x2 : Int32} {x3 : Int32} {x4 : Int32} {y0 : Int32}
    (k : xCall d 61 [.ref 49, .int x1] (LAY, RFu r, mem) (Bk P 72 [.ref 0, .int x1, .int x2, .int x3, .int x4] [] (0, 0))) : P 66 [.ref 0, .int x1, .int x2, .int x3, .int x4] [.int y0] (0, 0) (LAY, RFu r, mem) := by
  refine r_pop hP d118_66 rfl ?_
  refine r_aload_n hP d118_67 rfl ?_
  refine r_getr (a := 49) hP d118_68 fr_11_40 rfl ly_0 rg_0_5 ?_
  refine r_iload_n hP d118_71 rfl ?_
  exact r_callv (As := [.int x1]) (S := []) hP d118_72 cr_11_174 (by decide +kernel) rfl (by simp [Value.category]) rfl ly_49 (by simp [Value.category]) ⟨Nat.zero_le _, Nat.zero_le _⟩ k
theorem b118_75 {d : Nat} {P : xPr} {Q : xQr} {r : Nat} {mem : Nat → Nat → Int32} (hP : Cl d none 118 P Q) {x1 : Int32} {x2 : Int32} {x3 : Int32} {x4 : Int32} {y0 : Int32}
    (kt : ¬ y0 = (nI 1) → P 86 [.ref 0, .int x1, .int x2, .int x3, .int x4] [] (0, 0) (LAY, RFu r, mem)) (kf : y0 = (nI 1) → P 79 [.ref 0, .int x1, .int x2, .int x3, .int x4] [] (0, 0) (LAY, RFu r, mem)) : P 75 [.ref 0, .int x1, .int x2, .int x3, .int x4] [.int y0] (0, 0) (LAY, RFu r, mem) := by
  refine r_iconst (v := nI 1) hP d118_75 rfl ?_
  exact r_icmp (t := 86) hP d118_76 (by decide) kt (fun q => kf (Decidable.of_not_not q))
theorem b118_79 {d : Nat} {P : xPr} {Q : xQr} {r : Nat} {mem : Nat → Nat → Int32} (hP : Cl d none 118 P Q) {x1 : Int32} {x2 : Int32} {x3 : Int32} {x4 : Int32}
    (k : P 86 [.ref 0, .int x1, .int x2, .int (x3 ||| ((nI 1) <<< (x4 &&& 31))), .int x4] [] (0, 0) (LAY, RFu r, mem)) : P 79 [.ref 0, .int x1, .int x2, .int x3, .int x4] [] (0, 0) (LAY, RFu r, mem) := by
  refine r_iload_n hP d118_79 rfl ?_
  refine r_iconst (v := nI 1) hP d118_80 rfl ?_
  refine r_iload hP d118_81 rfl ?_
  refine r_ishl hP d118_83 ?_
  refine r_ior hP d118_84 ?_
  refine r_istore_n (L' := [.ref 0, .int x1, .int x2, .int (x3 ||| ((nI 1) <<< (x4 &&& 31))), .int x4]) hP d118_85 (Nat.le_of_ble_eq_true rfl) rfl ?_
  exact k
theorem b118_86 {d : Nat} {P : xPr} {Q : xQr} {r : Nat} {mem : Nat → Nat → Int32} (hP : Cl d none 118 P Q) {x1 : Int32} {x2 : Int32} {x3 : Int32} {x4 : Int32}
    (k : P 45 [.ref 0, .int x1, .int x2, .int x3, .int (x4 + nI 1)] [] (0, 0) (LAY, RFu r, mem)) : P 86 [.ref 0, .int x1, .int x2, .int x3, .int x4] [] (0, 0) (LAY, RFu r, mem) := by
  refine r_iinc (v := nI 1) (L' := [.ref 0, .int x1, .int x2, .int x3, .int (x4 + nI 1)]) hP d118_86 rfl rfl rfl ?_
  refine r_goto (t := 45) hP d118_89 (by decide) ?_
  exact k
theorem b118_92 {d : Nat} {P : xPr} {Q : xQr} {r : Nat} {mem : Nat → Nat → Int32} (hP : Cl d none 118 P Q) {v0 : Value} {v1 : Value} {v2 : Value} {x3 : Int32} {v4 : Value}
    (k : Q (some (.int x3)) (LAY, RFu r, mem)) : P 92 [v0, v1, v2, .int x3, v4] [] (0, 0) (LAY, RFu r, mem) := by
  refine r_iload_n hP d118_92 rfl ?_
  exact r_iret hP d118_93 rfl k
theorem d119_0 : decode (xB 119) 0 = .ok (.aload_n 0, 1) := by decide +kernel
theorem d119_1 : decode (xB 119) 1 = .ok (.getfield 26, 3) := by decide +kernel
theorem d119_4 : decode (xB 119) 4 = .ok (.iload_n 1, 1) := by decide +kernel
theorem d119_5 : decode (xB 119) 5 = .ok (.invokevirtual 127, 3) := by decide +kernel
theorem d119_8 : decode (xB 119) 8 = .ok (.ifCond .eq 14, 3) := by decide +kernel
theorem d119_11 : decode (xB 119) 11 = .ok (.iload_n 2, 1) := by decide +kernel
theorem d119_12 : decode (xB 119) 12 = .ok (.iconst 0, 1) := by decide +kernel
theorem d119_13 : decode (xB 119) 13 = .ok (.sipush 200, 3) := by decide +kernel
theorem d119_16 : decode (xB 119) 16 = .ok (.invokestatic 185, 3) := by decide +kernel
theorem d119_19 : decode (xB 119) 19 = .ok (.ifCond .ne 5, 3) := by decide +kernel
theorem d119_22 : decode (xB 119) 22 = .ok (.iconst (-1), 1) := by decide +kernel
theorem d119_23 : decode (xB 119) 23 = .ok (.ireturn, 1) := by decide +kernel
theorem d119_24 : decode (xB 119) 24 = .ok (.aload_n 0, 1) := by decide +kernel
theorem d119_25 : decode (xB 119) 25 = .ok (.getfield 36, 3) := by decide +kernel
theorem d119_28 : decode (xB 119) 28 = .ok (.getfield 171, 3) := by decide +kernel
theorem d119_31 : decode (xB 119) 31 = .ok (.bipush 24, 2) := by decide +kernel
theorem d119_33 : decode (xB 119) 33 = .ok (.iload_n 1, 1) := by decide +kernel
theorem d119_34 : decode (xB 119) 34 = .ok (.iadd, 1) := by decide +kernel
theorem d119_35 : decode (xB 119) 35 = .ok (.iaload, 1) := by decide +kernel
theorem d119_36 : decode (xB 119) 36 = .ok (.istore_n 3, 1) := by decide +kernel
theorem d119_37 : decode (xB 119) 37 = .ok (.iconst 0, 1) := by decide +kernel
theorem d119_38 : decode (xB 119) 38 = .ok (.istore 4, 2) := by decide +kernel
theorem d119_40 : decode (xB 119) 40 = .ok (.aload_n 0, 1) := by decide +kernel
theorem d119_41 : decode (xB 119) 41 = .ok (.getfield 40, 3) := by decide +kernel
theorem d119_44 : decode (xB 119) 44 = .ok (.aload_n 0, 1) := by decide +kernel
theorem d119_45 : decode (xB 119) 45 = .ok (.getfield 36, 3) := by decide +kernel
theorem d119_48 : decode (xB 119) 48 = .ok (.invokevirtual 293, 3) := by decide +kernel
theorem d119_51 : decode (xB 119) 51 = .ok (.iconst 1, 1) := by decide +kernel
theorem d119_52 : decode (xB 119) 52 = .ok (.istore 5, 2) := by decide +kernel
theorem d119_54 : decode (xB 119) 54 = .ok (.iload 5, 2) := by decide +kernel
theorem d119_56 : decode (xB 119) 56 = .ok (.iload_n 2, 1) := by decide +kernel
theorem d119_57 : decode (xB 119) 57 = .ok (.if_icmp .gt 58, 3) := by decide +kernel
theorem d119_60 : decode (xB 119) 60 = .ok (.aload_n 0, 1) := by decide +kernel
theorem d119_61 : decode (xB 119) 61 = .ok (.getfield 46, 3) := by decide +kernel
theorem d119_64 : decode (xB 119) 64 = .ok (.aload_n 0, 1) := by decide +kernel
theorem d119_65 : decode (xB 119) 65 = .ok (.getfield 26, 3) := by decide +kernel
theorem d119_68 : decode (xB 119) 68 = .ok (.aload_n 0, 1) := by decide +kernel
theorem d119_69 : decode (xB 119) 69 = .ok (.getfield 40, 3) := by decide +kernel
theorem d119_72 : decode (xB 119) 72 = .ok (.invokevirtual 229, 3) := by decide +kernel
theorem d119_75 : decode (xB 119) 75 = .ok (.pop, 1) := by decide +kernel
theorem d119_76 : decode (xB 119) 76 = .ok (.aload_n 0, 1) := by decide +kernel
theorem d119_77 : decode (xB 119) 77 = .ok (.getfield 40, 3) := by decide +kernel
theorem d119_80 : decode (xB 119) 80 = .ok (.getfield 171, 3) := by decide +kernel
theorem d119_83 : decode (xB 119) 83 = .ok (.bipush 24, 2) := by decide +kernel
theorem d119_85 : decode (xB 119) 85 = .ok (.iload_n 1, 1) := by decide +kernel
theorem d119_86 : decode (xB 119) 86 = .ok (.iadd, 1) := by decide +kernel
theorem d119_87 : decode (xB 119) 87 = .ok (.iaload, 1) := by decide +kernel
theorem d119_88 : decode (xB 119) 88 = .ok (.iload_n 3, 1) := by decide +kernel
theorem d119_89 : decode (xB 119) 89 = .ok (.if_icmp .le 20, 3) := by decide +kernel
theorem d119_92 : decode (xB 119) 92 = .ok (.aload_n 0, 1) := by decide +kernel
theorem d119_93 : decode (xB 119) 93 = .ok (.getfield 40, 3) := by decide +kernel
theorem d119_96 : decode (xB 119) 96 = .ok (.getfield 171, 3) := by decide +kernel
theorem d119_99 : decode (xB 119) 99 = .ok (.bipush 24, 2) := by decide +kernel
theorem d119_101 : decode (xB 119) 101 = .ok (.iload_n 1, 1) := by decide +kernel
theorem d119_102 : decode (xB 119) 102 = .ok (.iadd, 1) := by decide +kernel
theorem d119_103 : decode (xB 119) 103 = .ok (.iaload, 1) := by decide +kernel
theorem d119_104 : decode (xB 119) 104 = .ok (.istore_n 3, 1) := by decide +kernel
theorem d119_105 : decode (xB 119) 105 = .ok (.iload 5, 2) := by decide +kernel
theorem d119_107 : decode (xB 119) 107 = .ok (.istore 4, 2) := by decide +kernel
theorem d119_109 : decode (xB 119) 109 = .ok (.iinc 5 1, 3) := by decide +kernel
theorem d119_112 : decode (xB 119) 112 = .ok (.goto (-58), 3) := by decide +kernel
theorem d119_115 : decode (xB 119) 115 = .ok (.aload_n 0, 1) := by decide +kernel
theorem d119_116 : decode (xB 119) 116 = .ok (.getfield 19, 3) := by decide +kernel
theorem d119_119 : decode (xB 119) 119 = .ok (.invokevirtual 213, 3) := by decide +kernel
theorem d119_122 : decode (xB 119) 122 = .ok (.aload_n 0, 1) := by decide +kernel
theorem d119_123 : decode (xB 119) 123 = .ok (.getfield 19, 3) := by decide +kernel
theorem d119_126 : decode (xB 119) 126 = .ok (.iload 4, 2) := by decide +kernel
theorem d119_128 : decode (xB 119) 128 = .ok (.invokevirtual 222, 3) := by decide +kernel
theorem d119_131 : decode (xB 119) 131 = .ok (.iload_n 3, 1) := by decide +kernel
theorem d119_132 : decode (xB 119) 132 = .ok (.ireturn, 1) := by decide +kernel
theorem b119_0 {d : Nat} {P : xPr} {Q : xQr} {r : Nat} {mem : Nat → Nat → Int32} (hP : Cl d none 119 P Q) {p0 : Int32} {p1 : Int32}
    (k : xCall d 83 [.ref 5, .int p0] (LAY, RFu r, mem) (Bk P 5 [.ref 0, .int p0, .int p1, .null, .null, .null] [] (0, 0))) : P 0 [.ref 0, .int p0, .int p1, .null, .null, .null] [] (0, 0) (LAY, RFu r, mem) := by
  refine r_aload_n hP d119_0 rfl ?_
  refine r_getr (a := 5) hP d119_1 fr_11_26 rfl ly_0 rg_0_2 ?_
  refine r_iload_n hP d119_4 rfl ?_
  exact r_callv (As := [.int p0]) (S := []) hP d119_5 cr_11_127 (by decide +kernel) rfl (by simp [Value.category]) rfl ly_5 (by simp [Value.category]) ⟨Nat.zero_le _, Nat.zero_le _⟩ k
theorem b119_8 {d : Nat} {P : xPr} {Q : xQr} {r : Nat} {mem : Nat → Nat → Int32} (hP : Cl d none 119 P Q) {x1 : Int32} {x2 : Int32} {v3 : Value} {v4 : Value} {v5 : Value} {y0 : Int32}
    (kt : y0 = 0 → P 22 [.ref 0, .int x1, .int x2, v3, v4, v5] [] (0, 0) (LAY, RFu r, mem)) (kf : ¬ y0 = 0 → P 11 [.ref 0, .int x1, .int x2, v3, v4, v5] [] (0, 0) (LAY, RFu r, mem)) : P 8 [.ref 0, .int x1, .int x2, v3, v4, v5] [.int y0] (0, 0) (LAY, RFu r, mem) := by
  exact r_if (t := 22) hP d119_8 (by decide) kt kf
theorem b119_11 {d : Nat} {P : xPr} {Q : xQr} {r : Nat} {mem : Nat → Nat → Int32} (hP : Cl d none 119 P Q) {x1 : Int32} {x2 : Int32} {v3 : Value} {v4 : Value} {v5 : Value}
    (k : xCall d 151 [.int x2, .int (nI 0), .int (nI 200)] (LAY, RFu r, mem) (Bk P 16 [.ref 0, .int x1, .int x2, v3, v4, v5] [] (0, 0))) : P 11 [.ref 0, .int x1, .int x2, v3, v4, v5] [] (0, 0) (LAY, RFu r, mem) := by
  refine r_iload_n hP d119_11 rfl ?_
  refine r_iconst (v := nI 0) hP d119_12 rfl ?_
  refine r_sipush (v := nI 200) hP d119_13 rfl ?_
  exact r_calls (As := [.int x2, .int (nI 0), .int (nI 200)]) (S := []) hP d119_16 cr_11_185 (by decide +kernel) rfl (by simp [Value.category]) rfl (by simp [Value.category]) ⟨Nat.zero_le _, Nat.zero_le _⟩ k
theorem b119_19 {d : Nat} {P : xPr} {Q : xQr} {r : Nat} {mem : Nat → Nat → Int32} (hP : Cl d none 119 P Q) {x1 : Int32} {x2 : Int32} {v3 : Value} {v4 : Value} {v5 : Value} {y0 : Int32}
    (kt : ¬ y0 = 0 → P 24 [.ref 0, .int x1, .int x2, v3, v4, v5] [] (0, 0) (LAY, RFu r, mem)) (kf : y0 = 0 → P 22 [.ref 0, .int x1, .int x2, v3, v4, v5] [] (0, 0) (LAY, RFu r, mem)) : P 19 [.ref 0, .int x1, .int x2, v3, v4, v5] [.int y0] (0, 0) (LAY, RFu r, mem) := by
  exact r_if (t := 24) hP d119_19 (by decide) kt (fun q => kf (Decidable.of_not_not q))
theorem b119_22 {d : Nat} {P : xPr} {Q : xQr} {r : Nat} {mem : Nat → Nat → Int32} (hP : Cl d none 119 P Q) {v0 : Value} {v1 : Value} {v2 : Value} {v3 : Value} {v4 : Value} {v5 : Value}
    (k : Q (some (.int (-1))) (LAY, RFu r, mem)) : P 22 [v0, v1, v2, v3, v4, v5] [] (0, 0) (LAY, RFu r, mem) := by
  refine r_iconst (v := (-1)) hP d119_22 rfl ?_
  exact r_iret hP d119_23 rfl k
theorem b119_24 {d : Nat} {P : xPr} {Q : xQr} {r : Nat} {mem : Nat → Nat → Int32} (hP : Cl d none 119 P Q) {x1 : Int32} {x2 : Int32} {v3 : Value} {v4 : Value} {v5 : Value} (hi35 : vp_in ((nI 24) + x1) 121)
    (k : xCall d 60 [.ref 49, .ref 47] (LAY, RFu r, mem) (Bk P 48 [.ref 0, .int x1, .int x2, .int (mem 48 ((nI 24) + x1).toNatClampNeg), .int (nI 0), v5] [] (0, 0))) : P 24 [.ref 0, .int x1, .int x2, v3, v4, v5] [] (0, 0) (LAY, RFu r, mem) := by
  refine r_aload_n hP d119_24 rfl ?_
  refine r_getr (a := 47) hP d119_25 fr_11_36 rfl ly_0 rg_0_4 ?_
  refine r_getr (a := 48) hP d119_28 fr_11_171 rfl ly_47 rg_47_0 ?_
  refine r_bipush (v := nI 24) hP d119_31 rfl ?_
  refine r_iload_n hP d119_33 rfl ?_
  refine r_iadd hP d119_34 ?_
  refine r_iaload hP d119_35 ly_48 hi35 ?_
  refine r_istore_n (L' := [.ref 0, .int x1, .int x2, .int (mem 48 ((nI 24) + x1).toNatClampNeg), v4, v5]) hP d119_36 (Nat.le_of_ble_eq_true rfl) rfl ?_
  refine r_iconst (v := nI 0) hP d119_37 rfl ?_
  refine r_istore (L' := [.ref 0, .int x1, .int x2, .int (mem 48 ((nI 24) + x1).toNatClampNeg), .int (nI 0), v5]) hP d119_38 (Nat.le_of_ble_eq_true rfl) rfl ?_
  refine r_aload_n hP d119_40 rfl ?_
  refine r_getr (a := 49) hP d119_41 fr_11_40 rfl ly_0 rg_0_5 ?_
  refine r_aload_n hP d119_44 rfl ?_
  refine r_getr (a := 47) hP d119_45 fr_11_36 rfl ly_0 rg_0_4 ?_
  exact r_callv (As := [.ref 47]) (S := []) hP d119_48 cr_11_293 (by decide +kernel) rfl (by simp [Value.category]) rfl ly_49 (by simp [Value.category]) ⟨Nat.zero_le _, Nat.zero_le _⟩ k
theorem b119_51 {d : Nat} {P : xPr} {Q : xQr} {r : Nat} {mem : Nat → Nat → Int32} (hP : Cl d none 119 P Q) {x1 : Int32} {x2 : Int32} {x3 : Int32} {x4 : Int32} {v5 : Value}
    (k : P 54 [.ref 0, .int x1, .int x2, .int x3, .int x4, .int (nI 1)] [] (0, 0) (LAY, RFu r, mem)) : P 51 [.ref 0, .int x1, .int x2, .int x3, .int x4, v5] [] (0, 0) (LAY, RFu r, mem) := by
  refine r_iconst (v := nI 1) hP d119_51 rfl ?_
  refine r_istore (L' := [.ref 0, .int x1, .int x2, .int x3, .int x4, .int (nI 1)]) hP d119_52 (Nat.le_of_ble_eq_true rfl) rfl ?_
  exact k
theorem b119_54 {d : Nat} {P : xPr} {Q : xQr} {r : Nat} {mem : Nat → Nat → Int32} (hP : Cl d none 119 P Q) {x1 : Int32} {x2 : Int32} {x3 : Int32} {x4 : Int32} {x5 : Int32}
    (kt : x2 < x5 → P 115 [.ref 0, .int x1, .int x2, .int x3, .int x4, .int x5] [] (0, 0) (LAY, RFu r, mem)) (kf : ¬ x2 < x5 → P 60 [.ref 0, .int x1, .int x2, .int x3, .int x4, .int x5] [] (0, 0) (LAY, RFu r, mem)) : P 54 [.ref 0, .int x1, .int x2, .int x3, .int x4, .int x5] [] (0, 0) (LAY, RFu r, mem) := by
  refine r_iload hP d119_54 rfl ?_
  refine r_iload_n hP d119_56 rfl ?_
  exact r_icmp (t := 115) hP d119_57 (by decide) kt kf
theorem b119_60 {d : Nat} {P : xPr} {Q : xQr} {r : Nat} {mem : Nat → Nat → Int32} (hP : Cl d none 119 P Q) {x1 : Int32} {x2 : Int32} {x3 : Int32} {x4 : Int32} {x5 : Int32}
    (k : xCall d 8 [.ref 51, .ref 5, .ref 49] (LAY, RFu r, mem) (Bk P 72 [.ref 0, .int x1, .int x2, .int x3, .int x4, .int x5] [] (0, 0))) : P 60 [.ref 0, .int x1, .int x2, .int x3, .int x4, .int x5] [] (0, 0) (LAY, RFu r, mem) := by
  refine r_aload_n hP d119_60 rfl ?_
  refine r_getr (a := 51) hP d119_61 fr_11_46 rfl ly_0 rg_0_6 ?_
  refine r_aload_n hP d119_64 rfl ?_
  refine r_getr (a := 5) hP d119_65 fr_11_26 rfl ly_0 rg_0_2 ?_
  refine r_aload_n hP d119_68 rfl ?_
  refine r_getr (a := 49) hP d119_69 fr_11_40 rfl ly_0 rg_0_5 ?_
  exact r_callv (As := [.ref 5, .ref 49]) (S := []) hP d119_72 cr_11_229 (by decide +kernel) rfl (by simp [Value.category]) rfl ly_51 (by simp [Value.category]) ⟨Nat.zero_le _, Nat.zero_le _⟩ k
theorem b119_75 {d : Nat} {P : xPr} {Q : xQr} {r : Nat} {mem : Nat → Nat → Int32} (hP : Cl d none 119 P Q) {x1 : Int32} {x2 : Int32} {x3 : Int32} {x4 : Int32} {x5 : Int32} {y0 : Int32} (hi87 : vp_in ((nI 24) + x1) 121)
    (kt : (mem 50 ((nI 24) + x1).toNatClampNeg) ≤ x3 → P 109 [.ref 0, .int x1, .int x2, .int x3, .int x4, .int x5] [] (0, 0) (LAY, RFu r, mem)) (kf : ¬ (mem 50 ((nI 24) + x1).toNatClampNeg) ≤ x3 → P 92 [.ref 0, .int x1, .int x2, .int x3, .int x4, .int x5] [] (0, 0) (LAY, RFu r, mem)) : P 75 [.ref 0, .int x1, .int x2, .int x3, .int x4, .int x5] [.int y0] (0, 0) (LAY, RFu r, mem) := by
  refine r_pop hP d119_75 rfl ?_
  refine r_aload_n hP d119_76 rfl ?_
  refine r_getr (a := 49) hP d119_77 fr_11_40 rfl ly_0 rg_0_5 ?_
  refine r_getr (a := 50) hP d119_80 fr_11_171 rfl ly_49 rg_49_0 ?_
  refine r_bipush (v := nI 24) hP d119_83 rfl ?_
  refine r_iload_n hP d119_85 rfl ?_
  refine r_iadd hP d119_86 ?_
  refine r_iaload hP d119_87 ly_50 hi87 ?_
  refine r_iload_n hP d119_88 rfl ?_
  exact r_icmp (t := 109) hP d119_89 (by decide) kt kf
theorem b119_92 {d : Nat} {P : xPr} {Q : xQr} {r : Nat} {mem : Nat → Nat → Int32} (hP : Cl d none 119 P Q) {x1 : Int32} {x2 : Int32} {v3 : Value} {v4 : Value} {x5 : Int32} (hi103 : vp_in ((nI 24) + x1) 121)
    (k : P 109 [.ref 0, .int x1, .int x2, .int (mem 50 ((nI 24) + x1).toNatClampNeg), .int x5, .int x5] [] (0, 0) (LAY, RFu r, mem)) : P 92 [.ref 0, .int x1, .int x2, v3, v4, .int x5] [] (0, 0) (LAY, RFu r, mem) := by
  refine r_aload_n hP d119_92 rfl ?_
  refine r_getr (a := 49) hP d119_93 fr_11_40 rfl ly_0 rg_0_5 ?_
  refine r_getr (a := 50) hP d119_96 fr_11_171 rfl ly_49 rg_49_0 ?_
  refine r_bipush (v := nI 24) hP d119_99 rfl ?_
  refine r_iload_n hP d119_101 rfl ?_
  refine r_iadd hP d119_102 ?_
  refine r_iaload hP d119_103 ly_50 hi103 ?_
  refine r_istore_n (L' := [.ref 0, .int x1, .int x2, .int (mem 50 ((nI 24) + x1).toNatClampNeg), v4, .int x5]) hP d119_104 (Nat.le_of_ble_eq_true rfl) rfl ?_
  refine r_iload hP d119_105 rfl ?_
  refine r_istore (L' := [.ref 0, .int x1, .int x2, .int (mem 50 ((nI 24) + x1).toNatClampNeg), .int x5, .int x5]) hP d119_107 (Nat.le_of_ble_eq_true rfl) rfl ?_
  exact k
theorem b119_109 {d : Nat} {P : xPr} {Q : xQr} {r : Nat} {mem : Nat → Nat → Int32} (hP : Cl d none 119 P Q) {x1 : Int32} {x2 : Int32} {x3 : Int32} {x4 : Int32} {x5 : Int32}
    (k : P 54 [.ref 0, .int x1, .int x2, .int x3, .int x4, .int (x5 + nI 1)] [] (0, 0) (LAY, RFu r, mem)) : P 109 [.ref 0, .int x1, .int x2, .int x3, .int x4, .int x5] [] (0, 0) (LAY, RFu r, mem) := by
  refine r_iinc (v := nI 1) (L' := [.ref 0, .int x1, .int x2, .int x3, .int x4, .int (x5 + nI 1)]) hP d119_109 rfl rfl rfl ?_
  refine r_goto (t := 54) hP d119_112 (by decide) ?_
  exact k
theorem b119_115 {d : Nat} {P : xPr} {Q : xQr} {r : Nat} {mem : Nat → Nat → Int32} (hP : Cl d none 119 P Q) {v1 : Value} {v2 : Value} {x3 : Int32} {x4 : Int32} {v5 : Value}
    (k : xCall d 31 [.ref 3] (LAY, RFu r, mem) (Bk P 119 [.ref 0, v1, v2, .int x3, .int x4, v5] [] (0, 0))) : P 115 [.ref 0, v1, v2, .int x3, .int x4, v5] [] (0, 0) (LAY, RFu r, mem) := by
  refine r_aload_n hP d119_115 rfl ?_
  refine r_getr (a := 3) hP d119_116 fr_11_19 rfl ly_0 rg_0_1 ?_
  exact r_callv (As := []) (S := []) hP d119_119 cr_11_213 (by decide +kernel) rfl (by simp) rfl ly_3 (by simp [Value.category]) ⟨Nat.zero_le _, Nat.zero_le _⟩ k
theorem b119_122 {d : Nat} {P : xPr} {Q : xQr} {r : Nat} {mem : Nat → Nat → Int32} (hP : Cl d none 119 P Q) {v1 : Value} {v2 : Value} {x3 : Int32} {x4 : Int32} {v5 : Value}
    (k : xCall d 32 [.ref 3, .int x4] (LAY, RFu r, mem) (Bk P 128 [.ref 0, v1, v2, .int x3, .int x4, v5] [] (0, 0))) : P 122 [.ref 0, v1, v2, .int x3, .int x4, v5] [] (0, 0) (LAY, RFu r, mem) := by
  refine r_aload_n hP d119_122 rfl ?_
  refine r_getr (a := 3) hP d119_123 fr_11_19 rfl ly_0 rg_0_1 ?_
  refine r_iload hP d119_126 rfl ?_
  exact r_callv (As := [.int x4]) (S := []) hP d119_128 cr_11_222 (by decide +kernel) rfl (by simp [Value.category]) rfl ly_3 (by simp [Value.category]) ⟨Nat.zero_le _, Nat.zero_le _⟩ k
theorem b119_131 {d : Nat} {P : xPr} {Q : xQr} {r : Nat} {mem : Nat → Nat → Int32} (hP : Cl d none 119 P Q) {v0 : Value} {v1 : Value} {v2 : Value} {x3 : Int32} {v4 : Value} {v5 : Value}
    (k : Q (some (.int x3)) (LAY, RFu r, mem)) : P 131 [v0, v1, v2, .int x3, v4, v5] [] (0, 0) (LAY, RFu r, mem) := by
  refine r_iload_n hP d119_131 rfl ?_
  exact r_iret hP d119_132 rfl k
theorem d120_0 : decode (xB 120) 0 = .ok (.aload_n 0, 1) := by decide +kernel
theorem d120_1 : decode (xB 120) 1 = .ok (.iload_n 1, 1) := by decide +kernel
theorem d120_2 : decode (xB 120) 2 = .ok (.iload_n 2, 1) := by decide +kernel
theorem d120_3 : decode (xB 120) 3 = .ok (.invokevirtual 295, 3) := by decide +kernel
theorem d120_6 : decode (xB 120) 6 = .ok (.ifCond .eq 15, 3) := by decide +kernel
theorem d120_9 : decode (xB 120) 9 = .ok (.aload_n 0, 1) := by decide +kernel
theorem d120_10 : decode (xB 120) 10 = .ok (.getfield 36, 3) := by decide +kernel
theorem d120_13 : decode (xB 120) 13 = .ok (.iload_n 1, 1) := by decide +kernel
theorem d120_14 : decode (xB 120) 14 = .ok (.iload_n 2, 1) := by decide +kernel
theorem d120_15 : decode (xB 120) 15 = .ok (.invokevirtual 299, 3) := by decide +kernel
theorem d120_18 : decode (xB 120) 18 = .ok (.goto 4, 3) := by decide +kernel
theorem d120_21 : decode (xB 120) 21 = .ok (.iconst (-1), 1) := by decide +kernel
theorem d120_22 : decode (xB 120) 22 = .ok (.ireturn, 1) := by decide +kernel
theorem b120_0 {d : Nat} {P : xPr} {Q : xQr} {r : Nat} {mem : Nat → Nat → Int32} (hP : Cl d none 120 P Q) {p0 : Int32} {p1 : Int32}
    (k : xCall d 152 [.ref 0, .int p0, .int p1] (LAY, RFu r, mem) (Bk P 3 [.ref 0, .int p0, .int p1] [] (0, 0))) : P 0 [.ref 0, .int p0, .int p1] [] (0, 0) (LAY, RFu r, mem) := by
  refine r_aload_n hP d120_0 rfl ?_
  refine r_iload_n hP d120_1 rfl ?_
  refine r_iload_n hP d120_2 rfl ?_
  exact r_callv (As := [.int p0, .int p1]) (S := []) hP d120_3 cr_11_295 (by decide +kernel) rfl (by simp [Value.category]) rfl ly_0 (by simp [Value.category]) ⟨Nat.zero_le _, Nat.zero_le _⟩ k
theorem b120_6 {d : Nat} {P : xPr} {Q : xQr} {r : Nat} {mem : Nat → Nat → Int32} (hP : Cl d none 120 P Q) {x1 : Int32} {x2 : Int32} {y0 : Int32}
    (kt : y0 = 0 → P 21 [.ref 0, .int x1, .int x2] [] (0, 0) (LAY, RFu r, mem)) (kf : ¬ y0 = 0 → P 9 [.ref 0, .int x1, .int x2] [] (0, 0) (LAY, RFu r, mem)) : P 6 [.ref 0, .int x1, .int x2] [.int y0] (0, 0) (LAY, RFu r, mem) := by
  exact r_if (t := 21) hP d120_6 (by decide) kt kf
theorem b120_9 {d : Nat} {P : xPr} {Q : xQr} {r : Nat} {mem : Nat → Nat → Int32} (hP : Cl d none 120 P Q) {x1 : Int32} {x2 : Int32}
    (k : xCall d 67 [.ref 47, .int x1, .int x2] (LAY, RFu r, mem) (Bk P 15 [.ref 0, .int x1, .int x2] [] (0, 0))) : P 9 [.ref 0, .int x1, .int x2] [] (0, 0) (LAY, RFu r, mem) := by
  refine r_aload_n hP d120_9 rfl ?_
  refine r_getr (a := 47) hP d120_10 fr_11_36 rfl ly_0 rg_0_4 ?_
  refine r_iload_n hP d120_13 rfl ?_
  refine r_iload_n hP d120_14 rfl ?_
  exact r_callv (As := [.int x1, .int x2]) (S := []) hP d120_15 cr_11_299 (by decide +kernel) rfl (by simp [Value.category]) rfl ly_47 (by simp [Value.category]) ⟨Nat.zero_le _, Nat.zero_le _⟩ k
theorem b120_18 {d : Nat} {P : xPr} {Q : xQr} {r : Nat} {mem : Nat → Nat → Int32} (hP : Cl d none 120 P Q) {v0 : Value} {v1 : Value} {v2 : Value} {y0 : Int32}
    (k : P 22 [v0, v1, v2] [.int y0] (0, 0) (LAY, RFu r, mem)) : P 18 [v0, v1, v2] [.int y0] (0, 0) (LAY, RFu r, mem) := by
  refine r_goto (t := 22) hP d120_18 (by decide) ?_
  exact k
theorem b120_21 {d : Nat} {P : xPr} {Q : xQr} {r : Nat} {mem : Nat → Nat → Int32} (hP : Cl d none 120 P Q) {v0 : Value} {v1 : Value} {v2 : Value}
    (k : P 22 [v0, v1, v2] [.int (-1)] (0, 0) (LAY, RFu r, mem)) : P 21 [v0, v1, v2] [] (0, 0) (LAY, RFu r, mem) := by
  refine r_iconst (v := (-1)) hP d120_21 rfl ?_
  exact k
theorem b120_22 {d : Nat} {P : xPr} {Q : xQr} {r : Nat} {mem : Nat → Nat → Int32} (hP : Cl d none 120 P Q) {v0 : Value} {v1 : Value} {v2 : Value} {y0 : Int32}
    (k : Q (some (.int y0)) (LAY, RFu r, mem)) : P 22 [v0, v1, v2] [.int y0] (0, 0) (LAY, RFu r, mem) := by
  exact r_iret hP d120_22 rfl k
theorem d121_0 : decode (xB 121) 0 = .ok (.iconst 0, 1) := by decide +kernel
theorem d121_1 : decode (xB 121) 1 = .ok (.istore_n 1, 1) := by decide +kernel
theorem d121_2 : decode (xB 121) 2 = .ok (.aload_n 0, 1) := by decide +kernel
theorem d121_3 : decode (xB 121) 3 = .ok (.getfield 19, 3) := by decide +kernel
theorem d121_6 : decode (xB 121) 6 = .ok (.invokevirtual 213, 3) := by decide +kernel
theorem d121_9 : decode (xB 121) 9 = .ok (.iconst 0, 1) := by decide +kernel
theorem d121_10 : decode (xB 121) 10 = .ok (.istore_n 2, 1) := by decide +kernel
theorem d121_11 : decode (xB 121) 11 = .ok (.iload_n 2, 1) := by decide +kernel
theorem d121_12 : decode (xB 121) 12 = .ok (.aload_n 0, 1) := by decide +kernel
theorem d121_13 : decode (xB 121) 13 = .ok (.getfield 26, 3) := by decide +kernel
theorem d121_16 : decode (xB 121) 16 = .ok (.getfield 192, 3) := by decide +kernel
theorem d121_19 : decode (xB 121) 19 = .ok (.if_icmp .ge 83, 3) := by decide +kernel
theorem d121_22 : decode (xB 121) 22 = .ok (.iload_n 2, 1) := by decide +kernel
theorem d121_23 : decode (xB 121) 23 = .ok (.iconst 1, 1) := by decide +kernel
theorem d121_24 : decode (xB 121) 24 = .ok (.iadd, 1) := by decide +kernel
theorem d121_25 : decode (xB 121) 25 = .ok (.istore_n 3, 1) := by decide +kernel
theorem d121_26 : decode (xB 121) 26 = .ok (.iload_n 3, 1) := by decide +kernel
theorem d121_27 : decode (xB 121) 27 = .ok (.aload_n 0, 1) := by decide +kernel
theorem d121_28 : decode (xB 121) 28 = .ok (.getfield 26, 3) := by decide +kernel
theorem d121_31 : decode (xB 121) 31 = .ok (.getfield 192, 3) := by decide +kernel
theorem d121_34 : decode (xB 121) 34 = .ok (.if_icmp .ge 62, 3) := by decide +kernel
theorem d121_37 : decode (xB 121) 37 = .ok (.aload_n 0, 1) := by decide +kernel
theorem d121_38 : decode (xB 121) 38 = .ok (.getfield 36, 3) := by decide +kernel
theorem d121_41 : decode (xB 121) 41 = .ok (.iload_n 2, 1) := by decide +kernel
theorem d121_42 : decode (xB 121) 42 = .ok (.iload_n 3, 1) := by decide +kernel
theorem d121_43 : decode (xB 121) 43 = .ok (.invokevirtual 299, 3) := by decide +kernel
theorem d121_46 : decode (xB 121) 46 = .ok (.aload_n 0, 1) := by decide +kernel
theorem d121_47 : decode (xB 121) 47 = .ok (.getfield 36, 3) := by decide +kernel
theorem d121_50 : decode (xB 121) 50 = .ok (.iload_n 3, 1) := by decide +kernel
theorem d121_51 : decode (xB 121) 51 = .ok (.iload_n 2, 1) := by decide +kernel
theorem d121_52 : decode (xB 121) 52 = .ok (.invokevirtual 299, 3) := by decide +kernel
theorem d121_55 : decode (xB 121) 55 = .ok (.iadd, 1) := by decide +kernel
theorem d121_56 : decode (xB 121) 56 = .ok (.istore 4, 2) := by decide +kernel
theorem d121_58 : decode (xB 121) 58 = .ok (.iload 4, 2) := by decide +kernel
theorem d121_60 : decode (xB 121) 60 = .ok (.iload_n 1, 1) := by decide +kernel
theorem d121_61 : decode (xB 121) 61 = .ok (.if_icmp .le 29, 3) := by decide +kernel
theorem d121_64 : decode (xB 121) 64 = .ok (.iload 4, 2) := by decide +kernel
theorem d121_66 : decode (xB 121) 66 = .ok (.istore_n 1, 1) := by decide +kernel
theorem d121_67 : decode (xB 121) 67 = .ok (.aload_n 0, 1) := by decide +kernel
theorem d121_68 : decode (xB 121) 68 = .ok (.getfield 19, 3) := by decide +kernel
theorem d121_71 : decode (xB 121) 71 = .ok (.invokevirtual 213, 3) := by decide +kernel
theorem d121_74 : decode (xB 121) 74 = .ok (.aload_n 0, 1) := by decide +kernel
theorem d121_75 : decode (xB 121) 75 = .ok (.getfield 19, 3) := by decide +kernel
theorem d121_78 : decode (xB 121) 78 = .ok (.iload_n 2, 1) := by decide +kernel
theorem d121_79 : decode (xB 121) 79 = .ok (.invokevirtual 222, 3) := by decide +kernel
theorem d121_82 : decode (xB 121) 82 = .ok (.aload_n 0, 1) := by decide +kernel
theorem d121_83 : decode (xB 121) 83 = .ok (.getfield 19, 3) := by decide +kernel
theorem d121_86 : decode (xB 121) 86 = .ok (.iload_n 3, 1) := by decide +kernel
theorem d121_87 : decode (xB 121) 87 = .ok (.invokevirtual 222, 3) := by decide +kernel
theorem d121_90 : decode (xB 121) 90 = .ok (.iinc 3 1, 3) := by decide +kernel
theorem d121_93 : decode (xB 121) 93 = .ok (.goto (-67), 3) := by decide +kernel
theorem d121_96 : decode (xB 121) 96 = .ok (.iinc 2 1, 3) := by decide +kernel
theorem d121_99 : decode (xB 121) 99 = .ok (.goto (-88), 3) := by decide +kernel
theorem d121_102 : decode (xB 121) 102 = .ok (.iload_n 1, 1) := by decide +kernel
theorem d121_103 : decode (xB 121) 103 = .ok (.ireturn, 1) := by decide +kernel
theorem b121_0 {d : Nat} {P : xPr} {Q : xQr} {r : Nat} {mem : Nat → Nat → Int32} (hP : Cl d none 121 P Q)
    (k : xCall d 31 [.ref 3] (LAY, RFu r, mem) (Bk P 6 [.ref 0, .int (nI 0), .null, .null, .null] [] (0, 0))) : P 0 [.ref 0, .null, .null, .null, .null] [] (0, 0) (LAY, RFu r, mem) := by
  refine r_iconst (v := nI 0) hP d121_0 rfl ?_
  refine r_istore_n (L' := [.ref 0, .int (nI 0), .null, .null, .null]) hP d121_1 (Nat.le_of_ble_eq_true rfl) rfl ?_
  refine r_aload_n hP d121_2 rfl ?_
  refine r_getr (a := 3) hP d121_3 fr_11_19 rfl ly_0 rg_0_1 ?_
  exact r_callv (As := []) (S := []) hP d121_6 cr_11_213 (by decide +kernel) rfl (by simp) rfl ly_3 (by simp [Value.category]) ⟨Nat.zero_le _, Nat.zero_le _⟩ k
theorem b121_9 {d : Nat} {P : xPr} {Q : xQr} {r : Nat} {mem : Nat → Nat → Int32} (hP : Cl d none 121 P Q) {x1 : Int32} {v2 : Value} {v3 : Value} {v4 : Value}
    (k : P 11 [.ref 0, .int x1, .int (nI 0), v3, v4] [] (0, 0) (LAY, RFu r, mem)) : P 9 [.ref 0, .int x1, v2, v3, v4] [] (0, 0) (LAY, RFu r, mem) := by
  refine r_iconst (v := nI 0) hP d121_9 rfl ?_
  refine r_istore_n (L' := [.ref 0, .int x1, .int (nI 0), v3, v4]) hP d121_10 (Nat.le_of_ble_eq_true rfl) rfl ?_
  exact k
theorem b121_11 {d : Nat} {P : xPr} {Q : xQr} {r : Nat} {mem : Nat → Nat → Int32} (hP : Cl d none 121 P Q) {x1 : Int32} {x2 : Int32} {v3 : Value} {v4 : Value}
    (kt : (mem 5 1) ≤ x2 → P 102 [.ref 0, .int x1, .int x2, v3, v4] [] (0, 0) (LAY, RFu r, mem)) (kf : ¬ (mem 5 1) ≤ x2 → P 22 [.ref 0, .int x1, .int x2, v3, v4] [] (0, 0) (LAY, RFu r, mem)) : P 11 [.ref 0, .int x1, .int x2, v3, v4] [] (0, 0) (LAY, RFu r, mem) := by
  refine r_iload_n hP d121_11 rfl ?_
  refine r_aload_n hP d121_12 rfl ?_
  refine r_getr (a := 5) hP d121_13 fr_11_26 rfl ly_0 rg_0_2 ?_
  refine r_geti hP d121_16 fr_11_192 rfl ly_5 ?_
  exact r_icmp (t := 102) hP d121_19 (by decide) kt kf
theorem b121_22 {d : Nat} {P : xPr} {Q : xQr} {r : Nat} {mem : Nat → Nat → Int32} (hP : Cl d none 121 P Q) {x1 : Int32} {x2 : Int32} {v3 : Value} {v4 : Value}
    (k : P 26 [.ref 0, .int x1, .int x2, .int (x2 + (nI 1)), v4] [] (0, 0) (LAY, RFu r, mem)) : P 22 [.ref 0, .int x1, .int x2, v3, v4] [] (0, 0) (LAY, RFu r, mem) := by
  refine r_iload_n hP d121_22 rfl ?_
  refine r_iconst (v := nI 1) hP d121_23 rfl ?_
  refine r_iadd hP d121_24 ?_
  refine r_istore_n (L' := [.ref 0, .int x1, .int x2, .int (x2 + (nI 1)), v4]) hP d121_25 (Nat.le_of_ble_eq_true rfl) rfl ?_
  exact k
theorem b121_26 {d : Nat} {P : xPr} {Q : xQr} {r : Nat} {mem : Nat → Nat → Int32} (hP : Cl d none 121 P Q) {x1 : Int32} {x2 : Int32} {x3 : Int32} {v4 : Value}
    (kt : (mem 5 1) ≤ x3 → P 96 [.ref 0, .int x1, .int x2, .int x3, v4] [] (0, 0) (LAY, RFu r, mem)) (kf : ¬ (mem 5 1) ≤ x3 → P 37 [.ref 0, .int x1, .int x2, .int x3, v4] [] (0, 0) (LAY, RFu r, mem)) : P 26 [.ref 0, .int x1, .int x2, .int x3, v4] [] (0, 0) (LAY, RFu r, mem) := by
  refine r_iload_n hP d121_26 rfl ?_
  refine r_aload_n hP d121_27 rfl ?_
  refine r_getr (a := 5) hP d121_28 fr_11_26 rfl ly_0 rg_0_2 ?_
  refine r_geti hP d121_31 fr_11_192 rfl ly_5 ?_
  exact r_icmp (t := 96) hP d121_34 (by decide) kt kf
theorem b121_37 {d : Nat} {P : xPr} {Q : xQr} {r : Nat} {mem : Nat → Nat → Int32} (hP : Cl d none 121 P Q) {x1 : Int32} {x2 : Int32} {x3 : Int32} {v4 : Value}
    (k : xCall d 67 [.ref 47, .int x2, .int x3] (LAY, RFu r, mem) (Bk P 43 [.ref 0, .int x1, .int x2, .int x3, v4] [] (0, 0))) : P 37 [.ref 0, .int x1, .int x2, .int x3, v4] [] (0, 0) (LAY, RFu r, mem) := by
  refine r_aload_n hP d121_37 rfl ?_
  refine r_getr (a := 47) hP d121_38 fr_11_36 rfl ly_0 rg_0_4 ?_
  refine r_iload_n hP d121_41 rfl ?_
  refine r_iload_n hP d121_42 rfl ?_
  exact r_callv (As := [.int x2, .int x3]) (S := []) hP d121_43 cr_11_299 (by decide +kernel) rfl (by simp [Value.category]) rfl ly_47 (by simp [Value.category]) ⟨Nat.zero_le _, Nat.zero_le _⟩ k
theorem b121_46 {d : Nat} {P : xPr} {Q : xQr} {r : Nat} {mem : Nat → Nat → Int32} (hP : Cl d none 121 P Q) {x1 : Int32} {x2 : Int32} {x3 : Int32} {v4 : Value} {y0 : Int32}
    (k : xCall d 67 [.ref 47, .int x3, .int x2] (LAY, RFu r, mem) (Bk P 52 [.ref 0, .int x1, .int x2, .int x3, v4] [.int y0] (0, 0))) : P 46 [.ref 0, .int x1, .int x2, .int x3, v4] [.int y0] (0, 0) (LAY, RFu r, mem) := by
  refine r_aload_n hP d121_46 rfl ?_
  refine r_getr (a := 47) hP d121_47 fr_11_36 rfl ly_0 rg_0_4 ?_
  refine r_iload_n hP d121_50 rfl ?_
  refine r_iload_n hP d121_51 rfl ?_
  exact r_callv (As := [.int x3, .int x2]) (S := [.int y0]) hP d121_52 cr_11_299 (by decide +kernel) rfl (by simp [Value.category]) rfl ly_47 (by simp [Value.category]) ⟨Nat.zero_le _, Nat.zero_le _⟩ k
theorem b121_55 {d : Nat} {P : xPr} {Q : xQr} {r : Nat} {mem : Nat → Nat → Int32} (hP : Cl d none 121 P Q) {x1 : Int32} {x2 : Int32} {x3 : Int32} {v4 : Value} {y0 : Int32} {y1 : Int32}
    (kt : (y0 + y1) ≤ x1 → P 90 [.ref 0, .int x1, .int x2, .int x3, .int (y0 + y1)] [] (0, 0) (LAY, RFu r, mem)) (kf : ¬ (y0 + y1) ≤ x1 → P 64 [.ref 0, .int x1, .int x2, .int x3, .int (y0 + y1)] [] (0, 0) (LAY, RFu r, mem)) : P 55 [.ref 0, .int x1, .int x2, .int x3, v4] [.int y1, .int y0] (0, 0) (LAY, RFu r, mem) := by
  refine r_iadd hP d121_55 ?_
  refine r_istore (L' := [.ref 0, .int x1, .int x2, .int x3, .int (y0 + y1)]) hP d121_56 (Nat.le_of_ble_eq_true rfl) rfl ?_
  refine r_iload hP d121_58 rfl ?_
  refine r_iload_n hP d121_60 rfl ?_
  exact r_icmp (t := 90) hP d121_61 (by decide) kt kf
theorem b121_64 {d : Nat} {P : xPr} {Q : xQr} {r : Nat} {mem : Nat → Nat → Int32} (hP : Cl d none 121 P Q) {v1 : Value} {x2 : Int32} {x3 : Int32} {x4 : Int32}
    (k : xCall d 31 [.ref 3] (LAY, RFu r, mem) (Bk P 71 [.ref 0, .int x4, .int x2, .int x3, .int x4] [] (0, 0))) : P 64 [.ref 0, v1, .int x2, .int x3, .int x4] [] (0, 0) (LAY, RFu r, mem) := by
  refine r_iload hP d121_64 rfl ?_
  refine r_istore_n (L' := [.ref 0, .int x4, .int x2, .int x3, .int x4]) hP d121_66 (Nat.le_of_ble_eq_true rfl) rfl ?_
  refine r_aload_n hP d121_67 rfl ?_
  refine r_getr (a := 3) hP d121_68 fr_11_19 rfl ly_0 rg_0_1 ?_
  exact r_callv (As := []) (S := []) hP d121_71 cr_11_213 (by decide +kernel) rfl (by simp) rfl ly_3 (by simp [Value.category]) ⟨Nat.zero_le _, Nat.zero_le _⟩ k
theorem b121_74 {d : Nat} {P : xPr} {Q : xQr} {r : Nat} {mem : Nat → Nat → Int32} (hP : Cl d none 121 P Q) {x1 : Int32} {x2 : Int32} {x3 : Int32} {v4 : Value}
    (k : xCall d 32 [.ref 3, .int x2] (LAY, RFu r, mem) (Bk P 79 [.ref 0, .int x1, .int x2, .int x3, v4] [] (0, 0))) : P 74 [.ref 0, .int x1, .int x2, .int x3, v4] [] (0, 0) (LAY, RFu r, mem) := by
  refine r_aload_n hP d121_74 rfl ?_
  refine r_getr (a := 3) hP d121_75 fr_11_19 rfl ly_0 rg_0_1 ?_
  refine r_iload_n hP d121_78 rfl ?_
  exact r_callv (As := [.int x2]) (S := []) hP d121_79 cr_11_222 (by decide +kernel) rfl (by simp [Value.category]) rfl ly_3 (by simp [Value.category]) ⟨Nat.zero_le _, Nat.zero_le _⟩ k
theorem b121_82 {d : Nat} {P : xPr} {Q : xQr} {r : Nat} {mem : Nat → Nat → Int32} (hP : Cl d none 121 P Q) {x1 : Int32} {x2 : Int32} {x3 : Int32} {v4 : Value}
    (k : xCall d 32 [.ref 3, .int x3] (LAY, RFu r, mem) (Bk P 87 [.ref 0, .int x1, .int x2, .int x3, v4] [] (0, 0))) : P 82 [.ref 0, .int x1, .int x2, .int x3, v4] [] (0, 0) (LAY, RFu r, mem) := by
  refine r_aload_n hP d121_82 rfl ?_
  refine r_getr (a := 3) hP d121_83 fr_11_19 rfl ly_0 rg_0_1 ?_
  refine r_iload_n hP d121_86 rfl ?_
  exact r_callv (As := [.int x3]) (S := []) hP d121_87 cr_11_222 (by decide +kernel) rfl (by simp [Value.category]) rfl ly_3 (by simp [Value.category]) ⟨Nat.zero_le _, Nat.zero_le _⟩ k
theorem b121_90 {d : Nat} {P : xPr} {Q : xQr} {r : Nat} {mem : Nat → Nat → Int32} (hP : Cl d none 121 P Q) {x1 : Int32} {x2 : Int32} {x3 : Int32} {v4 : Value}
    (k : P 26 [.ref 0, .int x1, .int x2, .int (x3 + nI 1), v4] [] (0, 0) (LAY, RFu r, mem)) : P 90 [.ref 0, .int x1, .int x2, .int x3, v4] [] (0, 0) (LAY, RFu r, mem) := by
  refine r_iinc (v := nI 1) (L' := [.ref 0, .int x1, .int x2, .int (x3 + nI 1), v4]) hP d121_90 rfl rfl rfl ?_
  refine r_goto (t := 26) hP d121_93 (by decide) ?_
  exact k
theorem b121_96 {d : Nat} {P : xPr} {Q : xQr} {r : Nat} {mem : Nat → Nat → Int32} (hP : Cl d none 121 P Q) {x1 : Int32} {x2 : Int32} {v3 : Value} {v4 : Value}
    (k : P 11 [.ref 0, .int x1, .int (x2 + nI 1), v3, v4] [] (0, 0) (LAY, RFu r, mem)) : P 96 [.ref 0, .int x1, .int x2, v3, v4] [] (0, 0) (LAY, RFu r, mem) := by
  refine r_iinc (v := nI 1) (L' := [.ref 0, .int x1, .int (x2 + nI 1), v3, v4]) hP d121_96 rfl rfl rfl ?_
  refine r_goto (t := 11) hP d121_99 (by decide) ?_
  exact k
theorem b121_102 {d : Nat} {P : xPr} {Q : xQr} {r : Nat} {mem : Nat → Nat → Int32} (hP : Cl d none 121 P Q) {v0 : Value} {x1 : Int32} {v2 : Value} {v3 : Value} {v4 : Value}
    (k : Q (some (.int x1)) (LAY, RFu r, mem)) : P 102 [v0, .int x1, v2, v3, v4] [] (0, 0) (LAY, RFu r, mem) := by
  refine r_iload_n hP d121_102 rfl ?_
  exact r_iret hP d121_103 rfl k
theorem d122_0 : decode (xB 122) 0 = .ok (.aload_n 0, 1) := by decide +kernel
theorem d122_1 : decode (xB 122) 1 = .ok (.iload_n 1, 1) := by decide +kernel
theorem d122_2 : decode (xB 122) 2 = .ok (.iload_n 2, 1) := by decide +kernel
theorem d122_3 : decode (xB 122) 3 = .ok (.invokevirtual 295, 3) := by decide +kernel
theorem d122_6 : decode (xB 122) 6 = .ok (.ifCond .eq 14, 3) := by decide +kernel
theorem d122_9 : decode (xB 122) 9 = .ok (.iload_n 3, 1) := by decide +kernel
theorem d122_10 : decode (xB 122) 10 = .ok (.iconst 1, 1) := by decide +kernel
theorem d122_11 : decode (xB 122) 11 = .ok (.sipush 999, 3) := by decide +kernel
theorem d122_14 : decode (xB 122) 14 = .ok (.invokestatic 185, 3) := by decide +kernel
theorem d122_17 : decode (xB 122) 17 = .ok (.ifCond .ne 5, 3) := by decide +kernel
theorem d122_20 : decode (xB 122) 20 = .ok (.iconst 0, 1) := by decide +kernel
theorem d122_21 : decode (xB 122) 21 = .ok (.ireturn, 1) := by decide +kernel
theorem d122_22 : decode (xB 122) 22 = .ok (.aload_n 0, 1) := by decide +kernel
theorem d122_23 : decode (xB 122) 23 = .ok (.getfield 36, 3) := by decide +kernel
theorem d122_26 : decode (xB 122) 26 = .ok (.iload_n 1, 1) := by decide +kernel
theorem d122_27 : decode (xB 122) 27 = .ok (.iload_n 2, 1) := by decide +kernel
theorem d122_28 : decode (xB 122) 28 = .ok (.iload_n 3, 1) := by decide +kernel
theorem d122_29 : decode (xB 122) 29 = .ok (.invokevirtual 302, 3) := by decide +kernel
theorem d122_32 : decode (xB 122) 32 = .ok (.aload_n 0, 1) := by decide +kernel
theorem d122_33 : decode (xB 122) 33 = .ok (.getfield 53, 3) := by decide +kernel
theorem d122_36 : decode (xB 122) 36 = .ok (.invokevirtual 121, 3) := by decide +kernel
theorem d122_39 : decode (xB 122) 39 = .ok (.iconst 1, 1) := by decide +kernel
theorem d122_40 : decode (xB 122) 40 = .ok (.ireturn, 1) := by decide +kernel
theorem b122_0 {d : Nat} {P : xPr} {Q : xQr} {r : Nat} {mem : Nat → Nat → Int32} (hP : Cl d none 122 P Q) {p0 : Int32} {p1 : Int32} {p2 : Int32}
    (k : xCall d 152 [.ref 0, .int p0, .int p1] (LAY, RFu r, mem) (Bk P 3 [.ref 0, .int p0, .int p1, .int p2] [] (0, 0))) : P 0 [.ref 0, .int p0, .int p1, .int p2] [] (0, 0) (LAY, RFu r, mem) := by
  refine r_aload_n hP d122_0 rfl ?_
  refine r_iload_n hP d122_1 rfl ?_
  refine r_iload_n hP d122_2 rfl ?_
  exact r_callv (As := [.int p0, .int p1]) (S := []) hP d122_3 cr_11_295 (by decide +kernel) rfl (by simp [Value.category]) rfl ly_0 (by simp [Value.category]) ⟨Nat.zero_le _, Nat.zero_le _⟩ k
theorem b122_6 {d : Nat} {P : xPr} {Q : xQr} {r : Nat} {mem : Nat → Nat → Int32} (hP : Cl d none 122 P Q) {x1 : Int32} {x2 : Int32} {x3 : Int32} {y0 : Int32}
    (kt : y0 = 0 → P 20 [.ref 0, .int x1, .int x2, .int x3] [] (0, 0) (LAY, RFu r, mem)) (kf : ¬ y0 = 0 → P 9 [.ref 0, .int x1, .int x2, .int x3] [] (0, 0) (LAY, RFu r, mem)) : P 6 [.ref 0, .int x1, .int x2, .int x3] [.int y0] (0, 0) (LAY, RFu r, mem) := by
  exact r_if (t := 20) hP d122_6 (by decide) kt kf
theorem b122_9 {d : Nat} {P : xPr} {Q : xQr} {r : Nat} {mem : Nat → Nat → Int32} (hP : Cl d none 122 P Q) {x1 : Int32} {x2 : Int32} {x3 : Int32}
    (k : xCall d 151 [.int x3, .int (nI 1), .int (nI 999)] (LAY, RFu r, mem) (Bk P 14 [.ref 0, .int x1, .int x2, .int x3] [] (0, 0))) : P 9 [.ref 0, .int x1, .int x2, .int x3] [] (0, 0) (LAY, RFu r, mem) := by
  refine r_iload_n hP d122_9 rfl ?_
  refine r_iconst (v := nI 1) hP d122_10 rfl ?_
  refine r_sipush (v := nI 999) hP d122_11 rfl ?_
  exact r_calls (As := [.int x3, .int (nI 1), .int (nI 999)]) (S := []) hP d122_14 cr_11_185 (by decide +kernel) rfl (by simp [Value.category]) rfl (by simp [Value.category]) ⟨Nat.zero_le _, Nat.zero_le _⟩ k
theorem b122_17 {d : Nat} {P : xPr} {Q : xQr} {r : Nat} {mem : Nat → Nat → Int32} (hP : Cl d none 122 P Q) {x1 : Int32} {x2 : Int32} {x3 : Int32} {y0 : Int32}
    (kt : ¬ y0 = 0 → P 22 [.ref 0, .int x1, .int x2, .int x3] [] (0, 0) (LAY, RFu r, mem)) (kf : y0 = 0 → P 20 [.ref 0, .int x1, .int x2, .int x3] [] (0, 0) (LAY, RFu r, mem)) : P 17 [.ref 0, .int x1, .int x2, .int x3] [.int y0] (0, 0) (LAY, RFu r, mem) := by
  exact r_if (t := 22) hP d122_17 (by decide) kt (fun q => kf (Decidable.of_not_not q))
theorem b122_20 {d : Nat} {P : xPr} {Q : xQr} {r : Nat} {mem : Nat → Nat → Int32} (hP : Cl d none 122 P Q) {v0 : Value} {v1 : Value} {v2 : Value} {v3 : Value} (hzr : nI 0 = 0 ∨ nI 0 = 1)
    (k : Q (some (.int (nI 0))) (LAY, RFu r, mem)) : P 20 [v0, v1, v2, v3] [] (0, 0) (LAY, RFu r, mem) := by
  refine r_iconst (v := nI 0) hP d122_20 rfl ?_
  exact r_zret hP d122_21 rfl hzr k
theorem b122_22 {d : Nat} {P : xPr} {Q : xQr} {r : Nat} {mem : Nat → Nat → Int32} (hP : Cl d none 122 P Q) {x1 : Int32} {x2 : Int32} {x3 : Int32}
    (k : xCall d 68 [.ref 47, .int x1, .int x2, .int x3] (LAY, RFu r, mem) (Bk P 29 [.ref 0, .int x1, .int x2, .int x3] [] (0, 0))) : P 22 [.ref 0, .int x1, .int x2, .int x3] [] (0, 0) (LAY, RFu r, mem) := by
  refine r_aload_n hP d122_22 rfl ?_
  refine r_getr (a := 47) hP d122_23 fr_11_36 rfl ly_0 rg_0_4 ?_
  refine r_iload_n hP d122_26 rfl ?_
  refine r_iload_n hP d122_27 rfl ?_
  refine r_iload_n hP d122_28 rfl ?_
  exact r_callv (As := [.int x1, .int x2, .int x3]) (S := []) hP d122_29 cr_11_302 (by decide +kernel) rfl (by simp [Value.category]) rfl ly_47 (by simp [Value.category]) ⟨Nat.zero_le _, Nat.zero_le _⟩ k
theorem b122_32 {d : Nat} {P : xPr} {Q : xQr} {r : Nat} {mem : Nat → Nat → Int32} (hP : Cl d none 122 P Q) {v1 : Value} {v2 : Value} {v3 : Value}
    (k : xCall d 27 [.ref 55] (LAY, RFu r, mem) (Bk P 36 [.ref 0, v1, v2, v3] [] (0, 0))) : P 32 [.ref 0, v1, v2, v3] [] (0, 0) (LAY, RFu r, mem) := by
  refine r_aload_n hP d122_32 rfl ?_
  refine r_getr (a := 55) hP d122_33 fr_11_53 rfl ly_0 rg_0_7 ?_
  exact r_callv (As := []) (S := []) hP d122_36 cr_11_121 (by decide +kernel) rfl (by simp) rfl ly_55 (by simp [Value.category]) ⟨Nat.zero_le _, Nat.zero_le _⟩ k
theorem b122_39 {d : Nat} {P : xPr} {Q : xQr} {r : Nat} {mem : Nat → Nat → Int32} (hP : Cl d none 122 P Q) {v0 : Value} {v1 : Value} {v2 : Value} {v3 : Value} (hzr : nI 1 = 0 ∨ nI 1 = 1)
    (k : Q (some (.int (nI 1))) (LAY, RFu r, mem)) : P 39 [v0, v1, v2, v3] [] (0, 0) (LAY, RFu r, mem) := by
  refine r_iconst (v := nI 1) hP d122_39 rfl ?_
  exact r_zret hP d122_40 rfl hzr k
theorem d123_0 : decode (xB 123) 0 = .ok (.aload_n 0, 1) := by decide +kernel
theorem d123_1 : decode (xB 123) 1 = .ok (.getfield 60, 3) := by decide +kernel
theorem d123_4 : decode (xB 123) 4 = .ok (.aload_n 0, 1) := by decide +kernel
theorem d123_5 : decode (xB 123) 5 = .ok (.getfield 36, 3) := by decide +kernel
theorem d123_8 : decode (xB 123) 8 = .ok (.aload_n 0, 1) := by decide +kernel
theorem d123_9 : decode (xB 123) 9 = .ok (.getfield 19, 3) := by decide +kernel
theorem d123_12 : decode (xB 123) 12 = .ok (.invokevirtual 306, 3) := by decide +kernel
theorem d123_15 : decode (xB 123) 15 = .ok (.ireturn, 1) := by decide +kernel
theorem b123_0 {d : Nat} {P : xPr} {Q : xQr} {r : Nat} {mem : Nat → Nat → Int32} (hP : Cl d none 123 P Q)
    (k : xCall d 1 [.ref 78, .ref 47, .ref 3] (LAY, RFu r, mem) (Bk P 12 [.ref 0] [] (0, 0))) : P 0 [.ref 0] [] (0, 0) (LAY, RFu r, mem) := by
  refine r_aload_n hP d123_0 rfl ?_
  refine r_getr (a := 78) hP d123_1 fr_11_60 rfl ly_0 rg_0_8 ?_
  refine r_aload_n hP d123_4 rfl ?_
  refine r_getr (a := 47) hP d123_5 fr_11_36 rfl ly_0 rg_0_4 ?_
  refine r_aload_n hP d123_8 rfl ?_
  refine r_getr (a := 3) hP d123_9 fr_11_19 rfl ly_0 rg_0_1 ?_
  exact r_callv (As := [.ref 47, .ref 3]) (S := []) hP d123_12 cr_11_306 (by decide +kernel) rfl (by simp [Value.category]) rfl ly_78 (by simp [Value.category]) ⟨Nat.zero_le _, Nat.zero_le _⟩ k
theorem b123_15 {d : Nat} {P : xPr} {Q : xQr} {r : Nat} {mem : Nat → Nat → Int32} (hP : Cl d none 123 P Q) {v0 : Value} {y0 : Int32}
    (k : Q (some (.int y0)) (LAY, RFu r, mem)) : P 15 [v0] [.int y0] (0, 0) (LAY, RFu r, mem) := by
  exact r_iret hP d123_15 rfl k
theorem d124_0 : decode (xB 124) 0 = .ok (.aload_n 0, 1) := by decide +kernel
theorem d124_1 : decode (xB 124) 1 = .ok (.getfield 53, 3) := by decide +kernel
theorem d124_4 : decode (xB 124) 4 = .ok (.invokevirtual 121, 3) := by decide +kernel
theorem d124_7 : decode (xB 124) 7 = .ok (.aload_n 0, 1) := by decide +kernel
theorem d124_8 : decode (xB 124) 8 = .ok (.getfield 60, 3) := by decide +kernel
theorem d124_11 : decode (xB 124) 11 = .ok (.aload_n 0, 1) := by decide +kernel
theorem d124_12 : decode (xB 124) 12 = .ok (.getfield 36, 3) := by decide +kernel
theorem d124_15 : decode (xB 124) 15 = .ok (.aload_n 0, 1) := by decide +kernel
theorem d124_16 : decode (xB 124) 16 = .ok (.getfield 19, 3) := by decide +kernel
theorem d124_19 : decode (xB 124) 19 = .ok (.invokevirtual 310, 3) := by decide +kernel
theorem d124_22 : decode (xB 124) 22 = .ok (.ireturn, 1) := by decide +kernel
theorem b124_0 {d : Nat} {P : xPr} {Q : xQr} {r : Nat} {mem : Nat → Nat → Int32} (hP : Cl d none 124 P Q)
    (k : xCall d 27 [.ref 55] (LAY, RFu r, mem) (Bk P 4 [.ref 0] [] (0, 0))) : P 0 [.ref 0] [] (0, 0) (LAY, RFu r, mem) := by
  refine r_aload_n hP d124_0 rfl ?_
  refine r_getr (a := 55) hP d124_1 fr_11_53 rfl ly_0 rg_0_7 ?_
  exact r_callv (As := []) (S := []) hP d124_4 cr_11_121 (by decide +kernel) rfl (by simp) rfl ly_55 (by simp [Value.category]) ⟨Nat.zero_le _, Nat.zero_le _⟩ k
theorem b124_7 {d : Nat} {P : xPr} {Q : xQr} {r : Nat} {mem : Nat → Nat → Int32} (hP : Cl d none 124 P Q)
    (k : xCall d 5 [.ref 78, .ref 47, .ref 3] (LAY, RFu r, mem) (Bk P 19 [.ref 0] [] (0, 0))) : P 7 [.ref 0] [] (0, 0) (LAY, RFu r, mem) := by
  refine r_aload_n hP d124_7 rfl ?_
  refine r_getr (a := 78) hP d124_8 fr_11_60 rfl ly_0 rg_0_8 ?_
  refine r_aload_n hP d124_11 rfl ?_
  refine r_getr (a := 47) hP d124_12 fr_11_36 rfl ly_0 rg_0_4 ?_
  refine r_aload_n hP d124_15 rfl ?_
  refine r_getr (a := 3) hP d124_16 fr_11_19 rfl ly_0 rg_0_1 ?_
  exact r_callv (As := [.ref 47, .ref 3]) (S := []) hP d124_19 cr_11_310 (by decide +kernel) rfl (by simp [Value.category]) rfl ly_78 (by simp [Value.category]) ⟨Nat.zero_le _, Nat.zero_le _⟩ k
theorem b124_22 {d : Nat} {P : xPr} {Q : xQr} {r : Nat} {mem : Nat → Nat → Int32} (hP : Cl d none 124 P Q) {v0 : Value} {y0 : Int32}
    (k : Q (some (.int y0)) (LAY, RFu r, mem)) : P 22 [v0] [.int y0] (0, 0) (LAY, RFu r, mem) := by
  exact r_iret hP d124_22 rfl k
theorem d125_0 : decode (xB 125) 0 = .ok (.aload_n 0, 1) := by decide +kernel
theorem d125_1 : decode (xB 125) 1 = .ok (.getfield 26, 3) := by decide +kernel
theorem d125_4 : decode (xB 125) 4 = .ok (.iload_n 1, 1) := by decide +kernel
theorem d125_5 : decode (xB 125) 5 = .ok (.invokevirtual 127, 3) := by decide +kernel
theorem d125_8 : decode (xB 125) 8 = .ok (.ifCond .eq 12, 3) := by decide +kernel
theorem d125_11 : decode (xB 125) 11 = .ok (.iload_n 2, 1) := by decide +kernel
theorem d125_12 : decode (xB 125) 12 = .ok (.iconst 0, 1) := by decide +kernel
theorem d125_13 : decode (xB 125) 13 = .ok (.iconst 5, 1) := by decide +kernel
theorem d125_14 : decode (xB 125) 14 = .ok (.invokestatic 185, 3) := by decide +kernel
theorem d125_17 : decode (xB 125) 17 = .ok (.ifCond .ne 5, 3) := by decide +kernel
theorem d125_20 : decode (xB 125) 20 = .ok (.iconst (-1), 1) := by decide +kernel
theorem d125_21 : decode (xB 125) 21 = .ok (.ireturn, 1) := by decide +kernel
theorem d125_22 : decode (xB 125) 22 = .ok (.aload_n 0, 1) := by decide +kernel
theorem d125_23 : decode (xB 125) 23 = .ok (.getfield 26, 3) := by decide +kernel
theorem d125_26 : decode (xB 125) 26 = .ok (.getfield 313, 3) := by decide +kernel
theorem d125_29 : decode (xB 125) 29 = .ok (.ifCond .ne 6, 3) := by decide +kernel
theorem d125_32 : decode (xB 125) 32 = .ok (.bipush (-2), 2) := by decide +kernel
theorem d125_34 : decode (xB 125) 34 = .ok (.ireturn, 1) := by decide +kernel
theorem d125_35 : decode (xB 125) 35 = .ok (.aload_n 0, 1) := by decide +kernel
theorem d125_36 : decode (xB 125) 36 = .ok (.getfield 30, 3) := by decide +kernel
theorem d125_39 : decode (xB 125) 39 = .ok (.aload_n 0, 1) := by decide +kernel
theorem d125_40 : decode (xB 125) 40 = .ok (.getfield 26, 3) := by decide +kernel
theorem d125_43 : decode (xB 125) 43 = .ok (.invokevirtual 316, 3) := by decide +kernel
theorem d125_46 : decode (xB 125) 46 = .ok (.aload_n 0, 1) := by decide +kernel
theorem d125_47 : decode (xB 125) 47 = .ok (.getfield 69, 3) := by decide +kernel
theorem d125_50 : decode (xB 125) 50 = .ok (.aload_n 0, 1) := by decide +kernel
theorem d125_51 : decode (xB 125) 51 = .ok (.getfield 36, 3) := by decide +kernel
theorem d125_54 : decode (xB 125) 54 = .ok (.iload_n 1, 1) := by decide +kernel
theorem d125_55 : decode (xB 125) 55 = .ok (.iconst (-1), 1) := by decide +kernel
theorem d125_56 : decode (xB 125) 56 = .ok (.iload_n 2, 1) := by decide +kernel
theorem d125_57 : decode (xB 125) 57 = .ok (.invokevirtual 319, 3) := by decide +kernel
theorem d125_60 : decode (xB 125) 60 = .ok (.aload_n 0, 1) := by decide +kernel
theorem d125_61 : decode (xB 125) 61 = .ok (.getfield 69, 3) := by decide +kernel
theorem d125_64 : decode (xB 125) 64 = .ok (.invokevirtual 323, 3) := by decide +kernel
theorem d125_67 : decode (xB 125) 67 = .ok (.aload_n 0, 1) := by decide +kernel
theorem d125_68 : decode (xB 125) 68 = .ok (.getfield 69, 3) := by decide +kernel
theorem d125_71 : decode (xB 125) 71 = .ok (.aload_n 0, 1) := by decide +kernel
theorem d125_72 : decode (xB 125) 72 = .ok (.getfield 19, 3) := by decide +kernel
theorem d125_75 : decode (xB 125) 75 = .ok (.invokevirtual 326, 3) := by decide +kernel
theorem d125_78 : decode (xB 125) 78 = .ok (.iload_n 2, 1) := by decide +kernel
theorem d125_79 : decode (xB 125) 79 = .ok (.aload_n 0, 1) := by decide +kernel
theorem d125_80 : decode (xB 125) 80 = .ok (.getfield 69, 3) := by decide +kernel
theorem d125_83 : decode (xB 125) 83 = .ok (.getfield 330, 3) := by decide +kernel
theorem d125_86 : decode (xB 125) 86 = .ok (.isub, 1) := by decide +kernel
theorem d125_87 : decode (xB 125) 87 = .ok (.ireturn, 1) := by decide +kernel
theorem b125_0 {d : Nat} {P : xPr} {Q : xQr} {r : Nat} {mem : Nat → Nat → Int32} (hP : Cl d none 125 P Q) {p0 : Int32} {p1 : Int32}
    (k : xCall d 83 [.ref 5, .int p0] (LAY, RFu r, mem) (Bk P 5 [.ref 0, .int p0, .int p1] [] (0, 0))) : P 0 [.ref 0, .int p0, .int p1] [] (0, 0) (LAY, RFu r, mem) := by
  refine r_aload_n hP d125_0 rfl ?_
  refine r_getr (a := 5) hP d125_1 fr_11_26 rfl ly_0 rg_0_2 ?_
  refine r_iload_n hP d125_4 rfl ?_
  exact r_callv (As := [.int p0]) (S := []) hP d125_5 cr_11_127 (by decide +kernel) rfl (by simp [Value.category]) rfl ly_5 (by simp [Value.category]) ⟨Nat.zero_le _, Nat.zero_le _⟩ k
theorem b125_8 {d : Nat} {P : xPr} {Q : xQr} {r : Nat} {mem : Nat → Nat → Int32} (hP : Cl d none 125 P Q) {x1 : Int32} {x2 : Int32} {y0 : Int32}
    (kt : y0 = 0 → P 20 [.ref 0, .int x1, .int x2] [] (0, 0) (LAY, RFu r, mem)) (kf : ¬ y0 = 0 → P 11 [.ref 0, .int x1, .int x2] [] (0, 0) (LAY, RFu r, mem)) : P 8 [.ref 0, .int x1, .int x2] [.int y0] (0, 0) (LAY, RFu r, mem) := by
  exact r_if (t := 20) hP d125_8 (by decide) kt kf
theorem b125_11 {d : Nat} {P : xPr} {Q : xQr} {r : Nat} {mem : Nat → Nat → Int32} (hP : Cl d none 125 P Q) {x1 : Int32} {x2 : Int32}
    (k : xCall d 151 [.int x2, .int (nI 0), .int (nI 5)] (LAY, RFu r, mem) (Bk P 14 [.ref 0, .int x1, .int x2] [] (0, 0))) : P 11 [.ref 0, .int x1, .int x2] [] (0, 0) (LAY, RFu r, mem) := by
  refine r_iload_n hP d125_11 rfl ?_
  refine r_iconst (v := nI 0) hP d125_12 rfl ?_
  refine r_iconst (v := nI 5) hP d125_13 rfl ?_
  exact r_calls (As := [.int x2, .int (nI 0), .int (nI 5)]) (S := []) hP d125_14 cr_11_185 (by decide +kernel) rfl (by simp [Value.category]) rfl (by simp [Value.category]) ⟨Nat.zero_le _, Nat.zero_le _⟩ k
theorem b125_17 {d : Nat} {P : xPr} {Q : xQr} {r : Nat} {mem : Nat → Nat → Int32} (hP : Cl d none 125 P Q) {x1 : Int32} {x2 : Int32} {y0 : Int32}
    (kt : ¬ y0 = 0 → P 22 [.ref 0, .int x1, .int x2] [] (0, 0) (LAY, RFu r, mem)) (kf : y0 = 0 → P 20 [.ref 0, .int x1, .int x2] [] (0, 0) (LAY, RFu r, mem)) : P 17 [.ref 0, .int x1, .int x2] [.int y0] (0, 0) (LAY, RFu r, mem) := by
  exact r_if (t := 22) hP d125_17 (by decide) kt (fun q => kf (Decidable.of_not_not q))
theorem b125_20 {d : Nat} {P : xPr} {Q : xQr} {r : Nat} {mem : Nat → Nat → Int32} (hP : Cl d none 125 P Q) {v0 : Value} {v1 : Value} {v2 : Value}
    (k : Q (some (.int (-1))) (LAY, RFu r, mem)) : P 20 [v0, v1, v2] [] (0, 0) (LAY, RFu r, mem) := by
  refine r_iconst (v := (-1)) hP d125_20 rfl ?_
  exact r_iret hP d125_21 rfl k
theorem b125_22 {d : Nat} {P : xPr} {Q : xQr} {r : Nat} {mem : Nat → Nat → Int32} (hP : Cl d none 125 P Q) {x1 : Int32} {x2 : Int32}
    (kt : ¬ (mem 5 0) = 0 → P 35 [.ref 0, .int x1, .int x2] [] (0, 0) (LAY, RFu r, mem)) (kf : (mem 5 0) = 0 → P 32 [.ref 0, .int x1, .int x2] [] (0, 0) (LAY, RFu r, mem)) : P 22 [.ref 0, .int x1, .int x2] [] (0, 0) (LAY, RFu r, mem) := by
  refine r_aload_n hP d125_22 rfl ?_
  refine r_getr (a := 5) hP d125_23 fr_11_26 rfl ly_0 rg_0_2 ?_
  refine r_geti hP d125_26 fr_11_313 rfl ly_5 ?_
  exact r_if (t := 35) hP d125_29 (by decide) kt (fun q => kf (Decidable.of_not_not q))
theorem b125_32 {d : Nat} {P : xPr} {Q : xQr} {r : Nat} {mem : Nat → Nat → Int32} (hP : Cl d none 125 P Q) {v0 : Value} {v1 : Value} {v2 : Value}
    (k : Q (some (.int (-2))) (LAY, RFu r, mem)) : P 32 [v0, v1, v2] [] (0, 0) (LAY, RFu r, mem) := by
  refine r_bipush (v := (-2)) hP d125_32 rfl ?_
  exact r_iret hP d125_34 rfl k
theorem b125_35 {d : Nat} {P : xPr} {Q : xQr} {r : Nat} {mem : Nat → Nat → Int32} (hP : Cl d none 125 P Q) {x1 : Int32} {x2 : Int32}
    (k : xCall d 88 [.ref 26, .ref 5] (LAY, RFu r, mem) (Bk P 43 [.ref 0, .int x1, .int x2] [] (0, 0))) : P 35 [.ref 0, .int x1, .int x2] [] (0, 0) (LAY, RFu r, mem) := by
  refine r_aload_n hP d125_35 rfl ?_
  refine r_getr (a := 26) hP d125_36 fr_11_30 rfl ly_0 rg_0_3 ?_
  refine r_aload_n hP d125_39 rfl ?_
  refine r_getr (a := 5) hP d125_40 fr_11_26 rfl ly_0 rg_0_2 ?_
  exact r_callv (As := [.ref 5]) (S := []) hP d125_43 cr_11_316 (by decide +kernel) rfl (by simp [Value.category]) rfl ly_26 (by simp [Value.category]) ⟨Nat.zero_le _, Nat.zero_le _⟩ k
theorem b125_46 {d : Nat} {P : xPr} {Q : xQr} {r : Nat} {mem : Nat → Nat → Int32} (hP : Cl d none 125 P Q) {x1 : Int32} {x2 : Int32}
    (k : xCall d 53 [.ref 81, .ref 47, .int x1, .int (-1), .int x2] (LAY, RFu r, mem) (Bk P 57 [.ref 0, .int x1, .int x2] [] (0, 0))) : P 46 [.ref 0, .int x1, .int x2] [] (0, 0) (LAY, RFu r, mem) := by
  refine r_aload_n hP d125_46 rfl ?_
  refine r_getr (a := 81) hP d125_47 fr_11_69 rfl ly_0 rg_0_9 ?_
  refine r_aload_n hP d125_50 rfl ?_
  refine r_getr (a := 47) hP d125_51 fr_11_36 rfl ly_0 rg_0_4 ?_
  refine r_iload_n hP d125_54 rfl ?_
  refine r_iconst (v := (-1)) hP d125_55 rfl ?_
  refine r_iload_n hP d125_56 rfl ?_
  exact r_callv (As := [.ref 47, .int x1, .int (-1), .int x2]) (S := []) hP d125_57 cr_11_319 (by decide +kernel) rfl (by simp [Value.category]) rfl ly_81 (by simp [Value.category]) ⟨Nat.zero_le _, Nat.zero_le _⟩ k
theorem b125_60 {d : Nat} {P : xPr} {Q : xQr} {r : Nat} {mem : Nat → Nat → Int32} (hP : Cl d none 125 P Q) {v1 : Value} {x2 : Int32}
    (k : xCall d 54 [.ref 81] (LAY, RFu r, mem) (Bk P 64 [.ref 0, v1, .int x2] [] (0, 0))) : P 60 [.ref 0, v1, .int x2] [] (0, 0) (LAY, RFu r, mem) := by
  refine r_aload_n hP d125_60 rfl ?_
  refine r_getr (a := 81) hP d125_61 fr_11_69 rfl ly_0 rg_0_9 ?_
  exact r_callv (As := []) (S := []) hP d125_64 cr_11_323 (by decide +kernel) rfl (by simp) rfl ly_81 (by simp [Value.category]) ⟨Nat.zero_le _, Nat.zero_le _⟩ k
theorem b125_67 {d : Nat} {P : xPr} {Q : xQr} {r : Nat} {mem : Nat → Nat → Int32} (hP : Cl d none 125 P Q) {v1 : Value} {x2 : Int32}
    (k : xCall d 58 [.ref 81, .ref 3] (LAY, RFu r, mem) (Bk P 75 [.ref 0, v1, .int x2] [] (0, 0))) : P 67 [.ref 0, v1, .int x2] [] (0, 0) (LAY, RFu r, mem) := by
  refine r_aload_n hP d125_67 rfl ?_
  refine r_getr (a := 81) hP d125_68 fr_11_69 rfl ly_0 rg_0_9 ?_
  refine r_aload_n hP d125_71 rfl ?_
  refine r_getr (a := 3) hP d125_72 fr_11_19 rfl ly_0 rg_0_1 ?_
  exact r_callv (As := [.ref 3]) (S := []) hP d125_75 cr_11_326 (by decide +kernel) rfl (by simp [Value.category]) rfl ly_81 (by simp [Value.category]) ⟨Nat.zero_le _, Nat.zero_le _⟩ k
theorem b125_78 {d : Nat} {P : xPr} {Q : xQr} {r : Nat} {mem : Nat → Nat → Int32} (hP : Cl d none 125 P Q) {v1 : Value} {x2 : Int32}
    (k : Q (some (.int (x2 - (mem 81 0)))) (LAY, RFu r, mem)) : P 78 [.ref 0, v1, .int x2] [] (0, 0) (LAY, RFu r, mem) := by
  refine r_iload_n hP d125_78 rfl ?_
  refine r_aload_n hP d125_79 rfl ?_
  refine r_getr (a := 81) hP d125_80 fr_11_69 rfl ly_0 rg_0_9 ?_
  refine r_geti hP d125_83 fr_11_330 rfl ly_81 ?_
  refine r_isub hP d125_86 ?_
  exact r_iret hP d125_87 rfl k
theorem d126_0 : decode (xB 126) 0 = .ok (.aload_n 0, 1) := by decide +kernel
theorem d126_1 : decode (xB 126) 1 = .ok (.iload_n 1, 1) := by decide +kernel
theorem d126_2 : decode (xB 126) 2 = .ok (.iload_n 2, 1) := by decide +kernel
theorem d126_3 : decode (xB 126) 3 = .ok (.invokevirtual 295, 3) := by decide +kernel
theorem d126_6 : decode (xB 126) 6 = .ok (.ifCond .eq 12, 3) := by decide +kernel
theorem d126_9 : decode (xB 126) 9 = .ok (.iload_n 3, 1) := by decide +kernel
theorem d126_10 : decode (xB 126) 10 = .ok (.iconst 0, 1) := by decide +kernel
theorem d126_11 : decode (xB 126) 11 = .ok (.iconst 3, 1) := by decide +kernel
theorem d126_12 : decode (xB 126) 12 = .ok (.invokestatic 185, 3) := by decide +kernel
theorem d126_15 : decode (xB 126) 15 = .ok (.ifCond .ne 5, 3) := by decide +kernel
theorem d126_18 : decode (xB 126) 18 = .ok (.iconst (-1), 1) := by decide +kernel
theorem d126_19 : decode (xB 126) 19 = .ok (.ireturn, 1) := by decide +kernel
theorem d126_20 : decode (xB 126) 20 = .ok (.aload_n 0, 1) := by decide +kernel
theorem d126_21 : decode (xB 126) 21 = .ok (.getfield 26, 3) := by decide +kernel
theorem d126_24 : decode (xB 126) 24 = .ok (.getfield 313, 3) := by decide +kernel
theorem d126_27 : decode (xB 126) 27 = .ok (.ifCond .ne 6, 3) := by decide +kernel
theorem d126_30 : decode (xB 126) 30 = .ok (.bipush (-2), 2) := by decide +kernel
theorem d126_32 : decode (xB 126) 32 = .ok (.ireturn, 1) := by decide +kernel
theorem d126_33 : decode (xB 126) 33 = .ok (.aload_n 0, 1) := by decide +kernel
theorem d126_34 : decode (xB 126) 34 = .ok (.getfield 30, 3) := by decide +kernel
theorem d126_37 : decode (xB 126) 37 = .ok (.aload_n 0, 1) := by decide +kernel
theorem d126_38 : decode (xB 126) 38 = .ok (.getfield 26, 3) := by decide +kernel
theorem d126_41 : decode (xB 126) 41 = .ok (.invokevirtual 316, 3) := by decide +kernel
theorem d126_44 : decode (xB 126) 44 = .ok (.aload_n 0, 1) := by decide +kernel
theorem d126_45 : decode (xB 126) 45 = .ok (.getfield 69, 3) := by decide +kernel
theorem d126_48 : decode (xB 126) 48 = .ok (.aload_n 0, 1) := by decide +kernel
theorem d126_49 : decode (xB 126) 49 = .ok (.getfield 36, 3) := by decide +kernel
theorem d126_52 : decode (xB 126) 52 = .ok (.iload_n 1, 1) := by decide +kernel
theorem d126_53 : decode (xB 126) 53 = .ok (.iload_n 2, 1) := by decide +kernel
theorem d126_54 : decode (xB 126) 54 = .ok (.iload_n 3, 1) := by decide +kernel
theorem d126_55 : decode (xB 126) 55 = .ok (.invokevirtual 319, 3) := by decide +kernel
theorem d126_58 : decode (xB 126) 58 = .ok (.aload_n 0, 1) := by decide +kernel
theorem d126_59 : decode (xB 126) 59 = .ok (.getfield 69, 3) := by decide +kernel
theorem d126_62 : decode (xB 126) 62 = .ok (.invokevirtual 323, 3) := by decide +kernel
theorem d126_65 : decode (xB 126) 65 = .ok (.aload_n 0, 1) := by decide +kernel
theorem d126_66 : decode (xB 126) 66 = .ok (.getfield 69, 3) := by decide +kernel
theorem d126_69 : decode (xB 126) 69 = .ok (.aload_n 0, 1) := by decide +kernel
theorem d126_70 : decode (xB 126) 70 = .ok (.getfield 19, 3) := by decide +kernel
theorem d126_73 : decode (xB 126) 73 = .ok (.invokevirtual 326, 3) := by decide +kernel
theorem d126_76 : decode (xB 126) 76 = .ok (.aload_n 0, 1) := by decide +kernel
theorem d126_77 : decode (xB 126) 77 = .ok (.getfield 69, 3) := by decide +kernel
theorem d126_80 : decode (xB 126) 80 = .ok (.getfield 330, 3) := by decide +kernel
theorem d126_83 : decode (xB 126) 83 = .ok (.ireturn, 1) := by decide +kernel
theorem b126_0 {d : Nat} {P : xPr} {Q : xQr} {r : Nat} {mem : Nat → Nat → Int32} (hP : Cl d none 126 P Q) {p0 : Int32} {p1 : Int32} {p2 : Int32}
    (k : xCall d 152 [.ref 0, .int p0, .int p1] (LAY, RFu r, mem) (Bk P 3 [.ref 0, .int p0, .int p1, .int p2] [] (0, 0))) : P 0 [.ref 0, .int p0, .int p1, .int p2] [] (0, 0) (LAY, RFu r, mem) := by
  refine r_aload_n hP d126_0 rfl ?_
  refine r_iload_n hP d126_1 rfl ?_
  refine r_iload_n hP d126_2 rfl ?_
  exact r_callv (As := [.int p0, .int p1]) (S := []) hP d126_3 cr_11_295 (by decide +kernel) rfl (by simp [Value.category]) rfl ly_0 (by simp [Value.category]) ⟨Nat.zero_le _, Nat.zero_le _⟩ k
theorem b126_6 {d : Nat} {P : xPr} {Q : xQr} {r : Nat} {mem : Nat → Nat → Int32} (hP : Cl d none 126 P Q) {x1 : Int32} {x2 : Int32} {x3 : Int32} {y0 : Int32}
    (kt : y0 = 0 → P 18 [.ref 0, .int x1, .int x2, .int x3] [] (0, 0) (LAY, RFu r, mem)) (kf : ¬ y0 = 0 → P 9 [.ref 0, .int x1, .int x2, .int x3] [] (0, 0) (LAY, RFu r, mem)) : P 6 [.ref 0, .int x1, .int x2, .int x3] [.int y0] (0, 0) (LAY, RFu r, mem) := by
  exact r_if (t := 18) hP d126_6 (by decide) kt kf
theorem b126_9 {d : Nat} {P : xPr} {Q : xQr} {r : Nat} {mem : Nat → Nat → Int32} (hP : Cl d none 126 P Q) {x1 : Int32} {x2 : Int32} {x3 : Int32}
    (k : xCall d 151 [.int x3, .int (nI 0), .int (nI 3)] (LAY, RFu r, mem) (Bk P 12 [.ref 0, .int x1, .int x2, .int x3] [] (0, 0))) : P 9 [.ref 0, .int x1, .int x2, .int x3] [] (0, 0) (LAY, RFu r, mem) := by
  refine r_iload_n hP d126_9 rfl ?_
  refine r_iconst (v := nI 0) hP d126_10 rfl ?_
  refine r_iconst (v := nI 3) hP d126_11 rfl ?_
  exact r_calls (As := [.int x3, .int (nI 0), .int (nI 3)]) (S := []) hP d126_12 cr_11_185 (by decide +kernel) rfl (by simp [Value.category]) rfl (by simp [Value.category]) ⟨Nat.zero_le _, Nat.zero_le _⟩ k
theorem b126_15 {d : Nat} {P : xPr} {Q : xQr} {r : Nat} {mem : Nat → Nat → Int32} (hP : Cl d none 126 P Q) {x1 : Int32} {x2 : Int32} {x3 : Int32} {y0 : Int32}
    (kt : ¬ y0 = 0 → P 20 [.ref 0, .int x1, .int x2, .int x3] [] (0, 0) (LAY, RFu r, mem)) (kf : y0 = 0 → P 18 [.ref 0, .int x1, .int x2, .int x3] [] (0, 0) (LAY, RFu r, mem)) : P 15 [.ref 0, .int x1, .int x2, .int x3] [.int y0] (0, 0) (LAY, RFu r, mem) := by
  exact r_if (t := 20) hP d126_15 (by decide) kt (fun q => kf (Decidable.of_not_not q))
theorem b126_18 {d : Nat} {P : xPr} {Q : xQr} {r : Nat} {mem : Nat → Nat → Int32} (hP : Cl d none 126 P Q) {v0 : Value} {v1 : Value} {v2 : Value} {v3 : Value}
    (k : Q (some (.int (-1))) (LAY, RFu r, mem)) : P 18 [v0, v1, v2, v3] [] (0, 0) (LAY, RFu r, mem) := by
  refine r_iconst (v := (-1)) hP d126_18 rfl ?_
  exact r_iret hP d126_19 rfl k
theorem b126_20 {d : Nat} {P : xPr} {Q : xQr} {r : Nat} {mem : Nat → Nat → Int32} (hP : Cl d none 126 P Q) {x1 : Int32} {x2 : Int32} {x3 : Int32}
    (kt : ¬ (mem 5 0) = 0 → P 33 [.ref 0, .int x1, .int x2, .int x3] [] (0, 0) (LAY, RFu r, mem)) (kf : (mem 5 0) = 0 → P 30 [.ref 0, .int x1, .int x2, .int x3] [] (0, 0) (LAY, RFu r, mem)) : P 20 [.ref 0, .int x1, .int x2, .int x3] [] (0, 0) (LAY, RFu r, mem) := by
  refine r_aload_n hP d126_20 rfl ?_
  refine r_getr (a := 5) hP d126_21 fr_11_26 rfl ly_0 rg_0_2 ?_
  refine r_geti hP d126_24 fr_11_313 rfl ly_5 ?_
  exact r_if (t := 33) hP d126_27 (by decide) kt (fun q => kf (Decidable.of_not_not q))
theorem b126_30 {d : Nat} {P : xPr} {Q : xQr} {r : Nat} {mem : Nat → Nat → Int32} (hP : Cl d none 126 P Q) {v0 : Value} {v1 : Value} {v2 : Value} {v3 : Value}
    (k : Q (some (.int (-2))) (LAY, RFu r, mem)) : P 30 [v0, v1, v2, v3] [] (0, 0) (LAY, RFu r, mem) := by
  refine r_bipush (v := (-2)) hP d126_30 rfl ?_
  exact r_iret hP d126_32 rfl k
theorem b126_33 {d : Nat} {P : xPr} {Q : xQr} {r : Nat} {mem : Nat → Nat → Int32} (hP : Cl d none 126 P Q) {x1 : Int32} {x2 : Int32} {x3 : Int32}
    (k : xCall d 88 [.ref 26, .ref 5] (LAY, RFu r, mem) (Bk P 41 [.ref 0, .int x1, .int x2, .int x3] [] (0, 0))) : P 33 [.ref 0, .int x1, .int x2, .int x3] [] (0, 0) (LAY, RFu r, mem) := by
  refine r_aload_n hP d126_33 rfl ?_
  refine r_getr (a := 26) hP d126_34 fr_11_30 rfl ly_0 rg_0_3 ?_
  refine r_aload_n hP d126_37 rfl ?_
  refine r_getr (a := 5) hP d126_38 fr_11_26 rfl ly_0 rg_0_2 ?_
  exact r_callv (As := [.ref 5]) (S := []) hP d126_41 cr_11_316 (by decide +kernel) rfl (by simp [Value.category]) rfl ly_26 (by simp [Value.category]) ⟨Nat.zero_le _, Nat.zero_le _⟩ k
theorem b126_44 {d : Nat} {P : xPr} {Q : xQr} {r : Nat} {mem : Nat → Nat → Int32} (hP : Cl d none 126 P Q) {x1 : Int32} {x2 : Int32} {x3 : Int32}
    (k : xCall d 53 [.ref 81, .ref 47, .int x1, .int x2, .int x3] (LAY, RFu r, mem) (Bk P 55 [.ref 0, .int x1, .int x2, .int x3] [] (0, 0))) : P 44 [.ref 0, .int x1, .int x2, .int x3] [] (0, 0) (LAY, RFu r, mem) := by
  refine r_aload_n hP d126_44 rfl ?_
  refine r_getr (a := 81) hP d126_45 fr_11_69 rfl ly_0 rg_0_9 ?_
  refine r_aload_n hP d126_48 rfl ?_
  refine r_getr (a := 47) hP d126_49 fr_11_36 rfl ly_0 rg_0_4 ?_
  refine r_iload_n hP d126_52 rfl ?_
  refine r_iload_n hP d126_53 rfl ?_
  refine r_iload_n hP d126_54 rfl ?_
  exact r_callv (As := [.ref 47, .int x1, .int x2, .int x3]) (S := []) hP d126_55 cr_11_319 (by decide +kernel) rfl (by simp [Value.category]) rfl ly_81 (by simp [Value.category]) ⟨Nat.zero_le _, Nat.zero_le _⟩ k
theorem b126_58 {d : Nat} {P : xPr} {Q : xQr} {r : Nat} {mem : Nat → Nat → Int32} (hP : Cl d none 126 P Q) {v1 : Value} {v2 : Value} {v3 : Value}
    (k : xCall d 54 [.ref 81] (LAY, RFu r, mem) (Bk P 62 [.ref 0, v1, v2, v3] [] (0, 0))) : P 58 [.ref 0, v1, v2, v3] [] (0, 0) (LAY, RFu r, mem) := by
  refine r_aload_n hP d126_58 rfl ?_
  refine r_getr (a := 81) hP d126_59 fr_11_69 rfl ly_0 rg_0_9 ?_
  exact r_callv (As := []) (S := []) hP d126_62 cr_11_323 (by decide +kernel) rfl (by simp) rfl ly_81 (by simp [Value.category]) ⟨Nat.zero_le _, Nat.zero_le _⟩ k
theorem b126_65 {d : Nat} {P : xPr} {Q : xQr} {r : Nat} {mem : Nat → Nat → Int32} (hP : Cl d none 126 P Q) {v1 : Value} {v2 : Value} {v3 : Value}
    (k : xCall d 58 [.ref 81, .ref 3] (LAY, RFu r, mem) (Bk P 73 [.ref 0, v1, v2, v3] [] (0, 0))) : P 65 [.ref 0, v1, v2, v3] [] (0, 0) (LAY, RFu r, mem) := by
  refine r_aload_n hP d126_65 rfl ?_
  refine r_getr (a := 81) hP d126_66 fr_11_69 rfl ly_0 rg_0_9 ?_
  refine r_aload_n hP d126_69 rfl ?_
  refine r_getr (a := 3) hP d126_70 fr_11_19 rfl ly_0 rg_0_1 ?_
  exact r_callv (As := [.ref 3]) (S := []) hP d126_73 cr_11_326 (by decide +kernel) rfl (by simp [Value.category]) rfl ly_81 (by simp [Value.category]) ⟨Nat.zero_le _, Nat.zero_le _⟩ k
theorem b126_76 {d : Nat} {P : xPr} {Q : xQr} {r : Nat} {mem : Nat → Nat → Int32} (hP : Cl d none 126 P Q) {v1 : Value} {v2 : Value} {v3 : Value}
    (k : Q (some (.int (mem 81 0))) (LAY, RFu r, mem)) : P 76 [.ref 0, v1, v2, v3] [] (0, 0) (LAY, RFu r, mem) := by
  refine r_aload_n hP d126_76 rfl ?_
  refine r_getr (a := 81) hP d126_77 fr_11_69 rfl ly_0 rg_0_9 ?_
  refine r_geti hP d126_80 fr_11_330 rfl ly_81 ?_
  exact r_iret hP d126_83 rfl k
theorem d127_0 : decode (xB 127) 0 = .ok (.aload_n 0, 1) := by decide +kernel
theorem d127_1 : decode (xB 127) 1 = .ok (.iload_n 1, 1) := by decide +kernel
theorem d127_2 : decode (xB 127) 2 = .ok (.iload_n 2, 1) := by decide +kernel
theorem d127_3 : decode (xB 127) 3 = .ok (.invokevirtual 295, 3) := by decide +kernel
theorem d127_6 : decode (xB 127) 6 = .ok (.ifCond .ne 5, 3) := by decide +kernel
theorem d127_9 : decode (xB 127) 9 = .ok (.iconst (-1), 1) := by decide +kernel
theorem d127_10 : decode (xB 127) 10 = .ok (.ireturn, 1) := by decide +kernel
theorem d127_11 : decode (xB 127) 11 = .ok (.aload_n 0, 1) := by decide +kernel
theorem d127_12 : decode (xB 127) 12 = .ok (.getfield 40, 3) := by decide +kernel
theorem d127_15 : decode (xB 127) 15 = .ok (.aload_n 0, 1) := by decide +kernel
theorem d127_16 : decode (xB 127) 16 = .ok (.getfield 36, 3) := by decide +kernel
theorem d127_19 : decode (xB 127) 19 = .ok (.invokevirtual 293, 3) := by decide +kernel
theorem d127_22 : decode (xB 127) 22 = .ok (.iconst 1, 1) := by decide +kernel
theorem d127_23 : decode (xB 127) 23 = .ok (.istore_n 3, 1) := by decide +kernel
theorem d127_24 : decode (xB 127) 24 = .ok (.iload_n 3, 1) := by decide +kernel
theorem d127_25 : decode (xB 127) 25 = .ok (.sipush 200, 3) := by decide +kernel
theorem d127_28 : decode (xB 127) 28 = .ok (.if_icmp .gt 39, 3) := by decide +kernel
theorem d127_31 : decode (xB 127) 31 = .ok (.aload_n 0, 1) := by decide +kernel
theorem d127_32 : decode (xB 127) 32 = .ok (.getfield 46, 3) := by decide +kernel
theorem d127_35 : decode (xB 127) 35 = .ok (.aload_n 0, 1) := by decide +kernel
theorem d127_36 : decode (xB 127) 36 = .ok (.getfield 26, 3) := by decide +kernel
theorem d127_39 : decode (xB 127) 39 = .ok (.aload_n 0, 1) := by decide +kernel
theorem d127_40 : decode (xB 127) 40 = .ok (.getfield 40, 3) := by decide +kernel
theorem d127_43 : decode (xB 127) 43 = .ok (.invokevirtual 229, 3) := by decide +kernel
theorem d127_46 : decode (xB 127) 46 = .ok (.pop, 1) := by decide +kernel
theorem d127_47 : decode (xB 127) 47 = .ok (.aload_n 0, 1) := by decide +kernel
theorem d127_48 : decode (xB 127) 48 = .ok (.getfield 40, 3) := by decide +kernel
theorem d127_51 : decode (xB 127) 51 = .ok (.iload_n 1, 1) := by decide +kernel
theorem d127_52 : decode (xB 127) 52 = .ok (.iload_n 2, 1) := by decide +kernel
theorem d127_53 : decode (xB 127) 53 = .ok (.invokevirtual 333, 3) := by decide +kernel
theorem d127_56 : decode (xB 127) 56 = .ok (.ifCond .eq 5, 3) := by decide +kernel
theorem d127_59 : decode (xB 127) 59 = .ok (.iload_n 3, 1) := by decide +kernel
theorem d127_60 : decode (xB 127) 60 = .ok (.ireturn, 1) := by decide +kernel
theorem d127_61 : decode (xB 127) 61 = .ok (.iinc 3 1, 3) := by decide +kernel
theorem d127_64 : decode (xB 127) 64 = .ok (.goto (-40), 3) := by decide +kernel
theorem d127_67 : decode (xB 127) 67 = .ok (.bipush (-2), 2) := by decide +kernel
theorem d127_69 : decode (xB 127) 69 = .ok (.ireturn, 1) := by decide +kernel
theorem b127_0 {d : Nat} {P : xPr} {Q : xQr} {r : Nat} {mem : Nat → Nat → Int32} (hP : Cl d none 127 P Q) {p0 : Int32} {p1 : Int32}
    (k : xCall d 152 [.ref 0, .int p0, .int p1] (LAY, RFu r, mem) (Bk P 3 [.ref 0, .int p0, .int p1, .null] [] (0, 0))) : P 0 [.ref 0, .int p0, .int p1, .null] [] (0, 0) (LAY, RFu r, mem) := by
  refine r_aload_n hP d127_0 rfl ?_
  refine r_iload_n hP d127_1 rfl ?_
  refine r_iload_n hP d127_2 rfl ?_
  exact r_callv (As := [.int p0, .int p1]) (S := []) hP d127_3 cr_11_295 (by decide +kernel) rfl (by simp [Value.category]) rfl ly_0 (by simp [Value.category]) ⟨Nat.zero_le _, Nat.zero_le _⟩ k
theorem b127_6 {d : Nat} {P : xPr} {Q : xQr} {r : Nat} {mem : Nat → Nat → Int32} (hP : Cl d none 127 P Q) {x1 : Int32} {x2 : Int32} {v3 : Value} {y0 : Int32}
    (kt : ¬ y0 = 0 → P 11 [.ref 0, .int x1, .int x2, v3] [] (0, 0) (LAY, RFu r, mem)) (kf : y0 = 0 → P 9 [.ref 0, .int x1, .int x2, v3] [] (0, 0) (LAY, RFu r, mem)) : P 6 [.ref 0, .int x1, .int x2, v3] [.int y0] (0, 0) (LAY, RFu r, mem) := by
  exact r_if (t := 11) hP d127_6 (by decide) kt (fun q => kf (Decidable.of_not_not q))
theorem b127_9 {d : Nat} {P : xPr} {Q : xQr} {r : Nat} {mem : Nat → Nat → Int32} (hP : Cl d none 127 P Q) {v0 : Value} {v1 : Value} {v2 : Value} {v3 : Value}
    (k : Q (some (.int (-1))) (LAY, RFu r, mem)) : P 9 [v0, v1, v2, v3] [] (0, 0) (LAY, RFu r, mem) := by
  refine r_iconst (v := (-1)) hP d127_9 rfl ?_
  exact r_iret hP d127_10 rfl k
theorem b127_11 {d : Nat} {P : xPr} {Q : xQr} {r : Nat} {mem : Nat → Nat → Int32} (hP : Cl d none 127 P Q) {x1 : Int32} {x2 : Int32} {v3 : Value}
    (k : xCall d 60 [.ref 49, .ref 47] (LAY, RFu r, mem) (Bk P 19 [.ref 0, .int x1, .int x2, v3] [] (0, 0))) : P 11 [.ref 0, .int x1, .int x2, v3] [] (0, 0) (LAY, RFu r, mem) := by
  refine r_aload_n hP d127_11 rfl ?_
  refine r_getr (a := 49) hP d127_12 fr_11_40 rfl ly_0 rg_0_5 ?_
  refine r_aload_n hP d127_15 rfl ?_
  refine r_getr (a := 47) hP d127_16 fr_11_36 rfl ly_0 rg_0_4 ?_
  exact r_callv (As := [.ref 47]) (S := []) hP d127_19 cr_11_293 (by decide +kernel) rfl (by simp [Value.category]) rfl ly_49 (by simp [Value.category]) ⟨Nat.zero_le _, Nat.zero_le _⟩ k
theorem b127_22 {d : Nat} {P : xPr} {Q : xQr} {r : Nat} {mem : Nat → Nat → Int32} (hP : Cl d none 127 P Q) {x1 : Int32} {x2 : Int32} {v3 : Value}
    (k : P 24 [.ref 0, .int x1, .int x2, .int (nI 1)] [] (0, 0) (LAY, RFu r, mem)) : P 22 [.ref 0, .int x1, .int x2, v3] [] (0, 0) (LAY, RFu r, mem) := by
  refine r_iconst (v := nI 1) hP d127_22 rfl ?_
  refine r_istore_n (L' := [.ref 0, .int x1, .int x2, .int (nI 1)]) hP d127_23 (Nat.le_of_ble_eq_true rfl) rfl ?_
  exact k
theorem b127_24 {d : Nat} {P : xPr} {Q : xQr} {r : Nat} {mem : Nat → Nat → Int32} (hP : Cl d none 127 P Q) {x1 : Int32} {x2 : Int32} {x3 : Int32}
    (kt : (nI 200) < x3 → P 67 [.ref 0, .int x1, .int x2, .int x3] [] (0, 0) (LAY, RFu r, mem)) (kf : ¬ (nI 200) < x3 → P 31 [.ref 0, .int x1, .int x2, .int x3] [] (0, 0) (LAY, RFu r, mem)) : P 24 [.ref 0, .int x1, .int x2, .int x3] [] (0, 0) (LAY, RFu r, mem) := by
  refine r_iload_n hP d127_24 rfl ?_
  refine r_sipush (v := nI 200) hP d127_25 rfl ?_
  exact r_icmp (t := 67) hP d127_28 (by decide) kt kf
theorem b127_31 {d : Nat} {P : xPr} {Q : xQr} {r : Nat} {mem : Nat → Nat → Int32} (hP : Cl d none 127 P Q) {x1 : Int32} {x2 : Int32} {x3 : Int32}
    (k : xCall d 8 [.ref 51, .ref 5, .ref 49] (LAY, RFu r, mem) (Bk P 43 [.ref 0, .int x1, .int x2, .int x3] [] (0, 0))) : P 31 [.ref 0, .int x1, .int x2, .int x3] [] (0, 0) (LAY, RFu r, mem) := by
  refine r_aload_n hP d127_31 rfl ?_
  refine r_getr (a := 51) hP d127_32 fr_11_46 rfl ly_0 rg_0_6 ?_
  refine r_aload_n hP d127_35 rfl ?_
  refine r_getr (a := 5) hP d127_36 fr_11_26 rfl ly_0 rg_0_2 ?_
  refine r_aload_n hP d127_39 rfl ?_
  refine r_getr (a := 49) hP d127_40 fr_11_40 rfl ly_0 rg_0_5 ?_
  exact r_callv (As := [.ref 5, .ref 49]) (S := []) hP d127_43 cr_11_229 (by decide +kernel) rfl (by simp [Value.category]) rfl ly_51 (by simp [Value.category]) ⟨Nat.zero_le _, Nat.zero_le _⟩ k
theorem b127_46 {d : Nat} {P : xPr} {Q : xQr} {r : Nat} {mem : Nat → Nat → Int32} (hP : Cl d none 127 P Q) {x1 : Int32} {x2 : Int32} {x3 : Int32} {y0 : Int32}
    (k : xCall d 66 [.ref 49, .int x1, .int x2] (LAY, RFu r, mem) (Bk P 53 [.ref 0, .int x1, .int x2, .int x3] [] (0, 0))) : P 46 [.ref 0, .int x1, .int x2, .int x3] [.int y0] (0, 0) (LAY, RFu r, mem) := by
  refine r_pop hP d127_46 rfl ?_
  refine r_aload_n hP d127_47 rfl ?_
  refine r_getr (a := 49) hP d127_48 fr_11_40 rfl ly_0 rg_0_5 ?_
  refine r_iload_n hP d127_51 rfl ?_
  refine r_iload_n hP d127_52 rfl ?_
  exact r_callv (As := [.int x1, .int x2]) (S := []) hP d127_53 cr_11_333 (by decide +kernel) rfl (by simp [Value.category]) rfl ly_49 (by simp [Value.category]) ⟨Nat.zero_le _, Nat.zero_le _⟩ k
theorem b127_56 {d : Nat} {P : xPr} {Q : xQr} {r : Nat} {mem : Nat → Nat → Int32} (hP : Cl d none 127 P Q) {x1 : Int32} {x2 : Int32} {x3 : Int32} {y0 : Int32}
    (kt : y0 = 0 → P 61 [.ref 0, .int x1, .int x2, .int x3] [] (0, 0) (LAY, RFu r, mem)) (kf : ¬ y0 = 0 → P 59 [.ref 0, .int x1, .int x2, .int x3] [] (0, 0) (LAY, RFu r, mem)) : P 56 [.ref 0, .int x1, .int x2, .int x3] [.int y0] (0, 0) (LAY, RFu r, mem) := by
  exact r_if (t := 61) hP d127_56 (by decide) kt kf
theorem b127_59 {d : Nat} {P : xPr} {Q : xQr} {r : Nat} {mem : Nat → Nat → Int32} (hP : Cl d none 127 P Q) {v0 : Value} {v1 : Value} {v2 : Value} {x3 : Int32}
    (k : Q (some (.int x3)) (LAY, RFu r, mem)) : P 59 [v0, v1, v2, .int x3] [] (0, 0) (LAY, RFu r, mem) := by
  refine r_iload_n hP d127_59 rfl ?_
  exact r_iret hP d127_60 rfl k
theorem b127_61 {d : Nat} {P : xPr} {Q : xQr} {r : Nat} {mem : Nat → Nat → Int32} (hP : Cl d none 127 P Q) {x1 : Int32} {x2 : Int32} {x3 : Int32}
    (k : P 24 [.ref 0, .int x1, .int x2, .int (x3 + nI 1)] [] (0, 0) (LAY, RFu r, mem)) : P 61 [.ref 0, .int x1, .int x2, .int x3] [] (0, 0) (LAY, RFu r, mem) := by
  refine r_iinc (v := nI 1) (L' := [.ref 0, .int x1, .int x2, .int (x3 + nI 1)]) hP d127_61 rfl rfl rfl ?_
  refine r_goto (t := 24) hP d127_64 (by decide) ?_
  exact k
theorem b127_67 {d : Nat} {P : xPr} {Q : xQr} {r : Nat} {mem : Nat → Nat → Int32} (hP : Cl d none 127 P Q) {v0 : Value} {v1 : Value} {v2 : Value} {v3 : Value}
    (k : Q (some (.int (-2))) (LAY, RFu r, mem)) : P 67 [v0, v1, v2, v3] [] (0, 0) (LAY, RFu r, mem) := by
  refine r_bipush (v := (-2)) hP d127_67 rfl ?_
  exact r_iret hP d127_69 rfl k
theorem d128_0 : decode (xB 128) 0 = .ok (.aload_n 0, 1) := by decide +kernel
theorem d128_1 : decode (xB 128) 1 = .ok (.iload_n 1, 1) := by decide +kernel
theorem d128_2 : decode (xB 128) 2 = .ok (.iload_n 2, 1) := by decide +kernel
theorem d128_3 : decode (xB 128) 3 = .ok (.invokevirtual 295, 3) := by decide +kernel
theorem d128_6 : decode (xB 128) 6 = .ok (.ifCond .eq 14, 3) := by decide +kernel
theorem d128_9 : decode (xB 128) 9 = .ok (.iload_n 3, 1) := by decide +kernel
theorem d128_10 : decode (xB 128) 10 = .ok (.iconst 0, 1) := by decide +kernel
theorem d128_11 : decode (xB 128) 11 = .ok (.sipush 200, 3) := by decide +kernel
theorem d128_14 : decode (xB 128) 14 = .ok (.invokestatic 185, 3) := by decide +kernel
theorem d128_17 : decode (xB 128) 17 = .ok (.ifCond .ne 5, 3) := by decide +kernel
theorem d128_20 : decode (xB 128) 20 = .ok (.iconst (-1), 1) := by decide +kernel
theorem d128_21 : decode (xB 128) 21 = .ok (.ireturn, 1) := by decide +kernel
theorem d128_22 : decode (xB 128) 22 = .ok (.iconst 0, 1) := by decide +kernel
theorem d128_23 : decode (xB 128) 23 = .ok (.istore 4, 2) := by decide +kernel
theorem d128_25 : decode (xB 128) 25 = .ok (.aload_n 0, 1) := by decide +kernel
theorem d128_26 : decode (xB 128) 26 = .ok (.getfield 40, 3) := by decide +kernel
theorem d128_29 : decode (xB 128) 29 = .ok (.aload_n 0, 1) := by decide +kernel
theorem d128_30 : decode (xB 128) 30 = .ok (.getfield 36, 3) := by decide +kernel
theorem d128_33 : decode (xB 128) 33 = .ok (.invokevirtual 293, 3) := by decide +kernel
theorem d128_36 : decode (xB 128) 36 = .ok (.iconst 0, 1) := by decide +kernel
theorem d128_37 : decode (xB 128) 37 = .ok (.istore 5, 2) := by decide +kernel
theorem d128_39 : decode (xB 128) 39 = .ok (.iload 5, 2) := by decide +kernel
theorem d128_41 : decode (xB 128) 41 = .ok (.iload_n 3, 1) := by decide +kernel
theorem d128_42 : decode (xB 128) 42 = .ok (.if_icmp .ge 40, 3) := by decide +kernel
theorem d128_45 : decode (xB 128) 45 = .ok (.aload_n 0, 1) := by decide +kernel
theorem d128_46 : decode (xB 128) 46 = .ok (.getfield 46, 3) := by decide +kernel
theorem d128_49 : decode (xB 128) 49 = .ok (.aload_n 0, 1) := by decide +kernel
theorem d128_50 : decode (xB 128) 50 = .ok (.getfield 26, 3) := by decide +kernel
theorem d128_53 : decode (xB 128) 53 = .ok (.aload_n 0, 1) := by decide +kernel
theorem d128_54 : decode (xB 128) 54 = .ok (.getfield 40, 3) := by decide +kernel
theorem d128_57 : decode (xB 128) 57 = .ok (.invokevirtual 229, 3) := by decide +kernel
theorem d128_60 : decode (xB 128) 60 = .ok (.pop, 1) := by decide +kernel
theorem d128_61 : decode (xB 128) 61 = .ok (.aload_n 0, 1) := by decide +kernel
theorem d128_62 : decode (xB 128) 62 = .ok (.getfield 40, 3) := by decide +kernel
theorem d128_65 : decode (xB 128) 65 = .ok (.iload_n 1, 1) := by decide +kernel
theorem d128_66 : decode (xB 128) 66 = .ok (.iload_n 2, 1) := by decide +kernel
theorem d128_67 : decode (xB 128) 67 = .ok (.invokevirtual 333, 3) := by decide +kernel
theorem d128_70 : decode (xB 128) 70 = .ok (.ifCond .eq 6, 3) := by decide +kernel
theorem d128_73 : decode (xB 128) 73 = .ok (.iinc 4 1, 3) := by decide +kernel
theorem d128_76 : decode (xB 128) 76 = .ok (.iinc 5 1, 3) := by decide +kernel
theorem d128_79 : decode (xB 128) 79 = .ok (.goto (-40), 3) := by decide +kernel
theorem d128_82 : decode (xB 128) 82 = .ok (.iload 4, 2) := by decide +kernel
theorem d128_84 : decode (xB 128) 84 = .ok (.ireturn, 1) := by decide +kernel
theorem b128_0 {d : Nat} {P : xPr} {Q : xQr} {r : Nat} {mem : Nat → Nat → Int32} (hP : Cl d none 128 P Q) {p0 : Int32} {p1 : Int32} {p2 : Int32}
    (k : xCall d 152 [.ref 0, .int p0, .int p1] (LAY, RFu r, mem) (Bk P 3 [.ref 0, .int p0, .int p1, .int p2, .null, .null] [] (0, 0))) : P 0 [.ref 0, .int p0, .int p1, .int p2, .null, .null] [] (0, 0) (LAY, RFu r, mem) := by
  refine r_aload_n hP d128_0 rfl ?_
  refine r_iload_n hP d128_1 rfl ?_
  refine r_iload_n hP d128_2 rfl ?_
  exact r_callv (As := [.int p0, .int p1]) (S := []) hP d128_3 cr_11_295 (by decide +kernel) rfl (by simp [Value.category]) rfl ly_0 (by simp [Value.category]) ⟨Nat.zero_le _, Nat.zero_le _⟩ k
theorem b128_6 {d : Nat} {P : xPr} {Q : xQr} {r : Nat} {mem : Nat → Nat → Int32} (hP : Cl d none 128 P Q) {x1 : Int32} {x2 : Int32} {x3 : Int32} {v4 : Value} {v5 : Value} {y0 : Int32}
    (kt : y0 = 0 → P 20 [.ref 0, .int x1, .int x2, .int x3, v4, v5] [] (0, 0) (LAY, RFu r, mem)) (kf : ¬ y0 = 0 → P 9 [.ref 0, .int x1, .int x2, .int x3, v4, v5] [] (0, 0) (LAY, RFu r, mem)) : P 6 [.ref 0, .int x1, .int x2, .int x3, v4, v5] [.int y0] (0, 0) (LAY, RFu r, mem) := by
  exact r_if (t := 20) hP d128_6 (by decide) kt kf
theorem b128_9 {d : Nat} {P : xPr} {Q : xQr} {r : Nat} {mem : Nat → Nat → Int32} (hP : Cl d none 128 P Q) {x1 : Int32} {x2 : Int32} {x3 : Int32} {v4 : Value} {v5 : Value}
    (k : xCall d 151 [.int x3, .int (nI 0), .int (nI 200)] (LAY, RFu r, mem) (Bk P 14 [.ref 0, .int x1, .int x2, .int x3, v4, v5] [] (0, 0))) : P 9 [.ref 0, .int x1, .int x2, .int x3, v4, v5] [] (0, 0) (LAY, RFu r, mem) := by
  refine r_iload_n hP d128_9 rfl ?_
  refine r_iconst (v := nI 0) hP d128_10 rfl ?_
  refine r_sipush (v := nI 200) hP d128_11 rfl ?_
  exact r_calls (As := [.int x3, .int (nI 0), .int (nI 200)]) (S := []) hP d128_14 cr_11_185 (by decide +kernel) rfl (by simp [Value.category]) rfl (by simp [Value.category]) ⟨Nat.zero_le _, Nat.zero_le _⟩ k
theorem b128_17 {d : Nat} {P : xPr} {Q : xQr} {r : Nat} {mem : Nat → Nat → Int32} (hP : Cl d none 128 P Q) {x1 : Int32} {x2 : Int32} {x3 : Int32} {v4 : Value} {v5 : Value} {y0 : Int32}
    (kt : ¬ y0 = 0 → P 22 [.ref 0, .int x1, .int x2, .int x3, v4, v5] [] (0, 0) (LAY, RFu r, mem)) (kf : y0 = 0 → P 20 [.ref 0, .int x1, .int x2, .int x3, v4, v5] [] (0, 0) (LAY, RFu r, mem)) : P 17 [.ref 0, .int x1, .int x2, .int x3, v4, v5] [.int y0] (0, 0) (LAY, RFu r, mem) := by
  exact r_if (t := 22) hP d128_17 (by decide) kt (fun q => kf (Decidable.of_not_not q))
theorem b128_20 {d : Nat} {P : xPr} {Q : xQr} {r : Nat} {mem : Nat → Nat → Int32} (hP : Cl d none 128 P Q) {v0 : Value} {v1 : Value} {v2 : Value} {v3 : Value} {v4 : Value} {v5 : Value}
    (k : Q (some (.int (-1))) (LAY, RFu r, mem)) : P 20 [v0, v1, v2, v3, v4, v5] [] (0, 0) (LAY, RFu r, mem) := by
  refine r_iconst (v := (-1)) hP d128_20 rfl ?_
  exact r_iret hP d128_21 rfl k
theorem b128_22 {d : Nat} {P : xPr} {Q : xQr} {r : Nat} {mem : Nat → Nat → Int32} (hP : Cl d none 128 P Q) {x1 : Int32} {x2 : Int32} {x3 : Int32} {v4 : Value} {v5 : Value}
    (k : xCall d 60 [.ref 49, .ref 47] (LAY, RFu r, mem) (Bk P 33 [.ref 0, .int x1, .int x2, .int x3, .int (nI 0), v5] [] (0, 0))) : P 22 [.ref 0, .int x1, .int x2, .int x3, v4, v5] [] (0, 0) (LAY, RFu r, mem) := by
  refine r_iconst (v := nI 0) hP d128_22 rfl ?_
  refine r_istore (L' := [.ref 0, .int x1, .int x2, .int x3, .int (nI 0), v5]) hP d128_23 (Nat.le_of_ble_eq_true rfl) rfl ?_
  refine r_aload_n hP d128_25 rfl ?_
  refine r_getr (a := 49) hP d128_26 fr_11_40 rfl ly_0 rg_0_5 ?_
  refine r_aload_n hP d128_29 rfl ?_
  refine r_getr (a := 47) hP d128_30 fr_11_36 rfl ly_0 rg_0_4 ?_
  exact r_callv (As := [.ref 47]) (S := []) hP d128_33 cr_11_293 (by decide +kernel) rfl (by simp [Value.category]) rfl ly_49 (by simp [Value.category]) ⟨Nat.zero_le _, Nat.zero_le _⟩ k
theorem b128_36 {d : Nat} {P : xPr} {Q : xQr} {r : Nat} {mem : Nat → Nat → Int32} (hP : Cl d none 128 P Q) {x1 : Int32} {x2 : Int32} {x3 : Int32} {x4 : Int32} {v5 : Value}
    (k : P 39 [.ref 0, .int x1, .int x2, .int x3, .int x4, .int (nI 0)] [] (0, 0) (LAY, RFu r, mem)) : P 36 [.ref 0, .int x1, .int x2, .int x3, .int x4, v5] [] (0, 0) (LAY, RFu r, mem) := by
  refine r_iconst (v := nI 0) hP d128_36 rfl ?_
  refine r_istore (L' := [.ref 0, .int x1, .int x2, .int x3, .int x4, .int (nI 0)]) hP d128_37 (Nat.le_of_ble_eq_true rfl) rfl ?_
  exact k
theorem b128_39 {d : Nat} {P : xPr} {Q : xQr} {r : Nat} {mem : Nat → Nat → Int32} (hP : Cl d none 128 P Q) {x1 : Int32} {x2 : Int32} {x3 : Int32} {x4 : Int32} {x5 : Int32}
    (kt : x3 ≤ x5 → P 82 [.ref 0, .int x1, .int x2, .int x3, .int x4, .int x5] [] (0, 0) (LAY, RFu r, mem)) (kf : ¬ x3 ≤ x5 → P 45 [.ref 0, .int x1, .int x2, .int x3, .int x4, .int x5] [] (0, 0) (LAY, RFu r, mem)) : P 39 [.ref 0, .int x1, .int x2, .int x3, .int x4, .int x5] [] (0, 0) (LAY, RFu r, mem) := by
  refine r_iload hP d128_39 rfl ?_
  refine r_iload_n hP d128_41 rfl ?_
  exact r_icmp (t := 82) hP d128_42 (by decide) kt kf
theorem b128_45 {d : Nat} {P : xPr} {Q : xQr} {r : Nat} {mem : Nat → Nat → Int32} (hP : Cl d none 128 P Q) {x1 : Int32} {x2 : Int32} {x3 : Int32} {x4 : Int32} {x5 : Int32}
    (k : xCall d 8 [.ref 51, .ref 5, .ref 49] (LAY, RFu r, mem) (Bk P 57 [.ref 0, .int x1, .int x2, .int x3, .int x4, .int x5] [] (0, 0))) : P 45 [.ref 0, .int x1, .int x2, .int x3, .int x4, .int x5] [] (0, 0) (LAY, RFu r, mem) := by
  refine r_aload_n hP d128_45 rfl ?_
  refine r_getr (a := 51) hP d128_46 fr_11_46 rfl ly_0 rg_0_6 ?_
  refine r_aload_n hP d128_49 rfl ?_
  refine r_getr (a := 5) hP d128_50 fr_11_26 rfl ly_0 rg_0_2 ?_
  refine r_aload_n hP d128_53 rfl ?_
  refine r_getr (a := 49) hP d128_54 fr_11_40 rfl ly_0 rg_0_5 ?_
  exact r_callv (As := [.ref 5, .ref 49]) (S := []) hP d128_57 cr_11_229 (by decide +kernel) rfl (by simp [Value.category]) rfl ly_51 (by simp [Value.category]) ⟨Nat.zero_le _, Nat.zero_le _⟩ k
theorem b128_60 {d : Nat} {P : xPr} {Q : xQr} {r : Nat} {mem : Nat → Nat → Int32} (hP : Cl d none 128 P Q) {x1 : Int32} {x2 : Int32} {x3 : Int32} {x4 : Int32} {x5 : Int32} {y0 : Int32}
    (k : xCall d 66 [.ref 49, .int x1, .int x2] (LAY, RFu r, mem) (Bk P 67 [.ref 0, .int x1, .int x2, .int x3, .int x4, .int x5] [] (0, 0))) : P 60 [.ref 0, .int x1, .int x2, .int x3, .int x4, .int x5] [.int y0] (0, 0) (LAY, RFu r, mem) := by
  refine r_pop hP d128_60 rfl ?_
  refine r_aload_n hP d128_61 rfl ?_
  refine r_getr (a := 49) hP d128_62 fr_11_40 rfl ly_0 rg_0_5 ?_
  refine r_iload_n hP d128_65 rfl ?_
  refine r_iload_n hP d128_66 rfl ?_
  exact r_callv (As := [.int x1, .int x2]) (S := []) hP d128_67 cr_11_333 (by decide +kernel) rfl (by simp [Value.category]) rfl ly_49 (by simp [Value.category]) ⟨Nat.zero_le _, Nat.zero_le _⟩ k
theorem b128_70 {d : Nat} {P : xPr} {Q : xQr} {r : Nat} {mem : Nat → Nat → Int32} (hP : Cl d none 128 P Q) {x1 : Int32} {x2 : Int32} {x3 : Int32} {x4 : Int32} {x5 : Int32} {y0 : Int32}
    (kt : y0 = 0 → P 76 [.ref 0, .int x1, .int x2, .int x3, .int x4, .int x5] [] (0, 0) (LAY, RFu r, mem)) (kf : ¬ y0 = 0 → P 73 [.ref 0, .int x1, .int x2, .int x3, .int x4, .int x5] [] (0, 0) (LAY, RFu r, mem)) : P 70 [.ref 0, .int x1, .int x2, .int x3, .int x4, .int x5] [.int y0] (0, 0) (LAY, RFu r, mem) := by
  exact r_if (t := 76) hP d128_70 (by decide) kt kf
theorem b128_73 {d : Nat} {P : xPr} {Q : xQr} {r : Nat} {mem : Nat → Nat → Int32} (hP : Cl d none 128 P Q) {x1 : Int32} {x2 : Int32} {x3 : Int32} {x4 : Int32} {x5 : Int32}
    (k : P 76 [.ref 0, .int x1, .int x2, .int x3, .int (x4 + nI 1), .int x5] [] (0, 0) (LAY, RFu r, mem)) : P 73 [.ref 0, .int x1, .int x2, .int x3, .int x4, .int x5] [] (0, 0) (LAY, RFu r, mem) := by
  refine r_iinc (v := nI 1) (L' := [.ref 0, .int x1, .int x2, .int x3, .int (x4 + nI 1), .int x5]) hP d128_73 rfl rfl rfl ?_
  exact k
theorem b128_76 {d : Nat} {P : xPr} {Q : xQr} {r : Nat} {mem : Nat → Nat → Int32} (hP : Cl d none 128 P Q) {x1 : Int32} {x2 : Int32} {x3 : Int32} {x4 : Int32} {x5 : Int32}
    (k : P 39 [.ref 0, .int x1, .int x2, .int x3, .int x4, .int (x5 + nI 1)] [] (0, 0) (LAY, RFu r, mem)) : P 76 [.ref 0, .int x1, .int x2, .int x3, .int x4, .int x5] [] (0, 0) (LAY, RFu r, mem) := by
  refine r_iinc (v := nI 1) (L' := [.ref 0, .int x1, .int x2, .int x3, .int x4, .int (x5 + nI 1)]) hP d128_76 rfl rfl rfl ?_
  refine r_goto (t := 39) hP d128_79 (by decide) ?_
  exact k
theorem b128_82 {d : Nat} {P : xPr} {Q : xQr} {r : Nat} {mem : Nat → Nat → Int32} (hP : Cl d none 128 P Q) {v0 : Value} {v1 : Value} {v2 : Value} {v3 : Value} {x4 : Int32} {v5 : Value}
    (k : Q (some (.int x4)) (LAY, RFu r, mem)) : P 82 [v0, v1, v2, v3, .int x4, v5] [] (0, 0) (LAY, RFu r, mem) := by
  refine r_iload hP d128_82 rfl ?_
  exact r_iret hP d128_84 rfl k
theorem d129_0 : decode (xB 129) 0 = .ok (.aload_n 0, 1) := by decide +kernel
theorem d129_1 : decode (xB 129) 1 = .ok (.iload_n 1, 1) := by decide +kernel
theorem d129_2 : decode (xB 129) 2 = .ok (.iload_n 2, 1) := by decide +kernel
theorem d129_3 : decode (xB 129) 3 = .ok (.invokevirtual 295, 3) := by decide +kernel
theorem d129_6 : decode (xB 129) 6 = .ok (.ifCond .ne 5, 3) := by decide +kernel
theorem d129_9 : decode (xB 129) 9 = .ok (.iconst 0, 1) := by decide +kernel
theorem d129_10 : decode (xB 129) 10 = .ok (.ireturn, 1) := by decide +kernel
theorem d129_11 : decode (xB 129) 11 = .ok (.aload_n 0, 1) := by decide +kernel
theorem d129_12 : decode (xB 129) 12 = .ok (.getfield 26, 3) := by decide +kernel
theorem d129_15 : decode (xB 129) 15 = .ok (.iload_n 1, 1) := by decide +kernel
theorem d129_16 : decode (xB 129) 16 = .ok (.iload_n 2, 1) := by decide +kernel
theorem d129_17 : decode (xB 129) 17 = .ok (.invokevirtual 336, 3) := by decide +kernel
theorem d129_20 : decode (xB 129) 20 = .ok (.iconst 1, 1) := by decide +kernel
theorem d129_21 : decode (xB 129) 21 = .ok (.ireturn, 1) := by decide +kernel
theorem b129_0 {d : Nat} {P : xPr} {Q : xQr} {r : Nat} {mem : Nat → Nat → Int32} (hP : Cl d none 129 P Q) {p0 : Int32} {p1 : Int32}
    (k : xCall d 152 [.ref 0, .int p0, .int p1] (LAY, RFu r, mem) (Bk P 3 [.ref 0, .int p0, .int p1] [] (0, 0))) : P 0 [.ref 0, .int p0, .int p1] [] (0, 0) (LAY, RFu r, mem) := by
  refine r_aload_n hP d129_0 rfl ?_
  refine r_iload_n hP d129_1 rfl ?_
  refine r_iload_n hP d129_2 rfl ?_
  exact r_callv (As := [.int p0, .int p1]) (S := []) hP d129_3 cr_11_295 (by decide +kernel) rfl (by simp [Value.category]) rfl ly_0 (by simp [Value.category]) ⟨Nat.zero_le _, Nat.zero_le _⟩ k
theorem b129_6 {d : Nat} {P : xPr} {Q : xQr} {r : Nat} {mem : Nat → Nat → Int32} (hP : Cl d none 129 P Q) {x1 : Int32} {x2 : Int32} {y0 : Int32}
    (kt : ¬ y0 = 0 → P 11 [.ref 0, .int x1, .int x2] [] (0, 0) (LAY, RFu r, mem)) (kf : y0 = 0 → P 9 [.ref 0, .int x1, .int x2] [] (0, 0) (LAY, RFu r, mem)) : P 6 [.ref 0, .int x1, .int x2] [.int y0] (0, 0) (LAY, RFu r, mem) := by
  exact r_if (t := 11) hP d129_6 (by decide) kt (fun q => kf (Decidable.of_not_not q))
theorem b129_9 {d : Nat} {P : xPr} {Q : xQr} {r : Nat} {mem : Nat → Nat → Int32} (hP : Cl d none 129 P Q) {v0 : Value} {v1 : Value} {v2 : Value} (hzr : nI 0 = 0 ∨ nI 0 = 1)
    (k : Q (some (.int (nI 0))) (LAY, RFu r, mem)) : P 9 [v0, v1, v2] [] (0, 0) (LAY, RFu r, mem) := by
  refine r_iconst (v := nI 0) hP d129_9 rfl ?_
  exact r_zret hP d129_10 rfl hzr k
theorem b129_11 {d : Nat} {P : xPr} {Q : xQr} {r : Nat} {mem : Nat → Nat → Int32} (hP : Cl d none 129 P Q) {x1 : Int32} {x2 : Int32}
    (k : xCall d 92 [.ref 5, .int x1, .int x2] (LAY, RFu r, mem) (Bk P 17 [.ref 0, .int x1, .int x2] [] (0, 0))) : P 11 [.ref 0, .int x1, .int x2] [] (0, 0) (LAY, RFu r, mem) := by
  refine r_aload_n hP d129_11 rfl ?_
  refine r_getr (a := 5) hP d129_12 fr_11_26 rfl ly_0 rg_0_2 ?_
  refine r_iload_n hP d129_15 rfl ?_
  refine r_iload_n hP d129_16 rfl ?_
  exact r_callv (As := [.int x1, .int x2]) (S := []) hP d129_17 cr_11_336 (by decide +kernel) rfl (by simp [Value.category]) rfl ly_5 (by simp [Value.category]) ⟨Nat.zero_le _, Nat.zero_le _⟩ k
theorem b129_20 {d : Nat} {P : xPr} {Q : xQr} {r : Nat} {mem : Nat → Nat → Int32} (hP : Cl d none 129 P Q) {v0 : Value} {v1 : Value} {v2 : Value} (hzr : nI 1 = 0 ∨ nI 1 = 1)
    (k : Q (some (.int (nI 1))) (LAY, RFu r, mem)) : P 20 [v0, v1, v2] [] (0, 0) (LAY, RFu r, mem) := by
  refine r_iconst (v := nI 1) hP d129_20 rfl ?_
  exact r_zret hP d129_21 rfl hzr k
theorem d130_0 : decode (xB 130) 0 = .ok (.iload_n 1, 1) := by decide +kernel
theorem d130_1 : decode (xB 130) 1 = .ok (.iconst 0, 1) := by decide +kernel
theorem d130_2 : decode (xB 130) 2 = .ok (.bipush 100, 2) := by decide +kernel
theorem d130_4 : decode (xB 130) 4 = .ok (.invokestatic 185, 3) := by decide +kernel
theorem d130_7 : decode (xB 130) 7 = .ok (.ifCond .ne 5, 3) := by decide +kernel
theorem d130_10 : decode (xB 130) 10 = .ok (.iconst (-1), 1) := by decide +kernel
theorem d130_11 : decode (xB 130) 11 = .ok (.ireturn, 1) := by decide +kernel
theorem d130_12 : decode (xB 130) 12 = .ok (.aload_n 0, 1) := by decide +kernel
theorem d130_13 : decode (xB 130) 13 = .ok (.getfield 26, 3) := by decide +kernel
theorem d130_16 : decode (xB 130) 16 = .ok (.getfield 192, 3) := by decide +kernel
theorem d130_19 : decode (xB 130) 19 = .ok (.iconst 2, 1) := by decide +kernel
theorem d130_20 : decode (xB 130) 20 = .ok (.if_icmp .ge 6, 3) := by decide +kernel
theorem d130_23 : decode (xB 130) 23 = .ok (.bipush (-2), 2) := by decide +kernel
theorem d130_25 : decode (xB 130) 25 = .ok (.ireturn, 1) := by decide +kernel
theorem d130_26 : decode (xB 130) 26 = .ok (.aload_n 0, 1) := by decide +kernel
theorem d130_27 : decode (xB 130) 27 = .ok (.aload_n 0, 1) := by decide +kernel
theorem d130_28 : decode (xB 130) 28 = .ok (.getfield 26, 3) := by decide +kernel
theorem d130_31 : decode (xB 130) 31 = .ok (.iload_n 1, 1) := by decide +kernel
theorem d130_32 : decode (xB 130) 32 = .ok (.invokevirtual 243, 3) := by decide +kernel
theorem d130_35 : decode (xB 130) 35 = .ok (.aload_n 0, 1) := by decide +kernel
theorem d130_36 : decode (xB 130) 36 = .ok (.invokevirtual 340, 3) := by decide +kernel
theorem d130_39 : decode (xB 130) 39 = .ok (.istore_n 2, 1) := by decide +kernel
theorem d130_40 : decode (xB 130) 40 = .ok (.iconst (-1), 1) := by decide +kernel
theorem d130_41 : decode (xB 130) 41 = .ok (.istore_n 3, 1) := by decide +kernel
theorem d130_42 : decode (xB 130) 42 = .ok (.iconst 0, 1) := by decide +kernel
theorem d130_43 : decode (xB 130) 43 = .ok (.istore 4, 2) := by decide +kernel
theorem d130_45 : decode (xB 130) 45 = .ok (.iload 4, 2) := by decide +kernel
theorem d130_47 : decode (xB 130) 47 = .ok (.aload_n 0, 1) := by decide +kernel
theorem d130_48 : decode (xB 130) 48 = .ok (.getfield 26, 3) := by decide +kernel
theorem d130_51 : decode (xB 130) 51 = .ok (.getfield 192, 3) := by decide +kernel
theorem d130_54 : decode (xB 130) 54 = .ok (.if_icmp .ge 109, 3) := by decide +kernel
theorem d130_57 : decode (xB 130) 57 = .ok (.iload 4, 2) := by decide +kernel
theorem d130_59 : decode (xB 130) 59 = .ok (.iconst 1, 1) := by decide +kernel
theorem d130_60 : decode (xB 130) 60 = .ok (.iadd, 1) := by decide +kernel
theorem d130_61 : decode (xB 130) 61 = .ok (.istore 5, 2) := by decide +kernel
theorem d130_63 : decode (xB 130) 63 = .ok (.iload 5, 2) := by decide +kernel
theorem d130_65 : decode (xB 130) 65 = .ok (.aload_n 0, 1) := by decide +kernel
theorem d130_66 : decode (xB 130) 66 = .ok (.getfield 26, 3) := by decide +kernel
theorem d130_69 : decode (xB 130) 69 = .ok (.getfield 192, 3) := by decide +kernel
theorem d130_72 : decode (xB 130) 72 = .ok (.if_icmp .ge 85, 3) := by decide +kernel
theorem d130_75 : decode (xB 130) 75 = .ok (.aload_n 0, 1) := by decide +kernel
theorem d130_76 : decode (xB 130) 76 = .ok (.getfield 30, 3) := by decide +kernel
theorem d130_79 : decode (xB 130) 79 = .ok (.aload_n 0, 1) := by decide +kernel
theorem d130_80 : decode (xB 130) 80 = .ok (.getfield 26, 3) := by decide +kernel
theorem d130_83 : decode (xB 130) 83 = .ok (.invokevirtual 316, 3) := by decide +kernel
theorem d130_86 : decode (xB 130) 86 = .ok (.aload_n 0, 1) := by decide +kernel
theorem d130_87 : decode (xB 130) 87 = .ok (.getfield 30, 3) := by decide +kernel
theorem d130_90 : decode (xB 130) 90 = .ok (.iload 4, 2) := by decide +kernel
theorem d130_92 : decode (xB 130) 92 = .ok (.iload 5, 2) := by decide +kernel
theorem d130_94 : decode (xB 130) 94 = .ok (.invokevirtual 336, 3) := by decide +kernel
theorem d130_97 : decode (xB 130) 97 = .ok (.aload_n 0, 1) := by decide +kernel
theorem d130_98 : decode (xB 130) 98 = .ok (.aload_n 0, 1) := by decide +kernel
theorem d130_99 : decode (xB 130) 99 = .ok (.getfield 30, 3) := by decide +kernel
theorem d130_102 : decode (xB 130) 102 = .ok (.iload_n 1, 1) := by decide +kernel
theorem d130_103 : decode (xB 130) 103 = .ok (.invokevirtual 243, 3) := by decide +kernel
theorem d130_106 : decode (xB 130) 106 = .ok (.aload_n 0, 1) := by decide +kernel
theorem d130_107 : decode (xB 130) 107 = .ok (.invokevirtual 340, 3) := by decide +kernel
theorem d130_110 : decode (xB 130) 110 = .ok (.istore 6, 2) := by decide +kernel
theorem d130_112 : decode (xB 130) 112 = .ok (.iload_n 3, 1) := by decide +kernel
theorem d130_113 : decode (xB 130) 113 = .ok (.iconst (-1), 1) := by decide +kernel
theorem d130_114 : decode (xB 130) 114 = .ok (.if_icmp .eq 9, 3) := by decide +kernel
theorem d130_117 : decode (xB 130) 117 = .ok (.iload 6, 2) := by decide +kernel
theorem d130_119 : decode (xB 130) 119 = .ok (.iload_n 3, 1) := by decide +kernel
theorem d130_120 : decode (xB 130) 120 = .ok (.if_icmp .ge 31, 3) := by decide +kernel
theorem d130_123 : decode (xB 130) 123 = .ok (.iload 6, 2) := by decide +kernel
theorem d130_125 : decode (xB 130) 125 = .ok (.istore_n 3, 1) := by decide +kernel
theorem d130_126 : decode (xB 130) 126 = .ok (.aload_n 0, 1) := by decide +kernel
theorem d130_127 : decode (xB 130) 127 = .ok (.getfield 19, 3) := by decide +kernel
theorem d130_130 : decode (xB 130) 130 = .ok (.invokevirtual 213, 3) := by decide +kernel
theorem d130_133 : decode (xB 130) 133 = .ok (.aload_n 0, 1) := by decide +kernel
theorem d130_134 : decode (xB 130) 134 = .ok (.getfield 19, 3) := by decide +kernel
theorem d130_137 : decode (xB 130) 137 = .ok (.iload 4, 2) := by decide +kernel
theorem d130_139 : decode (xB 130) 139 = .ok (.invokevirtual 222, 3) := by decide +kernel
theorem d130_142 : decode (xB 130) 142 = .ok (.aload_n 0, 1) := by decide +kernel
theorem d130_143 : decode (xB 130) 143 = .ok (.getfield 19, 3) := by decide +kernel
theorem d130_146 : decode (xB 130) 146 = .ok (.iload 5, 2) := by decide +kernel
theorem d130_148 : decode (xB 130) 148 = .ok (.invokevirtual 222, 3) := by decide +kernel
theorem d130_151 : decode (xB 130) 151 = .ok (.iinc 5 1, 3) := by decide +kernel
theorem d130_154 : decode (xB 130) 154 = .ok (.goto (-91), 3) := by decide +kernel
theorem d130_157 : decode (xB 130) 157 = .ok (.iinc 4 1, 3) := by decide +kernel
theorem d130_160 : decode (xB 130) 160 = .ok (.goto (-115), 3) := by decide +kernel
theorem d130_163 : decode (xB 130) 163 = .ok (.aload_n 0, 1) := by decide +kernel
theorem d130_164 : decode (xB 130) 164 = .ok (.getfield 19, 3) := by decide +kernel
theorem d130_167 : decode (xB 130) 167 = .ok (.iload_n 2, 1) := by decide +kernel
theorem d130_168 : decode (xB 130) 168 = .ok (.iload_n 3, 1) := by decide +kernel
theorem d130_169 : decode (xB 130) 169 = .ok (.isub, 1) := by decide +kernel
theorem d130_170 : decode (xB 130) 170 = .ok (.invokevirtual 222, 3) := by decide +kernel
theorem d130_173 : decode (xB 130) 173 = .ok (.iload_n 3, 1) := by decide +kernel
theorem d130_174 : decode (xB 130) 174 = .ok (.ireturn, 1) := by decide +kernel
theorem b130_0 {d : Nat} {P : xPr} {Q : xQr} {r : Nat} {mem : Nat → Nat → Int32} (hP : Cl d none 130 P Q) {p0 : Int32}
    (k : xCall d 151 [.int p0, .int (nI 0), .int (nI 100)] (LAY, RFu r, mem) (Bk P 4 [.ref 0, .int p0, .null, .null, .null, .null, .null] [] (0, 0))) : P 0 [.ref 0, .int p0, .null, .null, .null, .null, .null] [] (0, 0) (LAY, RFu r, mem) := by
  refine r_iload_n hP d130_0 rfl ?_
  refine r_iconst (v := nI 0) hP d130_1 rfl ?_
  refine r_bipush (v := nI 100) hP d130_2 rfl ?_
  exact r_calls (As := [.int p0, .int (nI 0), .int (nI 100)]) (S := []) hP d130_4 cr_11_185 (by decide +kernel) rfl (by simp [Value.category]) rfl (by simp [Value.category]) ⟨Nat.zero_le _, Nat.zero_le _⟩ k
theorem b130_7 {d : Nat} {P : xPr} {Q : xQr} {r : Nat} {mem : Nat → Nat → Int32} (hP : Cl d none 130 P Q) {x1 : Int32} {v2 : Value} {v3 : Value} {v4 : Value} {v5 : Value} {v6 : Value} {y0 : Int32}
    (kt : ¬ y0 = 0 → P 12 [.ref 0, .int x1, v2, v3, v4, v5, v6] [] (0, 0) (LAY, RFu r, mem)) (kf : y0 = 0 → P 10 [.ref 0, .int x1, v2, v3, v4, v5, v6] [] (0, 0) (LAY, RFu r, mem)) : P 7 [.ref 0, .int x1, v2, v3, v4, v5, v6] [.int y0] (0, 0) (LAY, RFu r, mem) := by
  exact r_if (t := 12) hP d130_7 (by decide) kt (fun q => kf (Decidable.of_not_not q))
theorem b130_10 {d : Nat} {P : xPr} {Q : xQr} {r : Nat} {mem : Nat → Nat → Int32} (hP : Cl d none 130 P Q) {v0 : Value} {v1 : Value} {v2 : Value} {v3 : Value} {v4 : Value} {v5 : Value} {v6 : Value}
    (k : Q (some (.int (-1))) (LAY, RFu r, mem)) : P 10 [v0, v1, v2, v3, v4, v5, v6] [] (0, 0) (LAY, RFu r, mem) := by
  refine r_iconst (v := (-1)) hP d130_10 rfl ?_
  exact r_iret hP d130_11 rfl k
theorem b130_12 {d : Nat} {P : xPr} {Q : xQr} {r : Nat} {mem : Nat → Nat → Int32} (hP : Cl d none 130 P Q) {x1 : Int32} {v2 : Value} {v3 : Value} {v4 : Value} {v5 : Value} {v6 : Value}
    (kt : (nI 2) ≤ (mem 5 1) → P 26 [.ref 0, .int x1, v2, v3, v4, v5, v6] [] (0, 0) (LAY, RFu r, mem)) (kf : ¬ (nI 2) ≤ (mem 5 1) → P 23 [.ref 0, .int x1, v2, v3, v4, v5, v6] [] (0, 0) (LAY, RFu r, mem)) : P 12 [.ref 0, .int x1, v2, v3, v4, v5, v6] [] (0, 0) (LAY, RFu r, mem) := by
  refine r_aload_n hP d130_12 rfl ?_
  refine r_getr (a := 5) hP d130_13 fr_11_26 rfl ly_0 rg_0_2 ?_
  refine r_geti hP d130_16 fr_11_192 rfl ly_5 ?_
  refine r_iconst (v := nI 2) hP d130_19 rfl ?_
  exact r_icmp (t := 26) hP d130_20 (by decide) kt kf
theorem b130_23 {d : Nat} {P : xPr} {Q : xQr} {r : Nat} {mem : Nat → Nat → Int32} (hP : Cl d none 130 P Q) {v0 : Value} {v1 : Value} {v2 : Value} {v3 : Value} {v4 : Value} {v5 : Value} {v6 : Value}
    (k : Q (some (.int (-2))) (LAY, RFu r, mem)) : P 23 [v0, v1, v2, v3, v4, v5, v6] [] (0, 0) (LAY, RFu r, mem) := by
  refine r_bipush (v := (-2)) hP d130_23 rfl ?_
  exact r_iret hP d130_25 rfl k
theorem b130_26 {d : Nat} {P : xPr} {Q : xQr} {r : Nat} {mem : Nat → Nat → Int32} (hP : Cl d none 130 P Q) {x1 : Int32} {v2 : Value} {v3 : Value} {v4 : Value} {v5 : Value} {v6 : Value}
    (k : xCall d 153 [.ref 0, .ref 5, .int x1] (LAY, RFu r, mem) (Bk P 32 [.ref 0, .int x1, v2, v3, v4, v5, v6] [] (0, 0))) : P 26 [.ref 0, .int x1, v2, v3, v4, v5, v6] [] (0, 0) (LAY, RFu r, mem) := by
  refine r_aload_n hP d130_26 rfl ?_
  refine r_aload_n hP d130_27 rfl ?_
  refine r_getr (a := 5) hP d130_28 fr_11_26 rfl ly_0 rg_0_2 ?_
  refine r_iload_n hP d130_31 rfl ?_
  exact r_callv (As := [.ref 5, .int x1]) (S := []) hP d130_32 cr_11_243 (by decide +kernel) rfl (by simp [Value.category]) rfl ly_0 (by simp [Value.category]) ⟨Nat.zero_le _, Nat.zero_le _⟩ k
theorem b130_35 {d : Nat} {P : xPr} {Q : xQr} {r : Nat} {mem : Nat → Nat → Int32} (hP : Cl d none 130 P Q) {x1 : Int32} {v2 : Value} {v3 : Value} {v4 : Value} {v5 : Value} {v6 : Value}
    (k : xCall d 155 [.ref 0] (LAY, RFu r, mem) (Bk P 36 [.ref 0, .int x1, v2, v3, v4, v5, v6] [] (0, 0))) : P 35 [.ref 0, .int x1, v2, v3, v4, v5, v6] [] (0, 0) (LAY, RFu r, mem) := by
  refine r_aload_n hP d130_35 rfl ?_
  exact r_callv (As := []) (S := []) hP d130_36 cr_11_340 (by decide +kernel) rfl (by simp) rfl ly_0 (by simp [Value.category]) ⟨Nat.zero_le _, Nat.zero_le _⟩ k
theorem b130_39 {d : Nat} {P : xPr} {Q : xQr} {r : Nat} {mem : Nat → Nat → Int32} (hP : Cl d none 130 P Q) {x1 : Int32} {v2 : Value} {v3 : Value} {v4 : Value} {v5 : Value} {v6 : Value} {y0 : Int32}
    (k : P 45 [.ref 0, .int x1, .int y0, .int (-1), .int (nI 0), v5, v6] [] (0, 0) (LAY, RFu r, mem)) : P 39 [.ref 0, .int x1, v2, v3, v4, v5, v6] [.int y0] (0, 0) (LAY, RFu r, mem) := by
  refine r_istore_n (L' := [.ref 0, .int x1, .int y0, v3, v4, v5, v6]) hP d130_39 (Nat.le_of_ble_eq_true rfl) rfl ?_
  refine r_iconst (v := (-1)) hP d130_40 rfl ?_
  refine r_istore_n (L' := [.ref 0, .int x1, .int y0, .int (-1), v4, v5, v6]) hP d130_41 (Nat.le_of_ble_eq_true rfl) rfl ?_
  refine r_iconst (v := nI 0) hP d130_42 rfl ?_
  refine r_istore (L' := [.ref 0, .int x1, .int y0, .int (-1), .int (nI 0), v5, v6]) hP d130_43 (Nat.le_of_ble_eq_true rfl) rfl ?_
  exact k
theorem b130_45 {d : Nat} {P : xPr} {Q : xQr} {r : Nat} {mem : Nat → Nat → Int32} (hP : Cl d none 130 P Q) {x1 : Int32} {x2 : Int32} {x3 : Int32} {x4 : Int32} {v5 : Value} {v6 : Value}
    (kt : (mem 5 1) ≤ x4 → P 163 [.ref 0, .int x1, .int x2, .int x3, .int x4, v5, v6] [] (0, 0) (LAY, RFu r, mem)) (kf : ¬ (mem 5 1) ≤ x4 → P 57 [.ref 0, .int x1, .int x2, .int x3, .int x4, v5, v6] [] (0, 0) (LAY, RFu r, mem)) : P 45 [.ref 0, .int x1, .int x2, .int x3, .int x4, v5, v6] [] (0, 0) (LAY, RFu r, mem) := by
  refine r_iload hP d130_45 rfl ?_
  refine r_aload_n hP d130_47 rfl ?_
  refine r_getr (a := 5) hP d130_48 fr_11_26 rfl ly_0 rg_0_2 ?_
  refine r_geti hP d130_51 fr_11_192 rfl ly_5 ?_
  exact r_icmp (t := 163) hP d130_54 (by decide) kt kf
theorem b130_57 {d : Nat} {P : xPr} {Q : xQr} {r : Nat} {mem : Nat → Nat → Int32} (hP : Cl d none 130 P Q) {x1 : Int32} {x2 : Int32} {x3 : Int32} {x4 : Int32} {v5 : Value} {v6 : Value}
    (k : P 63 [.ref 0, .int x1, .int x2, .int x3, .int x4, .int (x4 + (nI 1)), v6] [] (0, 0) (LAY, RFu r, mem)) : P 57 [.ref 0, .int x1, .int x2, .int x3, .int x4, v5, v6] [] (0, 0) (LAY, RFu r, mem) := by
  refine r_iload hP d130_57 rfl ?_
  refine r_iconst (v := nI 1) hP d130_59 rfl ?_
  refine r_iadd hP d130_60 ?_
  refine r_istore (L' := [.ref 0, .int x1, .int x2, .int x3, .int x4, .int (x4 + (nI 1)), v6]) hP d130_61 (Nat.le_of_ble_eq_true rfl) rfl ?_
  exact k
theorem b130_63 {d : Nat} {P : xPr} {Q : xQr} {r : Nat} {mem : Nat → Nat → Int32} (hP : Cl d none 130 P Q) {x1 : Int32} {x2 : Int32} {x3 : Int32} {x4 : Int32} {x5 : Int32} {v6 : Value}
    (kt : (mem 5 1) ≤ x5 → P 157 [.ref 0, .int x1, .int x2, .int x3, .int x4, .int x5, v6] [] (0, 0) (LAY, RFu r, mem)) (kf : ¬ (mem 5 1) ≤ x5 → P 75 [.ref 0, .int x1, .int x2, .int x3, .int x4, .int x5, v6] [] (0, 0) (LAY, RFu r, mem)) : P 63 [.ref 0, .int x1, .int x2, .int x3, .int x4, .int x5, v6] [] (0, 0) (LAY, RFu r, mem) := by
  refine r_iload hP d130_63 rfl ?_
  refine r_aload_n hP d130_65 rfl ?_
  refine r_getr (a := 5) hP d130_66 fr_11_26 rfl ly_0 rg_0_2 ?_
  refine r_geti hP d130_69 fr_11_192 rfl ly_5 ?_
  exact r_icmp (t := 157) hP d130_72 (by decide) kt kf
theorem b130_75 {d : Nat} {P : xPr} {Q : xQr} {r : Nat} {mem : Nat → Nat → Int32} (hP : Cl d none 130 P Q) {x1 : Int32} {x2 : Int32} {x3 : Int32} {x4 : Int32} {x5 : Int32} {v6 : Value}
    (k : xCall d 88 [.ref 26, .ref 5] (LAY, RFu r, mem) (Bk P 83 [.ref 0, .int x1, .int x2, .int x3, .int x4, .int x5, v6] [] (0, 0))) : P 75 [.ref 0, .int x1, .int x2, .int x3, .int x4, .int x5, v6] [] (0, 0) (LAY, RFu r, mem) := by
  refine r_aload_n hP d130_75 rfl ?_
  refine r_getr (a := 26) hP d130_76 fr_11_30 rfl ly_0 rg_0_3 ?_
  refine r_aload_n hP d130_79 rfl ?_
  refine r_getr (a := 5) hP d130_80 fr_11_26 rfl ly_0 rg_0_2 ?_
  exact r_callv (As := [.ref 5]) (S := []) hP d130_83 cr_11_316 (by decide +kernel) rfl (by simp [Value.category]) rfl ly_26 (by simp [Value.category]) ⟨Nat.zero_le _, Nat.zero_le _⟩ k
theorem b130_86 {d : Nat} {P : xPr} {Q : xQr} {r : Nat} {mem : Nat → Nat → Int32} (hP : Cl d none 130 P Q) {x1 : Int32} {x2 : Int32} {x3 : Int32} {x4 : Int32} {x5 : Int32} {v6 : Value}
    (k : xCall d 92 [.ref 26, .int x4, .int x5] (LAY, RFu r, mem) (Bk P 94 [.ref 0, .int x1, .int x2, .int x3, .int x4, .int x5, v6] [] (0, 0))) : P 86 [.ref 0, .int x1, .int x2, .int x3, .int x4, .int x5, v6] [] (0, 0) (LAY, RFu r, mem) := by
  refine r_aload_n hP d130_86 rfl ?_
  refine r_getr (a := 26) hP d130_87 fr_11_30 rfl ly_0 rg_0_3 ?_
  refine r_iload hP d130_90 rfl ?_
  refine r_iload hP d130_92 rfl ?_
  exact r_callv (As := [.int x4, .int x5]) (S := []) hP d130_94 cr_11_336 (by decide +kernel) rfl (by simp [Value.category]) rfl ly_26 (by simp [Value.category]) ⟨Nat.zero_le _, Nat.zero_le _⟩ k
theorem b130_97 {d : Nat} {P : xPr} {Q : xQr} {r : Nat} {mem : Nat → Nat → Int32} (hP : Cl d none 130 P Q) {x1 : Int32} {x2 : Int32} {x3 : Int32} {x4 : Int32} {x5 : Int32} {v6 : Value}
    (k : xCall d 153 [.ref 0, .ref 26, .int x1] (LAY, RFu r, mem) (Bk P 103 [.ref 0, .int x1, .int x2, .int x3, .int x4, .int x5, v6] [] (0, 0))) : P 97 [.ref 0, .int x1, .int x2, .int x3, .int x4, .int x5, v6] [] (0, 0) (LAY, RFu r, mem) := by
  refine r_aload_n hP d130_97 rfl ?_
  refine r_aload_n hP d130_98 rfl ?_
  refine r_getr (a := 26) hP d130_99 fr_11_30 rfl ly_0 rg_0_3 ?_
  refine r_iload_n hP d130_102 rfl ?_
  exact r_callv (As := [.ref 26, .int x1]) (S := []) hP d130_103 cr_11_243 (by decide +kernel) rfl (by simp [Value.category]) rfl ly_0 (by simp [Value.category]) ⟨Nat.zero_le _, Nat.zero_le _⟩ k
theorem b130_106 {d : Nat} {P : xPr} {Q : xQr} {r : Nat} {mem : Nat → Nat → Int32} (hP : Cl d none 130 P Q) {x1 : Int32} {x2 : Int32} {x3 : Int32} {x4 : Int32} {x5 : Int32} {v6 : Value}
    (k : xCall d 155 [.ref 0] (LAY, RFu r, mem) (Bk P 107 [.ref 0, .int x1, .int x2, .int x3, .int x4, .int x5, v6] [] (0, 0))) : P 106 [.ref 0, .int x1, .int x2, .int x3, .int x4, .int x5, v6] [] (0, 0) (LAY, RFu r, mem) := by
  refine r_aload_n hP d130_106 rfl ?_
  exact r_callv (As := []) (S := []) hP d130_107 cr_11_340 (by decide +kernel) rfl (by simp) rfl ly_0 (by simp [Value.category]) ⟨Nat.zero_le _, Nat.zero_le _⟩ k
theorem b130_110 {d : Nat} {P : xPr} {Q : xQr} {r : Nat} {mem : Nat → Nat → Int32} (hP : Cl d none 130 P Q) {x1 : Int32} {x2 : Int32} {x3 : Int32} {x4 : Int32} {x5 : Int32} {v6 : Value} {y0 : Int32}
    (kt : x3 = (-1) → P 123 [.ref 0, .int x1, .int x2, .int x3, .int x4, .int x5, .int y0] [] (0, 0) (LAY, RFu r, mem)) (kf : ¬ x3 = (-1) → P 117 [.ref 0, .int x1, .int x2, .int x3, .int x4, .int x5, .int y0] [] (0, 0) (LAY, RFu r, mem)) : P 110 [.ref 0, .int x1, .int x2, .int x3, .int x4, .int x5, v6] [.int y0] (0, 0) (LAY, RFu r, mem) := by
  refine r_istore (L' := [.ref 0, .int x1, .int x2, .int x3, .int x4, .int x5, .int y0]) hP d130_110 (Nat.le_of_ble_eq_true rfl) rfl ?_
  refine r_iload_n hP d130_112 rfl ?_
  refine r_iconst (v := (-1)) hP d130_113 rfl ?_
  exact r_icmp (t := 123) hP d130_114 (by decide) kt kf
theorem b130_117 {d : Nat} {P : xPr} {Q : xQr} {r : Nat} {mem : Nat → Nat → Int32} (hP : Cl d none 130 P Q) {x1 : Int32} {x2 : Int32} {x3 : Int32} {x4 : Int32} {x5 : Int32} {x6 : Int32}
    (kt : x3 ≤ x6 → P 151 [.ref 0, .int x1, .int x2, .int x3, .int x4, .int x5, .int x6] [] (0, 0) (LAY, RFu r, mem)) (kf : ¬ x3 ≤ x6 → P 123 [.ref 0, .int x1, .int x2, .int x3, .int x4, .int x5, .int x6] [] (0, 0) (LAY, RFu r, mem)) : P 117 [.ref 0, .int x1, .int x2, .int x3, .int x4, .int x5, .int x6] [] (0, 0) (LAY, RFu r, mem) := by
  refine r_iload hP d130_117 rfl ?_
  refine r_iload_n hP d130_119 rfl ?_
  exact r_icmp (t := 151) hP d130_120 (by decide) kt kf
theorem b130_123 {d : Nat} {P : xPr} {Q : xQr} {r : Nat} {mem : Nat → Nat → Int32} (hP : Cl d none 130 P Q) {x1 : Int32} {x2 : Int32} {v3 : Value} {x4 : Int32} {x5 : Int32} {x6 : Int32}
    (k : xCall d 31 [.ref 3] (LAY, RFu r, mem) (Bk P 130 [.ref 0, .int x1, .int x2, .int x6, .int x4, .int x5, .int x6] [] (0, 0))) : P 123 [.ref 0, .int x1, .int x2, v3, .int x4, .int x5, .int x6] [] (0, 0) (LAY, RFu r, mem) := by
  refine r_iload hP d130_123 rfl ?_
  refine r_istore_n (L' := [.ref 0, .int x1, .int x2, .int x6, .int x4, .int x5, .int x6]) hP d130_125 (Nat.le_of_ble_eq_true rfl) rfl ?_
  refine r_aload_n hP d130_126 rfl ?_
  refine r_getr (a := 3) hP d130_127 fr_11_19 rfl ly_0 rg_0_1 ?_
  exact r_callv (As := []) (S := []) hP d130_130 cr_11_213 (by decide +kernel) rfl (by simp) rfl ly_3 (by simp [Value.category]) ⟨Nat.zero_le _, Nat.zero_le _⟩ k
theorem b130_133 {d : Nat} {P : xPr} {Q : xQr} {r : Nat} {mem : Nat → Nat → Int32} (hP : Cl d none 130 P Q) {x1 : Int32} {x2 : Int32} {x3 : Int32} {x4 : Int32} {x5 : Int32} {v6 : Value}
    (k : xCall d 32 [.ref 3, .int x4] (LAY, RFu r, mem) (Bk P 139 [.ref 0, .int x1, .int x2, .int x3, .int x4, .int x5, v6] [] (0, 0))) : P 133 [.ref 0, .int x1, .int x2, .int x3, .int x4, .int x5, v6] [] (0, 0) (LAY, RFu r, mem) := by
  refine r_aload_n hP d130_133 rfl ?_
  refine r_getr (a := 3) hP d130_134 fr_11_19 rfl ly_0 rg_0_1 ?_
  refine r_iload hP d130_137 rfl ?_
  exact r_callv (As := [.int x4]) (S := []) hP d130_139 cr_11_222 (by decide +kernel) rfl (by simp [Value.category]) rfl ly_3 (by simp [Value.category]) ⟨Nat.zero_le _, Nat.zero_le _⟩ k
theorem b130_142 {d : Nat} {P : xPr} {Q : xQr} {r : Nat} {mem : Nat → Nat → Int32} (hP : Cl d none 130 P Q) {x1 : Int32} {x2 : Int32} {x3 : Int32} {x4 : Int32} {x5 : Int32} {v6 : Value}
    (k : xCall d 32 [.ref 3, .int x5] (LAY, RFu r, mem) (Bk P 148 [.ref 0, .int x1, .int x2, .int x3, .int x4, .int x5, v6] [] (0, 0))) : P 142 [.ref 0, .int x1, .int x2, .int x3, .int x4, .int x5, v6] [] (0, 0) (LAY, RFu r, mem) := by
  refine r_aload_n hP d130_142 rfl ?_
  refine r_getr (a := 3) hP d130_143 fr_11_19 rfl ly_0 rg_0_1 ?_
  refine r_iload hP d130_146 rfl ?_
  exact r_callv (As := [.int x5]) (S := []) hP d130_148 cr_11_222 (by decide +kernel) rfl (by simp [Value.category]) rfl ly_3 (by simp [Value.category]) ⟨Nat.zero_le _, Nat.zero_le _⟩ k
theorem b130_151 {d : Nat} {P : xPr} {Q : xQr} {r : Nat} {mem : Nat → Nat → Int32} (hP : Cl d none 130 P Q) {x1 : Int32} {x2 : Int32} {x3 : Int32} {x4 : Int32} {x5 : Int32} {v6 : Value}
    (k : P 63 [.ref 0, .int x1, .int x2, .int x3, .int x4, .int (x5 + nI 1), v6] [] (0, 0) (LAY, RFu r, mem)) : P 151 [.ref 0, .int x1, .int x2, .int x3, .int x4, .int x5, v6] [] (0, 0) (LAY, RFu r, mem) := by
  refine r_iinc (v := nI 1) (L' := [.ref 0, .int x1, .int x2, .int x3, .int x4, .int (x5 + nI 1), v6]) hP d130_151 rfl rfl rfl ?_
  refine r_goto (t := 63) hP d130_154 (by decide) ?_
  exact k
theorem b130_157 {d : Nat} {P : xPr} {Q : xQr} {r : Nat} {mem : Nat → Nat → Int32} (hP : Cl d none 130 P Q) {x1 : Int32} {x2 : Int32} {x3 : Int32} {x4 : Int32} {v5 : Value} {v6 : Value}
    (k : P 45 [.ref 0, .int x1, .int x2, .int x3, .int (x4 + nI 1), v5, v6] [] (0, 0) (LAY, RFu r, mem)) : P 157 [.ref 0, .int x1, .int x2, .int x3, .int x4, v5, v6] [] (0, 0) (LAY, RFu r, mem) := by
  refine r_iinc (v := nI 1) (L' := [.ref 0, .int x1, .int x2, .int x3, .int (x4 + nI 1), v5, v6]) hP d130_157 rfl rfl rfl ?_
  refine r_goto (t := 45) hP d130_160 (by decide) ?_
  exact k
theorem b130_163 {d : Nat} {P : xPr} {Q : xQr} {r : Nat} {mem : Nat → Nat → Int32} (hP : Cl d none 130 P Q) {v1 : Value} {x2 : Int32} {x3 : Int32} {v4 : Value} {v5 : Value} {v6 : Value}
    (k : xCall d 32 [.ref 3, .int (x2 - x3)] (LAY, RFu r, mem) (Bk P 170 [.ref 0, v1, .int x2, .int x3, v4, v5, v6] [] (0, 0))) : P 163 [.ref 0, v1, .int x2, .int x3, v4, v5, v6] [] (0, 0) (LAY, RFu r, mem) := by
  refine r_aload_n hP d130_163 rfl ?_
  refine r_getr (a := 3) hP d130_164 fr_11_19 rfl ly_0 rg_0_1 ?_
  refine r_iload_n hP d130_167 rfl ?_
  refine r_iload_n hP d130_168 rfl ?_
  refine r_isub hP d130_169 ?_
  exact r_callv (As := [.int (x2 - x3)]) (S := []) hP d130_170 cr_11_222 (by decide +kernel) rfl (by simp [Value.category]) rfl ly_3 (by simp [Value.category]) ⟨Nat.zero_le _, Nat.zero_le _⟩ k
theorem b130_173 {d : Nat} {P : xPr} {Q : xQr} {r : Nat} {mem : Nat → Nat → Int32} (hP : Cl d none 130 P Q) {v0 : Value} {v1 : Value} {v2 : Value} {x3 : Int32} {v4 : Value} {v5 : Value} {v6 : Value}
    (k : Q (some (.int x3)) (LAY, RFu r, mem)) : P 173 [v0, v1, v2, .int x3, v4, v5, v6] [] (0, 0) (LAY, RFu r, mem) := by
  refine r_iload_n hP d130_173 rfl ?_
  exact r_iret hP d130_174 rfl k
theorem d131_0 : decode (xB 131) 0 = .ok (.aload_n 0, 1) := by decide +kernel
theorem d131_1 : decode (xB 131) 1 = .ok (.getfield 26, 3) := by decide +kernel
theorem d131_4 : decode (xB 131) 4 = .ok (.iload_n 1, 1) := by decide +kernel
theorem d131_5 : decode (xB 131) 5 = .ok (.invokevirtual 127, 3) := by decide +kernel
theorem d131_8 : decode (xB 131) 8 = .ok (.ifCond .eq 13, 3) := by decide +kernel
theorem d131_11 : decode (xB 131) 11 = .ok (.iload_n 2, 1) := by decide +kernel
theorem d131_12 : decode (xB 131) 12 = .ok (.iconst 0, 1) := by decide +kernel
theorem d131_13 : decode (xB 131) 13 = .ok (.bipush 100, 2) := by decide +kernel
theorem d131_15 : decode (xB 131) 15 = .ok (.invokestatic 185, 3) := by decide +kernel
theorem d131_18 : decode (xB 131) 18 = .ok (.ifCond .ne 5, 3) := by decide +kernel
theorem d131_21 : decode (xB 131) 21 = .ok (.iconst (-1), 1) := by decide +kernel
theorem d131_22 : decode (xB 131) 22 = .ok (.ireturn, 1) := by decide +kernel
theorem d131_23 : decode (xB 131) 23 = .ok (.aload_n 0, 1) := by decide +kernel
theorem d131_24 : decode (xB 131) 24 = .ok (.getfield 26, 3) := by decide +kernel
theorem d131_27 : decode (xB 131) 27 = .ok (.getfield 341, 3) := by decide +kernel
theorem d131_30 : decode (xB 131) 30 = .ok (.iload_n 1, 1) := by decide +kernel
theorem d131_31 : decode (xB 131) 31 = .ok (.iaload, 1) := by decide +kernel
theorem d131_32 : decode (xB 131) 32 = .ok (.ifCond .ne 6, 3) := by decide +kernel
theorem d131_35 : decode (xB 131) 35 = .ok (.bipush (-2), 2) := by decide +kernel
theorem d131_37 : decode (xB 131) 37 = .ok (.ireturn, 1) := by decide +kernel
theorem d131_38 : decode (xB 131) 38 = .ok (.iconst (-1), 1) := by decide +kernel
theorem d131_39 : decode (xB 131) 39 = .ok (.istore_n 3, 1) := by decide +kernel
theorem d131_40 : decode (xB 131) 40 = .ok (.iconst 0, 1) := by decide +kernel
theorem d131_41 : decode (xB 131) 41 = .ok (.istore 4, 2) := by decide +kernel
theorem d131_43 : decode (xB 131) 43 = .ok (.aload_n 0, 1) := by decide +kernel
theorem d131_44 : decode (xB 131) 44 = .ok (.getfield 30, 3) := by decide +kernel
theorem d131_47 : decode (xB 131) 47 = .ok (.aload_n 0, 1) := by decide +kernel
theorem d131_48 : decode (xB 131) 48 = .ok (.getfield 26, 3) := by decide +kernel
theorem d131_51 : decode (xB 131) 51 = .ok (.invokevirtual 316, 3) := by decide +kernel
theorem d131_54 : decode (xB 131) 54 = .ok (.iconst 0, 1) := by decide +kernel
theorem d131_55 : decode (xB 131) 55 = .ok (.istore 5, 2) := by decide +kernel
theorem d131_57 : decode (xB 131) 57 = .ok (.iload 5, 2) := by decide +kernel
theorem d131_59 : decode (xB 131) 59 = .ok (.aload_n 0, 1) := by decide +kernel
theorem d131_60 : decode (xB 131) 60 = .ok (.getfield 26, 3) := by decide +kernel
theorem d131_63 : decode (xB 131) 63 = .ok (.getfield 341, 3) := by decide +kernel
theorem d131_66 : decode (xB 131) 66 = .ok (.iload_n 1, 1) := by decide +kernel
theorem d131_67 : decode (xB 131) 67 = .ok (.iaload, 1) := by decide +kernel
theorem d131_68 : decode (xB 131) 68 = .ok (.if_icmp .ge 53, 3) := by decide +kernel
theorem d131_71 : decode (xB 131) 71 = .ok (.aload_n 0, 1) := by decide +kernel
theorem d131_72 : decode (xB 131) 72 = .ok (.getfield 30, 3) := by decide +kernel
theorem d131_75 : decode (xB 131) 75 = .ok (.getfield 344, 3) := by decide +kernel
theorem d131_78 : decode (xB 131) 78 = .ok (.iload_n 1, 1) := by decide +kernel
theorem d131_79 : decode (xB 131) 79 = .ok (.iload 5, 2) := by decide +kernel
theorem d131_81 : decode (xB 131) 81 = .ok (.iastore, 1) := by decide +kernel
theorem d131_82 : decode (xB 131) 82 = .ok (.aload_n 0, 1) := by decide +kernel
theorem d131_83 : decode (xB 131) 83 = .ok (.aload_n 0, 1) := by decide +kernel
theorem d131_84 : decode (xB 131) 84 = .ok (.getfield 30, 3) := by decide +kernel
theorem d131_87 : decode (xB 131) 87 = .ok (.iload_n 2, 1) := by decide +kernel
theorem d131_88 : decode (xB 131) 88 = .ok (.invokevirtual 243, 3) := by decide +kernel
theorem d131_91 : decode (xB 131) 91 = .ok (.iload_n 3, 1) := by decide +kernel
theorem d131_92 : decode (xB 131) 92 = .ok (.iconst (-1), 1) := by decide +kernel
theorem d131_93 : decode (xB 131) 93 = .ok (.if_icmp .eq 12, 3) := by decide +kernel
theorem d131_96 : decode (xB 131) 96 = .ok (.aload_n 0, 1) := by decide +kernel
theorem d131_97 : decode (xB 131) 97 = .ok (.iload_n 1, 1) := by decide +kernel
theorem d131_98 : decode (xB 131) 98 = .ok (.invokevirtual 347, 3) := by decide +kernel
theorem d131_101 : decode (xB 131) 101 = .ok (.iload_n 3, 1) := by decide +kernel
theorem d131_102 : decode (xB 131) 102 = .ok (.if_icmp .ge 13, 3) := by decide +kernel
theorem d131_105 : decode (xB 131) 105 = .ok (.aload_n 0, 1) := by decide +kernel
theorem d131_106 : decode (xB 131) 106 = .ok (.iload_n 1, 1) := by decide +kernel
theorem d131_107 : decode (xB 131) 107 = .ok (.invokevirtual 347, 3) := by decide +kernel
theorem d131_110 : decode (xB 131) 110 = .ok (.istore_n 3, 1) := by decide +kernel
theorem d131_111 : decode (xB 131) 111 = .ok (.iload 5, 2) := by decide +kernel
theorem d131_113 : decode (xB 131) 113 = .ok (.istore 4, 2) := by decide +kernel
theorem d131_115 : decode (xB 131) 115 = .ok (.iinc 5 1, 3) := by decide +kernel
theorem d131_118 : decode (xB 131) 118 = .ok (.goto (-61), 3) := by decide +kernel
theorem d131_121 : decode (xB 131) 121 = .ok (.aload_n 0, 1) := by decide +kernel
theorem d131_122 : decode (xB 131) 122 = .ok (.getfield 19, 3) := by decide +kernel
theorem d131_125 : decode (xB 131) 125 = .ok (.invokevirtual 213, 3) := by decide +kernel
theorem d131_128 : decode (xB 131) 128 = .ok (.aload_n 0, 1) := by decide +kernel
theorem d131_129 : decode (xB 131) 129 = .ok (.getfield 19, 3) := by decide +kernel
theorem d131_132 : decode (xB 131) 132 = .ok (.iload 4, 2) := by decide +kernel
theorem d131_134 : decode (xB 131) 134 = .ok (.invokevirtual 222, 3) := by decide +kernel
theorem d131_137 : decode (xB 131) 137 = .ok (.iload_n 3, 1) := by decide +kernel
theorem d131_138 : decode (xB 131) 138 = .ok (.ireturn, 1) := by decide +kernel
theorem b131_0 {d : Nat} {P : xPr} {Q : xQr} {r : Nat} {mem : Nat → Nat → Int32} (hP : Cl d none 131 P Q) {p0 : Int32} {p1 : Int32}
    (k : xCall d 83 [.ref 5, .int p0] (LAY, RFu r, mem) (Bk P 5 [.ref 0, .int p0, .int p1, .null, .null, .null] [] (0, 0))) : P 0 [.ref 0, .int p0, .int p1, .null, .null, .null] [] (0, 0) (LAY, RFu r, mem) := by
  refine r_aload_n hP d131_0 rfl ?_
  refine r_getr (a := 5) hP d131_1 fr_11_26 rfl ly_0 rg_0_2 ?_
  refine r_iload_n hP d131_4 rfl ?_
  exact r_callv (As := [.int p0]) (S := []) hP d131_5 cr_11_127 (by decide +kernel) rfl (by simp [Value.category]) rfl ly_5 (by simp [Value.category]) ⟨Nat.zero_le _, Nat.zero_le _⟩ k
theorem b131_8 {d : Nat} {P : xPr} {Q : xQr} {r : Nat} {mem : Nat → Nat → Int32} (hP : Cl d none 131 P Q) {x1 : Int32} {x2 : Int32} {v3 : Value} {v4 : Value} {v5 : Value} {y0 : Int32}
    (kt : y0 = 0 → P 21 [.ref 0, .int x1, .int x2, v3, v4, v5] [] (0, 0) (LAY, RFu r, mem)) (kf : ¬ y0 = 0 → P 11 [.ref 0, .int x1, .int x2, v3, v4, v5] [] (0, 0) (LAY, RFu r, mem)) : P 8 [.ref 0, .int x1, .int x2, v3, v4, v5] [.int y0] (0, 0) (LAY, RFu r, mem) := by
  exact r_if (t := 21) hP d131_8 (by decide) kt kf
theorem b131_11 {d : Nat} {P : xPr} {Q : xQr} {r : Nat} {mem : Nat → Nat → Int32} (hP : Cl d none 131 P Q) {x1 : Int32} {x2 : Int32} {v3 : Value} {v4 : Value} {v5 : Value}
    (k : xCall d 151 [.int x2, .int (nI 0), .int (nI 100)] (LAY, RFu r, mem) (Bk P 15 [.ref 0, .int x1, .int x2, v3, v4, v5] [] (0, 0))) : P 11 [.ref 0, .int x1, .int x2, v3, v4, v5] [] (0, 0) (LAY, RFu r, mem) := by
  refine r_iload_n hP d131_11 rfl ?_
  refine r_iconst (v := nI 0) hP d131_12 rfl ?_
  refine r_bipush (v := nI 100) hP d131_13 rfl ?_
  exact r_calls (As := [.int x2, .int (nI 0), .int (nI 100)]) (S := []) hP d131_15 cr_11_185 (by decide +kernel) rfl (by simp [Value.category]) rfl (by simp [Value.category]) ⟨Nat.zero_le _, Nat.zero_le _⟩ k
theorem b131_18 {d : Nat} {P : xPr} {Q : xQr} {r : Nat} {mem : Nat → Nat → Int32} (hP : Cl d none 131 P Q) {x1 : Int32} {x2 : Int32} {v3 : Value} {v4 : Value} {v5 : Value} {y0 : Int32}
    (kt : ¬ y0 = 0 → P 23 [.ref 0, .int x1, .int x2, v3, v4, v5] [] (0, 0) (LAY, RFu r, mem)) (kf : y0 = 0 → P 21 [.ref 0, .int x1, .int x2, v3, v4, v5] [] (0, 0) (LAY, RFu r, mem)) : P 18 [.ref 0, .int x1, .int x2, v3, v4, v5] [.int y0] (0, 0) (LAY, RFu r, mem) := by
  exact r_if (t := 23) hP d131_18 (by decide) kt (fun q => kf (Decidable.of_not_not q))
theorem b131_21 {d : Nat} {P : xPr} {Q : xQr} {r : Nat} {mem : Nat → Nat → Int32} (hP : Cl d none 131 P Q) {v0 : Value} {v1 : Value} {v2 : Value} {v3 : Value} {v4 : Value} {v5 : Value}
    (k : Q (some (.int (-1))) (LAY, RFu r, mem)) : P 21 [v0, v1, v2, v3, v4, v5] [] (0, 0) (LAY, RFu r, mem) := by
  refine r_iconst (v := (-1)) hP d131_21 rfl ?_
  exact r_iret hP d131_22 rfl k
theorem b131_23 {d : Nat} {P : xPr} {Q : xQr} {r : Nat} {mem : Nat → Nat → Int32} (hP : Cl d none 131 P Q) {x1 : Int32} {x2 : Int32} {v3 : Value} {v4 : Value} {v5 : Value} (hi31 : vp_in x1 8)
    (kt : ¬ (mem 18 x1.toNatClampNeg) = 0 → P 38 [.ref 0, .int x1, .int x2, v3, v4, v5] [] (0, 0) (LAY, RFu r, mem)) (kf : (mem 18 x1.toNatClampNeg) = 0 → P 35 [.ref 0, .int x1, .int x2, v3, v4, v5] [] (0, 0) (LAY, RFu r, mem)) : P 23 [.ref 0, .int x1, .int x2, v3, v4, v5] [] (0, 0) (LAY, RFu r, mem) := by
  refine r_aload_n hP d131_23 rfl ?_
  refine r_getr (a := 5) hP d131_24 fr_11_26 rfl ly_0 rg_0_2 ?_
  refine r_getr (a := 18) hP d131_27 fr_11_341 rfl ly_5 rg_5_6 ?_
  refine r_iload_n hP d131_30 rfl ?_
  refine r_iaload hP d131_31 ly_18 hi31 ?_
  exact r_if (t := 38) hP d131_32 (by decide) kt (fun q => kf (Decidable.of_not_not q))
theorem b131_35 {d : Nat} {P : xPr} {Q : xQr} {r : Nat} {mem : Nat → Nat → Int32} (hP : Cl d none 131 P Q) {v0 : Value} {v1 : Value} {v2 : Value} {v3 : Value} {v4 : Value} {v5 : Value}
    (k : Q (some (.int (-2))) (LAY, RFu r, mem)) : P 35 [v0, v1, v2, v3, v4, v5] [] (0, 0) (LAY, RFu r, mem) := by
  refine r_bipush (v := (-2)) hP d131_35 rfl ?_
  exact r_iret hP d131_37 rfl k
theorem b131_38 {d : Nat} {P : xPr} {Q : xQr} {r : Nat} {mem : Nat → Nat → Int32} (hP : Cl d none 131 P Q) {x1 : Int32} {x2 : Int32} {v3 : Value} {v4 : Value} {v5 : Value}
    (k : xCall d 88 [.ref 26, .ref 5] (LAY, RFu r, mem) (Bk P 51 [.ref 0, .int x1, .int x2, .int (-1), .int (nI 0), v5] [] (0, 0))) : P 38 [.ref 0, .int x1, .int x2, v3, v4, v5] [] (0, 0) (LAY, RFu r, mem) := by
  refine r_iconst (v := (-1)) hP d131_38 rfl ?_
  refine r_istore_n (L' := [.ref 0, .int x1, .int x2, .int (-1), v4, v5]) hP d131_39 (Nat.le_of_ble_eq_true rfl) rfl ?_
  refine r_iconst (v := nI 0) hP d131_40 rfl ?_
  refine r_istore (L' := [.ref 0, .int x1, .int x2, .int (-1), .int (nI 0), v5]) hP d131_41 (Nat.le_of_ble_eq_true rfl) rfl ?_
  refine r_aload_n hP d131_43 rfl ?_
  refine r_getr (a := 26) hP d131_44 fr_11_30 rfl ly_0 rg_0_3 ?_
  refine r_aload_n hP d131_47 rfl ?_
  refine r_getr (a := 5) hP d131_48 fr_11_26 rfl ly_0 rg_0_2 ?_
  exact r_callv (As := [.ref 5]) (S := []) hP d131_51 cr_11_316 (by decide +kernel) rfl (by simp [Value.category]) rfl ly_26 (by simp [Value.category]) ⟨Nat.zero_le _, Nat.zero_le _⟩ k
theorem b131_54 {d : Nat} {P : xPr} {Q : xQr} {r : Nat} {mem : Nat → Nat → Int32} (hP : Cl d none 131 P Q) {x1 : Int32} {x2 : Int32} {x3 : Int32} {x4 : Int32} {v5 : Value}
    (k : P 57 [.ref 0, .int x1, .int x2, .int x3, .int x4, .int (nI 0)] [] (0, 0) (LAY, RFu r, mem)) : P 54 [.ref 0, .int x1, .int x2, .int x3, .int x4, v5] [] (0, 0) (LAY, RFu r, mem) := by
  refine r_iconst (v := nI 0) hP d131_54 rfl ?_
  refine r_istore (L' := [.ref 0, .int x1, .int x2, .int x3, .int x4, .int (nI 0)]) hP d131_55 (Nat.le_of_ble_eq_true rfl) rfl ?_
  exact k
theorem b131_57 {d : Nat} {P : xPr} {Q : xQr} {r : Nat} {mem : Nat → Nat → Int32} (hP : Cl d none 131 P Q) {x1 : Int32} {x2 : Int32} {x3 : Int32} {x4 : Int32} {x5 : Int32} (hi67 : vp_in x1 8)
    (kt : (mem 18 x1.toNatClampNeg) ≤ x5 → P 121 [.ref 0, .int x1, .int x2, .int x3, .int x4, .int x5] [] (0, 0) (LAY, RFu r, mem)) (kf : ¬ (mem 18 x1.toNatClampNeg) ≤ x5 → P 71 [.ref 0, .int x1, .int x2, .int x3, .int x4, .int x5] [] (0, 0) (LAY, RFu r, mem)) : P 57 [.ref 0, .int x1, .int x2, .int x3, .int x4, .int x5] [] (0, 0) (LAY, RFu r, mem) := by
  refine r_iload hP d131_57 rfl ?_
  refine r_aload_n hP d131_59 rfl ?_
  refine r_getr (a := 5) hP d131_60 fr_11_26 rfl ly_0 rg_0_2 ?_
  refine r_getr (a := 18) hP d131_63 fr_11_341 rfl ly_5 rg_5_6 ?_
  refine r_iload_n hP d131_66 rfl ?_
  refine r_iaload hP d131_67 ly_18 hi67 ?_
  exact r_icmp (t := 121) hP d131_68 (by decide) kt kf
theorem b131_71 {d : Nat} {P : xPr} {Q : xQr} {r : Nat} {mem : Nat → Nat → Int32} (hP : Cl d none 131 P Q) {x1 : Int32} {x2 : Int32} {x3 : Int32} {x4 : Int32} {x5 : Int32} (hi81 : vp_in x1 8)
    (k : xCall d 153 [.ref 0, .ref 26, .int x2] (LAY, RFu r, xu2 mem 40 x1.toNatClampNeg x5) (Bk P 88 [.ref 0, .int x1, .int x2, .int x3, .int x4, .int x5] [] (0, 0))) : P 71 [.ref 0, .int x1, .int x2, .int x3, .int x4, .int x5] [] (0, 0) (LAY, RFu r, mem) := by
  refine r_aload_n hP d131_71 rfl ?_
  refine r_getr (a := 26) hP d131_72 fr_11_30 rfl ly_0 rg_0_3 ?_
  refine r_getr (a := 40) hP d131_75 fr_11_344 rfl ly_26 rg_26_7 ?_
  refine r_iload_n hP d131_78 rfl ?_
  refine r_iload hP d131_79 rfl ?_
  refine r_iastore hP d131_81 ly_40 hi81 ?_
  refine r_aload_n hP d131_82 rfl ?_
  refine r_aload_n hP d131_83 rfl ?_
  refine r_getr (a := 26) hP d131_84 fr_11_30 rfl ly_0 rg_0_3 ?_
  refine r_iload_n hP d131_87 rfl ?_
  exact r_callv (As := [.ref 26, .int x2]) (S := []) hP d131_88 cr_11_243 (by decide +kernel) rfl (by simp [Value.category]) rfl ly_0 (by simp [Value.category]) ⟨Nat.zero_le _, Nat.zero_le _⟩ k
theorem b131_91 {d : Nat} {P : xPr} {Q : xQr} {r : Nat} {mem : Nat → Nat → Int32} (hP : Cl d none 131 P Q) {x1 : Int32} {x2 : Int32} {x3 : Int32} {x4 : Int32} {x5 : Int32}
    (kt : x3 = (-1) → P 105 [.ref 0, .int x1, .int x2, .int x3, .int x4, .int x5] [] (0, 0) (LAY, RFu r, mem)) (kf : ¬ x3 = (-1) → P 96 [.ref 0, .int x1, .int x2, .int x3, .int x4, .int x5] [] (0, 0) (LAY, RFu r, mem)) : P 91 [.ref 0, .int x1, .int x2, .int x3, .int x4, .int x5] [] (0, 0) (LAY, RFu r, mem) := by
  refine r_iload_n hP d131_91 rfl ?_
  refine r_iconst (v := (-1)) hP d131_92 rfl ?_
  exact r_icmp (t := 105) hP d131_93 (by decide) kt kf
theorem b131_96 {d : Nat} {P : xPr} {Q : xQr} {r : Nat} {mem : Nat → Nat → Int32} (hP : Cl d none 131 P Q) {x1 : Int32} {x2 : Int32} {x3 : Int32} {x4 : Int32} {x5 : Int32}
    (k : xCall d 154 [.ref 0, .int x1] (LAY, RFu r, mem) (Bk P 98 [.ref 0, .int x1, .int x2, .int x3, .int x4, .int x5] [] (0, 0))) : P 96 [.ref 0, .int x1, .int x2, .int x3, .int x4, .int x5] [] (0, 0) (LAY, RFu r, mem) := by
  refine r_aload_n hP d131_96 rfl ?_
  refine r_iload_n hP d131_97 rfl ?_
  exact r_callv (As := [.int x1]) (S := []) hP d131_98 cr_11_347 (by decide +kernel) rfl (by simp [Value.category]) rfl ly_0 (by simp [Value.category]) ⟨Nat.zero_le _, Nat.zero_le _⟩ k
theorem b131_101 {d : Nat} {P : xPr} {Q : xQr} {r : Nat} {mem : Nat → Nat → Int32} (hP : Cl d none 131 P Q) {x1 : Int32} {x2 : Int32} {x3 : Int32} {x4 : Int32} {x5 : Int32} {y0 : Int32}
    (kt : x3 ≤ y0 → P 115 [.ref 0, .int x1, .int x2, .int x3, .int x4, .int x5] [] (0, 0) (LAY, RFu r, mem)) (kf : ¬ x3 ≤ y0 → P 105 [.ref 0, .int x1, .int x2, .int x3, .int x4, .int x5] [] (0, 0) (LAY, RFu r, mem)) : P 101 [.ref 0, .int x1, .int x2, .int x3, .int x4, .int x5] [.int y0] (0, 0) (LAY, RFu r, mem) := by
  refine r_iload_n hP d131_101 rfl ?_
  exact r_icmp (t := 115) hP d131_102 (by decide) kt kf
theorem b131_105 {d : Nat} {P : xPr} {Q : xQr} {r : Nat} {mem : Nat → Nat → Int32} (hP : Cl d none 131 P Q) {x1 : Int32} {x2 : Int32} {v3 : Value} {v4 : Value} {x5 : Int32}
    (k : xCall d 154 [.ref 0, .int x1] (LAY, RFu r, mem) (Bk P 107 [.ref 0, .int x1, .int x2, v3, v4, .int x5] [] (0, 0))) : P 105 [.ref 0, .int x1, .int x2, v3, v4, .int x5] [] (0, 0) (LAY, RFu r, mem) := by
  refine r_aload_n hP d131_105 rfl ?_
  refine r_iload_n hP d131_106 rfl ?_
  exact r_callv (As := [.int x1]) (S := []) hP d131_107 cr_11_347 (by decide +kernel) rfl (by simp [Value.category]) rfl ly_0 (by simp [Value.category]) ⟨Nat.zero_le _, Nat.zero_le _⟩ k
theorem b131_110 {d : Nat} {P : xPr} {Q : xQr} {r : Nat} {mem : Nat → Nat → Int32} (hP : Cl d none 131 P Q) {x1 : Int32} {x2 : Int32} {v3 : Value} {v4 : Value} {x5 : Int32} {y0 : Int32}
    (k : P 115 [.ref 0, .int x1, .int x2, .int y0, .int x5, .int x5] [] (0, 0) (LAY, RFu r, mem)) : P 110 [.ref 0, .int x1, .int x2, v3, v4, .int x5] [.int y0] (0, 0) (LAY, RFu r, mem) := by
  refine r_istore_n (L' := [.ref 0, .int x1, .int x2, .int y0, v4, .int x5]) hP d131_110 (Nat.le_of_ble_eq_true rfl) rfl ?_
  refine r_iload hP d131_111 rfl ?_
  refine r_istore (L' := [.ref 0, .int x1, .int x2, .int y0, .int x5, .int x5]) hP d131_113 (Nat.le_of_ble_eq_true rfl) rfl ?_
  exact k
theorem b131_115 {d : Nat} {P : xPr} {Q : xQr} {r : Nat} {mem : Nat → Nat → Int32} (hP : Cl d none 131 P Q) {x1 : Int32} {x2 : Int32} {x3 : Int32} {x4 : Int32} {x5 : Int32}
    (k : P 57 [.ref 0, .int x1, .int x2, .int x3, .int x4, .int (x5 + nI 1)] [] (0, 0) (LAY, RFu r, mem)) : P 115 [.ref 0, .int x1, .int x2, .int x3, .int x4, .int x5] [] (0, 0) (LAY, RFu r, mem) := by
  refine r_iinc (v := nI 1) (L' := [.ref 0, .int x1, .int x2, .int x3, .int x4, .int (x5 + nI 1)]) hP d131_115 rfl rfl rfl ?_
  refine r_goto (t := 57) hP d131_118 (by decide) ?_
  exact k
theorem b131_121 {d : Nat} {P : xPr} {Q : xQr} {r : Nat} {mem : Nat → Nat → Int32} (hP : Cl d none 131 P Q) {v1 : Value} {v2 : Value} {x3 : Int32} {x4 : Int32} {v5 : Value}
    (k : xCall d 31 [.ref 3] (LAY, RFu r, mem) (Bk P 125 [.ref 0, v1, v2, .int x3, .int x4, v5] [] (0, 0))) : P 121 [.ref 0, v1, v2, .int x3, .int x4, v5] [] (0, 0) (LAY, RFu r, mem) := by
  refine r_aload_n hP d131_121 rfl ?_
  refine r_getr (a := 3) hP d131_122 fr_11_19 rfl ly_0 rg_0_1 ?_
  exact r_callv (As := []) (S := []) hP d131_125 cr_11_213 (by decide +kernel) rfl (by simp) rfl ly_3 (by simp [Value.category]) ⟨Nat.zero_le _, Nat.zero_le _⟩ k
theorem b131_128 {d : Nat} {P : xPr} {Q : xQr} {r : Nat} {mem : Nat → Nat → Int32} (hP : Cl d none 131 P Q) {v1 : Value} {v2 : Value} {x3 : Int32} {x4 : Int32} {v5 : Value}
    (k : xCall d 32 [.ref 3, .int x4] (LAY, RFu r, mem) (Bk P 134 [.ref 0, v1, v2, .int x3, .int x4, v5] [] (0, 0))) : P 128 [.ref 0, v1, v2, .int x3, .int x4, v5] [] (0, 0) (LAY, RFu r, mem) := by
  refine r_aload_n hP d131_128 rfl ?_
  refine r_getr (a := 3) hP d131_129 fr_11_19 rfl ly_0 rg_0_1 ?_
  refine r_iload hP d131_132 rfl ?_
  exact r_callv (As := [.int x4]) (S := []) hP d131_134 cr_11_222 (by decide +kernel) rfl (by simp [Value.category]) rfl ly_3 (by simp [Value.category]) ⟨Nat.zero_le _, Nat.zero_le _⟩ k
theorem b131_137 {d : Nat} {P : xPr} {Q : xQr} {r : Nat} {mem : Nat → Nat → Int32} (hP : Cl d none 131 P Q) {v0 : Value} {v1 : Value} {v2 : Value} {x3 : Int32} {v4 : Value} {v5 : Value}
    (k : Q (some (.int x3)) (LAY, RFu r, mem)) : P 137 [v0, v1, v2, .int x3, v4, v5] [] (0, 0) (LAY, RFu r, mem) := by
  refine r_iload_n hP d131_137 rfl ?_
  exact r_iret hP d131_138 rfl k
theorem d132_0 : decode (xB 132) 0 = .ok (.iload_n 1, 1) := by decide +kernel
theorem d132_1 : decode (xB 132) 1 = .ok (.iconst 1, 1) := by decide +kernel
theorem d132_2 : decode (xB 132) 2 = .ok (.bipush 100, 2) := by decide +kernel
theorem d132_4 : decode (xB 132) 4 = .ok (.invokestatic 185, 3) := by decide +kernel
theorem d132_7 : decode (xB 132) 7 = .ok (.ifCond .ne 5, 3) := by decide +kernel
theorem d132_10 : decode (xB 132) 10 = .ok (.iconst (-1), 1) := by decide +kernel
theorem d132_11 : decode (xB 132) 11 = .ok (.ireturn, 1) := by decide +kernel
theorem d132_12 : decode (xB 132) 12 = .ok (.aload_n 0, 1) := by decide +kernel
theorem d132_13 : decode (xB 132) 13 = .ok (.getfield 26, 3) := by decide +kernel
theorem d132_16 : decode (xB 132) 16 = .ok (.getfield 313, 3) := by decide +kernel
theorem d132_19 : decode (xB 132) 19 = .ok (.ifCond .ne 6, 3) := by decide +kernel
theorem d132_22 : decode (xB 132) 22 = .ok (.bipush (-2), 2) := by decide +kernel
theorem d132_24 : decode (xB 132) 24 = .ok (.ireturn, 1) := by decide +kernel
theorem d132_25 : decode (xB 132) 25 = .ok (.iconst (-1), 1) := by decide +kernel
theorem d132_26 : decode (xB 132) 26 = .ok (.istore_n 2, 1) := by decide +kernel
theorem d132_27 : decode (xB 132) 27 = .ok (.aload_n 0, 1) := by decide +kernel
theorem d132_28 : decode (xB 132) 28 = .ok (.getfield 36, 3) := by decide +kernel
theorem d132_31 : decode (xB 132) 31 = .ok (.getfield 171, 3) := by decide +kernel
theorem d132_34 : decode (xB 132) 34 = .ok (.bipush 120, 2) := by decide +kernel
theorem d132_36 : decode (xB 132) 36 = .ok (.iaload, 1) := by decide +kernel
theorem d132_37 : decode (xB 132) 37 = .ok (.istore_n 3, 1) := by decide +kernel
theorem d132_38 : decode (xB 132) 38 = .ok (.iconst 1, 1) := by decide +kernel
theorem d132_39 : decode (xB 132) 39 = .ok (.istore 4, 2) := by decide +kernel
theorem d132_41 : decode (xB 132) 41 = .ok (.iload 4, 2) := by decide +kernel
theorem d132_43 : decode (xB 132) 43 = .ok (.iload_n 1, 1) := by decide +kernel
theorem d132_44 : decode (xB 132) 44 = .ok (.if_icmp .gt 81, 3) := by decide +kernel
theorem d132_47 : decode (xB 132) 47 = .ok (.iconst 0, 1) := by decide +kernel
theorem d132_48 : decode (xB 132) 48 = .ok (.istore 5, 2) := by decide +kernel
theorem d132_50 : decode (xB 132) 50 = .ok (.iload 5, 2) := by decide +kernel
theorem d132_52 : decode (xB 132) 52 = .ok (.aload_n 0, 1) := by decide +kernel
theorem d132_53 : decode (xB 132) 53 = .ok (.getfield 26, 3) := by decide +kernel
theorem d132_56 : decode (xB 132) 56 = .ok (.getfield 313, 3) := by decide +kernel
theorem d132_59 : decode (xB 132) 59 = .ok (.if_icmp .ge 60, 3) := by decide +kernel
theorem d132_62 : decode (xB 132) 62 = .ok (.aload_n 0, 1) := by decide +kernel
theorem d132_63 : decode (xB 132) 63 = .ok (.getfield 26, 3) := by decide +kernel
theorem d132_66 : decode (xB 132) 66 = .ok (.iload 5, 2) := by decide +kernel
theorem d132_68 : decode (xB 132) 68 = .ok (.iload_n 3, 1) := by decide +kernel
theorem d132_69 : decode (xB 132) 69 = .ok (.iload 4, 2) := by decide +kernel
theorem d132_71 : decode (xB 132) 71 = .ok (.iadd, 1) := by decide +kernel
theorem d132_72 : decode (xB 132) 72 = .ok (.iconst 1, 1) := by decide +kernel
theorem d132_73 : decode (xB 132) 73 = .ok (.isub, 1) := by decide +kernel
theorem d132_74 : decode (xB 132) 74 = .ok (.invokevirtual 350, 3) := by decide +kernel
theorem d132_77 : decode (xB 132) 77 = .ok (.istore 6, 2) := by decide +kernel
theorem d132_79 : decode (xB 132) 79 = .ok (.iload 6, 2) := by decide +kernel
theorem d132_81 : decode (xB 132) 81 = .ok (.iload_n 2, 1) := by decide +kernel
theorem d132_82 : decode (xB 132) 82 = .ok (.if_icmp .le 31, 3) := by decide +kernel
theorem d132_85 : decode (xB 132) 85 = .ok (.iload 6, 2) := by decide +kernel
theorem d132_87 : decode (xB 132) 87 = .ok (.istore_n 2, 1) := by decide +kernel
theorem d132_88 : decode (xB 132) 88 = .ok (.aload_n 0, 1) := by decide +kernel
theorem d132_89 : decode (xB 132) 89 = .ok (.getfield 19, 3) := by decide +kernel
theorem d132_92 : decode (xB 132) 92 = .ok (.invokevirtual 213, 3) := by decide +kernel
theorem d132_95 : decode (xB 132) 95 = .ok (.aload_n 0, 1) := by decide +kernel
theorem d132_96 : decode (xB 132) 96 = .ok (.getfield 19, 3) := by decide +kernel
theorem d132_99 : decode (xB 132) 99 = .ok (.iload 4, 2) := by decide +kernel
theorem d132_101 : decode (xB 132) 101 = .ok (.invokevirtual 222, 3) := by decide +kernel
theorem d132_104 : decode (xB 132) 104 = .ok (.aload_n 0, 1) := by decide +kernel
theorem d132_105 : decode (xB 132) 105 = .ok (.getfield 19, 3) := by decide +kernel
theorem d132_108 : decode (xB 132) 108 = .ok (.iload 5, 2) := by decide +kernel
theorem d132_110 : decode (xB 132) 110 = .ok (.invokevirtual 222, 3) := by decide +kernel
theorem d132_113 : decode (xB 132) 113 = .ok (.iinc 5 1, 3) := by decide +kernel
theorem d132_116 : decode (xB 132) 116 = .ok (.goto (-66), 3) := by decide +kernel
theorem d132_119 : decode (xB 132) 119 = .ok (.iinc 4 1, 3) := by decide +kernel
theorem d132_122 : decode (xB 132) 122 = .ok (.goto (-81), 3) := by decide +kernel
theorem d132_125 : decode (xB 132) 125 = .ok (.iload_n 2, 1) := by decide +kernel
theorem d132_126 : decode (xB 132) 126 = .ok (.ireturn, 1) := by decide +kernel
theorem b132_0 {d : Nat} {P : xPr} {Q : xQr} {r : Nat} {mem : Nat → Nat → Int32} (hP : Cl d none 132 P Q) {p0 : Int32}
    (k : xCall d 151 [.int p0, .int (nI 1), .int (nI 100)] (LAY, RFu r, mem) (Bk P 4 [.ref 0, .int p0, .null, .null, .null, .null, .null] [] (0, 0))) : P 0 [.ref 0, .int p0, .null, .null, .null, .null, .null] [] (0, 0) (LAY, RFu r, mem) := by
  refine r_iload_n hP d132_0 rfl ?_
  refine r_iconst (v := nI 1) hP d132_1 rfl ?_
  refine r_bipush (v := nI 100) hP d132_2 rfl ?_
  exact r_calls (As := [.int p0, .int (nI 1), .int (nI 100)]) (S := []) hP d132_4 cr_11_185 (by decide +kernel) rfl (by simp [Value.category]) rfl (by simp [Value.category]) ⟨Nat.zero_le _, Nat.zero_le _⟩ k
theorem b132_7 {d : Nat} {P : xPr} {Q : xQr} {r : Nat} {mem : Nat → Nat → Int32} (hP : Cl d none 132 P Q) {x1 : Int32} {v2 : Value} {v3 : Value} {v4 : Value} {v5 : Value} {v6 : Value} {y0 : Int32}
    (kt : ¬ y0 = 0 → P 12 [.ref 0, .int x1, v2, v3, v4, v5, v6] [] (0, 0) (LAY, RFu r, mem)) (kf : y0 = 0 → P 10 [.ref 0, .int x1, v2, v3, v4, v5, v6] [] (0, 0) (LAY, RFu r, mem)) : P 7 [.ref 0, .int x1, v2, v3, v4, v5, v6] [.int y0] (0, 0) (LAY, RFu r, mem) := by
  exact r_if (t := 12) hP d132_7 (by decide) kt (fun q => kf (Decidable.of_not_not q))
theorem b132_10 {d : Nat} {P : xPr} {Q : xQr} {r : Nat} {mem : Nat → Nat → Int32} (hP : Cl d none 132 P Q) {v0 : Value} {v1 : Value} {v2 : Value} {v3 : Value} {v4 : Value} {v5 : Value} {v6 : Value}
    (k : Q (some (.int (-1))) (LAY, RFu r, mem)) : P 10 [v0, v1, v2, v3, v4, v5, v6] [] (0, 0) (LAY, RFu r, mem) := by
  refine r_iconst (v := (-1)) hP d132_10 rfl ?_
  exact r_iret hP d132_11 rfl k
theorem b132_12 {d : Nat} {P : xPr} {Q : xQr} {r : Nat} {mem : Nat → Nat → Int32} (hP : Cl d none 132 P Q) {x1 : Int32} {v2 : Value} {v3 : Value} {v4 : Value} {v5 : Value} {v6 : Value}
    (kt : ¬ (mem 5 0) = 0 → P 25 [.ref 0, .int x1, v2, v3, v4, v5, v6] [] (0, 0) (LAY, RFu r, mem)) (kf : (mem 5 0) = 0 → P 22 [.ref 0, .int x1, v2, v3, v4, v5, v6] [] (0, 0) (LAY, RFu r, mem)) : P 12 [.ref 0, .int x1, v2, v3, v4, v5, v6] [] (0, 0) (LAY, RFu r, mem) := by
  refine r_aload_n hP d132_12 rfl ?_
  refine r_getr (a := 5) hP d132_13 fr_11_26 rfl ly_0 rg_0_2 ?_
  refine r_geti hP d132_16 fr_11_313 rfl ly_5 ?_
  exact r_if (t := 25) hP d132_19 (by decide) kt (fun q => kf (Decidable.of_not_not q))
theorem b132_22 {d : Nat} {P : xPr} {Q : xQr} {r : Nat} {mem : Nat → Nat → Int32} (hP : Cl d none 132 P Q) {v0 : Value} {v1 : Value} {v2 : Value} {v3 : Value} {v4 : Value} {v5 : Value} {v6 : Value}
    (k : Q (some (.int (-2))) (LAY, RFu r, mem)) : P 22 [v0, v1, v2, v3, v4, v5, v6] [] (0, 0) (LAY, RFu r, mem) := by
  refine r_bipush (v := (-2)) hP d132_22 rfl ?_
  exact r_iret hP d132_24 rfl k
theorem b132_25 {d : Nat} {P : xPr} {Q : xQr} {r : Nat} {mem : Nat → Nat → Int32} (hP : Cl d none 132 P Q) {x1 : Int32} {v2 : Value} {v3 : Value} {v4 : Value} {v5 : Value} {v6 : Value} (hi36 : vp_in (nI 120) 121)
    (k : P 41 [.ref 0, .int x1, .int (-1), .int (mem 48 (nI 120).toNatClampNeg), .int (nI 1), v5, v6] [] (0, 0) (LAY, RFu r, mem)) : P 25 [.ref 0, .int x1, v2, v3, v4, v5, v6] [] (0, 0) (LAY, RFu r, mem) := by
  refine r_iconst (v := (-1)) hP d132_25 rfl ?_
  refine r_istore_n (L' := [.ref 0, .int x1, .int (-1), v3, v4, v5, v6]) hP d132_26 (Nat.le_of_ble_eq_true rfl) rfl ?_
  refine r_aload_n hP d132_27 rfl ?_
  refine r_getr (a := 47) hP d132_28 fr_11_36 rfl ly_0 rg_0_4 ?_
  refine r_getr (a := 48) hP d132_31 fr_11_171 rfl ly_47 rg_47_0 ?_
  refine r_bipush (v := nI 120) hP d132_34 rfl ?_
  refine r_iaload hP d132_36 ly_48 hi36 ?_
  refine r_istore_n (L' := [.ref 0, .int x1, .int (-1), .int (mem 48 (nI 120).toNatClampNeg), v4, v5, v6]) hP d132_37 (Nat.le_of_ble_eq_true rfl) rfl ?_
  refine r_iconst (v := nI 1) hP d132_38 rfl ?_
  refine r_istore (L' := [.ref 0, .int x1, .int (-1), .int (mem 48 (nI 120).toNatClampNeg), .int (nI 1), v5, v6]) hP d132_39 (Nat.le_of_ble_eq_true rfl) rfl ?_
  exact k
theorem b132_41 {d : Nat} {P : xPr} {Q : xQr} {r : Nat} {mem : Nat → Nat → Int32} (hP : Cl d none 132 P Q) {x1 : Int32} {x2 : Int32} {x3 : Int32} {x4 : Int32} {v5 : Value} {v6 : Value}
    (kt : x1 < x4 → P 125 [.ref 0, .int x1, .int x2, .int x3, .int x4, v5, v6] [] (0, 0) (LAY, RFu r, mem)) (kf : ¬ x1 < x4 → P 47 [.ref 0, .int x1, .int x2, .int x3, .int x4, v5, v6] [] (0, 0) (LAY, RFu r, mem)) : P 41 [.ref 0, .int x1, .int x2, .int x3, .int x4, v5, v6] [] (0, 0) (LAY, RFu r, mem) := by
  refine r_iload hP d132_41 rfl ?_
  refine r_iload_n hP d132_43 rfl ?_
  exact r_icmp (t := 125) hP d132_44 (by decide) kt kf
theorem b132_47 {d : Nat} {P : xPr} {Q : xQr} {r : Nat} {mem : Nat → Nat → Int32} (hP : Cl d none 132 P Q) {x1 : Int32} {x2 : Int32} {x3 : Int32} {x4 : Int32} {v5 : Value} {v6 : Value}
    (k : P 50 [.ref 0, .int x1, .int x2, .int x3, .int x4, .int (nI 0), v6] [] (0, 0) (LAY, RFu r, mem)) : P 47 [.ref 0, .int x1, .int x2, .int x3, .int x4, v5, v6] [] (0, 0) (LAY, RFu r, mem) := by
  refine r_iconst (v := nI 0) hP d132_47 rfl ?_
  refine r_istore (L' := [.ref 0, .int x1, .int x2, .int x3, .int x4, .int (nI 0), v6]) hP d132_48 (Nat.le_of_ble_eq_true rfl) rfl ?_
  exact k
theorem b132_50 {d : Nat} {P : xPr} {Q : xQr} {r : Nat} {mem : Nat → Nat → Int32} (hP : Cl d none 132 P Q) {x1 : Int32} {x2 : Int32} {x3 : Int32} {x4 : Int32} {x5 : Int32} {v6 : Value}
    (kt : (mem 5 0) ≤ x5 → P 119 [.ref 0, .int x1, .int x2, .int x3, .int x4, .int x5, v6] [] (0, 0) (LAY, RFu r, mem)) (kf : ¬ (mem 5 0) ≤ x5 → P 62 [.ref 0, .int x1, .int x2, .int x3, .int x4, .int x5, v6] [] (0, 0) (LAY, RFu r, mem)) : P 50 [.ref 0, .int x1, .int x2, .int x3, .int x4, .int x5, v6] [] (0, 0) (LAY, RFu r, mem) := by
  refine r_iload hP d132_50 rfl ?_
  refine r_aload_n hP d132_52 rfl ?_
  refine r_getr (a := 5) hP d132_53 fr_11_26 rfl ly_0 rg_0_2 ?_
  refine r_geti hP d132_56 fr_11_313 rfl ly_5 ?_
  exact r_icmp (t := 119) hP d132_59 (by decide) kt kf
theorem b132_62 {d : Nat} {P : xPr} {Q : xQr} {r : Nat} {mem : Nat → Nat → Int32} (hP : Cl d none 132 P Q) {x1 : Int32} {x2 : Int32} {x3 : Int32} {x4 : Int32} {x5 : Int32} {v6 : Value}
    (k : xCall d 90 [.ref 5, .int x5, .int ((x3 + x4) - (nI 1))] (LAY, RFu r, mem) (Bk P 74 [.ref 0, .int x1, .int x2, .int x3, .int x4, .int x5, v6] [] (0, 0))) : P 62 [.ref 0, .int x1, .int x2, .int x3, .int x4, .int x5, v6] [] (0, 0) (LAY, RFu r, mem) := by
  refine r_aload_n hP d132_62 rfl ?_
  refine r_getr (a := 5) hP d132_63 fr_11_26 rfl ly_0 rg_0_2 ?_
  refine r_iload hP d132_66 rfl ?_
  refine r_iload_n hP d132_68 rfl ?_
  refine r_iload hP d132_69 rfl ?_
  refine r_iadd hP d132_71 ?_
  refine r_iconst (v := nI 1) hP d132_72 rfl ?_
  refine r_isub hP d132_73 ?_
  exact r_callv (As := [.int x5, .int ((x3 + x4) - (nI 1))]) (S := []) hP d132_74 cr_11_350 (by decide +kernel) rfl (by simp [Value.category]) rfl ly_5 (by simp [Value.category]) ⟨Nat.zero_le _, Nat.zero_le _⟩ k
theorem b132_77 {d : Nat} {P : xPr} {Q : xQr} {r : Nat} {mem : Nat → Nat → Int32} (hP : Cl d none 132 P Q) {x1 : Int32} {x2 : Int32} {x3 : Int32} {x4 : Int32} {x5 : Int32} {v6 : Value} {y0 : Int32}
    (kt : y0 ≤ x2 → P 113 [.ref 0, .int x1, .int x2, .int x3, .int x4, .int x5, .int y0] [] (0, 0) (LAY, RFu r, mem)) (kf : ¬ y0 ≤ x2 → P 85 [.ref 0, .int x1, .int x2, .int x3, .int x4, .int x5, .int y0] [] (0, 0) (LAY, RFu r, mem)) : P 77 [.ref 0, .int x1, .int x2, .int x3, .int x4, .int x5, v6] [.int y0] (0, 0) (LAY, RFu r, mem) := by
  refine r_istore (L' := [.ref 0, .int x1, .int x2, .int x3, .int x4, .int x5, .int y0]) hP d132_77 (Nat.le_of_ble_eq_true rfl) rfl ?_
  refine r_iload hP d132_79 rfl ?_
  refine r_iload_n hP d132_81 rfl ?_
  exact r_icmp (t := 113) hP d132_82 (by decide) kt kf
theorem b132_85 {d : Nat} {P : xPr} {Q : xQr} {r : Nat} {mem : Nat → Nat → Int32} (hP : Cl d none 132 P Q) {x1 : Int32} {v2 : Value} {x3 : Int32} {x4 : Int32} {x5 : Int32} {x6 : Int32}
    (k : xCall d 31 [.ref 3] (LAY, RFu r, mem) (Bk P 92 [.ref 0, .int x1, .int x6, .int x3, .int x4, .int x5, .int x6] [] (0, 0))) : P 85 [.ref 0, .int x1, v2, .int x3, .int x4, .int x5, .int x6] [] (0, 0) (LAY, RFu r, mem) := by
  refine r_iload hP d132_85 rfl ?_
  refine r_istore_n (L' := [.ref 0, .int x1, .int x6, .int x3, .int x4, .int x5, .int x6]) hP d132_87 (Nat.le_of_ble_eq_true rfl) rfl ?_
  refine r_aload_n hP d132_88 rfl ?_
  refine r_getr (a := 3) hP d132_89 fr_11_19 rfl ly_0 rg_0_1 ?_
  exact r_callv (As := []) (S := []) hP d132_92 cr_11_213 (by decide +kernel) rfl (by simp) rfl ly_3 (by simp [Value.category]) ⟨Nat.zero_le _, Nat.zero_le _⟩ k
theorem b132_95 {d : Nat} {P : xPr} {Q : xQr} {r : Nat} {mem : Nat → Nat → Int32} (hP : Cl d none 132 P Q) {x1 : Int32} {x2 : Int32} {x3 : Int32} {x4 : Int32} {x5 : Int32} {v6 : Value}
    (k : xCall d 32 [.ref 3, .int x4] (LAY, RFu r, mem) (Bk P 101 [.ref 0, .int x1, .int x2, .int x3, .int x4, .int x5, v6] [] (0, 0))) : P 95 [.ref 0, .int x1, .int x2, .int x3, .int x4, .int x5, v6] [] (0, 0) (LAY, RFu r, mem) := by
  refine r_aload_n hP d132_95 rfl ?_
  refine r_getr (a := 3) hP d132_96 fr_11_19 rfl ly_0 rg_0_1 ?_
  refine r_iload hP d132_99 rfl ?_
  exact r_callv (As := [.int x4]) (S := []) hP d132_101 cr_11_222 (by decide +kernel) rfl (by simp [Value.category]) rfl ly_3 (by simp [Value.category]) ⟨Nat.zero_le _, Nat.zero_le _⟩ k
theorem b132_104 {d : Nat} {P : xPr} {Q : xQr} {r : Nat} {mem : Nat → Nat → Int32} (hP : Cl d none 132 P Q) {x1 : Int32} {x2 : Int32} {x3 : Int32} {x4 : Int32} {x5 : Int32} {v6 : Value}
    (k : xCall d 32 [.ref 3, .int x5] (LAY, RFu r, mem) (Bk P 110 [.ref 0, .int x1, .int x2, .int x3, .int x4, .int x5, v6] [] (0, 0))) : P 104 [.ref 0, .int x1, .int x2, .int x3, .int x4, .int x5, v6] [] (0, 0) (LAY, RFu r, mem) := by
  refine r_aload_n hP d132_104 rfl ?_
  refine r_getr (a := 3) hP d132_105 fr_11_19 rfl ly_0 rg_0_1 ?_
  refine r_iload hP d132_108 rfl ?_
  exact r_callv (As := [.int x5]) (S := []) hP d132_110 cr_11_222 (by decide +kernel) rfl (by simp [Value.category]) rfl ly_3 (by simp [Value.category]) ⟨Nat.zero_le _, Nat.zero_le _⟩ k
theorem b132_113 {d : Nat} {P : xPr} {Q : xQr} {r : Nat} {mem : Nat → Nat → Int32} (hP : Cl d none 132 P Q) {x1 : Int32} {x2 : Int32} {x3 : Int32} {x4 : Int32} {x5 : Int32} {v6 : Value}
    (k : P 50 [.ref 0, .int x1, .int x2, .int x3, .int x4, .int (x5 + nI 1), v6] [] (0, 0) (LAY, RFu r, mem)) : P 113 [.ref 0, .int x1, .int x2, .int x3, .int x4, .int x5, v6] [] (0, 0) (LAY, RFu r, mem) := by
  refine r_iinc (v := nI 1) (L' := [.ref 0, .int x1, .int x2, .int x3, .int x4, .int (x5 + nI 1), v6]) hP d132_113 rfl rfl rfl ?_
  refine r_goto (t := 50) hP d132_116 (by decide) ?_
  exact k
theorem b132_119 {d : Nat} {P : xPr} {Q : xQr} {r : Nat} {mem : Nat → Nat → Int32} (hP : Cl d none 132 P Q) {x1 : Int32} {x2 : Int32} {x3 : Int32} {x4 : Int32} {v5 : Value} {v6 : Value}
    (k : P 41 [.ref 0, .int x1, .int x2, .int x3, .int (x4 + nI 1), v5, v6] [] (0, 0) (LAY, RFu r, mem)) : P 119 [.ref 0, .int x1, .int x2, .int x3, .int x4, v5, v6] [] (0, 0) (LAY, RFu r, mem) := by
  refine r_iinc (v := nI 1) (L' := [.ref 0, .int x1, .int x2, .int x3, .int (x4 + nI 1), v5, v6]) hP d132_119 rfl rfl rfl ?_
  refine r_goto (t := 41) hP d132_122 (by decide) ?_
  exact k
theorem b132_125 {d : Nat} {P : xPr} {Q : xQr} {r : Nat} {mem : Nat → Nat → Int32} (hP : Cl d none 132 P Q) {v0 : Value} {v1 : Value} {x2 : Int32} {v3 : Value} {v4 : Value} {v5 : Value} {v6 : Value}
    (k : Q (some (.int x2)) (LAY, RFu r, mem)) : P 125 [v0, v1, .int x2, v3, v4, v5, v6] [] (0, 0) (LAY, RFu r, mem) := by
  refine r_iload_n hP d132_125 rfl ?_
  exact r_iret hP d132_126 rfl k
theorem d133_0 : decode (xB 133) 0 = .ok (.iload_n 1, 1) := by decide +kernel
theorem d133_1 : decode (xB 133) 1 = .ok (.iconst 0, 1) := by decide +kernel
theorem d133_2 : decode (xB 133) 2 = .ok (.sipush 200, 3) := by decide +kernel
theorem d133_5 : decode (xB 133) 5 = .ok (.invokestatic 185, 3) := by decide +kernel
theorem d133_8 : decode (xB 133) 8 = .ok (.ifCond .ne 5, 3) := by decide +kernel
theorem d133_11 : decode (xB 133) 11 = .ok (.iconst (-1), 1) := by decide +kernel
theorem d133_12 : decode (xB 133) 12 = .ok (.ireturn, 1) := by decide +kernel
theorem d133_13 : decode (xB 133) 13 = .ok (.iconst 0, 1) := by decide +kernel
theorem d133_14 : decode (xB 133) 14 = .ok (.istore_n 2, 1) := by decide +kernel
theorem d133_15 : decode (xB 133) 15 = .ok (.iconst (-1), 1) := by decide +kernel
theorem d133_16 : decode (xB 133) 16 = .ok (.istore_n 3, 1) := by decide +kernel
theorem d133_17 : decode (xB 133) 17 = .ok (.aload_n 0, 1) := by decide +kernel
theorem d133_18 : decode (xB 133) 18 = .ok (.getfield 40, 3) := by decide +kernel
theorem d133_21 : decode (xB 133) 21 = .ok (.aload_n 0, 1) := by decide +kernel
theorem d133_22 : decode (xB 133) 22 = .ok (.getfield 36, 3) := by decide +kernel
theorem d133_25 : decode (xB 133) 25 = .ok (.invokevirtual 293, 3) := by decide +kernel
theorem d133_28 : decode (xB 133) 28 = .ok (.iconst 1, 1) := by decide +kernel
theorem d133_29 : decode (xB 133) 29 = .ok (.istore 4, 2) := by decide +kernel
theorem d133_31 : decode (xB 133) 31 = .ok (.iload 4, 2) := by decide +kernel
theorem d133_33 : decode (xB 133) 33 = .ok (.iload_n 1, 1) := by decide +kernel
theorem d133_34 : decode (xB 133) 34 = .ok (.if_icmp .gt 51, 3) := by decide +kernel
theorem d133_37 : decode (xB 133) 37 = .ok (.aload_n 0, 1) := by decide +kernel
theorem d133_38 : decode (xB 133) 38 = .ok (.getfield 46, 3) := by decide +kernel
theorem d133_41 : decode (xB 133) 41 = .ok (.aload_n 0, 1) := by decide +kernel
theorem d133_42 : decode (xB 133) 42 = .ok (.getfield 26, 3) := by decide +kernel
theorem d133_45 : decode (xB 133) 45 = .ok (.aload_n 0, 1) := by decide +kernel
theorem d133_46 : decode (xB 133) 46 = .ok (.getfield 40, 3) := by decide +kernel
theorem d133_49 : decode (xB 133) 49 = .ok (.invokevirtual 229, 3) := by decide +kernel
theorem d133_52 : decode (xB 133) 52 = .ok (.pop, 1) := by decide +kernel
theorem d133_53 : decode (xB 133) 53 = .ok (.aload_n 0, 1) := by decide +kernel
theorem d133_54 : decode (xB 133) 54 = .ok (.getfield 40, 3) := by decide +kernel
theorem d133_57 : decode (xB 133) 57 = .ok (.iconst 1, 1) := by decide +kernel
theorem d133_58 : decode (xB 133) 58 = .ok (.invokevirtual 214, 3) := by decide +kernel
theorem d133_61 : decode (xB 133) 61 = .ok (.ifCond .ne 18, 3) := by decide +kernel
theorem d133_64 : decode (xB 133) 64 = .ok (.iinc 2 1, 3) := by decide +kernel
theorem d133_67 : decode (xB 133) 67 = .ok (.iload_n 3, 1) := by decide +kernel
theorem d133_68 : decode (xB 133) 68 = .ok (.iconst (-1), 1) := by decide +kernel
theorem d133_69 : decode (xB 133) 69 = .ok (.if_icmp .ne 8, 3) := by decide +kernel
theorem d133_72 : decode (xB 133) 72 = .ok (.iload 4, 2) := by decide +kernel
theorem d133_74 : decode (xB 133) 74 = .ok (.goto 4, 3) := by decide +kernel
theorem d133_77 : decode (xB 133) 77 = .ok (.iload_n 3, 1) := by decide +kernel
theorem d133_78 : decode (xB 133) 78 = .ok (.istore_n 3, 1) := by decide +kernel
theorem d133_79 : decode (xB 133) 79 = .ok (.iinc 4 1, 3) := by decide +kernel
theorem d133_82 : decode (xB 133) 82 = .ok (.goto (-51), 3) := by decide +kernel
theorem d133_85 : decode (xB 133) 85 = .ok (.aload_n 0, 1) := by decide +kernel
theorem d133_86 : decode (xB 133) 86 = .ok (.getfield 19, 3) := by decide +kernel
theorem d133_89 : decode (xB 133) 89 = .ok (.invokevirtual 213, 3) := by decide +kernel
theorem d133_92 : decode (xB 133) 92 = .ok (.aload_n 0, 1) := by decide +kernel
theorem d133_93 : decode (xB 133) 93 = .ok (.getfield 19, 3) := by decide +kernel
theorem d133_96 : decode (xB 133) 96 = .ok (.iload_n 3, 1) := by decide +kernel
theorem d133_97 : decode (xB 133) 97 = .ok (.invokevirtual 222, 3) := by decide +kernel
theorem d133_100 : decode (xB 133) 100 = .ok (.iload_n 2, 1) := by decide +kernel
theorem d133_101 : decode (xB 133) 101 = .ok (.ireturn, 1) := by decide +kernel
theorem b133_0 {d : Nat} {P : xPr} {Q : xQr} {r : Nat} {mem : Nat → Nat → Int32} (hP : Cl d none 133 P Q) {p0 : Int32}
    (k : xCall d 151 [.int p0, .int (nI 0), .int (nI 200)] (LAY, RFu r, mem) (Bk P 5 [.ref 0, .int p0, .null, .null, .null] [] (0, 0))) : P 0 [.ref 0, .int p0, .null, .null, .null] [] (0, 0) (LAY, RFu r, mem) := by
  refine r_iload_n hP d133_0 rfl ?_
  refine r_iconst (v := nI 0) hP d133_1 rfl ?_
  refine r_sipush (v := nI 200) hP d133_2 rfl ?_
  exact r_calls (As := [.int p0, .int (nI 0), .int (nI 200)]) (S := []) hP d133_5 cr_11_185 (by decide +kernel) rfl (by simp [Value.category]) rfl (by simp [Value.category]) ⟨Nat.zero_le _, Nat.zero_le _⟩ k
theorem b133_8 {d : Nat} {P : xPr} {Q : xQr} {r : Nat} {mem : Nat → Nat → Int32} (hP : Cl d none 133 P Q) {x1 : Int32} {v2 : Value} {v3 : Value} {v4 : Value} {y0 : Int32}
    (kt : ¬ y0 = 0 → P 13 [.ref 0, .int x1, v2, v3, v4] [] (0, 0) (LAY, RFu r, mem)) (kf : y0 = 0 → P 11 [.ref 0, .int x1, v2, v3, v4] [] (0, 0) (LAY, RFu r, mem)) : P 8 [.ref 0, .int x1, v2, v3, v4] [.int y0] (0, 0) (LAY, RFu r, mem) := by
  exact r_if (t := 13) hP d133_8 (by decide) kt (fun q => kf (Decidable.of_not_not q))
theorem b133_11 {d : Nat} {P : xPr} {Q : xQr} {r : Nat} {mem : Nat → Nat → Int32} (hP : Cl d none 133 P Q) {v0 : Value} {v1 : Value} {v2 : Value} {v3 : Value} {v4 : Value}
    (k : Q (some (.int (-1))) (LAY, RFu r, mem)) : P 11 [v0, v1, v2, v3, v4] [] (0, 0) (LAY, RFu r, mem) := by
  refine r_iconst (v := (-1)) hP d133_11 rfl ?_
  exact r_iret hP d133_12 rfl k
theorem b133_13 {d : Nat} {P : xPr} {Q : xQr} {r : Nat} {mem : Nat → Nat → Int32} (hP : Cl d none 133 P Q) {x1 : Int32} {v2 : Value} {v3 : Value} {v4 : Value}
    (k : xCall d 60 [.ref 49, .ref 47] (LAY, RFu r, mem) (Bk P 25 [.ref 0, .int x1, .int (nI 0), .int (-1), v4] [] (0, 0))) : P 13 [.ref 0, .int x1, v2, v3, v4] [] (0, 0) (LAY, RFu r, mem) := by
  refine r_iconst (v := nI 0) hP d133_13 rfl ?_
  refine r_istore_n (L' := [.ref 0, .int x1, .int (nI 0), v3, v4]) hP d133_14 (Nat.le_of_ble_eq_true rfl) rfl ?_
  refine r_iconst (v := (-1)) hP d133_15 rfl ?_
  refine r_istore_n (L' := [.ref 0, .int x1, .int (nI 0), .int (-1), v4]) hP d133_16 (Nat.le_of_ble_eq_true rfl) rfl ?_
  refine r_aload_n hP d133_17 rfl ?_
  refine r_getr (a := 49) hP d133_18 fr_11_40 rfl ly_0 rg_0_5 ?_
  refine r_aload_n hP d133_21 rfl ?_
  refine r_getr (a := 47) hP d133_22 fr_11_36 rfl ly_0 rg_0_4 ?_
  exact r_callv (As := [.ref 47]) (S := []) hP d133_25 cr_11_293 (by decide +kernel) rfl (by simp [Value.category]) rfl ly_49 (by simp [Value.category]) ⟨Nat.zero_le _, Nat.zero_le _⟩ k
theorem b133_28 {d : Nat} {P : xPr} {Q : xQr} {r : Nat} {mem : Nat → Nat → Int32} (hP : Cl d none 133 P Q) {x1 : Int32} {x2 : Int32} {x3 : Int32} {v4 : Value}
    (k : P 31 [.ref 0, .int x1, .int x2, .int x3, .int (nI 1)] [] (0, 0) (LAY, RFu r, mem)) : P 28 [.ref 0, .int x1, .int x2, .int x3, v4] [] (0, 0) (LAY, RFu r, mem) := by
  refine r_iconst (v := nI 1) hP d133_28 rfl ?_
  refine r_istore (L' := [.ref 0, .int x1, .int x2, .int x3, .int (nI 1)]) hP d133_29 (Nat.le_of_ble_eq_true rfl) rfl ?_
  exact k
theorem b133_31 {d : Nat} {P : xPr} {Q : xQr} {r : Nat} {mem : Nat → Nat → Int32} (hP : Cl d none 133 P Q) {x1 : Int32} {x2 : Int32} {x3 : Int32} {x4 : Int32}
    (kt : x1 < x4 → P 85 [.ref 0, .int x1, .int x2, .int x3, .int x4] [] (0, 0) (LAY, RFu r, mem)) (kf : ¬ x1 < x4 → P 37 [.ref 0, .int x1, .int x2, .int x3, .int x4] [] (0, 0) (LAY, RFu r, mem)) : P 31 [.ref 0, .int x1, .int x2, .int x3, .int x4] [] (0, 0) (LAY, RFu r, mem) := by
  refine r_iload hP d133_31 rfl ?_
  refine r_iload_n hP d133_33 rfl ?_
  exact r_icmp (t := 85) hP d133_34 (by decide) kt kf
theorem b133_37 {d : Nat} {P : xPr} {Q : xQr} {r : Nat} {mem : Nat → Nat → Int32} (hP : Cl d none 133 P Q) {x1 : Int32} {x2 : Int32} {x3 : Int32} {x4 : Int32}
    (k : xCall d 8 [.ref 51, .ref 5, .ref 49] (LAY, RFu r, mem) (Bk P 49 [.ref 0, .int x1, .int x2, .int x3, .int x4] [] (0, 0))) : P 37 [.ref 0, .int x1, .int x2, .int x3, .int x4] [] (0, 0) (LAY, RFu r, mem) := by
  refine r_aload_n hP d133_37 rfl ?_
  refine r_getr (a := 51) hP d133_38 fr_11_46 rfl ly_0 rg_0_6 ?_
  refine r_aload_n hP d133_41 rfl ?_
  refine r_getr (a := 5) hP d133_42 fr_11_26 rfl ly_0 rg_0_2 ?_
  refine r_aload_n hP d133_45 rfl ?_
  refine r_getr (a := 49) hP d133_46 fr_11_40 rfl ly_0 rg_0_5 ?_
  exact r_callv (As := [.ref 5, .ref 49]) (S := []) hP d133_49 cr_11_229 (by decide +kernel) rfl (by simp [Value.category]) rfl ly_51 (by simp [Value.category]) ⟨Nat.zero_le _, Nat.zero_le _⟩ k
theorem b133_52 {d : Nat} {P : xPr} {Q : xQr} {r : Nat} {mem : Nat → Nat → Int32} (hP : Cl d none 133 P Q) {x1 : Int32} {x2 : Int32} {x3 : Int32} {x4 : Int32} {y0 : Int32}
    (k : xCall d 62 [.ref 49, .int (nI 1)] (LAY, RFu r, mem) (Bk P 58 [.ref 0, .int x1, .int x2, .int x3, .int x4] [] (0, 0))) : P 52 [.ref 0, .int x1, .int x2, .int x3, .int x4] [.int y0] (0, 0) (LAY, RFu r, mem) := by
  refine r_pop hP d133_52 rfl ?_
  refine r_aload_n hP d133_53 rfl ?_
  refine r_getr (a := 49) hP d133_54 fr_11_40 rfl ly_0 rg_0_5 ?_
  refine r_iconst (v := nI 1) hP d133_57 rfl ?_
  exact r_callv (As := [.int (nI 1)]) (S := []) hP d133_58 cr_11_214 (by decide +kernel) rfl (by simp [Value.category]) rfl ly_49 (by simp [Value.category]) ⟨Nat.zero_le _, Nat.zero_le _⟩ k
theorem b133_61 {d : Nat} {P : xPr} {Q : xQr} {r : Nat} {mem : Nat → Nat → Int32} (hP : Cl d none 133 P Q) {x1 : Int32} {x2 : Int32} {x3 : Int32} {x4 : Int32} {y0 : Int32}
    (kt : ¬ y0 = 0 → P 79 [.ref 0, .int x1, .int x2, .int x3, .int x4] [] (0, 0) (LAY, RFu r, mem)) (kf : y0 = 0 → P 64 [.ref 0, .int x1, .int x2, .int x3, .int x4] [] (0, 0) (LAY, RFu r, mem)) : P 61 [.ref 0, .int x1, .int x2, .int x3, .int x4] [.int y0] (0, 0) (LAY, RFu r, mem) := by
  exact r_if (t := 79) hP d133_61 (by decide) kt (fun q => kf (Decidable.of_not_not q))
theorem b133_64 {d : Nat} {P : xPr} {Q : xQr} {r : Nat} {mem : Nat → Nat → Int32} (hP : Cl d none 133 P Q) {x1 : Int32} {x2 : Int32} {x3 : Int32} {x4 : Int32}
    (kt : ¬ x3 = (-1) → P 77 [.ref 0, .int x1, .int (x2 + nI 1), .int x3, .int x4] [] (0, 0) (LAY, RFu r, mem)) (kf : x3 = (-1) → P 72 [.ref 0, .int x1, .int (x2 + nI 1), .int x3, .int x4] [] (0, 0) (LAY, RFu r, mem)) : P 64 [.ref 0, .int x1, .int x2, .int x3, .int x4] [] (0, 0) (LAY, RFu r, mem) := by
  refine r_iinc (v := nI 1) (L' := [.ref 0, .int x1, .int (x2 + nI 1), .int x3, .int x4]) hP d133_64 rfl rfl rfl ?_
  refine r_iload_n hP d133_67 rfl ?_
  refine r_iconst (v := (-1)) hP d133_68 rfl ?_
  exact r_icmp (t := 77) hP d133_69 (by decide) kt (fun q => kf (Decidable.of_not_not q))
theorem b133_72 {d : Nat} {P : xPr} {Q : xQr} {r : Nat} {mem : Nat → Nat → Int32} (hP : Cl d none 133 P Q) {x1 : Int32} {x2 : Int32} {v3 : Value} {x4 : Int32}
    (k : P 78 [.ref 0, .int x1, .int x2, v3, .int x4] [.int x4] (0, 0) (LAY, RFu r, mem)) : P 72 [.ref 0, .int x1, .int x2, v3, .int x4] [] (0, 0) (LAY, RFu r, mem) := by
  refine r_iload hP d133_72 rfl ?_
  refine r_goto (t := 78) hP d133_74 (by decide) ?_
  exact k
theorem b133_77 {d : Nat} {P : xPr} {Q : xQr} {r : Nat} {mem : Nat → Nat → Int32} (hP : Cl d none 133 P Q) {x1 : Int32} {x2 : Int32} {x3 : Int32} {x4 : Int32}
    (k : P 78 [.ref 0, .int x1, .int x2, .int x3, .int x4] [.int x3] (0, 0) (LAY, RFu r, mem)) : P 77 [.ref 0, .int x1, .int x2, .int x3, .int x4] [] (0, 0) (LAY, RFu r, mem) := by
  refine r_iload_n hP d133_77 rfl ?_
  exact k
theorem b133_78 {d : Nat} {P : xPr} {Q : xQr} {r : Nat} {mem : Nat → Nat → Int32} (hP : Cl d none 133 P Q) {x1 : Int32} {x2 : Int32} {v3 : Value} {x4 : Int32} {y0 : Int32}
    (k : P 79 [.ref 0, .int x1, .int x2, .int y0, .int x4] [] (0, 0) (LAY, RFu r, mem)) : P 78 [.ref 0, .int x1, .int x2, v3, .int x4] [.int y0] (0, 0) (LAY, RFu r, mem) := by
  refine r_istore_n (L' := [.ref 0, .int x1, .int x2, .int y0, .int x4]) hP d133_78 (Nat.le_of_ble_eq_true rfl) rfl ?_
  exact k
theorem b133_79 {d : Nat} {P : xPr} {Q : xQr} {r : Nat} {mem : Nat → Nat → Int32} (hP : Cl d none 133 P Q) {x1 : Int32} {x2 : Int32} {x3 : Int32} {x4 : Int32}
    (k : P 31 [.ref 0, .int x1, .int x2, .int x3, .int (x4 + nI 1)] [] (0, 0) (LAY, RFu r, mem)) : P 79 [.ref 0, .int x1, .int x2, .int x3, .int x4] [] (0, 0) (LAY, RFu r, mem) := by
  refine r_iinc (v := nI 1) (L' := [.ref 0, .int x1, .int x2, .int x3, .int (x4 + nI 1)]) hP d133_79 rfl rfl rfl ?_
  refine r_goto (t := 31) hP d133_82 (by decide) ?_
  exact k
theorem b133_85 {d : Nat} {P : xPr} {Q : xQr} {r : Nat} {mem : Nat → Nat → Int32} (hP : Cl d none 133 P Q) {v1 : Value} {x2 : Int32} {x3 : Int32} {v4 : Value}
    (k : xCall d 31 [.ref 3] (LAY, RFu r, mem) (Bk P 89 [.ref 0, v1, .int x2, .int x3, v4] [] (0, 0))) : P 85 [.ref 0, v1, .int x2, .int x3, v4] [] (0, 0) (LAY, RFu r, mem) := by
  refine r_aload_n hP d133_85 rfl ?_
  refine r_getr (a := 3) hP d133_86 fr_11_19 rfl ly_0 rg_0_1 ?_
  exact r_callv (As := []) (S := []) hP d133_89 cr_11_213 (by decide +kernel) rfl (by simp) rfl ly_3 (by simp [Value.category]) ⟨Nat.zero_le _, Nat.zero_le _⟩ k
theorem b133_92 {d : Nat} {P : xPr} {Q : xQr} {r : Nat} {mem : Nat → Nat → Int32} (hP : Cl d none 133 P Q) {v1 : Value} {x2 : Int32} {x3 : Int32} {v4 : Value}
    (k : xCall d 32 [.ref 3, .int x3] (LAY, RFu r, mem) (Bk P 97 [.ref 0, v1, .int x2, .int x3, v4] [] (0, 0))) : P 92 [.ref 0, v1, .int x2, .int x3, v4] [] (0, 0) (LAY, RFu r, mem) := by
  refine r_aload_n hP d133_92 rfl ?_
  refine r_getr (a := 3) hP d133_93 fr_11_19 rfl ly_0 rg_0_1 ?_
  refine r_iload_n hP d133_96 rfl ?_
  exact r_callv (As := [.int x3]) (S := []) hP d133_97 cr_11_222 (by decide +kernel) rfl (by simp [Value.category]) rfl ly_3 (by simp [Value.category]) ⟨Nat.zero_le _, Nat.zero_le _⟩ k
theorem b133_100 {d : Nat} {P : xPr} {Q : xQr} {r : Nat} {mem : Nat → Nat → Int32} (hP : Cl d none 133 P Q) {v0 : Value} {v1 : Value} {x2 : Int32} {v3 : Value} {v4 : Value}
    (k : Q (some (.int x2)) (LAY, RFu r, mem)) : P 100 [v0, v1, .int x2, v3, v4] [] (0, 0) (LAY, RFu r, mem) := by
  refine r_iload_n hP d133_100 rfl ?_
  exact r_iret hP d133_101 rfl k
theorem d134_0 : decode (xB 134) 0 = .ok (.iload_n 1, 1) := by decide +kernel
theorem d134_1 : decode (xB 134) 1 = .ok (.iconst 0, 1) := by decide +kernel
theorem d134_2 : decode (xB 134) 2 = .ok (.bipush 100, 2) := by decide +kernel
theorem d134_4 : decode (xB 134) 4 = .ok (.invokestatic 185, 3) := by decide +kernel
theorem d134_7 : decode (xB 134) 7 = .ok (.ifCond .ne 5, 3) := by decide +kernel
theorem d134_10 : decode (xB 134) 10 = .ok (.iconst (-1), 1) := by decide +kernel
theorem d134_11 : decode (xB 134) 11 = .ok (.ireturn, 1) := by decide +kernel
theorem d134_12 : decode (xB 134) 12 = .ok (.aload_n 0, 1) := by decide +kernel
theorem d134_13 : decode (xB 134) 13 = .ok (.getfield 26, 3) := by decide +kernel
theorem d134_16 : decode (xB 134) 16 = .ok (.getfield 313, 3) := by decide +kernel
theorem d134_19 : decode (xB 134) 19 = .ok (.ifCond .ne 6, 3) := by decide +kernel
theorem d134_22 : decode (xB 134) 22 = .ok (.bipush (-2), 2) := by decide +kernel
theorem d134_24 : decode (xB 134) 24 = .ok (.ireturn, 1) := by decide +kernel
theorem d134_25 : decode (xB 134) 25 = .ok (.aload_n 0, 1) := by decide +kernel
theorem d134_26 : decode (xB 134) 26 = .ok (.aload_n 0, 1) := by decide +kernel
theorem d134_27 : decode (xB 134) 27 = .ok (.getfield 26, 3) := by decide +kernel
theorem d134_30 : decode (xB 134) 30 = .ok (.iload_n 1, 1) := by decide +kernel
theorem d134_31 : decode (xB 134) 31 = .ok (.invokevirtual 243, 3) := by decide +kernel
theorem d134_34 : decode (xB 134) 34 = .ok (.aload_n 0, 1) := by decide +kernel
theorem d134_35 : decode (xB 134) 35 = .ok (.invokevirtual 340, 3) := by decide +kernel
theorem d134_38 : decode (xB 134) 38 = .ok (.istore_n 2, 1) := by decide +kernel
theorem d134_39 : decode (xB 134) 39 = .ok (.iconst 0, 1) := by decide +kernel
theorem d134_40 : decode (xB 134) 40 = .ok (.istore_n 3, 1) := by decide +kernel
theorem d134_41 : decode (xB 134) 41 = .ok (.iload_n 3, 1) := by decide +kernel
theorem d134_42 : decode (xB 134) 42 = .ok (.aload_n 0, 1) := by decide +kernel
theorem d134_43 : decode (xB 134) 43 = .ok (.getfield 26, 3) := by decide +kernel
theorem d134_46 : decode (xB 134) 46 = .ok (.getfield 192, 3) := by decide +kernel
theorem d134_49 : decode (xB 134) 49 = .ok (.if_icmp .ge 20, 3) := by decide +kernel
theorem d134_52 : decode (xB 134) 52 = .ok (.aload_n 0, 1) := by decide +kernel
theorem d134_53 : decode (xB 134) 53 = .ok (.getfield 96, 3) := by decide +kernel
theorem d134_56 : decode (xB 134) 56 = .ok (.iload_n 3, 1) := by decide +kernel
theorem d134_57 : decode (xB 134) 57 = .ok (.aload_n 0, 1) := by decide +kernel
theorem d134_58 : decode (xB 134) 58 = .ok (.iload_n 3, 1) := by decide +kernel
theorem d134_59 : decode (xB 134) 59 = .ok (.invokevirtual 347, 3) := by decide +kernel
theorem d134_62 : decode (xB 134) 62 = .ok (.iastore, 1) := by decide +kernel
theorem d134_63 : decode (xB 134) 63 = .ok (.iinc 3 1, 3) := by decide +kernel
theorem d134_66 : decode (xB 134) 66 = .ok (.goto (-25), 3) := by decide +kernel
theorem d134_69 : decode (xB 134) 69 = .ok (.iconst (-1), 1) := by decide +kernel
theorem d134_70 : decode (xB 134) 70 = .ok (.istore_n 3, 1) := by decide +kernel
theorem d134_71 : decode (xB 134) 71 = .ok (.iconst (-1), 1) := by decide +kernel
theorem d134_72 : decode (xB 134) 72 = .ok (.istore 4, 2) := by decide +kernel
theorem d134_74 : decode (xB 134) 74 = .ok (.iconst (-1), 1) := by decide +kernel
theorem d134_75 : decode (xB 134) 75 = .ok (.istore 5, 2) := by decide +kernel
theorem d134_77 : decode (xB 134) 77 = .ok (.iconst 0, 1) := by decide +kernel
theorem d134_78 : decode (xB 134) 78 = .ok (.istore 6, 2) := by decide +kernel
theorem d134_80 : decode (xB 134) 80 = .ok (.iload 6, 2) := by decide +kernel
theorem d134_82 : decode (xB 134) 82 = .ok (.aload_n 0, 1) := by decide +kernel
theorem d134_83 : decode (xB 134) 83 = .ok (.getfield 26, 3) := by decide +kernel
theorem d134_86 : decode (xB 134) 86 = .ok (.getfield 313, 3) := by decide +kernel
theorem d134_89 : decode (xB 134) 89 = .ok (.if_icmp .ge 87, 3) := by decide +kernel
theorem d134_92 : decode (xB 134) 92 = .ok (.aload_n 0, 1) := by decide +kernel
theorem d134_93 : decode (xB 134) 93 = .ok (.getfield 30, 3) := by decide +kernel
theorem d134_96 : decode (xB 134) 96 = .ok (.aload_n 0, 1) := by decide +kernel
theorem d134_97 : decode (xB 134) 97 = .ok (.getfield 26, 3) := by decide +kernel
theorem d134_100 : decode (xB 134) 100 = .ok (.invokevirtual 316, 3) := by decide +kernel
theorem d134_103 : decode (xB 134) 103 = .ok (.aload_n 0, 1) := by decide +kernel
theorem d134_104 : decode (xB 134) 104 = .ok (.getfield 30, 3) := by decide +kernel
theorem d134_107 : decode (xB 134) 107 = .ok (.getfield 189, 3) := by decide +kernel
theorem d134_110 : decode (xB 134) 110 = .ok (.iload 6, 2) := by decide +kernel
theorem d134_112 : decode (xB 134) 112 = .ok (.bipush 8, 2) := by decide +kernel
theorem d134_114 : decode (xB 134) 114 = .ok (.aload_n 0, 1) := by decide +kernel
theorem d134_115 : decode (xB 134) 115 = .ok (.getfield 26, 3) := by decide +kernel
theorem d134_118 : decode (xB 134) 118 = .ok (.getfield 189, 3) := by decide +kernel
theorem d134_121 : decode (xB 134) 121 = .ok (.iload 6, 2) := by decide +kernel
theorem d134_123 : decode (xB 134) 123 = .ok (.iaload, 1) := by decide +kernel
theorem d134_124 : decode (xB 134) 124 = .ok (.iconst 1, 1) := by decide +kernel
theorem d134_125 : decode (xB 134) 125 = .ok (.iadd, 1) := by decide +kernel
theorem d134_126 : decode (xB 134) 126 = .ok (.invokestatic 199, 3) := by decide +kernel
theorem d134_129 : decode (xB 134) 129 = .ok (.iastore, 1) := by decide +kernel
theorem d134_130 : decode (xB 134) 130 = .ok (.aload_n 0, 1) := by decide +kernel
theorem d134_131 : decode (xB 134) 131 = .ok (.aload_n 0, 1) := by decide +kernel
theorem d134_132 : decode (xB 134) 132 = .ok (.getfield 30, 3) := by decide +kernel
theorem d134_135 : decode (xB 134) 135 = .ok (.iload_n 1, 1) := by decide +kernel
theorem d134_136 : decode (xB 134) 136 = .ok (.invokevirtual 243, 3) := by decide +kernel
theorem d134_139 : decode (xB 134) 139 = .ok (.aload_n 0, 1) := by decide +kernel
theorem d134_140 : decode (xB 134) 140 = .ok (.invokevirtual 340, 3) := by decide +kernel
theorem d134_143 : decode (xB 134) 143 = .ok (.istore 7, 2) := by decide +kernel
theorem d134_145 : decode (xB 134) 145 = .ok (.iload 4, 2) := by decide +kernel
theorem d134_147 : decode (xB 134) 147 = .ok (.iconst (-1), 1) := by decide +kernel
theorem d134_148 : decode (xB 134) 148 = .ok (.if_icmp .eq 9, 3) := by decide +kernel
theorem d134_151 : decode (xB 134) 151 = .ok (.iload 7, 2) := by decide +kernel
theorem d134_153 : decode (xB 134) 153 = .ok (.iload_n 3, 1) := by decide +kernel
theorem d134_154 : decode (xB 134) 154 = .ok (.if_icmp .ge 16, 3) := by decide +kernel
theorem d134_157 : decode (xB 134) 157 = .ok (.iload 7, 2) := by decide +kernel
theorem d134_159 : decode (xB 134) 159 = .ok (.istore_n 3, 1) := by decide +kernel
theorem d134_160 : decode (xB 134) 160 = .ok (.iload 6, 2) := by decide +kernel
theorem d134_162 : decode (xB 134) 162 = .ok (.istore 4, 2) := by decide +kernel
theorem d134_164 : decode (xB 134) 164 = .ok (.aload_n 0, 1) := by decide +kernel
theorem d134_165 : decode (xB 134) 165 = .ok (.invokevirtual 353, 3) := by decide +kernel
theorem d134_168 : decode (xB 134) 168 = .ok (.istore 5, 2) := by decide +kernel
theorem d134_170 : decode (xB 134) 170 = .ok (.iinc 6 1, 3) := by decide +kernel
theorem d134_173 : decode (xB 134) 173 = .ok (.goto (-93), 3) := by decide +kernel
theorem d134_176 : decode (xB 134) 176 = .ok (.aload_n 0, 1) := by decide +kernel
theorem d134_177 : decode (xB 134) 177 = .ok (.getfield 19, 3) := by decide +kernel
theorem d134_180 : decode (xB 134) 180 = .ok (.invokevirtual 213, 3) := by decide +kernel
theorem d134_183 : decode (xB 134) 183 = .ok (.aload_n 0, 1) := by decide +kernel
theorem d134_184 : decode (xB 134) 184 = .ok (.getfield 19, 3) := by decide +kernel
theorem d134_187 : decode (xB 134) 187 = .ok (.iload_n 2, 1) := by decide +kernel
theorem d134_188 : decode (xB 134) 188 = .ok (.iload_n 3, 1) := by decide +kernel
theorem d134_189 : decode (xB 134) 189 = .ok (.isub, 1) := by decide +kernel
theorem d134_190 : decode (xB 134) 190 = .ok (.invokevirtual 222, 3) := by decide +kernel
theorem d134_193 : decode (xB 134) 193 = .ok (.aload_n 0, 1) := by decide +kernel
theorem d134_194 : decode (xB 134) 194 = .ok (.getfield 19, 3) := by decide +kernel
theorem d134_197 : decode (xB 134) 197 = .ok (.iload 5, 2) := by decide +kernel
theorem d134_199 : decode (xB 134) 199 = .ok (.invokevirtual 222, 3) := by decide +kernel
theorem d134_202 : decode (xB 134) 202 = .ok (.iload 4, 2) := by decide +kernel
theorem d134_204 : decode (xB 134) 204 = .ok (.ireturn, 1) := by decide +kernel
theorem b134_0 {d : Nat} {P : xPr} {Q : xQr} {r : Nat} {mem : Nat → Nat → Int32} (hP : Cl d none 134 P Q) {p0 : Int32}
    (k : xCall d 151 [.int p0, .int (nI 0), .int (nI 100)] (LAY, RFu r, mem) (Bk P 4 [.ref 0, .int p0, .null, .null, .null, .null, .null, .null] [] (0, 0))) : P 0 [.ref 0, .int p0, .null, .null, .null, .null, .null, .null] [] (0, 0) (LAY, RFu r, mem) := by
  refine r_iload_n hP d134_0 rfl ?_
  refine r_iconst (v := nI 0) hP d134_1 rfl ?_
  refine r_bipush (v := nI 100) hP d134_2 rfl ?_
  exact r_calls (As := [.int p0, .int (nI 0), .int (nI 100)]) (S := []) hP d134_4 cr_11_185 (by decide +kernel) rfl (by simp [Value.category]) rfl (by simp [Value.category]) ⟨Nat.zero_le _, Nat.zero_le _⟩ k
theorem b134_7 {d : Nat} {P : xPr} {Q : xQr} {r : Nat} {mem : Nat → Nat → Int32} (hP : Cl d none 134 P Q) {x1 : Int32} {v2 : Value} {v3 : Value} {v4 : Value} {v5 : Value} {v6 : Value} {v7 : Value} {y0 : Int32}
    (kt : ¬ y0 = 0 → P 12 [.ref 0, .int x1, v2, v3, v4, v5, v6, v7] [] (0, 0) (LAY, RFu r, mem)) (kf : y0 = 0 → P 10 [.ref 0, .int x1, v2, v3, v4, v5, v6, v7] [] (0, 0) (LAY, RFu r, mem)) : P 7 [.ref 0, .int x1, v2, v3, v4, v5, v6, v7] [.int y0] (0, 0) (LAY, RFu r, mem) := by
  exact r_if (t := 12) hP d134_7 (by decide) kt (fun q => kf (Decidable.of_not_not q))
theorem b134_10 {d : Nat} {P : xPr} {Q : xQr} {r : Nat} {mem : Nat → Nat → Int32} (hP : Cl d none 134 P Q) {v0 : Value} {v1 : Value} {v2 : Value} {v3 : Value} {v4 : Value} {v5 : Value} {v6 : Value} {v7 : Value}
    (k : Q (some (.int (-1))) (LAY, RFu r, mem)) : P 10 [v0, v1, v2, v3, v4, v5, v6, v7] [] (0, 0) (LAY, RFu r, mem) := by
  refine r_iconst (v := (-1)) hP d134_10 rfl ?_
  exact r_iret hP d134_11 rfl k
theorem b134_12 {d : Nat} {P : xPr} {Q : xQr} {r : Nat} {mem : Nat → Nat → Int32} (hP : Cl d none 134 P Q) {x1 : Int32} {v2 : Value} {v3 : Value} {v4 : Value} {v5 : Value} {v6 : Value} {v7 : Value}
    (kt : ¬ (mem 5 0) = 0 → P 25 [.ref 0, .int x1, v2, v3, v4, v5, v6, v7] [] (0, 0) (LAY, RFu r, mem)) (kf : (mem 5 0) = 0 → P 22 [.ref 0, .int x1, v2, v3, v4, v5, v6, v7] [] (0, 0) (LAY, RFu r, mem)) : P 12 [.ref 0, .int x1, v2, v3, v4, v5, v6, v7] [] (0, 0) (LAY, RFu r, mem) := by
  refine r_aload_n hP d134_12 rfl ?_
  refine r_getr (a := 5) hP d134_13 fr_11_26 rfl ly_0 rg_0_2 ?_
  refine r_geti hP d134_16 fr_11_313 rfl ly_5 ?_
  exact r_if (t := 25) hP d134_19 (by decide) kt (fun q => kf (Decidable.of_not_not q))
theorem b134_22 {d : Nat} {P : xPr} {Q : xQr} {r : Nat} {mem : Nat → Nat → Int32} (hP : Cl d none 134 P Q) {v0 : Value} {v1 : Value} {v2 : Value} {v3 : Value} {v4 : Value} {v5 : Value} {v6 : Value} {v7 : Value}
    (k : Q (some (.int (-2))) (LAY, RFu r, mem)) : P 22 [v0, v1, v2, v3, v4, v5, v6, v7] [] (0, 0) (LAY, RFu r, mem) := by
  refine r_bipush (v := (-2)) hP d134_22 rfl ?_
  exact r_iret hP d134_24 rfl k
theorem b134_25 {d : Nat} {P : xPr} {Q : xQr} {r : Nat} {mem : Nat → Nat → Int32} (hP : Cl d none 134 P Q) {x1 : Int32} {v2 : Value} {v3 : Value} {v4 : Value} {v5 : Value} {v6 : Value} {v7 : Value}
    (k : xCall d 153 [.ref 0, .ref 5, .int x1] (LAY, RFu r, mem) (Bk P 31 [.ref 0, .int x1, v2, v3, v4, v5, v6, v7] [] (0, 0))) : P 25 [.ref 0, .int x1, v2, v3, v4, v5, v6, v7] [] (0, 0) (LAY, RFu r, mem) := by
  refine r_aload_n hP d134_25 rfl ?_
  refine r_aload_n hP d134_26 rfl ?_
  refine r_getr (a := 5) hP d134_27 fr_11_26 rfl ly_0 rg_0_2 ?_
  refine r_iload_n hP d134_30 rfl ?_
  exact r_callv (As := [.ref 5, .int x1]) (S := []) hP d134_31 cr_11_243 (by decide +kernel) rfl (by simp [Value.category]) rfl ly_0 (by simp [Value.category]) ⟨Nat.zero_le _, Nat.zero_le _⟩ k
theorem b134_34 {d : Nat} {P : xPr} {Q : xQr} {r : Nat} {mem : Nat → Nat → Int32} (hP : Cl d none 134 P Q) {x1 : Int32} {v2 : Value} {v3 : Value} {v4 : Value} {v5 : Value} {v6 : Value} {v7 : Value}
    (k : xCall d 155 [.ref 0] (LAY, RFu r, mem) (Bk P 35 [.ref 0, .int x1, v2, v3, v4, v5, v6, v7] [] (0, 0))) : P 34 [.ref 0, .int x1, v2, v3, v4, v5, v6, v7] [] (0, 0) (LAY, RFu r, mem) := by
  refine r_aload_n hP d134_34 rfl ?_
  exact r_callv (As := []) (S := []) hP d134_35 cr_11_340 (by decide +kernel) rfl (by simp) rfl ly_0 (by simp [Value.category]) ⟨Nat.zero_le _, Nat.zero_le _⟩ k
theorem b134_38 {d : Nat} {P : xPr} {Q : xQr} {r : Nat} {mem : Nat → Nat → Int32} (hP : Cl d none 134 P Q) {x1 : Int32} {v2 : Value} {v3 : Value} {v4 : Value} {v5 : Value} {v6 : Value} {v7 : Value} {y0 : Int32}
    (k : P 41 [.ref 0, .int x1, .int y0, .int (nI 0), v4, v5, v6, v7] [] (0, 0) (LAY, RFu r, mem)) : P 38 [.ref 0, .int x1, v2, v3, v4, v5, v6, v7] [.int y0] (0, 0) (LAY, RFu r, mem) := by
  refine r_istore_n (L' := [.ref 0, .int x1, .int y0, v3, v4, v5, v6, v7]) hP d134_38 (Nat.le_of_ble_eq_true rfl) rfl ?_
  refine r_iconst (v := nI 0) hP d134_39 rfl ?_
  refine r_istore_n (L' := [.ref 0, .int x1, .int y0, .int (nI 0), v4, v5, v6, v7]) hP d134_40 (Nat.le_of_ble_eq_true rfl) rfl ?_
  exact k
theorem b134_41 {d : Nat} {P : xPr} {Q : xQr} {r : Nat} {mem : Nat → Nat → Int32} (hP : Cl d none 134 P Q) {x1 : Int32} {x2 : Int32} {x3 : Int32} {v4 : Value} {v5 : Value} {v6 : Value} {v7 : Value}
    (kt : (mem 5 1) ≤ x3 → P 69 [.ref 0, .int x1, .int x2, .int x3, v4, v5, v6, v7] [] (0, 0) (LAY, RFu r, mem)) (kf : ¬ (mem 5 1) ≤ x3 → P 52 [.ref 0, .int x1, .int x2, .int x3, v4, v5, v6, v7] [] (0, 0) (LAY, RFu r, mem)) : P 41 [.ref 0, .int x1, .int x2, .int x3, v4, v5, v6, v7] [] (0, 0) (LAY, RFu r, mem) := by
  refine r_iload_n hP d134_41 rfl ?_
  refine r_aload_n hP d134_42 rfl ?_
  refine r_getr (a := 5) hP d134_43 fr_11_26 rfl ly_0 rg_0_2 ?_
  refine r_geti hP d134_46 fr_11_192 rfl ly_5 ?_
  exact r_icmp (t := 69) hP d134_49 (by decide) kt kf
theorem b134_52 {d : Nat} {P : xPr} {Q : xQr} {r : Nat} {mem : Nat → Nat → Int32} (hP : Cl d none 134 P Q) {x1 : Int32} {x2 : Int32} {x3 : Int32} {v4 : Value} {v5 : Value} {v6 : Value} {v7 : Value}
    (k : xCall d 154 [.ref 0, .int x3] (LAY, RFu r, mem) (Bk P 59 [.ref 0, .int x1, .int x2, .int x3, v4, v5, v6, v7] [.int x3, .ref 106] (0, 0))) : P 52 [.ref 0, .int x1, .int x2, .int x3, v4, v5, v6, v7] [] (0, 0) (LAY, RFu r, mem) := by
  refine r_aload_n hP d134_52 rfl ?_
  refine r_getr (a := 106) hP d134_53 fr_11_96 rfl ly_0 rg_0_15 ?_
  refine r_iload_n hP d134_56 rfl ?_
  refine r_aload_n hP d134_57 rfl ?_
  refine r_iload_n hP d134_58 rfl ?_
  exact r_callv (As := [.int x3]) (S := [.int x3, .ref 106]) hP d134_59 cr_11_347 (by decide +kernel) rfl (by simp [Value.category]) rfl ly_0 (by simp [Value.category]) ⟨Nat.zero_le _, Nat.zero_le _⟩ k
theorem b134_62 {d : Nat} {P : xPr} {Q : xQr} {r : Nat} {mem : Nat → Nat → Int32} (hP : Cl d none 134 P Q) {x1 : Int32} {x2 : Int32} {x3 : Int32} {v4 : Value} {v5 : Value} {v6 : Value} {v7 : Value} {y1 : Int32} {y2 : Int32} (hi62 : vp_in y1 8)
    (k : P 41 [.ref 0, .int x1, .int x2, .int (x3 + nI 1), v4, v5, v6, v7] [] (0, 0) (LAY, RFu r, xu2 mem 106 y1.toNatClampNeg y2)) : P 62 [.ref 0, .int x1, .int x2, .int x3, v4, v5, v6, v7] [.int y2, .int y1, .ref 106] (0, 0) (LAY, RFu r, mem) := by
  refine r_iastore hP d134_62 ly_106 hi62 ?_
  refine r_iinc (v := nI 1) (L' := [.ref 0, .int x1, .int x2, .int (x3 + nI 1), v4, v5, v6, v7]) hP d134_63 rfl rfl rfl ?_
  refine r_goto (t := 41) hP d134_66 (by decide) ?_
  exact k
theorem b134_69 {d : Nat} {P : xPr} {Q : xQr} {r : Nat} {mem : Nat → Nat → Int32} (hP : Cl d none 134 P Q) {x1 : Int32} {x2 : Int32} {v3 : Value} {v4 : Value} {v5 : Value} {v6 : Value} {v7 : Value}
    (k : P 80 [.ref 0, .int x1, .int x2, .int (-1), .int (-1), .int (-1), .int (nI 0), v7] [] (0, 0) (LAY, RFu r, mem)) : P 69 [.ref 0, .int x1, .int x2, v3, v4, v5, v6, v7] [] (0, 0) (LAY, RFu r, mem) := by
  refine r_iconst (v := (-1)) hP d134_69 rfl ?_
  refine r_istore_n (L' := [.ref 0, .int x1, .int x2, .int (-1), v4, v5, v6, v7]) hP d134_70 (Nat.le_of_ble_eq_true rfl) rfl ?_
  refine r_iconst (v := (-1)) hP d134_71 rfl ?_
  refine r_istore (L' := [.ref 0, .int x1, .int x2, .int (-1), .int (-1), v5, v6, v7]) hP d134_72 (Nat.le_of_ble_eq_true rfl) rfl ?_
  refine r_iconst (v := (-1)) hP d134_74 rfl ?_
  refine r_istore (L' := [.ref 0, .int x1, .int x2, .int (-1), .int (-1), .int (-1), v6, v7]) hP d134_75 (Nat.le_of_ble_eq_true rfl) rfl ?_
  refine r_iconst (v := nI 0) hP d134_77 rfl ?_
  refine r_istore (L' := [.ref 0, .int x1, .int x2, .int (-1), .int (-1), .int (-1), .int (nI 0), v7]) hP d134_78 (Nat.le_of_ble_eq_true rfl) rfl ?_
  exact k
theorem b134_80 {d : Nat} {P : xPr} {Q : xQr} {r : Nat} {mem : Nat → Nat → Int32} (hP : Cl d none 134 P Q) {x1 : Int32} {x2 : Int32} {x3 : Int32} {x4 : Int32} {x5 : Int32} {x6 : Int32} {v7 : Value}
    (kt : (mem 5 0) ≤ x6 → P 176 [.ref 0, .int x1, .int x2, .int x3, .int x4, .int x5, .int x6, v7] [] (0, 0) (LAY, RFu r, mem)) (kf : ¬ (mem 5 0) ≤ x6 → P 92 [.ref 0, .int x1, .int x2, .int x3, .int x4, .int x5, .int x6, v7] [] (0, 0) (LAY, RFu r, mem)) : P 80 [.ref 0, .int x1, .int x2, .int x3, .int x4, .int x5, .int x6, v7] [] (0, 0) (LAY, RFu r, mem) := by
  refine r_iload hP d134_80 rfl ?_
  refine r_aload_n hP d134_82 rfl ?_
  refine r_getr (a := 5) hP d134_83 fr_11_26 rfl ly_0 rg_0_2 ?_
  refine r_geti hP d134_86 fr_11_313 rfl ly_5 ?_
  exact r_icmp (t := 176) hP d134_89 (by decide) kt kf
theorem b134_92 {d : Nat} {P : xPr} {Q : xQr} {r : Nat} {mem : Nat → Nat → Int32} (hP : Cl d none 134 P Q) {x1 : Int32} {x2 : Int32} {x3 : Int32} {x4 : Int32} {x5 : Int32} {x6 : Int32} {v7 : Value}
    (k : xCall d 88 [.ref 26, .ref 5] (LAY, RFu r, mem) (Bk P 100 [.ref 0, .int x1, .int x2, .int x3, .int x4, .int x5, .int x6, v7] [] (0, 0))) : P 92 [.ref 0, .int x1, .int x2, .int x3, .int x4, .int x5, .int x6, v7] [] (0, 0) (LAY, RFu r, mem) := by
  refine r_aload_n hP d134_92 rfl ?_
  refine r_getr (a := 26) hP d134_93 fr_11_30 rfl ly_0 rg_0_3 ?_
  refine r_aload_n hP d134_96 rfl ?_
  refine r_getr (a := 5) hP d134_97 fr_11_26 rfl ly_0 rg_0_2 ?_
  exact r_callv (As := [.ref 5]) (S := []) hP d134_100 cr_11_316 (by decide +kernel) rfl (by simp [Value.category]) rfl ly_26 (by simp [Value.category]) ⟨Nat.zero_le _, Nat.zero_le _⟩ k
theorem b134_103 {d : Nat} {P : xPr} {Q : xQr} {r : Nat} {mem : Nat → Nat → Int32} (hP : Cl d none 134 P Q) {x1 : Int32} {x2 : Int32} {x3 : Int32} {x4 : Int32} {x5 : Int32} {x6 : Int32} {v7 : Value} (hi123 : vp_in x6 4) (hi129 : vp_in x6 4)
    (k : xCall d 153 [.ref 0, .ref 26, .int x1] (LAY, RFu r, xu2 mem 27 x6.toNatClampNeg (if (mem 6 x6.toNatClampNeg) + (nI 1) < nI 8 then (mem 6 x6.toNatClampNeg) + (nI 1) else nI 8)) (Bk P 136 [.ref 0, .int x1, .int x2, .int x3, .int x4, .int x5, .int x6, v7] [] (0, 0))) : P 103 [.ref 0, .int x1, .int x2, .int x3, .int x4, .int x5, .int x6, v7] [] (0, 0) (LAY, RFu r, mem) := by
  refine r_aload_n hP d134_103 rfl ?_
  refine r_getr (a := 26) hP d134_104 fr_11_30 rfl ly_0 rg_0_3 ?_
  refine r_getr (a := 27) hP d134_107 fr_11_189 rfl ly_26 rg_26_2 ?_
  refine r_iload hP d134_110 rfl ?_
  refine r_bipush (v := nI 8) hP d134_112 rfl ?_
  refine r_aload_n hP d134_114 rfl ?_
  refine r_getr (a := 5) hP d134_115 fr_11_26 rfl ly_0 rg_0_2 ?_
  refine r_getr (a := 6) hP d134_118 fr_11_189 rfl ly_5 rg_5_2 ?_
  refine r_iload hP d134_121 rfl ?_
  refine r_iaload hP d134_123 ly_6 hi123 ?_
  refine r_iconst (v := nI 1) hP d134_124 rfl ?_
  refine r_iadd hP d134_125 ?_
  refine r_min hP d134_126 cr_11_199 (by simp [Value.category]) ?_
  refine r_iastore hP d134_129 ly_27 hi129 ?_
  refine r_aload_n hP d134_130 rfl ?_
  refine r_aload_n hP d134_131 rfl ?_
  refine r_getr (a := 26) hP d134_132 fr_11_30 rfl ly_0 rg_0_3 ?_
  refine r_iload_n hP d134_135 rfl ?_
  exact r_callv (As := [.ref 26, .int x1]) (S := []) hP d134_136 cr_11_243 (by decide +kernel) rfl (by simp [Value.category]) rfl ly_0 (by simp [Value.category]) ⟨Nat.zero_le _, Nat.zero_le _⟩ k
theorem b134_139 {d : Nat} {P : xPr} {Q : xQr} {r : Nat} {mem : Nat → Nat → Int32} (hP : Cl d none 134 P Q) {x1 : Int32} {x2 : Int32} {x3 : Int32} {x4 : Int32} {x5 : Int32} {x6 : Int32} {v7 : Value}
    (k : xCall d 155 [.ref 0] (LAY, RFu r, mem) (Bk P 140 [.ref 0, .int x1, .int x2, .int x3, .int x4, .int x5, .int x6, v7] [] (0, 0))) : P 139 [.ref 0, .int x1, .int x2, .int x3, .int x4, .int x5, .int x6, v7] [] (0, 0) (LAY, RFu r, mem) := by
  refine r_aload_n hP d134_139 rfl ?_
  exact r_callv (As := []) (S := []) hP d134_140 cr_11_340 (by decide +kernel) rfl (by simp) rfl ly_0 (by simp [Value.category]) ⟨Nat.zero_le _, Nat.zero_le _⟩ k
theorem b134_143 {d : Nat} {P : xPr} {Q : xQr} {r : Nat} {mem : Nat → Nat → Int32} (hP : Cl d none 134 P Q) {x1 : Int32} {x2 : Int32} {x3 : Int32} {x4 : Int32} {x5 : Int32} {x6 : Int32} {v7 : Value} {y0 : Int32}
    (kt : x4 = (-1) → P 157 [.ref 0, .int x1, .int x2, .int x3, .int x4, .int x5, .int x6, .int y0] [] (0, 0) (LAY, RFu r, mem)) (kf : ¬ x4 = (-1) → P 151 [.ref 0, .int x1, .int x2, .int x3, .int x4, .int x5, .int x6, .int y0] [] (0, 0) (LAY, RFu r, mem)) : P 143 [.ref 0, .int x1, .int x2, .int x3, .int x4, .int x5, .int x6, v7] [.int y0] (0, 0) (LAY, RFu r, mem) := by
  refine r_istore (L' := [.ref 0, .int x1, .int x2, .int x3, .int x4, .int x5, .int x6, .int y0]) hP d134_143 (Nat.le_of_ble_eq_true rfl) rfl ?_
  refine r_iload hP d134_145 rfl ?_
  refine r_iconst (v := (-1)) hP d134_147 rfl ?_
  exact r_icmp (t := 157) hP d134_148 (by decide) kt kf
theorem b134_151 {d : Nat} {P : xPr} {Q : xQr} {r : Nat} {mem : Nat → Nat → Int32} (hP : Cl d none 134 P Q) {x1 : Int32} {x2 : Int32} {x3 : Int32} {x4 : Int32} {x5 : Int32} {x6 : Int32} {x7 : Int32}
    (kt : x3 ≤ x7 → P 170 [.ref 0, .int x1, .int x2, .int x3, .int x4, .int x5, .int x6, .int x7] [] (0, 0) (LAY, RFu r, mem)) (kf : ¬ x3 ≤ x7 → P 157 [.ref 0, .int x1, .int x2, .int x3, .int x4, .int x5, .int x6, .int x7] [] (0, 0) (LAY, RFu r, mem)) : P 151 [.ref 0, .int x1, .int x2, .int x3, .int x4, .int x5, .int x6, .int x7] [] (0, 0) (LAY, RFu r, mem) := by
  refine r_iload hP d134_151 rfl ?_
  refine r_iload_n hP d134_153 rfl ?_
  exact r_icmp (t := 170) hP d134_154 (by decide) kt kf
theorem b134_157 {d : Nat} {P : xPr} {Q : xQr} {r : Nat} {mem : Nat → Nat → Int32} (hP : Cl d none 134 P Q) {x1 : Int32} {x2 : Int32} {v3 : Value} {v4 : Value} {v5 : Value} {x6 : Int32} {x7 : Int32}
    (k : xCall d 135 [.ref 0] (LAY, RFu r, mem) (Bk P 165 [.ref 0, .int x1, .int x2, .int x7, .int x6, v5, .int x6, .int x7] [] (0, 0))) : P 157 [.ref 0, .int x1, .int x2, v3, v4, v5, .int x6, .int x7] [] (0, 0) (LAY, RFu r, mem) := by
  refine r_iload hP d134_157 rfl ?_
  refine r_istore_n (L' := [.ref 0, .int x1, .int x2, .int x7, v4, v5, .int x6, .int x7]) hP d134_159 (Nat.le_of_ble_eq_true rfl) rfl ?_
  refine r_iload hP d134_160 rfl ?_
  refine r_istore (L' := [.ref 0, .int x1, .int x2, .int x7, .int x6, v5, .int x6, .int x7]) hP d134_162 (Nat.le_of_ble_eq_true rfl) rfl ?_
  refine r_aload_n hP d134_164 rfl ?_
  exact r_callv (As := []) (S := []) hP d134_165 cr_11_353 (by decide +kernel) rfl (by simp) rfl ly_0 (by simp [Value.category]) ⟨Nat.zero_le _, Nat.zero_le _⟩ k
theorem b134_168 {d : Nat} {P : xPr} {Q : xQr} {r : Nat} {mem : Nat → Nat → Int32} (hP : Cl d none 134 P Q) {x1 : Int32} {x2 : Int32} {x3 : Int32} {x4 : Int32} {v5 : Value} {x6 : Int32} {v7 : Value} {y0 : Int32}
    (k : P 170 [.ref 0, .int x1, .int x2, .int x3, .int x4, .int y0, .int x6, v7] [] (0, 0) (LAY, RFu r, mem)) : P 168 [.ref 0, .int x1, .int x2, .int x3, .int x4, v5, .int x6, v7] [.int y0] (0, 0) (LAY, RFu r, mem) := by
  refine r_istore (L' := [.ref 0, .int x1, .int x2, .int x3, .int x4, .int y0, .int x6, v7]) hP d134_168 (Nat.le_of_ble_eq_true rfl) rfl ?_
  exact k
theorem b134_170 {d : Nat} {P : xPr} {Q : xQr} {r : Nat} {mem : Nat → Nat → Int32} (hP : Cl d none 134 P Q) {x1 : Int32} {x2 : Int32} {x3 : Int32} {x4 : Int32} {x5 : Int32} {x6 : Int32} {v7 : Value}
    (k : P 80 [.ref 0, .int x1, .int x2, .int x3, .int x4, .int x5, .int (x6 + nI 1), v7] [] (0, 0) (LAY, RFu r, mem)) : P 170 [.ref 0, .int x1, .int x2, .int x3, .int x4, .int x5, .int x6, v7] [] (0, 0) (LAY, RFu r, mem) := by
  refine r_iinc (v := nI 1) (L' := [.ref 0, .int x1, .int x2, .int x3, .int x4, .int x5, .int (x6 + nI 1), v7]) hP d134_170 rfl rfl rfl ?_
  refine r_goto (t := 80) hP d134_173 (by decide) ?_
  exact k
theorem b134_176 {d : Nat} {P : xPr} {Q : xQr} {r : Nat} {mem : Nat → Nat → Int32} (hP : Cl d none 134 P Q) {v1 : Value} {x2 : Int32} {x3 : Int32} {x4 : Int32} {x5 : Int32} {v6 : Value} {v7 : Value}
    (k : xCall d 31 [.ref 3] (LAY, RFu r, mem) (Bk P 180 [.ref 0, v1, .int x2, .int x3, .int x4, .int x5, v6, v7] [] (0, 0))) : P 176 [.ref 0, v1, .int x2, .int x3, .int x4, .int x5, v6, v7] [] (0, 0) (LAY, RFu r, mem) := by
  refine r_aload_n hP d134_176 rfl ?_
  refine r_getr (a := 3) hP d134_177 fr_11_19 rfl ly_0 rg_0_1 ?_
  exact r_callv (As := []) (S := []) hP d134_180 cr_11_213 (by decide +kernel) rfl (by simp) rfl ly_3 (by simp [Value.category]) ⟨Nat.zero_le _, Nat.zero_le _⟩ k
theorem b134_183 {d : Nat} {P : xPr} {Q : xQr} {r : Nat} {mem : Nat → Nat → Int32} (hP : Cl d none 134 P Q) {v1 : Value} {x2 : Int32} {x3 : Int32} {x4 : Int32} {x5 : Int32} {v6 : Value} {v7 : Value}
    (k : xCall d 32 [.ref 3, .int (x2 - x3)] (LAY, RFu r, mem) (Bk P 190 [.ref 0, v1, .int x2, .int x3, .int x4, .int x5, v6, v7] [] (0, 0))) : P 183 [.ref 0, v1, .int x2, .int x3, .int x4, .int x5, v6, v7] [] (0, 0) (LAY, RFu r, mem) := by
  refine r_aload_n hP d134_183 rfl ?_
  refine r_getr (a := 3) hP d134_184 fr_11_19 rfl ly_0 rg_0_1 ?_
  refine r_iload_n hP d134_187 rfl ?_
  refine r_iload_n hP d134_188 rfl ?_
  refine r_isub hP d134_189 ?_
  exact r_callv (As := [.int (x2 - x3)]) (S := []) hP d134_190 cr_11_222 (by decide +kernel) rfl (by simp [Value.category]) rfl ly_3 (by simp [Value.category]) ⟨Nat.zero_le _, Nat.zero_le _⟩ k
theorem b134_193 {d : Nat} {P : xPr} {Q : xQr} {r : Nat} {mem : Nat → Nat → Int32} (hP : Cl d none 134 P Q) {v1 : Value} {v2 : Value} {v3 : Value} {x4 : Int32} {x5 : Int32} {v6 : Value} {v7 : Value}
    (k : xCall d 32 [.ref 3, .int x5] (LAY, RFu r, mem) (Bk P 199 [.ref 0, v1, v2, v3, .int x4, .int x5, v6, v7] [] (0, 0))) : P 193 [.ref 0, v1, v2, v3, .int x4, .int x5, v6, v7] [] (0, 0) (LAY, RFu r, mem) := by
  refine r_aload_n hP d134_193 rfl ?_
  refine r_getr (a := 3) hP d134_194 fr_11_19 rfl ly_0 rg_0_1 ?_
  refine r_iload hP d134_197 rfl ?_
  exact r_callv (As := [.int x5]) (S := []) hP d134_199 cr_11_222 (by decide +kernel) rfl (by simp [Value.category]) rfl ly_3 (by simp [Value.category]) ⟨Nat.zero_le _, Nat.zero_le _⟩ k
theorem b134_202 {d : Nat} {P : xPr} {Q : xQr} {r : Nat} {mem : Nat → Nat → Int32} (hP : Cl d none 134 P Q) {v0 : Value} {v1 : Value} {v2 : Value} {v3 : Value} {x4 : Int32} {v5 : Value} {v6 : Value} {v7 : Value}
    (k : Q (some (.int x4)) (LAY, RFu r, mem)) : P 202 [v0, v1, v2, v3, .int x4, v5, v6, v7] [] (0, 0) (LAY, RFu r, mem) := by
  refine r_iload hP d134_202 rfl ?_
  exact r_iret hP d134_204 rfl k
theorem d135_0 : decode (xB 135) 0 = .ok (.iconst 0, 1) := by decide +kernel
theorem d135_1 : decode (xB 135) 1 = .ok (.istore_n 1, 1) := by decide +kernel
theorem d135_2 : decode (xB 135) 2 = .ok (.iconst (-1), 1) := by decide +kernel
theorem d135_3 : decode (xB 135) 3 = .ok (.istore_n 2, 1) := by decide +kernel
theorem d135_4 : decode (xB 135) 4 = .ok (.iconst 0, 1) := by decide +kernel
theorem d135_5 : decode (xB 135) 5 = .ok (.istore_n 3, 1) := by decide +kernel
theorem d135_6 : decode (xB 135) 6 = .ok (.iload_n 3, 1) := by decide +kernel
theorem d135_7 : decode (xB 135) 7 = .ok (.aload_n 0, 1) := by decide +kernel
theorem d135_8 : decode (xB 135) 8 = .ok (.getfield 26, 3) := by decide +kernel
theorem d135_11 : decode (xB 135) 11 = .ok (.getfield 192, 3) := by decide +kernel
theorem d135_14 : decode (xB 135) 14 = .ok (.if_icmp .ge 34, 3) := by decide +kernel
theorem d135_17 : decode (xB 135) 17 = .ok (.aload_n 0, 1) := by decide +kernel
theorem d135_18 : decode (xB 135) 18 = .ok (.getfield 96, 3) := by decide +kernel
theorem d135_21 : decode (xB 135) 21 = .ok (.iload_n 3, 1) := by decide +kernel
theorem d135_22 : decode (xB 135) 22 = .ok (.iaload, 1) := by decide +kernel
theorem d135_23 : decode (xB 135) 23 = .ok (.aload_n 0, 1) := by decide +kernel
theorem d135_24 : decode (xB 135) 24 = .ok (.iload_n 3, 1) := by decide +kernel
theorem d135_25 : decode (xB 135) 25 = .ok (.invokevirtual 347, 3) := by decide +kernel
theorem d135_28 : decode (xB 135) 28 = .ok (.isub, 1) := by decide +kernel
theorem d135_29 : decode (xB 135) 29 = .ok (.istore 4, 2) := by decide +kernel
theorem d135_31 : decode (xB 135) 31 = .ok (.iload 4, 2) := by decide +kernel
theorem d135_33 : decode (xB 135) 33 = .ok (.iload_n 1, 1) := by decide +kernel
theorem d135_34 : decode (xB 135) 34 = .ok (.if_icmp .le 8, 3) := by decide +kernel
theorem d135_37 : decode (xB 135) 37 = .ok (.iload 4, 2) := by decide +kernel
theorem d135_39 : decode (xB 135) 39 = .ok (.istore_n 1, 1) := by decide +kernel
theorem d135_40 : decode (xB 135) 40 = .ok (.iload_n 3, 1) := by decide +kernel
theorem d135_41 : decode (xB 135) 41 = .ok (.istore_n 2, 1) := by decide +kernel
theorem d135_42 : decode (xB 135) 42 = .ok (.iinc 3 1, 3) := by decide +kernel
theorem d135_45 : decode (xB 135) 45 = .ok (.goto (-39), 3) := by decide +kernel
theorem d135_48 : decode (xB 135) 48 = .ok (.iload_n 2, 1) := by decide +kernel
theorem d135_49 : decode (xB 135) 49 = .ok (.ireturn, 1) := by decide +kernel
theorem b135_0 {d : Nat} {P : xPr} {Q : xQr} {r : Nat} {mem : Nat → Nat → Int32} (hP : Cl d none 135 P Q)
    (k : P 6 [.ref 0, .int (nI 0), .int (-1), .int (nI 0), .null] [] (0, 0) (LAY, RFu r, mem)) : P 0 [.ref 0, .null, .null, .null, .null] [] (0, 0) (LAY, RFu r, mem) := by
  refine r_iconst (v := nI 0) hP d135_0 rfl ?_
  refine r_istore_n (L' := [.ref 0, .int (nI 0), .null, .null, .null]) hP d135_1 (Nat.le_of_ble_eq_true rfl) rfl ?_
  refine r_iconst (v := (-1)) hP d135_2 rfl ?_
  refine r_istore_n (L' := [.ref 0, .int (nI 0), .int (-1), .null, .null]) hP d135_3 (Nat.le_of_ble_eq_true rfl) rfl ?_
  refine r_iconst (v := nI 0) hP d135_4 rfl ?_
  refine r_istore_n (L' := [.ref 0, .int (nI 0), .int (-1), .int (nI 0), .null]) hP d135_5 (Nat.le_of_ble_eq_true rfl) rfl ?_
  exact k
theorem b135_6 {d : Nat} {P : xPr} {Q : xQr} {r : Nat} {mem : Nat → Nat → Int32} (hP : Cl d none 135 P Q) {x1 : Int32} {x2 : Int32} {x3 : Int32} {v4 : Value}
    (kt : (mem 5 1) ≤ x3 → P 48 [.ref 0, .int x1, .int x2, .int x3, v4] [] (0, 0) (LAY, RFu r, mem)) (kf : ¬ (mem 5 1) ≤ x3 → P 17 [.ref 0, .int x1, .int x2, .int x3, v4] [] (0, 0) (LAY, RFu r, mem)) : P 6 [.ref 0, .int x1, .int x2, .int x3, v4] [] (0, 0) (LAY, RFu r, mem) := by
  refine r_iload_n hP d135_6 rfl ?_
  refine r_aload_n hP d135_7 rfl ?_
  refine r_getr (a := 5) hP d135_8 fr_11_26 rfl ly_0 rg_0_2 ?_
  refine r_geti hP d135_11 fr_11_192 rfl ly_5 ?_
  exact r_icmp (t := 48) hP d135_14 (by decide) kt kf
theorem b135_17 {d : Nat} {P : xPr} {Q : xQr} {r : Nat} {mem : Nat → Nat → Int32} (hP : Cl d none 135 P Q) {x1 : Int32} {x2 : Int32} {x3 : Int32} {v4 : Value} (hi22 : vp_in x3 8)
    (k : xCall d 154 [.ref 0, .int x3] (LAY, RFu r, mem) (Bk P 25 [.ref 0, .int x1, .int x2, .int x3, v4] [.int (mem 106 x3.toNatClampNeg)] (0, 0))) : P 17 [.ref 0, .int x1, .int x2, .int x3, v4] [] (0, 0) (LAY, RFu r, mem) := by
  refine r_aload_n hP d135_17 rfl ?_
  refine r_getr (a := 106) hP d135_18 fr_11_96 rfl ly_0 rg_0_15 ?_
  refine r_iload_n hP d135_21 rfl ?_
  refine r_iaload hP d135_22 ly_106 hi22 ?_
  refine r_aload_n hP d135_23 rfl ?_
  refine r_iload_n hP d135_24 rfl ?_
  exact r_callv (As := [.int x3]) (S := [.int (mem 106 x3.toNatClampNeg)]) hP d135_25 cr_11_347 (by decide +kernel) rfl (by simp [Value.category]) rfl ly_0 (by simp [Value.category]) ⟨Nat.zero_le _, Nat.zero_le _⟩ k
theorem b135_28 {d : Nat} {P : xPr} {Q : xQr} {r : Nat} {mem : Nat → Nat → Int32} (hP : Cl d none 135 P Q) {x1 : Int32} {x2 : Int32} {x3 : Int32} {v4 : Value} {y0 : Int32} {y1 : Int32}
    (kt : (y0 - y1) ≤ x1 → P 42 [.ref 0, .int x1, .int x2, .int x3, .int (y0 - y1)] [] (0, 0) (LAY, RFu r, mem)) (kf : ¬ (y0 - y1) ≤ x1 → P 37 [.ref 0, .int x1, .int x2, .int x3, .int (y0 - y1)] [] (0, 0) (LAY, RFu r, mem)) : P 28 [.ref 0, .int x1, .int x2, .int x3, v4] [.int y1, .int y0] (0, 0) (LAY, RFu r, mem) := by
  refine r_isub hP d135_28 ?_
  refine r_istore (L' := [.ref 0, .int x1, .int x2, .int x3, .int (y0 - y1)]) hP d135_29 (Nat.le_of_ble_eq_true rfl) rfl ?_
  refine r_iload hP d135_31 rfl ?_
  refine r_iload_n hP d135_33 rfl ?_
  exact r_icmp (t := 42) hP d135_34 (by decide) kt kf
theorem b135_37 {d : Nat} {P : xPr} {Q : xQr} {r : Nat} {mem : Nat → Nat → Int32} (hP : Cl d none 135 P Q) {v1 : Value} {v2 : Value} {x3 : Int32} {x4 : Int32}
    (k : P 42 [.ref 0, .int x4, .int x3, .int x3, .int x4] [] (0, 0) (LAY, RFu r, mem)) : P 37 [.ref 0, v1, v2, .int x3, .int x4] [] (0, 0) (LAY, RFu r, mem) := by
  refine r_iload hP d135_37 rfl ?_
  refine r_istore_n (L' := [.ref 0, .int x4, v2, .int x3, .int x4]) hP d135_39 (Nat.le_of_ble_eq_true rfl) rfl ?_
  refine r_iload_n hP d135_40 rfl ?_
  refine r_istore_n (L' := [.ref 0, .int x4, .int x3, .int x3, .int x4]) hP d135_41 (Nat.le_of_ble_eq_true rfl) rfl ?_
  exact k
theorem b135_42 {d : Nat} {P : xPr} {Q : xQr} {r : Nat} {mem : Nat → Nat → Int32} (hP : Cl d none 135 P Q) {x1 : Int32} {x2 : Int32} {x3 : Int32} {v4 : Value}
    (k : P 6 [.ref 0, .int x1, .int x2, .int (x3 + nI 1), v4] [] (0, 0) (LAY, RFu r, mem)) : P 42 [.ref 0, .int x1, .int x2, .int x3, v4] [] (0, 0) (LAY, RFu r, mem) := by
  refine r_iinc (v := nI 1) (L' := [.ref 0, .int x1, .int x2, .int (x3 + nI 1), v4]) hP d135_42 rfl rfl rfl ?_
  refine r_goto (t := 6) hP d135_45 (by decide) ?_
  exact k
theorem b135_48 {d : Nat} {P : xPr} {Q : xQr} {r : Nat} {mem : Nat → Nat → Int32} (hP : Cl d none 135 P Q) {v0 : Value} {v1 : Value} {x2 : Int32} {v3 : Value} {v4 : Value}
    (k : Q (some (.int x2)) (LAY, RFu r, mem)) : P 48 [v0, v1, .int x2, v3, v4] [] (0, 0) (LAY, RFu r, mem) := by
  refine r_iload_n hP d135_48 rfl ?_
  exact r_iret hP d135_49 rfl k
theorem d136_0 : decode (xB 136) 0 = .ok (.iload_n 1, 1) := by decide +kernel
theorem d136_1 : decode (xB 136) 1 = .ok (.iconst 0, 1) := by decide +kernel
theorem d136_2 : decode (xB 136) 2 = .ok (.bipush 100, 2) := by decide +kernel
theorem d136_4 : decode (xB 136) 4 = .ok (.invokestatic 185, 3) := by decide +kernel
theorem d136_7 : decode (xB 136) 7 = .ok (.ifCond .ne 5, 3) := by decide +kernel
theorem d136_10 : decode (xB 136) 10 = .ok (.iconst (-1), 1) := by decide +kernel
theorem d136_11 : decode (xB 136) 11 = .ok (.ireturn, 1) := by decide +kernel
theorem d136_12 : decode (xB 136) 12 = .ok (.aload_n 0, 1) := by decide +kernel
theorem d136_13 : decode (xB 136) 13 = .ok (.getfield 26, 3) := by decide +kernel
theorem d136_16 : decode (xB 136) 16 = .ok (.getfield 313, 3) := by decide +kernel
theorem d136_19 : decode (xB 136) 19 = .ok (.iconst 2, 1) := by decide +kernel
theorem d136_20 : decode (xB 136) 20 = .ok (.if_icmp .ge 6, 3) := by decide +kernel
theorem d136_23 : decode (xB 136) 23 = .ok (.bipush (-2), 2) := by decide +kernel
theorem d136_25 : decode (xB 136) 25 = .ok (.ireturn, 1) := by decide +kernel
theorem d136_26 : decode (xB 136) 26 = .ok (.iconst (-1), 1) := by decide +kernel
theorem d136_27 : decode (xB 136) 27 = .ok (.istore_n 2, 1) := by decide +kernel
theorem d136_28 : decode (xB 136) 28 = .ok (.iconst 0, 1) := by decide +kernel
theorem d136_29 : decode (xB 136) 29 = .ok (.istore_n 3, 1) := by decide +kernel
theorem d136_30 : decode (xB 136) 30 = .ok (.iload_n 3, 1) := by decide +kernel
theorem d136_31 : decode (xB 136) 31 = .ok (.aload_n 0, 1) := by decide +kernel
theorem d136_32 : decode (xB 136) 32 = .ok (.getfield 26, 3) := by decide +kernel
theorem d136_35 : decode (xB 136) 35 = .ok (.getfield 313, 3) := by decide +kernel
theorem d136_38 : decode (xB 136) 38 = .ok (.if_icmp .ge 106, 3) := by decide +kernel
theorem d136_41 : decode (xB 136) 41 = .ok (.iload_n 3, 1) := by decide +kernel
theorem d136_42 : decode (xB 136) 42 = .ok (.iconst 1, 1) := by decide +kernel
theorem d136_43 : decode (xB 136) 43 = .ok (.iadd, 1) := by decide +kernel
theorem d136_44 : decode (xB 136) 44 = .ok (.istore 4, 2) := by decide +kernel
theorem d136_46 : decode (xB 136) 46 = .ok (.iload 4, 2) := by decide +kernel
theorem d136_48 : decode (xB 136) 48 = .ok (.aload_n 0, 1) := by decide +kernel
theorem d136_49 : decode (xB 136) 49 = .ok (.getfield 26, 3) := by decide +kernel
theorem d136_52 : decode (xB 136) 52 = .ok (.getfield 313, 3) := by decide +kernel
theorem d136_55 : decode (xB 136) 55 = .ok (.if_icmp .ge 83, 3) := by decide +kernel
theorem d136_58 : decode (xB 136) 58 = .ok (.aload_n 0, 1) := by decide +kernel
theorem d136_59 : decode (xB 136) 59 = .ok (.getfield 30, 3) := by decide +kernel
theorem d136_62 : decode (xB 136) 62 = .ok (.aload_n 0, 1) := by decide +kernel
theorem d136_63 : decode (xB 136) 63 = .ok (.getfield 26, 3) := by decide +kernel
theorem d136_66 : decode (xB 136) 66 = .ok (.invokevirtual 316, 3) := by decide +kernel
theorem d136_69 : decode (xB 136) 69 = .ok (.aload_n 0, 1) := by decide +kernel
theorem d136_70 : decode (xB 136) 70 = .ok (.getfield 30, 3) := by decide +kernel
theorem d136_73 : decode (xB 136) 73 = .ok (.iload_n 3, 1) := by decide +kernel
theorem d136_74 : decode (xB 136) 74 = .ok (.iload 4, 2) := by decide +kernel
theorem d136_76 : decode (xB 136) 76 = .ok (.invokevirtual 356, 3) := by decide +kernel
theorem d136_79 : decode (xB 136) 79 = .ok (.aload_n 0, 1) := by decide +kernel
theorem d136_80 : decode (xB 136) 80 = .ok (.aload_n 0, 1) := by decide +kernel
theorem d136_81 : decode (xB 136) 81 = .ok (.getfield 30, 3) := by decide +kernel
theorem d136_84 : decode (xB 136) 84 = .ok (.iload_n 1, 1) := by decide +kernel
theorem d136_85 : decode (xB 136) 85 = .ok (.invokevirtual 243, 3) := by decide +kernel
theorem d136_88 : decode (xB 136) 88 = .ok (.aload_n 0, 1) := by decide +kernel
theorem d136_89 : decode (xB 136) 89 = .ok (.invokevirtual 340, 3) := by decide +kernel
theorem d136_92 : decode (xB 136) 92 = .ok (.istore 5, 2) := by decide +kernel
theorem d136_94 : decode (xB 136) 94 = .ok (.iload_n 2, 1) := by decide +kernel
theorem d136_95 : decode (xB 136) 95 = .ok (.iconst (-1), 1) := by decide +kernel
theorem d136_96 : decode (xB 136) 96 = .ok (.if_icmp .eq 9, 3) := by decide +kernel
theorem d136_99 : decode (xB 136) 99 = .ok (.iload 5, 2) := by decide +kernel
theorem d136_101 : decode (xB 136) 101 = .ok (.iload_n 2, 1) := by decide +kernel
theorem d136_102 : decode (xB 136) 102 = .ok (.if_icmp .ge 30, 3) := by decide +kernel
theorem d136_105 : decode (xB 136) 105 = .ok (.iload 5, 2) := by decide +kernel
theorem d136_107 : decode (xB 136) 107 = .ok (.istore_n 2, 1) := by decide +kernel
theorem d136_108 : decode (xB 136) 108 = .ok (.aload_n 0, 1) := by decide +kernel
theorem d136_109 : decode (xB 136) 109 = .ok (.getfield 19, 3) := by decide +kernel
theorem d136_112 : decode (xB 136) 112 = .ok (.invokevirtual 213, 3) := by decide +kernel
theorem d136_115 : decode (xB 136) 115 = .ok (.aload_n 0, 1) := by decide +kernel
theorem d136_116 : decode (xB 136) 116 = .ok (.getfield 19, 3) := by decide +kernel
theorem d136_119 : decode (xB 136) 119 = .ok (.iload_n 3, 1) := by decide +kernel
theorem d136_120 : decode (xB 136) 120 = .ok (.invokevirtual 222, 3) := by decide +kernel
theorem d136_123 : decode (xB 136) 123 = .ok (.aload_n 0, 1) := by decide +kernel
theorem d136_124 : decode (xB 136) 124 = .ok (.getfield 19, 3) := by decide +kernel
theorem d136_127 : decode (xB 136) 127 = .ok (.iload 4, 2) := by decide +kernel
theorem d136_129 : decode (xB 136) 129 = .ok (.invokevirtual 222, 3) := by decide +kernel
theorem d136_132 : decode (xB 136) 132 = .ok (.iinc 4 1, 3) := by decide +kernel
theorem d136_135 : decode (xB 136) 135 = .ok (.goto (-89), 3) := by decide +kernel
theorem d136_138 : decode (xB 136) 138 = .ok (.iinc 3 1, 3) := by decide +kernel
theorem d136_141 : decode (xB 136) 141 = .ok (.goto (-111), 3) := by decide +kernel
theorem d136_144 : decode (xB 136) 144 = .ok (.iload_n 2, 1) := by decide +kernel
theorem d136_145 : decode (xB 136) 145 = .ok (.ireturn, 1) := by decide +kernel
theorem b136_0 {d : Nat} {P : xPr} {Q : xQr} {r : Nat} {mem : Nat → Nat → Int32} (hP : Cl d none 136 P Q) {p0 : Int32}
    (k : xCall d 151 [.int p0, .int (nI 0), .int (nI 100)] (LAY, RFu r, mem) (Bk P 4 [.ref 0, .int p0, .null, .null, .null, .null] [] (0, 0))) : P 0 [.ref 0, .int p0, .null, .null, .null, .null] [] (0, 0) (LAY, RFu r, mem) := by
  refine r_iload_n hP d136_0 rfl ?_
  refine r_iconst (v := nI 0) hP d136_1 rfl ?_
  refine r_bipush (v := nI 100) hP d136_2 rfl ?_
  exact r_calls (As := [.int p0, .int (nI 0), .int (nI 100)]) (S := []) hP d136_4 cr_11_185 (by decide +kernel) rfl (by simp [Value.category]) rfl (by simp [Value.category]) ⟨Nat.zero_le _, Nat.zero_le _⟩ k
theorem b136_7 {d : Nat} {P : xPr} {Q : xQr} {r : Nat} {mem : Nat → Nat → Int32} (hP : Cl d none 136 P Q) {x1 : Int32} {v2 : Value} {v3 : Value} {v4 : Value} {v5 : Value} {y0 : Int32}
    (kt : ¬ y0 = 0 → P 12 [.ref 0, .int x1, v2, v3, v4, v5] [] (0, 0) (LAY, RFu r, mem)) (kf : y0 = 0 → P 10 [.ref 0, .int x1, v2, v3, v4, v5] [] (0, 0) (LAY, RFu r, mem)) : P 7 [.ref 0, .int x1, v2, v3, v4, v5] [.int y0] (0, 0) (LAY, RFu r, mem) := by
  exact r_if (t := 12) hP d136_7 (by decide) kt (fun q => kf (Decidable.of_not_not q))
theorem b136_10 {d : Nat} {P : xPr} {Q : xQr} {r : Nat} {mem : Nat → Nat → Int32} (hP : Cl d none 136 P Q) {v0 : Value} {v1 : Value} {v2 : Value} {v3 : Value} {v4 : Value} {v5 : Value}
    (k : Q (some (.int (-1))) (LAY, RFu r, mem)) : P 10 [v0, v1, v2, v3, v4, v5] [] (0, 0) (LAY, RFu r, mem) := by
  refine r_iconst (v := (-1)) hP d136_10 rfl ?_
  exact r_iret hP d136_11 rfl k
theorem b136_12 {d : Nat} {P : xPr} {Q : xQr} {r : Nat} {mem : Nat → Nat → Int32} (hP : Cl d none 136 P Q) {x1 : Int32} {v2 : Value} {v3 : Value} {v4 : Value} {v5 : Value}
    (kt : (nI 2) ≤ (mem 5 0) → P 26 [.ref 0, .int x1, v2, v3, v4, v5] [] (0, 0) (LAY, RFu r, mem)) (kf : ¬ (nI 2) ≤ (mem 5 0) → P 23 [.ref 0, .int x1, v2, v3, v4, v5] [] (0, 0) (LAY, RFu r, mem)) : P 12 [.ref 0, .int x1, v2, v3, v4, v5] [] (0, 0) (LAY, RFu r, mem) := by
  refine r_aload_n hP d136_12 rfl ?_
  refine r_getr (a := 5) hP d136_13 fr_11_26 rfl ly_0 rg_0_2 ?_
  refine r_geti hP d136_16 fr_11_313 rfl ly_5 ?_
  refine r_iconst (v := nI 2) hP d136_19 rfl ?_
  exact r_icmp (t := 26) hP d136_20 (by decide) kt kf
theorem b136_23 {d : Nat} {P : xPr} {Q : xQr} {r : Nat} {mem : Nat → Nat → Int32} (hP : Cl d none 136 P Q) {v0 : Value} {v1 : Value} {v2 : Value} {v3 : Value} {v4 : Value} {v5 : Value}
    (k : Q (some (.int (-2))) (LAY, RFu r, mem)) : P 23 [v0, v1, v2, v3, v4, v5] [] (0, 0) (LAY, RFu r, mem) := by
  refine r_bipush (v := (-2)) hP d136_23 rfl ?_
  exact r_iret hP d136_25 rfl k
theorem b136_26 {d : Nat} {P : xPr} {Q : xQr} {r : Nat} {mem : Nat → Nat → Int32} (hP : Cl d none 136 P Q) {x1 : Int32} {v2 : Value} {v3 : Value} {v4 : Value} {v5 : Value}
    (k : P 30 [.ref 0, .int x1, .int (-1), .int (nI 0), v4, v5] [] (0, 0) (LAY, RFu r, mem)) : P 26 [.ref 0, .int x1, v2, v3, v4, v5] [] (0, 0) (LAY, RFu r, mem) := by
  refine r_iconst (v := (-1)) hP d136_26 rfl ?_
  refine r_istore_n (L' := [.ref 0, .int x1, .int (-1), v3, v4, v5]) hP d136_27 (Nat.le_of_ble_eq_true rfl) rfl ?_
  refine r_iconst (v := nI 0) hP d136_28 rfl ?_
  refine r_istore_n (L' := [.ref 0, .int x1, .int (-1), .int (nI 0), v4, v5]) hP d136_29 (Nat.le_of_ble_eq_true rfl) rfl ?_
  exact k
theorem b136_30 {d : Nat} {P : xPr} {Q : xQr} {r : Nat} {mem : Nat → Nat → Int32} (hP : Cl d none 136 P Q) {x1 : Int32} {x2 : Int32} {x3 : Int32} {v4 : Value} {v5 : Value}
    (kt : (mem 5 0) ≤ x3 → P 144 [.ref 0, .int x1, .int x2, .int x3, v4, v5] [] (0, 0) (LAY, RFu r, mem)) (kf : ¬ (mem 5 0) ≤ x3 → P 41 [.ref 0, .int x1, .int x2, .int x3, v4, v5] [] (0, 0) (LAY, RFu r, mem)) : P 30 [.ref 0, .int x1, .int x2, .int x3, v4, v5] [] (0, 0) (LAY, RFu r, mem) := by
  refine r_iload_n hP d136_30 rfl ?_
  refine r_aload_n hP d136_31 rfl ?_
  refine r_getr (a := 5) hP d136_32 fr_11_26 rfl ly_0 rg_0_2 ?_
  refine r_geti hP d136_35 fr_11_313 rfl ly_5 ?_
  exact r_icmp (t := 144) hP d136_38 (by decide) kt kf
theorem b136_41 {d : Nat} {P : xPr} {Q : xQr} {r : Nat} {mem : Nat → Nat → Int32} (hP : Cl d none 136 P Q) {x1 : Int32} {x2 : Int32} {x3 : Int32} {v4 : Value} {v5 : Value}
    (k : P 46 [.ref 0, .int x1, .int x2, .int x3, .int (x3 + (nI 1)), v5] [] (0, 0) (LAY, RFu r, mem)) : P 41 [.ref 0, .int x1, .int x2, .int x3, v4, v5] [] (0, 0) (LAY, RFu r, mem) := by
  refine r_iload_n hP d136_41 rfl ?_
  refine r_iconst (v := nI 1) hP d136_42 rfl ?_
  refine r_iadd hP d136_43 ?_
  refine r_istore (L' := [.ref 0, .int x1, .int x2, .int x3, .int (x3 + (nI 1)), v5]) hP d136_44 (Nat.le_of_ble_eq_true rfl) rfl ?_
  exact k
theorem b136_46 {d : Nat} {P : xPr} {Q : xQr} {r : Nat} {mem : Nat → Nat → Int32} (hP : Cl d none 136 P Q) {x1 : Int32} {x2 : Int32} {x3 : Int32} {x4 : Int32} {v5 : Value}
    (kt : (mem 5 0) ≤ x4 → P 138 [.ref 0, .int x1, .int x2, .int x3, .int x4, v5] [] (0, 0) (LAY, RFu r, mem)) (kf : ¬ (mem 5 0) ≤ x4 → P 58 [.ref 0, .int x1, .int x2, .int x3, .int x4, v5] [] (0, 0) (LAY, RFu r, mem)) : P 46 [.ref 0, .int x1, .int x2, .int x3, .int x4, v5] [] (0, 0) (LAY, RFu r, mem) := by
  refine r_iload hP d136_46 rfl ?_
  refine r_aload_n hP d136_48 rfl ?_
  refine r_getr (a := 5) hP d136_49 fr_11_26 rfl ly_0 rg_0_2 ?_
  refine r_geti hP d136_52 fr_11_313 rfl ly_5 ?_
  exact r_icmp (t := 138) hP d136_55 (by decide) kt kf
theorem b136_58 {d : Nat} {P : xPr} {Q : xQr} {r : Nat} {mem : Nat → Nat → Int32} (hP : Cl d none 136 P Q) {x1 : Int32} {x2 : Int32} {x3 : Int32} {x4 : Int32} {v5 : Value}
    (k : xCall d 88 [.ref 26, .ref 5] (LAY, RFu r, mem) (Bk P 66 [.ref 0, .int x1, .int x2, .int x3, .int x4, v5] [] (0, 0))) : P 58 [.ref 0, .int x1, .int x2, .int x3, .int x4, v5] [] (0, 0) (LAY, RFu r, mem) := by
  refine r_aload_n hP d136_58 rfl ?_
  refine r_getr (a := 26) hP d136_59 fr_11_30 rfl ly_0 rg_0_3 ?_
  refine r_aload_n hP d136_62 rfl ?_
  refine r_getr (a := 5) hP d136_63 fr_11_26 rfl ly_0 rg_0_2 ?_
  exact r_callv (As := [.ref 5]) (S := []) hP d136_66 cr_11_316 (by decide +kernel) rfl (by simp [Value.category]) rfl ly_26 (by simp [Value.category]) ⟨Nat.zero_le _, Nat.zero_le _⟩ k
theorem b136_69 {d : Nat} {P : xPr} {Q : xQr} {r : Nat} {mem : Nat → Nat → Int32} (hP : Cl d none 136 P Q) {x1 : Int32} {x2 : Int32} {x3 : Int32} {x4 : Int32} {v5 : Value}
    (k : xCall d 93 [.ref 26, .int x3, .int x4] (LAY, RFu r, mem) (Bk P 76 [.ref 0, .int x1, .int x2, .int x3, .int x4, v5] [] (0, 0))) : P 69 [.ref 0, .int x1, .int x2, .int x3, .int x4, v5] [] (0, 0) (LAY, RFu r, mem) := by
  refine r_aload_n hP d136_69 rfl ?_
  refine r_getr (a := 26) hP d136_70 fr_11_30 rfl ly_0 rg_0_3 ?_
  refine r_iload_n hP d136_73 rfl ?_
  refine r_iload hP d136_74 rfl ?_
  exact r_callv (As := [.int x3, .int x4]) (S := []) hP d136_76 cr_11_356 (by decide +kernel) rfl (by simp [Value.category]) rfl ly_26 (by simp [Value.category]) ⟨Nat.zero_le _, Nat.zero_le _⟩ k
theorem b136_79 {d : Nat} {P : xPr} {Q : xQr} {r : Nat} {mem : Nat → Nat → Int32} (hP : Cl d none 136 P Q) {x1 : Int32} {x2 : Int32} {x3 : Int32} {x4 : Int32} {v5 : Value}
    (k : xCall d 153 [.ref 0, .ref 26, .int x1] (LAY, RFu r, mem) (Bk P 85 [.ref 0, .int x1, .int x2, .int x3, .int x4, v5] [] (0, 0))) : P 79 [.ref 0, .int x1, .int x2, .int x3, .int x4, v5] [] (0, 0) (LAY, RFu r, mem) := by
  refine r_aload_n hP d136_79 rfl ?_
  refine r_aload_n hP d136_80 rfl ?_
  refine r_getr (a := 26) hP d136_81 fr_11_30 rfl ly_0 rg_0_3 ?_
  refine r_iload_n hP d136_84 rfl ?_
  exact r_callv (As := [.ref 26, .int x1]) (S := []) hP d136_85 cr_11_243 (by decide +kernel) rfl (by simp [Value.category]) rfl ly_0 (by simp [Value.category]) ⟨Nat.zero_le _, Nat.zero_le _⟩ k
theorem b136_88 {d : Nat} {P : xPr} {Q : xQr} {r : Nat} {mem : Nat → Nat → Int32} (hP : Cl d none 136 P Q) {x1 : Int32} {x2 : Int32} {x3 : Int32} {x4 : Int32} {v5 : Value}
    (k : xCall d 155 [.ref 0] (LAY, RFu r, mem) (Bk P 89 [.ref 0, .int x1, .int x2, .int x3, .int x4, v5] [] (0, 0))) : P 88 [.ref 0, .int x1, .int x2, .int x3, .int x4, v5] [] (0, 0) (LAY, RFu r, mem) := by
  refine r_aload_n hP d136_88 rfl ?_
  exact r_callv (As := []) (S := []) hP d136_89 cr_11_340 (by decide +kernel) rfl (by simp) rfl ly_0 (by simp [Value.category]) ⟨Nat.zero_le _, Nat.zero_le _⟩ k
theorem b136_92 {d : Nat} {P : xPr} {Q : xQr} {r : Nat} {mem : Nat → Nat → Int32} (hP : Cl d none 136 P Q) {x1 : Int32} {x2 : Int32} {x3 : Int32} {x4 : Int32} {v5 : Value} {y0 : Int32}
    (kt : x2 = (-1) → P 105 [.ref 0, .int x1, .int x2, .int x3, .int x4, .int y0] [] (0, 0) (LAY, RFu r, mem)) (kf : ¬ x2 = (-1) → P 99 [.ref 0, .int x1, .int x2, .int x3, .int x4, .int y0] [] (0, 0) (LAY, RFu r, mem)) : P 92 [.ref 0, .int x1, .int x2, .int x3, .int x4, v5] [.int y0] (0, 0) (LAY, RFu r, mem) := by
  refine r_istore (L' := [.ref 0, .int x1, .int x2, .int x3, .int x4, .int y0]) hP d136_92 (Nat.le_of_ble_eq_true rfl) rfl ?_
  refine r_iload_n hP d136_94 rfl ?_
  refine r_iconst (v := (-1)) hP d136_95 rfl ?_
  exact r_icmp (t := 105) hP d136_96 (by decide) kt kf
theorem b136_99 {d : Nat} {P : xPr} {Q : xQr} {r : Nat} {mem : Nat → Nat → Int32} (hP : Cl d none 136 P Q) {x1 : Int32} {x2 : Int32} {x3 : Int32} {x4 : Int32} {x5 : Int32}
    (kt : x2 ≤ x5 → P 132 [.ref 0, .int x1, .int x2, .int x3, .int x4, .int x5] [] (0, 0) (LAY, RFu r, mem)) (kf : ¬ x2 ≤ x5 → P 105 [.ref 0, .int x1, .int x2, .int x3, .int x4, .int x5] [] (0, 0) (LAY, RFu r, mem)) : P 99 [.ref 0, .int x1, .int x2, .int x3, .int x4, .int x5] [] (0, 0) (LAY, RFu r, mem) := by
  refine r_iload hP d136_99 rfl ?_
  refine r_iload_n hP d136_101 rfl ?_
  exact r_icmp (t := 132) hP d136_102 (by decide) kt kf
theorem b136_105 {d : Nat} {P : xPr} {Q : xQr} {r : Nat} {mem : Nat → Nat → Int32} (hP : Cl d none 136 P Q) {x1 : Int32} {v2 : Value} {x3 : Int32} {x4 : Int32} {x5 : Int32}
    (k : xCall d 31 [.ref 3] (LAY, RFu r, mem) (Bk P 112 [.ref 0, .int x1, .int x5, .int x3, .int x4, .int x5] [] (0, 0))) : P 105 [.ref 0, .int x1, v2, .int x3, .int x4, .int x5] [] (0, 0) (LAY, RFu r, mem) := by
  refine r_iload hP d136_105 rfl ?_
  refine r_istore_n (L' := [.ref 0, .int x1, .int x5, .int x3, .int x4, .int x5]) hP d136_107 (Nat.le_of_ble_eq_true rfl) rfl ?_
  refine r_aload_n hP d136_108 rfl ?_
  refine r_getr (a := 3) hP d136_109 fr_11_19 rfl ly_0 rg_0_1 ?_
  exact r_callv (As := []) (S := []) hP d136_112 cr_11_213 (by decide +kernel) rfl (by simp) rfl ly_3 (by simp [Value.category]) ⟨Nat.zero_le _, Nat.zero_le _⟩ k
theorem b136_115 {d : Nat} {P : xPr} {Q : xQr} {r : Nat} {mem : Nat → Nat → Int32} (hP : Cl d none 136 P Q) {x1 : Int32} {x2 : Int32} {x3 : Int32} {x4 : Int32} {v5 : Value}
    (k : xCall d 32 [.ref 3, .int x3] (LAY, RFu r, mem) (Bk P 120 [.ref 0, .int x1, .int x2, .int x3, .int x4, v5] [] (0, 0))) : P 115 [.ref 0, .int x1, .int x2, .int x3, .int x4, v5] [] (0, 0) (LAY, RFu r, mem) := by
  refine r_aload_n hP d136_115 rfl ?_
  refine r_getr (a := 3) hP d136_116 fr_11_19 rfl ly_0 rg_0_1 ?_
  refine r_iload_n hP d136_119 rfl ?_
  exact r_callv (As := [.int x3]) (S := []) hP d136_120 cr_11_222 (by decide +kernel) rfl (by simp [Value.category]) rfl ly_3 (by simp [Value.category]) ⟨Nat.zero_le _, Nat.zero_le _⟩ k
theorem b136_123 {d : Nat} {P : xPr} {Q : xQr} {r : Nat} {mem : Nat → Nat → Int32} (hP : Cl d none 136 P Q) {x1 : Int32} {x2 : Int32} {x3 : Int32} {x4 : Int32} {v5 : Value}
    (k : xCall d 32 [.ref 3, .int x4] (LAY, RFu r, mem) (Bk P 129 [.ref 0, .int x1, .int x2, .int x3, .int x4, v5] [] (0, 0))) : P 123 [.ref 0, .int x1, .int x2, .int x3, .int x4, v5] [] (0, 0) (LAY, RFu r, mem) := by
  refine r_aload_n hP d136_123 rfl ?_
  refine r_getr (a := 3) hP d136_124 fr_11_19 rfl ly_0 rg_0_1 ?_
  refine r_iload hP d136_127 rfl ?_
  exact r_callv (As := [.int x4]) (S := []) hP d136_129 cr_11_222 (by decide +kernel) rfl (by simp [Value.category]) rfl ly_3 (by simp [Value.category]) ⟨Nat.zero_le _, Nat.zero_le _⟩ k
theorem b136_132 {d : Nat} {P : xPr} {Q : xQr} {r : Nat} {mem : Nat → Nat → Int32} (hP : Cl d none 136 P Q) {x1 : Int32} {x2 : Int32} {x3 : Int32} {x4 : Int32} {v5 : Value}
    (k : P 46 [.ref 0, .int x1, .int x2, .int x3, .int (x4 + nI 1), v5] [] (0, 0) (LAY, RFu r, mem)) : P 132 [.ref 0, .int x1, .int x2, .int x3, .int x4, v5] [] (0, 0) (LAY, RFu r, mem) := by
  refine r_iinc (v := nI 1) (L' := [.ref 0, .int x1, .int x2, .int x3, .int (x4 + nI 1), v5]) hP d136_132 rfl rfl rfl ?_
  refine r_goto (t := 46) hP d136_135 (by decide) ?_
  exact k
theorem b136_138 {d : Nat} {P : xPr} {Q : xQr} {r : Nat} {mem : Nat → Nat → Int32} (hP : Cl d none 136 P Q) {x1 : Int32} {x2 : Int32} {x3 : Int32} {v4 : Value} {v5 : Value}
    (k : P 30 [.ref 0, .int x1, .int x2, .int (x3 + nI 1), v4, v5] [] (0, 0) (LAY, RFu r, mem)) : P 138 [.ref 0, .int x1, .int x2, .int x3, v4, v5] [] (0, 0) (LAY, RFu r, mem) := by
  refine r_iinc (v := nI 1) (L' := [.ref 0, .int x1, .int x2, .int (x3 + nI 1), v4, v5]) hP d136_138 rfl rfl rfl ?_
  refine r_goto (t := 30) hP d136_141 (by decide) ?_
  exact k
theorem b136_144 {d : Nat} {P : xPr} {Q : xQr} {r : Nat} {mem : Nat → Nat → Int32} (hP : Cl d none 136 P Q) {v0 : Value} {v1 : Value} {x2 : Int32} {v3 : Value} {v4 : Value} {v5 : Value}
    (k : Q (some (.int x2)) (LAY, RFu r, mem)) : P 144 [v0, v1, .int x2, v3, v4, v5] [] (0, 0) (LAY, RFu r, mem) := by
  refine r_iload_n hP d136_144 rfl ?_
  exact r_iret hP d136_145 rfl k
theorem d137_0 : decode (xB 137) 0 = .ok (.aload_n 0, 1) := by decide +kernel
theorem d137_1 : decode (xB 137) 1 = .ok (.getfield 26, 3) := by decide +kernel
theorem d137_4 : decode (xB 137) 4 = .ok (.iload_n 1, 1) := by decide +kernel
theorem d137_5 : decode (xB 137) 5 = .ok (.invokevirtual 127, 3) := by decide +kernel
theorem d137_8 : decode (xB 137) 8 = .ok (.ifCond .eq 22, 3) := by decide +kernel
theorem d137_11 : decode (xB 137) 11 = .ok (.iload_n 2, 1) := by decide +kernel
theorem d137_12 : decode (xB 137) 12 = .ok (.iconst 0, 1) := by decide +kernel
theorem d137_13 : decode (xB 137) 13 = .ok (.bipush 100, 2) := by decide +kernel
theorem d137_15 : decode (xB 137) 15 = .ok (.invokestatic 185, 3) := by decide +kernel
theorem d137_18 : decode (xB 137) 18 = .ok (.ifCond .eq 12, 3) := by decide +kernel
theorem d137_21 : decode (xB 137) 21 = .ok (.aload_n 0, 1) := by decide +kernel
theorem d137_22 : decode (xB 137) 22 = .ok (.getfield 359, 3) := by decide +kernel
theorem d137_25 : decode (xB 137) 25 = .ok (.bipush 8, 2) := by decide +kernel
theorem d137_27 : decode (xB 137) 27 = .ok (.if_icmp .lt 5, 3) := by decide +kernel
theorem d137_30 : decode (xB 137) 30 = .ok (.iconst (-1), 1) := by decide +kernel
theorem d137_31 : decode (xB 137) 31 = .ok (.ireturn, 1) := by decide +kernel
theorem d137_32 : decode (xB 137) 32 = .ok (.aload_n 0, 1) := by decide +kernel
theorem d137_33 : decode (xB 137) 33 = .ok (.getfield 89, 3) := by decide +kernel
theorem d137_36 : decode (xB 137) 36 = .ok (.aload_n 0, 1) := by decide +kernel
theorem d137_37 : decode (xB 137) 37 = .ok (.getfield 359, 3) := by decide +kernel
theorem d137_40 : decode (xB 137) 40 = .ok (.iload_n 1, 1) := by decide +kernel
theorem d137_41 : decode (xB 137) 41 = .ok (.iastore, 1) := by decide +kernel
theorem d137_42 : decode (xB 137) 42 = .ok (.aload_n 0, 1) := by decide +kernel
theorem d137_43 : decode (xB 137) 43 = .ok (.getfield 93, 3) := by decide +kernel
theorem d137_46 : decode (xB 137) 46 = .ok (.aload_n 0, 1) := by decide +kernel
theorem d137_47 : decode (xB 137) 47 = .ok (.getfield 359, 3) := by decide +kernel
theorem d137_50 : decode (xB 137) 50 = .ok (.iload_n 2, 1) := by decide +kernel
theorem d137_51 : decode (xB 137) 51 = .ok (.iastore, 1) := by decide +kernel
theorem d137_52 : decode (xB 137) 52 = .ok (.aload_n 0, 1) := by decide +kernel
theorem d137_53 : decode (xB 137) 53 = .ok (.dup, 1) := by decide +kernel
theorem d137_54 : decode (xB 137) 54 = .ok (.getfield 359, 3) := by decide +kernel
theorem d137_57 : decode (xB 137) 57 = .ok (.iconst 1, 1) := by decide +kernel
theorem d137_58 : decode (xB 137) 58 = .ok (.iadd, 1) := by decide +kernel
theorem d137_59 : decode (xB 137) 59 = .ok (.putfield 359, 3) := by decide +kernel
theorem d137_62 : decode (xB 137) 62 = .ok (.aload_n 0, 1) := by decide +kernel
theorem d137_63 : decode (xB 137) 63 = .ok (.getfield 359, 3) := by decide +kernel
theorem d137_66 : decode (xB 137) 66 = .ok (.ireturn, 1) := by decide +kernel
theorem b137_0 {d : Nat} {P : xPr} {Q : xQr} {r : Nat} {mem : Nat → Nat → Int32} (hP : Cl d none 137 P Q) {p0 : Int32} {p1 : Int32}
    (k : xCall d 83 [.ref 5, .int p0] (LAY, RFu r, mem) (Bk P 5 [.ref 0, .int p0, .int p1] [] (0, 0))) : P 0 [.ref 0, .int p0, .int p1] [] (0, 0) (LAY, RFu r, mem) := by
  refine r_aload_n hP d137_0 rfl ?_
  refine r_getr (a := 5) hP d137_1 fr_11_26 rfl ly_0 rg_0_2 ?_
  refine r_iload_n hP d137_4 rfl ?_
  exact r_callv (As := [.int p0]) (S := []) hP d137_5 cr_11_127 (by decide +kernel) rfl (by simp [Value.category]) rfl ly_5 (by simp [Value.category]) ⟨Nat.zero_le _, Nat.zero_le _⟩ k
theorem b137_8 {d : Nat} {P : xPr} {Q : xQr} {r : Nat} {mem : Nat → Nat → Int32} (hP : Cl d none 137 P Q) {x1 : Int32} {x2 : Int32} {y0 : Int32}
    (kt : y0 = 0 → P 30 [.ref 0, .int x1, .int x2] [] (0, 0) (LAY, RFu r, mem)) (kf : ¬ y0 = 0 → P 11 [.ref 0, .int x1, .int x2] [] (0, 0) (LAY, RFu r, mem)) : P 8 [.ref 0, .int x1, .int x2] [.int y0] (0, 0) (LAY, RFu r, mem) := by
  exact r_if (t := 30) hP d137_8 (by decide) kt kf
theorem b137_11 {d : Nat} {P : xPr} {Q : xQr} {r : Nat} {mem : Nat → Nat → Int32} (hP : Cl d none 137 P Q) {x1 : Int32} {x2 : Int32}
    (k : xCall d 151 [.int x2, .int (nI 0), .int (nI 100)] (LAY, RFu r, mem) (Bk P 15 [.ref 0, .int x1, .int x2] [] (0, 0))) : P 11 [.ref 0, .int x1, .int x2] [] (0, 0) (LAY, RFu r, mem) := by
  refine r_iload_n hP d137_11 rfl ?_
  refine r_iconst (v := nI 0) hP d137_12 rfl ?_
  refine r_bipush (v := nI 100) hP d137_13 rfl ?_
  exact r_calls (As := [.int x2, .int (nI 0), .int (nI 100)]) (S := []) hP d137_15 cr_11_185 (by decide +kernel) rfl (by simp [Value.category]) rfl (by simp [Value.category]) ⟨Nat.zero_le _, Nat.zero_le _⟩ k
theorem b137_18 {d : Nat} {P : xPr} {Q : xQr} {r : Nat} {mem : Nat → Nat → Int32} (hP : Cl d none 137 P Q) {x1 : Int32} {x2 : Int32} {y0 : Int32}
    (kt : y0 = 0 → P 30 [.ref 0, .int x1, .int x2] [] (0, 0) (LAY, RFu r, mem)) (kf : ¬ y0 = 0 → P 21 [.ref 0, .int x1, .int x2] [] (0, 0) (LAY, RFu r, mem)) : P 18 [.ref 0, .int x1, .int x2] [.int y0] (0, 0) (LAY, RFu r, mem) := by
  exact r_if (t := 30) hP d137_18 (by decide) kt kf
theorem b137_21 {d : Nat} {P : xPr} {Q : xQr} {r : Nat} {mem : Nat → Nat → Int32} (hP : Cl d none 137 P Q) {x1 : Int32} {x2 : Int32}
    (kt : (mem 0 14) < (nI 8) → P 32 [.ref 0, .int x1, .int x2] [] (0, 0) (LAY, RFu r, mem)) (kf : ¬ (mem 0 14) < (nI 8) → P 30 [.ref 0, .int x1, .int x2] [] (0, 0) (LAY, RFu r, mem)) : P 21 [.ref 0, .int x1, .int x2] [] (0, 0) (LAY, RFu r, mem) := by
  refine r_aload_n hP d137_21 rfl ?_
  refine r_geti hP d137_22 fr_11_359 rfl ly_0 ?_
  refine r_bipush (v := nI 8) hP d137_25 rfl ?_
  exact r_icmp (t := 32) hP d137_27 (by decide) kt kf
theorem b137_30 {d : Nat} {P : xPr} {Q : xQr} {r : Nat} {mem : Nat → Nat → Int32} (hP : Cl d none 137 P Q) {v0 : Value} {v1 : Value} {v2 : Value}
    (k : Q (some (.int (-1))) (LAY, RFu r, mem)) : P 30 [v0, v1, v2] [] (0, 0) (LAY, RFu r, mem) := by
  refine r_iconst (v := (-1)) hP d137_30 rfl ?_
  exact r_iret hP d137_31 rfl k
theorem b137_32 {d : Nat} {P : xPr} {Q : xQr} {r : Nat} {mem : Nat → Nat → Int32} (hP : Cl d none 137 P Q) {x1 : Int32} {x2 : Int32} (hi41 : vp_in (mem 0 14) 8) (hi51 : vp_in ((xu2 mem 104 (mem 0 14).toNatClampNeg x1) 0 14) 8)
    (k : Q (some (.int ((xu2 (xu2 (xu2 mem 104 (mem 0 14).toNatClampNeg x1) 105 ((xu2 mem 104 (mem 0 14).toNatClampNeg x1) 0 14).toNatClampNeg x2) 0 14 (((xu2 (xu2 mem 104 (mem 0 14).toNatClampNeg x1) 105 ((xu2 mem 104 (mem 0 14).toNatClampNeg x1) 0 14).toNatClampNeg x2) 0 14) + (nI 1))) 0 14))) (LAY, RFu r, xu2 (xu2 (xu2 mem 104 (mem 0 14).toNatClampNeg x1) 105 ((xu2 mem 104 (mem 0 14).toNatClampNeg x1) 0 14).toNatClampNeg x2) 0 14 (((xu2 (xu2 mem 104 (mem 0 14).toNatClampNeg x1) 105 ((xu2 mem 104 (mem 0 14).toNatClampNeg x1) 0 14).toNatClampNeg x2) 0 14) + (nI 1)))) : P 32 [.ref 0, .int x1, .int x2] [] (0, 0) (LAY, RFu r, mem) := by
  refine r_aload_n hP d137_32 rfl ?_
  refine r_getr (a := 104) hP d137_33 fr_11_89 rfl ly_0 rg_0_12 ?_
  refine r_aload_n hP d137_36 rfl ?_
  refine r_geti hP d137_37 fr_11_359 rfl ly_0 ?_
  refine r_iload_n hP d137_40 rfl ?_
  refine r_iastore hP d137_41 ly_104 hi41 ?_
  refine r_aload_n hP d137_42 rfl ?_
  refine r_getr (a := 105) hP d137_43 fr_11_93 rfl ly_0 rg_0_13 ?_
  refine r_aload_n hP d137_46 rfl ?_
  refine r_geti hP d137_47 fr_11_359 rfl ly_0 ?_
  refine r_iload_n hP d137_50 rfl ?_
  refine r_iastore hP d137_51 ly_105 hi51 ?_
  refine r_aload_n hP d137_52 rfl ?_
  refine r_dup hP d137_53 rfl ?_
  refine r_geti hP d137_54 fr_11_359 rfl ly_0 ?_
  refine r_iconst (v := nI 1) hP d137_57 rfl ?_
  refine r_iadd hP d137_58 ?_
  refine r_puti hP d137_59 fr_11_359 rfl (fun q => by cases q) ly_0 ?_
  refine r_aload_n hP d137_62 rfl ?_
  refine r_geti hP d137_63 fr_11_359 rfl ly_0 ?_
  exact r_iret hP d137_66 rfl k
theorem d138_0 : decode (xB 138) 0 = .ok (.aload_n 0, 1) := by decide +kernel
theorem d138_1 : decode (xB 138) 1 = .ok (.getfield 359, 3) := by decide +kernel
theorem d138_4 : decode (xB 138) 4 = .ok (.istore_n 1, 1) := by decide +kernel
theorem d138_5 : decode (xB 138) 5 = .ok (.aload_n 0, 1) := by decide +kernel
theorem d138_6 : decode (xB 138) 6 = .ok (.iconst 0, 1) := by decide +kernel
theorem d138_7 : decode (xB 138) 7 = .ok (.putfield 359, 3) := by decide +kernel
theorem d138_10 : decode (xB 138) 10 = .ok (.iload_n 1, 1) := by decide +kernel
theorem d138_11 : decode (xB 138) 11 = .ok (.ireturn, 1) := by decide +kernel
theorem b138_0 {d : Nat} {P : xPr} {Q : xQr} {r : Nat} {mem : Nat → Nat → Int32} (hP : Cl d none 138 P Q)
    (k : Q (some (.int (mem 0 14))) (LAY, RFu r, xu2 mem 0 14 (nI 0))) : P 0 [.ref 0, .null] [] (0, 0) (LAY, RFu r, mem) := by
  refine r_aload_n hP d138_0 rfl ?_
  refine r_geti hP d138_1 fr_11_359 rfl ly_0 ?_
  refine r_istore_n (L' := [.ref 0, .int (mem 0 14)]) hP d138_4 (Nat.le_of_ble_eq_true rfl) rfl ?_
  refine r_aload_n hP d138_5 rfl ?_
  refine r_iconst (v := nI 0) hP d138_6 rfl ?_
  refine r_puti hP d138_7 fr_11_359 rfl (fun q => by cases q) ly_0 ?_
  refine r_iload_n hP d138_10 rfl ?_
  exact r_iret hP d138_11 rfl k
theorem d139_0 : decode (xB 139) 0 = .ok (.iload_n 1, 1) := by decide +kernel
theorem d139_1 : decode (xB 139) 1 = .ok (.iconst 0, 1) := by decide +kernel
theorem d139_2 : decode (xB 139) 2 = .ok (.bipush 100, 2) := by decide +kernel
theorem d139_4 : decode (xB 139) 4 = .ok (.invokestatic 185, 3) := by decide +kernel
theorem d139_7 : decode (xB 139) 7 = .ok (.ifCond .ne 5, 3) := by decide +kernel
theorem d139_10 : decode (xB 139) 10 = .ok (.iconst (-1), 1) := by decide +kernel
theorem d139_11 : decode (xB 139) 11 = .ok (.ireturn, 1) := by decide +kernel
theorem d139_12 : decode (xB 139) 12 = .ok (.aload_n 0, 1) := by decide +kernel
theorem d139_13 : decode (xB 139) 13 = .ok (.aload_n 0, 1) := by decide +kernel
theorem d139_14 : decode (xB 139) 14 = .ok (.getfield 26, 3) := by decide +kernel
theorem d139_17 : decode (xB 139) 17 = .ok (.iload_n 1, 1) := by decide +kernel
theorem d139_18 : decode (xB 139) 18 = .ok (.invokevirtual 243, 3) := by decide +kernel
theorem d139_21 : decode (xB 139) 21 = .ok (.aload_n 0, 1) := by decide +kernel
theorem d139_22 : decode (xB 139) 22 = .ok (.getfield 19, 3) := by decide +kernel
theorem d139_25 : decode (xB 139) 25 = .ok (.invokevirtual 213, 3) := by decide +kernel
theorem d139_28 : decode (xB 139) 28 = .ok (.aload_n 0, 1) := by decide +kernel
theorem d139_29 : decode (xB 139) 29 = .ok (.getfield 19, 3) := by decide +kernel
theorem d139_32 : decode (xB 139) 32 = .ok (.aload_n 0, 1) := by decide +kernel
theorem d139_33 : decode (xB 139) 33 = .ok (.invokevirtual 362, 3) := by decide +kernel
theorem d139_36 : decode (xB 139) 36 = .ok (.ifCond .eq 7, 3) := by decide +kernel
theorem d139_39 : decode (xB 139) 39 = .ok (.iconst 1, 1) := by decide +kernel
theorem d139_40 : decode (xB 139) 40 = .ok (.goto 4, 3) := by decide +kernel
theorem d139_43 : decode (xB 139) 43 = .ok (.iconst 0, 1) := by decide +kernel
theorem d139_44 : decode (xB 139) 44 = .ok (.invokevirtual 222, 3) := by decide +kernel
theorem d139_47 : decode (xB 139) 47 = .ok (.iconst 0, 1) := by decide +kernel
theorem d139_48 : decode (xB 139) 48 = .ok (.istore_n 2, 1) := by decide +kernel
theorem d139_49 : decode (xB 139) 49 = .ok (.iconst 0, 1) := by decide +kernel
theorem d139_50 : decode (xB 139) 50 = .ok (.istore_n 3, 1) := by decide +kernel
theorem d139_51 : decode (xB 139) 51 = .ok (.iload_n 3, 1) := by decide +kernel
theorem d139_52 : decode (xB 139) 52 = .ok (.aload_n 0, 1) := by decide +kernel
theorem d139_53 : decode (xB 139) 53 = .ok (.getfield 26, 3) := by decide +kernel
theorem d139_56 : decode (xB 139) 56 = .ok (.getfield 313, 3) := by decide +kernel
theorem d139_59 : decode (xB 139) 59 = .ok (.if_icmp .ge 71, 3) := by decide +kernel
theorem d139_62 : decode (xB 139) 62 = .ok (.aload_n 0, 1) := by decide +kernel
theorem d139_63 : decode (xB 139) 63 = .ok (.getfield 26, 3) := by decide +kernel
theorem d139_66 : decode (xB 139) 66 = .ok (.getfield 189, 3) := by decide +kernel
theorem d139_69 : decode (xB 139) 69 = .ok (.iload_n 3, 1) := by decide +kernel
theorem d139_70 : decode (xB 139) 70 = .ok (.iaload, 1) := by decide +kernel
theorem d139_71 : decode (xB 139) 71 = .ok (.ifCond .le 53, 3) := by decide +kernel
theorem d139_74 : decode (xB 139) 74 = .ok (.aload_n 0, 1) := by decide +kernel
theorem d139_75 : decode (xB 139) 75 = .ok (.getfield 30, 3) := by decide +kernel
theorem d139_78 : decode (xB 139) 78 = .ok (.aload_n 0, 1) := by decide +kernel
theorem d139_79 : decode (xB 139) 79 = .ok (.getfield 26, 3) := by decide +kernel
theorem d139_82 : decode (xB 139) 82 = .ok (.invokevirtual 316, 3) := by decide +kernel
theorem d139_85 : decode (xB 139) 85 = .ok (.aload_n 0, 1) := by decide +kernel
theorem d139_86 : decode (xB 139) 86 = .ok (.getfield 30, 3) := by decide +kernel
theorem d139_89 : decode (xB 139) 89 = .ok (.getfield 189, 3) := by decide +kernel
theorem d139_92 : decode (xB 139) 92 = .ok (.iload_n 3, 1) := by decide +kernel
theorem d139_93 : decode (xB 139) 93 = .ok (.dup2, 1) := by decide +kernel
theorem d139_94 : decode (xB 139) 94 = .ok (.iaload, 1) := by decide +kernel
theorem d139_95 : decode (xB 139) 95 = .ok (.iconst 1, 1) := by decide +kernel
theorem d139_96 : decode (xB 139) 96 = .ok (.isub, 1) := by decide +kernel
theorem d139_97 : decode (xB 139) 97 = .ok (.iastore, 1) := by decide +kernel
theorem d139_98 : decode (xB 139) 98 = .ok (.aload_n 0, 1) := by decide +kernel
theorem d139_99 : decode (xB 139) 99 = .ok (.aload_n 0, 1) := by decide +kernel
theorem d139_100 : decode (xB 139) 100 = .ok (.getfield 30, 3) := by decide +kernel
theorem d139_103 : decode (xB 139) 103 = .ok (.iload_n 1, 1) := by decide +kernel
theorem d139_104 : decode (xB 139) 104 = .ok (.invokevirtual 243, 3) := by decide +kernel
theorem d139_107 : decode (xB 139) 107 = .ok (.iload_n 2, 1) := by decide +kernel
theorem d139_108 : decode (xB 139) 108 = .ok (.aload_n 0, 1) := by decide +kernel
theorem d139_109 : decode (xB 139) 109 = .ok (.invokevirtual 362, 3) := by decide +kernel
theorem d139_112 : decode (xB 139) 112 = .ok (.ifCond .eq 9, 3) := by decide +kernel
theorem d139_115 : decode (xB 139) 115 = .ok (.iconst 1, 1) := by decide +kernel
theorem d139_116 : decode (xB 139) 116 = .ok (.iload_n 3, 1) := by decide +kernel
theorem d139_117 : decode (xB 139) 117 = .ok (.ishl, 1) := by decide +kernel
theorem d139_118 : decode (xB 139) 118 = .ok (.goto 4, 3) := by decide +kernel
theorem d139_121 : decode (xB 139) 121 = .ok (.iconst 0, 1) := by decide +kernel
theorem d139_122 : decode (xB 139) 122 = .ok (.ior, 1) := by decide +kernel
theorem d139_123 : decode (xB 139) 123 = .ok (.istore_n 2, 1) := by decide +kernel
theorem d139_124 : decode (xB 139) 124 = .ok (.iinc 3 1, 3) := by decide +kernel
theorem d139_127 : decode (xB 139) 127 = .ok (.goto (-76), 3) := by decide +kernel
theorem d139_130 : decode (xB 139) 130 = .ok (.iload_n 2, 1) := by decide +kernel
theorem d139_131 : decode (xB 139) 131 = .ok (.ireturn, 1) := by decide +kernel
theorem b139_0 {d : Nat} {P : xPr} {Q : xQr} {r : Nat} {mem : Nat → Nat → Int32} (hP : Cl d none 139 P Q) {p0 : Int32}
    (k : xCall d 151 [.int p0, .int (nI 0), .int (nI 100)] (LAY, RFu r, mem) (Bk P 4 [.ref 0, .int p0, .null, .null] [] (0, 0))) : P 0 [.ref 0, .int p0, .null, .null] [] (0, 0) (LAY, RFu r, mem) := by
  refine r_iload_n hP d139_0 rfl ?_
  refine r_iconst (v := nI 0) hP d139_1 rfl ?_
  refine r_bipush (v := nI 100) hP d139_2 rfl ?_
  exact r_calls (As := [.int p0, .int (nI 0), .int (nI 100)]) (S := []) hP d139_4 cr_11_185 (by decide +kernel) rfl (by simp [Value.category]) rfl (by simp [Value.category]) ⟨Nat.zero_le _, Nat.zero_le _⟩ k
theorem b139_7 {d : Nat} {P : xPr} {Q : xQr} {r : Nat} {mem : Nat → Nat → Int32} (hP : Cl d none 139 P Q) {x1 : Int32} {v2 : Value} {v3 : Value} {y0 : Int32}
    (kt : ¬ y0 = 0 → P 12 [.ref 0, .int x1, v2, v3] [] (0, 0) (LAY, RFu r, mem)) (kf : y0 = 0 → P 10 [.ref 0, .int x1, v2, v3] [] (0, 0) (LAY, RFu r, mem)) : P 7 [.ref 0, .int x1, v2, v3] [.int y0] (0, 0) (LAY, RFu r, mem) := by
  exact r_if (t := 12) hP d139_7 (by decide) kt (fun q => kf (Decidable.of_not_not q))
theorem b139_10 {d : Nat} {P : xPr} {Q : xQr} {r : Nat} {mem : Nat → Nat → Int32} (hP : Cl d none 139 P Q) {v0 : Value} {v1 : Value} {v2 : Value} {v3 : Value}
    (k : Q (some (.int (-1))) (LAY, RFu r, mem)) : P 10 [v0, v1, v2, v3] [] (0, 0) (LAY, RFu r, mem) := by
  refine r_iconst (v := (-1)) hP d139_10 rfl ?_
  exact r_iret hP d139_11 rfl k
theorem b139_12 {d : Nat} {P : xPr} {Q : xQr} {r : Nat} {mem : Nat → Nat → Int32} (hP : Cl d none 139 P Q) {x1 : Int32} {v2 : Value} {v3 : Value}
    (k : xCall d 153 [.ref 0, .ref 5, .int x1] (LAY, RFu r, mem) (Bk P 18 [.ref 0, .int x1, v2, v3] [] (0, 0))) : P 12 [.ref 0, .int x1, v2, v3] [] (0, 0) (LAY, RFu r, mem) := by
  refine r_aload_n hP d139_12 rfl ?_
  refine r_aload_n hP d139_13 rfl ?_
  refine r_getr (a := 5) hP d139_14 fr_11_26 rfl ly_0 rg_0_2 ?_
  refine r_iload_n hP d139_17 rfl ?_
  exact r_callv (As := [.ref 5, .int x1]) (S := []) hP d139_18 cr_11_243 (by decide +kernel) rfl (by simp [Value.category]) rfl ly_0 (by simp [Value.category]) ⟨Nat.zero_le _, Nat.zero_le _⟩ k
theorem b139_21 {d : Nat} {P : xPr} {Q : xQr} {r : Nat} {mem : Nat → Nat → Int32} (hP : Cl d none 139 P Q) {x1 : Int32} {v2 : Value} {v3 : Value}
    (k : xCall d 31 [.ref 3] (LAY, RFu r, mem) (Bk P 25 [.ref 0, .int x1, v2, v3] [] (0, 0))) : P 21 [.ref 0, .int x1, v2, v3] [] (0, 0) (LAY, RFu r, mem) := by
  refine r_aload_n hP d139_21 rfl ?_
  refine r_getr (a := 3) hP d139_22 fr_11_19 rfl ly_0 rg_0_1 ?_
  exact r_callv (As := []) (S := []) hP d139_25 cr_11_213 (by decide +kernel) rfl (by simp) rfl ly_3 (by simp [Value.category]) ⟨Nat.zero_le _, Nat.zero_le _⟩ k
theorem b139_28 {d : Nat} {P : xPr} {Q : xQr} {r : Nat} {mem : Nat → Nat → Int32} (hP : Cl d none 139 P Q) {x1 : Int32} {v2 : Value} {v3 : Value}
    (k : xCall d 140 [.ref 0] (LAY, RFu r, mem) (Bk P 33 [.ref 0, .int x1, v2, v3] [.ref 3] (0, 0))) : P 28 [.ref 0, .int x1, v2, v3] [] (0, 0) (LAY, RFu r, mem) := by
  refine r_aload_n hP d139_28 rfl ?_
  refine r_getr (a := 3) hP d139_29 fr_11_19 rfl ly_0 rg_0_1 ?_
  refine r_aload_n hP d139_32 rfl ?_
  exact r_callv (As := []) (S := [.ref 3]) hP d139_33 cr_11_362 (by decide +kernel) rfl (by simp) rfl ly_0 (by simp [Value.category]) ⟨Nat.zero_le _, Nat.zero_le _⟩ k
theorem b139_36 {d : Nat} {P : xPr} {Q : xQr} {r : Nat} {mem : Nat → Nat → Int32} (hP : Cl d none 139 P Q) {x1 : Int32} {v2 : Value} {v3 : Value} {y1 : Int32}
    (kt : y1 = 0 → P 43 [.ref 0, .int x1, v2, v3] [.ref 3] (0, 0) (LAY, RFu r, mem)) (kf : ¬ y1 = 0 → P 39 [.ref 0, .int x1, v2, v3] [.ref 3] (0, 0) (LAY, RFu r, mem)) : P 36 [.ref 0, .int x1, v2, v3] [.int y1, .ref 3] (0, 0) (LAY, RFu r, mem) := by
  exact r_if (t := 43) hP d139_36 (by decide) kt kf
theorem b139_39 {d : Nat} {P : xPr} {Q : xQr} {r : Nat} {mem : Nat → Nat → Int32} (hP : Cl d none 139 P Q) {x1 : Int32} {v2 : Value} {v3 : Value}
    (k : P 44 [.ref 0, .int x1, v2, v3] [.int (nI 1), .ref 3] (0, 0) (LAY, RFu r, mem)) : P 39 [.ref 0, .int x1, v2, v3] [.ref 3] (0, 0) (LAY, RFu r, mem) := by
  refine r_iconst (v := nI 1) hP d139_39 rfl ?_
  refine r_goto (t := 44) hP d139_40 (by decide) ?_
  exact k
theorem b139_43 {d : Nat} {P : xPr} {Q : xQr} {r : Nat} {mem : Nat → Nat → Int32} (hP : Cl d none 139 P Q) {x1 : Int32} {v2 : Value} {v3 : Value}
    (k : P 44 [.ref 0, .int x1, v2, v3] [.int (nI 0), .ref 3] (0, 0) (LAY, RFu r, mem)) : P 43 [.ref 0, .int x1, v2, v3] [.ref 3] (0, 0) (LAY, RFu r, mem) := by
  refine r_iconst (v := nI 0) hP d139_43 rfl ?_
  exact k
theorem b139_44 {d : Nat} {P : xPr} {Q : xQr} {r : Nat} {mem : Nat → Nat → Int32} (hP : Cl d none 139 P Q) {x1 : Int32} {v2 : Value} {v3 : Value} {y1 : Int32}
    (k : xCall d 32 [.ref 3, .int y1] (LAY, RFu r, mem) (Bk P 44 [.ref 0, .int x1, v2, v3] [] (0, 0))) : P 44 [.ref 0, .int x1, v2, v3] [.int y1, .ref 3] (0, 0) (LAY, RFu r, mem) := by
  exact r_callv (As := [.int y1]) (S := []) hP d139_44 cr_11_222 (by decide +kernel) rfl (by simp [Value.category]) rfl ly_3 (by simp [Value.category]) ⟨Nat.zero_le _, Nat.zero_le _⟩ k
theorem b139_47 {d : Nat} {P : xPr} {Q : xQr} {r : Nat} {mem : Nat → Nat → Int32} (hP : Cl d none 139 P Q) {x1 : Int32} {v2 : Value} {v3 : Value}
    (k : P 51 [.ref 0, .int x1, .int (nI 0), .int (nI 0)] [] (0, 0) (LAY, RFu r, mem)) : P 47 [.ref 0, .int x1, v2, v3] [] (0, 0) (LAY, RFu r, mem) := by
  refine r_iconst (v := nI 0) hP d139_47 rfl ?_
  refine r_istore_n (L' := [.ref 0, .int x1, .int (nI 0), v3]) hP d139_48 (Nat.le_of_ble_eq_true rfl) rfl ?_
  refine r_iconst (v := nI 0) hP d139_49 rfl ?_
  refine r_istore_n (L' := [.ref 0, .int x1, .int (nI 0), .int (nI 0)]) hP d139_50 (Nat.le_of_ble_eq_true rfl) rfl ?_
  exact k
theorem b139_51 {d : Nat} {P : xPr} {Q : xQr} {r : Nat} {mem : Nat → Nat → Int32} (hP : Cl d none 139 P Q) {x1 : Int32} {x2 : Int32} {x3 : Int32}
    (kt : (mem 5 0) ≤ x3 → P 130 [.ref 0, .int x1, .int x2, .int x3] [] (0, 0) (LAY, RFu r, mem)) (kf : ¬ (mem 5 0) ≤ x3 → P 62 [.ref 0, .int x1, .int x2, .int x3] [] (0, 0) (LAY, RFu r, mem)) : P 51 [.ref 0, .int x1, .int x2, .int x3] [] (0, 0) (LAY, RFu r, mem) := by
  refine r_iload_n hP d139_51 rfl ?_
  refine r_aload_n hP d139_52 rfl ?_
  refine r_getr (a := 5) hP d139_53 fr_11_26 rfl ly_0 rg_0_2 ?_
  refine r_geti hP d139_56 fr_11_313 rfl ly_5 ?_
  exact r_icmp (t := 130) hP d139_59 (by decide) kt kf
theorem b139_62 {d : Nat} {P : xPr} {Q : xQr} {r : Nat} {mem : Nat → Nat → Int32} (hP : Cl d none 139 P Q) {x1 : Int32} {x2 : Int32} {x3 : Int32} (hi70 : vp_in x3 4)
    (kt : (mem 6 x3.toNatClampNeg) ≤ 0 → P 124 [.ref 0, .int x1, .int x2, .int x3] [] (0, 0) (LAY, RFu r, mem)) (kf : ¬ (mem 6 x3.toNatClampNeg) ≤ 0 → P 74 [.ref 0, .int x1, .int x2, .int x3] [] (0, 0) (LAY, RFu r, mem)) : P 62 [.ref 0, .int x1, .int x2, .int x3] [] (0, 0) (LAY, RFu r, mem) := by
  refine r_aload_n hP d139_62 rfl ?_
  refine r_getr (a := 5) hP d139_63 fr_11_26 rfl ly_0 rg_0_2 ?_
  refine r_getr (a := 6) hP d139_66 fr_11_189 rfl ly_5 rg_5_2 ?_
  refine r_iload_n hP d139_69 rfl ?_
  refine r_iaload hP d139_70 ly_6 hi70 ?_
  exact r_if (t := 124) hP d139_71 (by decide) kt kf
theorem b139_74 {d : Nat} {P : xPr} {Q : xQr} {r : Nat} {mem : Nat → Nat → Int32} (hP : Cl d none 139 P Q) {x1 : Int32} {x2 : Int32} {x3 : Int32}
    (k : xCall d 88 [.ref 26, .ref 5] (LAY, RFu r, mem) (Bk P 82 [.ref 0, .int x1, .int x2, .int x3] [] (0, 0))) : P 74 [.ref 0, .int x1, .int x2, .int x3] [] (0, 0) (LAY, RFu r, mem) := by
  refine r_aload_n hP d139_74 rfl ?_
  refine r_getr (a := 26) hP d139_75 fr_11_30 rfl ly_0 rg_0_3 ?_
  refine r_aload_n hP d139_78 rfl ?_
  refine r_getr (a := 5) hP d139_79 fr_11_26 rfl ly_0 rg_0_2 ?_
  exact r_callv (As := [.ref 5]) (S := []) hP d139_82 cr_11_316 (by decide +kernel) rfl (by simp [Value.category]) rfl ly_26 (by simp [Value.category]) ⟨Nat.zero_le _, Nat.zero_le _⟩ k
theorem b139_85 {d : Nat} {P : xPr} {Q : xQr} {r : Nat} {mem : Nat → Nat → Int32} (hP : Cl d none 139 P Q) {x1 : Int32} {x2 : Int32} {x3 : Int32} (hi94 : vp_in x3 4) (hi97 : vp_in x3 4)
    (k : xCall d 153 [.ref 0, .ref 26, .int x1] (LAY, RFu r, xu2 mem 27 x3.toNatClampNeg ((mem 27 x3.toNatClampNeg) - (nI 1))) (Bk P 104 [.ref 0, .int x1, .int x2, .int x3] [] (0, 0))) : P 85 [.ref 0, .int x1, .int x2, .int x3] [] (0, 0) (LAY, RFu r, mem) := by
  refine r_aload_n hP d139_85 rfl ?_
  refine r_getr (a := 26) hP d139_86 fr_11_30 rfl ly_0 rg_0_3 ?_
  refine r_getr (a := 27) hP d139_89 fr_11_189 rfl ly_26 rg_26_2 ?_
  refine r_iload_n hP d139_92 rfl ?_
  refine r_dup2 hP d139_93 rfl rfl ?_
  refine r_iaload hP d139_94 ly_27 hi94 ?_
  refine r_iconst (v := nI 1) hP d139_95 rfl ?_
  refine r_isub hP d139_96 ?_
  refine r_iastore hP d139_97 ly_27 hi97 ?_
  refine r_aload_n hP d139_98 rfl ?_
  refine r_aload_n hP d139_99 rfl ?_
  refine r_getr (a := 26) hP d139_100 fr_11_30 rfl ly_0 rg_0_3 ?_
  refine r_iload_n hP d139_103 rfl ?_
  exact r_callv (As := [.ref 26, .int x1]) (S := []) hP d139_104 cr_11_243 (by decide +kernel) rfl (by simp [Value.category]) rfl ly_0 (by simp [Value.category]) ⟨Nat.zero_le _, Nat.zero_le _⟩ k
theorem b139_107 {d : Nat} {P : xPr} {Q : xQr} {r : Nat} {mem : Nat → Nat → Int32} (hP : Cl d none 139 P Q) {x1 : Int32} {x2 : Int32} {x3 : Int32}
    (k : xCall d 140 [.ref 0] (LAY, RFu r, mem) (Bk P 109 [.ref 0, .int x1, .int x2, .int x3] [.int x2] (0, 0))) : P 107 [.ref 0, .int x1, .int x2, .int x3] [] (0, 0) (LAY, RFu r, mem) := by
  refine r_iload_n hP d139_107 rfl ?_
  refine r_aload_n hP d139_108 rfl ?_
  exact r_callv (As := []) (S := [.int x2]) hP d139_109 cr_11_362 (by decide +kernel) rfl (by simp) rfl ly_0 (by simp [Value.category]) ⟨Nat.zero_le _, Nat.zero_le _⟩ k
theorem b139_112 {d : Nat} {P : xPr} {Q : xQr} {r : Nat} {mem : Nat → Nat → Int32} (hP : Cl d none 139 P Q) {x1 : Int32} {v2 : Value} {x3 : Int32} {y0 : Int32} {y1 : Int32}
    (kt : y1 = 0 → P 121 [.ref 0, .int x1, v2, .int x3] [.int y0] (0, 0) (LAY, RFu r, mem)) (kf : ¬ y1 = 0 → P 115 [.ref 0, .int x1, v2, .int x3] [.int y0] (0, 0) (LAY, RFu r, mem)) : P 112 [.ref 0, .int x1, v2, .int x3] [.int y1, .int y0] (0, 0) (LAY, RFu r, mem) := by
  exact r_if (t := 121) hP d139_112 (by decide) kt kf
theorem b139_115 {d : Nat} {P : xPr} {Q : xQr} {r : Nat} {mem : Nat → Nat → Int32} (hP : Cl d none 139 P Q) {x1 : Int32} {v2 : Value} {x3 : Int32} {y0 : Int32}
    (k : P 122 [.ref 0, .int x1, v2, .int x3] [.int ((nI 1) <<< (x3 &&& 31)), .int y0] (0, 0) (LAY, RFu r, mem)) : P 115 [.ref 0, .int x1, v2, .int x3] [.int y0] (0, 0) (LAY, RFu r, mem) := by
  refine r_iconst (v := nI 1) hP d139_115 rfl ?_
  refine r_iload_n hP d139_116 rfl ?_
  refine r_ishl hP d139_117 ?_
  refine r_goto (t := 122) hP d139_118 (by decide) ?_
  exact k
theorem b139_121 {d : Nat} {P : xPr} {Q : xQr} {r : Nat} {mem : Nat → Nat → Int32} (hP : Cl d none 139 P Q) {x1 : Int32} {v2 : Value} {x3 : Int32} {y0 : Int32}
    (k : P 122 [.ref 0, .int x1, v2, .int x3] [.int (nI 0), .int y0] (0, 0) (LAY, RFu r, mem)) : P 121 [.ref 0, .int x1, v2, .int x3] [.int y0] (0, 0) (LAY, RFu r, mem) := by
  refine r_iconst (v := nI 0) hP d139_121 rfl ?_
  exact k
theorem b139_122 {d : Nat} {P : xPr} {Q : xQr} {r : Nat} {mem : Nat → Nat → Int32} (hP : Cl d none 139 P Q) {x1 : Int32} {v2 : Value} {x3 : Int32} {y0 : Int32} {y1 : Int32}
    (k : P 124 [.ref 0, .int x1, .int (y0 ||| y1), .int x3] [] (0, 0) (LAY, RFu r, mem)) : P 122 [.ref 0, .int x1, v2, .int x3] [.int y1, .int y0] (0, 0) (LAY, RFu r, mem) := by
  refine r_ior hP d139_122 ?_
  refine r_istore_n (L' := [.ref 0, .int x1, .int (y0 ||| y1), .int x3]) hP d139_123 (Nat.le_of_ble_eq_true rfl) rfl ?_
  exact k
theorem b139_124 {d : Nat} {P : xPr} {Q : xQr} {r : Nat} {mem : Nat → Nat → Int32} (hP : Cl d none 139 P Q) {x1 : Int32} {x2 : Int32} {x3 : Int32}
    (k : P 51 [.ref 0, .int x1, .int x2, .int (x3 + nI 1)] [] (0, 0) (LAY, RFu r, mem)) : P 124 [.ref 0, .int x1, .int x2, .int x3] [] (0, 0) (LAY, RFu r, mem) := by
  refine r_iinc (v := nI 1) (L' := [.ref 0, .int x1, .int x2, .int (x3 + nI 1)]) hP d139_124 rfl rfl rfl ?_
  refine r_goto (t := 51) hP d139_127 (by decide) ?_
  exact k
theorem b139_130 {d : Nat} {P : xPr} {Q : xQr} {r : Nat} {mem : Nat → Nat → Int32} (hP : Cl d none 139 P Q) {v0 : Value} {v1 : Value} {x2 : Int32} {v3 : Value}
    (k : Q (some (.int x2)) (LAY, RFu r, mem)) : P 130 [v0, v1, .int x2, v3] [] (0, 0) (LAY, RFu r, mem) := by
  refine r_iload_n hP d139_130 rfl ?_
  exact r_iret hP d139_131 rfl k
theorem d140_0 : decode (xB 140) 0 = .ok (.iconst 0, 1) := by decide +kernel
theorem d140_1 : decode (xB 140) 1 = .ok (.istore_n 1, 1) := by decide +kernel
theorem d140_2 : decode (xB 140) 2 = .ok (.iload_n 1, 1) := by decide +kernel
theorem d140_3 : decode (xB 140) 3 = .ok (.aload_n 0, 1) := by decide +kernel
theorem d140_4 : decode (xB 140) 4 = .ok (.getfield 359, 3) := by decide +kernel
theorem d140_7 : decode (xB 140) 7 = .ok (.if_icmp .ge 30, 3) := by decide +kernel
theorem d140_10 : decode (xB 140) 10 = .ok (.aload_n 0, 1) := by decide +kernel
theorem d140_11 : decode (xB 140) 11 = .ok (.aload_n 0, 1) := by decide +kernel
theorem d140_12 : decode (xB 140) 12 = .ok (.getfield 89, 3) := by decide +kernel
theorem d140_15 : decode (xB 140) 15 = .ok (.iload_n 1, 1) := by decide +kernel
theorem d140_16 : decode (xB 140) 16 = .ok (.iaload, 1) := by decide +kernel
theorem d140_17 : decode (xB 140) 17 = .ok (.invokevirtual 347, 3) := by decide +kernel
theorem d140_20 : decode (xB 140) 20 = .ok (.aload_n 0, 1) := by decide +kernel
theorem d140_21 : decode (xB 140) 21 = .ok (.getfield 93, 3) := by decide +kernel
theorem d140_24 : decode (xB 140) 24 = .ok (.iload_n 1, 1) := by decide +kernel
theorem d140_25 : decode (xB 140) 25 = .ok (.iaload, 1) := by decide +kernel
theorem d140_26 : decode (xB 140) 26 = .ok (.if_icmp .eq 5, 3) := by decide +kernel
theorem d140_29 : decode (xB 140) 29 = .ok (.iconst 0, 1) := by decide +kernel
theorem d140_30 : decode (xB 140) 30 = .ok (.ireturn, 1) := by decide +kernel
theorem d140_31 : decode (xB 140) 31 = .ok (.iinc 1 1, 3) := by decide +kernel
theorem d140_34 : decode (xB 140) 34 = .ok (.goto (-32), 3) := by decide +kernel
theorem d140_37 : decode (xB 140) 37 = .ok (.iconst 1, 1) := by decide +kernel
theorem d140_38 : decode (xB 140) 38 = .ok (.ireturn, 1) := by decide +kernel
theorem b140_0 {d : Nat} {P : xPr} {Q : xQr} {r : Nat} {mem : Nat → Nat → Int32} (hP : Cl d none 140 P Q)
    (k : P 2 [.ref 0, .int (nI 0)] [] (0, 0) (LAY, RFu r, mem)) : P 0 [.ref 0, .null] [] (0, 0) (LAY, RFu r, mem) := by
  refine r_iconst (v := nI 0) hP d140_0 rfl ?_
  refine r_istore_n (L' := [.ref 0, .int (nI 0)]) hP d140_1 (Nat.le_of_ble_eq_true rfl) rfl ?_
  exact k
theorem b140_2 {d : Nat} {P : xPr} {Q : xQr} {r : Nat} {mem : Nat → Nat → Int32} (hP : Cl d none 140 P Q) {x1 : Int32}
    (kt : (mem 0 14) ≤ x1 → P 37 [.ref 0, .int x1] [] (0, 0) (LAY, RFu r, mem)) (kf : ¬ (mem 0 14) ≤ x1 → P 10 [.ref 0, .int x1] [] (0, 0) (LAY, RFu r, mem)) : P 2 [.ref 0, .int x1] [] (0, 0) (LAY, RFu r, mem) := by
  refine r_iload_n hP d140_2 rfl ?_
  refine r_aload_n hP d140_3 rfl ?_
  refine r_geti hP d140_4 fr_11_359 rfl ly_0 ?_
  exact r_icmp (t := 37) hP d140_7 (by decide) kt kf
theorem b140_10 {d : Nat} {P : xPr} {Q : xQr} {r : Nat} {mem : Nat → Nat → Int32} (hP : Cl d none 140 P Q) {x1 : Int32} (hi16 : vp_in x1 8)
    (k : xCall d 154 [.ref 0, .int (mem 104 x1.toNatClampNeg)] (LAY, RFu r, mem) (Bk P 17 [.ref 0, .int x1] [] (0, 0))) : P 10 [.ref 0, .int x1] [] (0, 0) (LAY, RFu r, mem) := by
  refine r_aload_n hP d140_10 rfl ?_
  refine r_aload_n hP d140_11 rfl ?_
  refine r_getr (a := 104) hP d140_12 fr_11_89 rfl ly_0 rg_0_12 ?_
  refine r_iload_n hP d140_15 rfl ?_
  refine r_iaload hP d140_16 ly_104 hi16 ?_
  exact r_callv (As := [.int (mem 104 x1.toNatClampNeg)]) (S := []) hP d140_17 cr_11_347 (by decide +kernel) rfl (by simp [Value.category]) rfl ly_0 (by simp [Value.category]) ⟨Nat.zero_le _, Nat.zero_le _⟩ k
theorem b140_20 {d : Nat} {P : xPr} {Q : xQr} {r : Nat} {mem : Nat → Nat → Int32} (hP : Cl d none 140 P Q) {x1 : Int32} {y0 : Int32} (hi25 : vp_in x1 8)
    (kt : y0 = (mem 105 x1.toNatClampNeg) → P 31 [.ref 0, .int x1] [] (0, 0) (LAY, RFu r, mem)) (kf : ¬ y0 = (mem 105 x1.toNatClampNeg) → P 29 [.ref 0, .int x1] [] (0, 0) (LAY, RFu r, mem)) : P 20 [.ref 0, .int x1] [.int y0] (0, 0) (LAY, RFu r, mem) := by
  refine r_aload_n hP d140_20 rfl ?_
  refine r_getr (a := 105) hP d140_21 fr_11_93 rfl ly_0 rg_0_13 ?_
  refine r_iload_n hP d140_24 rfl ?_
  refine r_iaload hP d140_25 ly_105 hi25 ?_
  exact r_icmp (t := 31) hP d140_26 (by decide) kt kf
theorem b140_29 {d : Nat} {P : xPr} {Q : xQr} {r : Nat} {mem : Nat → Nat → Int32} (hP : Cl d none 140 P Q) {v0 : Value} {v1 : Value} (hzr : nI 0 = 0 ∨ nI 0 = 1)
    (k : Q (some (.int (nI 0))) (LAY, RFu r, mem)) : P 29 [v0, v1] [] (0, 0) (LAY, RFu r, mem) := by
  refine r_iconst (v := nI 0) hP d140_29 rfl ?_
  exact r_zret hP d140_30 rfl hzr k
theorem b140_31 {d : Nat} {P : xPr} {Q : xQr} {r : Nat} {mem : Nat → Nat → Int32} (hP : Cl d none 140 P Q) {x1 : Int32}
    (k : P 2 [.ref 0, .int (x1 + nI 1)] [] (0, 0) (LAY, RFu r, mem)) : P 31 [.ref 0, .int x1] [] (0, 0) (LAY, RFu r, mem) := by
  refine r_iinc (v := nI 1) (L' := [.ref 0, .int (x1 + nI 1)]) hP d140_31 rfl rfl rfl ?_
  refine r_goto (t := 2) hP d140_34 (by decide) ?_
  exact k
theorem b140_37 {d : Nat} {P : xPr} {Q : xQr} {r : Nat} {mem : Nat → Nat → Int32} (hP : Cl d none 140 P Q) {v0 : Value} {v1 : Value} (hzr : nI 1 = 0 ∨ nI 1 = 1)
    (k : Q (some (.int (nI 1))) (LAY, RFu r, mem)) : P 37 [v0, v1] [] (0, 0) (LAY, RFu r, mem) := by
  refine r_iconst (v := nI 1) hP d140_37 rfl ?_
  exact r_zret hP d140_38 rfl hzr k
theorem d141_0 : decode (xB 141) 0 = .ok (.iload_n 1, 1) := by decide +kernel
theorem d141_1 : decode (xB 141) 1 = .ok (.iconst 0, 1) := by decide +kernel
theorem d141_2 : decode (xB 141) 2 = .ok (.sipush 200, 3) := by decide +kernel
theorem d141_5 : decode (xB 141) 5 = .ok (.invokestatic 185, 3) := by decide +kernel
theorem d141_8 : decode (xB 141) 8 = .ok (.ifCond .ne 5, 3) := by decide +kernel
theorem d141_11 : decode (xB 141) 11 = .ok (.iconst (-1), 1) := by decide +kernel
theorem d141_12 : decode (xB 141) 12 = .ok (.ireturn, 1) := by decide +kernel
theorem d141_13 : decode (xB 141) 13 = .ok (.aload_n 0, 1) := by decide +kernel
theorem d141_14 : decode (xB 141) 14 = .ok (.getfield 26, 3) := by decide +kernel
theorem d141_17 : decode (xB 141) 17 = .ok (.getfield 192, 3) := by decide +kernel
theorem d141_20 : decode (xB 141) 20 = .ok (.ifCond .ne 6, 3) := by decide +kernel
theorem d141_23 : decode (xB 141) 23 = .ok (.bipush (-2), 2) := by decide +kernel
theorem d141_25 : decode (xB 141) 25 = .ok (.ireturn, 1) := by decide +kernel
theorem d141_26 : decode (xB 141) 26 = .ok (.aload_n 0, 1) := by decide +kernel
theorem d141_27 : decode (xB 141) 27 = .ok (.getfield 19, 3) := by decide +kernel
theorem d141_30 : decode (xB 141) 30 = .ok (.invokevirtual 213, 3) := by decide +kernel
theorem d141_33 : decode (xB 141) 33 = .ok (.iconst 0, 1) := by decide +kernel
theorem d141_34 : decode (xB 141) 34 = .ok (.istore_n 2, 1) := by decide +kernel
theorem d141_35 : decode (xB 141) 35 = .ok (.iload_n 2, 1) := by decide +kernel
theorem d141_36 : decode (xB 141) 36 = .ok (.iconst 4, 1) := by decide +kernel
theorem d141_37 : decode (xB 141) 37 = .ok (.if_icmp .ge 55, 3) := by decide +kernel
theorem d141_40 : decode (xB 141) 40 = .ok (.aload_n 0, 1) := by decide +kernel
theorem d141_41 : decode (xB 141) 41 = .ok (.getfield 30, 3) := by decide +kernel
theorem d141_44 : decode (xB 141) 44 = .ok (.aload_n 0, 1) := by decide +kernel
theorem d141_45 : decode (xB 141) 45 = .ok (.getfield 26, 3) := by decide +kernel
theorem d141_48 : decode (xB 141) 48 = .ok (.invokevirtual 316, 3) := by decide +kernel
theorem d141_51 : decode (xB 141) 51 = .ok (.aload_n 0, 1) := by decide +kernel
theorem d141_52 : decode (xB 141) 52 = .ok (.iload_n 2, 1) := by decide +kernel
theorem d141_53 : decode (xB 141) 53 = .ok (.invokevirtual 365, 3) := by decide +kernel
theorem d141_56 : decode (xB 141) 56 = .ok (.aload_n 0, 1) := by decide +kernel
theorem d141_57 : decode (xB 141) 57 = .ok (.aload_n 0, 1) := by decide +kernel
theorem d141_58 : decode (xB 141) 58 = .ok (.getfield 30, 3) := by decide +kernel
theorem d141_61 : decode (xB 141) 61 = .ok (.iload_n 1, 1) := by decide +kernel
theorem d141_62 : decode (xB 141) 62 = .ok (.invokevirtual 243, 3) := by decide +kernel
theorem d141_65 : decode (xB 141) 65 = .ok (.aload_n 0, 1) := by decide +kernel
theorem d141_66 : decode (xB 141) 66 = .ok (.getfield 19, 3) := by decide +kernel
theorem d141_69 : decode (xB 141) 69 = .ok (.aload_n 0, 1) := by decide +kernel
theorem d141_70 : decode (xB 141) 70 = .ok (.getfield 40, 3) := by decide +kernel
theorem d141_73 : decode (xB 141) 73 = .ok (.aload_n 0, 1) := by decide +kernel
theorem d141_74 : decode (xB 141) 74 = .ok (.getfield 26, 3) := by decide +kernel
theorem d141_77 : decode (xB 141) 77 = .ok (.getfield 192, 3) := by decide +kernel
theorem d141_80 : decode (xB 141) 80 = .ok (.invokevirtual 368, 3) := by decide +kernel
theorem d141_83 : decode (xB 141) 83 = .ok (.invokevirtual 222, 3) := by decide +kernel
theorem d141_86 : decode (xB 141) 86 = .ok (.iinc 2 1, 3) := by decide +kernel
theorem d141_89 : decode (xB 141) 89 = .ok (.goto (-54), 3) := by decide +kernel
theorem d141_92 : decode (xB 141) 92 = .ok (.aload_n 0, 1) := by decide +kernel
theorem d141_93 : decode (xB 141) 93 = .ok (.getfield 19, 3) := by decide +kernel
theorem d141_96 : decode (xB 141) 96 = .ok (.invokevirtual 371, 3) := by decide +kernel
theorem d141_99 : decode (xB 141) 99 = .ok (.ireturn, 1) := by decide +kernel
theorem b141_0 {d : Nat} {P : xPr} {Q : xQr} {r : Nat} {mem : Nat → Nat → Int32} (hP : Cl d none 141 P Q) {p0 : Int32}
    (k : xCall d 151 [.int p0, .int (nI 0), .int (nI 200)] (LAY, RFu r, mem) (Bk P 5 [.ref 0, .int p0, .null] [] (0, 0))) : P 0 [.ref 0, .int p0, .null] [] (0, 0) (LAY, RFu r, mem) := by
  refine r_iload_n hP d141_0 rfl ?_
  refine r_iconst (v := nI 0) hP d141_1 rfl ?_
  refine r_sipush (v := nI 200) hP d141_2 rfl ?_
  exact r_calls (As := [.int p0, .int (nI 0), .int (nI 200)]) (S := []) hP d141_5 cr_11_185 (by decide +kernel) rfl (by simp [Value.category]) rfl (by simp [Value.category]) ⟨Nat.zero_le _, Nat.zero_le _⟩ k
theorem b141_8 {d : Nat} {P : xPr} {Q : xQr} {r : Nat} {mem : Nat → Nat → Int32} (hP : Cl d none 141 P Q) {x1 : Int32} {v2 : Value} {y0 : Int32}
    (kt : ¬ y0 = 0 → P 13 [.ref 0, .int x1, v2] [] (0, 0) (LAY, RFu r, mem)) (kf : y0 = 0 → P 11 [.ref 0, .int x1, v2] [] (0, 0) (LAY, RFu r, mem)) : P 8 [.ref 0, .int x1, v2] [.int y0] (0, 0) (LAY, RFu r, mem) := by
  exact r_if (t := 13) hP d141_8 (by decide) kt (fun q => kf (Decidable.of_not_not q))
theorem b141_11 {d : Nat} {P : xPr} {Q : xQr} {r : Nat} {mem : Nat → Nat → Int32} (hP : Cl d none 141 P Q) {v0 : Value} {v1 : Value} {v2 : Value}
    (k : Q (some (.int (-1))) (LAY, RFu r, mem)) : P 11 [v0, v1, v2] [] (0, 0) (LAY, RFu r, mem) := by
  refine r_iconst (v := (-1)) hP d141_11 rfl ?_
  exact r_iret hP d141_12 rfl k
theorem b141_13 {d : Nat} {P : xPr} {Q : xQr} {r : Nat} {mem : Nat → Nat → Int32} (hP : Cl d none 141 P Q) {x1 : Int32} {v2 : Value}
    (kt : ¬ (mem 5 1) = 0 → P 26 [.ref 0, .int x1, v2] [] (0, 0) (LAY, RFu r, mem)) (kf : (mem 5 1) = 0 → P 23 [.ref 0, .int x1, v2] [] (0, 0) (LAY, RFu r, mem)) : P 13 [.ref 0, .int x1, v2] [] (0, 0) (LAY, RFu r, mem) := by
  refine r_aload_n hP d141_13 rfl ?_
  refine r_getr (a := 5) hP d141_14 fr_11_26 rfl ly_0 rg_0_2 ?_
  refine r_geti hP d141_17 fr_11_192 rfl ly_5 ?_
  exact r_if (t := 26) hP d141_20 (by decide) kt (fun q => kf (Decidable.of_not_not q))
theorem b141_23 {d : Nat} {P : xPr} {Q : xQr} {r : Nat} {mem : Nat → Nat → Int32} (hP : Cl d none 141 P Q) {v0 : Value} {v1 : Value} {v2 : Value}
    (k : Q (some (.int (-2))) (LAY, RFu r, mem)) : P 23 [v0, v1, v2] [] (0, 0) (LAY, RFu r, mem) := by
  refine r_bipush (v := (-2)) hP d141_23 rfl ?_
  exact r_iret hP d141_25 rfl k
theorem b141_26 {d : Nat} {P : xPr} {Q : xQr} {r : Nat} {mem : Nat → Nat → Int32} (hP : Cl d none 141 P Q) {x1 : Int32} {v2 : Value}
    (k : xCall d 31 [.ref 3] (LAY, RFu r, mem) (Bk P 30 [.ref 0, .int x1, v2] [] (0, 0))) : P 26 [.ref 0, .int x1, v2] [] (0, 0) (LAY, RFu r, mem) := by
  refine r_aload_n hP d141_26 rfl ?_
  refine r_getr (a := 3) hP d141_27 fr_11_19 rfl ly_0 rg_0_1 ?_
  exact r_callv (As := []) (S := []) hP d141_30 cr_11_213 (by decide +kernel) rfl (by simp) rfl ly_3 (by simp [Value.category]) ⟨Nat.zero_le _, Nat.zero_le _⟩ k
theorem b141_33 {d : Nat} {P : xPr} {Q : xQr} {r : Nat} {mem : Nat → Nat → Int32} (hP : Cl d none 141 P Q) {x1 : Int32} {v2 : Value}
    (k : P 35 [.ref 0, .int x1, .int (nI 0)] [] (0, 0) (LAY, RFu r, mem)) : P 33 [.ref 0, .int x1, v2] [] (0, 0) (LAY, RFu r, mem) := by
  refine r_iconst (v := nI 0) hP d141_33 rfl ?_
  refine r_istore_n (L' := [.ref 0, .int x1, .int (nI 0)]) hP d141_34 (Nat.le_of_ble_eq_true rfl) rfl ?_
  exact k
theorem b141_35 {d : Nat} {P : xPr} {Q : xQr} {r : Nat} {mem : Nat → Nat → Int32} (hP : Cl d none 141 P Q) {x1 : Int32} {x2 : Int32}
    (kt : (nI 4) ≤ x2 → P 92 [.ref 0, .int x1, .int x2] [] (0, 0) (LAY, RFu r, mem)) (kf : ¬ (nI 4) ≤ x2 → P 40 [.ref 0, .int x1, .int x2] [] (0, 0) (LAY, RFu r, mem)) : P 35 [.ref 0, .int x1, .int x2] [] (0, 0) (LAY, RFu r, mem) := by
  refine r_iload_n hP d141_35 rfl ?_
  refine r_iconst (v := nI 4) hP d141_36 rfl ?_
  exact r_icmp (t := 92) hP d141_37 (by decide) kt kf
theorem b141_40 {d : Nat} {P : xPr} {Q : xQr} {r : Nat} {mem : Nat → Nat → Int32} (hP : Cl d none 141 P Q) {x1 : Int32} {x2 : Int32}
    (k : xCall d 88 [.ref 26, .ref 5] (LAY, RFu r, mem) (Bk P 48 [.ref 0, .int x1, .int x2] [] (0, 0))) : P 40 [.ref 0, .int x1, .int x2] [] (0, 0) (LAY, RFu r, mem) := by
  refine r_aload_n hP d141_40 rfl ?_
  refine r_getr (a := 26) hP d141_41 fr_11_30 rfl ly_0 rg_0_3 ?_
  refine r_aload_n hP d141_44 rfl ?_
  refine r_getr (a := 5) hP d141_45 fr_11_26 rfl ly_0 rg_0_2 ?_
  exact r_callv (As := [.ref 5]) (S := []) hP d141_48 cr_11_316 (by decide +kernel) rfl (by simp [Value.category]) rfl ly_26 (by simp [Value.category]) ⟨Nat.zero_le _, Nat.zero_le _⟩ k
theorem b141_51 {d : Nat} {P : xPr} {Q : xQr} {r : Nat} {mem : Nat → Nat → Int32} (hP : Cl d none 141 P Q) {x1 : Int32} {x2 : Int32}
    (k : xCall d 142 [.ref 0, .int x2] (LAY, RFu r, mem) (Bk P 53 [.ref 0, .int x1, .int x2] [] (0, 0))) : P 51 [.ref 0, .int x1, .int x2] [] (0, 0) (LAY, RFu r, mem) := by
  refine r_aload_n hP d141_51 rfl ?_
  refine r_iload_n hP d141_52 rfl ?_
  exact r_callv (As := [.int x2]) (S := []) hP d141_53 cr_11_365 (by decide +kernel) rfl (by simp [Value.category]) rfl ly_0 (by simp [Value.category]) ⟨Nat.zero_le _, Nat.zero_le _⟩ k
theorem b141_56 {d : Nat} {P : xPr} {Q : xQr} {r : Nat} {mem : Nat → Nat → Int32} (hP : Cl d none 141 P Q) {x1 : Int32} {x2 : Int32}
    (k : xCall d 153 [.ref 0, .ref 26, .int x1] (LAY, RFu r, mem) (Bk P 62 [.ref 0, .int x1, .int x2] [] (0, 0))) : P 56 [.ref 0, .int x1, .int x2] [] (0, 0) (LAY, RFu r, mem) := by
  refine r_aload_n hP d141_56 rfl ?_
  refine r_aload_n hP d141_57 rfl ?_
  refine r_getr (a := 26) hP d141_58 fr_11_30 rfl ly_0 rg_0_3 ?_
  refine r_iload_n hP d141_61 rfl ?_
  exact r_callv (As := [.ref 26, .int x1]) (S := []) hP d141_62 cr_11_243 (by decide +kernel) rfl (by simp [Value.category]) rfl ly_0 (by simp [Value.category]) ⟨Nat.zero_le _, Nat.zero_le _⟩ k
theorem b141_65 {d : Nat} {P : xPr} {Q : xQr} {r : Nat} {mem : Nat → Nat → Int32} (hP : Cl d none 141 P Q) {x1 : Int32} {x2 : Int32}
    (k : xCall d 65 [.ref 49, .int (mem 5 1)] (LAY, RFu r, mem) (Bk P 80 [.ref 0, .int x1, .int x2] [.ref 3] (0, 0))) : P 65 [.ref 0, .int x1, .int x2] [] (0, 0) (LAY, RFu r, mem) := by
  refine r_aload_n hP d141_65 rfl ?_
  refine r_getr (a := 3) hP d141_66 fr_11_19 rfl ly_0 rg_0_1 ?_
  refine r_aload_n hP d141_69 rfl ?_
  refine r_getr (a := 49) hP d141_70 fr_11_40 rfl ly_0 rg_0_5 ?_
  refine r_aload_n hP d141_73 rfl ?_
  refine r_getr (a := 5) hP d141_74 fr_11_26 rfl ly_0 rg_0_2 ?_
  refine r_geti hP d141_77 fr_11_192 rfl ly_5 ?_
  exact r_callv (As := [.int (mem 5 1)]) (S := [.ref 3]) hP d141_80 cr_11_368 (by decide +kernel) rfl (by simp [Value.category]) rfl ly_49 (by simp [Value.category]) ⟨Nat.zero_le _, Nat.zero_le _⟩ k
theorem b141_83 {d : Nat} {P : xPr} {Q : xQr} {r : Nat} {mem : Nat → Nat → Int32} (hP : Cl d none 141 P Q) {x1 : Int32} {x2 : Int32} {y1 : Int32}
    (k : xCall d 32 [.ref 3, .int y1] (LAY, RFu r, mem) (Bk P 83 [.ref 0, .int x1, .int x2] [] (0, 0))) : P 83 [.ref 0, .int x1, .int x2] [.int y1, .ref 3] (0, 0) (LAY, RFu r, mem) := by
  exact r_callv (As := [.int y1]) (S := []) hP d141_83 cr_11_222 (by decide +kernel) rfl (by simp [Value.category]) rfl ly_3 (by simp [Value.category]) ⟨Nat.zero_le _, Nat.zero_le _⟩ k
theorem b141_86 {d : Nat} {P : xPr} {Q : xQr} {r : Nat} {mem : Nat → Nat → Int32} (hP : Cl d none 141 P Q) {x1 : Int32} {x2 : Int32}
    (k : P 35 [.ref 0, .int x1, .int (x2 + nI 1)] [] (0, 0) (LAY, RFu r, mem)) : P 86 [.ref 0, .int x1, .int x2] [] (0, 0) (LAY, RFu r, mem) := by
  refine r_iinc (v := nI 1) (L' := [.ref 0, .int x1, .int (x2 + nI 1)]) hP d141_86 rfl rfl rfl ?_
  refine r_goto (t := 35) hP d141_89 (by decide) ?_
  exact k
theorem b141_92 {d : Nat} {P : xPr} {Q : xQr} {r : Nat} {mem : Nat → Nat → Int32} (hP : Cl d none 141 P Q) {v1 : Value} {v2 : Value}
    (k : xCall d 34 [.ref 3] (LAY, RFu r, mem) (Bk P 96 [.ref 0, v1, v2] [] (0, 0))) : P 92 [.ref 0, v1, v2] [] (0, 0) (LAY, RFu r, mem) := by
  refine r_aload_n hP d141_92 rfl ?_
  refine r_getr (a := 3) hP d141_93 fr_11_19 rfl ly_0 rg_0_1 ?_
  exact r_callv (As := []) (S := []) hP d141_96 cr_11_371 (by decide +kernel) rfl (by simp) rfl ly_3 (by simp [Value.category]) ⟨Nat.zero_le _, Nat.zero_le _⟩ k
theorem b141_99 {d : Nat} {P : xPr} {Q : xQr} {r : Nat} {mem : Nat → Nat → Int32} (hP : Cl d none 141 P Q) {v0 : Value} {v1 : Value} {v2 : Value} {y0 : Int32}
    (k : Q (some (.int y0)) (LAY, RFu r, mem)) : P 99 [v0, v1, v2] [.int y0] (0, 0) (LAY, RFu r, mem) := by
  exact r_iret hP d141_99 rfl k
theorem d142_0 : decode (xB 142) 0 = .ok (.iload_n 1, 1) := by decide +kernel
theorem d142_1 : decode (xB 142) 1 = .ok (.tableswitch 72 1 3 #[27, 42, 57], 27) := by decide +kernel
theorem d142_28 : decode (xB 142) 28 = .ok (.aload_n 0, 1) := by decide +kernel
theorem d142_29 : decode (xB 142) 29 = .ok (.getfield 30, 3) := by decide +kernel
theorem d142_32 : decode (xB 142) 32 = .ok (.getfield 134, 3) := by decide +kernel
theorem d142_35 : decode (xB 142) 35 = .ok (.bipush 103, 2) := by decide +kernel
theorem d142_37 : decode (xB 142) 37 = .ok (.invokevirtual 145, 3) := by decide +kernel
theorem d142_40 : decode (xB 142) 40 = .ok (.goto 33, 3) := by decide +kernel
theorem d142_43 : decode (xB 142) 43 = .ok (.aload_n 0, 1) := by decide +kernel
theorem d142_44 : decode (xB 142) 44 = .ok (.getfield 30, 3) := by decide +kernel
theorem d142_47 : decode (xB 142) 47 = .ok (.getfield 134, 3) := by decide +kernel
theorem d142_50 : decode (xB 142) 50 = .ok (.bipush 98, 2) := by decide +kernel
theorem d142_52 : decode (xB 142) 52 = .ok (.invokevirtual 145, 3) := by decide +kernel
theorem d142_55 : decode (xB 142) 55 = .ok (.goto 18, 3) := by decide +kernel
theorem d142_58 : decode (xB 142) 58 = .ok (.aload_n 0, 1) := by decide +kernel
theorem d142_59 : decode (xB 142) 59 = .ok (.getfield 30, 3) := by decide +kernel
theorem d142_62 : decode (xB 142) 62 = .ok (.getfield 134, 3) := by decide +kernel
theorem d142_65 : decode (xB 142) 65 = .ok (.bipush 99, 2) := by decide +kernel
theorem d142_67 : decode (xB 142) 67 = .ok (.invokevirtual 145, 3) := by decide +kernel
theorem d142_70 : decode (xB 142) 70 = .ok (.goto 3, 3) := by decide +kernel
theorem d142_73 : decode (xB 142) 73 = .ok (.return_, 1) := by decide +kernel
theorem b142_0 {d : Nat} {P : xPr} {Q : xQr} {r : Nat} {mem : Nat → Nat → Int32} (hP : Cl d none 142 P Q) {p0 : Int32}
    (kd : (p0.toInt < 1 ∨ 3 < p0.toInt) → P 73 [.ref 0, .int p0] [] (0, 0) (LAY, RFu r, mem)) (k0 : p0.toInt = 1 → P 28 [.ref 0, .int p0] [] (0, 0) (LAY, RFu r, mem)) (k1 : p0.toInt = 2 → P 43 [.ref 0, .int p0] [] (0, 0) (LAY, RFu r, mem)) (k2 : p0.toInt = 3 → P 58 [.ref 0, .int p0] [] (0, 0) (LAY, RFu r, mem)) : P 0 [.ref 0, .int p0] [] (0, 0) (LAY, RFu r, mem) := by
  refine r_iload_n hP d142_0 rfl ?_
  refine r_table (t := 73) hP d142_1 (by decide) (by decide) kd (fun h1 h2 off ho => ?_)
  have hc : p0.toInt = 1 ∨ p0.toInt = 2 ∨ p0.toInt = 3 := by omega
  rcases hc with hc | hc | hc
  · rw [hc] at ho; cases ho; exact ⟨28, by decide, k0 hc⟩
  · rw [hc] at ho; cases ho; exact ⟨43, by decide, k1 hc⟩
  · rw [hc] at ho; cases ho; exact ⟨58, by decide, k2 hc⟩
theorem b142_28 {d : Nat} {P : xPr} {Q : xQr} {r : Nat} {mem : Nat → Nat → Int32} (hP : Cl d none 142 P Q) {v1 : Value}
    (k : xCall d 37 [.ref 41, .int (nI 103)] (LAY, RFu r, mem) (Bk P 37 [.ref 0, v1] [] (0, 0))) : P 28 [.ref 0, v1] [] (0, 0) (LAY, RFu r, mem) := by
  refine r_aload_n hP d142_28 rfl ?_
  refine r_getr (a := 26) hP d142_29 fr_11_30 rfl ly_0 rg_0_3 ?_
  refine r_getr (a := 41) hP d142_32 fr_11_134 rfl ly_26 rg_26_8 ?_
  refine r_bipush (v := nI 103) hP d142_35 rfl ?_
  exact r_callv (As := [.int (nI 103)]) (S := []) hP d142_37 cr_11_145 (by decide +kernel) rfl (by simp [Value.category]) rfl ly_41 (by simp [Value.category]) ⟨Nat.zero_le _, Nat.zero_le _⟩ k
theorem b142_40 {d : Nat} {P : xPr} {Q : xQr} {r : Nat} {mem : Nat → Nat → Int32} (hP : Cl d none 142 P Q) {v0 : Value} {v1 : Value}
    (k : P 73 [v0, v1] [] (0, 0) (LAY, RFu r, mem)) : P 40 [v0, v1] [] (0, 0) (LAY, RFu r, mem) := by
  refine r_goto (t := 73) hP d142_40 (by decide) ?_
  exact k
theorem b142_43 {d : Nat} {P : xPr} {Q : xQr} {r : Nat} {mem : Nat → Nat → Int32} (hP : Cl d none 142 P Q) {v1 : Value}
    (k : xCall d 37 [.ref 41, .int (nI 98)] (LAY, RFu r, mem) (Bk P 52 [.ref 0, v1] [] (0, 0))) : P 43 [.ref 0, v1] [] (0, 0) (LAY, RFu r, mem) := by
  refine r_aload_n hP d142_43 rfl ?_
  refine r_getr (a := 26) hP d142_44 fr_11_30 rfl ly_0 rg_0_3 ?_
  refine r_getr (a := 41) hP d142_47 fr_11_134 rfl ly_26 rg_26_8 ?_
  refine r_bipush (v := nI 98) hP d142_50 rfl ?_
  exact r_callv (As := [.int (nI 98)]) (S := []) hP d142_52 cr_11_145 (by decide +kernel) rfl (by simp [Value.category]) rfl ly_41 (by simp [Value.category]) ⟨Nat.zero_le _, Nat.zero_le _⟩ k
theorem b142_55 {d : Nat} {P : xPr} {Q : xQr} {r : Nat} {mem : Nat → Nat → Int32} (hP : Cl d none 142 P Q) {v0 : Value} {v1 : Value}
    (k : P 73 [v0, v1] [] (0, 0) (LAY, RFu r, mem)) : P 55 [v0, v1] [] (0, 0) (LAY, RFu r, mem) := by
  refine r_goto (t := 73) hP d142_55 (by decide) ?_
  exact k
theorem b142_58 {d : Nat} {P : xPr} {Q : xQr} {r : Nat} {mem : Nat → Nat → Int32} (hP : Cl d none 142 P Q) {v1 : Value}
    (k : xCall d 37 [.ref 41, .int (nI 99)] (LAY, RFu r, mem) (Bk P 67 [.ref 0, v1] [] (0, 0))) : P 58 [.ref 0, v1] [] (0, 0) (LAY, RFu r, mem) := by
  refine r_aload_n hP d142_58 rfl ?_
  refine r_getr (a := 26) hP d142_59 fr_11_30 rfl ly_0 rg_0_3 ?_
  refine r_getr (a := 41) hP d142_62 fr_11_134 rfl ly_26 rg_26_8 ?_
  refine r_bipush (v := nI 99) hP d142_65 rfl ?_
  exact r_callv (As := [.int (nI 99)]) (S := []) hP d142_67 cr_11_145 (by decide +kernel) rfl (by simp [Value.category]) rfl ly_41 (by simp [Value.category]) ⟨Nat.zero_le _, Nat.zero_le _⟩ k
theorem b142_70 {d : Nat} {P : xPr} {Q : xQr} {r : Nat} {mem : Nat → Nat → Int32} (hP : Cl d none 142 P Q) {v0 : Value} {v1 : Value}
    (k : P 73 [v0, v1] [] (0, 0) (LAY, RFu r, mem)) : P 70 [v0, v1] [] (0, 0) (LAY, RFu r, mem) := by
  refine r_goto (t := 73) hP d142_70 (by decide) ?_
  exact k
theorem b142_73 {d : Nat} {P : xPr} {Q : xQr} {r : Nat} {mem : Nat → Nat → Int32} (hP : Cl d none 142 P Q) {v0 : Value} {v1 : Value}
    (k : Q none (LAY, RFu r, mem)) : P 73 [v0, v1] [] (0, 0) (LAY, RFu r, mem) := by
  exact r_vret hP d142_73 rfl k
theorem d143_0 : decode (xB 143) 0 = .ok (.aload_n 0, 1) := by decide +kernel
theorem d143_1 : decode (xB 143) 1 = .ok (.getfield 26, 3) := by decide +kernel
theorem d143_4 : decode (xB 143) 4 = .ok (.iload_n 1, 1) := by decide +kernel
theorem d143_5 : decode (xB 143) 5 = .ok (.invokevirtual 127, 3) := by decide +kernel
theorem d143_8 : decode (xB 143) 8 = .ok (.ifCond .eq 13, 3) := by decide +kernel
theorem d143_11 : decode (xB 143) 11 = .ok (.iload_n 2, 1) := by decide +kernel
theorem d143_12 : decode (xB 143) 12 = .ok (.iconst 0, 1) := by decide +kernel
theorem d143_13 : decode (xB 143) 13 = .ok (.bipush 100, 2) := by decide +kernel
theorem d143_15 : decode (xB 143) 15 = .ok (.invokestatic 185, 3) := by decide +kernel
theorem d143_18 : decode (xB 143) 18 = .ok (.ifCond .ne 11, 3) := by decide +kernel
theorem d143_21 : decode (xB 143) 21 = .ok (.new 162, 3) := by decide +kernel
theorem d143_29 : decode (xB 143) 29 = .ok (.aload_n 0, 1) := by decide +kernel
theorem d143_30 : decode (xB 143) 30 = .ok (.aload_n 0, 1) := by decide +kernel
theorem d143_31 : decode (xB 143) 31 = .ok (.getfield 26, 3) := by decide +kernel
theorem d143_34 : decode (xB 143) 34 = .ok (.iload_n 2, 1) := by decide +kernel
theorem d143_35 : decode (xB 143) 35 = .ok (.invokevirtual 243, 3) := by decide +kernel
theorem d143_38 : decode (xB 143) 38 = .ok (.aload_n 0, 1) := by decide +kernel
theorem d143_39 : decode (xB 143) 39 = .ok (.iload_n 1, 1) := by decide +kernel
theorem d143_40 : decode (xB 143) 40 = .ok (.invokevirtual 347, 3) := by decide +kernel
theorem d143_43 : decode (xB 143) 43 = .ok (.istore_n 3, 1) := by decide +kernel
theorem d143_44 : decode (xB 143) 44 = .ok (.aload_n 0, 1) := by decide +kernel
theorem d143_45 : decode (xB 143) 45 = .ok (.getfield 30, 3) := by decide +kernel
theorem d143_48 : decode (xB 143) 48 = .ok (.aload_n 0, 1) := by decide +kernel
theorem d143_49 : decode (xB 143) 49 = .ok (.getfield 26, 3) := by decide +kernel
theorem d143_52 : decode (xB 143) 52 = .ok (.invokevirtual 316, 3) := by decide +kernel
theorem d143_55 : decode (xB 143) 55 = .ok (.aload_n 0, 1) := by decide +kernel
theorem d143_56 : decode (xB 143) 56 = .ok (.getfield 30, 3) := by decide +kernel
theorem d143_59 : decode (xB 143) 59 = .ok (.getfield 168, 3) := by decide +kernel
theorem d143_62 : decode (xB 143) 62 = .ok (.iload_n 1, 1) := by decide +kernel
theorem d143_63 : decode (xB 143) 63 = .ok (.iconst 1, 1) := by decide +kernel
theorem d143_64 : decode (xB 143) 64 = .ok (.aload_n 0, 1) := by decide +kernel
theorem d143_65 : decode (xB 143) 65 = .ok (.getfield 26, 3) := by decide +kernel
theorem d143_68 : decode (xB 143) 68 = .ok (.getfield 168, 3) := by decide +kernel
theorem d143_71 : decode (xB 143) 71 = .ok (.iload_n 1, 1) := by decide +kernel
theorem d143_72 : decode (xB 143) 72 = .ok (.iaload, 1) := by decide +kernel
theorem d143_73 : decode (xB 143) 73 = .ok (.isub, 1) := by decide +kernel
theorem d143_74 : decode (xB 143) 74 = .ok (.iastore, 1) := by decide +kernel
theorem d143_75 : decode (xB 143) 75 = .ok (.aload_n 0, 1) := by decide +kernel
theorem d143_76 : decode (xB 143) 76 = .ok (.aload_n 0, 1) := by decide +kernel
theorem d143_77 : decode (xB 143) 77 = .ok (.getfield 30, 3) := by decide +kernel
theorem d143_80 : decode (xB 143) 80 = .ok (.iload_n 2, 1) := by decide +kernel
theorem d143_81 : decode (xB 143) 81 = .ok (.invokevirtual 243, 3) := by decide +kernel
theorem d143_84 : decode (xB 143) 84 = .ok (.iload_n 3, 1) := by decide +kernel
theorem d143_85 : decode (xB 143) 85 = .ok (.aload_n 0, 1) := by decide +kernel
theorem d143_86 : decode (xB 143) 86 = .ok (.iload_n 1, 1) := by decide +kernel
theorem d143_87 : decode (xB 143) 87 = .ok (.invokevirtual 347, 3) := by decide +kernel
theorem d143_90 : decode (xB 143) 90 = .ok (.isub, 1) := by decide +kernel
theorem d143_91 : decode (xB 143) 91 = .ok (.ireturn, 1) := by decide +kernel
theorem b143_0 {d : Nat} {P : xPr} {Q : xQr} {r : Nat} {mem : Nat → Nat → Int32} (hP : Cl d none 143 P Q) {p0 : Int32} {p1 : Int32}
    (k : xCall d 83 [.ref 5, .int p0] (LAY, RFu r, mem) (Bk P 5 [.ref 0, .int p0, .int p1, .null] [] (0, 0))) : P 0 [.ref 0, .int p0, .int p1, .null] [] (0, 0) (LAY, RFu r, mem) := by
  refine r_aload_n hP d143_0 rfl ?_
  refine r_getr (a := 5) hP d143_1 fr_11_26 rfl ly_0 rg_0_2 ?_
  refine r_iload_n hP d143_4 rfl ?_
  exact r_callv (As := [.int p0]) (S := []) hP d143_5 cr_11_127 (by decide +kernel) rfl (by simp [Value.category]) rfl ly_5 (by simp [Value.category]) ⟨Nat.zero_le _, Nat.zero_le _⟩ k
theorem b143_8 {d : Nat} {P : xPr} {Q : xQr} {r : Nat} {mem : Nat → Nat → Int32} (hP : Cl d none 143 P Q) {x1 : Int32} {x2 : Int32} {v3 : Value} {y0 : Int32}
    (kt : y0 = 0 → P 21 [.ref 0, .int x1, .int x2, v3] [] (0, 0) (LAY, RFu r, mem)) (kf : ¬ y0 = 0 → P 11 [.ref 0, .int x1, .int x2, v3] [] (0, 0) (LAY, RFu r, mem)) : P 8 [.ref 0, .int x1, .int x2, v3] [.int y0] (0, 0) (LAY, RFu r, mem) := by
  exact r_if (t := 21) hP d143_8 (by decide) kt kf
theorem b143_11 {d : Nat} {P : xPr} {Q : xQr} {r : Nat} {mem : Nat → Nat → Int32} (hP : Cl d none 143 P Q) {x1 : Int32} {x2 : Int32} {v3 : Value}
    (k : xCall d 151 [.int x2, .int (nI 0), .int (nI 100)] (LAY, RFu r, mem) (Bk P 15 [.ref 0, .int x1, .int x2, v3] [] (0, 0))) : P 11 [.ref 0, .int x1, .int x2, v3] [] (0, 0) (LAY, RFu r, mem) := by
  refine r_iload_n hP d143_11 rfl ?_
  refine r_iconst (v := nI 0) hP d143_12 rfl ?_
  refine r_bipush (v := nI 100) hP d143_13 rfl ?_
  exact r_calls (As := [.int x2, .int (nI 0), .int (nI 100)]) (S := []) hP d143_15 cr_11_185 (by decide +kernel) rfl (by simp [Value.category]) rfl (by simp [Value.category]) ⟨Nat.zero_le _, Nat.zero_le _⟩ k
theorem b143_18 {d : Nat} {P : xPr} {Q : xQr} {r : Nat} {mem : Nat → Nat → Int32} (hP : Cl d none 143 P Q) {x1 : Int32} {x2 : Int32} {v3 : Value} {y0 : Int32}
    (kt : ¬ y0 = 0 → P 29 [.ref 0, .int x1, .int x2, v3] [] (0, 0) (LAY, RFu r, mem)) (kf : y0 = 0 → P 21 [.ref 0, .int x1, .int x2, v3] [] (0, 0) (LAY, RFu r, mem)) : P 18 [.ref 0, .int x1, .int x2, v3] [.int y0] (0, 0) (LAY, RFu r, mem) := by
  exact r_if (t := 29) hP d143_18 (by decide) kt (fun q => kf (Decidable.of_not_not q))
theorem b143_21 {d : Nat} {P : xPr} {Q : xQr} {r : Nat} {mem : Nat → Nat → Int32} (hP : Cl d none 143 P Q) {v0 : Value} {v1 : Value} {v2 : Value} {v3 : Value}
    (k : Q (some .null) (LAY, RFu r, mem)) : P 21 [v0, v1, v2, v3] [] (0, 0) (LAY, RFu r, mem) := by
  exact r_throw hP d143_21 rfl k
theorem b143_29 {d : Nat} {P : xPr} {Q : xQr} {r : Nat} {mem : Nat → Nat → Int32} (hP : Cl d none 143 P Q) {x1 : Int32} {x2 : Int32} {v3 : Value}
    (k : xCall d 153 [.ref 0, .ref 5, .int x2] (LAY, RFu r, mem) (Bk P 35 [.ref 0, .int x1, .int x2, v3] [] (0, 0))) : P 29 [.ref 0, .int x1, .int x2, v3] [] (0, 0) (LAY, RFu r, mem) := by
  refine r_aload_n hP d143_29 rfl ?_
  refine r_aload_n hP d143_30 rfl ?_
  refine r_getr (a := 5) hP d143_31 fr_11_26 rfl ly_0 rg_0_2 ?_
  refine r_iload_n hP d143_34 rfl ?_
  exact r_callv (As := [.ref 5, .int x2]) (S := []) hP d143_35 cr_11_243 (by decide +kernel) rfl (by simp [Value.category]) rfl ly_0 (by simp [Value.category]) ⟨Nat.zero_le _, Nat.zero_le _⟩ k
theorem b143_38 {d : Nat} {P : xPr} {Q : xQr} {r : Nat} {mem : Nat → Nat → Int32} (hP : Cl d none 143 P Q) {x1 : Int32} {x2 : Int32} {v3 : Value}
    (k : xCall d 154 [.ref 0, .int x1] (LAY, RFu r, mem) (Bk P 40 [.ref 0, .int x1, .int x2, v3] [] (0, 0))) : P 38 [.ref 0, .int x1, .int x2, v3] [] (0, 0) (LAY, RFu r, mem) := by
  refine r_aload_n hP d143_38 rfl ?_
  refine r_iload_n hP d143_39 rfl ?_
  exact r_callv (As := [.int x1]) (S := []) hP d143_40 cr_11_347 (by decide +kernel) rfl (by simp [Value.category]) rfl ly_0 (by simp [Value.category]) ⟨Nat.zero_le _, Nat.zero_le _⟩ k
theorem b143_43 {d : Nat} {P : xPr} {Q : xQr} {r : Nat} {mem : Nat → Nat → Int32} (hP : Cl d none 143 P Q) {x1 : Int32} {x2 : Int32} {v3 : Value} {y0 : Int32}
    (k : xCall d 88 [.ref 26, .ref 5] (LAY, RFu r, mem) (Bk P 52 [.ref 0, .int x1, .int x2, .int y0] [] (0, 0))) : P 43 [.ref 0, .int x1, .int x2, v3] [.int y0] (0, 0) (LAY, RFu r, mem) := by
  refine r_istore_n (L' := [.ref 0, .int x1, .int x2, .int y0]) hP d143_43 (Nat.le_of_ble_eq_true rfl) rfl ?_
  refine r_aload_n hP d143_44 rfl ?_
  refine r_getr (a := 26) hP d143_45 fr_11_30 rfl ly_0 rg_0_3 ?_
  refine r_aload_n hP d143_48 rfl ?_
  refine r_getr (a := 5) hP d143_49 fr_11_26 rfl ly_0 rg_0_2 ?_
  exact r_callv (As := [.ref 5]) (S := []) hP d143_52 cr_11_316 (by decide +kernel) rfl (by simp [Value.category]) rfl ly_26 (by simp [Value.category]) ⟨Nat.zero_le _, Nat.zero_le _⟩ k
theorem b143_55 {d : Nat} {P : xPr} {Q : xQr} {r : Nat} {mem : Nat → Nat → Int32} (hP : Cl d none 143 P Q) {x1 : Int32} {x2 : Int32} {x3 : Int32} (hi72 : vp_in x1 8) (hi74 : vp_in x1 8)
    (k : xCall d 153 [.ref 0, .ref 26, .int x2] (LAY, RFu r, xu2 mem 29 x1.toNatClampNeg ((nI 1) - (mem 8 x1.toNatClampNeg))) (Bk P 81 [.ref 0, .int x1, .int x2, .int x3] [] (0, 0))) : P 55 [.ref 0, .int x1, .int x2, .int x3] [] (0, 0) (LAY, RFu r, mem) := by
  refine r_aload_n hP d143_55 rfl ?_
  refine r_getr (a := 26) hP d143_56 fr_11_30 rfl ly_0 rg_0_3 ?_
  refine r_getr (a := 29) hP d143_59 fr_11_168 rfl ly_26 rg_26_4 ?_
  refine r_iload_n hP d143_62 rfl ?_
  refine r_iconst (v := nI 1) hP d143_63 rfl ?_
  refine r_aload_n hP d143_64 rfl ?_
  refine r_getr (a := 5) hP d143_65 fr_11_26 rfl ly_0 rg_0_2 ?_
  refine r_getr (a := 8) hP d143_68 fr_11_168 rfl ly_5 rg_5_4 ?_
  refine r_iload_n hP d143_71 rfl ?_
  refine r_iaload hP d143_72 ly_8 hi72 ?_
  refine r_isub hP d143_73 ?_
  refine r_iastore hP d143_74 ly_29 hi74 ?_
  refine r_aload_n hP d143_75 rfl ?_
  refine r_aload_n hP d143_76 rfl ?_
  refine r_getr (a := 26) hP d143_77 fr_11_30 rfl ly_0 rg_0_3 ?_
  refine r_iload_n hP d143_80 rfl ?_
  exact r_callv (As := [.ref 26, .int x2]) (S := []) hP d143_81 cr_11_243 (by decide +kernel) rfl (by simp [Value.category]) rfl ly_0 (by simp [Value.category]) ⟨Nat.zero_le _, Nat.zero_le _⟩ k
theorem b143_84 {d : Nat} {P : xPr} {Q : xQr} {r : Nat} {mem : Nat → Nat → Int32} (hP : Cl d none 143 P Q) {x1 : Int32} {v2 : Value} {x3 : Int32}
    (k : xCall d 154 [.ref 0, .int x1] (LAY, RFu r, mem) (Bk P 87 [.ref 0, .int x1, v2, .int x3] [.int x3] (0, 0))) : P 84 [.ref 0, .int x1, v2, .int x3] [] (0, 0) (LAY, RFu r, mem) := by
  refine r_iload_n hP d143_84 rfl ?_
  refine r_aload_n hP d143_85 rfl ?_
  refine r_iload_n hP d143_86 rfl ?_
  exact r_callv (As := [.int x1]) (S := [.int x3]) hP d143_87 cr_11_347 (by decide +kernel) rfl (by simp [Value.category]) rfl ly_0 (by simp [Value.category]) ⟨Nat.zero_le _, Nat.zero_le _⟩ k
theorem b143_90 {d : Nat} {P : xPr} {Q : xQr} {r : Nat} {mem : Nat → Nat → Int32} (hP : Cl d none 143 P Q) {v0 : Value} {v1 : Value} {v2 : Value} {v3 : Value} {y0 : Int32} {y1 : Int32}
    (k : Q (some (.int (y0 - y1))) (LAY, RFu r, mem)) : P 90 [v0, v1, v2, v3] [.int y1, .int y0] (0, 0) (LAY, RFu r, mem) := by
  refine r_isub hP d143_90 ?_
  exact r_iret hP d143_91 rfl k
theorem d144_0 : decode (xB 144) 0 = .ok (.aload_n 0, 1) := by decide +kernel
theorem d144_1 : decode (xB 144) 1 = .ok (.getfield 26, 3) := by decide +kernel
theorem d144_4 : decode (xB 144) 4 = .ok (.invokevirtual 374, 3) := by decide +kernel
theorem d144_7 : decode (xB 144) 7 = .ok (.istore_n 1, 1) := by decide +kernel
theorem d144_8 : decode (xB 144) 8 = .ok (.iload_n 1, 1) := by decide +kernel
theorem d144_9 : decode (xB 144) 9 = .ok (.ifCond .gt 6, 3) := by decide +kernel
theorem d144_12 : decode (xB 144) 12 = .ok (.bipush (-2), 2) := by decide +kernel
theorem d144_14 : decode (xB 144) 14 = .ok (.ireturn, 1) := by decide +kernel
theorem d144_15 : decode (xB 144) 15 = .ok (.aload_n 0, 1) := by decide +kernel
theorem d144_16 : decode (xB 144) 16 = .ok (.getfield 40, 3) := by decide +kernel
theorem d144_19 : decode (xB 144) 19 = .ok (.aload_n 0, 1) := by decide +kernel
theorem d144_20 : decode (xB 144) 20 = .ok (.getfield 36, 3) := by decide +kernel
theorem d144_23 : decode (xB 144) 23 = .ok (.invokevirtual 293, 3) := by decide +kernel
theorem d144_26 : decode (xB 144) 26 = .ok (.aload_n 0, 1) := by decide +kernel
theorem d144_27 : decode (xB 144) 27 = .ok (.iconst 0, 1) := by decide +kernel
theorem d144_28 : decode (xB 144) 28 = .ok (.invokevirtual 377, 3) := by decide +kernel
theorem d144_31 : decode (xB 144) 31 = .ok (.iconst 1, 1) := by decide +kernel
theorem d144_32 : decode (xB 144) 32 = .ok (.istore_n 2, 1) := by decide +kernel
theorem d144_33 : decode (xB 144) 33 = .ok (.iload_n 2, 1) := by decide +kernel
theorem d144_34 : decode (xB 144) 34 = .ok (.sipush 500, 3) := by decide +kernel
theorem d144_37 : decode (xB 144) 37 = .ok (.if_icmp .gt 71, 3) := by decide +kernel
theorem d144_40 : decode (xB 144) 40 = .ok (.aload_n 0, 1) := by decide +kernel
theorem d144_41 : decode (xB 144) 41 = .ok (.getfield 46, 3) := by decide +kernel
theorem d144_44 : decode (xB 144) 44 = .ok (.aload_n 0, 1) := by decide +kernel
theorem d144_45 : decode (xB 144) 45 = .ok (.getfield 26, 3) := by decide +kernel
theorem d144_48 : decode (xB 144) 48 = .ok (.aload_n 0, 1) := by decide +kernel
theorem d144_49 : decode (xB 144) 49 = .ok (.getfield 40, 3) := by decide +kernel
theorem d144_52 : decode (xB 144) 52 = .ok (.invokevirtual 229, 3) := by decide +kernel
theorem d144_55 : decode (xB 144) 55 = .ok (.pop, 1) := by decide +kernel
theorem d144_56 : decode (xB 144) 56 = .ok (.aload_n 0, 1) := by decide +kernel
theorem d144_57 : decode (xB 144) 57 = .ok (.iload_n 2, 1) := by decide +kernel
theorem d144_58 : decode (xB 144) 58 = .ok (.invokevirtual 377, 3) := by decide +kernel
theorem d144_61 : decode (xB 144) 61 = .ok (.iload_n 2, 1) := by decide +kernel
theorem d144_62 : decode (xB 144) 62 = .ok (.iload_n 1, 1) := by decide +kernel
theorem d144_63 : decode (xB 144) 63 = .ok (.isub, 1) := by decide +kernel
theorem d144_64 : decode (xB 144) 64 = .ok (.istore_n 3, 1) := by decide +kernel
theorem d144_65 : decode (xB 144) 65 = .ok (.iload_n 3, 1) := by decide +kernel
theorem d144_66 : decode (xB 144) 66 = .ok (.ifCond .lt 36, 3) := by decide +kernel
theorem d144_69 : decode (xB 144) 69 = .ok (.aload_n 0, 1) := by decide +kernel
theorem d144_70 : decode (xB 144) 70 = .ok (.iload_n 2, 1) := by decide +kernel
theorem d144_71 : decode (xB 144) 71 = .ok (.iload_n 3, 1) := by decide +kernel
theorem d144_72 : decode (xB 144) 72 = .ok (.invokevirtual 380, 3) := by decide +kernel
theorem d144_75 : decode (xB 144) 75 = .ok (.ifCond .eq 20, 3) := by decide +kernel
theorem d144_78 : decode (xB 144) 78 = .ok (.aload_n 0, 1) := by decide +kernel
theorem d144_79 : decode (xB 144) 79 = .ok (.getfield 19, 3) := by decide +kernel
theorem d144_82 : decode (xB 144) 82 = .ok (.invokevirtual 213, 3) := by decide +kernel
theorem d144_85 : decode (xB 144) 85 = .ok (.aload_n 0, 1) := by decide +kernel
theorem d144_86 : decode (xB 144) 86 = .ok (.getfield 19, 3) := by decide +kernel
theorem d144_89 : decode (xB 144) 89 = .ok (.iload_n 3, 1) := by decide +kernel
theorem d144_90 : decode (xB 144) 90 = .ok (.invokevirtual 222, 3) := by decide +kernel
theorem d144_93 : decode (xB 144) 93 = .ok (.iload_n 2, 1) := by decide +kernel
theorem d144_94 : decode (xB 144) 94 = .ok (.ireturn, 1) := by decide +kernel
theorem d144_95 : decode (xB 144) 95 = .ok (.iload_n 3, 1) := by decide +kernel
theorem d144_96 : decode (xB 144) 96 = .ok (.iload_n 1, 1) := by decide +kernel
theorem d144_97 : decode (xB 144) 97 = .ok (.isub, 1) := by decide +kernel
theorem d144_98 : decode (xB 144) 98 = .ok (.istore_n 3, 1) := by decide +kernel
theorem d144_99 : decode (xB 144) 99 = .ok (.goto (-34), 3) := by decide +kernel
theorem d144_102 : decode (xB 144) 102 = .ok (.iinc 2 1, 3) := by decide +kernel
theorem d144_105 : decode (xB 144) 105 = .ok (.goto (-72), 3) := by decide +kernel
theorem d144_108 : decode (xB 144) 108 = .ok (.bipush (-2), 2) := by decide +kernel
theorem d144_110 : decode (xB 144) 110 = .ok (.ireturn, 1) := by decide +kernel
theorem b144_0 {d : Nat} {P : xPr} {Q : xQr} {r : Nat} {mem : Nat → Nat → Int32} (hP : Cl d none 144 P Q)
    (k : xCall d 95 [.ref 5] (LAY, RFu r, mem) (Bk P 4 [.ref 0, .null, .null, .null] [] (0, 0))) : P 0 [.ref 0, .null, .null, .null] [] (0, 0) (LAY, RFu r, mem) := by
  refine r_aload_n hP d144_0 rfl ?_
  refine r_getr (a := 5) hP d144_1 fr_11_26 rfl ly_0 rg_0_2 ?_
  exact r_callv (As := []) (S := []) hP d144_4 cr_11_374 (by decide +kernel) rfl (by simp) rfl ly_5 (by simp [Value.category]) ⟨Nat.zero_le _, Nat.zero_le _⟩ k
theorem b144_7 {d : Nat} {P : xPr} {Q : xQr} {r : Nat} {mem : Nat → Nat → Int32} (hP : Cl d none 144 P Q) {v1 : Value} {v2 : Value} {v3 : Value} {y0 : Int32}
    (kt : 0 < y0 → P 15 [.ref 0, .int y0, v2, v3] [] (0, 0) (LAY, RFu r, mem)) (kf : ¬ 0 < y0 → P 12 [.ref 0, .int y0, v2, v3] [] (0, 0) (LAY, RFu r, mem)) : P 7 [.ref 0, v1, v2, v3] [.int y0] (0, 0) (LAY, RFu r, mem) := by
  refine r_istore_n (L' := [.ref 0, .int y0, v2, v3]) hP d144_7 (Nat.le_of_ble_eq_true rfl) rfl ?_
  refine r_iload_n hP d144_8 rfl ?_
  exact r_if (t := 15) hP d144_9 (by decide) kt kf
theorem b144_12 {d : Nat} {P : xPr} {Q : xQr} {r : Nat} {mem : Nat → Nat → Int32} (hP : Cl d none 144 P Q) {v0 : Value} {v1 : Value} {v2 : Value} {v3 : Value}
    (k : Q (some (.int (-2))) (LAY, RFu r, mem)) : P 12 [v0, v1, v2, v3] [] (0, 0) (LAY, RFu r, mem) := by
  refine r_bipush (v := (-2)) hP d144_12 rfl ?_
  exact r_iret hP d144_14 rfl k
theorem b144_15 {d : Nat} {P : xPr} {Q : xQr} {r : Nat} {mem : Nat → Nat → Int32} (hP : Cl d none 144 P Q) {x1 : Int32} {v2 : Value} {v3 : Value}
    (k : xCall d 60 [.ref 49, .ref 47] (LAY, RFu r, mem) (Bk P 23 [.ref 0, .int x1, v2, v3] [] (0, 0))) : P 15 [.ref 0, .int x1, v2, v3] [] (0, 0) (LAY, RFu r, mem) := by
  refine r_aload_n hP d144_15 rfl ?_
  refine r_getr (a := 49) hP d144_16 fr_11_40 rfl ly_0 rg_0_5 ?_
  refine r_aload_n hP d144_19 rfl ?_
  refine r_getr (a := 47) hP d144_20 fr_11_36 rfl ly_0 rg_0_4 ?_
  exact r_callv (As := [.ref 47]) (S := []) hP d144_23 cr_11_293 (by decide +kernel) rfl (by simp [Value.category]) rfl ly_49 (by simp [Value.category]) ⟨Nat.zero_le _, Nat.zero_le _⟩ k
theorem b144_26 {d : Nat} {P : xPr} {Q : xQr} {r : Nat} {mem : Nat → Nat → Int32} (hP : Cl d none 144 P Q) {x1 : Int32} {v2 : Value} {v3 : Value}
    (k : xCall d 145 [.ref 0, .int (nI 0)] (LAY, RFu r, mem) (Bk P 28 [.ref 0, .int x1, v2, v3] [] (0, 0))) : P 26 [.ref 0, .int x1, v2, v3] [] (0, 0) (LAY, RFu r, mem) := by
  refine r_aload_n hP d144_26 rfl ?_
  refine r_iconst (v := nI 0) hP d144_27 rfl ?_
  exact r_callv (As := [.int (nI 0)]) (S := []) hP d144_28 cr_11_377 (by decide +kernel) rfl (by simp [Value.category]) rfl ly_0 (by simp [Value.category]) ⟨Nat.zero_le _, Nat.zero_le _⟩ k
theorem b144_31 {d : Nat} {P : xPr} {Q : xQr} {r : Nat} {mem : Nat → Nat → Int32} (hP : Cl d none 144 P Q) {x1 : Int32} {v2 : Value} {v3 : Value}
    (k : P 33 [.ref 0, .int x1, .int (nI 1), v3] [] (0, 0) (LAY, RFu r, mem)) : P 31 [.ref 0, .int x1, v2, v3] [] (0, 0) (LAY, RFu r, mem) := by
  refine r_iconst (v := nI 1) hP d144_31 rfl ?_
  refine r_istore_n (L' := [.ref 0, .int x1, .int (nI 1), v3]) hP d144_32 (Nat.le_of_ble_eq_true rfl) rfl ?_
  exact k
theorem b144_33 {d : Nat} {P : xPr} {Q : xQr} {r : Nat} {mem : Nat → Nat → Int32} (hP : Cl d none 144 P Q) {x1 : Int32} {x2 : Int32} {v3 : Value}
    (kt : (nI 500) < x2 → P 108 [.ref 0, .int x1, .int x2, v3] [] (0, 0) (LAY, RFu r, mem)) (kf : ¬ (nI 500) < x2 → P 40 [.ref 0, .int x1, .int x2, v3] [] (0, 0) (LAY, RFu r, mem)) : P 33 [.ref 0, .int x1, .int x2, v3] [] (0, 0) (LAY, RFu r, mem) := by
  refine r_iload_n hP d144_33 rfl ?_
  refine r_sipush (v := nI 500) hP d144_34 rfl ?_
  exact r_icmp (t := 108) hP d144_37 (by decide) kt kf
theorem b144_40 {d : Nat} {P : xPr} {Q : xQr} {r : Nat} {mem : Nat → Nat → Int32} (hP : Cl d none 144 P Q) {x1 : Int32} {x2 : Int32} {v3 : Value}
    (k : xCall d 8 [.ref 51, .ref 5, .ref 49] (LAY, RFu r, mem) (Bk P 52 [.ref 0, .int x1, .int x2, v3] [] (0, 0))) : P 40 [.ref 0, .int x1, .int x2, v3] [] (0, 0) (LAY, RFu r, mem) := by
  refine r_aload_n hP d144_40 rfl ?_
  refine r_getr (a := 51) hP d144_41 fr_11_46 rfl ly_0 rg_0_6 ?_
  refine r_aload_n hP d144_44 rfl ?_
  refine r_getr (a := 5) hP d144_45 fr_11_26 rfl ly_0 rg_0_2 ?_
  refine r_aload_n hP d144_48 rfl ?_
  refine r_getr (a := 49) hP d144_49 fr_11_40 rfl ly_0 rg_0_5 ?_
  exact r_callv (As := [.ref 5, .ref 49]) (S := []) hP d144_52 cr_11_229 (by decide +kernel) rfl (by simp [Value.category]) rfl ly_51 (by simp [Value.category]) ⟨Nat.zero_le _, Nat.zero_le _⟩ k
theorem b144_55 {d : Nat} {P : xPr} {Q : xQr} {r : Nat} {mem : Nat → Nat → Int32} (hP : Cl d none 144 P Q) {x1 : Int32} {x2 : Int32} {v3 : Value} {y0 : Int32}
    (k : xCall d 145 [.ref 0, .int x2] (LAY, RFu r, mem) (Bk P 58 [.ref 0, .int x1, .int x2, v3] [] (0, 0))) : P 55 [.ref 0, .int x1, .int x2, v3] [.int y0] (0, 0) (LAY, RFu r, mem) := by
  refine r_pop hP d144_55 rfl ?_
  refine r_aload_n hP d144_56 rfl ?_
  refine r_iload_n hP d144_57 rfl ?_
  exact r_callv (As := [.int x2]) (S := []) hP d144_58 cr_11_377 (by decide +kernel) rfl (by simp [Value.category]) rfl ly_0 (by simp [Value.category]) ⟨Nat.zero_le _, Nat.zero_le _⟩ k
theorem b144_61 {d : Nat} {P : xPr} {Q : xQr} {r : Nat} {mem : Nat → Nat → Int32} (hP : Cl d none 144 P Q) {x1 : Int32} {x2 : Int32} {v3 : Value}
    (k : P 65 [.ref 0, .int x1, .int x2, .int (x2 - x1)] [] (0, 0) (LAY, RFu r, mem)) : P 61 [.ref 0, .int x1, .int x2, v3] [] (0, 0) (LAY, RFu r, mem) := by
  refine r_iload_n hP d144_61 rfl ?_
  refine r_iload_n hP d144_62 rfl ?_
  refine r_isub hP d144_63 ?_
  refine r_istore_n (L' := [.ref 0, .int x1, .int x2, .int (x2 - x1)]) hP d144_64 (Nat.le_of_ble_eq_true rfl) rfl ?_
  exact k
theorem b144_65 {d : Nat} {P : xPr} {Q : xQr} {r : Nat} {mem : Nat → Nat → Int32} (hP : Cl d none 144 P Q) {x1 : Int32} {x2 : Int32} {x3 : Int32}
    (kt : x3 < 0 → P 102 [.ref 0, .int x1, .int x2, .int x3] [] (0, 0) (LAY, RFu r, mem)) (kf : ¬ x3 < 0 → P 69 [.ref 0, .int x1, .int x2, .int x3] [] (0, 0) (LAY, RFu r, mem)) : P 65 [.ref 0, .int x1, .int x2, .int x3] [] (0, 0) (LAY, RFu r, mem) := by
  refine r_iload_n hP d144_65 rfl ?_
  exact r_if (t := 102) hP d144_66 (by decide) kt kf
theorem b144_69 {d : Nat} {P : xPr} {Q : xQr} {r : Nat} {mem : Nat → Nat → Int32} (hP : Cl d none 144 P Q) {x1 : Int32} {x2 : Int32} {x3 : Int32}
    (k : xCall d 146 [.ref 0, .int x2, .int x3] (LAY, RFu r, mem) (Bk P 72 [.ref 0, .int x1, .int x2, .int x3] [] (0, 0))) : P 69 [.ref 0, .int x1, .int x2, .int x3] [] (0, 0) (LAY, RFu r, mem) := by
  refine r_aload_n hP d144_69 rfl ?_
  refine r_iload_n hP d144_70 rfl ?_
  refine r_iload_n hP d144_71 rfl ?_
  exact r_callv (As := [.int x2, .int x3]) (S := []) hP d144_72 cr_11_380 (by decide +kernel) rfl (by simp [Value.category]) rfl ly_0 (by simp [Value.category]) ⟨Nat.zero_le _, Nat.zero_le _⟩ k
theorem b144_75 {d : Nat} {P : xPr} {Q : xQr} {r : Nat} {mem : Nat → Nat → Int32} (hP : Cl d none 144 P Q) {x1 : Int32} {x2 : Int32} {x3 : Int32} {y0 : Int32}
    (kt : y0 = 0 → P 95 [.ref 0, .int x1, .int x2, .int x3] [] (0, 0) (LAY, RFu r, mem)) (kf : ¬ y0 = 0 → P 78 [.ref 0, .int x1, .int x2, .int x3] [] (0, 0) (LAY, RFu r, mem)) : P 75 [.ref 0, .int x1, .int x2, .int x3] [.int y0] (0, 0) (LAY, RFu r, mem) := by
  exact r_if (t := 95) hP d144_75 (by decide) kt kf
theorem b144_78 {d : Nat} {P : xPr} {Q : xQr} {r : Nat} {mem : Nat → Nat → Int32} (hP : Cl d none 144 P Q) {v1 : Value} {x2 : Int32} {x3 : Int32}
    (k : xCall d 31 [.ref 3] (LAY, RFu r, mem) (Bk P 82 [.ref 0, v1, .int x2, .int x3] [] (0, 0))) : P 78 [.ref 0, v1, .int x2, .int x3] [] (0, 0) (LAY, RFu r, mem) := by
  refine r_aload_n hP d144_78 rfl ?_
  refine r_getr (a := 3) hP d144_79 fr_11_19 rfl ly_0 rg_0_1 ?_
  exact r_callv (As := []) (S := []) hP d144_82 cr_11_213 (by decide +kernel) rfl (by simp) rfl ly_3 (by simp [Value.category]) ⟨Nat.zero_le _, Nat.zero_le _⟩ k
theorem b144_85 {d : Nat} {P : xPr} {Q : xQr} {r : Nat} {mem : Nat → Nat → Int32} (hP : Cl d none 144 P Q) {v1 : Value} {x2 : Int32} {x3 : Int32}
    (k : xCall d 32 [.ref 3, .int x3] (LAY, RFu r, mem) (Bk P 90 [.ref 0, v1, .int x2, .int x3] [] (0, 0))) : P 85 [.ref 0, v1, .int x2, .int x3] [] (0, 0) (LAY, RFu r, mem) := by
  refine r_aload_n hP d144_85 rfl ?_
  refine r_getr (a := 3) hP d144_86 fr_11_19 rfl ly_0 rg_0_1 ?_
  refine r_iload_n hP d144_89 rfl ?_
  exact r_callv (As := [.int x3]) (S := []) hP d144_90 cr_11_222 (by decide +kernel) rfl (by simp [Value.category]) rfl ly_3 (by simp [Value.category]) ⟨Nat.zero_le _, Nat.zero_le _⟩ k
theorem b144_93 {d : Nat} {P : xPr} {Q : xQr} {r : Nat} {mem : Nat → Nat → Int32} (hP : Cl d none 144 P Q) {v0 : Value} {v1 : Value} {x2 : Int32} {v3 : Value}
    (k : Q (some (.int x2)) (LAY, RFu r, mem)) : P 93 [v0, v1, .int x2, v3] [] (0, 0) (LAY, RFu r, mem) := by
  refine r_iload_n hP d144_93 rfl ?_
  exact r_iret hP d144_94 rfl k
theorem b144_95 {d : Nat} {P : xPr} {Q : xQr} {r : Nat} {mem : Nat → Nat → Int32} (hP : Cl d none 144 P Q) {x1 : Int32} {x2 : Int32} {x3 : Int32}
    (k : P 65 [.ref 0, .int x1, .int x2, .int (x3 - x1)] [] (0, 0) (LAY, RFu r, mem)) : P 95 [.ref 0, .int x1, .int x2, .int x3] [] (0, 0) (LAY, RFu r, mem) := by
  refine r_iload_n hP d144_95 rfl ?_
  refine r_iload_n hP d144_96 rfl ?_
  refine r_isub hP d144_97 ?_
  refine r_istore_n (L' := [.ref 0, .int x1, .int x2, .int (x3 - x1)]) hP d144_98 (Nat.le_of_ble_eq_true rfl) rfl ?_
  refine r_goto (t := 65) hP d144_99 (by decide) ?_
  exact k
theorem b144_102 {d : Nat} {P : xPr} {Q : xQr} {r : Nat} {mem : Nat → Nat → Int32} (hP : Cl d none 144 P Q) {x1 : Int32} {x2 : Int32} {v3 : Value}
    (k : P 33 [.ref 0, .int x1, .int (x2 + nI 1), v3] [] (0, 0) (LAY, RFu r, mem)) : P 102 [.ref 0, .int x1, .int x2, v3] [] (0, 0) (LAY, RFu r, mem) := by
  refine r_iinc (v := nI 1) (L' := [.ref 0, .int x1, .int (x2 + nI 1), v3]) hP d144_102 rfl rfl rfl ?_
  refine r_goto (t := 33) hP d144_105 (by decide) ?_
  exact k
theorem b144_108 {d : Nat} {P : xPr} {Q : xQr} {r : Nat} {mem : Nat → Nat → Int32} (hP : Cl d none 144 P Q) {v0 : Value} {v1 : Value} {v2 : Value} {v3 : Value}
    (k : Q (some (.int (-2))) (LAY, RFu r, mem)) : P 108 [v0, v1, v2, v3] [] (0, 0) (LAY, RFu r, mem) := by
  refine r_bipush (v := (-2)) hP d144_108 rfl ?_
  exact r_iret hP d144_110 rfl k
theorem d145_0 : decode (xB 145) 0 = .ok (.iconst 0, 1) := by decide +kernel
theorem d145_1 : decode (xB 145) 1 = .ok (.istore_n 2, 1) := by decide +kernel
theorem d145_2 : decode (xB 145) 2 = .ok (.iload_n 2, 1) := by decide +kernel
theorem d145_3 : decode (xB 145) 3 = .ok (.aload_n 0, 1) := by decide +kernel
theorem d145_4 : decode (xB 145) 4 = .ok (.getfield 26, 3) := by decide +kernel
theorem d145_7 : decode (xB 145) 7 = .ok (.getfield 192, 3) := by decide +kernel
theorem d145_10 : decode (xB 145) 10 = .ok (.if_icmp .ge 79, 3) := by decide +kernel
theorem d145_13 : decode (xB 145) 13 = .ok (.aload_n 0, 1) := by decide +kernel
theorem d145_14 : decode (xB 145) 14 = .ok (.getfield 40, 3) := by decide +kernel
theorem d145_17 : decode (xB 145) 17 = .ok (.getfield 171, 3) := by decide +kernel
theorem d145_20 : decode (xB 145) 20 = .ok (.bipush 16, 2) := by decide +kernel
theorem d145_22 : decode (xB 145) 22 = .ok (.iload_n 2, 1) := by decide +kernel
theorem d145_23 : decode (xB 145) 23 = .ok (.iadd, 1) := by decide +kernel
theorem d145_24 : decode (xB 145) 24 = .ok (.iaload, 1) := by decide +kernel
theorem d145_25 : decode (xB 145) 25 = .ok (.aload_n 0, 1) := by decide +kernel
theorem d145_26 : decode (xB 145) 26 = .ok (.getfield 40, 3) := by decide +kernel
theorem d145_29 : decode (xB 145) 29 = .ok (.getfield 171, 3) := by decide +kernel
theorem d145_32 : decode (xB 145) 32 = .ok (.bipush 24, 2) := by decide +kernel
theorem d145_34 : decode (xB 145) 34 = .ok (.iload_n 2, 1) := by decide +kernel
theorem d145_35 : decode (xB 145) 35 = .ok (.iadd, 1) := by decide +kernel
theorem d145_36 : decode (xB 145) 36 = .ok (.iaload, 1) := by decide +kernel
theorem d145_37 : decode (xB 145) 37 = .ok (.iadd, 1) := by decide +kernel
theorem d145_38 : decode (xB 145) 38 = .ok (.istore_n 3, 1) := by decide +kernel
theorem d145_39 : decode (xB 145) 39 = .ok (.aload_n 0, 1) := by decide +kernel
theorem d145_40 : decode (xB 145) 40 = .ok (.getfield 40, 3) := by decide +kernel
theorem d145_43 : decode (xB 145) 43 = .ok (.getfield 171, 3) := by decide +kernel
theorem d145_46 : decode (xB 145) 46 = .ok (.iconst 0, 1) := by decide +kernel
theorem d145_47 : decode (xB 145) 47 = .ok (.iload_n 2, 1) := by decide +kernel
theorem d145_48 : decode (xB 145) 48 = .ok (.iadd, 1) := by decide +kernel
theorem d145_49 : decode (xB 145) 49 = .ok (.iaload, 1) := by decide +kernel
theorem d145_50 : decode (xB 145) 50 = .ok (.iconst 1, 1) := by decide +kernel
theorem d145_51 : decode (xB 145) 51 = .ok (.iadd, 1) := by decide +kernel
theorem d145_52 : decode (xB 145) 52 = .ok (.iconst 4, 1) := by decide +kernel
theorem d145_53 : decode (xB 145) 53 = .ok (.imul, 1) := by decide +kernel
theorem d145_54 : decode (xB 145) 54 = .ok (.aload_n 0, 1) := by decide +kernel
theorem d145_55 : decode (xB 145) 55 = .ok (.getfield 40, 3) := by decide +kernel
theorem d145_58 : decode (xB 145) 58 = .ok (.iload_n 2, 1) := by decide +kernel
theorem d145_59 : decode (xB 145) 59 = .ok (.invokevirtual 174, 3) := by decide +kernel
theorem d145_62 : decode (xB 145) 62 = .ok (.iadd, 1) := by decide +kernel
theorem d145_63 : decode (xB 145) 63 = .ok (.istore 4, 2) := by decide +kernel
theorem d145_65 : decode (xB 145) 65 = .ok (.aload_n 0, 1) := by decide +kernel
theorem d145_66 : decode (xB 145) 66 = .ok (.getfield 99, 3) := by decide +kernel
theorem d145_69 : decode (xB 145) 69 = .ok (.iload_n 1, 1) := by decide +kernel
theorem d145_70 : decode (xB 145) 70 = .ok (.bipush 8, 2) := by decide +kernel
theorem d145_72 : decode (xB 145) 72 = .ok (.imul, 1) := by decide +kernel
theorem d145_73 : decode (xB 145) 73 = .ok (.iload_n 2, 1) := by decide +kernel
theorem d145_74 : decode (xB 145) 74 = .ok (.iadd, 1) := by decide +kernel
theorem d145_75 : decode (xB 145) 75 = .ok (.iload_n 3, 1) := by decide +kernel
theorem d145_76 : decode (xB 145) 76 = .ok (.bipush 32, 2) := by decide +kernel
theorem d145_78 : decode (xB 145) 78 = .ok (.imul, 1) := by decide +kernel
theorem d145_79 : decode (xB 145) 79 = .ok (.iload 4, 2) := by decide +kernel
theorem d145_81 : decode (xB 145) 81 = .ok (.iadd, 1) := by decide +kernel
theorem d145_82 : decode (xB 145) 82 = .ok (.iastore, 1) := by decide +kernel
theorem d145_83 : decode (xB 145) 83 = .ok (.iinc 2 1, 3) := by decide +kernel
theorem d145_86 : decode (xB 145) 86 = .ok (.goto (-84), 3) := by decide +kernel
theorem d145_89 : decode (xB 145) 89 = .ok (.return_, 1) := by decide +kernel
theorem b145_0 {d : Nat} {P : xPr} {Q : xQr} {r : Nat} {mem : Nat → Nat → Int32} (hP : Cl d none 145 P Q) {p0 : Int32}
    (k : P 2 [.ref 0, .int p0, .int (nI 0), .null, .null] [] (0, 0) (LAY, RFu r, mem)) : P 0 [.ref 0, .int p0, .null, .null, .null] [] (0, 0) (LAY, RFu r, mem) := by
  refine r_iconst (v := nI 0) hP d145_0 rfl ?_
  refine r_istore_n (L' := [.ref 0, .int p0, .int (nI 0), .null, .null]) hP d145_1 (Nat.le_of_ble_eq_true rfl) rfl ?_
  exact k
theorem b145_2 {d : Nat} {P : xPr} {Q : xQr} {r : Nat} {mem : Nat → Nat → Int32} (hP : Cl d none 145 P Q) {x1 : Int32} {x2 : Int32} {v3 : Value} {v4 : Value}
    (kt : (mem 5 1) ≤ x2 → P 89 [.ref 0, .int x1, .int x2, v3, v4] [] (0, 0) (LAY, RFu r, mem)) (kf : ¬ (mem 5 1) ≤ x2 → P 13 [.ref 0, .int x1, .int x2, v3, v4] [] (0, 0) (LAY, RFu r, mem)) : P 2 [.ref 0, .int x1, .int x2, v3, v4] [] (0, 0) (LAY, RFu r, mem) := by
  refine r_iload_n hP d145_2 rfl ?_
  refine r_aload_n hP d145_3 rfl ?_
  refine r_getr (a := 5) hP d145_4 fr_11_26 rfl ly_0 rg_0_2 ?_
  refine r_geti hP d145_7 fr_11_192 rfl ly_5 ?_
  exact r_icmp (t := 89) hP d145_10 (by decide) kt kf
theorem b145_13 {d : Nat} {P : xPr} {Q : xQr} {r : Nat} {mem : Nat → Nat → Int32} (hP : Cl d none 145 P Q) {x1 : Int32} {x2 : Int32} {v3 : Value} {v4 : Value} (hi24 : vp_in ((nI 16) + x2) 121) (hi36 : vp_in ((nI 24) + x2) 121) (hi49 : vp_in ((nI 0) + x2) 121)
    (k : xCall d 61 [.ref 49, .int x2] (LAY, RFu r, mem) (Bk P 59 [.ref 0, .int x1, .int x2, .int ((mem 50 ((nI 16) + x2).toNatClampNeg) + (mem 50 ((nI 24) + x2).toNatClampNeg)), v4] [.int (((mem 50 ((nI 0) + x2).toNatClampNeg) + (nI 1)) * (nI 4))] (0, 0))) : P 13 [.ref 0, .int x1, .int x2, v3, v4] [] (0, 0) (LAY, RFu r, mem) := by
  refine r_aload_n hP d145_13 rfl ?_
  refine r_getr (a := 49) hP d145_14 fr_11_40 rfl ly_0 rg_0_5 ?_
  refine r_getr (a := 50) hP d145_17 fr_11_171 rfl ly_49 rg_49_0 ?_
  refine r_bipush (v := nI 16) hP d145_20 rfl ?_
  refine r_iload_n hP d145_22 rfl ?_
  refine r_iadd hP d145_23 ?_
  refine r_iaload hP d145_24 ly_50 hi24 ?_
  refine r_aload_n hP d145_25 rfl ?_
  refine r_getr (a := 49) hP d145_26 fr_11_40 rfl ly_0 rg_0_5 ?_
  refine r_getr (a := 50) hP d145_29 fr_11_171 rfl ly_49 rg_49_0 ?_
  refine r_bipush (v := nI 24) hP d145_32 rfl ?_
  refine r_iload_n hP d145_34 rfl ?_
  refine r_iadd hP d145_35 ?_
  refine r_iaload hP d145_36 ly_50 hi36 ?_
  refine r_iadd hP d145_37 ?_
  refine r_istore_n (L' := [.ref 0, .int x1, .int x2, .int ((mem 50 ((nI 16) + x2).toNatClampNeg) + (mem 50 ((nI 24) + x2).toNatClampNeg)), v4]) hP d145_38 (Nat.le_of_ble_eq_true rfl) rfl ?_
  refine r_aload_n hP d145_39 rfl ?_
  refine r_getr (a := 49) hP d145_40 fr_11_40 rfl ly_0 rg_0_5 ?_
  refine r_getr (a := 50) hP d145_43 fr_11_171 rfl ly_49 rg_49_0 ?_
  refine r_iconst (v := nI 0) hP d145_46 rfl ?_
  refine r_iload_n hP d145_47 rfl ?_
  refine r_iadd hP d145_48 ?_
  refine r_iaload hP d145_49 ly_50 hi49 ?_
  refine r_iconst (v := nI 1) hP d145_50 rfl ?_
  refine r_iadd hP d145_51 ?_
  refine r_iconst (v := nI 4) hP d145_52 rfl ?_
  refine r_imul hP d145_53 ?_
  refine r_aload_n hP d145_54 rfl ?_
  refine r_getr (a := 49) hP d145_55 fr_11_40 rfl ly_0 rg_0_5 ?_
  refine r_iload_n hP d145_58 rfl ?_
  exact r_callv (As := [.int x2]) (S := [.int (((mem 50 ((nI 0) + x2).toNatClampNeg) + (nI 1)) * (nI 4))]) hP d145_59 cr_11_174 (by decide +kernel) rfl (by simp [Value.category]) rfl ly_49 (by simp [Value.category]) ⟨Nat.zero_le _, Nat.zero_le _⟩ k
theorem b145_62 {d : Nat} {P : xPr} {Q : xQr} {r : Nat} {mem : Nat → Nat → Int32} (hP : Cl d none 145 P Q) {x1 : Int32} {x2 : Int32} {x3 : Int32} {v4 : Value} {y0 : Int32} {y1 : Int32} (hi82 : vp_in ((x1 * (nI 8)) + x2) 4008)
    (k : P 2 [.ref 0, .int x1, .int (x2 + nI 1), .int x3, .int (y0 + y1)] [] (0, 0) (LAY, RFu r, xu2 mem 107 ((x1 * (nI 8)) + x2).toNatClampNeg ((x3 * (nI 32)) + (y0 + y1)))) : P 62 [.ref 0, .int x1, .int x2, .int x3, v4] [.int y1, .int y0] (0, 0) (LAY, RFu r, mem) := by
  refine r_iadd hP d145_62 ?_
  refine r_istore (L' := [.ref 0, .int x1, .int x2, .int x3, .int (y0 + y1)]) hP d145_63 (Nat.le_of_ble_eq_true rfl) rfl ?_
  refine r_aload_n hP d145_65 rfl ?_
  refine r_getr (a := 107) hP d145_66 fr_11_99 rfl ly_0 rg_0_16 ?_
  refine r_iload_n hP d145_69 rfl ?_
  refine r_bipush (v := nI 8) hP d145_70 rfl ?_
  refine r_imul hP d145_72 ?_
  refine r_iload_n hP d145_73 rfl ?_
  refine r_iadd hP d145_74 ?_
  refine r_iload_n hP d145_75 rfl ?_
  refine r_bipush (v := nI 32) hP d145_76 rfl ?_
  refine r_imul hP d145_78 ?_
  refine r_iload hP d145_79 rfl ?_
  refine r_iadd hP d145_81 ?_
  refine r_iastore hP d145_82 ly_107 hi82 ?_
  refine r_iinc (v := nI 1) (L' := [.ref 0, .int x1, .int (x2 + nI 1), .int x3, .int (y0 + y1)]) hP d145_83 rfl rfl rfl ?_
  refine r_goto (t := 2) hP d145_86 (by decide) ?_
  exact k
theorem b145_89 {d : Nat} {P : xPr} {Q : xQr} {r : Nat} {mem : Nat → Nat → Int32} (hP : Cl d none 145 P Q) {v0 : Value} {v1 : Value} {v2 : Value} {v3 : Value} {v4 : Value}
    (k : Q none (LAY, RFu r, mem)) : P 89 [v0, v1, v2, v3, v4] [] (0, 0) (LAY, RFu r, mem) := by
  exact r_vret hP d145_89 rfl k
theorem d146_0 : decode (xB 146) 0 = .ok (.iconst 0, 1) := by decide +kernel
theorem d146_1 : decode (xB 146) 1 = .ok (.istore_n 3, 1) := by decide +kernel
theorem d146_2 : decode (xB 146) 2 = .ok (.iload_n 3, 1) := by decide +kernel
theorem d146_3 : decode (xB 146) 3 = .ok (.aload_n 0, 1) := by decide +kernel
theorem d146_4 : decode (xB 146) 4 = .ok (.getfield 26, 3) := by decide +kernel
theorem d146_7 : decode (xB 146) 7 = .ok (.getfield 192, 3) := by decide +kernel
theorem d146_10 : decode (xB 146) 10 = .ok (.if_icmp .ge 36, 3) := by decide +kernel
theorem d146_13 : decode (xB 146) 13 = .ok (.aload_n 0, 1) := by decide +kernel
theorem d146_14 : decode (xB 146) 14 = .ok (.getfield 99, 3) := by decide +kernel
theorem d146_17 : decode (xB 146) 17 = .ok (.iload_n 1, 1) := by decide +kernel
theorem d146_18 : decode (xB 146) 18 = .ok (.bipush 8, 2) := by decide +kernel
theorem d146_20 : decode (xB 146) 20 = .ok (.imul, 1) := by decide +kernel
theorem d146_21 : decode (xB 146) 21 = .ok (.iload_n 3, 1) := by decide +kernel
theorem d146_22 : decode (xB 146) 22 = .ok (.iadd, 1) := by decide +kernel
theorem d146_23 : decode (xB 146) 23 = .ok (.iaload, 1) := by decide +kernel
theorem d146_24 : decode (xB 146) 24 = .ok (.aload_n 0, 1) := by decide +kernel
theorem d146_25 : decode (xB 146) 25 = .ok (.getfield 99, 3) := by decide +kernel
theorem d146_28 : decode (xB 146) 28 = .ok (.iload_n 2, 1) := by decide +kernel
theorem d146_29 : decode (xB 146) 29 = .ok (.bipush 8, 2) := by decide +kernel
theorem d146_31 : decode (xB 146) 31 = .ok (.imul, 1) := by decide +kernel
theorem d146_32 : decode (xB 146) 32 = .ok (.iload_n 3, 1) := by decide +kernel
theorem d146_33 : decode (xB 146) 33 = .ok (.iadd, 1) := by decide +kernel
theorem d146_34 : decode (xB 146) 34 = .ok (.iaload, 1) := by decide +kernel
theorem d146_35 : decode (xB 146) 35 = .ok (.if_icmp .eq 5, 3) := by decide +kernel
theorem d146_38 : decode (xB 146) 38 = .ok (.iconst 0, 1) := by decide +kernel
theorem d146_39 : decode (xB 146) 39 = .ok (.ireturn, 1) := by decide +kernel
theorem d146_40 : decode (xB 146) 40 = .ok (.iinc 3 1, 3) := by decide +kernel
theorem d146_43 : decode (xB 146) 43 = .ok (.goto (-41), 3) := by decide +kernel
theorem d146_46 : decode (xB 146) 46 = .ok (.iconst 1, 1) := by decide +kernel
theorem d146_47 : decode (xB 146) 47 = .ok (.ireturn, 1) := by decide +kernel
theorem b146_0 {d : Nat} {P : xPr} {Q : xQr} {r : Nat} {mem : Nat → Nat → Int32} (hP : Cl d none 146 P Q) {p0 : Int32} {p1 : Int32}
    (k : P 2 [.ref 0, .int p0, .int p1, .int (nI 0)] [] (0, 0) (LAY, RFu r, mem)) : P 0 [.ref 0, .int p0, .int p1, .null] [] (0, 0) (LAY, RFu r, mem) := by
  refine r_iconst (v := nI 0) hP d146_0 rfl ?_
  refine r_istore_n (L' := [.ref 0, .int p0, .int p1, .int (nI 0)]) hP d146_1 (Nat.le_of_ble_eq_true rfl) rfl ?_
  exact k
theorem b146_2 {d : Nat} {P : xPr} {Q : xQr} {r : Nat} {mem : Nat → Nat → Int32} (hP : Cl d none 146 P Q) {x1 : Int32} {x2 : Int32} {x3 : Int32}
    (kt : (mem 5 1) ≤ x3 → P 46 [.ref 0, .int x1, .int x2, .int x3] [] (0, 0) (LAY, RFu r, mem)) (kf : ¬ (mem 5 1) ≤ x3 → P 13 [.ref 0, .int x1, .int x2, .int x3] [] (0, 0) (LAY, RFu r, mem)) : P 2 [.ref 0, .int x1, .int x2, .int x3] [] (0, 0) (LAY, RFu r, mem) := by
  refine r_iload_n hP d146_2 rfl ?_
  refine r_aload_n hP d146_3 rfl ?_
  refine r_getr (a := 5) hP d146_4 fr_11_26 rfl ly_0 rg_0_2 ?_
  refine r_geti hP d146_7 fr_11_192 rfl ly_5 ?_
  exact r_icmp (t := 46) hP d146_10 (by decide) kt kf
theorem b146_13 {d : Nat} {P : xPr} {Q : xQr} {r : Nat} {mem : Nat → Nat → Int32} (hP : Cl d none 146 P Q) {x1 : Int32} {x2 : Int32} {x3 : Int32} (hi23 : vp_in ((x1 * (nI 8)) + x3) 4008) (hi34 : vp_in ((x2 * (nI 8)) + x3) 4008)
    (kt : (mem 107 ((x1 * (nI 8)) + x3).toNatClampNeg) = (mem 107 ((x2 * (nI 8)) + x3).toNatClampNeg) → P 40 [.ref 0, .int x1, .int x2, .int x3] [] (0, 0) (LAY, RFu r, mem)) (kf : ¬ (mem 107 ((x1 * (nI 8)) + x3).toNatClampNeg) = (mem 107 ((x2 * (nI 8)) + x3).toNatClampNeg) → P 38 [.ref 0, .int x1, .int x2, .int x3] [] (0, 0) (LAY, RFu r, mem)) : P 13 [.ref 0, .int x1, .int x2, .int x3] [] (0, 0) (LAY, RFu r, mem) := by
  refine r_aload_n hP d146_13 rfl ?_
  refine r_getr (a := 107) hP d146_14 fr_11_99 rfl ly_0 rg_0_16 ?_
  refine r_iload_n hP d146_17 rfl ?_
  refine r_bipush (v := nI 8) hP d146_18 rfl ?_
  refine r_imul hP d146_20 ?_
  refine r_iload_n hP d146_21 rfl ?_
  refine r_iadd hP d146_22 ?_
  refine r_iaload hP d146_23 ly_107 hi23 ?_
  refine r_aload_n hP d146_24 rfl ?_
  refine r_getr (a := 107) hP d146_25 fr_11_99 rfl ly_0 rg_0_16 ?_
  refine r_iload_n hP d146_28 rfl ?_
  refine r_bipush (v := nI 8) hP d146_29 rfl ?_
  refine r_imul hP d146_31 ?_
  refine r_iload_n hP d146_32 rfl ?_
  refine r_iadd hP d146_33 ?_
  refine r_iaload hP d146_34 ly_107 hi34 ?_
  exact r_icmp (t := 40) hP d146_35 (by decide) kt kf
theorem b146_38 {d : Nat} {P : xPr} {Q : xQr} {r : Nat} {mem : Nat → Nat → Int32} (hP : Cl d none 146 P Q) {v0 : Value} {v1 : Value} {v2 : Value} {v3 : Value} (hzr : nI 0 = 0 ∨ nI 0 = 1)
    (k : Q (some (.int (nI 0))) (LAY, RFu r, mem)) : P 38 [v0, v1, v2, v3] [] (0, 0) (LAY, RFu r, mem) := by
  refine r_iconst (v := nI 0) hP d146_38 rfl ?_
  exact r_zret hP d146_39 rfl hzr k
theorem b146_40 {d : Nat} {P : xPr} {Q : xQr} {r : Nat} {mem : Nat → Nat → Int32} (hP : Cl d none 146 P Q) {x1 : Int32} {x2 : Int32} {x3 : Int32}
    (k : P 2 [.ref 0, .int x1, .int x2, .int (x3 + nI 1)] [] (0, 0) (LAY, RFu r, mem)) : P 40 [.ref 0, .int x1, .int x2, .int x3] [] (0, 0) (LAY, RFu r, mem) := by
  refine r_iinc (v := nI 1) (L' := [.ref 0, .int x1, .int x2, .int (x3 + nI 1)]) hP d146_40 rfl rfl rfl ?_
  refine r_goto (t := 2) hP d146_43 (by decide) ?_
  exact k
theorem b146_46 {d : Nat} {P : xPr} {Q : xQr} {r : Nat} {mem : Nat → Nat → Int32} (hP : Cl d none 146 P Q) {v0 : Value} {v1 : Value} {v2 : Value} {v3 : Value} (hzr : nI 1 = 0 ∨ nI 1 = 1)
    (k : Q (some (.int (nI 1))) (LAY, RFu r, mem)) : P 46 [v0, v1, v2, v3] [] (0, 0) (LAY, RFu r, mem) := by
  refine r_iconst (v := nI 1) hP d146_46 rfl ?_
  exact r_zret hP d146_47 rfl hzr k
theorem d147_0 : decode (xB 147) 0 = .ok (.iload_n 1, 1) := by decide +kernel
theorem d147_1 : decode (xB 147) 1 = .ok (.iconst 0, 1) := by decide +kernel
theorem d147_2 : decode (xB 147) 2 = .ok (.iconst 1, 1) := by decide +kernel
theorem d147_3 : decode (xB 147) 3 = .ok (.invokestatic 185, 3) := by decide +kernel
theorem d147_6 : decode (xB 147) 6 = .ok (.ifCond .ne 5, 3) := by decide +kernel
theorem d147_9 : decode (xB 147) 9 = .ok (.iconst 0, 1) := by decide +kernel
theorem d147_10 : decode (xB 147) 10 = .ok (.ireturn, 1) := by decide +kernel
theorem d147_11 : decode (xB 147) 11 = .ok (.aload_n 0, 1) := by decide +kernel
theorem d147_12 : decode (xB 147) 12 = .ok (.getfield 53, 3) := by decide +kernel
theorem d147_15 : decode (xB 147) 15 = .ok (.iload_n 1, 1) := by decide +kernel
theorem d147_16 : decode (xB 147) 16 = .ok (.aload_n 0, 1) := by decide +kernel
theorem d147_17 : decode (xB 147) 17 = .ok (.getfield 26, 3) := by decide +kernel
theorem d147_20 : decode (xB 147) 20 = .ok (.aload_n 0, 1) := by decide +kernel
theorem d147_21 : decode (xB 147) 21 = .ok (.getfield 36, 3) := by decide +kernel
theorem d147_24 : decode (xB 147) 24 = .ok (.invokevirtual 383, 3) := by decide +kernel
theorem d147_27 : decode (xB 147) 27 = .ok (.iconst 1, 1) := by decide +kernel
theorem d147_28 : decode (xB 147) 28 = .ok (.ireturn, 1) := by decide +kernel
theorem b147_0 {d : Nat} {P : xPr} {Q : xQr} {r : Nat} {mem : Nat → Nat → Int32} (hP : Cl d none 147 P Q) {p0 : Int32}
    (k : xCall d 151 [.int p0, .int (nI 0), .int (nI 1)] (LAY, RFu r, mem) (Bk P 3 [.ref 0, .int p0] [] (0, 0))) : P 0 [.ref 0, .int p0] [] (0, 0) (LAY, RFu r, mem) := by
  refine r_iload_n hP d147_0 rfl ?_
  refine r_iconst (v := nI 0) hP d147_1 rfl ?_
  refine r_iconst (v := nI 1) hP d147_2 rfl ?_
  exact r_calls (As := [.int p0, .int (nI 0), .int (nI 1)]) (S := []) hP d147_3 cr_11_185 (by decide +kernel) rfl (by simp [Value.category]) rfl (by simp [Value.category]) ⟨Nat.zero_le _, Nat.zero_le _⟩ k
theorem b147_6 {d : Nat} {P : xPr} {Q : xQr} {r : Nat} {mem : Nat → Nat → Int32} (hP : Cl d none 147 P Q) {x1 : Int32} {y0 : Int32}
    (kt : ¬ y0 = 0 → P 11 [.ref 0, .int x1] [] (0, 0) (LAY, RFu r, mem)) (kf : y0 = 0 → P 9 [.ref 0, .int x1] [] (0, 0) (LAY, RFu r, mem)) : P 6 [.ref 0, .int x1] [.int y0] (0, 0) (LAY, RFu r, mem) := by
  exact r_if (t := 11) hP d147_6 (by decide) kt (fun q => kf (Decidable.of_not_not q))
theorem b147_9 {d : Nat} {P : xPr} {Q : xQr} {r : Nat} {mem : Nat → Nat → Int32} (hP : Cl d none 147 P Q) {v0 : Value} {v1 : Value} (hzr : nI 0 = 0 ∨ nI 0 = 1)
    (k : Q (some (.int (nI 0))) (LAY, RFu r, mem)) : P 9 [v0, v1] [] (0, 0) (LAY, RFu r, mem) := by
  refine r_iconst (v := nI 0) hP d147_9 rfl ?_
  exact r_zret hP d147_10 rfl hzr k
theorem b147_11 {d : Nat} {P : xPr} {Q : xQr} {r : Nat} {mem : Nat → Nat → Int32} (hP : Cl d none 147 P Q) {x1 : Int32}
    (k : xCall d 28 [.ref 55, .int x1, .ref 5, .ref 47] (LAY, RFu r, mem) (Bk P 24 [.ref 0, .int x1] [] (0, 0))) : P 11 [.ref 0, .int x1] [] (0, 0) (LAY, RFu r, mem) := by
  refine r_aload_n hP d147_11 rfl ?_
  refine r_getr (a := 55) hP d147_12 fr_11_53 rfl ly_0 rg_0_7 ?_
  refine r_iload_n hP d147_15 rfl ?_
  refine r_aload_n hP d147_16 rfl ?_
  refine r_getr (a := 5) hP d147_17 fr_11_26 rfl ly_0 rg_0_2 ?_
  refine r_aload_n hP d147_20 rfl ?_
  refine r_getr (a := 47) hP d147_21 fr_11_36 rfl ly_0 rg_0_4 ?_
  exact r_callv (As := [.int x1, .ref 5, .ref 47]) (S := []) hP d147_24 cr_11_383 (by decide +kernel) rfl (by simp [Value.category]) rfl ly_55 (by simp [Value.category]) ⟨Nat.zero_le _, Nat.zero_le _⟩ k
theorem b147_27 {d : Nat} {P : xPr} {Q : xQr} {r : Nat} {mem : Nat → Nat → Int32} (hP : Cl d none 147 P Q) {v0 : Value} {v1 : Value} (hzr : nI 1 = 0 ∨ nI 1 = 1)
    (k : Q (some (.int (nI 1))) (LAY, RFu r, mem)) : P 27 [v0, v1] [] (0, 0) (LAY, RFu r, mem) := by
  refine r_iconst (v := nI 1) hP d147_27 rfl ?_
  exact r_zret hP d147_28 rfl hzr k
theorem d148_0 : decode (xB 148) 0 = .ok (.iload_n 1, 1) := by decide +kernel
theorem d148_1 : decode (xB 148) 1 = .ok (.iconst 0, 1) := by decide +kernel
theorem d148_2 : decode (xB 148) 2 = .ok (.iconst 1, 1) := by decide +kernel
theorem d148_3 : decode (xB 148) 3 = .ok (.invokestatic 185, 3) := by decide +kernel
theorem d148_6 : decode (xB 148) 6 = .ok (.ifCond .eq 22, 3) := by decide +kernel
theorem d148_9 : decode (xB 148) 9 = .ok (.aload_n 0, 1) := by decide +kernel
theorem d148_10 : decode (xB 148) 10 = .ok (.getfield 53, 3) := by decide +kernel
theorem d148_13 : decode (xB 148) 13 = .ok (.iload_n 1, 1) := by decide +kernel
theorem d148_14 : decode (xB 148) 14 = .ok (.aload_n 0, 1) := by decide +kernel
theorem d148_15 : decode (xB 148) 15 = .ok (.getfield 26, 3) := by decide +kernel
theorem d148_18 : decode (xB 148) 18 = .ok (.aload_n 0, 1) := by decide +kernel
theorem d148_19 : decode (xB 148) 19 = .ok (.getfield 36, 3) := by decide +kernel
theorem d148_22 : decode (xB 148) 22 = .ok (.invokevirtual 387, 3) := by decide +kernel
theorem d148_25 : decode (xB 148) 25 = .ok (.ifCond .ne 5, 3) := by decide +kernel
theorem d148_28 : decode (xB 148) 28 = .ok (.iconst 0, 1) := by decide +kernel
theorem d148_29 : decode (xB 148) 29 = .ok (.ireturn, 1) := by decide +kernel
theorem d148_30 : decode (xB 148) 30 = .ok (.aload_n 0, 1) := by decide +kernel
theorem d148_31 : decode (xB 148) 31 = .ok (.getfield 53, 3) := by decide +kernel
theorem d148_34 : decode (xB 148) 34 = .ok (.invokevirtual 121, 3) := by decide +kernel
theorem d148_37 : decode (xB 148) 37 = .ok (.iconst 1, 1) := by decide +kernel
theorem d148_38 : decode (xB 148) 38 = .ok (.ireturn, 1) := by decide +kernel
theorem b148_0 {d : Nat} {P : xPr} {Q : xQr} {r : Nat} {mem : Nat → Nat → Int32} (hP : Cl d none 148 P Q) {p0 : Int32}
    (k : xCall d 151 [.int p0, .int (nI 0), .int (nI 1)] (LAY, RFu r, mem) (Bk P 3 [.ref 0, .int p0] [] (0, 0))) : P 0 [.ref 0, .int p0] [] (0, 0) (LAY, RFu r, mem) := by
  refine r_iload_n hP d148_0 rfl ?_
  refine r_iconst (v := nI 0) hP d148_1 rfl ?_
  refine r_iconst (v := nI 1) hP d148_2 rfl ?_
  exact r_calls (As := [.int p0, .int (nI 0), .int (nI 1)]) (S := []) hP d148_3 cr_11_185 (by decide +kernel) rfl (by simp [Value.category]) rfl (by simp [Value.category]) ⟨Nat.zero_le _, Nat.zero_le _⟩ k
theorem b148_6 {d : Nat} {P : xPr} {Q : xQr} {r : Nat} {mem : Nat → Nat → Int32} (hP : Cl d none 148 P Q) {x1 : Int32} {y0 : Int32}
    (kt : y0 = 0 → P 28 [.ref 0, .int x1] [] (0, 0) (LAY, RFu r, mem)) (kf : ¬ y0 = 0 → P 9 [.ref 0, .int x1] [] (0, 0) (LAY, RFu r, mem)) : P 6 [.ref 0, .int x1] [.int y0] (0, 0) (LAY, RFu r, mem) := by
  exact r_if (t := 28) hP d148_6 (by decide) kt kf
theorem b148_9 {d : Nat} {P : xPr} {Q : xQr} {r : Nat} {mem : Nat → Nat → Int32} (hP : Cl d none 148 P Q) {x1 : Int32}
    (k : xCall d 29 [.ref 55, .int x1, .ref 5, .ref 47] (LAY, RFu r, mem) (Bk P 22 [.ref 0, .int x1] [] (0, 0))) : P 9 [.ref 0, .int x1] [] (0, 0) (LAY, RFu r, mem) := by
  refine r_aload_n hP d148_9 rfl ?_
  refine r_getr (a := 55) hP d148_10 fr_11_53 rfl ly_0 rg_0_7 ?_
  refine r_iload_n hP d148_13 rfl ?_
  refine r_aload_n hP d148_14 rfl ?_
  refine r_getr (a := 5) hP d148_15 fr_11_26 rfl ly_0 rg_0_2 ?_
  refine r_aload_n hP d148_18 rfl ?_
  refine r_getr (a := 47) hP d148_19 fr_11_36 rfl ly_0 rg_0_4 ?_
  exact r_callv (As := [.int x1, .ref 5, .ref 47]) (S := []) hP d148_22 cr_11_387 (by decide +kernel) rfl (by simp [Value.category]) rfl ly_55 (by simp [Value.category]) ⟨Nat.zero_le _, Nat.zero_le _⟩ k
theorem b148_25 {d : Nat} {P : xPr} {Q : xQr} {r : Nat} {mem : Nat → Nat → Int32} (hP : Cl d none 148 P Q) {v1 : Value} {y0 : Int32}
    (kt : ¬ y0 = 0 → P 30 [.ref 0, v1] [] (0, 0) (LAY, RFu r, mem)) (kf : y0 = 0 → P 28 [.ref 0, v1] [] (0, 0) (LAY, RFu r, mem)) : P 25 [.ref 0, v1] [.int y0] (0, 0) (LAY, RFu r, mem) := by
  exact r_if (t := 30) hP d148_25 (by decide) kt (fun q => kf (Decidable.of_not_not q))
theorem b148_28 {d : Nat} {P : xPr} {Q : xQr} {r : Nat} {mem : Nat → Nat → Int32} (hP : Cl d none 148 P Q) {v0 : Value} {v1 : Value} (hzr : nI 0 = 0 ∨ nI 0 = 1)
    (k : Q (some (.int (nI 0))) (LAY, RFu r, mem)) : P 28 [v0, v1] [] (0, 0) (LAY, RFu r, mem) := by
  refine r_iconst (v := nI 0) hP d148_28 rfl ?_
  exact r_zret hP d148_29 rfl hzr k
theorem b148_30 {d : Nat} {P : xPr} {Q : xQr} {r : Nat} {mem : Nat → Nat → Int32} (hP : Cl d none 148 P Q) {v1 : Value}
    (k : xCall d 27 [.ref 55] (LAY, RFu r, mem) (Bk P 34 [.ref 0, v1] [] (0, 0))) : P 30 [.ref 0, v1] [] (0, 0) (LAY, RFu r, mem) := by
  refine r_aload_n hP d148_30 rfl ?_
  refine r_getr (a := 55) hP d148_31 fr_11_53 rfl ly_0 rg_0_7 ?_
  exact r_callv (As := []) (S := []) hP d148_34 cr_11_121 (by decide +kernel) rfl (by simp) rfl ly_55 (by simp [Value.category]) ⟨Nat.zero_le _, Nat.zero_le _⟩ k
theorem b148_37 {d : Nat} {P : xPr} {Q : xQr} {r : Nat} {mem : Nat → Nat → Int32} (hP : Cl d none 148 P Q) {v0 : Value} {v1 : Value} (hzr : nI 1 = 0 ∨ nI 1 = 1)
    (k : Q (some (.int (nI 1))) (LAY, RFu r, mem)) : P 37 [v0, v1] [] (0, 0) (LAY, RFu r, mem) := by
  refine r_iconst (v := nI 1) hP d148_37 rfl ?_
  exact r_zret hP d148_38 rfl hzr k
theorem d149_0 : decode (xB 149) 0 = .ok (.iload_n 1, 1) := by decide +kernel
theorem d149_1 : decode (xB 149) 1 = .ok (.tableswitch 137 0 9 #[55, 63, 71, 82, 91, 100, 108, 113, 121, 129], 55) := by decide +kernel
theorem d149_56 : decode (xB 149) 56 = .ok (.aload_n 0, 1) := by decide +kernel
theorem d149_57 : decode (xB 149) 57 = .ok (.getfield 26, 3) := by decide +kernel
theorem d149_60 : decode (xB 149) 60 = .ok (.getfield 192, 3) := by decide +kernel
theorem d149_63 : decode (xB 149) 63 = .ok (.ireturn, 1) := by decide +kernel
theorem d149_64 : decode (xB 149) 64 = .ok (.aload_n 0, 1) := by decide +kernel
theorem d149_65 : decode (xB 149) 65 = .ok (.getfield 26, 3) := by decide +kernel
theorem d149_68 : decode (xB 149) 68 = .ok (.getfield 313, 3) := by decide +kernel
theorem d149_71 : decode (xB 149) 71 = .ok (.ireturn, 1) := by decide +kernel
theorem d149_72 : decode (xB 149) 72 = .ok (.aload_n 0, 1) := by decide +kernel
theorem d149_73 : decode (xB 149) 73 = .ok (.getfield 36, 3) := by decide +kernel
theorem d149_76 : decode (xB 149) 76 = .ok (.getfield 171, 3) := by decide +kernel
theorem d149_79 : decode (xB 149) 79 = .ok (.bipush 120, 2) := by decide +kernel
theorem d149_81 : decode (xB 149) 81 = .ok (.iaload, 1) := by decide +kernel
theorem d149_82 : decode (xB 149) 82 = .ok (.ireturn, 1) := by decide +kernel
theorem d149_83 : decode (xB 149) 83 = .ok (.aload_n 0, 1) := by decide +kernel
theorem d149_84 : decode (xB 149) 84 = .ok (.getfield 36, 3) := by decide +kernel
theorem d149_87 : decode (xB 149) 87 = .ok (.iconst 2, 1) := by decide +kernel
theorem d149_88 : decode (xB 149) 88 = .ok (.invokevirtual 214, 3) := by decide +kernel
theorem d149_91 : decode (xB 149) 91 = .ok (.ireturn, 1) := by decide +kernel
theorem d149_92 : decode (xB 149) 92 = .ok (.aload_n 0, 1) := by decide +kernel
theorem d149_93 : decode (xB 149) 93 = .ok (.getfield 36, 3) := by decide +kernel
theorem d149_96 : decode (xB 149) 96 = .ok (.iconst 1, 1) := by decide +kernel
theorem d149_97 : decode (xB 149) 97 = .ok (.invokevirtual 214, 3) := by decide +kernel
theorem d149_100 : decode (xB 149) 100 = .ok (.ireturn, 1) := by decide +kernel
theorem d149_101 : decode (xB 149) 101 = .ok (.aload_n 0, 1) := by decide +kernel
theorem d149_102 : decode (xB 149) 102 = .ok (.getfield 53, 3) := by decide +kernel
theorem d149_105 : decode (xB 149) 105 = .ok (.getfield 237, 3) := by decide +kernel
theorem d149_108 : decode (xB 149) 108 = .ok (.ireturn, 1) := by decide +kernel
theorem d149_109 : decode (xB 149) 109 = .ok (.aload_n 0, 1) := by decide +kernel
theorem d149_110 : decode (xB 149) 110 = .ok (.getfield 359, 3) := by decide +kernel
theorem d149_113 : decode (xB 149) 113 = .ok (.ireturn, 1) := by decide +kernel
theorem d149_114 : decode (xB 149) 114 = .ok (.aload_n 0, 1) := by decide +kernel
theorem d149_115 : decode (xB 149) 115 = .ok (.getfield 19, 3) := by decide +kernel
theorem d149_118 : decode (xB 149) 118 = .ok (.getfield 257, 3) := by decide +kernel
theorem d149_121 : decode (xB 149) 121 = .ok (.ireturn, 1) := by decide +kernel
theorem d149_122 : decode (xB 149) 122 = .ok (.aload_n 0, 1) := by decide +kernel
theorem d149_123 : decode (xB 149) 123 = .ok (.getfield 10, 3) := by decide +kernel
theorem d149_126 : decode (xB 149) 126 = .ok (.getfield 106, 3) := by decide +kernel
theorem d149_129 : decode (xB 149) 129 = .ok (.ireturn, 1) := by decide +kernel
theorem d149_130 : decode (xB 149) 130 = .ok (.aload_n 0, 1) := by decide +kernel
theorem d149_131 : decode (xB 149) 131 = .ok (.getfield 26, 3) := by decide +kernel
theorem d149_134 : decode (xB 149) 134 = .ok (.invokevirtual 391, 3) := by decide +kernel
theorem d149_137 : decode (xB 149) 137 = .ok (.ireturn, 1) := by decide +kernel
theorem d149_138 : decode (xB 149) 138 = .ok (.iconst (-1), 1) := by decide +kernel
theorem d149_139 : decode (xB 149) 139 = .ok (.ireturn, 1) := by decide +kernel
theorem b149_0 {d : Nat} {P : xPr} {Q : xQr} {r : Nat} {mem : Nat → Nat → Int32} (hP : Cl d none 149 P Q) {p0 : Int32}
    (kd : (p0.toInt < 0 ∨ 9 < p0.toInt) → P 138 [.ref 0, .int p0] [] (0, 0) (LAY, RFu r, mem)) (k0 : p0.toInt = 0 → P 56 [.ref 0, .int p0] [] (0, 0) (LAY, RFu r, mem)) (k1 : p0.toInt = 1 → P 64 [.ref 0, .int p0] [] (0, 0) (LAY, RFu r, mem)) (k2 : p0.toInt = 2 → P 72 [.ref 0, .int p0] [] (0, 0) (LAY, RFu r, mem)) (k3 : p0.toInt = 3 → P 83 [.ref 0, .int p0] [] (0, 0) (LAY, RFu r, mem)) (k4 : p0.toInt = 4 → P 92 [.ref 0, .int p0] [] (0, 0) (LAY, RFu r, mem)) (k5 : p0.toInt = 5 → P 101 [.ref 0, .int p0] [] (0, 0) (LAY, RFu r, mem)) (k6 : p0.toInt = 6 → P 109 [.ref 0, .int p0] [] (0, 0) (LAY, RFu r, mem)) (k7 : p0.toInt = 7 → P 114 [.ref 0, .int p0] [] (0, 0) (LAY, RFu r, mem)) (k8 : p0.toInt = 8 → P 122 [.ref 0, .int p0] [] (0, 0) (LAY, RFu r, mem)) (k9 : p0.toInt = 9 → P 130 [.ref 0, .int p0] [] (0, 0) (LAY, RFu r, mem)) : P 0 [.ref 0, .int p0] [] (0, 0) (LAY, RFu r, mem) := by
  refine r_iload_n hP d149_0 rfl ?_
  refine r_table (t := 138) hP d149_1 (by decide) (by decide) kd (fun h1 h2 off ho => ?_)
  have hc : p0.toInt = 0 ∨ p0.toInt = 1 ∨ p0.toInt = 2 ∨ p0.toInt = 3 ∨ p0.toInt = 4 ∨ p0.toInt = 5 ∨ p0.toInt = 6 ∨ p0.toInt = 7 ∨ p0.toInt = 8 ∨ p0.toInt = 9 := by omega
  rcases hc with hc | hc | hc | hc | hc | hc | hc | hc | hc | hc
  · rw [hc] at ho; cases ho; exact ⟨56, by decide, k0 hc⟩
  · rw [hc] at ho; cases ho; exact ⟨64, by decide, k1 hc⟩
  · rw [hc] at ho; cases ho; exact ⟨72, by decide, k2 hc⟩
  · rw [hc] at ho; cases ho; exact ⟨83, by decide, k3 hc⟩
  · rw [hc] at ho; cases ho; exact ⟨92, by decide, k4 hc⟩
  · rw [hc] at ho; cases ho; exact ⟨101, by decide, k5 hc⟩
  · rw [hc] at ho; cases ho; exact ⟨109, by decide, k6 hc⟩
  · rw [hc] at ho; cases ho; exact ⟨114, by decide, k7 hc⟩
  · rw [hc] at ho; cases ho; exact ⟨122, by decide, k8 hc⟩
  · rw [hc] at ho; cases ho; exact ⟨130, by decide, k9 hc⟩
theorem b149_56 {d : Nat} {P : xPr} {Q : xQr} {r : Nat} {mem : Nat → Nat → Int32} (hP : Cl d none 149 P Q) {v1 : Value}
    (k : Q (some (.int (mem 5 1))) (LAY, RFu r, mem)) : P 56 [.ref 0, v1] [] (0, 0) (LAY, RFu r, mem) := by
  refine r_aload_n hP d149_56 rfl ?_
  refine r_getr (a := 5) hP d149_57 fr_11_26 rfl ly_0 rg_0_2 ?_
  refine r_geti hP d149_60 fr_11_192 rfl ly_5 ?_
  exact r_iret hP d149_63 rfl k
theorem b149_64 {d : Nat} {P : xPr} {Q : xQr} {r : Nat} {mem : Nat → Nat → Int32} (hP : Cl d none 149 P Q) {v1 : Value}
    (k : Q (some (.int (mem 5 0))) (LAY, RFu r, mem)) : P 64 [.ref 0, v1] [] (0, 0) (LAY, RFu r, mem) := by
  refine r_aload_n hP d149_64 rfl ?_
  refine r_getr (a := 5) hP d149_65 fr_11_26 rfl ly_0 rg_0_2 ?_
  refine r_geti hP d149_68 fr_11_313 rfl ly_5 ?_
  exact r_iret hP d149_71 rfl k
theorem b149_72 {d : Nat} {P : xPr} {Q : xQr} {r : Nat} {mem : Nat → Nat → Int32} (hP : Cl d none 149 P Q) {v1 : Value} (hi81 : vp_in (nI 120) 121)
    (k : Q (some (.int (mem 48 (nI 120).toNatClampNeg))) (LAY, RFu r, mem)) : P 72 [.ref 0, v1] [] (0, 0) (LAY, RFu r, mem) := by
  refine r_aload_n hP d149_72 rfl ?_
  refine r_getr (a := 47) hP d149_73 fr_11_36 rfl ly_0 rg_0_4 ?_
  refine r_getr (a := 48) hP d149_76 fr_11_171 rfl ly_47 rg_47_0 ?_
  refine r_bipush (v := nI 120) hP d149_79 rfl ?_
  refine r_iaload hP d149_81 ly_48 hi81 ?_
  exact r_iret hP d149_82 rfl k
theorem b149_83 {d : Nat} {P : xPr} {Q : xQr} {r : Nat} {mem : Nat → Nat → Int32} (hP : Cl d none 149 P Q) {v1 : Value}
    (k : xCall d 62 [.ref 47, .int (nI 2)] (LAY, RFu r, mem) (Bk P 88 [.ref 0, v1] [] (0, 0))) : P 83 [.ref 0, v1] [] (0, 0) (LAY, RFu r, mem) := by
  refine r_aload_n hP d149_83 rfl ?_
  refine r_getr (a := 47) hP d149_84 fr_11_36 rfl ly_0 rg_0_4 ?_
  refine r_iconst (v := nI 2) hP d149_87 rfl ?_
  exact r_callv (As := [.int (nI 2)]) (S := []) hP d149_88 cr_11_214 (by decide +kernel) rfl (by simp [Value.category]) rfl ly_47 (by simp [Value.category]) ⟨Nat.zero_le _, Nat.zero_le _⟩ k
theorem b149_91 {d : Nat} {P : xPr} {Q : xQr} {r : Nat} {mem : Nat → Nat → Int32} (hP : Cl d none 149 P Q) {v0 : Value} {v1 : Value} {y0 : Int32}
    (k : Q (some (.int y0)) (LAY, RFu r, mem)) : P 91 [v0, v1] [.int y0] (0, 0) (LAY, RFu r, mem) := by
  exact r_iret hP d149_91 rfl k
theorem b149_92 {d : Nat} {P : xPr} {Q : xQr} {r : Nat} {mem : Nat → Nat → Int32} (hP : Cl d none 149 P Q) {v1 : Value}
    (k : xCall d 62 [.ref 47, .int (nI 1)] (LAY, RFu r, mem) (Bk P 97 [.ref 0, v1] [] (0, 0))) : P 92 [.ref 0, v1] [] (0, 0) (LAY, RFu r, mem) := by
  refine r_aload_n hP d149_92 rfl ?_
  refine r_getr (a := 47) hP d149_93 fr_11_36 rfl ly_0 rg_0_4 ?_
  refine r_iconst (v := nI 1) hP d149_96 rfl ?_
  exact r_callv (As := [.int (nI 1)]) (S := []) hP d149_97 cr_11_214 (by decide +kernel) rfl (by simp [Value.category]) rfl ly_47 (by simp [Value.category]) ⟨Nat.zero_le _, Nat.zero_le _⟩ k
theorem b149_100 {d : Nat} {P : xPr} {Q : xQr} {r : Nat} {mem : Nat → Nat → Int32} (hP : Cl d none 149 P Q) {v0 : Value} {v1 : Value} {y0 : Int32}
    (k : Q (some (.int y0)) (LAY, RFu r, mem)) : P 100 [v0, v1] [.int y0] (0, 0) (LAY, RFu r, mem) := by
  exact r_iret hP d149_100 rfl k
theorem b149_101 {d : Nat} {P : xPr} {Q : xQr} {r : Nat} {mem : Nat → Nat → Int32} (hP : Cl d none 149 P Q) {v1 : Value}
    (k : Q (some (.int (mem 55 0))) (LAY, RFu r, mem)) : P 101 [.ref 0, v1] [] (0, 0) (LAY, RFu r, mem) := by
  refine r_aload_n hP d149_101 rfl ?_
  refine r_getr (a := 55) hP d149_102 fr_11_53 rfl ly_0 rg_0_7 ?_
  refine r_geti hP d149_105 fr_11_237 rfl ly_55 ?_
  exact r_iret hP d149_108 rfl k
theorem b149_109 {d : Nat} {P : xPr} {Q : xQr} {r : Nat} {mem : Nat → Nat → Int32} (hP : Cl d none 149 P Q) {v1 : Value}
    (k : Q (some (.int (mem 0 14))) (LAY, RFu r, mem)) : P 109 [.ref 0, v1] [] (0, 0) (LAY, RFu r, mem) := by
  refine r_aload_n hP d149_109 rfl ?_
  refine r_geti hP d149_110 fr_11_359 rfl ly_0 ?_
  exact r_iret hP d149_113 rfl k
theorem b149_114 {d : Nat} {P : xPr} {Q : xQr} {r : Nat} {mem : Nat → Nat → Int32} (hP : Cl d none 149 P Q) {v1 : Value}
    (k : Q (some (.int (mem 3 1))) (LAY, RFu r, mem)) : P 114 [.ref 0, v1] [] (0, 0) (LAY, RFu r, mem) := by
  refine r_aload_n hP d149_114 rfl ?_
  refine r_getr (a := 3) hP d149_115 fr_11_19 rfl ly_0 rg_0_1 ?_
  refine r_geti hP d149_118 fr_11_257 rfl ly_3 ?_
  exact r_iret hP d149_121 rfl k
theorem b149_122 {d : Nat} {P : xPr} {Q : xQr} {r : Nat} {mem : Nat → Nat → Int32} (hP : Cl d none 149 P Q) {v1 : Value}
    (k : Q (some (.int (mem 1 1))) (LAY, RFu r, mem)) : P 122 [.ref 0, v1] [] (0, 0) (LAY, RFu r, mem) := by
  refine r_aload_n hP d149_122 rfl ?_
  refine r_getr (a := 1) hP d149_123 fr_11_10 rfl ly_0 rg_0_0 ?_
  refine r_geti hP d149_126 fr_11_106 rfl ly_1 ?_
  exact r_iret hP d149_129 rfl k
theorem b149_130 {d : Nat} {P : xPr} {Q : xQr} {r : Nat} {mem : Nat → Nat → Int32} (hP : Cl d none 149 P Q) {v1 : Value}
    (k : xCall d 94 [.ref 5] (LAY, RFu r, mem) (Bk P 134 [.ref 0, v1] [] (0, 0))) : P 130 [.ref 0, v1] [] (0, 0) (LAY, RFu r, mem) := by
  refine r_aload_n hP d149_130 rfl ?_
  refine r_getr (a := 5) hP d149_131 fr_11_26 rfl ly_0 rg_0_2 ?_
  exact r_callv (As := []) (S := []) hP d149_134 cr_11_391 (by decide +kernel) rfl (by simp) rfl ly_5 (by simp [Value.category]) ⟨Nat.zero_le _, Nat.zero_le _⟩ k
theorem b149_137 {d : Nat} {P : xPr} {Q : xQr} {r : Nat} {mem : Nat → Nat → Int32} (hP : Cl d none 149 P Q) {v0 : Value} {v1 : Value} {y0 : Int32}
    (k : Q (some (.int y0)) (LAY, RFu r, mem)) : P 137 [v0, v1] [.int y0] (0, 0) (LAY, RFu r, mem) := by
  exact r_iret hP d149_137 rfl k
theorem b149_138 {d : Nat} {P : xPr} {Q : xQr} {r : Nat} {mem : Nat → Nat → Int32} (hP : Cl d none 149 P Q) {v0 : Value} {v1 : Value}
    (k : Q (some (.int (-1))) (LAY, RFu r, mem)) : P 138 [v0, v1] [] (0, 0) (LAY, RFu r, mem) := by
  refine r_iconst (v := (-1)) hP d149_138 rfl ?_
  exact r_iret hP d149_139 rfl k
theorem d150_0 : decode (xB 150) 0 = .ok (.aload_n 0, 1) := by decide +kernel
theorem d150_1 : decode (xB 150) 1 = .ok (.getfield 19, 3) := by decide +kernel
theorem d150_4 : decode (xB 150) 4 = .ok (.iload_n 1, 1) := by decide +kernel
theorem d150_5 : decode (xB 150) 5 = .ok (.invokevirtual 394, 3) := by decide +kernel
theorem d150_8 : decode (xB 150) 8 = .ok (.ifCond .ne 11, 3) := by decide +kernel
theorem d150_11 : decode (xB 150) 11 = .ok (.new 162, 3) := by decide +kernel
theorem d150_19 : decode (xB 150) 19 = .ok (.aload_n 0, 1) := by decide +kernel
theorem d150_20 : decode (xB 150) 20 = .ok (.getfield 19, 3) := by decide +kernel
theorem d150_23 : decode (xB 150) 23 = .ok (.getfield 397, 3) := by decide +kernel
theorem d150_26 : decode (xB 150) 26 = .ok (.iload_n 1, 1) := by decide +kernel
theorem d150_27 : decode (xB 150) 27 = .ok (.iaload, 1) := by decide +kernel
theorem d150_28 : decode (xB 150) 28 = .ok (.ireturn, 1) := by decide +kernel
theorem b150_0 {d : Nat} {P : xPr} {Q : xQr} {r : Nat} {mem : Nat → Nat → Int32} (hP : Cl d none 150 P Q) {p0 : Int32}
    (k : xCall d 33 [.ref 3, .int p0] (LAY, RFu r, mem) (Bk P 5 [.ref 0, .int p0] [] (0, 0))) : P 0 [.ref 0, .int p0] [] (0, 0) (LAY, RFu r, mem) := by
  refine r_aload_n hP d150_0 rfl ?_
  refine r_getr (a := 3) hP d150_1 fr_11_19 rfl ly_0 rg_0_1 ?_
  refine r_iload_n hP d150_4 rfl ?_
  exact r_callv (As := [.int p0]) (S := []) hP d150_5 cr_11_394 (by decide +kernel) rfl (by simp [Value.category]) rfl ly_3 (by simp [Value.category]) ⟨Nat.zero_le _, Nat.zero_le _⟩ k
theorem b150_8 {d : Nat} {P : xPr} {Q : xQr} {r : Nat} {mem : Nat → Nat → Int32} (hP : Cl d none 150 P Q) {x1 : Int32} {y0 : Int32}
    (kt : ¬ y0 = 0 → P 19 [.ref 0, .int x1] [] (0, 0) (LAY, RFu r, mem)) (kf : y0 = 0 → P 11 [.ref 0, .int x1] [] (0, 0) (LAY, RFu r, mem)) : P 8 [.ref 0, .int x1] [.int y0] (0, 0) (LAY, RFu r, mem) := by
  exact r_if (t := 19) hP d150_8 (by decide) kt (fun q => kf (Decidable.of_not_not q))
theorem b150_11 {d : Nat} {P : xPr} {Q : xQr} {r : Nat} {mem : Nat → Nat → Int32} (hP : Cl d none 150 P Q) {v0 : Value} {v1 : Value}
    (k : Q (some .null) (LAY, RFu r, mem)) : P 11 [v0, v1] [] (0, 0) (LAY, RFu r, mem) := by
  exact r_throw hP d150_11 rfl k
theorem b150_19 {d : Nat} {P : xPr} {Q : xQr} {r : Nat} {mem : Nat → Nat → Int32} (hP : Cl d none 150 P Q) {x1 : Int32} (hi27 : vp_in x1 8)
    (k : Q (some (.int (mem 4 x1.toNatClampNeg))) (LAY, RFu r, mem)) : P 19 [.ref 0, .int x1] [] (0, 0) (LAY, RFu r, mem) := by
  refine r_aload_n hP d150_19 rfl ?_
  refine r_getr (a := 3) hP d150_20 fr_11_19 rfl ly_0 rg_0_1 ?_
  refine r_getr (a := 4) hP d150_23 fr_11_397 rfl ly_3 rg_3_0 ?_
  refine r_iload_n hP d150_26 rfl ?_
  refine r_iaload hP d150_27 ly_4 hi27 ?_
  exact r_iret hP d150_28 rfl k
theorem d151_0 : decode (xB 151) 0 = .ok (.iload_n 0, 1) := by decide +kernel
theorem d151_1 : decode (xB 151) 1 = .ok (.iload_n 1, 1) := by decide +kernel
theorem d151_2 : decode (xB 151) 2 = .ok (.if_icmp .lt 12, 3) := by decide +kernel
theorem d151_5 : decode (xB 151) 5 = .ok (.iload_n 0, 1) := by decide +kernel
theorem d151_6 : decode (xB 151) 6 = .ok (.iload_n 2, 1) := by decide +kernel
theorem d151_7 : decode (xB 151) 7 = .ok (.if_icmp .gt 7, 3) := by decide +kernel
theorem d151_10 : decode (xB 151) 10 = .ok (.iconst 1, 1) := by decide +kernel
theorem d151_11 : decode (xB 151) 11 = .ok (.goto 4, 3) := by decide +kernel
theorem d151_14 : decode (xB 151) 14 = .ok (.iconst 0, 1) := by decide +kernel
theorem d151_15 : decode (xB 151) 15 = .ok (.ireturn, 1) := by decide +kernel
theorem b151_0 {d : Nat} {P : xPr} {Q : xQr} {r : Nat} {mem : Nat → Nat → Int32} (hP : Cl d none 151 P Q) {p0 : Int32} {p1 : Int32} {p2 : Int32}
    (kt : p0 < p1 → P 14 [.int p0, .int p1, .int p2] [] (0, 0) (LAY, RFu r, mem)) (kf : ¬ p0 < p1 → P 5 [.int p0, .int p1, .int p2] [] (0, 0) (LAY, RFu r, mem)) : P 0 [.int p0, .int p1, .int p2] [] (0, 0) (LAY, RFu r, mem) := by
  refine r_iload_n hP d151_0 rfl ?_
  refine r_iload_n hP d151_1 rfl ?_
  exact r_icmp (t := 14) hP d151_2 (by decide) kt kf
theorem b151_5 {d : Nat} {P : xPr} {Q : xQr} {r : Nat} {mem : Nat → Nat → Int32} (hP : Cl d none 151 P Q) {x0 : Int32} {v1 : Value} {x2 : Int32}
    (kt : x2 < x0 → P 14 [.int x0, v1, .int x2] [] (0, 0) (LAY, RFu r, mem)) (kf : ¬ x2 < x0 → P 10 [.int x0, v1, .int x2] [] (0, 0) (LAY, RFu r, mem)) : P 5 [.int x0, v1, .int x2] [] (0, 0) (LAY, RFu r, mem) := by
  refine r_iload_n hP d151_5 rfl ?_
  refine r_iload_n hP d151_6 rfl ?_
  exact r_icmp (t := 14) hP d151_7 (by decide) kt kf
theorem b151_10 {d : Nat} {P : xPr} {Q : xQr} {r : Nat} {mem : Nat → Nat → Int32} (hP : Cl d none 151 P Q) {v0 : Value} {v1 : Value} {v2 : Value}
    (k : P 15 [v0, v1, v2] [.int (nI 1)] (0, 0) (LAY, RFu r, mem)) : P 10 [v0, v1, v2] [] (0, 0) (LAY, RFu r, mem) := by
  refine r_iconst (v := nI 1) hP d151_10 rfl ?_
  refine r_goto (t := 15) hP d151_11 (by decide) ?_
  exact k
theorem b151_14 {d : Nat} {P : xPr} {Q : xQr} {r : Nat} {mem : Nat → Nat → Int32} (hP : Cl d none 151 P Q) {v0 : Value} {v1 : Value} {v2 : Value}
    (k : P 15 [v0, v1, v2] [.int (nI 0)] (0, 0) (LAY, RFu r, mem)) : P 14 [v0, v1, v2] [] (0, 0) (LAY, RFu r, mem) := by
  refine r_iconst (v := nI 0) hP d151_14 rfl ?_
  exact k
theorem b151_15 {d : Nat} {P : xPr} {Q : xQr} {r : Nat} {mem : Nat → Nat → Int32} (hP : Cl d none 151 P Q) {v0 : Value} {v1 : Value} {v2 : Value} {y0 : Int32} (hzr : y0 = 0 ∨ y0 = 1)
    (k : Q (some (.int y0)) (LAY, RFu r, mem)) : P 15 [v0, v1, v2] [.int y0] (0, 0) (LAY, RFu r, mem) := by
  exact r_zret hP d151_15 rfl hzr k
theorem d152_0 : decode (xB 152) 0 = .ok (.aload_n 0, 1) := by decide +kernel
theorem d152_1 : decode (xB 152) 1 = .ok (.getfield 26, 3) := by decide +kernel
theorem d152_4 : decode (xB 152) 4 = .ok (.iload_n 1, 1) := by decide +kernel
theorem d152_5 : decode (xB 152) 5 = .ok (.invokevirtual 127, 3) := by decide +kernel
theorem d152_8 : decode (xB 152) 8 = .ok (.ifCond .eq 23, 3) := by decide +kernel
theorem d152_11 : decode (xB 152) 11 = .ok (.aload_n 0, 1) := by decide +kernel
theorem d152_12 : decode (xB 152) 12 = .ok (.getfield 26, 3) := by decide +kernel
theorem d152_15 : decode (xB 152) 15 = .ok (.iload_n 2, 1) := by decide +kernel
theorem d152_16 : decode (xB 152) 16 = .ok (.invokevirtual 127, 3) := by decide +kernel
theorem d152_19 : decode (xB 152) 19 = .ok (.ifCond .eq 12, 3) := by decide +kernel
theorem d152_22 : decode (xB 152) 22 = .ok (.iload_n 1, 1) := by decide +kernel
theorem d152_23 : decode (xB 152) 23 = .ok (.iload_n 2, 1) := by decide +kernel
theorem d152_24 : decode (xB 152) 24 = .ok (.if_icmp .eq 7, 3) := by decide +kernel
theorem d152_27 : decode (xB 152) 27 = .ok (.iconst 1, 1) := by decide +kernel
theorem d152_28 : decode (xB 152) 28 = .ok (.goto 4, 3) := by decide +kernel
theorem d152_31 : decode (xB 152) 31 = .ok (.iconst 0, 1) := by decide +kernel
theorem d152_32 : decode (xB 152) 32 = .ok (.ireturn, 1) := by decide +kernel
theorem b152_0 {d : Nat} {P : xPr} {Q : xQr} {r : Nat} {mem : Nat → Nat → Int32} (hP : Cl d none 152 P Q) {p0 : Int32} {p1 : Int32}
    (k : xCall d 83 [.ref 5, .int p0] (LAY, RFu r, mem) (Bk P 5 [.ref 0, .int p0, .int p1] [] (0, 0))) : P 0 [.ref 0, .int p0, .int p1] [] (0, 0) (LAY, RFu r, mem) := by
  refine r_aload_n hP d152_0 rfl ?_
  refine r_getr (a := 5) hP d152_1 fr_11_26 rfl ly_0 rg_0_2 ?_
  refine r_iload_n hP d152_4 rfl ?_
  exact r_callv (As := [.int p0]) (S := []) hP d152_5 cr_11_127 (by decide +kernel) rfl (by simp [Value.category]) rfl ly_5 (by simp [Value.category]) ⟨Nat.zero_le _, Nat.zero_le _⟩ k
theorem b152_8 {d : Nat} {P : xPr} {Q : xQr} {r : Nat} {mem : Nat → Nat → Int32} (hP : Cl d none 152 P Q) {x1 : Int32} {x2 : Int32} {y0 : Int32}
    (kt : y0 = 0 → P 31 [.ref 0, .int x1, .int x2] [] (0, 0) (LAY, RFu r, mem)) (kf : ¬ y0 = 0 → P 11 [.ref 0, .int x1, .int x2] [] (0, 0) (LAY, RFu r, mem)) : P 8 [.ref 0, .int x1, .int x2] [.int y0] (0, 0) (LAY, RFu r, mem) := by
  exact r_if (t := 31) hP d152_8 (by decide) kt kf
theorem b152_11 {d : Nat} {P : xPr} {Q : xQr} {r : Nat} {mem : Nat → Nat → Int32} (hP : Cl d none 152 P Q) {x1 : Int32} {x2 : Int32}
    (k : xCall d 83 [.ref 5, .int x2] (LAY, RFu r, mem) (Bk P 16 [.ref 0, .int x1, .int x2] [] (0, 0))) : P 11 [.ref 0, .int x1, .int x2] [] (0, 0) (LAY, RFu r, mem) := by
  refine r_aload_n hP d152_11 rfl ?_
  refine r_getr (a := 5) hP d152_12 fr_11_26 rfl ly_0 rg_0_2 ?_
  refine r_iload_n hP d152_15 rfl ?_
  exact r_callv (As := [.int x2]) (S := []) hP d152_16 cr_11_127 (by decide +kernel) rfl (by simp [Value.category]) rfl ly_5 (by simp [Value.category]) ⟨Nat.zero_le _, Nat.zero_le _⟩ k
theorem b152_19 {d : Nat} {P : xPr} {Q : xQr} {r : Nat} {mem : Nat → Nat → Int32} (hP : Cl d none 152 P Q) {v0 : Value} {x1 : Int32} {x2 : Int32} {y0 : Int32}
    (kt : y0 = 0 → P 31 [v0, .int x1, .int x2] [] (0, 0) (LAY, RFu r, mem)) (kf : ¬ y0 = 0 → P 22 [v0, .int x1, .int x2] [] (0, 0) (LAY, RFu r, mem)) : P 19 [v0, .int x1, .int x2] [.int y0] (0, 0) (LAY, RFu r, mem) := by
  exact r_if (t := 31) hP d152_19 (by decide) kt kf
theorem b152_22 {d : Nat} {P : xPr} {Q : xQr} {r : Nat} {mem : Nat → Nat → Int32} (hP : Cl d none 152 P Q) {v0 : Value} {x1 : Int32} {x2 : Int32}
    (kt : x1 = x2 → P 31 [v0, .int x1, .int x2] [] (0, 0) (LAY, RFu r, mem)) (kf : ¬ x1 = x2 → P 27 [v0, .int x1, .int x2] [] (0, 0) (LAY, RFu r, mem)) : P 22 [v0, .int x1, .int x2] [] (0, 0) (LAY, RFu r, mem) := by
  refine r_iload_n hP d152_22 rfl ?_
  refine r_iload_n hP d152_23 rfl ?_
  exact r_icmp (t := 31) hP d152_24 (by decide) kt kf
theorem b152_27 {d : Nat} {P : xPr} {Q : xQr} {r : Nat} {mem : Nat → Nat → Int32} (hP : Cl d none 152 P Q) {v0 : Value} {v1 : Value} {v2 : Value}
    (k : P 32 [v0, v1, v2] [.int (nI 1)] (0, 0) (LAY, RFu r, mem)) : P 27 [v0, v1, v2] [] (0, 0) (LAY, RFu r, mem) := by
  refine r_iconst (v := nI 1) hP d152_27 rfl ?_
  refine r_goto (t := 32) hP d152_28 (by decide) ?_
  exact k
theorem b152_31 {d : Nat} {P : xPr} {Q : xQr} {r : Nat} {mem : Nat → Nat → Int32} (hP : Cl d none 152 P Q) {v0 : Value} {v1 : Value} {v2 : Value}
    (k : P 32 [v0, v1, v2] [.int (nI 0)] (0, 0) (LAY, RFu r, mem)) : P 31 [v0, v1, v2] [] (0, 0) (LAY, RFu r, mem) := by
  refine r_iconst (v := nI 0) hP d152_31 rfl ?_
  exact k
theorem b152_32 {d : Nat} {P : xPr} {Q : xQr} {r : Nat} {mem : Nat → Nat → Int32} (hP : Cl d none 152 P Q) {v0 : Value} {v1 : Value} {v2 : Value} {y0 : Int32} (hzr : y0 = 0 ∨ y0 = 1)
    (k : Q (some (.int y0)) (LAY, RFu r, mem)) : P 32 [v0, v1, v2] [.int y0] (0, 0) (LAY, RFu r, mem) := by
  exact r_zret hP d152_32 rfl hzr k
theorem d153_0 : decode (xB 153) 0 = .ok (.aload_n 0, 1) := by decide +kernel
theorem d153_1 : decode (xB 153) 1 = .ok (.getfield 40, 3) := by decide +kernel
theorem d153_4 : decode (xB 153) 4 = .ok (.aload_n 0, 1) := by decide +kernel
theorem d153_5 : decode (xB 153) 5 = .ok (.getfield 36, 3) := by decide +kernel
theorem d153_8 : decode (xB 153) 8 = .ok (.invokevirtual 293, 3) := by decide +kernel
theorem d153_11 : decode (xB 153) 11 = .ok (.iconst 0, 1) := by decide +kernel
theorem d153_12 : decode (xB 153) 12 = .ok (.istore_n 3, 1) := by decide +kernel
theorem d153_13 : decode (xB 153) 13 = .ok (.iload_n 3, 1) := by decide +kernel
theorem d153_14 : decode (xB 153) 14 = .ok (.iload_n 2, 1) := by decide +kernel
theorem d153_15 : decode (xB 153) 15 = .ok (.if_icmp .ge 22, 3) := by decide +kernel
theorem d153_18 : decode (xB 153) 18 = .ok (.aload_n 0, 1) := by decide +kernel
theorem d153_19 : decode (xB 153) 19 = .ok (.getfield 46, 3) := by decide +kernel
theorem d153_22 : decode (xB 153) 22 = .ok (.aload_n 1, 1) := by decide +kernel
theorem d153_23 : decode (xB 153) 23 = .ok (.aload_n 0, 1) := by decide +kernel
theorem d153_24 : decode (xB 153) 24 = .ok (.getfield 40, 3) := by decide +kernel
theorem d153_27 : decode (xB 153) 27 = .ok (.invokevirtual 229, 3) := by decide +kernel
theorem d153_30 : decode (xB 153) 30 = .ok (.pop, 1) := by decide +kernel
theorem d153_31 : decode (xB 153) 31 = .ok (.iinc 3 1, 3) := by decide +kernel
theorem d153_34 : decode (xB 153) 34 = .ok (.goto (-21), 3) := by decide +kernel
theorem d153_37 : decode (xB 153) 37 = .ok (.return_, 1) := by decide +kernel
theorem b153_0 {d : Nat} {P : xPr} {Q : xQr} {r : Nat} {mem : Nat → Nat → Int32} (hP : Cl d none 153 P Q) {t : Nat} {p1 : Int32} (ht : isTown t)
    (k : xCall d 60 [.ref 49, .ref 47] (LAY, RFu r, mem) (Bk P 8 [.ref 0, .ref t, .int p1, .null] [] (0, 0))) : P 0 [.ref 0, .ref t, .int p1, .null] [] (0, 0) (LAY, RFu r, mem) := by
  refine r_aload_n hP d153_0 rfl ?_
  refine r_getr (a := 49) hP d153_1 fr_11_40 rfl ly_0 rg_0_5 ?_
  refine r_aload_n hP d153_4 rfl ?_
  refine r_getr (a := 47) hP d153_5 fr_11_36 rfl ly_0 rg_0_4 ?_
  exact r_callv (As := [.ref 47]) (S := []) hP d153_8 cr_11_293 (by decide +kernel) rfl (by simp [Value.category]) rfl ly_49 (by simp [Value.category]) ⟨Nat.zero_le _, Nat.zero_le _⟩ k
theorem b153_11 {d : Nat} {P : xPr} {Q : xQr} {r : Nat} {mem : Nat → Nat → Int32} (hP : Cl d none 153 P Q) {t : Nat} {x2 : Int32} {v3 : Value} (ht : isTown t)
    (k : P 13 [.ref 0, .ref t, .int x2, .int (nI 0)] [] (0, 0) (LAY, RFu r, mem)) : P 11 [.ref 0, .ref t, .int x2, v3] [] (0, 0) (LAY, RFu r, mem) := by
  refine r_iconst (v := nI 0) hP d153_11 rfl ?_
  refine r_istore_n (L' := [.ref 0, .ref t, .int x2, .int (nI 0)]) hP d153_12 (Nat.le_of_ble_eq_true rfl) rfl ?_
  exact k
theorem b153_13 {d : Nat} {P : xPr} {Q : xQr} {r : Nat} {mem : Nat → Nat → Int32} (hP : Cl d none 153 P Q) {t : Nat} {x2 : Int32} {x3 : Int32} (ht : isTown t)
    (kt : x2 ≤ x3 → P 37 [.ref 0, .ref t, .int x2, .int x3] [] (0, 0) (LAY, RFu r, mem)) (kf : ¬ x2 ≤ x3 → P 18 [.ref 0, .ref t, .int x2, .int x3] [] (0, 0) (LAY, RFu r, mem)) : P 13 [.ref 0, .ref t, .int x2, .int x3] [] (0, 0) (LAY, RFu r, mem) := by
  refine r_iload_n hP d153_13 rfl ?_
  refine r_iload_n hP d153_14 rfl ?_
  exact r_icmp (t := 37) hP d153_15 (by decide) kt kf
theorem b153_18 {d : Nat} {P : xPr} {Q : xQr} {r : Nat} {mem : Nat → Nat → Int32} (hP : Cl d none 153 P Q) {t : Nat} {x2 : Int32} {x3 : Int32} (ht : isTown t)
    (k : xCall d 8 [.ref 51, .ref t, .ref 49] (LAY, RFu r, mem) (Bk P 27 [.ref 0, .ref t, .int x2, .int x3] [] (0, 0))) : P 18 [.ref 0, .ref t, .int x2, .int x3] [] (0, 0) (LAY, RFu r, mem) := by
  refine r_aload_n hP d153_18 rfl ?_
  refine r_getr (a := 51) hP d153_19 fr_11_46 rfl ly_0 rg_0_6 ?_
  refine r_aload_n hP d153_22 rfl ?_
  refine r_aload_n hP d153_23 rfl ?_
  refine r_getr (a := 49) hP d153_24 fr_11_40 rfl ly_0 rg_0_5 ?_
  exact r_callv (As := [.ref t, .ref 49]) (S := []) hP d153_27 cr_11_229 (by decide +kernel) rfl (by simp [Value.category]) rfl ly_51 (by simp [Value.category]) ⟨Nat.zero_le _, Nat.zero_le _⟩ k
theorem b153_30 {d : Nat} {P : xPr} {Q : xQr} {r : Nat} {mem : Nat → Nat → Int32} (hP : Cl d none 153 P Q) {t : Nat} {x2 : Int32} {x3 : Int32} {y0 : Int32} (ht : isTown t)
    (k : P 13 [.ref 0, .ref t, .int x2, .int (x3 + nI 1)] [] (0, 0) (LAY, RFu r, mem)) : P 30 [.ref 0, .ref t, .int x2, .int x3] [.int y0] (0, 0) (LAY, RFu r, mem) := by
  refine r_pop hP d153_30 rfl ?_
  refine r_iinc (v := nI 1) (L' := [.ref 0, .ref t, .int x2, .int (x3 + nI 1)]) hP d153_31 rfl rfl rfl ?_
  refine r_goto (t := 13) hP d153_34 (by decide) ?_
  exact k
theorem b153_37 {d : Nat} {P : xPr} {Q : xQr} {r : Nat} {mem : Nat → Nat → Int32} (hP : Cl d none 153 P Q) {t : Nat} {v0 : Value} {v1 : Value} {v2 : Value} {v3 : Value} (ht : isTown t)
    (k : Q none (LAY, RFu r, mem)) : P 37 [v0, v1, v2, v3] [] (0, 0) (LAY, RFu r, mem) := by
  exact r_vret hP d153_37 rfl k
theorem d154_0 : decode (xB 154) 0 = .ok (.aload_n 0, 1) := by decide +kernel
theorem d154_1 : decode (xB 154) 1 = .ok (.getfield 40, 3) := by decide +kernel
theorem d154_4 : decode (xB 154) 4 = .ok (.getfield 171, 3) := by decide +kernel
theorem d154_7 : decode (xB 154) 7 = .ok (.bipush 40, 2) := by decide +kernel
theorem d154_9 : decode (xB 154) 9 = .ok (.iload_n 1, 1) := by decide +kernel
theorem d154_10 : decode (xB 154) 10 = .ok (.iadd, 1) := by decide +kernel
theorem d154_11 : decode (xB 154) 11 = .ok (.iaload, 1) := by decide +kernel
theorem d154_12 : decode (xB 154) 12 = .ok (.aload_n 0, 1) := by decide +kernel
theorem d154_13 : decode (xB 154) 13 = .ok (.getfield 36, 3) := by decide +kernel
theorem d154_16 : decode (xB 154) 16 = .ok (.getfield 171, 3) := by decide +kernel
theorem d154_19 : decode (xB 154) 19 = .ok (.bipush 40, 2) := by decide +kernel
theorem d154_21 : decode (xB 154) 21 = .ok (.iload_n 1, 1) := by decide +kernel
theorem d154_22 : decode (xB 154) 22 = .ok (.iadd, 1) := by decide +kernel
theorem d154_23 : decode (xB 154) 23 = .ok (.iaload, 1) := by decide +kernel
theorem d154_24 : decode (xB 154) 24 = .ok (.isub, 1) := by decide +kernel
theorem d154_25 : decode (xB 154) 25 = .ok (.ireturn, 1) := by decide +kernel
theorem b154_0 {d : Nat} {P : xPr} {Q : xQr} {r : Nat} {mem : Nat → Nat → Int32} (hP : Cl d none 154 P Q) {p0 : Int32} (hi11 : vp_in ((nI 40) + p0) 121) (hi23 : vp_in ((nI 40) + p0) 121)
    (k : Q (some (.int ((mem 50 ((nI 40) + p0).toNatClampNeg) - (mem 48 ((nI 40) + p0).toNatClampNeg)))) (LAY, RFu r, mem)) : P 0 [.ref 0, .int p0] [] (0, 0) (LAY, RFu r, mem) := by
  refine r_aload_n hP d154_0 rfl ?_
  refine r_getr (a := 49) hP d154_1 fr_11_40 rfl ly_0 rg_0_5 ?_
  refine r_getr (a := 50) hP d154_4 fr_11_171 rfl ly_49 rg_49_0 ?_
  refine r_bipush (v := nI 40) hP d154_7 rfl ?_
  refine r_iload_n hP d154_9 rfl ?_
  refine r_iadd hP d154_10 ?_
  refine r_iaload hP d154_11 ly_50 hi11 ?_
  refine r_aload_n hP d154_12 rfl ?_
  refine r_getr (a := 47) hP d154_13 fr_11_36 rfl ly_0 rg_0_4 ?_
  refine r_getr (a := 48) hP d154_16 fr_11_171 rfl ly_47 rg_47_0 ?_
  refine r_bipush (v := nI 40) hP d154_19 rfl ?_
  refine r_iload_n hP d154_21 rfl ?_
  refine r_iadd hP d154_22 ?_
  refine r_iaload hP d154_23 ly_48 hi23 ?_
  refine r_isub hP d154_24 ?_
  exact r_iret hP d154_25 rfl k
theorem d155_0 : decode (xB 155) 0 = .ok (.aload_n 0, 1) := by decide +kernel
theorem d155_1 : decode (xB 155) 1 = .ok (.getfield 40, 3) := by decide +kernel
theorem d155_4 : decode (xB 155) 4 = .ok (.invokevirtual 207, 3) := by decide +kernel
theorem d155_7 : decode (xB 155) 7 = .ok (.aload_n 0, 1) := by decide +kernel
theorem d155_8 : decode (xB 155) 8 = .ok (.getfield 36, 3) := by decide +kernel
theorem d155_11 : decode (xB 155) 11 = .ok (.invokevirtual 207, 3) := by decide +kernel
theorem d155_14 : decode (xB 155) 14 = .ok (.isub, 1) := by decide +kernel
theorem d155_15 : decode (xB 155) 15 = .ok (.ireturn, 1) := by decide +kernel
theorem b155_0 {d : Nat} {P : xPr} {Q : xQr} {r : Nat} {mem : Nat → Nat → Int32} (hP : Cl d none 155 P Q)
    (k : xCall d 64 [.ref 49] (LAY, RFu r, mem) (Bk P 4 [.ref 0] [] (0, 0))) : P 0 [.ref 0] [] (0, 0) (LAY, RFu r, mem) := by
  refine r_aload_n hP d155_0 rfl ?_
  refine r_getr (a := 49) hP d155_1 fr_11_40 rfl ly_0 rg_0_5 ?_
  exact r_callv (As := []) (S := []) hP d155_4 cr_11_207 (by decide +kernel) rfl (by simp) rfl ly_49 (by simp [Value.category]) ⟨Nat.zero_le _, Nat.zero_le _⟩ k
theorem b155_7 {d : Nat} {P : xPr} {Q : xQr} {r : Nat} {mem : Nat → Nat → Int32} (hP : Cl d none 155 P Q) {y0 : Int32}
    (k : xCall d 64 [.ref 47] (LAY, RFu r, mem) (Bk P 11 [.ref 0] [.int y0] (0, 0))) : P 7 [.ref 0] [.int y0] (0, 0) (LAY, RFu r, mem) := by
  refine r_aload_n hP d155_7 rfl ?_
  refine r_getr (a := 47) hP d155_8 fr_11_36 rfl ly_0 rg_0_4 ?_
  exact r_callv (As := []) (S := [.int y0]) hP d155_11 cr_11_207 (by decide +kernel) rfl (by simp) rfl ly_47 (by simp [Value.category]) ⟨Nat.zero_le _, Nat.zero_le _⟩ k
theorem b155_14 {d : Nat} {P : xPr} {Q : xQr} {r : Nat} {mem : Nat → Nat → Int32} (hP : Cl d none 155 P Q) {v0 : Value} {y0 : Int32} {y1 : Int32}
    (k : Q (some (.int (y0 - y1))) (LAY, RFu r, mem)) : P 14 [v0] [.int y1, .int y0] (0, 0) (LAY, RFu r, mem) := by
  refine r_isub hP d155_14 ?_
  exact r_iret hP d155_15 rfl k
