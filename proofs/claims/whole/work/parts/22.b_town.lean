/-! blocks: X1_pass, X1_goWherePlanned, X1_standUp, X1_sitDown, X1_change, X1_ask, X1_countQuarter, X1_weigh, X1_heaviest, X7_begin, X7_tryAll, X7_move, X7_roomOfOne, X7_roomOfOther, X7_tellMoves, X10_hasRoom, X10_hasPerson, X10_readLines, X10_readRoom, X10_readPerson, X10_readPlan, X10_takeFrom, X10_placeOf, X10_manyIn, X10_sendAlways, X10_exchangePlans, X10_putTogether, X10_allChairs, X10_quartersTillSameSigns, X10_allPlansDivide -/
theorem d8_0 : decode (xB 8) 0 = .ok (.iconst 0, 1) := by decide +kernel
theorem d8_1 : decode (xB 8) 1 = .ok (.istore_n 3, 1) := by decide +kernel
theorem d8_2 : decode (xB 8) 2 = .ok (.aload_n 0, 1) := by decide +kernel
theorem d8_3 : decode (xB 8) 3 = .ok (.aload_n 1, 1) := by decide +kernel
theorem d8_4 : decode (xB 8) 4 = .ok (.aload_n 2, 1) := by decide +kernel
theorem d8_5 : decode (xB 8) 5 = .ok (.invokevirtual 21, 3) := by decide +kernel
theorem d8_8 : decode (xB 8) 8 = .ok (.iconst 0, 1) := by decide +kernel
theorem d8_9 : decode (xB 8) 9 = .ok (.istore 4, 2) := by decide +kernel
theorem d8_11 : decode (xB 8) 11 = .ok (.iload 4, 2) := by decide +kernel
theorem d8_13 : decode (xB 8) 13 = .ok (.aload_n 1, 1) := by decide +kernel
theorem d8_14 : decode (xB 8) 14 = .ok (.getfield 25, 3) := by decide +kernel
theorem d8_17 : decode (xB 8) 17 = .ok (.if_icmp .ge 95, 3) := by decide +kernel
theorem d8_20 : decode (xB 8) 20 = .ok (.aload_n 2, 1) := by decide +kernel
theorem d8_21 : decode (xB 8) 21 = .ok (.iload 4, 2) := by decide +kernel
theorem d8_23 : decode (xB 8) 23 = .ok (.iconst 2, 1) := by decide +kernel
theorem d8_24 : decode (xB 8) 24 = .ok (.invokevirtual 31, 3) := by decide +kernel
theorem d8_27 : decode (xB 8) 27 = .ok (.istore 5, 2) := by decide +kernel
theorem d8_29 : decode (xB 8) 29 = .ok (.aload_n 2, 1) := by decide +kernel
theorem d8_30 : decode (xB 8) 30 = .ok (.iload 4, 2) := by decide +kernel
theorem d8_32 : decode (xB 8) 32 = .ok (.iconst 1, 1) := by decide +kernel
theorem d8_33 : decode (xB 8) 33 = .ok (.invokevirtual 31, 3) := by decide +kernel
theorem d8_36 : decode (xB 8) 36 = .ok (.istore 6, 2) := by decide +kernel
theorem d8_38 : decode (xB 8) 38 = .ok (.aload_n 1, 1) := by decide +kernel
theorem d8_39 : decode (xB 8) 39 = .ok (.getfield 37, 3) := by decide +kernel
theorem d8_42 : decode (xB 8) 42 = .ok (.iload 4, 2) := by decide +kernel
theorem d8_44 : decode (xB 8) 44 = .ok (.iaload, 1) := by decide +kernel
theorem d8_45 : decode (xB 8) 45 = .ok (.iload 5, 2) := by decide +kernel
theorem d8_47 : decode (xB 8) 47 = .ok (.invokestatic 40, 3) := by decide +kernel
theorem d8_50 : decode (xB 8) 50 = .ok (.isub, 1) := by decide +kernel
theorem d8_51 : decode (xB 8) 51 = .ok (.istore 7, 2) := by decide +kernel
theorem d8_53 : decode (xB 8) 53 = .ok (.iload 7, 2) := by decide +kernel
theorem d8_55 : decode (xB 8) 55 = .ok (.ifCond .ge 17, 3) := by decide +kernel
theorem d8_58 : decode (xB 8) 58 = .ok (.aload_n 0, 1) := by decide +kernel
theorem d8_59 : decode (xB 8) 59 = .ok (.aload_n 1, 1) := by decide +kernel
theorem d8_60 : decode (xB 8) 60 = .ok (.aload_n 2, 1) := by decide +kernel
theorem d8_61 : decode (xB 8) 61 = .ok (.iload 5, 2) := by decide +kernel
theorem d8_63 : decode (xB 8) 63 = .ok (.iload 7, 2) := by decide +kernel
theorem d8_65 : decode (xB 8) 65 = .ok (.ineg, 1) := by decide +kernel
theorem d8_66 : decode (xB 8) 66 = .ok (.invokevirtual 46, 3) := by decide +kernel
theorem d8_69 : decode (xB 8) 69 = .ok (.goto 23, 3) := by decide +kernel
theorem d8_72 : decode (xB 8) 72 = .ok (.iload 7, 2) := by decide +kernel
theorem d8_74 : decode (xB 8) 74 = .ok (.ifCond .le 18, 3) := by decide +kernel
theorem d8_77 : decode (xB 8) 77 = .ok (.iload 6, 2) := by decide +kernel
theorem d8_79 : decode (xB 8) 79 = .ok (.ifCond .eq 13, 3) := by decide +kernel
theorem d8_82 : decode (xB 8) 82 = .ok (.aload_n 0, 1) := by decide +kernel
theorem d8_83 : decode (xB 8) 83 = .ok (.aload_n 1, 1) := by decide +kernel
theorem d8_84 : decode (xB 8) 84 = .ok (.aload_n 2, 1) := by decide +kernel
theorem d8_85 : decode (xB 8) 85 = .ok (.iload 6, 2) := by decide +kernel
theorem d8_87 : decode (xB 8) 87 = .ok (.iload 7, 2) := by decide +kernel
theorem d8_89 : decode (xB 8) 89 = .ok (.invokevirtual 50, 3) := by decide +kernel
theorem d8_92 : decode (xB 8) 92 = .ok (.aload_n 0, 1) := by decide +kernel
theorem d8_93 : decode (xB 8) 93 = .ok (.aload_n 1, 1) := by decide +kernel
theorem d8_94 : decode (xB 8) 94 = .ok (.aload_n 2, 1) := by decide +kernel
theorem d8_95 : decode (xB 8) 95 = .ok (.iload 4, 2) := by decide +kernel
theorem d8_97 : decode (xB 8) 97 = .ok (.invokevirtual 53, 3) := by decide +kernel
theorem d8_100 : decode (xB 8) 100 = .ok (.ifCond .eq 6, 3) := by decide +kernel
theorem d8_103 : decode (xB 8) 103 = .ok (.iinc 3 1, 3) := by decide +kernel
theorem d8_106 : decode (xB 8) 106 = .ok (.iinc 4 1, 3) := by decide +kernel
theorem d8_109 : decode (xB 8) 109 = .ok (.goto (-98), 3) := by decide +kernel
theorem d8_112 : decode (xB 8) 112 = .ok (.aload_n 0, 1) := by decide +kernel
theorem d8_113 : decode (xB 8) 113 = .ok (.aload_n 1, 1) := by decide +kernel
theorem d8_114 : decode (xB 8) 114 = .ok (.aload_n 2, 1) := by decide +kernel
theorem d8_115 : decode (xB 8) 115 = .ok (.invokevirtual 57, 3) := by decide +kernel
theorem d8_118 : decode (xB 8) 118 = .ok (.iload_n 3, 1) := by decide +kernel
theorem d8_119 : decode (xB 8) 119 = .ok (.ireturn, 1) := by decide +kernel
theorem b8_0 {d : Nat} {P : xPr} {Q : xQr} {r : Nat} {mem : Nat → Nat → Int32} (hP : Cl d none 8 P Q) {t : Nat} {s : Nat} (ht : isTown t) (hs : isState s)
    (k : xCall d 9 [.ref 51, .ref t, .ref s] (LAY, RFu r, mem) (Bk P 5 [.ref 51, .ref t, .ref s, .int (nI 0), .null, .null, .null, .null] [] (0, 0))) : P 0 [.ref 51, .ref t, .ref s, .null, .null, .null, .null, .null] [] (0, 0) (LAY, RFu r, mem) := by
  refine r_iconst (v := nI 0) hP d8_0 rfl ?_
  refine r_istore_n (L' := [.ref 51, .ref t, .ref s, .int (nI 0), .null, .null, .null, .null]) hP d8_1 (Nat.le_of_ble_eq_true rfl) rfl ?_
  refine r_aload_n hP d8_2 rfl ?_
  refine r_aload_n hP d8_3 rfl ?_
  refine r_aload_n hP d8_4 rfl ?_
  exact r_callv (As := [.ref t, .ref s]) (S := []) hP d8_5 cr_1_21 (by decide +kernel) rfl (by simp [Value.category]) rfl ly_51 (by simp [Value.category]) ⟨Nat.zero_le _, Nat.zero_le _⟩ k
theorem b8_8 {d : Nat} {P : xPr} {Q : xQr} {r : Nat} {mem : Nat → Nat → Int32} (hP : Cl d none 8 P Q) {t : Nat} {s : Nat} {x3 : Int32} {v4 : Value} {v5 : Value} {v6 : Value} {v7 : Value} (ht : isTown t) (hs : isState s)
    (k : P 11 [.ref 51, .ref t, .ref s, .int x3, .int (nI 0), v5, v6, v7] [] (0, 0) (LAY, RFu r, mem)) : P 8 [.ref 51, .ref t, .ref s, .int x3, v4, v5, v6, v7] [] (0, 0) (LAY, RFu r, mem) := by
  refine r_iconst (v := nI 0) hP d8_8 rfl ?_
  refine r_istore (L' := [.ref 51, .ref t, .ref s, .int x3, .int (nI 0), v5, v6, v7]) hP d8_9 (Nat.le_of_ble_eq_true rfl) rfl ?_
  exact k
theorem b8_11 {d : Nat} {P : xPr} {Q : xQr} {r : Nat} {mem : Nat → Nat → Int32} (hP : Cl d none 8 P Q) {t : Nat} {s : Nat} {x3 : Int32} {x4 : Int32} {v5 : Value} {v6 : Value} {v7 : Value} (ht : isTown t) (hs : isState s)
    (kt : (mem t 0) ≤ x4 → P 112 [.ref 51, .ref t, .ref s, .int x3, .int x4, v5, v6, v7] [] (0, 0) (LAY, RFu r, mem)) (kf : ¬ (mem t 0) ≤ x4 → P 20 [.ref 51, .ref t, .ref s, .int x3, .int x4, v5, v6, v7] [] (0, 0) (LAY, RFu r, mem)) : P 11 [.ref 51, .ref t, .ref s, .int x3, .int x4, v5, v6, v7] [] (0, 0) (LAY, RFu r, mem) := by
  refine r_iload hP d8_11 rfl ?_
  refine r_aload_n hP d8_13 rfl ?_
  refine r_geti hP d8_14 fr_1_25 rfl (lt_10 ht) ?_
  exact r_icmp (t := 112) hP d8_17 (by decide) kt kf
theorem b8_20 {d : Nat} {P : xPr} {Q : xQr} {r : Nat} {mem : Nat → Nat → Int32} (hP : Cl d none 8 P Q) {t : Nat} {s : Nat} {x3 : Int32} {x4 : Int32} {v5 : Value} {v6 : Value} {v7 : Value} (ht : isTown t) (hs : isState s)
    (k : xCall d 63 [.ref s, .int x4, .int (nI 2)] (LAY, RFu r, mem) (Bk P 24 [.ref 51, .ref t, .ref s, .int x3, .int x4, v5, v6, v7] [] (0, 0))) : P 20 [.ref 51, .ref t, .ref s, .int x3, .int x4, v5, v6, v7] [] (0, 0) (LAY, RFu r, mem) := by
  refine r_aload_n hP d8_20 rfl ?_
  refine r_iload hP d8_21 rfl ?_
  refine r_iconst (v := nI 2) hP d8_23 rfl ?_
  exact r_callv (As := [.int x4, .int (nI 2)]) (S := []) hP d8_24 cr_1_31 (by decide +kernel) rfl (by simp [Value.category]) rfl (lt_8 hs) (by simp [Value.category]) ⟨Nat.zero_le _, Nat.zero_le _⟩ k
theorem b8_27 {d : Nat} {P : xPr} {Q : xQr} {r : Nat} {mem : Nat → Nat → Int32} (hP : Cl d none 8 P Q) {t : Nat} {s : Nat} {x3 : Int32} {x4 : Int32} {v5 : Value} {v6 : Value} {v7 : Value} {y0 : Int32} (ht : isTown t) (hs : isState s)
    (k : xCall d 63 [.ref s, .int x4, .int (nI 1)] (LAY, RFu r, mem) (Bk P 33 [.ref 51, .ref t, .ref s, .int x3, .int x4, .int y0, v6, v7] [] (0, 0))) : P 27 [.ref 51, .ref t, .ref s, .int x3, .int x4, v5, v6, v7] [.int y0] (0, 0) (LAY, RFu r, mem) := by
  refine r_istore (L' := [.ref 51, .ref t, .ref s, .int x3, .int x4, .int y0, v6, v7]) hP d8_27 (Nat.le_of_ble_eq_true rfl) rfl ?_
  refine r_aload_n hP d8_29 rfl ?_
  refine r_iload hP d8_30 rfl ?_
  refine r_iconst (v := nI 1) hP d8_32 rfl ?_
  exact r_callv (As := [.int x4, .int (nI 1)]) (S := []) hP d8_33 cr_1_31 (by decide +kernel) rfl (by simp [Value.category]) rfl (lt_8 hs) (by simp [Value.category]) ⟨Nat.zero_le _, Nat.zero_le _⟩ k
theorem b8_36 {d : Nat} {P : xPr} {Q : xQr} {r : Nat} {mem : Nat → Nat → Int32} (hP : Cl d none 8 P Q) {t : Nat} {s : Nat} {x3 : Int32} {x4 : Int32} {x5 : Int32} {v6 : Value} {v7 : Value} {y0 : Int32} (ht : isTown t) (hs : isState s) (hi44 : vp_in x4 4)
    (k : xCall d 237 [.int x5] (LAY, RFu r, mem) (Bk P 47 [.ref 51, .ref t, .ref s, .int x3, .int x4, .int x5, .int y0, v7] [.int (mem (t + 1) x4.toNatClampNeg)] (0, 0))) : P 36 [.ref 51, .ref t, .ref s, .int x3, .int x4, .int x5, v6, v7] [.int y0] (0, 0) (LAY, RFu r, mem) := by
  refine r_istore (L' := [.ref 51, .ref t, .ref s, .int x3, .int x4, .int x5, .int y0, v7]) hP d8_36 (Nat.le_of_ble_eq_true rfl) rfl ?_
  refine r_aload_n hP d8_38 rfl ?_
  refine r_getr (a := (t + 1)) hP d8_39 fr_1_37 rfl (lt_10 ht) (rt_10_2 ht) ?_
  refine r_iload hP d8_42 rfl ?_
  refine r_iaload hP d8_44 (lt_10_2 ht) hi44 ?_
  refine r_iload hP d8_45 rfl ?_
  exact r_calls (As := [.int x5]) (S := [.int (mem (t + 1) x4.toNatClampNeg)]) hP d8_47 cr_1_40 (by decide +kernel) rfl (by simp [Value.category]) rfl (by simp [Value.category]) ⟨Nat.zero_le _, Nat.zero_le _⟩ k
theorem b8_50 {d : Nat} {P : xPr} {Q : xQr} {r : Nat} {mem : Nat → Nat → Int32} (hP : Cl d none 8 P Q) {t : Nat} {s : Nat} {x3 : Int32} {x4 : Int32} {x5 : Int32} {x6 : Int32} {v7 : Value} {y0 : Int32} {y1 : Int32} (ht : isTown t) (hs : isState s)
    (kt : 0 ≤ (y0 - y1) → P 72 [.ref 51, .ref t, .ref s, .int x3, .int x4, .int x5, .int x6, .int (y0 - y1)] [] (0, 0) (LAY, RFu r, mem)) (kf : ¬ 0 ≤ (y0 - y1) → P 58 [.ref 51, .ref t, .ref s, .int x3, .int x4, .int x5, .int x6, .int (y0 - y1)] [] (0, 0) (LAY, RFu r, mem)) : P 50 [.ref 51, .ref t, .ref s, .int x3, .int x4, .int x5, .int x6, v7] [.int y1, .int y0] (0, 0) (LAY, RFu r, mem) := by
  refine r_isub hP d8_50 ?_
  refine r_istore (L' := [.ref 51, .ref t, .ref s, .int x3, .int x4, .int x5, .int x6, .int (y0 - y1)]) hP d8_51 (Nat.le_of_ble_eq_true rfl) rfl ?_
  refine r_iload hP d8_53 rfl ?_
  exact r_if (t := 72) hP d8_55 (by decide) kt kf
theorem b8_58 {d : Nat} {P : xPr} {Q : xQr} {r : Nat} {mem : Nat → Nat → Int32} (hP : Cl d none 8 P Q) {t : Nat} {s : Nat} {x3 : Int32} {x4 : Int32} {x5 : Int32} {v6 : Value} {x7 : Int32} (ht : isTown t) (hs : isState s)
    (k : xCall d 10 [.ref 51, .ref t, .ref s, .int x5, .int (-x7)] (LAY, RFu r, mem) (Bk P 66 [.ref 51, .ref t, .ref s, .int x3, .int x4, .int x5, v6, .int x7] [] (0, 0))) : P 58 [.ref 51, .ref t, .ref s, .int x3, .int x4, .int x5, v6, .int x7] [] (0, 0) (LAY, RFu r, mem) := by
  refine r_aload_n hP d8_58 rfl ?_
  refine r_aload_n hP d8_59 rfl ?_
  refine r_aload_n hP d8_60 rfl ?_
  refine r_iload hP d8_61 rfl ?_
  refine r_iload hP d8_63 rfl ?_
  refine r_ineg hP d8_65 ?_
  exact r_callv (As := [.ref t, .ref s, .int x5, .int (-x7)]) (S := []) hP d8_66 cr_1_46 (by decide +kernel) rfl (by simp [Value.category]) rfl ly_51 (by simp [Value.category]) ⟨Nat.zero_le _, Nat.zero_le _⟩ k
theorem b8_69 {d : Nat} {P : xPr} {Q : xQr} {r : Nat} {mem : Nat → Nat → Int32} (hP : Cl d none 8 P Q) {t : Nat} {s : Nat} {x3 : Int32} {x4 : Int32} {v5 : Value} {v6 : Value} {v7 : Value} (ht : isTown t) (hs : isState s)
    (k : P 92 [.ref 51, .ref t, .ref s, .int x3, .int x4, v5, v6, v7] [] (0, 0) (LAY, RFu r, mem)) : P 69 [.ref 51, .ref t, .ref s, .int x3, .int x4, v5, v6, v7] [] (0, 0) (LAY, RFu r, mem) := by
  refine r_goto (t := 92) hP d8_69 (by decide) ?_
  exact k
theorem b8_72 {d : Nat} {P : xPr} {Q : xQr} {r : Nat} {mem : Nat → Nat → Int32} (hP : Cl d none 8 P Q) {t : Nat} {s : Nat} {x3 : Int32} {x4 : Int32} {v5 : Value} {x6 : Int32} {x7 : Int32} (ht : isTown t) (hs : isState s)
    (kt : x7 ≤ 0 → P 92 [.ref 51, .ref t, .ref s, .int x3, .int x4, v5, .int x6, .int x7] [] (0, 0) (LAY, RFu r, mem)) (kf : ¬ x7 ≤ 0 → P 77 [.ref 51, .ref t, .ref s, .int x3, .int x4, v5, .int x6, .int x7] [] (0, 0) (LAY, RFu r, mem)) : P 72 [.ref 51, .ref t, .ref s, .int x3, .int x4, v5, .int x6, .int x7] [] (0, 0) (LAY, RFu r, mem) := by
  refine r_iload hP d8_72 rfl ?_
  exact r_if (t := 92) hP d8_74 (by decide) kt kf
theorem b8_77 {d : Nat} {P : xPr} {Q : xQr} {r : Nat} {mem : Nat → Nat → Int32} (hP : Cl d none 8 P Q) {t : Nat} {s : Nat} {x3 : Int32} {x4 : Int32} {v5 : Value} {x6 : Int32} {x7 : Int32} (ht : isTown t) (hs : isState s)
    (kt : x6 = 0 → P 92 [.ref 51, .ref t, .ref s, .int x3, .int x4, v5, .int x6, .int x7] [] (0, 0) (LAY, RFu r, mem)) (kf : ¬ x6 = 0 → P 82 [.ref 51, .ref t, .ref s, .int x3, .int x4, v5, .int x6, .int x7] [] (0, 0) (LAY, RFu r, mem)) : P 77 [.ref 51, .ref t, .ref s, .int x3, .int x4, v5, .int x6, .int x7] [] (0, 0) (LAY, RFu r, mem) := by
  refine r_iload hP d8_77 rfl ?_
  exact r_if (t := 92) hP d8_79 (by decide) kt kf
theorem b8_82 {d : Nat} {P : xPr} {Q : xQr} {r : Nat} {mem : Nat → Nat → Int32} (hP : Cl d none 8 P Q) {t : Nat} {s : Nat} {x3 : Int32} {x4 : Int32} {v5 : Value} {x6 : Int32} {x7 : Int32} (ht : isTown t) (hs : isState s)
    (k : xCall d 11 [.ref 51, .ref t, .ref s, .int x6, .int x7] (LAY, RFu r, mem) (Bk P 89 [.ref 51, .ref t, .ref s, .int x3, .int x4, v5, .int x6, .int x7] [] (0, 0))) : P 82 [.ref 51, .ref t, .ref s, .int x3, .int x4, v5, .int x6, .int x7] [] (0, 0) (LAY, RFu r, mem) := by
  refine r_aload_n hP d8_82 rfl ?_
  refine r_aload_n hP d8_83 rfl ?_
  refine r_aload_n hP d8_84 rfl ?_
  refine r_iload hP d8_85 rfl ?_
  refine r_iload hP d8_87 rfl ?_
  exact r_callv (As := [.ref t, .ref s, .int x6, .int x7]) (S := []) hP d8_89 cr_1_50 (by decide +kernel) rfl (by simp [Value.category]) rfl ly_51 (by simp [Value.category]) ⟨Nat.zero_le _, Nat.zero_le _⟩ k
theorem b8_92 {d : Nat} {P : xPr} {Q : xQr} {r : Nat} {mem : Nat → Nat → Int32} (hP : Cl d none 8 P Q) {t : Nat} {s : Nat} {x3 : Int32} {x4 : Int32} {v5 : Value} {v6 : Value} {v7 : Value} (ht : isTown t) (hs : isState s)
    (k : xCall d 13 [.ref 51, .ref t, .ref s, .int x4] (LAY, RFu r, mem) (Bk P 97 [.ref 51, .ref t, .ref s, .int x3, .int x4, v5, v6, v7] [] (0, 0))) : P 92 [.ref 51, .ref t, .ref s, .int x3, .int x4, v5, v6, v7] [] (0, 0) (LAY, RFu r, mem) := by
  refine r_aload_n hP d8_92 rfl ?_
  refine r_aload_n hP d8_93 rfl ?_
  refine r_aload_n hP d8_94 rfl ?_
  refine r_iload hP d8_95 rfl ?_
  exact r_callv (As := [.ref t, .ref s, .int x4]) (S := []) hP d8_97 cr_1_53 (by decide +kernel) rfl (by simp [Value.category]) rfl ly_51 (by simp [Value.category]) ⟨Nat.zero_le _, Nat.zero_le _⟩ k
theorem b8_100 {d : Nat} {P : xPr} {Q : xQr} {r : Nat} {mem : Nat → Nat → Int32} (hP : Cl d none 8 P Q) {t : Nat} {s : Nat} {x3 : Int32} {x4 : Int32} {v5 : Value} {v6 : Value} {v7 : Value} {y0 : Int32} (ht : isTown t) (hs : isState s)
    (kt : y0 = 0 → P 106 [.ref 51, .ref t, .ref s, .int x3, .int x4, v5, v6, v7] [] (0, 0) (LAY, RFu r, mem)) (kf : ¬ y0 = 0 → P 103 [.ref 51, .ref t, .ref s, .int x3, .int x4, v5, v6, v7] [] (0, 0) (LAY, RFu r, mem)) : P 100 [.ref 51, .ref t, .ref s, .int x3, .int x4, v5, v6, v7] [.int y0] (0, 0) (LAY, RFu r, mem) := by
  exact r_if (t := 106) hP d8_100 (by decide) kt kf
theorem b8_103 {d : Nat} {P : xPr} {Q : xQr} {r : Nat} {mem : Nat → Nat → Int32} (hP : Cl d none 8 P Q) {t : Nat} {s : Nat} {x3 : Int32} {x4 : Int32} {v5 : Value} {v6 : Value} {v7 : Value} (ht : isTown t) (hs : isState s)
    (k : P 106 [.ref 51, .ref t, .ref s, .int (x3 + nI 1), .int x4, v5, v6, v7] [] (0, 0) (LAY, RFu r, mem)) : P 103 [.ref 51, .ref t, .ref s, .int x3, .int x4, v5, v6, v7] [] (0, 0) (LAY, RFu r, mem) := by
  refine r_iinc (v := nI 1) (L' := [.ref 51, .ref t, .ref s, .int (x3 + nI 1), .int x4, v5, v6, v7]) hP d8_103 rfl rfl rfl ?_
  exact k
theorem b8_106 {d : Nat} {P : xPr} {Q : xQr} {r : Nat} {mem : Nat → Nat → Int32} (hP : Cl d none 8 P Q) {t : Nat} {s : Nat} {x3 : Int32} {x4 : Int32} {v5 : Value} {v6 : Value} {v7 : Value} (ht : isTown t) (hs : isState s)
    (k : P 11 [.ref 51, .ref t, .ref s, .int x3, .int (x4 + nI 1), v5, v6, v7] [] (0, 0) (LAY, RFu r, mem)) : P 106 [.ref 51, .ref t, .ref s, .int x3, .int x4, v5, v6, v7] [] (0, 0) (LAY, RFu r, mem) := by
  refine r_iinc (v := nI 1) (L' := [.ref 51, .ref t, .ref s, .int x3, .int (x4 + nI 1), v5, v6, v7]) hP d8_106 rfl rfl rfl ?_
  refine r_goto (t := 11) hP d8_109 (by decide) ?_
  exact k
theorem b8_112 {d : Nat} {P : xPr} {Q : xQr} {r : Nat} {mem : Nat → Nat → Int32} (hP : Cl d none 8 P Q) {t : Nat} {s : Nat} {x3 : Int32} {v4 : Value} {v5 : Value} {v6 : Value} {v7 : Value} (ht : isTown t) (hs : isState s)
    (k : xCall d 14 [.ref 51, .ref t, .ref s] (LAY, RFu r, mem) (Bk P 115 [.ref 51, .ref t, .ref s, .int x3, v4, v5, v6, v7] [] (0, 0))) : P 112 [.ref 51, .ref t, .ref s, .int x3, v4, v5, v6, v7] [] (0, 0) (LAY, RFu r, mem) := by
  refine r_aload_n hP d8_112 rfl ?_
  refine r_aload_n hP d8_113 rfl ?_
  refine r_aload_n hP d8_114 rfl ?_
  exact r_callv (As := [.ref t, .ref s]) (S := []) hP d8_115 cr_1_57 (by decide +kernel) rfl (by simp [Value.category]) rfl ly_51 (by simp [Value.category]) ⟨Nat.zero_le _, Nat.zero_le _⟩ k
theorem b8_118 {d : Nat} {P : xPr} {Q : xQr} {r : Nat} {mem : Nat → Nat → Int32} (hP : Cl d none 8 P Q) {t : Nat} {s : Nat} {v0 : Value} {v1 : Value} {v2 : Value} {x3 : Int32} {v4 : Value} {v5 : Value} {v6 : Value} {v7 : Value} (ht : isTown t) (hs : isState s)
    (k : Q (some (.int x3)) (LAY, RFu r, mem)) : P 118 [v0, v1, v2, .int x3, v4, v5, v6, v7] [] (0, 0) (LAY, RFu r, mem) := by
  refine r_iload_n hP d8_118 rfl ?_
  exact r_iret hP d8_119 rfl k
theorem d9_0 : decode (xB 9) 0 = .ok (.aload_n 2, 1) := by decide +kernel
theorem d9_1 : decode (xB 9) 1 = .ok (.getfield 60, 3) := by decide +kernel
theorem d9_4 : decode (xB 9) 4 = .ok (.astore_n 3, 1) := by decide +kernel
theorem d9_5 : decode (xB 9) 5 = .ok (.iconst 0, 1) := by decide +kernel
theorem d9_6 : decode (xB 9) 6 = .ok (.istore 4, 2) := by decide +kernel
theorem d9_8 : decode (xB 9) 8 = .ok (.iload 4, 2) := by decide +kernel
theorem d9_10 : decode (xB 9) 10 = .ok (.aload_n 1, 1) := by decide +kernel
theorem d9_11 : decode (xB 9) 11 = .ok (.getfield 63, 3) := by decide +kernel
theorem d9_14 : decode (xB 9) 14 = .ok (.if_icmp .ge 65, 3) := by decide +kernel
theorem d9_17 : decode (xB 9) 17 = .ok (.aload_n 1, 1) := by decide +kernel
theorem d9_18 : decode (xB 9) 18 = .ok (.iload 4, 2) := by decide +kernel
theorem d9_20 : decode (xB 9) 20 = .ok (.aload_n 3, 1) := by decide +kernel
theorem d9_21 : decode (xB 9) 21 = .ok (.bipush 120, 2) := by decide +kernel
theorem d9_23 : decode (xB 9) 23 = .ok (.iaload, 1) := by decide +kernel
theorem d9_24 : decode (xB 9) 24 = .ok (.invokevirtual 66, 3) := by decide +kernel
theorem d9_27 : decode (xB 9) 27 = .ok (.istore 5, 2) := by decide +kernel
theorem d9_29 : decode (xB 9) 29 = .ok (.iload 5, 2) := by decide +kernel
theorem d9_31 : decode (xB 9) 31 = .ok (.iconst (-1), 1) := by decide +kernel
theorem d9_32 : decode (xB 9) 32 = .ok (.if_icmp .ne 14, 3) := by decide +kernel
theorem d9_35 : decode (xB 9) 35 = .ok (.aload_n 3, 1) := by decide +kernel
theorem d9_36 : decode (xB 9) 36 = .ok (.bipush 8, 2) := by decide +kernel
theorem d9_38 : decode (xB 9) 38 = .ok (.iload 4, 2) := by decide +kernel
theorem d9_40 : decode (xB 9) 40 = .ok (.iadd, 1) := by decide +kernel
theorem d9_41 : decode (xB 9) 41 = .ok (.iconst 0, 1) := by decide +kernel
theorem d9_42 : decode (xB 9) 42 = .ok (.iastore, 1) := by decide +kernel
theorem d9_43 : decode (xB 9) 43 = .ok (.goto 22, 3) := by decide +kernel
theorem d9_46 : decode (xB 9) 46 = .ok (.iload 5, 2) := by decide +kernel
theorem d9_48 : decode (xB 9) 48 = .ok (.aload_n 3, 1) := by decide +kernel
theorem d9_49 : decode (xB 9) 49 = .ok (.iconst 0, 1) := by decide +kernel
theorem d9_50 : decode (xB 9) 50 = .ok (.iload 4, 2) := by decide +kernel
theorem d9_52 : decode (xB 9) 52 = .ok (.iadd, 1) := by decide +kernel
theorem d9_53 : decode (xB 9) 53 = .ok (.iaload, 1) := by decide +kernel
theorem d9_54 : decode (xB 9) 54 = .ok (.if_icmp .eq 11, 3) := by decide +kernel
theorem d9_57 : decode (xB 9) 57 = .ok (.aload_n 3, 1) := by decide +kernel
theorem d9_58 : decode (xB 9) 58 = .ok (.bipush 8, 2) := by decide +kernel
theorem d9_60 : decode (xB 9) 60 = .ok (.iload 4, 2) := by decide +kernel
theorem d9_62 : decode (xB 9) 62 = .ok (.iadd, 1) := by decide +kernel
theorem d9_63 : decode (xB 9) 63 = .ok (.iconst 1, 1) := by decide +kernel
theorem d9_64 : decode (xB 9) 64 = .ok (.iastore, 1) := by decide +kernel
theorem d9_65 : decode (xB 9) 65 = .ok (.aload_n 3, 1) := by decide +kernel
theorem d9_66 : decode (xB 9) 66 = .ok (.iconst 0, 1) := by decide +kernel
theorem d9_67 : decode (xB 9) 67 = .ok (.iload 4, 2) := by decide +kernel
theorem d9_69 : decode (xB 9) 69 = .ok (.iadd, 1) := by decide +kernel
theorem d9_70 : decode (xB 9) 70 = .ok (.iload 5, 2) := by decide +kernel
theorem d9_72 : decode (xB 9) 72 = .ok (.iastore, 1) := by decide +kernel
theorem d9_73 : decode (xB 9) 73 = .ok (.iinc 4 1, 3) := by decide +kernel
theorem d9_76 : decode (xB 9) 76 = .ok (.goto (-68), 3) := by decide +kernel
theorem d9_79 : decode (xB 9) 79 = .ok (.return_, 1) := by decide +kernel
theorem b9_0 {d : Nat} {P : xPr} {Q : xQr} {r : Nat} {mem : Nat → Nat → Int32} (hP : Cl d none 9 P Q) {t : Nat} {s : Nat} (ht : isTown t) (hs : isState s)
    (k : P 8 [.ref 51, .ref t, .ref s, .ref (s + 1), .int (nI 0), .null] [] (0, 0) (LAY, RFu r, mem)) : P 0 [.ref 51, .ref t, .ref s, .null, .null, .null] [] (0, 0) (LAY, RFu r, mem) := by
  refine r_aload_n hP d9_0 rfl ?_
  refine r_getr (a := (s + 1)) hP d9_1 fr_1_60 rfl (lt_8 hs) (rt_8_0 hs) ?_
  refine r_astore_n (L' := [.ref 51, .ref t, .ref s, .ref (s + 1), .null, .null]) hP d9_4 (Nat.le_of_ble_eq_true rfl) rfl ?_
  refine r_iconst (v := nI 0) hP d9_5 rfl ?_
  refine r_istore (L' := [.ref 51, .ref t, .ref s, .ref (s + 1), .int (nI 0), .null]) hP d9_6 (Nat.le_of_ble_eq_true rfl) rfl ?_
  exact k
theorem b9_8 {d : Nat} {P : xPr} {Q : xQr} {r : Nat} {mem : Nat → Nat → Int32} (hP : Cl d none 9 P Q) {t : Nat} {s : Nat} {v0 : Value} {v2 : Value} {x4 : Int32} {v5 : Value} (ht : isTown t) (hs : isState s)
    (kt : (mem t 1) ≤ x4 → P 79 [v0, .ref t, v2, .ref (s + 1), .int x4, v5] [] (0, 0) (LAY, RFu r, mem)) (kf : ¬ (mem t 1) ≤ x4 → P 17 [v0, .ref t, v2, .ref (s + 1), .int x4, v5] [] (0, 0) (LAY, RFu r, mem)) : P 8 [v0, .ref t, v2, .ref (s + 1), .int x4, v5] [] (0, 0) (LAY, RFu r, mem) := by
  refine r_iload hP d9_8 rfl ?_
  refine r_aload_n hP d9_10 rfl ?_
  refine r_geti hP d9_11 fr_1_63 rfl (lt_10 ht) ?_
  exact r_icmp (t := 79) hP d9_14 (by decide) kt kf
theorem b9_17 {d : Nat} {P : xPr} {Q : xQr} {r : Nat} {mem : Nat → Nat → Int32} (hP : Cl d none 9 P Q) {t : Nat} {s : Nat} {v0 : Value} {v2 : Value} {x4 : Int32} {v5 : Value} (ht : isTown t) (hs : isState s) (hi23 : vp_in (nI 120) 121)
    (k : xCall d 89 [.ref t, .int x4, .int (mem (s + 1) (nI 120).toNatClampNeg)] (LAY, RFu r, mem) (Bk P 24 [v0, .ref t, v2, .ref (s + 1), .int x4, v5] [] (0, 0))) : P 17 [v0, .ref t, v2, .ref (s + 1), .int x4, v5] [] (0, 0) (LAY, RFu r, mem) := by
  refine r_aload_n hP d9_17 rfl ?_
  refine r_iload hP d9_18 rfl ?_
  refine r_aload_n hP d9_20 rfl ?_
  refine r_bipush (v := nI 120) hP d9_21 rfl ?_
  refine r_iaload hP d9_23 (lt_8_0 hs) hi23 ?_
  exact r_callv (As := [.int x4, .int (mem (s + 1) (nI 120).toNatClampNeg)]) (S := []) hP d9_24 cr_1_66 (by decide +kernel) rfl (by simp [Value.category]) rfl (lt_10 ht) (by simp [Value.category]) ⟨Nat.zero_le _, Nat.zero_le _⟩ k
theorem b9_27 {d : Nat} {P : xPr} {Q : xQr} {r : Nat} {mem : Nat → Nat → Int32} (hP : Cl d none 9 P Q) {t : Nat} {s : Nat} {v0 : Value} {v2 : Value} {x4 : Int32} {v5 : Value} {y0 : Int32} (ht : isTown t) (hs : isState s)
    (kt : ¬ y0 = (-1) → P 46 [v0, .ref t, v2, .ref (s + 1), .int x4, .int y0] [] (0, 0) (LAY, RFu r, mem)) (kf : y0 = (-1) → P 35 [v0, .ref t, v2, .ref (s + 1), .int x4, .int y0] [] (0, 0) (LAY, RFu r, mem)) : P 27 [v0, .ref t, v2, .ref (s + 1), .int x4, v5] [.int y0] (0, 0) (LAY, RFu r, mem) := by
  refine r_istore (L' := [v0, .ref t, v2, .ref (s + 1), .int x4, .int y0]) hP d9_27 (Nat.le_of_ble_eq_true rfl) rfl ?_
  refine r_iload hP d9_29 rfl ?_
  refine r_iconst (v := (-1)) hP d9_31 rfl ?_
  exact r_icmp (t := 46) hP d9_32 (by decide) kt (fun q => kf (Decidable.of_not_not q))
theorem b9_35 {d : Nat} {P : xPr} {Q : xQr} {r : Nat} {mem : Nat → Nat → Int32} (hP : Cl d none 9 P Q) {t : Nat} {s : Nat} {v0 : Value} {v2 : Value} {x4 : Int32} {x5 : Int32} (ht : isTown t) (hs : isState s) (hi42 : vp_in ((nI 8) + x4) 121)
    (k : P 65 [v0, .ref t, v2, .ref (s + 1), .int x4, .int x5] [] (0, 0) (LAY, RFu r, xu2 mem (s + 1) ((nI 8) + x4).toNatClampNeg (nI 0))) : P 35 [v0, .ref t, v2, .ref (s + 1), .int x4, .int x5] [] (0, 0) (LAY, RFu r, mem) := by
  refine r_aload_n hP d9_35 rfl ?_
  refine r_bipush (v := nI 8) hP d9_36 rfl ?_
  refine r_iload hP d9_38 rfl ?_
  refine r_iadd hP d9_40 ?_
  refine r_iconst (v := nI 0) hP d9_41 rfl ?_
  refine r_iastore hP d9_42 (lt_8_0 hs) hi42 ?_
  refine r_goto (t := 65) hP d9_43 (by decide) ?_
  exact k
theorem b9_46 {d : Nat} {P : xPr} {Q : xQr} {r : Nat} {mem : Nat → Nat → Int32} (hP : Cl d none 9 P Q) {t : Nat} {s : Nat} {v0 : Value} {v2 : Value} {x4 : Int32} {x5 : Int32} (ht : isTown t) (hs : isState s) (hi53 : vp_in ((nI 0) + x4) 121)
    (kt : x5 = (mem (s + 1) ((nI 0) + x4).toNatClampNeg) → P 65 [v0, .ref t, v2, .ref (s + 1), .int x4, .int x5] [] (0, 0) (LAY, RFu r, mem)) (kf : ¬ x5 = (mem (s + 1) ((nI 0) + x4).toNatClampNeg) → P 57 [v0, .ref t, v2, .ref (s + 1), .int x4, .int x5] [] (0, 0) (LAY, RFu r, mem)) : P 46 [v0, .ref t, v2, .ref (s + 1), .int x4, .int x5] [] (0, 0) (LAY, RFu r, mem) := by
  refine r_iload hP d9_46 rfl ?_
  refine r_aload_n hP d9_48 rfl ?_
  refine r_iconst (v := nI 0) hP d9_49 rfl ?_
  refine r_iload hP d9_50 rfl ?_
  refine r_iadd hP d9_52 ?_
  refine r_iaload hP d9_53 (lt_8_0 hs) hi53 ?_
  exact r_icmp (t := 65) hP d9_54 (by decide) kt kf
theorem b9_57 {d : Nat} {P : xPr} {Q : xQr} {r : Nat} {mem : Nat → Nat → Int32} (hP : Cl d none 9 P Q) {t : Nat} {s : Nat} {v0 : Value} {v2 : Value} {x4 : Int32} {x5 : Int32} (ht : isTown t) (hs : isState s) (hi64 : vp_in ((nI 8) + x4) 121)
    (k : P 65 [v0, .ref t, v2, .ref (s + 1), .int x4, .int x5] [] (0, 0) (LAY, RFu r, xu2 mem (s + 1) ((nI 8) + x4).toNatClampNeg (nI 1))) : P 57 [v0, .ref t, v2, .ref (s + 1), .int x4, .int x5] [] (0, 0) (LAY, RFu r, mem) := by
  refine r_aload_n hP d9_57 rfl ?_
  refine r_bipush (v := nI 8) hP d9_58 rfl ?_
  refine r_iload hP d9_60 rfl ?_
  refine r_iadd hP d9_62 ?_
  refine r_iconst (v := nI 1) hP d9_63 rfl ?_
  refine r_iastore hP d9_64 (lt_8_0 hs) hi64 ?_
  exact k
theorem b9_65 {d : Nat} {P : xPr} {Q : xQr} {r : Nat} {mem : Nat → Nat → Int32} (hP : Cl d none 9 P Q) {t : Nat} {s : Nat} {v0 : Value} {v2 : Value} {x4 : Int32} {x5 : Int32} (ht : isTown t) (hs : isState s) (hi72 : vp_in ((nI 0) + x4) 121)
    (k : P 8 [v0, .ref t, v2, .ref (s + 1), .int (x4 + nI 1), .int x5] [] (0, 0) (LAY, RFu r, xu2 mem (s + 1) ((nI 0) + x4).toNatClampNeg x5)) : P 65 [v0, .ref t, v2, .ref (s + 1), .int x4, .int x5] [] (0, 0) (LAY, RFu r, mem) := by
  refine r_aload_n hP d9_65 rfl ?_
  refine r_iconst (v := nI 0) hP d9_66 rfl ?_
  refine r_iload hP d9_67 rfl ?_
  refine r_iadd hP d9_69 ?_
  refine r_iload hP d9_70 rfl ?_
  refine r_iastore hP d9_72 (lt_8_0 hs) hi72 ?_
  refine r_iinc (v := nI 1) (L' := [v0, .ref t, v2, .ref (s + 1), .int (x4 + nI 1), .int x5]) hP d9_73 rfl rfl rfl ?_
  refine r_goto (t := 8) hP d9_76 (by decide) ?_
  exact k
theorem b9_79 {d : Nat} {P : xPr} {Q : xQr} {r : Nat} {mem : Nat → Nat → Int32} (hP : Cl d none 9 P Q) {t : Nat} {s : Nat} {v0 : Value} {v1 : Value} {v2 : Value} {v3 : Value} {v4 : Value} {v5 : Value} (ht : isTown t) (hs : isState s)
    (k : Q none (LAY, RFu r, mem)) : P 79 [v0, v1, v2, v3, v4, v5] [] (0, 0) (LAY, RFu r, mem) := by
  exact r_vret hP d9_79 rfl k
theorem d10_0 : decode (xB 10) 0 = .ok (.aload_n 0, 1) := by decide +kernel
theorem d10_1 : decode (xB 10) 1 = .ok (.aload_n 1, 1) := by decide +kernel
theorem d10_2 : decode (xB 10) 2 = .ok (.getfield 69, 3) := by decide +kernel
theorem d10_5 : decode (xB 10) 5 = .ok (.aload_n 1, 1) := by decide +kernel
theorem d10_6 : decode (xB 10) 6 = .ok (.aload_n 2, 1) := by decide +kernel
theorem d10_7 : decode (xB 10) 7 = .ok (.iload_n 3, 1) := by decide +kernel
theorem d10_8 : decode (xB 10) 8 = .ok (.invokevirtual 73, 3) := by decide +kernel
theorem d10_11 : decode (xB 10) 11 = .ok (.aload_n 0, 1) := by decide +kernel
theorem d10_12 : decode (xB 10) 12 = .ok (.aload_n 2, 1) := by decide +kernel
theorem d10_13 : decode (xB 10) 13 = .ok (.iload_n 3, 1) := by decide +kernel
theorem d10_14 : decode (xB 10) 14 = .ok (.iload 4, 2) := by decide +kernel
theorem d10_16 : decode (xB 10) 16 = .ok (.iconst 1, 1) := by decide +kernel
theorem d10_17 : decode (xB 10) 17 = .ok (.invokevirtual 77, 3) := by decide +kernel
theorem d10_20 : decode (xB 10) 20 = .ok (.return_, 1) := by decide +kernel
theorem b10_0 {d : Nat} {P : xPr} {Q : xQr} {r : Nat} {mem : Nat → Nat → Int32} (hP : Cl d none 10 P Q) {t : Nat} {s : Nat} {p2 : Int32} {p3 : Int32} (ht : isTown t) (hs : isState s)
    (k : xCall d 15 [.ref 51, .ref (t + 18), .ref t, .ref s, .int p2] (LAY, RFu r, mem) (Bk P 8 [.ref 51, .ref t, .ref s, .int p2, .int p3] [] (0, 0))) : P 0 [.ref 51, .ref t, .ref s, .int p2, .int p3] [] (0, 0) (LAY, RFu r, mem) := by
  refine r_aload_n hP d10_0 rfl ?_
  refine r_aload_n hP d10_1 rfl ?_
  refine r_getr (a := (t + 18)) hP d10_2 fr_1_69 rfl (lt_10 ht) (rt_10_9 ht) ?_
  refine r_aload_n hP d10_5 rfl ?_
  refine r_aload_n hP d10_6 rfl ?_
  refine r_iload_n hP d10_7 rfl ?_
  exact r_callv (As := [.ref (t + 18), .ref t, .ref s, .int p2]) (S := []) hP d10_8 cr_1_73 (by decide +kernel) rfl (by simp [Value.category]) rfl ly_51 (by simp [Value.category]) ⟨Nat.zero_le _, Nat.zero_le _⟩ k
theorem b10_11 {d : Nat} {P : xPr} {Q : xQr} {r : Nat} {mem : Nat → Nat → Int32} (hP : Cl d none 10 P Q) {t : Nat} {s : Nat} {v1 : Value} {x3 : Int32} {x4 : Int32} (ht : isTown t) (hs : isState s)
    (k : xCall d 12 [.ref 51, .ref s, .int x3, .int x4, .int (nI 1)] (LAY, RFu r, mem) (Bk P 17 [.ref 51, v1, .ref s, .int x3, .int x4] [] (0, 0))) : P 11 [.ref 51, v1, .ref s, .int x3, .int x4] [] (0, 0) (LAY, RFu r, mem) := by
  refine r_aload_n hP d10_11 rfl ?_
  refine r_aload_n hP d10_12 rfl ?_
  refine r_iload_n hP d10_13 rfl ?_
  refine r_iload hP d10_14 rfl ?_
  refine r_iconst (v := nI 1) hP d10_16 rfl ?_
  exact r_callv (As := [.ref s, .int x3, .int x4, .int (nI 1)]) (S := []) hP d10_17 cr_1_77 (by decide +kernel) rfl (by simp [Value.category]) rfl ly_51 (by simp [Value.category]) ⟨Nat.zero_le _, Nat.zero_le _⟩ k
theorem b10_20 {d : Nat} {P : xPr} {Q : xQr} {r : Nat} {mem : Nat → Nat → Int32} (hP : Cl d none 10 P Q) {t : Nat} {s : Nat} {v0 : Value} {v1 : Value} {v2 : Value} {v3 : Value} {v4 : Value} (ht : isTown t) (hs : isState s)
    (k : Q none (LAY, RFu r, mem)) : P 20 [v0, v1, v2, v3, v4] [] (0, 0) (LAY, RFu r, mem) := by
  exact r_vret hP d10_20 rfl k
theorem d11_0 : decode (xB 11) 0 = .ok (.iload_n 3, 1) := by decide +kernel
theorem d11_1 : decode (xB 11) 1 = .ok (.invokestatic 40, 3) := by decide +kernel
theorem d11_4 : decode (xB 11) 4 = .ok (.iload 4, 2) := by decide +kernel
theorem d11_6 : decode (xB 11) 6 = .ok (.if_icmp .le 14, 3) := by decide +kernel
theorem d11_9 : decode (xB 11) 9 = .ok (.aload_n 0, 1) := by decide +kernel
theorem d11_10 : decode (xB 11) 10 = .ok (.aload_n 1, 1) := by decide +kernel
theorem d11_11 : decode (xB 11) 11 = .ok (.getfield 81, 3) := by decide +kernel
theorem d11_14 : decode (xB 11) 14 = .ok (.aload_n 1, 1) := by decide +kernel
theorem d11_15 : decode (xB 11) 15 = .ok (.aload_n 2, 1) := by decide +kernel
theorem d11_16 : decode (xB 11) 16 = .ok (.iload_n 3, 1) := by decide +kernel
theorem d11_17 : decode (xB 11) 17 = .ok (.invokevirtual 73, 3) := by decide +kernel
theorem d11_20 : decode (xB 11) 20 = .ok (.aload_n 0, 1) := by decide +kernel
theorem d11_21 : decode (xB 11) 21 = .ok (.aload_n 2, 1) := by decide +kernel
theorem d11_22 : decode (xB 11) 22 = .ok (.iload_n 3, 1) := by decide +kernel
theorem d11_23 : decode (xB 11) 23 = .ok (.iload 4, 2) := by decide +kernel
theorem d11_25 : decode (xB 11) 25 = .ok (.iconst 2, 1) := by decide +kernel
theorem d11_26 : decode (xB 11) 26 = .ok (.invokevirtual 77, 3) := by decide +kernel
theorem d11_29 : decode (xB 11) 29 = .ok (.return_, 1) := by decide +kernel
theorem b11_0 {d : Nat} {P : xPr} {Q : xQr} {r : Nat} {mem : Nat → Nat → Int32} (hP : Cl d none 11 P Q) {t : Nat} {s : Nat} {p2 : Int32} {p3 : Int32} (ht : isTown t) (hs : isState s)
    (k : xCall d 237 [.int p2] (LAY, RFu r, mem) (Bk P 1 [.ref 51, .ref t, .ref s, .int p2, .int p3] [] (0, 0))) : P 0 [.ref 51, .ref t, .ref s, .int p2, .int p3] [] (0, 0) (LAY, RFu r, mem) := by
  refine r_iload_n hP d11_0 rfl ?_
  exact r_calls (As := [.int p2]) (S := []) hP d11_1 cr_1_40 (by decide +kernel) rfl (by simp [Value.category]) rfl (by simp [Value.category]) ⟨Nat.zero_le _, Nat.zero_le _⟩ k
theorem b11_4 {d : Nat} {P : xPr} {Q : xQr} {r : Nat} {mem : Nat → Nat → Int32} (hP : Cl d none 11 P Q) {t : Nat} {s : Nat} {x3 : Int32} {x4 : Int32} {y0 : Int32} (ht : isTown t) (hs : isState s)
    (kt : y0 ≤ x4 → P 20 [.ref 51, .ref t, .ref s, .int x3, .int x4] [] (0, 0) (LAY, RFu r, mem)) (kf : ¬ y0 ≤ x4 → P 9 [.ref 51, .ref t, .ref s, .int x3, .int x4] [] (0, 0) (LAY, RFu r, mem)) : P 4 [.ref 51, .ref t, .ref s, .int x3, .int x4] [.int y0] (0, 0) (LAY, RFu r, mem) := by
  refine r_iload hP d11_4 rfl ?_
  exact r_icmp (t := 20) hP d11_6 (by decide) kt kf
theorem b11_9 {d : Nat} {P : xPr} {Q : xQr} {r : Nat} {mem : Nat → Nat → Int32} (hP : Cl d none 11 P Q) {t : Nat} {s : Nat} {x3 : Int32} {x4 : Int32} (ht : isTown t) (hs : isState s)
    (k : xCall d 15 [.ref 51, .ref (t + 15), .ref t, .ref s, .int x3] (LAY, RFu r, mem) (Bk P 17 [.ref 51, .ref t, .ref s, .int x3, .int x4] [] (0, 0))) : P 9 [.ref 51, .ref t, .ref s, .int x3, .int x4] [] (0, 0) (LAY, RFu r, mem) := by
  refine r_aload_n hP d11_9 rfl ?_
  refine r_aload_n hP d11_10 rfl ?_
  refine r_getr (a := (t + 15)) hP d11_11 fr_1_81 rfl (lt_10 ht) (rt_10_8 ht) ?_
  refine r_aload_n hP d11_14 rfl ?_
  refine r_aload_n hP d11_15 rfl ?_
  refine r_iload_n hP d11_16 rfl ?_
  exact r_callv (As := [.ref (t + 15), .ref t, .ref s, .int x3]) (S := []) hP d11_17 cr_1_73 (by decide +kernel) rfl (by simp [Value.category]) rfl ly_51 (by simp [Value.category]) ⟨Nat.zero_le _, Nat.zero_le _⟩ k
theorem b11_20 {d : Nat} {P : xPr} {Q : xQr} {r : Nat} {mem : Nat → Nat → Int32} (hP : Cl d none 11 P Q) {t : Nat} {s : Nat} {v1 : Value} {x3 : Int32} {x4 : Int32} (ht : isTown t) (hs : isState s)
    (k : xCall d 12 [.ref 51, .ref s, .int x3, .int x4, .int (nI 2)] (LAY, RFu r, mem) (Bk P 26 [.ref 51, v1, .ref s, .int x3, .int x4] [] (0, 0))) : P 20 [.ref 51, v1, .ref s, .int x3, .int x4] [] (0, 0) (LAY, RFu r, mem) := by
  refine r_aload_n hP d11_20 rfl ?_
  refine r_aload_n hP d11_21 rfl ?_
  refine r_iload_n hP d11_22 rfl ?_
  refine r_iload hP d11_23 rfl ?_
  refine r_iconst (v := nI 2) hP d11_25 rfl ?_
  exact r_callv (As := [.ref s, .int x3, .int x4, .int (nI 2)]) (S := []) hP d11_26 cr_1_77 (by decide +kernel) rfl (by simp [Value.category]) rfl ly_51 (by simp [Value.category]) ⟨Nat.zero_le _, Nat.zero_le _⟩ k
theorem b11_29 {d : Nat} {P : xPr} {Q : xQr} {r : Nat} {mem : Nat → Nat → Int32} (hP : Cl d none 11 P Q) {t : Nat} {s : Nat} {v0 : Value} {v1 : Value} {v2 : Value} {v3 : Value} {v4 : Value} (ht : isTown t) (hs : isState s)
    (k : Q none (LAY, RFu r, mem)) : P 29 [v0, v1, v2, v3, v4] [] (0, 0) (LAY, RFu r, mem) := by
  exact r_vret hP d11_29 rfl k
theorem d12_0 : decode (xB 12) 0 = .ok (.iload_n 2, 1) := by decide +kernel
theorem d12_1 : decode (xB 12) 1 = .ok (.istore 5, 2) := by decide +kernel
theorem d12_3 : decode (xB 12) 3 = .ok (.iconst 0, 1) := by decide +kernel
theorem d12_4 : decode (xB 12) 4 = .ok (.istore 6, 2) := by decide +kernel
theorem d12_6 : decode (xB 12) 6 = .ok (.iload 6, 2) := by decide +kernel
theorem d12_8 : decode (xB 12) 8 = .ok (.iload_n 3, 1) := by decide +kernel
theorem d12_9 : decode (xB 12) 9 = .ok (.if_icmp .ge 45, 3) := by decide +kernel
theorem d12_12 : decode (xB 12) 12 = .ok (.iload 5, 2) := by decide +kernel
theorem d12_14 : decode (xB 12) 14 = .ok (.ifCond .eq 40, 3) := by decide +kernel
theorem d12_17 : decode (xB 12) 17 = .ok (.aload_n 0, 1) := by decide +kernel
theorem d12_18 : decode (xB 12) 18 = .ok (.iload 5, 2) := by decide +kernel
theorem d12_20 : decode (xB 12) 20 = .ok (.invokevirtual 84, 3) := by decide +kernel
theorem d12_23 : decode (xB 12) 23 = .ok (.istore 7, 2) := by decide +kernel
theorem d12_25 : decode (xB 12) 25 = .ok (.aload_n 1, 1) := by decide +kernel
theorem d12_26 : decode (xB 12) 26 = .ok (.getfield 60, 3) := by decide +kernel
theorem d12_29 : decode (xB 12) 29 = .ok (.bipush 8, 2) := by decide +kernel
theorem d12_31 : decode (xB 12) 31 = .ok (.iload 7, 2) := by decide +kernel
theorem d12_33 : decode (xB 12) 33 = .ok (.iadd, 1) := by decide +kernel
theorem d12_34 : decode (xB 12) 34 = .ok (.iload 4, 2) := by decide +kernel
theorem d12_36 : decode (xB 12) 36 = .ok (.iastore, 1) := by decide +kernel
theorem d12_37 : decode (xB 12) 37 = .ok (.iload 5, 2) := by decide +kernel
theorem d12_39 : decode (xB 12) 39 = .ok (.iconst 1, 1) := by decide +kernel
theorem d12_40 : decode (xB 12) 40 = .ok (.iload 7, 2) := by decide +kernel
theorem d12_42 : decode (xB 12) 42 = .ok (.ishl, 1) := by decide +kernel
theorem d12_43 : decode (xB 12) 43 = .ok (.iconst (-1), 1) := by decide +kernel
theorem d12_44 : decode (xB 12) 44 = .ok (.ixor, 1) := by decide +kernel
theorem d12_45 : decode (xB 12) 45 = .ok (.iand, 1) := by decide +kernel
theorem d12_46 : decode (xB 12) 46 = .ok (.istore 5, 2) := by decide +kernel
theorem d12_48 : decode (xB 12) 48 = .ok (.iinc 6 1, 3) := by decide +kernel
theorem d12_51 : decode (xB 12) 51 = .ok (.goto (-45), 3) := by decide +kernel
theorem d12_54 : decode (xB 12) 54 = .ok (.return_, 1) := by decide +kernel
theorem b12_0 {d : Nat} {P : xPr} {Q : xQr} {r : Nat} {mem : Nat → Nat → Int32} (hP : Cl d none 12 P Q) {s : Nat} {p1 : Int32} {p2 : Int32} {p3 : Int32} (hs : isState s)
    (k : P 6 [.ref 51, .ref s, .int p1, .int p2, .int p3, .int p1, .int (nI 0), .null] [] (0, 0) (LAY, RFu r, mem)) : P 0 [.ref 51, .ref s, .int p1, .int p2, .int p3, .null, .null, .null] [] (0, 0) (LAY, RFu r, mem) := by
  refine r_iload_n hP d12_0 rfl ?_
  refine r_istore (L' := [.ref 51, .ref s, .int p1, .int p2, .int p3, .int p1, .null, .null]) hP d12_1 (Nat.le_of_ble_eq_true rfl) rfl ?_
  refine r_iconst (v := nI 0) hP d12_3 rfl ?_
  refine r_istore (L' := [.ref 51, .ref s, .int p1, .int p2, .int p3, .int p1, .int (nI 0), .null]) hP d12_4 (Nat.le_of_ble_eq_true rfl) rfl ?_
  exact k
theorem b12_6 {d : Nat} {P : xPr} {Q : xQr} {r : Nat} {mem : Nat → Nat → Int32} (hP : Cl d none 12 P Q) {s : Nat} {v2 : Value} {x3 : Int32} {x4 : Int32} {x5 : Int32} {x6 : Int32} {v7 : Value} (hs : isState s)
    (kt : x3 ≤ x6 → P 54 [.ref 51, .ref s, v2, .int x3, .int x4, .int x5, .int x6, v7] [] (0, 0) (LAY, RFu r, mem)) (kf : ¬ x3 ≤ x6 → P 12 [.ref 51, .ref s, v2, .int x3, .int x4, .int x5, .int x6, v7] [] (0, 0) (LAY, RFu r, mem)) : P 6 [.ref 51, .ref s, v2, .int x3, .int x4, .int x5, .int x6, v7] [] (0, 0) (LAY, RFu r, mem) := by
  refine r_iload hP d12_6 rfl ?_
  refine r_iload_n hP d12_8 rfl ?_
  exact r_icmp (t := 54) hP d12_9 (by decide) kt kf
theorem b12_12 {d : Nat} {P : xPr} {Q : xQr} {r : Nat} {mem : Nat → Nat → Int32} (hP : Cl d none 12 P Q) {s : Nat} {v2 : Value} {x3 : Int32} {x4 : Int32} {x5 : Int32} {x6 : Int32} {v7 : Value} (hs : isState s)
    (kt : x5 = 0 → P 54 [.ref 51, .ref s, v2, .int x3, .int x4, .int x5, .int x6, v7] [] (0, 0) (LAY, RFu r, mem)) (kf : ¬ x5 = 0 → P 17 [.ref 51, .ref s, v2, .int x3, .int x4, .int x5, .int x6, v7] [] (0, 0) (LAY, RFu r, mem)) : P 12 [.ref 51, .ref s, v2, .int x3, .int x4, .int x5, .int x6, v7] [] (0, 0) (LAY, RFu r, mem) := by
  refine r_iload hP d12_12 rfl ?_
  exact r_if (t := 54) hP d12_14 (by decide) kt kf
theorem b12_17 {d : Nat} {P : xPr} {Q : xQr} {r : Nat} {mem : Nat → Nat → Int32} (hP : Cl d none 12 P Q) {s : Nat} {v2 : Value} {x3 : Int32} {x4 : Int32} {x5 : Int32} {x6 : Int32} {v7 : Value} (hs : isState s)
    (k : xCall d 16 [.ref 51, .int x5] (LAY, RFu r, mem) (Bk P 20 [.ref 51, .ref s, v2, .int x3, .int x4, .int x5, .int x6, v7] [] (0, 0))) : P 17 [.ref 51, .ref s, v2, .int x3, .int x4, .int x5, .int x6, v7] [] (0, 0) (LAY, RFu r, mem) := by
  refine r_aload_n hP d12_17 rfl ?_
  refine r_iload hP d12_18 rfl ?_
  exact r_callv (As := [.int x5]) (S := []) hP d12_20 cr_1_84 (by decide +kernel) rfl (by simp [Value.category]) rfl ly_51 (by simp [Value.category]) ⟨Nat.zero_le _, Nat.zero_le _⟩ k
theorem b12_23 {d : Nat} {P : xPr} {Q : xQr} {r : Nat} {mem : Nat → Nat → Int32} (hP : Cl d none 12 P Q) {s : Nat} {v2 : Value} {x3 : Int32} {x4 : Int32} {x5 : Int32} {x6 : Int32} {v7 : Value} {y0 : Int32} (hs : isState s) (hi36 : vp_in ((nI 8) + y0) 121)
    (k : P 6 [.ref 51, .ref s, v2, .int x3, .int x4, .int (x5 &&& (((nI 1) <<< (y0 &&& 31)) ^^^ (-1))), .int (x6 + nI 1), .int y0] [] (0, 0) (LAY, RFu r, xu2 mem (s + 1) ((nI 8) + y0).toNatClampNeg x4)) : P 23 [.ref 51, .ref s, v2, .int x3, .int x4, .int x5, .int x6, v7] [.int y0] (0, 0) (LAY, RFu r, mem) := by
  refine r_istore (L' := [.ref 51, .ref s, v2, .int x3, .int x4, .int x5, .int x6, .int y0]) hP d12_23 (Nat.le_of_ble_eq_true rfl) rfl ?_
  refine r_aload_n hP d12_25 rfl ?_
  refine r_getr (a := (s + 1)) hP d12_26 fr_1_60 rfl (lt_8 hs) (rt_8_0 hs) ?_
  refine r_bipush (v := nI 8) hP d12_29 rfl ?_
  refine r_iload hP d12_31 rfl ?_
  refine r_iadd hP d12_33 ?_
  refine r_iload hP d12_34 rfl ?_
  refine r_iastore hP d12_36 (lt_8_0 hs) hi36 ?_
  refine r_iload hP d12_37 rfl ?_
  refine r_iconst (v := nI 1) hP d12_39 rfl ?_
  refine r_iload hP d12_40 rfl ?_
  refine r_ishl hP d12_42 ?_
  refine r_iconst (v := (-1)) hP d12_43 rfl ?_
  refine r_ixor hP d12_44 ?_
  refine r_iand hP d12_45 ?_
  refine r_istore (L' := [.ref 51, .ref s, v2, .int x3, .int x4, .int (x5 &&& (((nI 1) <<< (y0 &&& 31)) ^^^ (-1))), .int x6, .int y0]) hP d12_46 (Nat.le_of_ble_eq_true rfl) rfl ?_
  refine r_iinc (v := nI 1) (L' := [.ref 51, .ref s, v2, .int x3, .int x4, .int (x5 &&& (((nI 1) <<< (y0 &&& 31)) ^^^ (-1))), .int (x6 + nI 1), .int y0]) hP d12_48 rfl rfl rfl ?_
  refine r_goto (t := 6) hP d12_51 (by decide) ?_
  exact k
theorem b12_54 {d : Nat} {P : xPr} {Q : xQr} {r : Nat} {mem : Nat → Nat → Int32} (hP : Cl d none 12 P Q) {s : Nat} {v0 : Value} {v1 : Value} {v2 : Value} {v3 : Value} {v4 : Value} {v5 : Value} {v6 : Value} {v7 : Value} (hs : isState s)
    (k : Q none (LAY, RFu r, mem)) : P 54 [v0, v1, v2, v3, v4, v5, v6, v7] [] (0, 0) (LAY, RFu r, mem) := by
  exact r_vret hP d12_54 rfl k
theorem d13_0 : decode (xB 13) 0 = .ok (.aload_n 0, 1) := by decide +kernel
theorem d13_1 : decode (xB 13) 1 = .ok (.getfield 9, 3) := by decide +kernel
theorem d13_4 : decode (xB 13) 4 = .ok (.iload_n 3, 1) := by decide +kernel
theorem d13_5 : decode (xB 13) 5 = .ok (.iconst (-1), 1) := by decide +kernel
theorem d13_6 : decode (xB 13) 6 = .ok (.iastore, 1) := by decide +kernel
theorem d13_7 : decode (xB 13) 7 = .ok (.aload_n 0, 1) := by decide +kernel
theorem d13_8 : decode (xB 13) 8 = .ok (.getfield 15, 3) := by decide +kernel
theorem d13_11 : decode (xB 13) 11 = .ok (.iload_n 3, 1) := by decide +kernel
theorem d13_12 : decode (xB 13) 12 = .ok (.iconst (-1), 1) := by decide +kernel
theorem d13_13 : decode (xB 13) 13 = .ok (.iastore, 1) := by decide +kernel
theorem d13_14 : decode (xB 13) 14 = .ok (.iconst 0, 1) := by decide +kernel
theorem d13_15 : decode (xB 13) 15 = .ok (.istore 4, 2) := by decide +kernel
theorem d13_17 : decode (xB 13) 17 = .ok (.iconst 0, 1) := by decide +kernel
theorem d13_18 : decode (xB 13) 18 = .ok (.istore 5, 2) := by decide +kernel
theorem d13_20 : decode (xB 13) 20 = .ok (.iconst 0, 1) := by decide +kernel
theorem d13_21 : decode (xB 13) 21 = .ok (.istore 6, 2) := by decide +kernel
theorem d13_23 : decode (xB 13) 23 = .ok (.iload 6, 2) := by decide +kernel
theorem d13_25 : decode (xB 13) 25 = .ok (.aload_n 1, 1) := by decide +kernel
theorem d13_26 : decode (xB 13) 26 = .ok (.getfield 63, 3) := by decide +kernel
theorem d13_29 : decode (xB 13) 29 = .ok (.if_icmp .ge 101, 3) := by decide +kernel
theorem d13_32 : decode (xB 13) 32 = .ok (.aload_n 2, 1) := by decide +kernel
theorem d13_33 : decode (xB 13) 33 = .ok (.getfield 60, 3) := by decide +kernel
theorem d13_36 : decode (xB 13) 36 = .ok (.iconst 0, 1) := by decide +kernel
theorem d13_37 : decode (xB 13) 37 = .ok (.iload 6, 2) := by decide +kernel
theorem d13_39 : decode (xB 13) 39 = .ok (.iadd, 1) := by decide +kernel
theorem d13_40 : decode (xB 13) 40 = .ok (.iaload, 1) := by decide +kernel
theorem d13_41 : decode (xB 13) 41 = .ok (.iload_n 3, 1) := by decide +kernel
theorem d13_42 : decode (xB 13) 42 = .ok (.if_icmp .eq 6, 3) := by decide +kernel
theorem d13_45 : decode (xB 13) 45 = .ok (.goto 79, 3) := by decide +kernel
theorem d13_48 : decode (xB 13) 48 = .ok (.aload_n 2, 1) := by decide +kernel
theorem d13_49 : decode (xB 13) 49 = .ok (.iload 6, 2) := by decide +kernel
theorem d13_51 : decode (xB 13) 51 = .ok (.invokevirtual 87, 3) := by decide +kernel
theorem d13_54 : decode (xB 13) 54 = .ok (.iconst 1, 1) := by decide +kernel
theorem d13_55 : decode (xB 13) 55 = .ok (.if_icmp .ne 26, 3) := by decide +kernel
theorem d13_58 : decode (xB 13) 58 = .ok (.aload_n 2, 1) := by decide +kernel
theorem d13_59 : decode (xB 13) 59 = .ok (.getfield 60, 3) := by decide +kernel
theorem d13_62 : decode (xB 13) 62 = .ok (.bipush 24, 2) := by decide +kernel
theorem d13_64 : decode (xB 13) 64 = .ok (.iload 6, 2) := by decide +kernel
theorem d13_66 : decode (xB 13) 66 = .ok (.iadd, 1) := by decide +kernel
theorem d13_67 : decode (xB 13) 67 = .ok (.iaload, 1) := by decide +kernel
theorem d13_68 : decode (xB 13) 68 = .ok (.iconst 1, 1) := by decide +kernel
theorem d13_69 : decode (xB 13) 69 = .ok (.if_icmp .lt 12, 3) := by decide +kernel
theorem d13_72 : decode (xB 13) 72 = .ok (.iload 4, 2) := by decide +kernel
theorem d13_74 : decode (xB 13) 74 = .ok (.iconst 1, 1) := by decide +kernel
theorem d13_75 : decode (xB 13) 75 = .ok (.iload 6, 2) := by decide +kernel
theorem d13_77 : decode (xB 13) 77 = .ok (.ishl, 1) := by decide +kernel
theorem d13_78 : decode (xB 13) 78 = .ok (.ior, 1) := by decide +kernel
theorem d13_79 : decode (xB 13) 79 = .ok (.istore 4, 2) := by decide +kernel
theorem d13_81 : decode (xB 13) 81 = .ok (.aload_n 2, 1) := by decide +kernel
theorem d13_82 : decode (xB 13) 82 = .ok (.iload 6, 2) := by decide +kernel
theorem d13_84 : decode (xB 13) 84 = .ok (.invokevirtual 87, 3) := by decide +kernel
theorem d13_87 : decode (xB 13) 87 = .ok (.iconst 2, 1) := by decide +kernel
theorem d13_88 : decode (xB 13) 88 = .ok (.if_icmp .ne 36, 3) := by decide +kernel
theorem d13_91 : decode (xB 13) 91 = .ok (.aload_n 2, 1) := by decide +kernel
theorem d13_92 : decode (xB 13) 92 = .ok (.getfield 60, 3) := by decide +kernel
theorem d13_95 : decode (xB 13) 95 = .ok (.bipush 16, 2) := by decide +kernel
theorem d13_97 : decode (xB 13) 97 = .ok (.iload 6, 2) := by decide +kernel
theorem d13_99 : decode (xB 13) 99 = .ok (.iadd, 1) := by decide +kernel
theorem d13_100 : decode (xB 13) 100 = .ok (.iaload, 1) := by decide +kernel
theorem d13_101 : decode (xB 13) 101 = .ok (.iconst 1, 1) := by decide +kernel
theorem d13_102 : decode (xB 13) 102 = .ok (.if_icmp .lt 22, 3) := by decide +kernel
theorem d13_105 : decode (xB 13) 105 = .ok (.aload_n 1, 1) := by decide +kernel
theorem d13_106 : decode (xB 13) 106 = .ok (.getfield 90, 3) := by decide +kernel
theorem d13_109 : decode (xB 13) 109 = .ok (.iload 6, 2) := by decide +kernel
theorem d13_111 : decode (xB 13) 111 = .ok (.iaload, 1) := by decide +kernel
theorem d13_112 : decode (xB 13) 112 = .ok (.ifCond .ne 12, 3) := by decide +kernel
theorem d13_115 : decode (xB 13) 115 = .ok (.iload 5, 2) := by decide +kernel
theorem d13_117 : decode (xB 13) 117 = .ok (.iconst 1, 1) := by decide +kernel
theorem d13_118 : decode (xB 13) 118 = .ok (.iload 6, 2) := by decide +kernel
theorem d13_120 : decode (xB 13) 120 = .ok (.ishl, 1) := by decide +kernel
theorem d13_121 : decode (xB 13) 121 = .ok (.ior, 1) := by decide +kernel
theorem d13_122 : decode (xB 13) 122 = .ok (.istore 5, 2) := by decide +kernel
theorem d13_124 : decode (xB 13) 124 = .ok (.iinc 6 1, 3) := by decide +kernel
theorem d13_127 : decode (xB 13) 127 = .ok (.goto (-104), 3) := by decide +kernel
theorem d13_130 : decode (xB 13) 130 = .ok (.iload 4, 2) := by decide +kernel
theorem d13_132 : decode (xB 13) 132 = .ok (.ifCond .eq 8, 3) := by decide +kernel
theorem d13_135 : decode (xB 13) 135 = .ok (.iload 5, 2) := by decide +kernel
theorem d13_137 : decode (xB 13) 137 = .ok (.ifCond .ne 5, 3) := by decide +kernel
theorem d13_140 : decode (xB 13) 140 = .ok (.iconst 0, 1) := by decide +kernel
theorem d13_141 : decode (xB 13) 141 = .ok (.ireturn, 1) := by decide +kernel
theorem d13_142 : decode (xB 13) 142 = .ok (.aload_n 0, 1) := by decide +kernel
theorem d13_143 : decode (xB 13) 143 = .ok (.aload_n 1, 1) := by decide +kernel
theorem d13_144 : decode (xB 13) 144 = .ok (.getfield 81, 3) := by decide +kernel
theorem d13_147 : decode (xB 13) 147 = .ok (.aload_n 1, 1) := by decide +kernel
theorem d13_148 : decode (xB 13) 148 = .ok (.aload_n 2, 1) := by decide +kernel
theorem d13_149 : decode (xB 13) 149 = .ok (.iload 4, 2) := by decide +kernel
theorem d13_151 : decode (xB 13) 151 = .ok (.invokevirtual 73, 3) := by decide +kernel
theorem d13_154 : decode (xB 13) 154 = .ok (.aload_n 0, 1) := by decide +kernel
theorem d13_155 : decode (xB 13) 155 = .ok (.getfield 9, 3) := by decide +kernel
theorem d13_158 : decode (xB 13) 158 = .ok (.iload_n 3, 1) := by decide +kernel
theorem d13_159 : decode (xB 13) 159 = .ok (.aload_n 0, 1) := by decide +kernel
theorem d13_160 : decode (xB 13) 160 = .ok (.iload 4, 2) := by decide +kernel
theorem d13_162 : decode (xB 13) 162 = .ok (.invokevirtual 84, 3) := by decide +kernel
theorem d13_165 : decode (xB 13) 165 = .ok (.iastore, 1) := by decide +kernel
theorem d13_166 : decode (xB 13) 166 = .ok (.aload_n 0, 1) := by decide +kernel
theorem d13_167 : decode (xB 13) 167 = .ok (.aload_n 1, 1) := by decide +kernel
theorem d13_168 : decode (xB 13) 168 = .ok (.getfield 69, 3) := by decide +kernel
theorem d13_171 : decode (xB 13) 171 = .ok (.aload_n 1, 1) := by decide +kernel
theorem d13_172 : decode (xB 13) 172 = .ok (.aload_n 2, 1) := by decide +kernel
theorem d13_173 : decode (xB 13) 173 = .ok (.iload 5, 2) := by decide +kernel
theorem d13_175 : decode (xB 13) 175 = .ok (.invokevirtual 73, 3) := by decide +kernel
theorem d13_178 : decode (xB 13) 178 = .ok (.aload_n 0, 1) := by decide +kernel
theorem d13_179 : decode (xB 13) 179 = .ok (.getfield 15, 3) := by decide +kernel
theorem d13_182 : decode (xB 13) 182 = .ok (.iload_n 3, 1) := by decide +kernel
theorem d13_183 : decode (xB 13) 183 = .ok (.aload_n 0, 1) := by decide +kernel
theorem d13_184 : decode (xB 13) 184 = .ok (.iload 5, 2) := by decide +kernel
theorem d13_186 : decode (xB 13) 186 = .ok (.invokevirtual 84, 3) := by decide +kernel
theorem d13_189 : decode (xB 13) 189 = .ok (.iastore, 1) := by decide +kernel
theorem d13_190 : decode (xB 13) 190 = .ok (.aload_n 2, 1) := by decide +kernel
theorem d13_191 : decode (xB 13) 191 = .ok (.aload_n 0, 1) := by decide +kernel
theorem d13_192 : decode (xB 13) 192 = .ok (.getfield 15, 3) := by decide +kernel
theorem d13_195 : decode (xB 13) 195 = .ok (.iload_n 3, 1) := by decide +kernel
theorem d13_196 : decode (xB 13) 196 = .ok (.iaload, 1) := by decide +kernel
theorem d13_197 : decode (xB 13) 197 = .ok (.aload_n 0, 1) := by decide +kernel
theorem d13_198 : decode (xB 13) 198 = .ok (.getfield 9, 3) := by decide +kernel
theorem d13_201 : decode (xB 13) 201 = .ok (.iload_n 3, 1) := by decide +kernel
theorem d13_202 : decode (xB 13) 202 = .ok (.iaload, 1) := by decide +kernel
theorem d13_203 : decode (xB 13) 203 = .ok (.invokevirtual 93, 3) := by decide +kernel
theorem d13_206 : decode (xB 13) 206 = .ok (.iconst 1, 1) := by decide +kernel
theorem d13_207 : decode (xB 13) 207 = .ok (.ireturn, 1) := by decide +kernel
theorem b13_0 {d : Nat} {P : xPr} {Q : xQr} {r : Nat} {mem : Nat → Nat → Int32} (hP : Cl d none 13 P Q) {t : Nat} {s : Nat} {p2 : Int32} (ht : isTown t) (hs : isState s) (hi6 : vp_in p2 4) (hi13 : vp_in p2 4)
    (k : P 23 [.ref 51, .ref t, .ref s, .int p2, .int (nI 0), .int (nI 0), .int (nI 0)] [] (0, 0) (LAY, RFu r, xu2 (xu2 mem 52 p2.toNatClampNeg (-1)) 53 p2.toNatClampNeg (-1))) : P 0 [.ref 51, .ref t, .ref s, .int p2, .null, .null, .null] [] (0, 0) (LAY, RFu r, mem) := by
  refine r_aload_n hP d13_0 rfl ?_
  refine r_getr (a := 52) hP d13_1 fr_1_9 rfl ly_51 rg_51_0 ?_
  refine r_iload_n hP d13_4 rfl ?_
  refine r_iconst (v := (-1)) hP d13_5 rfl ?_
  refine r_iastore hP d13_6 ly_52 hi6 ?_
  refine r_aload_n hP d13_7 rfl ?_
  refine r_getr (a := 53) hP d13_8 fr_1_15 rfl ly_51 rg_51_1 ?_
  refine r_iload_n hP d13_11 rfl ?_
  refine r_iconst (v := (-1)) hP d13_12 rfl ?_
  refine r_iastore hP d13_13 ly_53 hi13 ?_
  refine r_iconst (v := nI 0) hP d13_14 rfl ?_
  refine r_istore (L' := [.ref 51, .ref t, .ref s, .int p2, .int (nI 0), .null, .null]) hP d13_15 (Nat.le_of_ble_eq_true rfl) rfl ?_
  refine r_iconst (v := nI 0) hP d13_17 rfl ?_
  refine r_istore (L' := [.ref 51, .ref t, .ref s, .int p2, .int (nI 0), .int (nI 0), .null]) hP d13_18 (Nat.le_of_ble_eq_true rfl) rfl ?_
  refine r_iconst (v := nI 0) hP d13_20 rfl ?_
  refine r_istore (L' := [.ref 51, .ref t, .ref s, .int p2, .int (nI 0), .int (nI 0), .int (nI 0)]) hP d13_21 (Nat.le_of_ble_eq_true rfl) rfl ?_
  exact k
theorem b13_23 {d : Nat} {P : xPr} {Q : xQr} {r : Nat} {mem : Nat → Nat → Int32} (hP : Cl d none 13 P Q) {t : Nat} {s : Nat} {x3 : Int32} {x4 : Int32} {x5 : Int32} {x6 : Int32} (ht : isTown t) (hs : isState s)
    (kt : (mem t 1) ≤ x6 → P 130 [.ref 51, .ref t, .ref s, .int x3, .int x4, .int x5, .int x6] [] (0, 0) (LAY, RFu r, mem)) (kf : ¬ (mem t 1) ≤ x6 → P 32 [.ref 51, .ref t, .ref s, .int x3, .int x4, .int x5, .int x6] [] (0, 0) (LAY, RFu r, mem)) : P 23 [.ref 51, .ref t, .ref s, .int x3, .int x4, .int x5, .int x6] [] (0, 0) (LAY, RFu r, mem) := by
  refine r_iload hP d13_23 rfl ?_
  refine r_aload_n hP d13_25 rfl ?_
  refine r_geti hP d13_26 fr_1_63 rfl (lt_10 ht) ?_
  exact r_icmp (t := 130) hP d13_29 (by decide) kt kf
theorem b13_32 {d : Nat} {P : xPr} {Q : xQr} {r : Nat} {mem : Nat → Nat → Int32} (hP : Cl d none 13 P Q) {t : Nat} {s : Nat} {x3 : Int32} {x4 : Int32} {x5 : Int32} {x6 : Int32} (ht : isTown t) (hs : isState s) (hi40 : vp_in ((nI 0) + x6) 121)
    (kt : (mem (s + 1) ((nI 0) + x6).toNatClampNeg) = x3 → P 48 [.ref 51, .ref t, .ref s, .int x3, .int x4, .int x5, .int x6] [] (0, 0) (LAY, RFu r, mem)) (kf : ¬ (mem (s + 1) ((nI 0) + x6).toNatClampNeg) = x3 → P 45 [.ref 51, .ref t, .ref s, .int x3, .int x4, .int x5, .int x6] [] (0, 0) (LAY, RFu r, mem)) : P 32 [.ref 51, .ref t, .ref s, .int x3, .int x4, .int x5, .int x6] [] (0, 0) (LAY, RFu r, mem) := by
  refine r_aload_n hP d13_32 rfl ?_
  refine r_getr (a := (s + 1)) hP d13_33 fr_1_60 rfl (lt_8 hs) (rt_8_0 hs) ?_
  refine r_iconst (v := nI 0) hP d13_36 rfl ?_
  refine r_iload hP d13_37 rfl ?_
  refine r_iadd hP d13_39 ?_
  refine r_iaload hP d13_40 (lt_8_0 hs) hi40 ?_
  refine r_iload_n hP d13_41 rfl ?_
  exact r_icmp (t := 48) hP d13_42 (by decide) kt kf
theorem b13_45 {d : Nat} {P : xPr} {Q : xQr} {r : Nat} {mem : Nat → Nat → Int32} (hP : Cl d none 13 P Q) {t : Nat} {s : Nat} {x3 : Int32} {x4 : Int32} {x5 : Int32} {x6 : Int32} (ht : isTown t) (hs : isState s)
    (k : P 124 [.ref 51, .ref t, .ref s, .int x3, .int x4, .int x5, .int x6] [] (0, 0) (LAY, RFu r, mem)) : P 45 [.ref 51, .ref t, .ref s, .int x3, .int x4, .int x5, .int x6] [] (0, 0) (LAY, RFu r, mem) := by
  refine r_goto (t := 124) hP d13_45 (by decide) ?_
  exact k
theorem b13_48 {d : Nat} {P : xPr} {Q : xQr} {r : Nat} {mem : Nat → Nat → Int32} (hP : Cl d none 13 P Q) {t : Nat} {s : Nat} {x3 : Int32} {x4 : Int32} {x5 : Int32} {x6 : Int32} (ht : isTown t) (hs : isState s)
    (k : xCall d 61 [.ref s, .int x6] (LAY, RFu r, mem) (Bk P 51 [.ref 51, .ref t, .ref s, .int x3, .int x4, .int x5, .int x6] [] (0, 0))) : P 48 [.ref 51, .ref t, .ref s, .int x3, .int x4, .int x5, .int x6] [] (0, 0) (LAY, RFu r, mem) := by
  refine r_aload_n hP d13_48 rfl ?_
  refine r_iload hP d13_49 rfl ?_
  exact r_callv (As := [.int x6]) (S := []) hP d13_51 cr_1_87 (by decide +kernel) rfl (by simp [Value.category]) rfl (lt_8 hs) (by simp [Value.category]) ⟨Nat.zero_le _, Nat.zero_le _⟩ k
theorem b13_54 {d : Nat} {P : xPr} {Q : xQr} {r : Nat} {mem : Nat → Nat → Int32} (hP : Cl d none 13 P Q) {t : Nat} {s : Nat} {x3 : Int32} {x4 : Int32} {x5 : Int32} {x6 : Int32} {y0 : Int32} (ht : isTown t) (hs : isState s)
    (kt : ¬ y0 = (nI 1) → P 81 [.ref 51, .ref t, .ref s, .int x3, .int x4, .int x5, .int x6] [] (0, 0) (LAY, RFu r, mem)) (kf : y0 = (nI 1) → P 58 [.ref 51, .ref t, .ref s, .int x3, .int x4, .int x5, .int x6] [] (0, 0) (LAY, RFu r, mem)) : P 54 [.ref 51, .ref t, .ref s, .int x3, .int x4, .int x5, .int x6] [.int y0] (0, 0) (LAY, RFu r, mem) := by
  refine r_iconst (v := nI 1) hP d13_54 rfl ?_
  exact r_icmp (t := 81) hP d13_55 (by decide) kt (fun q => kf (Decidable.of_not_not q))
theorem b13_58 {d : Nat} {P : xPr} {Q : xQr} {r : Nat} {mem : Nat → Nat → Int32} (hP : Cl d none 13 P Q) {t : Nat} {s : Nat} {x3 : Int32} {x4 : Int32} {x5 : Int32} {x6 : Int32} (ht : isTown t) (hs : isState s) (hi67 : vp_in ((nI 24) + x6) 121)
    (kt : (mem (s + 1) ((nI 24) + x6).toNatClampNeg) < (nI 1) → P 81 [.ref 51, .ref t, .ref s, .int x3, .int x4, .int x5, .int x6] [] (0, 0) (LAY, RFu r, mem)) (kf : ¬ (mem (s + 1) ((nI 24) + x6).toNatClampNeg) < (nI 1) → P 72 [.ref 51, .ref t, .ref s, .int x3, .int x4, .int x5, .int x6] [] (0, 0) (LAY, RFu r, mem)) : P 58 [.ref 51, .ref t, .ref s, .int x3, .int x4, .int x5, .int x6] [] (0, 0) (LAY, RFu r, mem) := by
  refine r_aload_n hP d13_58 rfl ?_
  refine r_getr (a := (s + 1)) hP d13_59 fr_1_60 rfl (lt_8 hs) (rt_8_0 hs) ?_
  refine r_bipush (v := nI 24) hP d13_62 rfl ?_
  refine r_iload hP d13_64 rfl ?_
  refine r_iadd hP d13_66 ?_
  refine r_iaload hP d13_67 (lt_8_0 hs) hi67 ?_
  refine r_iconst (v := nI 1) hP d13_68 rfl ?_
  exact r_icmp (t := 81) hP d13_69 (by decide) kt kf
theorem b13_72 {d : Nat} {P : xPr} {Q : xQr} {r : Nat} {mem : Nat → Nat → Int32} (hP : Cl d none 13 P Q) {t : Nat} {s : Nat} {x3 : Int32} {x4 : Int32} {x5 : Int32} {x6 : Int32} (ht : isTown t) (hs : isState s)
    (k : P 81 [.ref 51, .ref t, .ref s, .int x3, .int (x4 ||| ((nI 1) <<< (x6 &&& 31))), .int x5, .int x6] [] (0, 0) (LAY, RFu r, mem)) : P 72 [.ref 51, .ref t, .ref s, .int x3, .int x4, .int x5, .int x6] [] (0, 0) (LAY, RFu r, mem) := by
  refine r_iload hP d13_72 rfl ?_
  refine r_iconst (v := nI 1) hP d13_74 rfl ?_
  refine r_iload hP d13_75 rfl ?_
  refine r_ishl hP d13_77 ?_
  refine r_ior hP d13_78 ?_
  refine r_istore (L' := [.ref 51, .ref t, .ref s, .int x3, .int (x4 ||| ((nI 1) <<< (x6 &&& 31))), .int x5, .int x6]) hP d13_79 (Nat.le_of_ble_eq_true rfl) rfl ?_
  exact k
theorem b13_81 {d : Nat} {P : xPr} {Q : xQr} {r : Nat} {mem : Nat → Nat → Int32} (hP : Cl d none 13 P Q) {t : Nat} {s : Nat} {x3 : Int32} {x4 : Int32} {x5 : Int32} {x6 : Int32} (ht : isTown t) (hs : isState s)
    (k : xCall d 61 [.ref s, .int x6] (LAY, RFu r, mem) (Bk P 84 [.ref 51, .ref t, .ref s, .int x3, .int x4, .int x5, .int x6] [] (0, 0))) : P 81 [.ref 51, .ref t, .ref s, .int x3, .int x4, .int x5, .int x6] [] (0, 0) (LAY, RFu r, mem) := by
  refine r_aload_n hP d13_81 rfl ?_
  refine r_iload hP d13_82 rfl ?_
  exact r_callv (As := [.int x6]) (S := []) hP d13_84 cr_1_87 (by decide +kernel) rfl (by simp [Value.category]) rfl (lt_8 hs) (by simp [Value.category]) ⟨Nat.zero_le _, Nat.zero_le _⟩ k
theorem b13_87 {d : Nat} {P : xPr} {Q : xQr} {r : Nat} {mem : Nat → Nat → Int32} (hP : Cl d none 13 P Q) {t : Nat} {s : Nat} {x3 : Int32} {x4 : Int32} {x5 : Int32} {x6 : Int32} {y0 : Int32} (ht : isTown t) (hs : isState s)
    (kt : ¬ y0 = (nI 2) → P 124 [.ref 51, .ref t, .ref s, .int x3, .int x4, .int x5, .int x6] [] (0, 0) (LAY, RFu r, mem)) (kf : y0 = (nI 2) → P 91 [.ref 51, .ref t, .ref s, .int x3, .int x4, .int x5, .int x6] [] (0, 0) (LAY, RFu r, mem)) : P 87 [.ref 51, .ref t, .ref s, .int x3, .int x4, .int x5, .int x6] [.int y0] (0, 0) (LAY, RFu r, mem) := by
  refine r_iconst (v := nI 2) hP d13_87 rfl ?_
  exact r_icmp (t := 124) hP d13_88 (by decide) kt (fun q => kf (Decidable.of_not_not q))
theorem b13_91 {d : Nat} {P : xPr} {Q : xQr} {r : Nat} {mem : Nat → Nat → Int32} (hP : Cl d none 13 P Q) {t : Nat} {s : Nat} {x3 : Int32} {x4 : Int32} {x5 : Int32} {x6 : Int32} (ht : isTown t) (hs : isState s) (hi100 : vp_in ((nI 16) + x6) 121)
    (kt : (mem (s + 1) ((nI 16) + x6).toNatClampNeg) < (nI 1) → P 124 [.ref 51, .ref t, .ref s, .int x3, .int x4, .int x5, .int x6] [] (0, 0) (LAY, RFu r, mem)) (kf : ¬ (mem (s + 1) ((nI 16) + x6).toNatClampNeg) < (nI 1) → P 105 [.ref 51, .ref t, .ref s, .int x3, .int x4, .int x5, .int x6] [] (0, 0) (LAY, RFu r, mem)) : P 91 [.ref 51, .ref t, .ref s, .int x3, .int x4, .int x5, .int x6] [] (0, 0) (LAY, RFu r, mem) := by
  refine r_aload_n hP d13_91 rfl ?_
  refine r_getr (a := (s + 1)) hP d13_92 fr_1_60 rfl (lt_8 hs) (rt_8_0 hs) ?_
  refine r_bipush (v := nI 16) hP d13_95 rfl ?_
  refine r_iload hP d13_97 rfl ?_
  refine r_iadd hP d13_99 ?_
  refine r_iaload hP d13_100 (lt_8_0 hs) hi100 ?_
  refine r_iconst (v := nI 1) hP d13_101 rfl ?_
  exact r_icmp (t := 124) hP d13_102 (by decide) kt kf
theorem b13_105 {d : Nat} {P : xPr} {Q : xQr} {r : Nat} {mem : Nat → Nat → Int32} (hP : Cl d none 13 P Q) {t : Nat} {s : Nat} {x3 : Int32} {x4 : Int32} {x5 : Int32} {x6 : Int32} (ht : isTown t) (hs : isState s) (hi111 : vp_in x6 8)
    (kt : ¬ (mem (t + 3) x6.toNatClampNeg) = 0 → P 124 [.ref 51, .ref t, .ref s, .int x3, .int x4, .int x5, .int x6] [] (0, 0) (LAY, RFu r, mem)) (kf : (mem (t + 3) x6.toNatClampNeg) = 0 → P 115 [.ref 51, .ref t, .ref s, .int x3, .int x4, .int x5, .int x6] [] (0, 0) (LAY, RFu r, mem)) : P 105 [.ref 51, .ref t, .ref s, .int x3, .int x4, .int x5, .int x6] [] (0, 0) (LAY, RFu r, mem) := by
  refine r_aload_n hP d13_105 rfl ?_
  refine r_getr (a := (t + 3)) hP d13_106 fr_1_90 rfl (lt_10 ht) (rt_10_4 ht) ?_
  refine r_iload hP d13_109 rfl ?_
  refine r_iaload hP d13_111 (lt_10_4 ht) hi111 ?_
  exact r_if (t := 124) hP d13_112 (by decide) kt (fun q => kf (Decidable.of_not_not q))
theorem b13_115 {d : Nat} {P : xPr} {Q : xQr} {r : Nat} {mem : Nat → Nat → Int32} (hP : Cl d none 13 P Q) {t : Nat} {s : Nat} {x3 : Int32} {x4 : Int32} {x5 : Int32} {x6 : Int32} (ht : isTown t) (hs : isState s)
    (k : P 124 [.ref 51, .ref t, .ref s, .int x3, .int x4, .int (x5 ||| ((nI 1) <<< (x6 &&& 31))), .int x6] [] (0, 0) (LAY, RFu r, mem)) : P 115 [.ref 51, .ref t, .ref s, .int x3, .int x4, .int x5, .int x6] [] (0, 0) (LAY, RFu r, mem) := by
  refine r_iload hP d13_115 rfl ?_
  refine r_iconst (v := nI 1) hP d13_117 rfl ?_
  refine r_iload hP d13_118 rfl ?_
  refine r_ishl hP d13_120 ?_
  refine r_ior hP d13_121 ?_
  refine r_istore (L' := [.ref 51, .ref t, .ref s, .int x3, .int x4, .int (x5 ||| ((nI 1) <<< (x6 &&& 31))), .int x6]) hP d13_122 (Nat.le_of_ble_eq_true rfl) rfl ?_
  exact k
theorem b13_124 {d : Nat} {P : xPr} {Q : xQr} {r : Nat} {mem : Nat → Nat → Int32} (hP : Cl d none 13 P Q) {t : Nat} {s : Nat} {x3 : Int32} {x4 : Int32} {x5 : Int32} {x6 : Int32} (ht : isTown t) (hs : isState s)
    (k : P 23 [.ref 51, .ref t, .ref s, .int x3, .int x4, .int x5, .int (x6 + nI 1)] [] (0, 0) (LAY, RFu r, mem)) : P 124 [.ref 51, .ref t, .ref s, .int x3, .int x4, .int x5, .int x6] [] (0, 0) (LAY, RFu r, mem) := by
  refine r_iinc (v := nI 1) (L' := [.ref 51, .ref t, .ref s, .int x3, .int x4, .int x5, .int (x6 + nI 1)]) hP d13_124 rfl rfl rfl ?_
  refine r_goto (t := 23) hP d13_127 (by decide) ?_
  exact k
theorem b13_130 {d : Nat} {P : xPr} {Q : xQr} {r : Nat} {mem : Nat → Nat → Int32} (hP : Cl d none 13 P Q) {t : Nat} {s : Nat} {x3 : Int32} {x4 : Int32} {x5 : Int32} {v6 : Value} (ht : isTown t) (hs : isState s)
    (kt : x4 = 0 → P 140 [.ref 51, .ref t, .ref s, .int x3, .int x4, .int x5, v6] [] (0, 0) (LAY, RFu r, mem)) (kf : ¬ x4 = 0 → P 135 [.ref 51, .ref t, .ref s, .int x3, .int x4, .int x5, v6] [] (0, 0) (LAY, RFu r, mem)) : P 130 [.ref 51, .ref t, .ref s, .int x3, .int x4, .int x5, v6] [] (0, 0) (LAY, RFu r, mem) := by
  refine r_iload hP d13_130 rfl ?_
  exact r_if (t := 140) hP d13_132 (by decide) kt kf
theorem b13_135 {d : Nat} {P : xPr} {Q : xQr} {r : Nat} {mem : Nat → Nat → Int32} (hP : Cl d none 13 P Q) {t : Nat} {s : Nat} {x3 : Int32} {x4 : Int32} {x5 : Int32} {v6 : Value} (ht : isTown t) (hs : isState s)
    (kt : ¬ x5 = 0 → P 142 [.ref 51, .ref t, .ref s, .int x3, .int x4, .int x5, v6] [] (0, 0) (LAY, RFu r, mem)) (kf : x5 = 0 → P 140 [.ref 51, .ref t, .ref s, .int x3, .int x4, .int x5, v6] [] (0, 0) (LAY, RFu r, mem)) : P 135 [.ref 51, .ref t, .ref s, .int x3, .int x4, .int x5, v6] [] (0, 0) (LAY, RFu r, mem) := by
  refine r_iload hP d13_135 rfl ?_
  exact r_if (t := 142) hP d13_137 (by decide) kt (fun q => kf (Decidable.of_not_not q))
theorem b13_140 {d : Nat} {P : xPr} {Q : xQr} {r : Nat} {mem : Nat → Nat → Int32} (hP : Cl d none 13 P Q) {t : Nat} {s : Nat} {v0 : Value} {v1 : Value} {v2 : Value} {v3 : Value} {v4 : Value} {v5 : Value} {v6 : Value} (ht : isTown t) (hs : isState s) (hzr : nI 0 = 0 ∨ nI 0 = 1)
    (k : Q (some (.int (nI 0))) (LAY, RFu r, mem)) : P 140 [v0, v1, v2, v3, v4, v5, v6] [] (0, 0) (LAY, RFu r, mem) := by
  refine r_iconst (v := nI 0) hP d13_140 rfl ?_
  exact r_zret hP d13_141 rfl hzr k
theorem b13_142 {d : Nat} {P : xPr} {Q : xQr} {r : Nat} {mem : Nat → Nat → Int32} (hP : Cl d none 13 P Q) {t : Nat} {s : Nat} {x3 : Int32} {x4 : Int32} {x5 : Int32} {v6 : Value} (ht : isTown t) (hs : isState s)
    (k : xCall d 15 [.ref 51, .ref (t + 15), .ref t, .ref s, .int x4] (LAY, RFu r, mem) (Bk P 151 [.ref 51, .ref t, .ref s, .int x3, .int x4, .int x5, v6] [] (0, 0))) : P 142 [.ref 51, .ref t, .ref s, .int x3, .int x4, .int x5, v6] [] (0, 0) (LAY, RFu r, mem) := by
  refine r_aload_n hP d13_142 rfl ?_
  refine r_aload_n hP d13_143 rfl ?_
  refine r_getr (a := (t + 15)) hP d13_144 fr_1_81 rfl (lt_10 ht) (rt_10_8 ht) ?_
  refine r_aload_n hP d13_147 rfl ?_
  refine r_aload_n hP d13_148 rfl ?_
  refine r_iload hP d13_149 rfl ?_
  exact r_callv (As := [.ref (t + 15), .ref t, .ref s, .int x4]) (S := []) hP d13_151 cr_1_73 (by decide +kernel) rfl (by simp [Value.category]) rfl ly_51 (by simp [Value.category]) ⟨Nat.zero_le _, Nat.zero_le _⟩ k
theorem b13_154 {d : Nat} {P : xPr} {Q : xQr} {r : Nat} {mem : Nat → Nat → Int32} (hP : Cl d none 13 P Q) {t : Nat} {s : Nat} {x3 : Int32} {x4 : Int32} {x5 : Int32} {v6 : Value} (ht : isTown t) (hs : isState s)
    (k : xCall d 16 [.ref 51, .int x4] (LAY, RFu r, mem) (Bk P 162 [.ref 51, .ref t, .ref s, .int x3, .int x4, .int x5, v6] [.int x3, .ref 52] (0, 0))) : P 154 [.ref 51, .ref t, .ref s, .int x3, .int x4, .int x5, v6] [] (0, 0) (LAY, RFu r, mem) := by
  refine r_aload_n hP d13_154 rfl ?_
  refine r_getr (a := 52) hP d13_155 fr_1_9 rfl ly_51 rg_51_0 ?_
  refine r_iload_n hP d13_158 rfl ?_
  refine r_aload_n hP d13_159 rfl ?_
  refine r_iload hP d13_160 rfl ?_
  exact r_callv (As := [.int x4]) (S := [.int x3, .ref 52]) hP d13_162 cr_1_84 (by decide +kernel) rfl (by simp [Value.category]) rfl ly_51 (by simp [Value.category]) ⟨Nat.zero_le _, Nat.zero_le _⟩ k
theorem b13_165 {d : Nat} {P : xPr} {Q : xQr} {r : Nat} {mem : Nat → Nat → Int32} (hP : Cl d none 13 P Q) {t : Nat} {s : Nat} {x3 : Int32} {v4 : Value} {x5 : Int32} {v6 : Value} {y1 : Int32} {y2 : Int32} (ht : isTown t) (hs : isState s) (hi165 : vp_in y1 4)
    (k : xCall d 15 [.ref 51, .ref (t + 18), .ref t, .ref s, .int x5] (LAY, RFu r, xu2 mem 52 y1.toNatClampNeg y2) (Bk P 175 [.ref 51, .ref t, .ref s, .int x3, v4, .int x5, v6] [] (0, 0))) : P 165 [.ref 51, .ref t, .ref s, .int x3, v4, .int x5, v6] [.int y2, .int y1, .ref 52] (0, 0) (LAY, RFu r, mem) := by
  refine r_iastore hP d13_165 ly_52 hi165 ?_
  refine r_aload_n hP d13_166 rfl ?_
  refine r_aload_n hP d13_167 rfl ?_
  refine r_getr (a := (t + 18)) hP d13_168 fr_1_69 rfl (lt_10 ht) (rt_10_9 ht) ?_
  refine r_aload_n hP d13_171 rfl ?_
  refine r_aload_n hP d13_172 rfl ?_
  refine r_iload hP d13_173 rfl ?_
  exact r_callv (As := [.ref (t + 18), .ref t, .ref s, .int x5]) (S := []) hP d13_175 cr_1_73 (by decide +kernel) rfl (by simp [Value.category]) rfl ly_51 (by simp [Value.category]) ⟨Nat.zero_le _, Nat.zero_le _⟩ k
theorem b13_178 {d : Nat} {P : xPr} {Q : xQr} {r : Nat} {mem : Nat → Nat → Int32} (hP : Cl d none 13 P Q) {t : Nat} {s : Nat} {v1 : Value} {x3 : Int32} {v4 : Value} {x5 : Int32} {v6 : Value} (ht : isTown t) (hs : isState s)
    (k : xCall d 16 [.ref 51, .int x5] (LAY, RFu r, mem) (Bk P 186 [.ref 51, v1, .ref s, .int x3, v4, .int x5, v6] [.int x3, .ref 53] (0, 0))) : P 178 [.ref 51, v1, .ref s, .int x3, v4, .int x5, v6] [] (0, 0) (LAY, RFu r, mem) := by
  refine r_aload_n hP d13_178 rfl ?_
  refine r_getr (a := 53) hP d13_179 fr_1_15 rfl ly_51 rg_51_1 ?_
  refine r_iload_n hP d13_182 rfl ?_
  refine r_aload_n hP d13_183 rfl ?_
  refine r_iload hP d13_184 rfl ?_
  exact r_callv (As := [.int x5]) (S := [.int x3, .ref 53]) hP d13_186 cr_1_84 (by decide +kernel) rfl (by simp [Value.category]) rfl ly_51 (by simp [Value.category]) ⟨Nat.zero_le _, Nat.zero_le _⟩ k
theorem b13_189 {d : Nat} {P : xPr} {Q : xQr} {r : Nat} {mem : Nat → Nat → Int32} (hP : Cl d none 13 P Q) {t : Nat} {s : Nat} {v1 : Value} {x3 : Int32} {v4 : Value} {v5 : Value} {v6 : Value} {y1 : Int32} {y2 : Int32} (ht : isTown t) (hs : isState s) (hi189 : vp_in y1 4) (hi196 : vp_in x3 4) (hi202 : vp_in x3 4)
    (k : xCall d 69 [.ref s, .int ((xu2 mem 53 y1.toNatClampNeg y2) 53 x3.toNatClampNeg), .int ((xu2 mem 53 y1.toNatClampNeg y2) 52 x3.toNatClampNeg)] (LAY, RFu r, xu2 mem 53 y1.toNatClampNeg y2) (Bk P 203 [.ref 51, v1, .ref s, .int x3, v4, v5, v6] [] (0, 0))) : P 189 [.ref 51, v1, .ref s, .int x3, v4, v5, v6] [.int y2, .int y1, .ref 53] (0, 0) (LAY, RFu r, mem) := by
  refine r_iastore hP d13_189 ly_53 hi189 ?_
  refine r_aload_n hP d13_190 rfl ?_
  refine r_aload_n hP d13_191 rfl ?_
  refine r_getr (a := 53) hP d13_192 fr_1_15 rfl ly_51 rg_51_1 ?_
  refine r_iload_n hP d13_195 rfl ?_
  refine r_iaload hP d13_196 ly_53 hi196 ?_
  refine r_aload_n hP d13_197 rfl ?_
  refine r_getr (a := 52) hP d13_198 fr_1_9 rfl ly_51 rg_51_0 ?_
  refine r_iload_n hP d13_201 rfl ?_
  refine r_iaload hP d13_202 ly_52 hi202 ?_
  exact r_callv (As := [.int ((xu2 mem 53 y1.toNatClampNeg y2) 53 x3.toNatClampNeg), .int ((xu2 mem 53 y1.toNatClampNeg y2) 52 x3.toNatClampNeg)]) (S := []) hP d13_203 cr_1_93 (by decide +kernel) rfl (by simp [Value.category]) rfl (lt_8 hs) (by simp [Value.category]) ⟨Nat.zero_le _, Nat.zero_le _⟩ k
theorem b13_206 {d : Nat} {P : xPr} {Q : xQr} {r : Nat} {mem : Nat → Nat → Int32} (hP : Cl d none 13 P Q) {t : Nat} {s : Nat} {v0 : Value} {v1 : Value} {v2 : Value} {v3 : Value} {v4 : Value} {v5 : Value} {v6 : Value} (ht : isTown t) (hs : isState s) (hzr : nI 1 = 0 ∨ nI 1 = 1)
    (k : Q (some (.int (nI 1))) (LAY, RFu r, mem)) : P 206 [v0, v1, v2, v3, v4, v5, v6] [] (0, 0) (LAY, RFu r, mem) := by
  refine r_iconst (v := nI 1) hP d13_206 rfl ?_
  exact r_zret hP d13_207 rfl hzr k
theorem d14_0 : decode (xB 14) 0 = .ok (.aload_n 2, 1) := by decide +kernel
theorem d14_1 : decode (xB 14) 1 = .ok (.getfield 60, 3) := by decide +kernel
theorem d14_4 : decode (xB 14) 4 = .ok (.astore_n 3, 1) := by decide +kernel
theorem d14_5 : decode (xB 14) 5 = .ok (.iconst 0, 1) := by decide +kernel
theorem d14_6 : decode (xB 14) 6 = .ok (.istore 4, 2) := by decide +kernel
theorem d14_8 : decode (xB 14) 8 = .ok (.iload 4, 2) := by decide +kernel
theorem d14_10 : decode (xB 14) 10 = .ok (.aload_n 1, 1) := by decide +kernel
theorem d14_11 : decode (xB 14) 11 = .ok (.getfield 63, 3) := by decide +kernel
theorem d14_14 : decode (xB 14) 14 = .ok (.if_icmp .ge 135, 3) := by decide +kernel
theorem d14_17 : decode (xB 14) 17 = .ok (.aload_n 3, 1) := by decide +kernel
theorem d14_18 : decode (xB 14) 18 = .ok (.bipush 8, 2) := by decide +kernel
theorem d14_20 : decode (xB 14) 20 = .ok (.iload 4, 2) := by decide +kernel
theorem d14_22 : decode (xB 14) 22 = .ok (.iadd, 1) := by decide +kernel
theorem d14_23 : decode (xB 14) 23 = .ok (.iaload, 1) := by decide +kernel
theorem d14_24 : decode (xB 14) 24 = .ok (.iconst 2, 1) := by decide +kernel
theorem d14_25 : decode (xB 14) 25 = .ok (.if_icmp .ne 7, 3) := by decide +kernel
theorem d14_28 : decode (xB 14) 28 = .ok (.iconst 1, 1) := by decide +kernel
theorem d14_29 : decode (xB 14) 29 = .ok (.goto 4, 3) := by decide +kernel
theorem d14_32 : decode (xB 14) 32 = .ok (.iconst 0, 1) := by decide +kernel
theorem d14_33 : decode (xB 14) 33 = .ok (.istore 5, 2) := by decide +kernel
theorem d14_35 : decode (xB 14) 35 = .ok (.aload_n 3, 1) := by decide +kernel
theorem d14_36 : decode (xB 14) 36 = .ok (.bipush 8, 2) := by decide +kernel
theorem d14_38 : decode (xB 14) 38 = .ok (.iload 4, 2) := by decide +kernel
theorem d14_40 : decode (xB 14) 40 = .ok (.iadd, 1) := by decide +kernel
theorem d14_41 : decode (xB 14) 41 = .ok (.iaload, 1) := by decide +kernel
theorem d14_42 : decode (xB 14) 42 = .ok (.iconst 1, 1) := by decide +kernel
theorem d14_43 : decode (xB 14) 43 = .ok (.if_icmp .ne 7, 3) := by decide +kernel
theorem d14_46 : decode (xB 14) 46 = .ok (.iconst 1, 1) := by decide +kernel
theorem d14_47 : decode (xB 14) 47 = .ok (.goto 4, 3) := by decide +kernel
theorem d14_50 : decode (xB 14) 50 = .ok (.iconst 0, 1) := by decide +kernel
theorem d14_51 : decode (xB 14) 51 = .ok (.istore 6, 2) := by decide +kernel
theorem d14_53 : decode (xB 14) 53 = .ok (.aload_n 3, 1) := by decide +kernel
theorem d14_54 : decode (xB 14) 54 = .ok (.bipush 16, 2) := by decide +kernel
theorem d14_56 : decode (xB 14) 56 = .ok (.iload 4, 2) := by decide +kernel
theorem d14_58 : decode (xB 14) 58 = .ok (.iadd, 1) := by decide +kernel
theorem d14_59 : decode (xB 14) 59 = .ok (.iload 5, 2) := by decide +kernel
theorem d14_61 : decode (xB 14) 61 = .ok (.ifCond .eq 15, 3) := by decide +kernel
theorem d14_64 : decode (xB 14) 64 = .ok (.aload_n 3, 1) := by decide +kernel
theorem d14_65 : decode (xB 14) 65 = .ok (.bipush 16, 2) := by decide +kernel
theorem d14_67 : decode (xB 14) 67 = .ok (.iload 4, 2) := by decide +kernel
theorem d14_69 : decode (xB 14) 69 = .ok (.iadd, 1) := by decide +kernel
theorem d14_70 : decode (xB 14) 70 = .ok (.iaload, 1) := by decide +kernel
theorem d14_71 : decode (xB 14) 71 = .ok (.iconst 1, 1) := by decide +kernel
theorem d14_72 : decode (xB 14) 72 = .ok (.iadd, 1) := by decide +kernel
theorem d14_73 : decode (xB 14) 73 = .ok (.goto 4, 3) := by decide +kernel
theorem d14_76 : decode (xB 14) 76 = .ok (.iconst 0, 1) := by decide +kernel
theorem d14_77 : decode (xB 14) 77 = .ok (.iastore, 1) := by decide +kernel
theorem d14_78 : decode (xB 14) 78 = .ok (.aload_n 3, 1) := by decide +kernel
theorem d14_79 : decode (xB 14) 79 = .ok (.bipush 24, 2) := by decide +kernel
theorem d14_81 : decode (xB 14) 81 = .ok (.iload 4, 2) := by decide +kernel
theorem d14_83 : decode (xB 14) 83 = .ok (.iadd, 1) := by decide +kernel
theorem d14_84 : decode (xB 14) 84 = .ok (.iload 6, 2) := by decide +kernel
theorem d14_86 : decode (xB 14) 86 = .ok (.ifCond .eq 15, 3) := by decide +kernel
theorem d14_89 : decode (xB 14) 89 = .ok (.aload_n 3, 1) := by decide +kernel
theorem d14_90 : decode (xB 14) 90 = .ok (.bipush 24, 2) := by decide +kernel
theorem d14_92 : decode (xB 14) 92 = .ok (.iload 4, 2) := by decide +kernel
theorem d14_94 : decode (xB 14) 94 = .ok (.iadd, 1) := by decide +kernel
theorem d14_95 : decode (xB 14) 95 = .ok (.iaload, 1) := by decide +kernel
theorem d14_96 : decode (xB 14) 96 = .ok (.iconst 1, 1) := by decide +kernel
theorem d14_97 : decode (xB 14) 97 = .ok (.iadd, 1) := by decide +kernel
theorem d14_98 : decode (xB 14) 98 = .ok (.goto 4, 3) := by decide +kernel
theorem d14_101 : decode (xB 14) 101 = .ok (.iconst 0, 1) := by decide +kernel
theorem d14_102 : decode (xB 14) 102 = .ok (.iastore, 1) := by decide +kernel
theorem d14_103 : decode (xB 14) 103 = .ok (.aload_n 3, 1) := by decide +kernel
theorem d14_104 : decode (xB 14) 104 = .ok (.bipush 32, 2) := by decide +kernel
theorem d14_106 : decode (xB 14) 106 = .ok (.iload 4, 2) := by decide +kernel
theorem d14_108 : decode (xB 14) 108 = .ok (.iadd, 1) := by decide +kernel
theorem d14_109 : decode (xB 14) 109 = .ok (.dup2, 1) := by decide +kernel
theorem d14_110 : decode (xB 14) 110 = .ok (.iaload, 1) := by decide +kernel
theorem d14_111 : decode (xB 14) 111 = .ok (.iload 5, 2) := by decide +kernel
theorem d14_113 : decode (xB 14) 113 = .ok (.ifCond .eq 7, 3) := by decide +kernel
theorem d14_116 : decode (xB 14) 116 = .ok (.iconst 1, 1) := by decide +kernel
theorem d14_117 : decode (xB 14) 117 = .ok (.goto 4, 3) := by decide +kernel
theorem d14_120 : decode (xB 14) 120 = .ok (.iconst 0, 1) := by decide +kernel
theorem d14_121 : decode (xB 14) 121 = .ok (.iadd, 1) := by decide +kernel
theorem d14_122 : decode (xB 14) 122 = .ok (.iastore, 1) := by decide +kernel
theorem d14_123 : decode (xB 14) 123 = .ok (.aload_n 3, 1) := by decide +kernel
theorem d14_124 : decode (xB 14) 124 = .ok (.bipush 40, 2) := by decide +kernel
theorem d14_126 : decode (xB 14) 126 = .ok (.iload 4, 2) := by decide +kernel
theorem d14_128 : decode (xB 14) 128 = .ok (.iadd, 1) := by decide +kernel
theorem d14_129 : decode (xB 14) 129 = .ok (.dup2, 1) := by decide +kernel
theorem d14_130 : decode (xB 14) 130 = .ok (.iaload, 1) := by decide +kernel
theorem d14_131 : decode (xB 14) 131 = .ok (.iload 6, 2) := by decide +kernel
theorem d14_133 : decode (xB 14) 133 = .ok (.ifCond .eq 7, 3) := by decide +kernel
theorem d14_136 : decode (xB 14) 136 = .ok (.iconst 1, 1) := by decide +kernel
theorem d14_137 : decode (xB 14) 137 = .ok (.goto 4, 3) := by decide +kernel
theorem d14_140 : decode (xB 14) 140 = .ok (.iconst 0, 1) := by decide +kernel
theorem d14_141 : decode (xB 14) 141 = .ok (.iadd, 1) := by decide +kernel
theorem d14_142 : decode (xB 14) 142 = .ok (.iastore, 1) := by decide +kernel
theorem d14_143 : decode (xB 14) 143 = .ok (.iinc 4 1, 3) := by decide +kernel
theorem d14_146 : decode (xB 14) 146 = .ok (.goto (-138), 3) := by decide +kernel
theorem d14_149 : decode (xB 14) 149 = .ok (.aload_n 3, 1) := by decide +kernel
theorem d14_150 : decode (xB 14) 150 = .ok (.bipush 120, 2) := by decide +kernel
theorem d14_152 : decode (xB 14) 152 = .ok (.dup2, 1) := by decide +kernel
theorem d14_153 : decode (xB 14) 153 = .ok (.iaload, 1) := by decide +kernel
theorem d14_154 : decode (xB 14) 154 = .ok (.iconst 1, 1) := by decide +kernel
theorem d14_155 : decode (xB 14) 155 = .ok (.iadd, 1) := by decide +kernel
theorem d14_156 : decode (xB 14) 156 = .ok (.iastore, 1) := by decide +kernel
theorem d14_157 : decode (xB 14) 157 = .ok (.return_, 1) := by decide +kernel
theorem b14_0 {d : Nat} {P : xPr} {Q : xQr} {r : Nat} {mem : Nat → Nat → Int32} (hP : Cl d none 14 P Q) {t : Nat} {s : Nat} (ht : isTown t) (hs : isState s)
    (k : P 8 [.ref 51, .ref t, .ref s, .ref (s + 1), .int (nI 0), .null, .null] [] (0, 0) (LAY, RFu r, mem)) : P 0 [.ref 51, .ref t, .ref s, .null, .null, .null, .null] [] (0, 0) (LAY, RFu r, mem) := by
  refine r_aload_n hP d14_0 rfl ?_
  refine r_getr (a := (s + 1)) hP d14_1 fr_1_60 rfl (lt_8 hs) (rt_8_0 hs) ?_
  refine r_astore_n (L' := [.ref 51, .ref t, .ref s, .ref (s + 1), .null, .null, .null]) hP d14_4 (Nat.le_of_ble_eq_true rfl) rfl ?_
  refine r_iconst (v := nI 0) hP d14_5 rfl ?_
  refine r_istore (L' := [.ref 51, .ref t, .ref s, .ref (s + 1), .int (nI 0), .null, .null]) hP d14_6 (Nat.le_of_ble_eq_true rfl) rfl ?_
  exact k
theorem b14_8 {d : Nat} {P : xPr} {Q : xQr} {r : Nat} {mem : Nat → Nat → Int32} (hP : Cl d none 14 P Q) {t : Nat} {s : Nat} {v0 : Value} {v2 : Value} {x4 : Int32} {v5 : Value} {v6 : Value} (ht : isTown t) (hs : isState s)
    (kt : (mem t 1) ≤ x4 → P 149 [v0, .ref t, v2, .ref (s + 1), .int x4, v5, v6] [] (0, 0) (LAY, RFu r, mem)) (kf : ¬ (mem t 1) ≤ x4 → P 17 [v0, .ref t, v2, .ref (s + 1), .int x4, v5, v6] [] (0, 0) (LAY, RFu r, mem)) : P 8 [v0, .ref t, v2, .ref (s + 1), .int x4, v5, v6] [] (0, 0) (LAY, RFu r, mem) := by
  refine r_iload hP d14_8 rfl ?_
  refine r_aload_n hP d14_10 rfl ?_
  refine r_geti hP d14_11 fr_1_63 rfl (lt_10 ht) ?_
  exact r_icmp (t := 149) hP d14_14 (by decide) kt kf
theorem b14_17 {d : Nat} {P : xPr} {Q : xQr} {r : Nat} {mem : Nat → Nat → Int32} (hP : Cl d none 14 P Q) {t : Nat} {s : Nat} {v0 : Value} {v2 : Value} {x4 : Int32} {v5 : Value} {v6 : Value} (ht : isTown t) (hs : isState s) (hi23 : vp_in ((nI 8) + x4) 121)
    (kt : ¬ (mem (s + 1) ((nI 8) + x4).toNatClampNeg) = (nI 2) → P 32 [v0, .ref t, v2, .ref (s + 1), .int x4, v5, v6] [] (0, 0) (LAY, RFu r, mem)) (kf : (mem (s + 1) ((nI 8) + x4).toNatClampNeg) = (nI 2) → P 28 [v0, .ref t, v2, .ref (s + 1), .int x4, v5, v6] [] (0, 0) (LAY, RFu r, mem)) : P 17 [v0, .ref t, v2, .ref (s + 1), .int x4, v5, v6] [] (0, 0) (LAY, RFu r, mem) := by
  refine r_aload_n hP d14_17 rfl ?_
  refine r_bipush (v := nI 8) hP d14_18 rfl ?_
  refine r_iload hP d14_20 rfl ?_
  refine r_iadd hP d14_22 ?_
  refine r_iaload hP d14_23 (lt_8_0 hs) hi23 ?_
  refine r_iconst (v := nI 2) hP d14_24 rfl ?_
  exact r_icmp (t := 32) hP d14_25 (by decide) kt (fun q => kf (Decidable.of_not_not q))
theorem b14_28 {d : Nat} {P : xPr} {Q : xQr} {r : Nat} {mem : Nat → Nat → Int32} (hP : Cl d none 14 P Q) {t : Nat} {s : Nat} {v0 : Value} {v2 : Value} {x4 : Int32} {v5 : Value} {v6 : Value} (ht : isTown t) (hs : isState s)
    (k : P 33 [v0, .ref t, v2, .ref (s + 1), .int x4, v5, v6] [.int (nI 1)] (0, 0) (LAY, RFu r, mem)) : P 28 [v0, .ref t, v2, .ref (s + 1), .int x4, v5, v6] [] (0, 0) (LAY, RFu r, mem) := by
  refine r_iconst (v := nI 1) hP d14_28 rfl ?_
  refine r_goto (t := 33) hP d14_29 (by decide) ?_
  exact k
theorem b14_32 {d : Nat} {P : xPr} {Q : xQr} {r : Nat} {mem : Nat → Nat → Int32} (hP : Cl d none 14 P Q) {t : Nat} {s : Nat} {v0 : Value} {v2 : Value} {x4 : Int32} {v5 : Value} {v6 : Value} (ht : isTown t) (hs : isState s)
    (k : P 33 [v0, .ref t, v2, .ref (s + 1), .int x4, v5, v6] [.int (nI 0)] (0, 0) (LAY, RFu r, mem)) : P 32 [v0, .ref t, v2, .ref (s + 1), .int x4, v5, v6] [] (0, 0) (LAY, RFu r, mem) := by
  refine r_iconst (v := nI 0) hP d14_32 rfl ?_
  exact k
theorem b14_33 {d : Nat} {P : xPr} {Q : xQr} {r : Nat} {mem : Nat → Nat → Int32} (hP : Cl d none 14 P Q) {t : Nat} {s : Nat} {v0 : Value} {v2 : Value} {x4 : Int32} {v5 : Value} {v6 : Value} {y0 : Int32} (ht : isTown t) (hs : isState s) (hi41 : vp_in ((nI 8) + x4) 121)
    (kt : ¬ (mem (s + 1) ((nI 8) + x4).toNatClampNeg) = (nI 1) → P 50 [v0, .ref t, v2, .ref (s + 1), .int x4, .int y0, v6] [] (0, 0) (LAY, RFu r, mem)) (kf : (mem (s + 1) ((nI 8) + x4).toNatClampNeg) = (nI 1) → P 46 [v0, .ref t, v2, .ref (s + 1), .int x4, .int y0, v6] [] (0, 0) (LAY, RFu r, mem)) : P 33 [v0, .ref t, v2, .ref (s + 1), .int x4, v5, v6] [.int y0] (0, 0) (LAY, RFu r, mem) := by
  refine r_istore (L' := [v0, .ref t, v2, .ref (s + 1), .int x4, .int y0, v6]) hP d14_33 (Nat.le_of_ble_eq_true rfl) rfl ?_
  refine r_aload_n hP d14_35 rfl ?_
  refine r_bipush (v := nI 8) hP d14_36 rfl ?_
  refine r_iload hP d14_38 rfl ?_
  refine r_iadd hP d14_40 ?_
  refine r_iaload hP d14_41 (lt_8_0 hs) hi41 ?_
  refine r_iconst (v := nI 1) hP d14_42 rfl ?_
  exact r_icmp (t := 50) hP d14_43 (by decide) kt (fun q => kf (Decidable.of_not_not q))
theorem b14_46 {d : Nat} {P : xPr} {Q : xQr} {r : Nat} {mem : Nat → Nat → Int32} (hP : Cl d none 14 P Q) {t : Nat} {s : Nat} {v0 : Value} {v2 : Value} {x4 : Int32} {x5 : Int32} {v6 : Value} (ht : isTown t) (hs : isState s)
    (k : P 51 [v0, .ref t, v2, .ref (s + 1), .int x4, .int x5, v6] [.int (nI 1)] (0, 0) (LAY, RFu r, mem)) : P 46 [v0, .ref t, v2, .ref (s + 1), .int x4, .int x5, v6] [] (0, 0) (LAY, RFu r, mem) := by
  refine r_iconst (v := nI 1) hP d14_46 rfl ?_
  refine r_goto (t := 51) hP d14_47 (by decide) ?_
  exact k
theorem b14_50 {d : Nat} {P : xPr} {Q : xQr} {r : Nat} {mem : Nat → Nat → Int32} (hP : Cl d none 14 P Q) {t : Nat} {s : Nat} {v0 : Value} {v2 : Value} {x4 : Int32} {x5 : Int32} {v6 : Value} (ht : isTown t) (hs : isState s)
    (k : P 51 [v0, .ref t, v2, .ref (s + 1), .int x4, .int x5, v6] [.int (nI 0)] (0, 0) (LAY, RFu r, mem)) : P 50 [v0, .ref t, v2, .ref (s + 1), .int x4, .int x5, v6] [] (0, 0) (LAY, RFu r, mem) := by
  refine r_iconst (v := nI 0) hP d14_50 rfl ?_
  exact k
theorem b14_51 {d : Nat} {P : xPr} {Q : xQr} {r : Nat} {mem : Nat → Nat → Int32} (hP : Cl d none 14 P Q) {t : Nat} {s : Nat} {v0 : Value} {v2 : Value} {x4 : Int32} {x5 : Int32} {v6 : Value} {y0 : Int32} (ht : isTown t) (hs : isState s)
    (kt : x5 = 0 → P 76 [v0, .ref t, v2, .ref (s + 1), .int x4, .int x5, .int y0] [.int ((nI 16) + x4), .ref (s + 1)] (0, 0) (LAY, RFu r, mem)) (kf : ¬ x5 = 0 → P 64 [v0, .ref t, v2, .ref (s + 1), .int x4, .int x5, .int y0] [.int ((nI 16) + x4), .ref (s + 1)] (0, 0) (LAY, RFu r, mem)) : P 51 [v0, .ref t, v2, .ref (s + 1), .int x4, .int x5, v6] [.int y0] (0, 0) (LAY, RFu r, mem) := by
  refine r_istore (L' := [v0, .ref t, v2, .ref (s + 1), .int x4, .int x5, .int y0]) hP d14_51 (Nat.le_of_ble_eq_true rfl) rfl ?_
  refine r_aload_n hP d14_53 rfl ?_
  refine r_bipush (v := nI 16) hP d14_54 rfl ?_
  refine r_iload hP d14_56 rfl ?_
  refine r_iadd hP d14_58 ?_
  refine r_iload hP d14_59 rfl ?_
  exact r_if (t := 76) hP d14_61 (by decide) kt kf
theorem b14_64 {d : Nat} {P : xPr} {Q : xQr} {r : Nat} {mem : Nat → Nat → Int32} (hP : Cl d none 14 P Q) {t : Nat} {s : Nat} {v0 : Value} {v2 : Value} {x4 : Int32} {x5 : Int32} {x6 : Int32} {y1 : Int32} (ht : isTown t) (hs : isState s) (hi70 : vp_in ((nI 16) + x4) 121)
    (k : P 77 [v0, .ref t, v2, .ref (s + 1), .int x4, .int x5, .int x6] [.int ((mem (s + 1) ((nI 16) + x4).toNatClampNeg) + (nI 1)), .int y1, .ref (s + 1)] (0, 0) (LAY, RFu r, mem)) : P 64 [v0, .ref t, v2, .ref (s + 1), .int x4, .int x5, .int x6] [.int y1, .ref (s + 1)] (0, 0) (LAY, RFu r, mem) := by
  refine r_aload_n hP d14_64 rfl ?_
  refine r_bipush (v := nI 16) hP d14_65 rfl ?_
  refine r_iload hP d14_67 rfl ?_
  refine r_iadd hP d14_69 ?_
  refine r_iaload hP d14_70 (lt_8_0 hs) hi70 ?_
  refine r_iconst (v := nI 1) hP d14_71 rfl ?_
  refine r_iadd hP d14_72 ?_
  refine r_goto (t := 77) hP d14_73 (by decide) ?_
  exact k
theorem b14_76 {d : Nat} {P : xPr} {Q : xQr} {r : Nat} {mem : Nat → Nat → Int32} (hP : Cl d none 14 P Q) {t : Nat} {s : Nat} {v0 : Value} {v2 : Value} {x4 : Int32} {x5 : Int32} {x6 : Int32} {y1 : Int32} (ht : isTown t) (hs : isState s)
    (k : P 77 [v0, .ref t, v2, .ref (s + 1), .int x4, .int x5, .int x6] [.int (nI 0), .int y1, .ref (s + 1)] (0, 0) (LAY, RFu r, mem)) : P 76 [v0, .ref t, v2, .ref (s + 1), .int x4, .int x5, .int x6] [.int y1, .ref (s + 1)] (0, 0) (LAY, RFu r, mem) := by
  refine r_iconst (v := nI 0) hP d14_76 rfl ?_
  exact k
theorem b14_77 {d : Nat} {P : xPr} {Q : xQr} {r : Nat} {mem : Nat → Nat → Int32} (hP : Cl d none 14 P Q) {t : Nat} {s : Nat} {v0 : Value} {v2 : Value} {x4 : Int32} {x5 : Int32} {x6 : Int32} {y1 : Int32} {y2 : Int32} (ht : isTown t) (hs : isState s) (hi77 : vp_in y1 121)
    (kt : x6 = 0 → P 101 [v0, .ref t, v2, .ref (s + 1), .int x4, .int x5, .int x6] [.int ((nI 24) + x4), .ref (s + 1)] (0, 0) (LAY, RFu r, xu2 mem (s + 1) y1.toNatClampNeg y2)) (kf : ¬ x6 = 0 → P 89 [v0, .ref t, v2, .ref (s + 1), .int x4, .int x5, .int x6] [.int ((nI 24) + x4), .ref (s + 1)] (0, 0) (LAY, RFu r, xu2 mem (s + 1) y1.toNatClampNeg y2)) : P 77 [v0, .ref t, v2, .ref (s + 1), .int x4, .int x5, .int x6] [.int y2, .int y1, .ref (s + 1)] (0, 0) (LAY, RFu r, mem) := by
  refine r_iastore hP d14_77 (lt_8_0 hs) hi77 ?_
  refine r_aload_n hP d14_78 rfl ?_
  refine r_bipush (v := nI 24) hP d14_79 rfl ?_
  refine r_iload hP d14_81 rfl ?_
  refine r_iadd hP d14_83 ?_
  refine r_iload hP d14_84 rfl ?_
  exact r_if (t := 101) hP d14_86 (by decide) kt kf
theorem b14_89 {d : Nat} {P : xPr} {Q : xQr} {r : Nat} {mem : Nat → Nat → Int32} (hP : Cl d none 14 P Q) {t : Nat} {s : Nat} {v0 : Value} {v2 : Value} {x4 : Int32} {x5 : Int32} {x6 : Int32} {y1 : Int32} (ht : isTown t) (hs : isState s) (hi95 : vp_in ((nI 24) + x4) 121)
    (k : P 102 [v0, .ref t, v2, .ref (s + 1), .int x4, .int x5, .int x6] [.int ((mem (s + 1) ((nI 24) + x4).toNatClampNeg) + (nI 1)), .int y1, .ref (s + 1)] (0, 0) (LAY, RFu r, mem)) : P 89 [v0, .ref t, v2, .ref (s + 1), .int x4, .int x5, .int x6] [.int y1, .ref (s + 1)] (0, 0) (LAY, RFu r, mem) := by
  refine r_aload_n hP d14_89 rfl ?_
  refine r_bipush (v := nI 24) hP d14_90 rfl ?_
  refine r_iload hP d14_92 rfl ?_
  refine r_iadd hP d14_94 ?_
  refine r_iaload hP d14_95 (lt_8_0 hs) hi95 ?_
  refine r_iconst (v := nI 1) hP d14_96 rfl ?_
  refine r_iadd hP d14_97 ?_
  refine r_goto (t := 102) hP d14_98 (by decide) ?_
  exact k
theorem b14_101 {d : Nat} {P : xPr} {Q : xQr} {r : Nat} {mem : Nat → Nat → Int32} (hP : Cl d none 14 P Q) {t : Nat} {s : Nat} {v0 : Value} {v2 : Value} {x4 : Int32} {x5 : Int32} {x6 : Int32} {y1 : Int32} (ht : isTown t) (hs : isState s)
    (k : P 102 [v0, .ref t, v2, .ref (s + 1), .int x4, .int x5, .int x6] [.int (nI 0), .int y1, .ref (s + 1)] (0, 0) (LAY, RFu r, mem)) : P 101 [v0, .ref t, v2, .ref (s + 1), .int x4, .int x5, .int x6] [.int y1, .ref (s + 1)] (0, 0) (LAY, RFu r, mem) := by
  refine r_iconst (v := nI 0) hP d14_101 rfl ?_
  exact k
theorem b14_102 {d : Nat} {P : xPr} {Q : xQr} {r : Nat} {mem : Nat → Nat → Int32} (hP : Cl d none 14 P Q) {t : Nat} {s : Nat} {v0 : Value} {v2 : Value} {x4 : Int32} {x5 : Int32} {x6 : Int32} {y1 : Int32} {y2 : Int32} (ht : isTown t) (hs : isState s) (hi102 : vp_in y1 121) (hi110 : vp_in ((nI 32) + x4) 121)
    (kt : x5 = 0 → P 120 [v0, .ref t, v2, .ref (s + 1), .int x4, .int x5, .int x6] [.int ((xu2 mem (s + 1) y1.toNatClampNeg y2) (s + 1) ((nI 32) + x4).toNatClampNeg), .int ((nI 32) + x4), .ref (s + 1)] (0, 0) (LAY, RFu r, xu2 mem (s + 1) y1.toNatClampNeg y2)) (kf : ¬ x5 = 0 → P 116 [v0, .ref t, v2, .ref (s + 1), .int x4, .int x5, .int x6] [.int ((xu2 mem (s + 1) y1.toNatClampNeg y2) (s + 1) ((nI 32) + x4).toNatClampNeg), .int ((nI 32) + x4), .ref (s + 1)] (0, 0) (LAY, RFu r, xu2 mem (s + 1) y1.toNatClampNeg y2)) : P 102 [v0, .ref t, v2, .ref (s + 1), .int x4, .int x5, .int x6] [.int y2, .int y1, .ref (s + 1)] (0, 0) (LAY, RFu r, mem) := by
  refine r_iastore hP d14_102 (lt_8_0 hs) hi102 ?_
  refine r_aload_n hP d14_103 rfl ?_
  refine r_bipush (v := nI 32) hP d14_104 rfl ?_
  refine r_iload hP d14_106 rfl ?_
  refine r_iadd hP d14_108 ?_
  refine r_dup2 hP d14_109 rfl rfl ?_
  refine r_iaload hP d14_110 (lt_8_0 hs) hi110 ?_
  refine r_iload hP d14_111 rfl ?_
  exact r_if (t := 120) hP d14_113 (by decide) kt kf
theorem b14_116 {d : Nat} {P : xPr} {Q : xQr} {r : Nat} {mem : Nat → Nat → Int32} (hP : Cl d none 14 P Q) {t : Nat} {s : Nat} {v0 : Value} {v2 : Value} {x4 : Int32} {v5 : Value} {x6 : Int32} {y1 : Int32} {y2 : Int32} (ht : isTown t) (hs : isState s)
    (k : P 121 [v0, .ref t, v2, .ref (s + 1), .int x4, v5, .int x6] [.int (nI 1), .int y2, .int y1, .ref (s + 1)] (0, 0) (LAY, RFu r, mem)) : P 116 [v0, .ref t, v2, .ref (s + 1), .int x4, v5, .int x6] [.int y2, .int y1, .ref (s + 1)] (0, 0) (LAY, RFu r, mem) := by
  refine r_iconst (v := nI 1) hP d14_116 rfl ?_
  refine r_goto (t := 121) hP d14_117 (by decide) ?_
  exact k
theorem b14_120 {d : Nat} {P : xPr} {Q : xQr} {r : Nat} {mem : Nat → Nat → Int32} (hP : Cl d none 14 P Q) {t : Nat} {s : Nat} {v0 : Value} {v2 : Value} {x4 : Int32} {v5 : Value} {x6 : Int32} {y1 : Int32} {y2 : Int32} (ht : isTown t) (hs : isState s)
    (k : P 121 [v0, .ref t, v2, .ref (s + 1), .int x4, v5, .int x6] [.int (nI 0), .int y2, .int y1, .ref (s + 1)] (0, 0) (LAY, RFu r, mem)) : P 120 [v0, .ref t, v2, .ref (s + 1), .int x4, v5, .int x6] [.int y2, .int y1, .ref (s + 1)] (0, 0) (LAY, RFu r, mem) := by
  refine r_iconst (v := nI 0) hP d14_120 rfl ?_
  exact k
theorem b14_121 {d : Nat} {P : xPr} {Q : xQr} {r : Nat} {mem : Nat → Nat → Int32} (hP : Cl d none 14 P Q) {t : Nat} {s : Nat} {v0 : Value} {v2 : Value} {x4 : Int32} {v5 : Value} {x6 : Int32} {y1 : Int32} {y2 : Int32} {y3 : Int32} (ht : isTown t) (hs : isState s) (hi122 : vp_in y1 121) (hi130 : vp_in ((nI 40) + x4) 121)
    (kt : x6 = 0 → P 140 [v0, .ref t, v2, .ref (s + 1), .int x4, v5, .int x6] [.int ((xu2 mem (s + 1) y1.toNatClampNeg (y2 + y3)) (s + 1) ((nI 40) + x4).toNatClampNeg), .int ((nI 40) + x4), .ref (s + 1)] (0, 0) (LAY, RFu r, xu2 mem (s + 1) y1.toNatClampNeg (y2 + y3))) (kf : ¬ x6 = 0 → P 136 [v0, .ref t, v2, .ref (s + 1), .int x4, v5, .int x6] [.int ((xu2 mem (s + 1) y1.toNatClampNeg (y2 + y3)) (s + 1) ((nI 40) + x4).toNatClampNeg), .int ((nI 40) + x4), .ref (s + 1)] (0, 0) (LAY, RFu r, xu2 mem (s + 1) y1.toNatClampNeg (y2 + y3))) : P 121 [v0, .ref t, v2, .ref (s + 1), .int x4, v5, .int x6] [.int y3, .int y2, .int y1, .ref (s + 1)] (0, 0) (LAY, RFu r, mem) := by
  refine r_iadd hP d14_121 ?_
  refine r_iastore hP d14_122 (lt_8_0 hs) hi122 ?_
  refine r_aload_n hP d14_123 rfl ?_
  refine r_bipush (v := nI 40) hP d14_124 rfl ?_
  refine r_iload hP d14_126 rfl ?_
  refine r_iadd hP d14_128 ?_
  refine r_dup2 hP d14_129 rfl rfl ?_
  refine r_iaload hP d14_130 (lt_8_0 hs) hi130 ?_
  refine r_iload hP d14_131 rfl ?_
  exact r_if (t := 140) hP d14_133 (by decide) kt kf
theorem b14_136 {d : Nat} {P : xPr} {Q : xQr} {r : Nat} {mem : Nat → Nat → Int32} (hP : Cl d none 14 P Q) {t : Nat} {s : Nat} {v0 : Value} {v2 : Value} {x4 : Int32} {v5 : Value} {v6 : Value} {y1 : Int32} {y2 : Int32} (ht : isTown t) (hs : isState s)
    (k : P 141 [v0, .ref t, v2, .ref (s + 1), .int x4, v5, v6] [.int (nI 1), .int y2, .int y1, .ref (s + 1)] (0, 0) (LAY, RFu r, mem)) : P 136 [v0, .ref t, v2, .ref (s + 1), .int x4, v5, v6] [.int y2, .int y1, .ref (s + 1)] (0, 0) (LAY, RFu r, mem) := by
  refine r_iconst (v := nI 1) hP d14_136 rfl ?_
  refine r_goto (t := 141) hP d14_137 (by decide) ?_
  exact k
theorem b14_140 {d : Nat} {P : xPr} {Q : xQr} {r : Nat} {mem : Nat → Nat → Int32} (hP : Cl d none 14 P Q) {t : Nat} {s : Nat} {v0 : Value} {v2 : Value} {x4 : Int32} {v5 : Value} {v6 : Value} {y1 : Int32} {y2 : Int32} (ht : isTown t) (hs : isState s)
    (k : P 141 [v0, .ref t, v2, .ref (s + 1), .int x4, v5, v6] [.int (nI 0), .int y2, .int y1, .ref (s + 1)] (0, 0) (LAY, RFu r, mem)) : P 140 [v0, .ref t, v2, .ref (s + 1), .int x4, v5, v6] [.int y2, .int y1, .ref (s + 1)] (0, 0) (LAY, RFu r, mem) := by
  refine r_iconst (v := nI 0) hP d14_140 rfl ?_
  exact k
theorem b14_141 {d : Nat} {P : xPr} {Q : xQr} {r : Nat} {mem : Nat → Nat → Int32} (hP : Cl d none 14 P Q) {t : Nat} {s : Nat} {v0 : Value} {v2 : Value} {x4 : Int32} {v5 : Value} {v6 : Value} {y1 : Int32} {y2 : Int32} {y3 : Int32} (ht : isTown t) (hs : isState s) (hi142 : vp_in y1 121)
    (k : P 8 [v0, .ref t, v2, .ref (s + 1), .int (x4 + nI 1), v5, v6] [] (0, 0) (LAY, RFu r, xu2 mem (s + 1) y1.toNatClampNeg (y2 + y3))) : P 141 [v0, .ref t, v2, .ref (s + 1), .int x4, v5, v6] [.int y3, .int y2, .int y1, .ref (s + 1)] (0, 0) (LAY, RFu r, mem) := by
  refine r_iadd hP d14_141 ?_
  refine r_iastore hP d14_142 (lt_8_0 hs) hi142 ?_
  refine r_iinc (v := nI 1) (L' := [v0, .ref t, v2, .ref (s + 1), .int (x4 + nI 1), v5, v6]) hP d14_143 rfl rfl rfl ?_
  refine r_goto (t := 8) hP d14_146 (by decide) ?_
  exact k
theorem b14_149 {d : Nat} {P : xPr} {Q : xQr} {r : Nat} {mem : Nat → Nat → Int32} (hP : Cl d none 14 P Q) {t : Nat} {s : Nat} {v0 : Value} {v1 : Value} {v2 : Value} {v4 : Value} {v5 : Value} {v6 : Value} (ht : isTown t) (hs : isState s) (hi153 : vp_in (nI 120) 121) (hi156 : vp_in (nI 120) 121)
    (k : Q none (LAY, RFu r, xu2 mem (s + 1) (nI 120).toNatClampNeg ((mem (s + 1) (nI 120).toNatClampNeg) + (nI 1)))) : P 149 [v0, v1, v2, .ref (s + 1), v4, v5, v6] [] (0, 0) (LAY, RFu r, mem) := by
  refine r_aload_n hP d14_149 rfl ?_
  refine r_bipush (v := nI 120) hP d14_150 rfl ?_
  refine r_dup2 hP d14_152 rfl rfl ?_
  refine r_iaload hP d14_153 (lt_8_0 hs) hi153 ?_
  refine r_iconst (v := nI 1) hP d14_154 rfl ?_
  refine r_iadd hP d14_155 ?_
  refine r_iastore hP d14_156 (lt_8_0 hs) hi156 ?_
  exact r_vret hP d14_157 rfl k
theorem d15_0 : decode (xB 15) 0 = .ok (.iconst 0, 1) := by decide +kernel
theorem d15_1 : decode (xB 15) 1 = .ok (.istore 5, 2) := by decide +kernel
theorem d15_3 : decode (xB 15) 3 = .ok (.iload 5, 2) := by decide +kernel
theorem d15_5 : decode (xB 15) 5 = .ok (.bipush 8, 2) := by decide +kernel
theorem d15_7 : decode (xB 15) 7 = .ok (.if_icmp .ge 35, 3) := by decide +kernel
theorem d15_10 : decode (xB 15) 10 = .ok (.iload 4, 2) := by decide +kernel
theorem d15_12 : decode (xB 15) 12 = .ok (.iload 5, 2) := by decide +kernel
theorem d15_14 : decode (xB 15) 14 = .ok (.ishr, 1) := by decide +kernel
theorem d15_15 : decode (xB 15) 15 = .ok (.iconst 1, 1) := by decide +kernel
theorem d15_16 : decode (xB 15) 16 = .ok (.iand, 1) := by decide +kernel
theorem d15_17 : decode (xB 15) 17 = .ok (.iconst 1, 1) := by decide +kernel
theorem d15_18 : decode (xB 15) 18 = .ok (.if_icmp .ne 18, 3) := by decide +kernel
theorem d15_21 : decode (xB 15) 21 = .ok (.aload_n 0, 1) := by decide +kernel
theorem d15_22 : decode (xB 15) 22 = .ok (.getfield 18, 3) := by decide +kernel
theorem d15_25 : decode (xB 15) 25 = .ok (.iload 5, 2) := by decide +kernel
theorem d15_27 : decode (xB 15) 27 = .ok (.aload_n 1, 1) := by decide +kernel
theorem d15_28 : decode (xB 15) 28 = .ok (.aload_n 2, 1) := by decide +kernel
theorem d15_29 : decode (xB 15) 29 = .ok (.aload_n 3, 1) := by decide +kernel
theorem d15_30 : decode (xB 15) 30 = .ok (.iload 5, 2) := by decide +kernel
theorem d15_32 : decode (xB 15) 32 = .ok (.invokevirtual 97, 3) := by decide +kernel
theorem d15_35 : decode (xB 15) 35 = .ok (.iastore, 1) := by decide +kernel
theorem d15_36 : decode (xB 15) 36 = .ok (.iinc 5 1, 3) := by decide +kernel
theorem d15_39 : decode (xB 15) 39 = .ok (.goto (-36), 3) := by decide +kernel
theorem d15_42 : decode (xB 15) 42 = .ok (.return_, 1) := by decide +kernel
theorem b15_0 {d : Nat} {P : xPr} {Q : xQr} {r : Nat} {mem : Nat → Nat → Int32} (hP : Cl d none 15 P Q) {q : Nat} {t : Nat} {s : Nat} {p3 : Int32} (hq : isRule q) (ht : isTown t) (hs : isState s)
    (k : P 3 [.ref 51, .ref q, .ref t, .ref s, .int p3, .int (nI 0)] [] (0, 0) (LAY, RFu r, mem)) : P 0 [.ref 51, .ref q, .ref t, .ref s, .int p3, .null] [] (0, 0) (LAY, RFu r, mem) := by
  refine r_iconst (v := nI 0) hP d15_0 rfl ?_
  refine r_istore (L' := [.ref 51, .ref q, .ref t, .ref s, .int p3, .int (nI 0)]) hP d15_1 (Nat.le_of_ble_eq_true rfl) rfl ?_
  exact k
theorem b15_3 {d : Nat} {P : xPr} {Q : xQr} {r : Nat} {mem : Nat → Nat → Int32} (hP : Cl d none 15 P Q) {q : Nat} {t : Nat} {s : Nat} {x4 : Int32} {x5 : Int32} (hq : isRule q) (ht : isTown t) (hs : isState s)
    (kt : (nI 8) ≤ x5 → P 42 [.ref 51, .ref q, .ref t, .ref s, .int x4, .int x5] [] (0, 0) (LAY, RFu r, mem)) (kf : ¬ (nI 8) ≤ x5 → P 10 [.ref 51, .ref q, .ref t, .ref s, .int x4, .int x5] [] (0, 0) (LAY, RFu r, mem)) : P 3 [.ref 51, .ref q, .ref t, .ref s, .int x4, .int x5] [] (0, 0) (LAY, RFu r, mem) := by
  refine r_iload hP d15_3 rfl ?_
  refine r_bipush (v := nI 8) hP d15_5 rfl ?_
  exact r_icmp (t := 42) hP d15_7 (by decide) kt kf
theorem b15_10 {d : Nat} {P : xPr} {Q : xQr} {r : Nat} {mem : Nat → Nat → Int32} (hP : Cl d none 15 P Q) {q : Nat} {t : Nat} {s : Nat} {x4 : Int32} {x5 : Int32} (hq : isRule q) (ht : isTown t) (hs : isState s)
    (kt : ¬ ((x4 >>> (x5 &&& 31)) &&& (nI 1)) = (nI 1) → P 36 [.ref 51, .ref q, .ref t, .ref s, .int x4, .int x5] [] (0, 0) (LAY, RFu r, mem)) (kf : ((x4 >>> (x5 &&& 31)) &&& (nI 1)) = (nI 1) → P 21 [.ref 51, .ref q, .ref t, .ref s, .int x4, .int x5] [] (0, 0) (LAY, RFu r, mem)) : P 10 [.ref 51, .ref q, .ref t, .ref s, .int x4, .int x5] [] (0, 0) (LAY, RFu r, mem) := by
  refine r_iload hP d15_10 rfl ?_
  refine r_iload hP d15_12 rfl ?_
  refine r_ishr hP d15_14 ?_
  refine r_iconst (v := nI 1) hP d15_15 rfl ?_
  refine r_iand hP d15_16 ?_
  refine r_iconst (v := nI 1) hP d15_17 rfl ?_
  exact r_icmp (t := 36) hP d15_18 (by decide) kt (fun q => kf (Decidable.of_not_not q))
theorem b15_21 {d : Nat} {P : xPr} {Q : xQr} {r : Nat} {mem : Nat → Nat → Int32} (hP : Cl d none 15 P Q) {q : Nat} {t : Nat} {s : Nat} {x4 : Int32} {x5 : Int32} (hq : isRule q) (ht : isTown t) (hs : isState s)
    (k : xCall d 40 [.ref q, .ref t, .ref s, .int x5] (LAY, RFu r, mem) (Bk P 32 [.ref 51, .ref q, .ref t, .ref s, .int x4, .int x5] [.int x5, .ref 54] (0, 0))) : P 21 [.ref 51, .ref q, .ref t, .ref s, .int x4, .int x5] [] (0, 0) (LAY, RFu r, mem) := by
  refine r_aload_n hP d15_21 rfl ?_
  refine r_getr (a := 54) hP d15_22 fr_1_18 rfl ly_51 rg_51_2 ?_
  refine r_iload hP d15_25 rfl ?_
  refine r_aload_n hP d15_27 rfl ?_
  refine r_aload_n hP d15_28 rfl ?_
  refine r_aload_n hP d15_29 rfl ?_
  refine r_iload hP d15_30 rfl ?_
  exact r_callv (As := [.ref t, .ref s, .int x5]) (S := [.int x5, .ref 54]) hP d15_32 cr_1_97 (by decide +kernel) rfl (by simp [Value.category]) rfl (lt_5 hq) (by simp [Value.category]) ⟨Nat.zero_le _, Nat.zero_le _⟩ k
theorem b15_35 {d : Nat} {P : xPr} {Q : xQr} {r : Nat} {mem : Nat → Nat → Int32} (hP : Cl d none 15 P Q) {q : Nat} {t : Nat} {s : Nat} {x4 : Int32} {x5 : Int32} {y1 : Int32} {y2 : Int32} (hq : isRule q) (ht : isTown t) (hs : isState s) (hi35 : vp_in y1 8)
    (k : P 36 [.ref 51, .ref q, .ref t, .ref s, .int x4, .int x5] [] (0, 0) (LAY, RFu r, xu2 mem 54 y1.toNatClampNeg y2)) : P 35 [.ref 51, .ref q, .ref t, .ref s, .int x4, .int x5] [.int y2, .int y1, .ref 54] (0, 0) (LAY, RFu r, mem) := by
  refine r_iastore hP d15_35 ly_54 hi35 ?_
  exact k
theorem b15_36 {d : Nat} {P : xPr} {Q : xQr} {r : Nat} {mem : Nat → Nat → Int32} (hP : Cl d none 15 P Q) {q : Nat} {t : Nat} {s : Nat} {x4 : Int32} {x5 : Int32} (hq : isRule q) (ht : isTown t) (hs : isState s)
    (k : P 3 [.ref 51, .ref q, .ref t, .ref s, .int x4, .int (x5 + nI 1)] [] (0, 0) (LAY, RFu r, mem)) : P 36 [.ref 51, .ref q, .ref t, .ref s, .int x4, .int x5] [] (0, 0) (LAY, RFu r, mem) := by
  refine r_iinc (v := nI 1) (L' := [.ref 51, .ref q, .ref t, .ref s, .int x4, .int (x5 + nI 1)]) hP d15_36 rfl rfl rfl ?_
  refine r_goto (t := 3) hP d15_39 (by decide) ?_
  exact k
theorem b15_42 {d : Nat} {P : xPr} {Q : xQr} {r : Nat} {mem : Nat → Nat → Int32} (hP : Cl d none 15 P Q) {q : Nat} {t : Nat} {s : Nat} {v0 : Value} {v1 : Value} {v2 : Value} {v3 : Value} {v4 : Value} {v5 : Value} (hq : isRule q) (ht : isTown t) (hs : isState s)
    (k : Q none (LAY, RFu r, mem)) : P 42 [v0, v1, v2, v3, v4, v5] [] (0, 0) (LAY, RFu r, mem) := by
  exact r_vret hP d15_42 rfl k
theorem d16_0 : decode (xB 16) 0 = .ok (.iconst (-1), 1) := by decide +kernel
theorem d16_1 : decode (xB 16) 1 = .ok (.istore_n 2, 1) := by decide +kernel
theorem d16_2 : decode (xB 16) 2 = .ok (.iconst 0, 1) := by decide +kernel
theorem d16_3 : decode (xB 16) 3 = .ok (.istore_n 3, 1) := by decide +kernel
theorem d16_4 : decode (xB 16) 4 = .ok (.iload_n 3, 1) := by decide +kernel
theorem d16_5 : decode (xB 16) 5 = .ok (.bipush 8, 2) := by decide +kernel
theorem d16_7 : decode (xB 16) 7 = .ok (.if_icmp .ge 40, 3) := by decide +kernel
theorem d16_10 : decode (xB 16) 10 = .ok (.iload_n 1, 1) := by decide +kernel
theorem d16_11 : decode (xB 16) 11 = .ok (.iload_n 3, 1) := by decide +kernel
theorem d16_12 : decode (xB 16) 12 = .ok (.ishr, 1) := by decide +kernel
theorem d16_13 : decode (xB 16) 13 = .ok (.iconst 1, 1) := by decide +kernel
theorem d16_14 : decode (xB 16) 14 = .ok (.iand, 1) := by decide +kernel
theorem d16_15 : decode (xB 16) 15 = .ok (.iconst 1, 1) := by decide +kernel
theorem d16_16 : decode (xB 16) 16 = .ok (.if_icmp .ne 25, 3) := by decide +kernel
theorem d16_19 : decode (xB 16) 19 = .ok (.iload_n 2, 1) := by decide +kernel
theorem d16_20 : decode (xB 16) 20 = .ok (.iconst (-1), 1) := by decide +kernel
theorem d16_21 : decode (xB 16) 21 = .ok (.if_icmp .eq 18, 3) := by decide +kernel
theorem d16_24 : decode (xB 16) 24 = .ok (.aload_n 0, 1) := by decide +kernel
theorem d16_25 : decode (xB 16) 25 = .ok (.getfield 18, 3) := by decide +kernel
theorem d16_28 : decode (xB 16) 28 = .ok (.iload_n 3, 1) := by decide +kernel
theorem d16_29 : decode (xB 16) 29 = .ok (.iaload, 1) := by decide +kernel
theorem d16_30 : decode (xB 16) 30 = .ok (.aload_n 0, 1) := by decide +kernel
theorem d16_31 : decode (xB 16) 31 = .ok (.getfield 18, 3) := by decide +kernel
theorem d16_34 : decode (xB 16) 34 = .ok (.iload_n 2, 1) := by decide +kernel
theorem d16_35 : decode (xB 16) 35 = .ok (.iaload, 1) := by decide +kernel
theorem d16_36 : decode (xB 16) 36 = .ok (.if_icmp .le 5, 3) := by decide +kernel
theorem d16_39 : decode (xB 16) 39 = .ok (.iload_n 3, 1) := by decide +kernel
theorem d16_40 : decode (xB 16) 40 = .ok (.istore_n 2, 1) := by decide +kernel
theorem d16_41 : decode (xB 16) 41 = .ok (.iinc 3 1, 3) := by decide +kernel
theorem d16_44 : decode (xB 16) 44 = .ok (.goto (-40), 3) := by decide +kernel
theorem d16_47 : decode (xB 16) 47 = .ok (.iload_n 2, 1) := by decide +kernel
theorem d16_48 : decode (xB 16) 48 = .ok (.ireturn, 1) := by decide +kernel
theorem b16_0 {d : Nat} {P : xPr} {Q : xQr} {r : Nat} {mem : Nat → Nat → Int32} (hP : Cl d none 16 P Q) {p0 : Int32}
    (k : P 4 [.ref 51, .int p0, .int (-1), .int (nI 0)] [] (0, 0) (LAY, RFu r, mem)) : P 0 [.ref 51, .int p0, .null, .null] [] (0, 0) (LAY, RFu r, mem) := by
  refine r_iconst (v := (-1)) hP d16_0 rfl ?_
  refine r_istore_n (L' := [.ref 51, .int p0, .int (-1), .null]) hP d16_1 (Nat.le_of_ble_eq_true rfl) rfl ?_
  refine r_iconst (v := nI 0) hP d16_2 rfl ?_
  refine r_istore_n (L' := [.ref 51, .int p0, .int (-1), .int (nI 0)]) hP d16_3 (Nat.le_of_ble_eq_true rfl) rfl ?_
  exact k
theorem b16_4 {d : Nat} {P : xPr} {Q : xQr} {r : Nat} {mem : Nat → Nat → Int32} (hP : Cl d none 16 P Q) {x1 : Int32} {x2 : Int32} {x3 : Int32}
    (kt : (nI 8) ≤ x3 → P 47 [.ref 51, .int x1, .int x2, .int x3] [] (0, 0) (LAY, RFu r, mem)) (kf : ¬ (nI 8) ≤ x3 → P 10 [.ref 51, .int x1, .int x2, .int x3] [] (0, 0) (LAY, RFu r, mem)) : P 4 [.ref 51, .int x1, .int x2, .int x3] [] (0, 0) (LAY, RFu r, mem) := by
  refine r_iload_n hP d16_4 rfl ?_
  refine r_bipush (v := nI 8) hP d16_5 rfl ?_
  exact r_icmp (t := 47) hP d16_7 (by decide) kt kf
theorem b16_10 {d : Nat} {P : xPr} {Q : xQr} {r : Nat} {mem : Nat → Nat → Int32} (hP : Cl d none 16 P Q) {x1 : Int32} {x2 : Int32} {x3 : Int32}
    (kt : ¬ ((x1 >>> (x3 &&& 31)) &&& (nI 1)) = (nI 1) → P 41 [.ref 51, .int x1, .int x2, .int x3] [] (0, 0) (LAY, RFu r, mem)) (kf : ((x1 >>> (x3 &&& 31)) &&& (nI 1)) = (nI 1) → P 19 [.ref 51, .int x1, .int x2, .int x3] [] (0, 0) (LAY, RFu r, mem)) : P 10 [.ref 51, .int x1, .int x2, .int x3] [] (0, 0) (LAY, RFu r, mem) := by
  refine r_iload_n hP d16_10 rfl ?_
  refine r_iload_n hP d16_11 rfl ?_
  refine r_ishr hP d16_12 ?_
  refine r_iconst (v := nI 1) hP d16_13 rfl ?_
  refine r_iand hP d16_14 ?_
  refine r_iconst (v := nI 1) hP d16_15 rfl ?_
  exact r_icmp (t := 41) hP d16_16 (by decide) kt (fun q => kf (Decidable.of_not_not q))
theorem b16_19 {d : Nat} {P : xPr} {Q : xQr} {r : Nat} {mem : Nat → Nat → Int32} (hP : Cl d none 16 P Q) {x1 : Int32} {x2 : Int32} {x3 : Int32}
    (kt : x2 = (-1) → P 39 [.ref 51, .int x1, .int x2, .int x3] [] (0, 0) (LAY, RFu r, mem)) (kf : ¬ x2 = (-1) → P 24 [.ref 51, .int x1, .int x2, .int x3] [] (0, 0) (LAY, RFu r, mem)) : P 19 [.ref 51, .int x1, .int x2, .int x3] [] (0, 0) (LAY, RFu r, mem) := by
  refine r_iload_n hP d16_19 rfl ?_
  refine r_iconst (v := (-1)) hP d16_20 rfl ?_
  exact r_icmp (t := 39) hP d16_21 (by decide) kt kf
theorem b16_24 {d : Nat} {P : xPr} {Q : xQr} {r : Nat} {mem : Nat → Nat → Int32} (hP : Cl d none 16 P Q) {x1 : Int32} {x2 : Int32} {x3 : Int32} (hi29 : vp_in x3 8) (hi35 : vp_in x2 8)
    (kt : (mem 54 x3.toNatClampNeg) ≤ (mem 54 x2.toNatClampNeg) → P 41 [.ref 51, .int x1, .int x2, .int x3] [] (0, 0) (LAY, RFu r, mem)) (kf : ¬ (mem 54 x3.toNatClampNeg) ≤ (mem 54 x2.toNatClampNeg) → P 39 [.ref 51, .int x1, .int x2, .int x3] [] (0, 0) (LAY, RFu r, mem)) : P 24 [.ref 51, .int x1, .int x2, .int x3] [] (0, 0) (LAY, RFu r, mem) := by
  refine r_aload_n hP d16_24 rfl ?_
  refine r_getr (a := 54) hP d16_25 fr_1_18 rfl ly_51 rg_51_2 ?_
  refine r_iload_n hP d16_28 rfl ?_
  refine r_iaload hP d16_29 ly_54 hi29 ?_
  refine r_aload_n hP d16_30 rfl ?_
  refine r_getr (a := 54) hP d16_31 fr_1_18 rfl ly_51 rg_51_2 ?_
  refine r_iload_n hP d16_34 rfl ?_
  refine r_iaload hP d16_35 ly_54 hi35 ?_
  exact r_icmp (t := 41) hP d16_36 (by decide) kt kf
theorem b16_39 {d : Nat} {P : xPr} {Q : xQr} {r : Nat} {mem : Nat → Nat → Int32} (hP : Cl d none 16 P Q) {x1 : Int32} {v2 : Value} {x3 : Int32}
    (k : P 41 [.ref 51, .int x1, .int x3, .int x3] [] (0, 0) (LAY, RFu r, mem)) : P 39 [.ref 51, .int x1, v2, .int x3] [] (0, 0) (LAY, RFu r, mem) := by
  refine r_iload_n hP d16_39 rfl ?_
  refine r_istore_n (L' := [.ref 51, .int x1, .int x3, .int x3]) hP d16_40 (Nat.le_of_ble_eq_true rfl) rfl ?_
  exact k
theorem b16_41 {d : Nat} {P : xPr} {Q : xQr} {r : Nat} {mem : Nat → Nat → Int32} (hP : Cl d none 16 P Q) {x1 : Int32} {x2 : Int32} {x3 : Int32}
    (k : P 4 [.ref 51, .int x1, .int x2, .int (x3 + nI 1)] [] (0, 0) (LAY, RFu r, mem)) : P 41 [.ref 51, .int x1, .int x2, .int x3] [] (0, 0) (LAY, RFu r, mem) := by
  refine r_iinc (v := nI 1) (L' := [.ref 51, .int x1, .int x2, .int (x3 + nI 1)]) hP d16_41 rfl rfl rfl ?_
  refine r_goto (t := 4) hP d16_44 (by decide) ?_
  exact k
theorem b16_47 {d : Nat} {P : xPr} {Q : xQr} {r : Nat} {mem : Nat → Nat → Int32} (hP : Cl d none 16 P Q) {v0 : Value} {v1 : Value} {x2 : Int32} {v3 : Value}
    (k : Q (some (.int x2)) (LAY, RFu r, mem)) : P 47 [v0, v1, .int x2, v3] [] (0, 0) (LAY, RFu r, mem) := by
  refine r_iload_n hP d16_47 rfl ?_
  exact r_iret hP d16_48 rfl k
theorem d53_0 : decode (xB 53) 0 = .ok (.aload_n 0, 1) := by decide +kernel
theorem d53_1 : decode (xB 53) 1 = .ok (.iload_n 2, 1) := by decide +kernel
theorem d53_2 : decode (xB 53) 2 = .ok (.putfield 41, 3) := by decide +kernel
theorem d53_5 : decode (xB 53) 5 = .ok (.aload_n 0, 1) := by decide +kernel
theorem d53_6 : decode (xB 53) 6 = .ok (.iload_n 3, 1) := by decide +kernel
theorem d53_7 : decode (xB 53) 7 = .ok (.putfield 45, 3) := by decide +kernel
theorem d53_10 : decode (xB 53) 10 = .ok (.aload_n 0, 1) := by decide +kernel
theorem d53_11 : decode (xB 53) 11 = .ok (.iload 4, 2) := by decide +kernel
theorem d53_13 : decode (xB 53) 13 = .ok (.iconst 5, 1) := by decide +kernel
theorem d53_14 : decode (xB 53) 14 = .ok (.invokestatic 48, 3) := by decide +kernel
theorem d53_17 : decode (xB 53) 17 = .ok (.putfield 54, 3) := by decide +kernel
theorem d53_20 : decode (xB 53) 20 = .ok (.aload_n 0, 1) := by decide +kernel
theorem d53_21 : decode (xB 53) 21 = .ok (.iconst (-1), 1) := by decide +kernel
theorem d53_22 : decode (xB 53) 22 = .ok (.putfield 57, 3) := by decide +kernel
theorem d53_25 : decode (xB 53) 25 = .ok (.aload_n 1, 1) := by decide +kernel
theorem d53_26 : decode (xB 53) 26 = .ok (.getfield 60, 3) := by decide +kernel
theorem d53_29 : decode (xB 53) 29 = .ok (.iconst 0, 1) := by decide +kernel
theorem d53_30 : decode (xB 53) 30 = .ok (.aload_n 0, 1) := by decide +kernel
theorem d53_31 : decode (xB 53) 31 = .ok (.getfield 20, 3) := by decide +kernel
theorem d53_34 : decode (xB 53) 34 = .ok (.iconst 0, 1) := by decide +kernel
theorem d53_35 : decode (xB 53) 35 = .ok (.aaload, 1) := by decide +kernel
theorem d53_36 : decode (xB 53) 36 = .ok (.iconst 0, 1) := by decide +kernel
theorem d53_37 : decode (xB 53) 37 = .ok (.bipush 121, 2) := by decide +kernel
theorem d53_39 : decode (xB 53) 39 = .ok (.invokestatic 63, 3) := by decide +kernel
theorem d53_42 : decode (xB 53) 42 = .ok (.return_, 1) := by decide +kernel
theorem b53_0 {d : Nat} {P : xPr} {Q : xQr} {r : Nat} {mem : Nat → Nat → Int32} (hP : Cl d none 53 P Q) {s : Nat} {p1 : Int32} {p2 : Int32} {p3 : Int32} (hs : isState s) (hi35 : vp_in (nI 0) 6)
    (k : Q none (LAY, RFu r, xuA (xu2 (xu2 (xu2 (xu2 mem 81 8 p1) 81 9 p2) 81 10 (if nI 5 < p3 then nI 5 else p3)) 81 0 (-1)) (85 + (nI 0).toNatClampNeg) (va_cpy ((xu2 (xu2 (xu2 (xu2 mem 81 8 p1) 81 9 p2) 81 10 (if nI 5 < p3 then nI 5 else p3)) 81 0 (-1)) (s + 1)) ((xu2 (xu2 (xu2 (xu2 mem 81 8 p1) 81 9 p2) 81 10 (if nI 5 < p3 then nI 5 else p3)) 81 0 (-1)) (85 + (nI 0).toNatClampNeg)) 0 0 121))) : P 0 [.ref 81, .ref s, .int p1, .int p2, .int p3] [] (0, 0) (LAY, RFu r, mem) := by
  refine r_aload_n hP d53_0 rfl ?_
  refine r_iload_n hP d53_1 rfl ?_
  refine r_puti hP d53_2 fr_7_41 rfl (fun q => by cases q) ly_81 ?_
  refine r_aload_n hP d53_5 rfl ?_
  refine r_iload_n hP d53_6 rfl ?_
  refine r_puti hP d53_7 fr_7_45 rfl (fun q => by cases q) ly_81 ?_
  refine r_aload_n hP d53_10 rfl ?_
  refine r_iload hP d53_11 rfl ?_
  refine r_iconst (v := nI 5) hP d53_13 rfl ?_
  refine r_min hP d53_14 cr_7_48 (by simp [Value.category]) ?_
  refine r_puti hP d53_17 fr_7_54 rfl (fun q => by cases q) ly_81 ?_
  refine r_aload_n hP d53_20 rfl ?_
  refine r_iconst (v := (-1)) hP d53_21 rfl ?_
  refine r_puti hP d53_22 fr_7_57 rfl (fun q => by cases q) ly_81 ?_
  refine r_aload_n hP d53_25 rfl ?_
  refine r_getr (a := (s + 1)) hP d53_26 fr_7_60 rfl (lt_8 hs) (rt_8_0 hs) ?_
  refine r_iconst (v := nI 0) hP d53_29 rfl ?_
  refine r_aload_n hP d53_30 rfl ?_
  refine r_getr (a := 84) hP d53_31 fr_7_20 rfl ly_81 rg_81_4 ?_
  refine r_iconst (v := nI 0) hP d53_34 rfl ?_
  refine r_aaload (b := (85 + (nI 0).toNatClampNeg)) hP d53_35 (by decide) ly_84 hi35 (rg2_84 (vp_lt hi35)) ?_
  refine r_iconst (v := nI 0) hP d53_36 rfl ?_
  refine r_bipush (v := nI 121) hP d53_37 rfl ?_
  refine r_copy (sp' := 0) (dp' := 0) (m' := 121) hP d53_39 cr_7_63 (lt_8_0 hs) (ly2_84 (vp_lt hi35)) (by decide) (by decide) (by decide) rfl rfl rfl (by decide) (by decide) (by decide) ?_
  exact r_vret hP d53_42 rfl k
theorem d54_0 : decode (xB 54) 0 = .ok (.aload_n 0, 1) := by decide +kernel
theorem d54_1 : decode (xB 54) 1 = .ok (.getfield 45, 3) := by decide +kernel
theorem d54_4 : decode (xB 54) 4 = .ok (.iconst (-1), 1) := by decide +kernel
theorem d54_5 : decode (xB 54) 5 = .ok (.if_icmp .ne 13, 3) := by decide +kernel
theorem d54_8 : decode (xB 54) 8 = .ok (.aload_n 0, 1) := by decide +kernel
theorem d54_9 : decode (xB 54) 9 = .ok (.getfield 33, 3) := by decide +kernel
theorem d54_12 : decode (xB 54) 12 = .ok (.getfield 69, 3) := by decide +kernel
theorem d54_15 : decode (xB 54) 15 = .ok (.goto 18, 3) := by decide +kernel
theorem d54_18 : decode (xB 54) 18 = .ok (.aload_n 0, 1) := by decide +kernel
theorem d54_19 : decode (xB 54) 19 = .ok (.getfield 33, 3) := by decide +kernel
theorem d54_22 : decode (xB 54) 22 = .ok (.getfield 69, 3) := by decide +kernel
theorem d54_25 : decode (xB 54) 25 = .ok (.aload_n 0, 1) := by decide +kernel
theorem d54_26 : decode (xB 54) 26 = .ok (.getfield 33, 3) := by decide +kernel
theorem d54_29 : decode (xB 54) 29 = .ok (.getfield 69, 3) := by decide +kernel
theorem d54_32 : decode (xB 54) 32 = .ok (.imul, 1) := by decide +kernel
theorem d54_33 : decode (xB 54) 33 = .ok (.istore_n 1, 1) := by decide +kernel
theorem d54_34 : decode (xB 54) 34 = .ok (.iconst 0, 1) := by decide +kernel
theorem d54_35 : decode (xB 54) 35 = .ok (.istore_n 2, 1) := by decide +kernel
theorem d54_36 : decode (xB 54) 36 = .ok (.aload_n 0, 1) := by decide +kernel
theorem d54_37 : decode (xB 54) 37 = .ok (.getfield 27, 3) := by decide +kernel
theorem d54_40 : decode (xB 54) 40 = .ok (.iconst 0, 1) := by decide +kernel
theorem d54_41 : decode (xB 54) 41 = .ok (.iconst 0, 1) := by decide +kernel
theorem d54_42 : decode (xB 54) 42 = .ok (.iastore, 1) := by decide +kernel
theorem d54_43 : decode (xB 54) 43 = .ok (.iconst 0, 1) := by decide +kernel
theorem d54_44 : decode (xB 54) 44 = .ok (.istore_n 3, 1) := by decide +kernel
theorem d54_45 : decode (xB 54) 45 = .ok (.iload_n 3, 1) := by decide +kernel
theorem d54_46 : decode (xB 54) 46 = .ok (.ldc 74, 2) := by decide +kernel
theorem d54_48 : decode (xB 54) 48 = .ok (.if_icmp .ge 138, 3) := by decide +kernel
theorem d54_51 : decode (xB 54) 51 = .ok (.iload_n 2, 1) := by decide +kernel
theorem d54_52 : decode (xB 54) 52 = .ok (.ifCond .lt 134, 3) := by decide +kernel
theorem d54_55 : decode (xB 54) 55 = .ok (.aload_n 0, 1) := by decide +kernel
theorem d54_56 : decode (xB 54) 56 = .ok (.getfield 23, 3) := by decide +kernel
theorem d54_59 : decode (xB 54) 59 = .ok (.iload_n 2, 1) := by decide +kernel
theorem d54_60 : decode (xB 54) 60 = .ok (.iaload, 1) := by decide +kernel
theorem d54_61 : decode (xB 54) 61 = .ok (.aload_n 0, 1) := by decide +kernel
theorem d54_62 : decode (xB 54) 62 = .ok (.getfield 54, 3) := by decide +kernel
theorem d54_65 : decode (xB 54) 65 = .ok (.iadd, 1) := by decide +kernel
theorem d54_66 : decode (xB 54) 66 = .ok (.iload_n 2, 1) := by decide +kernel
theorem d54_67 : decode (xB 54) 67 = .ok (.isub, 1) := by decide +kernel
theorem d54_68 : decode (xB 54) 68 = .ok (.aload_n 0, 1) := by decide +kernel
theorem d54_69 : decode (xB 54) 69 = .ok (.getfield 57, 3) := by decide +kernel
theorem d54_72 : decode (xB 54) 72 = .ok (.if_icmp .le 7, 3) := by decide +kernel
theorem d54_75 : decode (xB 54) 75 = .ok (.iconst 1, 1) := by decide +kernel
theorem d54_76 : decode (xB 54) 76 = .ok (.goto 4, 3) := by decide +kernel
theorem d54_79 : decode (xB 54) 79 = .ok (.iconst 0, 1) := by decide +kernel
theorem d54_80 : decode (xB 54) 80 = .ok (.istore 4, 2) := by decide +kernel
theorem d54_82 : decode (xB 54) 82 = .ok (.iload_n 2, 1) := by decide +kernel
theorem d54_83 : decode (xB 54) 83 = .ok (.aload_n 0, 1) := by decide +kernel
theorem d54_84 : decode (xB 54) 84 = .ok (.getfield 54, 3) := by decide +kernel
theorem d54_87 : decode (xB 54) 87 = .ok (.if_icmp .ge 36, 3) := by decide +kernel
theorem d54_90 : decode (xB 54) 90 = .ok (.aload_n 0, 1) := by decide +kernel
theorem d54_91 : decode (xB 54) 91 = .ok (.getfield 27, 3) := by decide +kernel
theorem d54_94 : decode (xB 54) 94 = .ok (.iload_n 2, 1) := by decide +kernel
theorem d54_95 : decode (xB 54) 95 = .ok (.iaload, 1) := by decide +kernel
theorem d54_96 : decode (xB 54) 96 = .ok (.iload_n 1, 1) := by decide +kernel
theorem d54_97 : decode (xB 54) 97 = .ok (.if_icmp .ge 26, 3) := by decide +kernel
theorem d54_100 : decode (xB 54) 100 = .ok (.iload 4, 2) := by decide +kernel
theorem d54_102 : decode (xB 54) 102 = .ok (.ifCond .eq 21, 3) := by decide +kernel
theorem d54_105 : decode (xB 54) 105 = .ok (.aload_n 0, 1) := by decide +kernel
theorem d54_106 : decode (xB 54) 106 = .ok (.iload_n 2, 1) := by decide +kernel
theorem d54_107 : decode (xB 54) 107 = .ok (.invokevirtual 75, 3) := by decide +kernel
theorem d54_110 : decode (xB 54) 110 = .ok (.iinc 2 1, 3) := by decide +kernel
theorem d54_113 : decode (xB 54) 113 = .ok (.aload_n 0, 1) := by decide +kernel
theorem d54_114 : decode (xB 54) 114 = .ok (.getfield 27, 3) := by decide +kernel
theorem d54_117 : decode (xB 54) 117 = .ok (.iload_n 2, 1) := by decide +kernel
theorem d54_118 : decode (xB 54) 118 = .ok (.iconst 0, 1) := by decide +kernel
theorem d54_119 : decode (xB 54) 119 = .ok (.iastore, 1) := by decide +kernel
theorem d54_120 : decode (xB 54) 120 = .ok (.goto 60, 3) := by decide +kernel
theorem d54_123 : decode (xB 54) 123 = .ok (.iload_n 2, 1) := by decide +kernel
theorem d54_124 : decode (xB 54) 124 = .ok (.aload_n 0, 1) := by decide +kernel
theorem d54_125 : decode (xB 54) 125 = .ok (.getfield 54, 3) := by decide +kernel
theorem d54_128 : decode (xB 54) 128 = .ok (.if_icmp .ne 35, 3) := by decide +kernel
theorem d54_131 : decode (xB 54) 131 = .ok (.iload 4, 2) := by decide +kernel
theorem d54_133 : decode (xB 54) 133 = .ok (.ifCond .eq 30, 3) := by decide +kernel
theorem d54_136 : decode (xB 54) 136 = .ok (.aload_n 0, 1) := by decide +kernel
theorem d54_137 : decode (xB 54) 137 = .ok (.aload_n 0, 1) := by decide +kernel
theorem d54_138 : decode (xB 54) 138 = .ok (.getfield 23, 3) := by decide +kernel
theorem d54_141 : decode (xB 54) 141 = .ok (.iload_n 2, 1) := by decide +kernel
theorem d54_142 : decode (xB 54) 142 = .ok (.iaload, 1) := by decide +kernel
theorem d54_143 : decode (xB 54) 143 = .ok (.putfield 57, 3) := by decide +kernel
theorem d54_146 : decode (xB 54) 146 = .ok (.aload_n 0, 1) := by decide +kernel
theorem d54_147 : decode (xB 54) 147 = .ok (.getfield 27, 3) := by decide +kernel
theorem d54_150 : decode (xB 54) 150 = .ok (.iconst 0, 1) := by decide +kernel
theorem d54_151 : decode (xB 54) 151 = .ok (.aload_n 0, 1) := by decide +kernel
theorem d54_152 : decode (xB 54) 152 = .ok (.getfield 30, 3) := by decide +kernel
theorem d54_155 : decode (xB 54) 155 = .ok (.iconst 0, 1) := by decide +kernel
theorem d54_156 : decode (xB 54) 156 = .ok (.aload_n 0, 1) := by decide +kernel
theorem d54_157 : decode (xB 54) 157 = .ok (.getfield 54, 3) := by decide +kernel
theorem d54_160 : decode (xB 54) 160 = .ok (.invokestatic 63, 3) := by decide +kernel
theorem d54_163 : decode (xB 54) 163 = .ok (.iinc 2 (-1), 3) := by decide +kernel
theorem d54_166 : decode (xB 54) 166 = .ok (.iload_n 2, 1) := by decide +kernel
theorem d54_167 : decode (xB 54) 167 = .ok (.ifCond .lt 13, 3) := by decide +kernel
theorem d54_170 : decode (xB 54) 170 = .ok (.aload_n 0, 1) := by decide +kernel
theorem d54_171 : decode (xB 54) 171 = .ok (.getfield 27, 3) := by decide +kernel
theorem d54_174 : decode (xB 54) 174 = .ok (.iload_n 2, 1) := by decide +kernel
theorem d54_175 : decode (xB 54) 175 = .ok (.dup2, 1) := by decide +kernel
theorem d54_176 : decode (xB 54) 176 = .ok (.iaload, 1) := by decide +kernel
theorem d54_177 : decode (xB 54) 177 = .ok (.iconst 1, 1) := by decide +kernel
theorem d54_178 : decode (xB 54) 178 = .ok (.iadd, 1) := by decide +kernel
theorem d54_179 : decode (xB 54) 179 = .ok (.iastore, 1) := by decide +kernel
theorem d54_180 : decode (xB 54) 180 = .ok (.iinc 3 1, 3) := by decide +kernel
theorem d54_183 : decode (xB 54) 183 = .ok (.goto (-138), 3) := by decide +kernel
theorem d54_186 : decode (xB 54) 186 = .ok (.return_, 1) := by decide +kernel
theorem b54_0 {d : Nat} {P : xPr} {Q : xQr} {r : Nat} {mem : Nat → Nat → Int32} (hP : Cl d none 54 P Q)
    (kt : ¬ (mem 81 9) = (-1) → P 18 [.ref 81, .null, .null, .null, .null] [] (0, 0) (LAY, RFu r, mem)) (kf : (mem 81 9) = (-1) → P 8 [.ref 81, .null, .null, .null, .null] [] (0, 0) (LAY, RFu r, mem)) : P 0 [.ref 81, .null, .null, .null, .null] [] (0, 0) (LAY, RFu r, mem) := by
  refine r_aload_n hP d54_0 rfl ?_
  refine r_geti hP d54_1 fr_7_45 rfl ly_81 ?_
  refine r_iconst (v := (-1)) hP d54_4 rfl ?_
  exact r_icmp (t := 18) hP d54_5 (by decide) kt (fun q => kf (Decidable.of_not_not q))
theorem b54_8 {d : Nat} {P : xPr} {Q : xQr} {r : Nat} {mem : Nat → Nat → Int32} (hP : Cl d none 54 P Q) {v1 : Value} {v2 : Value} {v3 : Value} {v4 : Value}
    (k : P 33 [.ref 81, v1, v2, v3, v4] [.int (mem 26 0)] (0, 0) (LAY, RFu r, mem)) : P 8 [.ref 81, v1, v2, v3, v4] [] (0, 0) (LAY, RFu r, mem) := by
  refine r_aload_n hP d54_8 rfl ?_
  refine r_getr (a := 26) hP d54_9 fr_7_33 rfl ly_81 rg_81_1 ?_
  refine r_geti hP d54_12 fr_7_69 rfl ly_26 ?_
  refine r_goto (t := 33) hP d54_15 (by decide) ?_
  exact k
theorem b54_18 {d : Nat} {P : xPr} {Q : xQr} {r : Nat} {mem : Nat → Nat → Int32} (hP : Cl d none 54 P Q) {v1 : Value} {v2 : Value} {v3 : Value} {v4 : Value}
    (k : P 33 [.ref 81, v1, v2, v3, v4] [.int ((mem 26 0) * (mem 26 0))] (0, 0) (LAY, RFu r, mem)) : P 18 [.ref 81, v1, v2, v3, v4] [] (0, 0) (LAY, RFu r, mem) := by
  refine r_aload_n hP d54_18 rfl ?_
  refine r_getr (a := 26) hP d54_19 fr_7_33 rfl ly_81 rg_81_1 ?_
  refine r_geti hP d54_22 fr_7_69 rfl ly_26 ?_
  refine r_aload_n hP d54_25 rfl ?_
  refine r_getr (a := 26) hP d54_26 fr_7_33 rfl ly_81 rg_81_1 ?_
  refine r_geti hP d54_29 fr_7_69 rfl ly_26 ?_
  refine r_imul hP d54_32 ?_
  exact k
theorem b54_33 {d : Nat} {P : xPr} {Q : xQr} {r : Nat} {mem : Nat → Nat → Int32} (hP : Cl d none 54 P Q) {v1 : Value} {v2 : Value} {v3 : Value} {v4 : Value} {y0 : Int32} (hi42 : vp_in (nI 0) 6)
    (k : P 45 [.ref 81, .int y0, .int (nI 0), .int (nI 0), v4] [] (0, 0) (LAY, RFu r, xu2 mem 92 (nI 0).toNatClampNeg (nI 0))) : P 33 [.ref 81, v1, v2, v3, v4] [.int y0] (0, 0) (LAY, RFu r, mem) := by
  refine r_istore_n (L' := [.ref 81, .int y0, v2, v3, v4]) hP d54_33 (Nat.le_of_ble_eq_true rfl) rfl ?_
  refine r_iconst (v := nI 0) hP d54_34 rfl ?_
  refine r_istore_n (L' := [.ref 81, .int y0, .int (nI 0), v3, v4]) hP d54_35 (Nat.le_of_ble_eq_true rfl) rfl ?_
  refine r_aload_n hP d54_36 rfl ?_
  refine r_getr (a := 92) hP d54_37 fr_7_27 rfl ly_81 rg_81_6 ?_
  refine r_iconst (v := nI 0) hP d54_40 rfl ?_
  refine r_iconst (v := nI 0) hP d54_41 rfl ?_
  refine r_iastore hP d54_42 ly_92 hi42 ?_
  refine r_iconst (v := nI 0) hP d54_43 rfl ?_
  refine r_istore_n (L' := [.ref 81, .int y0, .int (nI 0), .int (nI 0), v4]) hP d54_44 (Nat.le_of_ble_eq_true rfl) rfl ?_
  exact k
theorem b54_45 {d : Nat} {P : xPr} {Q : xQr} {r : Nat} {mem : Nat → Nat → Int32} (hP : Cl d none 54 P Q) {x1 : Int32} {x2 : Int32} {x3 : Int32} {v4 : Value}
    (kt : (nI 1000000) ≤ x3 → P 186 [.ref 81, .int x1, .int x2, .int x3, v4] [] (0, 0) (LAY, RFu r, mem)) (kf : ¬ (nI 1000000) ≤ x3 → P 51 [.ref 81, .int x1, .int x2, .int x3, v4] [] (0, 0) (LAY, RFu r, mem)) : P 45 [.ref 81, .int x1, .int x2, .int x3, v4] [] (0, 0) (LAY, RFu r, mem) := by
  refine r_iload_n hP d54_45 rfl ?_
  refine r_ldc (v := nI 1000000) hP d54_46 rfl ?_
  exact r_icmp (t := 186) hP d54_48 (by decide) kt kf
theorem b54_51 {d : Nat} {P : xPr} {Q : xQr} {r : Nat} {mem : Nat → Nat → Int32} (hP : Cl d none 54 P Q) {x1 : Int32} {x2 : Int32} {x3 : Int32} {v4 : Value}
    (kt : x2 < 0 → P 186 [.ref 81, .int x1, .int x2, .int x3, v4] [] (0, 0) (LAY, RFu r, mem)) (kf : ¬ x2 < 0 → P 55 [.ref 81, .int x1, .int x2, .int x3, v4] [] (0, 0) (LAY, RFu r, mem)) : P 51 [.ref 81, .int x1, .int x2, .int x3, v4] [] (0, 0) (LAY, RFu r, mem) := by
  refine r_iload_n hP d54_51 rfl ?_
  exact r_if (t := 186) hP d54_52 (by decide) kt kf
theorem b54_55 {d : Nat} {P : xPr} {Q : xQr} {r : Nat} {mem : Nat → Nat → Int32} (hP : Cl d none 54 P Q) {x1 : Int32} {x2 : Int32} {x3 : Int32} {v4 : Value} (hi60 : vp_in x2 6)
    (kt : (((mem 91 x2.toNatClampNeg) + (mem 81 10)) - x2) ≤ (mem 81 0) → P 79 [.ref 81, .int x1, .int x2, .int x3, v4] [] (0, 0) (LAY, RFu r, mem)) (kf : ¬ (((mem 91 x2.toNatClampNeg) + (mem 81 10)) - x2) ≤ (mem 81 0) → P 75 [.ref 81, .int x1, .int x2, .int x3, v4] [] (0, 0) (LAY, RFu r, mem)) : P 55 [.ref 81, .int x1, .int x2, .int x3, v4] [] (0, 0) (LAY, RFu r, mem) := by
  refine r_aload_n hP d54_55 rfl ?_
  refine r_getr (a := 91) hP d54_56 fr_7_23 rfl ly_81 rg_81_5 ?_
  refine r_iload_n hP d54_59 rfl ?_
  refine r_iaload hP d54_60 ly_91 hi60 ?_
  refine r_aload_n hP d54_61 rfl ?_
  refine r_geti hP d54_62 fr_7_54 rfl ly_81 ?_
  refine r_iadd hP d54_65 ?_
  refine r_iload_n hP d54_66 rfl ?_
  refine r_isub hP d54_67 ?_
  refine r_aload_n hP d54_68 rfl ?_
  refine r_geti hP d54_69 fr_7_57 rfl ly_81 ?_
  exact r_icmp (t := 79) hP d54_72 (by decide) kt kf
theorem b54_75 {d : Nat} {P : xPr} {Q : xQr} {r : Nat} {mem : Nat → Nat → Int32} (hP : Cl d none 54 P Q) {x1 : Int32} {x2 : Int32} {x3 : Int32} {v4 : Value}
    (k : P 80 [.ref 81, .int x1, .int x2, .int x3, v4] [.int (nI 1)] (0, 0) (LAY, RFu r, mem)) : P 75 [.ref 81, .int x1, .int x2, .int x3, v4] [] (0, 0) (LAY, RFu r, mem) := by
  refine r_iconst (v := nI 1) hP d54_75 rfl ?_
  refine r_goto (t := 80) hP d54_76 (by decide) ?_
  exact k
theorem b54_79 {d : Nat} {P : xPr} {Q : xQr} {r : Nat} {mem : Nat → Nat → Int32} (hP : Cl d none 54 P Q) {x1 : Int32} {x2 : Int32} {x3 : Int32} {v4 : Value}
    (k : P 80 [.ref 81, .int x1, .int x2, .int x3, v4] [.int (nI 0)] (0, 0) (LAY, RFu r, mem)) : P 79 [.ref 81, .int x1, .int x2, .int x3, v4] [] (0, 0) (LAY, RFu r, mem) := by
  refine r_iconst (v := nI 0) hP d54_79 rfl ?_
  exact k
theorem b54_80 {d : Nat} {P : xPr} {Q : xQr} {r : Nat} {mem : Nat → Nat → Int32} (hP : Cl d none 54 P Q) {x1 : Int32} {x2 : Int32} {x3 : Int32} {v4 : Value} {y0 : Int32}
    (kt : (mem 81 10) ≤ x2 → P 123 [.ref 81, .int x1, .int x2, .int x3, .int y0] [] (0, 0) (LAY, RFu r, mem)) (kf : ¬ (mem 81 10) ≤ x2 → P 90 [.ref 81, .int x1, .int x2, .int x3, .int y0] [] (0, 0) (LAY, RFu r, mem)) : P 80 [.ref 81, .int x1, .int x2, .int x3, v4] [.int y0] (0, 0) (LAY, RFu r, mem) := by
  refine r_istore (L' := [.ref 81, .int x1, .int x2, .int x3, .int y0]) hP d54_80 (Nat.le_of_ble_eq_true rfl) rfl ?_
  refine r_iload_n hP d54_82 rfl ?_
  refine r_aload_n hP d54_83 rfl ?_
  refine r_geti hP d54_84 fr_7_54 rfl ly_81 ?_
  exact r_icmp (t := 123) hP d54_87 (by decide) kt kf
theorem b54_90 {d : Nat} {P : xPr} {Q : xQr} {r : Nat} {mem : Nat → Nat → Int32} (hP : Cl d none 54 P Q) {x1 : Int32} {x2 : Int32} {x3 : Int32} {x4 : Int32} (hi95 : vp_in x2 6)
    (kt : x1 ≤ (mem 92 x2.toNatClampNeg) → P 123 [.ref 81, .int x1, .int x2, .int x3, .int x4] [] (0, 0) (LAY, RFu r, mem)) (kf : ¬ x1 ≤ (mem 92 x2.toNatClampNeg) → P 100 [.ref 81, .int x1, .int x2, .int x3, .int x4] [] (0, 0) (LAY, RFu r, mem)) : P 90 [.ref 81, .int x1, .int x2, .int x3, .int x4] [] (0, 0) (LAY, RFu r, mem) := by
  refine r_aload_n hP d54_90 rfl ?_
  refine r_getr (a := 92) hP d54_91 fr_7_27 rfl ly_81 rg_81_6 ?_
  refine r_iload_n hP d54_94 rfl ?_
  refine r_iaload hP d54_95 ly_92 hi95 ?_
  refine r_iload_n hP d54_96 rfl ?_
  exact r_icmp (t := 123) hP d54_97 (by decide) kt kf
theorem b54_100 {d : Nat} {P : xPr} {Q : xQr} {r : Nat} {mem : Nat → Nat → Int32} (hP : Cl d none 54 P Q) {x1 : Int32} {x2 : Int32} {x3 : Int32} {x4 : Int32}
    (kt : x4 = 0 → P 123 [.ref 81, .int x1, .int x2, .int x3, .int x4] [] (0, 0) (LAY, RFu r, mem)) (kf : ¬ x4 = 0 → P 105 [.ref 81, .int x1, .int x2, .int x3, .int x4] [] (0, 0) (LAY, RFu r, mem)) : P 100 [.ref 81, .int x1, .int x2, .int x3, .int x4] [] (0, 0) (LAY, RFu r, mem) := by
  refine r_iload hP d54_100 rfl ?_
  exact r_if (t := 123) hP d54_102 (by decide) kt kf
theorem b54_105 {d : Nat} {P : xPr} {Q : xQr} {r : Nat} {mem : Nat → Nat → Int32} (hP : Cl d none 54 P Q) {x1 : Int32} {x2 : Int32} {x3 : Int32} {v4 : Value}
    (k : xCall d 55 [.ref 81, .int x2] (LAY, RFu r, mem) (Bk P 107 [.ref 81, .int x1, .int x2, .int x3, v4] [] (0, 0))) : P 105 [.ref 81, .int x1, .int x2, .int x3, v4] [] (0, 0) (LAY, RFu r, mem) := by
  refine r_aload_n hP d54_105 rfl ?_
  refine r_iload_n hP d54_106 rfl ?_
  exact r_callv (As := [.int x2]) (S := []) hP d54_107 cr_7_75 (by decide +kernel) rfl (by simp [Value.category]) rfl ly_81 (by simp [Value.category]) ⟨Nat.zero_le _, Nat.zero_le _⟩ k
theorem b54_110 {d : Nat} {P : xPr} {Q : xQr} {r : Nat} {mem : Nat → Nat → Int32} (hP : Cl d none 54 P Q) {x1 : Int32} {x2 : Int32} {x3 : Int32} {v4 : Value} (hi119 : vp_in (x2 + nI 1) 6)
    (k : P 180 [.ref 81, .int x1, .int (x2 + nI 1), .int x3, v4] [] (0, 0) (LAY, RFu r, xu2 mem 92 (x2 + nI 1).toNatClampNeg (nI 0))) : P 110 [.ref 81, .int x1, .int x2, .int x3, v4] [] (0, 0) (LAY, RFu r, mem) := by
  refine r_iinc (v := nI 1) (L' := [.ref 81, .int x1, .int (x2 + nI 1), .int x3, v4]) hP d54_110 rfl rfl rfl ?_
  refine r_aload_n hP d54_113 rfl ?_
  refine r_getr (a := 92) hP d54_114 fr_7_27 rfl ly_81 rg_81_6 ?_
  refine r_iload_n hP d54_117 rfl ?_
  refine r_iconst (v := nI 0) hP d54_118 rfl ?_
  refine r_iastore hP d54_119 ly_92 hi119 ?_
  refine r_goto (t := 180) hP d54_120 (by decide) ?_
  exact k
theorem b54_123 {d : Nat} {P : xPr} {Q : xQr} {r : Nat} {mem : Nat → Nat → Int32} (hP : Cl d none 54 P Q) {x1 : Int32} {x2 : Int32} {x3 : Int32} {x4 : Int32}
    (kt : ¬ x2 = (mem 81 10) → P 163 [.ref 81, .int x1, .int x2, .int x3, .int x4] [] (0, 0) (LAY, RFu r, mem)) (kf : x2 = (mem 81 10) → P 131 [.ref 81, .int x1, .int x2, .int x3, .int x4] [] (0, 0) (LAY, RFu r, mem)) : P 123 [.ref 81, .int x1, .int x2, .int x3, .int x4] [] (0, 0) (LAY, RFu r, mem) := by
  refine r_iload_n hP d54_123 rfl ?_
  refine r_aload_n hP d54_124 rfl ?_
  refine r_geti hP d54_125 fr_7_54 rfl ly_81 ?_
  exact r_icmp (t := 163) hP d54_128 (by decide) kt (fun q => kf (Decidable.of_not_not q))
theorem b54_131 {d : Nat} {P : xPr} {Q : xQr} {r : Nat} {mem : Nat → Nat → Int32} (hP : Cl d none 54 P Q) {x1 : Int32} {x2 : Int32} {x3 : Int32} {x4 : Int32}
    (kt : x4 = 0 → P 163 [.ref 81, .int x1, .int x2, .int x3, .int x4] [] (0, 0) (LAY, RFu r, mem)) (kf : ¬ x4 = 0 → P 136 [.ref 81, .int x1, .int x2, .int x3, .int x4] [] (0, 0) (LAY, RFu r, mem)) : P 131 [.ref 81, .int x1, .int x2, .int x3, .int x4] [] (0, 0) (LAY, RFu r, mem) := by
  refine r_iload hP d54_131 rfl ?_
  exact r_if (t := 163) hP d54_133 (by decide) kt kf
theorem b54_136 {d : Nat} {P : xPr} {Q : xQr} {r : Nat} {mem : Nat → Nat → Int32} (hP : Cl d none 54 P Q) {x1 : Int32} {x2 : Int32} {x3 : Int32} {v4 : Value} (hi142 : vp_in x2 6) (hc160 : ¬ ((xu2 mem 81 0 (mem 91 x2.toNatClampNeg)) 81 10) < 0) (hl160 : ((xu2 mem 81 0 (mem 91 x2.toNatClampNeg)) 81 10).toNatClampNeg ≤ 6)
    (k : P 163 [.ref 81, .int x1, .int x2, .int x3, v4] [] (0, 0) (LAY, RFu r, xuA (xu2 mem 81 0 (mem 91 x2.toNatClampNeg)) 93 (va_cpy ((xu2 mem 81 0 (mem 91 x2.toNatClampNeg)) 92) ((xu2 mem 81 0 (mem 91 x2.toNatClampNeg)) 93) 0 0 ((xu2 mem 81 0 (mem 91 x2.toNatClampNeg)) 81 10).toNatClampNeg))) : P 136 [.ref 81, .int x1, .int x2, .int x3, v4] [] (0, 0) (LAY, RFu r, mem) := by
  refine r_aload_n hP d54_136 rfl ?_
  refine r_aload_n hP d54_137 rfl ?_
  refine r_getr (a := 91) hP d54_138 fr_7_23 rfl ly_81 rg_81_5 ?_
  refine r_iload_n hP d54_141 rfl ?_
  refine r_iaload hP d54_142 ly_91 hi142 ?_
  refine r_puti hP d54_143 fr_7_57 rfl (fun q => by cases q) ly_81 ?_
  refine r_aload_n hP d54_146 rfl ?_
  refine r_getr (a := 92) hP d54_147 fr_7_27 rfl ly_81 rg_81_6 ?_
  refine r_iconst (v := nI 0) hP d54_150 rfl ?_
  refine r_aload_n hP d54_151 rfl ?_
  refine r_getr (a := 93) hP d54_152 fr_7_30 rfl ly_81 rg_81_7 ?_
  refine r_iconst (v := nI 0) hP d54_155 rfl ?_
  refine r_aload_n hP d54_156 rfl ?_
  refine r_geti hP d54_157 fr_7_54 rfl ly_81 ?_
  refine r_copy (sp' := 0) (dp' := 0) (m' := ((xu2 mem 81 0 (mem 91 x2.toNatClampNeg)) 81 10).toNatClampNeg) hP d54_160 cr_7_63 ly_92 ly_93 (by decide) (by decide) hc160 rfl rfl rfl (by rw [Nat.zero_add]; exact hl160) (by rw [Nat.zero_add]; exact hl160) (by simp [Value.category]) ?_
  exact k
theorem b54_163 {d : Nat} {P : xPr} {Q : xQr} {r : Nat} {mem : Nat → Nat → Int32} (hP : Cl d none 54 P Q) {x1 : Int32} {x2 : Int32} {x3 : Int32} {v4 : Value}
    (kt : (x2 + (-1)) < 0 → P 180 [.ref 81, .int x1, .int (x2 + (-1)), .int x3, v4] [] (0, 0) (LAY, RFu r, mem)) (kf : ¬ (x2 + (-1)) < 0 → P 170 [.ref 81, .int x1, .int (x2 + (-1)), .int x3, v4] [] (0, 0) (LAY, RFu r, mem)) : P 163 [.ref 81, .int x1, .int x2, .int x3, v4] [] (0, 0) (LAY, RFu r, mem) := by
  refine r_iinc (v := (-1)) (L' := [.ref 81, .int x1, .int (x2 + (-1)), .int x3, v4]) hP d54_163 rfl rfl rfl ?_
  refine r_iload_n hP d54_166 rfl ?_
  exact r_if (t := 180) hP d54_167 (by decide) kt kf
theorem b54_170 {d : Nat} {P : xPr} {Q : xQr} {r : Nat} {mem : Nat → Nat → Int32} (hP : Cl d none 54 P Q) {x1 : Int32} {x2 : Int32} {x3 : Int32} {v4 : Value} (hi176 : vp_in x2 6) (hi179 : vp_in x2 6)
    (k : P 180 [.ref 81, .int x1, .int x2, .int x3, v4] [] (0, 0) (LAY, RFu r, xu2 mem 92 x2.toNatClampNeg ((mem 92 x2.toNatClampNeg) + (nI 1)))) : P 170 [.ref 81, .int x1, .int x2, .int x3, v4] [] (0, 0) (LAY, RFu r, mem) := by
  refine r_aload_n hP d54_170 rfl ?_
  refine r_getr (a := 92) hP d54_171 fr_7_27 rfl ly_81 rg_81_6 ?_
  refine r_iload_n hP d54_174 rfl ?_
  refine r_dup2 hP d54_175 rfl rfl ?_
  refine r_iaload hP d54_176 ly_92 hi176 ?_
  refine r_iconst (v := nI 1) hP d54_177 rfl ?_
  refine r_iadd hP d54_178 ?_
  refine r_iastore hP d54_179 ly_92 hi179 ?_
  exact k
theorem b54_180 {d : Nat} {P : xPr} {Q : xQr} {r : Nat} {mem : Nat → Nat → Int32} (hP : Cl d none 54 P Q) {x1 : Int32} {x2 : Int32} {x3 : Int32} {v4 : Value}
    (k : P 45 [.ref 81, .int x1, .int x2, .int (x3 + nI 1), v4] [] (0, 0) (LAY, RFu r, mem)) : P 180 [.ref 81, .int x1, .int x2, .int x3, v4] [] (0, 0) (LAY, RFu r, mem) := by
  refine r_iinc (v := nI 1) (L' := [.ref 81, .int x1, .int x2, .int (x3 + nI 1), v4]) hP d54_180 rfl rfl rfl ?_
  refine r_goto (t := 45) hP d54_183 (by decide) ?_
  exact k
theorem b54_186 {d : Nat} {P : xPr} {Q : xQr} {r : Nat} {mem : Nat → Nat → Int32} (hP : Cl d none 54 P Q) {v0 : Value} {v1 : Value} {v2 : Value} {v3 : Value} {v4 : Value}
    (k : Q none (LAY, RFu r, mem)) : P 186 [v0, v1, v2, v3, v4] [] (0, 0) (LAY, RFu r, mem) := by
  exact r_vret hP d54_186 rfl k
theorem d55_0 : decode (xB 55) 0 = .ok (.aload_n 0, 1) := by decide +kernel
theorem d55_1 : decode (xB 55) 1 = .ok (.getfield 20, 3) := by decide +kernel
theorem d55_4 : decode (xB 55) 4 = .ok (.iload_n 1, 1) := by decide +kernel
theorem d55_5 : decode (xB 55) 5 = .ok (.aaload, 1) := by decide +kernel
theorem d55_6 : decode (xB 55) 6 = .ok (.iconst 0, 1) := by decide +kernel
theorem d55_7 : decode (xB 55) 7 = .ok (.aload_n 0, 1) := by decide +kernel
theorem d55_8 : decode (xB 55) 8 = .ok (.getfield 12, 3) := by decide +kernel
theorem d55_11 : decode (xB 55) 11 = .ok (.getfield 60, 3) := by decide +kernel
theorem d55_14 : decode (xB 55) 14 = .ok (.iconst 0, 1) := by decide +kernel
theorem d55_15 : decode (xB 55) 15 = .ok (.bipush 121, 2) := by decide +kernel
theorem d55_17 : decode (xB 55) 17 = .ok (.invokestatic 63, 3) := by decide +kernel
theorem d55_20 : decode (xB 55) 20 = .ok (.aload_n 0, 1) := by decide +kernel
theorem d55_21 : decode (xB 55) 21 = .ok (.getfield 33, 3) := by decide +kernel
theorem d55_24 : decode (xB 55) 24 = .ok (.aload_n 0, 1) := by decide +kernel
theorem d55_25 : decode (xB 55) 25 = .ok (.getfield 41, 3) := by decide +kernel
theorem d55_28 : decode (xB 55) 28 = .ok (.aload_n 0, 1) := by decide +kernel
theorem d55_29 : decode (xB 55) 29 = .ok (.aload_n 0, 1) := by decide +kernel
theorem d55_30 : decode (xB 55) 30 = .ok (.getfield 27, 3) := by decide +kernel
theorem d55_33 : decode (xB 55) 33 = .ok (.iload_n 1, 1) := by decide +kernel
theorem d55_34 : decode (xB 55) 34 = .ok (.iaload, 1) := by decide +kernel
theorem d55_35 : decode (xB 55) 35 = .ok (.invokevirtual 79, 3) := by decide +kernel
theorem d55_38 : decode (xB 55) 38 = .ok (.invokevirtual 83, 3) := by decide +kernel
theorem d55_41 : decode (xB 55) 41 = .ok (.aload_n 0, 1) := by decide +kernel
theorem d55_42 : decode (xB 55) 42 = .ok (.getfield 45, 3) := by decide +kernel
theorem d55_45 : decode (xB 55) 45 = .ok (.iconst (-1), 1) := by decide +kernel
theorem d55_46 : decode (xB 55) 46 = .ok (.if_icmp .eq 24, 3) := by decide +kernel
theorem d55_49 : decode (xB 55) 49 = .ok (.aload_n 0, 1) := by decide +kernel
theorem d55_50 : decode (xB 55) 50 = .ok (.getfield 33, 3) := by decide +kernel
theorem d55_53 : decode (xB 55) 53 = .ok (.aload_n 0, 1) := by decide +kernel
theorem d55_54 : decode (xB 55) 54 = .ok (.getfield 45, 3) := by decide +kernel
theorem d55_57 : decode (xB 55) 57 = .ok (.aload_n 0, 1) := by decide +kernel
theorem d55_58 : decode (xB 55) 58 = .ok (.aload_n 0, 1) := by decide +kernel
theorem d55_59 : decode (xB 55) 59 = .ok (.getfield 27, 3) := by decide +kernel
theorem d55_62 : decode (xB 55) 62 = .ok (.iload_n 1, 1) := by decide +kernel
theorem d55_63 : decode (xB 55) 63 = .ok (.iaload, 1) := by decide +kernel
theorem d55_64 : decode (xB 55) 64 = .ok (.invokevirtual 87, 3) := by decide +kernel
theorem d55_67 : decode (xB 55) 67 = .ok (.invokevirtual 83, 3) := by decide +kernel
theorem d55_70 : decode (xB 55) 70 = .ok (.aload_n 0, 1) := by decide +kernel
theorem d55_71 : decode (xB 55) 71 = .ok (.getfield 37, 3) := by decide +kernel
theorem d55_74 : decode (xB 55) 74 = .ok (.aload_n 0, 1) := by decide +kernel
theorem d55_75 : decode (xB 55) 75 = .ok (.getfield 33, 3) := by decide +kernel
theorem d55_78 : decode (xB 55) 78 = .ok (.aload_n 0, 1) := by decide +kernel
theorem d55_79 : decode (xB 55) 79 = .ok (.getfield 12, 3) := by decide +kernel
theorem d55_82 : decode (xB 55) 82 = .ok (.invokevirtual 90, 3) := by decide +kernel
theorem d55_85 : decode (xB 55) 85 = .ok (.pop, 1) := by decide +kernel
theorem d55_86 : decode (xB 55) 86 = .ok (.aload_n 0, 1) := by decide +kernel
theorem d55_87 : decode (xB 55) 87 = .ok (.getfield 45, 3) := by decide +kernel
theorem d55_90 : decode (xB 55) 90 = .ok (.iconst (-1), 1) := by decide +kernel
theorem d55_91 : decode (xB 55) 91 = .ok (.if_icmp .ne 26, 3) := by decide +kernel
theorem d55_94 : decode (xB 55) 94 = .ok (.aload_n 0, 1) := by decide +kernel
theorem d55_95 : decode (xB 55) 95 = .ok (.getfield 12, 3) := by decide +kernel
theorem d55_98 : decode (xB 55) 98 = .ok (.aload_n 0, 1) := by decide +kernel
theorem d55_99 : decode (xB 55) 99 = .ok (.getfield 41, 3) := by decide +kernel
theorem d55_102 : decode (xB 55) 102 = .ok (.invokevirtual 96, 3) := by decide +kernel
theorem d55_105 : decode (xB 55) 105 = .ok (.iconst 2, 1) := by decide +kernel
theorem d55_106 : decode (xB 55) 106 = .ok (.if_icmp .ne 7, 3) := by decide +kernel
theorem d55_109 : decode (xB 55) 109 = .ok (.iconst 1, 1) := by decide +kernel
theorem d55_110 : decode (xB 55) 110 = .ok (.goto 22, 3) := by decide +kernel
theorem d55_113 : decode (xB 55) 113 = .ok (.iconst 0, 1) := by decide +kernel
theorem d55_114 : decode (xB 55) 114 = .ok (.goto 18, 3) := by decide +kernel
theorem d55_117 : decode (xB 55) 117 = .ok (.aload_n 0, 1) := by decide +kernel
theorem d55_118 : decode (xB 55) 118 = .ok (.getfield 12, 3) := by decide +kernel
theorem d55_121 : decode (xB 55) 121 = .ok (.aload_n 0, 1) := by decide +kernel
theorem d55_122 : decode (xB 55) 122 = .ok (.getfield 41, 3) := by decide +kernel
theorem d55_125 : decode (xB 55) 125 = .ok (.aload_n 0, 1) := by decide +kernel
theorem d55_126 : decode (xB 55) 126 = .ok (.getfield 45, 3) := by decide +kernel
theorem d55_129 : decode (xB 55) 129 = .ok (.invokevirtual 99, 3) := by decide +kernel
theorem d55_132 : decode (xB 55) 132 = .ok (.istore_n 2, 1) := by decide +kernel
theorem d55_133 : decode (xB 55) 133 = .ok (.aload_n 0, 1) := by decide +kernel
theorem d55_134 : decode (xB 55) 134 = .ok (.getfield 23, 3) := by decide +kernel
theorem d55_137 : decode (xB 55) 137 = .ok (.iload_n 1, 1) := by decide +kernel
theorem d55_138 : decode (xB 55) 138 = .ok (.iconst 1, 1) := by decide +kernel
theorem d55_139 : decode (xB 55) 139 = .ok (.iadd, 1) := by decide +kernel
theorem d55_140 : decode (xB 55) 140 = .ok (.aload_n 0, 1) := by decide +kernel
theorem d55_141 : decode (xB 55) 141 = .ok (.getfield 23, 3) := by decide +kernel
theorem d55_144 : decode (xB 55) 144 = .ok (.iload_n 1, 1) := by decide +kernel
theorem d55_145 : decode (xB 55) 145 = .ok (.iaload, 1) := by decide +kernel
theorem d55_146 : decode (xB 55) 146 = .ok (.iload_n 2, 1) := by decide +kernel
theorem d55_147 : decode (xB 55) 147 = .ok (.ifCond .eq 7, 3) := by decide +kernel
theorem d55_150 : decode (xB 55) 150 = .ok (.iconst 1, 1) := by decide +kernel
theorem d55_151 : decode (xB 55) 151 = .ok (.goto 4, 3) := by decide +kernel
theorem d55_154 : decode (xB 55) 154 = .ok (.iconst 0, 1) := by decide +kernel
theorem d55_155 : decode (xB 55) 155 = .ok (.iadd, 1) := by decide +kernel
theorem d55_156 : decode (xB 55) 156 = .ok (.iastore, 1) := by decide +kernel
theorem d55_157 : decode (xB 55) 157 = .ok (.aload_n 0, 1) := by decide +kernel
theorem d55_158 : decode (xB 55) 158 = .ok (.getfield 12, 3) := by decide +kernel
theorem d55_161 : decode (xB 55) 161 = .ok (.getfield 60, 3) := by decide +kernel
theorem d55_164 : decode (xB 55) 164 = .ok (.iconst 0, 1) := by decide +kernel
theorem d55_165 : decode (xB 55) 165 = .ok (.aload_n 0, 1) := by decide +kernel
theorem d55_166 : decode (xB 55) 166 = .ok (.getfield 20, 3) := by decide +kernel
theorem d55_169 : decode (xB 55) 169 = .ok (.iload_n 1, 1) := by decide +kernel
theorem d55_170 : decode (xB 55) 170 = .ok (.iconst 1, 1) := by decide +kernel
theorem d55_171 : decode (xB 55) 171 = .ok (.iadd, 1) := by decide +kernel
theorem d55_172 : decode (xB 55) 172 = .ok (.aaload, 1) := by decide +kernel
theorem d55_173 : decode (xB 55) 173 = .ok (.iconst 0, 1) := by decide +kernel
theorem d55_174 : decode (xB 55) 174 = .ok (.bipush 121, 2) := by decide +kernel
theorem d55_176 : decode (xB 55) 176 = .ok (.invokestatic 63, 3) := by decide +kernel
theorem d55_179 : decode (xB 55) 179 = .ok (.return_, 1) := by decide +kernel
theorem b55_0 {d : Nat} {P : xPr} {Q : xQr} {r : Nat} {mem : Nat → Nat → Int32} (hP : Cl d none 55 P Q) {p0 : Int32} (hi5 : vp_in p0 6) (hi34 : vp_in p0 6)
    (k : xCall d 56 [.ref 81, .int ((xuA mem 83 (va_cpy (mem (85 + p0.toNatClampNeg)) (mem 83) 0 0 121)) 92 p0.toNatClampNeg)] (LAY, RFu r, xuA mem 83 (va_cpy (mem (85 + p0.toNatClampNeg)) (mem 83) 0 0 121)) (Bk P 35 [.ref 81, .int p0, .null] [.int ((xuA mem 83 (va_cpy (mem (85 + p0.toNatClampNeg)) (mem 83) 0 0 121)) 81 8), .ref 26] (0, 0))) : P 0 [.ref 81, .int p0, .null] [] (0, 0) (LAY, RFu r, mem) := by
  refine r_aload_n hP d55_0 rfl ?_
  refine r_getr (a := 84) hP d55_1 fr_7_20 rfl ly_81 rg_81_4 ?_
  refine r_iload_n hP d55_4 rfl ?_
  refine r_aaload (b := (85 + p0.toNatClampNeg)) hP d55_5 (by decide) ly_84 hi5 (rg2_84 (vp_lt hi5)) ?_
  refine r_iconst (v := nI 0) hP d55_6 rfl ?_
  refine r_aload_n hP d55_7 rfl ?_
  refine r_getr (a := 82) hP d55_8 fr_7_12 rfl ly_81 rg_81_3 ?_
  refine r_getr (a := 83) hP d55_11 fr_7_60 rfl ly_82 rg_82_0 ?_
  refine r_iconst (v := nI 0) hP d55_14 rfl ?_
  refine r_bipush (v := nI 121) hP d55_15 rfl ?_
  refine r_copy (sp' := 0) (dp' := 0) (m' := 121) hP d55_17 cr_7_63 (ly2_84 (vp_lt hi5)) ly_83 (by decide) (by decide) (by decide) rfl rfl rfl (by decide) (by decide) (by decide) ?_
  refine r_aload_n hP d55_20 rfl ?_
  refine r_getr (a := 26) hP d55_21 fr_7_33 rfl ly_81 rg_81_1 ?_
  refine r_aload_n hP d55_24 rfl ?_
  refine r_geti hP d55_25 fr_7_41 rfl ly_81 ?_
  refine r_aload_n hP d55_28 rfl ?_
  refine r_aload_n hP d55_29 rfl ?_
  refine r_getr (a := 92) hP d55_30 fr_7_27 rfl ly_81 rg_81_6 ?_
  refine r_iload_n hP d55_33 rfl ?_
  refine r_iaload hP d55_34 ly_92 hi34 ?_
  exact r_callv (As := [.int ((xuA mem 83 (va_cpy (mem (85 + p0.toNatClampNeg)) (mem 83) 0 0 121)) 92 p0.toNatClampNeg)]) (S := [.int ((xuA mem 83 (va_cpy (mem (85 + p0.toNatClampNeg)) (mem 83) 0 0 121)) 81 8), .ref 26]) hP d55_35 cr_7_79 (by decide +kernel) rfl (by simp [Value.category]) rfl ly_81 (by simp [Value.category]) ⟨Nat.zero_le _, Nat.zero_le _⟩ k
theorem b55_38 {d : Nat} {P : xPr} {Q : xQr} {r : Nat} {mem : Nat → Nat → Int32} (hP : Cl d none 55 P Q) {x1 : Int32} {v2 : Value} {y1 : Int32} {y2 : Int32}
    (k : xCall d 91 [.ref 26, .int y1, .int y2] (LAY, RFu r, mem) (Bk P 38 [.ref 81, .int x1, v2] [] (0, 0))) : P 38 [.ref 81, .int x1, v2] [.int y2, .int y1, .ref 26] (0, 0) (LAY, RFu r, mem) := by
  exact r_callv (As := [.int y1, .int y2]) (S := []) hP d55_38 cr_7_83 (by decide +kernel) rfl (by simp [Value.category]) rfl ly_26 (by simp [Value.category]) ⟨Nat.zero_le _, Nat.zero_le _⟩ k
theorem b55_41 {d : Nat} {P : xPr} {Q : xQr} {r : Nat} {mem : Nat → Nat → Int32} (hP : Cl d none 55 P Q) {x1 : Int32} {v2 : Value}
    (kt : (mem 81 9) = (-1) → P 70 [.ref 81, .int x1, v2] [] (0, 0) (LAY, RFu r, mem)) (kf : ¬ (mem 81 9) = (-1) → P 49 [.ref 81, .int x1, v2] [] (0, 0) (LAY, RFu r, mem)) : P 41 [.ref 81, .int x1, v2] [] (0, 0) (LAY, RFu r, mem) := by
  refine r_aload_n hP d55_41 rfl ?_
  refine r_geti hP d55_42 fr_7_45 rfl ly_81 ?_
  refine r_iconst (v := (-1)) hP d55_45 rfl ?_
  exact r_icmp (t := 70) hP d55_46 (by decide) kt kf
theorem b55_49 {d : Nat} {P : xPr} {Q : xQr} {r : Nat} {mem : Nat → Nat → Int32} (hP : Cl d none 55 P Q) {x1 : Int32} {v2 : Value} (hi63 : vp_in x1 6)
    (k : xCall d 57 [.ref 81, .int (mem 92 x1.toNatClampNeg)] (LAY, RFu r, mem) (Bk P 64 [.ref 81, .int x1, v2] [.int (mem 81 9), .ref 26] (0, 0))) : P 49 [.ref 81, .int x1, v2] [] (0, 0) (LAY, RFu r, mem) := by
  refine r_aload_n hP d55_49 rfl ?_
  refine r_getr (a := 26) hP d55_50 fr_7_33 rfl ly_81 rg_81_1 ?_
  refine r_aload_n hP d55_53 rfl ?_
  refine r_geti hP d55_54 fr_7_45 rfl ly_81 ?_
  refine r_aload_n hP d55_57 rfl ?_
  refine r_aload_n hP d55_58 rfl ?_
  refine r_getr (a := 92) hP d55_59 fr_7_27 rfl ly_81 rg_81_6 ?_
  refine r_iload_n hP d55_62 rfl ?_
  refine r_iaload hP d55_63 ly_92 hi63 ?_
  exact r_callv (As := [.int (mem 92 x1.toNatClampNeg)]) (S := [.int (mem 81 9), .ref 26]) hP d55_64 cr_7_87 (by decide +kernel) rfl (by simp [Value.category]) rfl ly_81 (by simp [Value.category]) ⟨Nat.zero_le _, Nat.zero_le _⟩ k
theorem b55_67 {d : Nat} {P : xPr} {Q : xQr} {r : Nat} {mem : Nat → Nat → Int32} (hP : Cl d none 55 P Q) {x1 : Int32} {v2 : Value} {y1 : Int32} {y2 : Int32}
    (k : xCall d 91 [.ref 26, .int y1, .int y2] (LAY, RFu r, mem) (Bk P 67 [.ref 81, .int x1, v2] [] (0, 0))) : P 67 [.ref 81, .int x1, v2] [.int y2, .int y1, .ref 26] (0, 0) (LAY, RFu r, mem) := by
  exact r_callv (As := [.int y1, .int y2]) (S := []) hP d55_67 cr_7_83 (by decide +kernel) rfl (by simp [Value.category]) rfl ly_26 (by simp [Value.category]) ⟨Nat.zero_le _, Nat.zero_le _⟩ k
theorem b55_70 {d : Nat} {P : xPr} {Q : xQr} {r : Nat} {mem : Nat → Nat → Int32} (hP : Cl d none 55 P Q) {x1 : Int32} {v2 : Value}
    (k : xCall d 8 [.ref 51, .ref 26, .ref 82] (LAY, RFu r, mem) (Bk P 82 [.ref 81, .int x1, v2] [] (0, 0))) : P 70 [.ref 81, .int x1, v2] [] (0, 0) (LAY, RFu r, mem) := by
  refine r_aload_n hP d55_70 rfl ?_
  refine r_getr (a := 51) hP d55_71 fr_7_37 rfl ly_81 rg_81_2 ?_
  refine r_aload_n hP d55_74 rfl ?_
  refine r_getr (a := 26) hP d55_75 fr_7_33 rfl ly_81 rg_81_1 ?_
  refine r_aload_n hP d55_78 rfl ?_
  refine r_getr (a := 82) hP d55_79 fr_7_12 rfl ly_81 rg_81_3 ?_
  exact r_callv (As := [.ref 26, .ref 82]) (S := []) hP d55_82 cr_7_90 (by decide +kernel) rfl (by simp [Value.category]) rfl ly_51 (by simp [Value.category]) ⟨Nat.zero_le _, Nat.zero_le _⟩ k
theorem b55_85 {d : Nat} {P : xPr} {Q : xQr} {r : Nat} {mem : Nat → Nat → Int32} (hP : Cl d none 55 P Q) {x1 : Int32} {v2 : Value} {y0 : Int32}
    (kt : ¬ (mem 81 9) = (-1) → P 117 [.ref 81, .int x1, v2] [] (0, 0) (LAY, RFu r, mem)) (kf : (mem 81 9) = (-1) → P 94 [.ref 81, .int x1, v2] [] (0, 0) (LAY, RFu r, mem)) : P 85 [.ref 81, .int x1, v2] [.int y0] (0, 0) (LAY, RFu r, mem) := by
  refine r_pop hP d55_85 rfl ?_
  refine r_aload_n hP d55_86 rfl ?_
  refine r_geti hP d55_87 fr_7_45 rfl ly_81 ?_
  refine r_iconst (v := (-1)) hP d55_90 rfl ?_
  exact r_icmp (t := 117) hP d55_91 (by decide) kt (fun q => kf (Decidable.of_not_not q))
theorem b55_94 {d : Nat} {P : xPr} {Q : xQr} {r : Nat} {mem : Nat → Nat → Int32} (hP : Cl d none 55 P Q) {x1 : Int32} {v2 : Value}
    (k : xCall d 61 [.ref 82, .int (mem 81 8)] (LAY, RFu r, mem) (Bk P 102 [.ref 81, .int x1, v2] [] (0, 0))) : P 94 [.ref 81, .int x1, v2] [] (0, 0) (LAY, RFu r, mem) := by
  refine r_aload_n hP d55_94 rfl ?_
  refine r_getr (a := 82) hP d55_95 fr_7_12 rfl ly_81 rg_81_3 ?_
  refine r_aload_n hP d55_98 rfl ?_
  refine r_geti hP d55_99 fr_7_41 rfl ly_81 ?_
  exact r_callv (As := [.int (mem 81 8)]) (S := []) hP d55_102 cr_7_96 (by decide +kernel) rfl (by simp [Value.category]) rfl ly_82 (by simp [Value.category]) ⟨Nat.zero_le _, Nat.zero_le _⟩ k
theorem b55_105 {d : Nat} {P : xPr} {Q : xQr} {r : Nat} {mem : Nat → Nat → Int32} (hP : Cl d none 55 P Q) {x1 : Int32} {v2 : Value} {y0 : Int32}
    (kt : ¬ y0 = (nI 2) → P 113 [.ref 81, .int x1, v2] [] (0, 0) (LAY, RFu r, mem)) (kf : y0 = (nI 2) → P 109 [.ref 81, .int x1, v2] [] (0, 0) (LAY, RFu r, mem)) : P 105 [.ref 81, .int x1, v2] [.int y0] (0, 0) (LAY, RFu r, mem) := by
  refine r_iconst (v := nI 2) hP d55_105 rfl ?_
  exact r_icmp (t := 113) hP d55_106 (by decide) kt (fun q => kf (Decidable.of_not_not q))
theorem b55_109 {d : Nat} {P : xPr} {Q : xQr} {r : Nat} {mem : Nat → Nat → Int32} (hP : Cl d none 55 P Q) {x1 : Int32} {v2 : Value}
    (k : P 132 [.ref 81, .int x1, v2] [.int (nI 1)] (0, 0) (LAY, RFu r, mem)) : P 109 [.ref 81, .int x1, v2] [] (0, 0) (LAY, RFu r, mem) := by
  refine r_iconst (v := nI 1) hP d55_109 rfl ?_
  refine r_goto (t := 132) hP d55_110 (by decide) ?_
  exact k
theorem b55_113 {d : Nat} {P : xPr} {Q : xQr} {r : Nat} {mem : Nat → Nat → Int32} (hP : Cl d none 55 P Q) {x1 : Int32} {v2 : Value}
    (k : P 132 [.ref 81, .int x1, v2] [.int (nI 0)] (0, 0) (LAY, RFu r, mem)) : P 113 [.ref 81, .int x1, v2] [] (0, 0) (LAY, RFu r, mem) := by
  refine r_iconst (v := nI 0) hP d55_113 rfl ?_
  refine r_goto (t := 132) hP d55_114 (by decide) ?_
  exact k
theorem b55_117 {d : Nat} {P : xPr} {Q : xQr} {r : Nat} {mem : Nat → Nat → Int32} (hP : Cl d none 55 P Q) {x1 : Int32} {v2 : Value}
    (k : xCall d 66 [.ref 82, .int (mem 81 8), .int (mem 81 9)] (LAY, RFu r, mem) (Bk P 129 [.ref 81, .int x1, v2] [] (0, 0))) : P 117 [.ref 81, .int x1, v2] [] (0, 0) (LAY, RFu r, mem) := by
  refine r_aload_n hP d55_117 rfl ?_
  refine r_getr (a := 82) hP d55_118 fr_7_12 rfl ly_81 rg_81_3 ?_
  refine r_aload_n hP d55_121 rfl ?_
  refine r_geti hP d55_122 fr_7_41 rfl ly_81 ?_
  refine r_aload_n hP d55_125 rfl ?_
  refine r_geti hP d55_126 fr_7_45 rfl ly_81 ?_
  exact r_callv (As := [.int (mem 81 8), .int (mem 81 9)]) (S := []) hP d55_129 cr_7_99 (by decide +kernel) rfl (by simp [Value.category]) rfl ly_82 (by simp [Value.category]) ⟨Nat.zero_le _, Nat.zero_le _⟩ k
theorem b55_132 {d : Nat} {P : xPr} {Q : xQr} {r : Nat} {mem : Nat → Nat → Int32} (hP : Cl d none 55 P Q) {x1 : Int32} {v2 : Value} {y0 : Int32} (hi145 : vp_in x1 6)
    (kt : y0 = 0 → P 154 [.ref 81, .int x1, .int y0] [.int (mem 91 x1.toNatClampNeg), .int (x1 + (nI 1)), .ref 91] (0, 0) (LAY, RFu r, mem)) (kf : ¬ y0 = 0 → P 150 [.ref 81, .int x1, .int y0] [.int (mem 91 x1.toNatClampNeg), .int (x1 + (nI 1)), .ref 91] (0, 0) (LAY, RFu r, mem)) : P 132 [.ref 81, .int x1, v2] [.int y0] (0, 0) (LAY, RFu r, mem) := by
  refine r_istore_n (L' := [.ref 81, .int x1, .int y0]) hP d55_132 (Nat.le_of_ble_eq_true rfl) rfl ?_
  refine r_aload_n hP d55_133 rfl ?_
  refine r_getr (a := 91) hP d55_134 fr_7_23 rfl ly_81 rg_81_5 ?_
  refine r_iload_n hP d55_137 rfl ?_
  refine r_iconst (v := nI 1) hP d55_138 rfl ?_
  refine r_iadd hP d55_139 ?_
  refine r_aload_n hP d55_140 rfl ?_
  refine r_getr (a := 91) hP d55_141 fr_7_23 rfl ly_81 rg_81_5 ?_
  refine r_iload_n hP d55_144 rfl ?_
  refine r_iaload hP d55_145 ly_91 hi145 ?_
  refine r_iload_n hP d55_146 rfl ?_
  exact r_if (t := 154) hP d55_147 (by decide) kt kf
theorem b55_150 {d : Nat} {P : xPr} {Q : xQr} {r : Nat} {mem : Nat → Nat → Int32} (hP : Cl d none 55 P Q) {x1 : Int32} {v2 : Value} {y1 : Int32} {y2 : Int32}
    (k : P 155 [.ref 81, .int x1, v2] [.int (nI 1), .int y2, .int y1, .ref 91] (0, 0) (LAY, RFu r, mem)) : P 150 [.ref 81, .int x1, v2] [.int y2, .int y1, .ref 91] (0, 0) (LAY, RFu r, mem) := by
  refine r_iconst (v := nI 1) hP d55_150 rfl ?_
  refine r_goto (t := 155) hP d55_151 (by decide) ?_
  exact k
theorem b55_154 {d : Nat} {P : xPr} {Q : xQr} {r : Nat} {mem : Nat → Nat → Int32} (hP : Cl d none 55 P Q) {x1 : Int32} {v2 : Value} {y1 : Int32} {y2 : Int32}
    (k : P 155 [.ref 81, .int x1, v2] [.int (nI 0), .int y2, .int y1, .ref 91] (0, 0) (LAY, RFu r, mem)) : P 154 [.ref 81, .int x1, v2] [.int y2, .int y1, .ref 91] (0, 0) (LAY, RFu r, mem) := by
  refine r_iconst (v := nI 0) hP d55_154 rfl ?_
  exact k
theorem b55_155 {d : Nat} {P : xPr} {Q : xQr} {r : Nat} {mem : Nat → Nat → Int32} (hP : Cl d none 55 P Q) {x1 : Int32} {v2 : Value} {y1 : Int32} {y2 : Int32} {y3 : Int32} (hi156 : vp_in y1 6) (hi172 : vp_in (x1 + (nI 1)) 6)
    (k : Q none (LAY, RFu r, xuA (xu2 mem 91 y1.toNatClampNeg (y2 + y3)) (85 + (x1 + (nI 1)).toNatClampNeg) (va_cpy ((xu2 mem 91 y1.toNatClampNeg (y2 + y3)) 83) ((xu2 mem 91 y1.toNatClampNeg (y2 + y3)) (85 + (x1 + (nI 1)).toNatClampNeg)) 0 0 121))) : P 155 [.ref 81, .int x1, v2] [.int y3, .int y2, .int y1, .ref 91] (0, 0) (LAY, RFu r, mem) := by
  refine r_iadd hP d55_155 ?_
  refine r_iastore hP d55_156 ly_91 hi156 ?_
  refine r_aload_n hP d55_157 rfl ?_
  refine r_getr (a := 82) hP d55_158 fr_7_12 rfl ly_81 rg_81_3 ?_
  refine r_getr (a := 83) hP d55_161 fr_7_60 rfl ly_82 rg_82_0 ?_
  refine r_iconst (v := nI 0) hP d55_164 rfl ?_
  refine r_aload_n hP d55_165 rfl ?_
  refine r_getr (a := 84) hP d55_166 fr_7_20 rfl ly_81 rg_81_4 ?_
  refine r_iload_n hP d55_169 rfl ?_
  refine r_iconst (v := nI 1) hP d55_170 rfl ?_
  refine r_iadd hP d55_171 ?_
  refine r_aaload (b := (85 + (x1 + (nI 1)).toNatClampNeg)) hP d55_172 (by decide) ly_84 hi172 (rg2_84 (vp_lt hi172)) ?_
  refine r_iconst (v := nI 0) hP d55_173 rfl ?_
  refine r_bipush (v := nI 121) hP d55_174 rfl ?_
  refine r_copy (sp' := 0) (dp' := 0) (m' := 121) hP d55_176 cr_7_63 ly_83 (ly2_84 (vp_lt hi172)) (by decide) (by decide) (by decide) rfl rfl rfl (by decide) (by decide) (by decide) ?_
  exact r_vret hP d55_179 rfl k
theorem d56_0 : decode (xB 56) 0 = .ok (.aload_n 0, 1) := by decide +kernel
theorem d56_1 : decode (xB 56) 1 = .ok (.getfield 45, 3) := by decide +kernel
theorem d56_4 : decode (xB 56) 4 = .ok (.iconst (-1), 1) := by decide +kernel
theorem d56_5 : decode (xB 56) 5 = .ok (.if_icmp .eq 13, 3) := by decide +kernel
theorem d56_8 : decode (xB 56) 8 = .ok (.aload_n 0, 1) := by decide +kernel
theorem d56_9 : decode (xB 56) 9 = .ok (.getfield 33, 3) := by decide +kernel
theorem d56_12 : decode (xB 56) 12 = .ok (.getfield 69, 3) := by decide +kernel
theorem d56_15 : decode (xB 56) 15 = .ok (.ifCond .gt 7, 3) := by decide +kernel
theorem d56_18 : decode (xB 56) 18 = .ok (.iload_n 1, 1) := by decide +kernel
theorem d56_19 : decode (xB 56) 19 = .ok (.goto 12, 3) := by decide +kernel
theorem d56_22 : decode (xB 56) 22 = .ok (.iload_n 1, 1) := by decide +kernel
theorem d56_23 : decode (xB 56) 23 = .ok (.aload_n 0, 1) := by decide +kernel
theorem d56_24 : decode (xB 56) 24 = .ok (.getfield 33, 3) := by decide +kernel
theorem d56_27 : decode (xB 56) 27 = .ok (.getfield 69, 3) := by decide +kernel
theorem d56_30 : decode (xB 56) 30 = .ok (.idiv, 1) := by decide +kernel
theorem d56_31 : decode (xB 56) 31 = .ok (.ireturn, 1) := by decide +kernel
theorem b56_0 {d : Nat} {P : xPr} {Q : xQr} {r : Nat} {mem : Nat → Nat → Int32} (hP : Cl d none 56 P Q) {p0 : Int32}
    (kt : (mem 81 9) = (-1) → P 18 [.ref 81, .int p0] [] (0, 0) (LAY, RFu r, mem)) (kf : ¬ (mem 81 9) = (-1) → P 8 [.ref 81, .int p0] [] (0, 0) (LAY, RFu r, mem)) : P 0 [.ref 81, .int p0] [] (0, 0) (LAY, RFu r, mem) := by
  refine r_aload_n hP d56_0 rfl ?_
  refine r_geti hP d56_1 fr_7_45 rfl ly_81 ?_
  refine r_iconst (v := (-1)) hP d56_4 rfl ?_
  exact r_icmp (t := 18) hP d56_5 (by decide) kt kf
theorem b56_8 {d : Nat} {P : xPr} {Q : xQr} {r : Nat} {mem : Nat → Nat → Int32} (hP : Cl d none 56 P Q) {x1 : Int32}
    (kt : 0 < (mem 26 0) → P 22 [.ref 81, .int x1] [] (0, 0) (LAY, RFu r, mem)) (kf : ¬ 0 < (mem 26 0) → P 18 [.ref 81, .int x1] [] (0, 0) (LAY, RFu r, mem)) : P 8 [.ref 81, .int x1] [] (0, 0) (LAY, RFu r, mem) := by
  refine r_aload_n hP d56_8 rfl ?_
  refine r_getr (a := 26) hP d56_9 fr_7_33 rfl ly_81 rg_81_1 ?_
  refine r_geti hP d56_12 fr_7_69 rfl ly_26 ?_
  exact r_if (t := 22) hP d56_15 (by decide) kt kf
theorem b56_18 {d : Nat} {P : xPr} {Q : xQr} {r : Nat} {mem : Nat → Nat → Int32} (hP : Cl d none 56 P Q) {v0 : Value} {x1 : Int32}
    (k : P 31 [v0, .int x1] [.int x1] (0, 0) (LAY, RFu r, mem)) : P 18 [v0, .int x1] [] (0, 0) (LAY, RFu r, mem) := by
  refine r_iload_n hP d56_18 rfl ?_
  refine r_goto (t := 31) hP d56_19 (by decide) ?_
  exact k
theorem b56_22 {d : Nat} {P : xPr} {Q : xQr} {r : Nat} {mem : Nat → Nat → Int32} (hP : Cl d none 56 P Q) {x1 : Int32} (hz30 : ¬ (mem 26 0) = 0)
    (k : P 31 [.ref 81, .int x1] [.int (x1 / (mem 26 0))] (0, 0) (LAY, RFu r, mem)) : P 22 [.ref 81, .int x1] [] (0, 0) (LAY, RFu r, mem) := by
  refine r_iload_n hP d56_22 rfl ?_
  refine r_aload_n hP d56_23 rfl ?_
  refine r_getr (a := 26) hP d56_24 fr_7_33 rfl ly_81 rg_81_1 ?_
  refine r_geti hP d56_27 fr_7_69 rfl ly_26 ?_
  refine r_idiv hP d56_30 hz30 ?_
  exact k
theorem b56_31 {d : Nat} {P : xPr} {Q : xQr} {r : Nat} {mem : Nat → Nat → Int32} (hP : Cl d none 56 P Q) {v0 : Value} {v1 : Value} {y0 : Int32}
    (k : Q (some (.int y0)) (LAY, RFu r, mem)) : P 31 [v0, v1] [.int y0] (0, 0) (LAY, RFu r, mem) := by
  exact r_iret hP d56_31 rfl k
theorem d57_0 : decode (xB 57) 0 = .ok (.aload_n 0, 1) := by decide +kernel
theorem d57_1 : decode (xB 57) 1 = .ok (.getfield 33, 3) := by decide +kernel
theorem d57_4 : decode (xB 57) 4 = .ok (.getfield 69, 3) := by decide +kernel
theorem d57_7 : decode (xB 57) 7 = .ok (.ifCond .gt 7, 3) := by decide +kernel
theorem d57_10 : decode (xB 57) 10 = .ok (.iload_n 1, 1) := by decide +kernel
theorem d57_11 : decode (xB 57) 11 = .ok (.goto 12, 3) := by decide +kernel
theorem d57_14 : decode (xB 57) 14 = .ok (.iload_n 1, 1) := by decide +kernel
theorem d57_15 : decode (xB 57) 15 = .ok (.aload_n 0, 1) := by decide +kernel
theorem d57_16 : decode (xB 57) 16 = .ok (.getfield 33, 3) := by decide +kernel
theorem d57_19 : decode (xB 57) 19 = .ok (.getfield 69, 3) := by decide +kernel
theorem d57_22 : decode (xB 57) 22 = .ok (.irem, 1) := by decide +kernel
theorem d57_23 : decode (xB 57) 23 = .ok (.ireturn, 1) := by decide +kernel
theorem b57_0 {d : Nat} {P : xPr} {Q : xQr} {r : Nat} {mem : Nat → Nat → Int32} (hP : Cl d none 57 P Q) {p0 : Int32}
    (kt : 0 < (mem 26 0) → P 14 [.ref 81, .int p0] [] (0, 0) (LAY, RFu r, mem)) (kf : ¬ 0 < (mem 26 0) → P 10 [.ref 81, .int p0] [] (0, 0) (LAY, RFu r, mem)) : P 0 [.ref 81, .int p0] [] (0, 0) (LAY, RFu r, mem) := by
  refine r_aload_n hP d57_0 rfl ?_
  refine r_getr (a := 26) hP d57_1 fr_7_33 rfl ly_81 rg_81_1 ?_
  refine r_geti hP d57_4 fr_7_69 rfl ly_26 ?_
  exact r_if (t := 14) hP d57_7 (by decide) kt kf
theorem b57_10 {d : Nat} {P : xPr} {Q : xQr} {r : Nat} {mem : Nat → Nat → Int32} (hP : Cl d none 57 P Q) {v0 : Value} {x1 : Int32}
    (k : P 23 [v0, .int x1] [.int x1] (0, 0) (LAY, RFu r, mem)) : P 10 [v0, .int x1] [] (0, 0) (LAY, RFu r, mem) := by
  refine r_iload_n hP d57_10 rfl ?_
  refine r_goto (t := 23) hP d57_11 (by decide) ?_
  exact k
theorem b57_14 {d : Nat} {P : xPr} {Q : xQr} {r : Nat} {mem : Nat → Nat → Int32} (hP : Cl d none 57 P Q) {x1 : Int32} (hz22 : ¬ (mem 26 0) = 0)
    (k : P 23 [.ref 81, .int x1] [.int (x1 - x1 / (mem 26 0) * (mem 26 0))] (0, 0) (LAY, RFu r, mem)) : P 14 [.ref 81, .int x1] [] (0, 0) (LAY, RFu r, mem) := by
  refine r_iload_n hP d57_14 rfl ?_
  refine r_aload_n hP d57_15 rfl ?_
  refine r_getr (a := 26) hP d57_16 fr_7_33 rfl ly_81 rg_81_1 ?_
  refine r_geti hP d57_19 fr_7_69 rfl ly_26 ?_
  refine r_irem hP d57_22 hz22 ?_
  exact k
theorem b57_23 {d : Nat} {P : xPr} {Q : xQr} {r : Nat} {mem : Nat → Nat → Int32} (hP : Cl d none 57 P Q) {v0 : Value} {v1 : Value} {y0 : Int32}
    (k : Q (some (.int y0)) (LAY, RFu r, mem)) : P 23 [v0, v1] [.int y0] (0, 0) (LAY, RFu r, mem) := by
  exact r_iret hP d57_23 rfl k
theorem d58_0 : decode (xB 58) 0 = .ok (.aload_n 1, 1) := by decide +kernel
theorem d58_1 : decode (xB 58) 1 = .ok (.invokevirtual 103, 3) := by decide +kernel
theorem d58_4 : decode (xB 58) 4 = .ok (.iconst 0, 1) := by decide +kernel
theorem d58_5 : decode (xB 58) 5 = .ok (.istore_n 2, 1) := by decide +kernel
theorem d58_6 : decode (xB 58) 6 = .ok (.iload_n 2, 1) := by decide +kernel
theorem d58_7 : decode (xB 58) 7 = .ok (.aload_n 0, 1) := by decide +kernel
theorem d58_8 : decode (xB 58) 8 = .ok (.getfield 54, 3) := by decide +kernel
theorem d58_11 : decode (xB 58) 11 = .ok (.if_icmp .ge 45, 3) := by decide +kernel
theorem d58_14 : decode (xB 58) 14 = .ok (.aload_n 1, 1) := by decide +kernel
theorem d58_15 : decode (xB 58) 15 = .ok (.aload_n 0, 1) := by decide +kernel
theorem d58_16 : decode (xB 58) 16 = .ok (.aload_n 0, 1) := by decide +kernel
theorem d58_17 : decode (xB 58) 17 = .ok (.getfield 30, 3) := by decide +kernel
theorem d58_20 : decode (xB 58) 20 = .ok (.iload_n 2, 1) := by decide +kernel
theorem d58_21 : decode (xB 58) 21 = .ok (.iaload, 1) := by decide +kernel
theorem d58_22 : decode (xB 58) 22 = .ok (.invokevirtual 79, 3) := by decide +kernel
theorem d58_25 : decode (xB 58) 25 = .ok (.invokevirtual 108, 3) := by decide +kernel
theorem d58_28 : decode (xB 58) 28 = .ok (.aload_n 0, 1) := by decide +kernel
theorem d58_29 : decode (xB 58) 29 = .ok (.getfield 45, 3) := by decide +kernel
theorem d58_32 : decode (xB 58) 32 = .ok (.iconst (-1), 1) := by decide +kernel
theorem d58_33 : decode (xB 58) 33 = .ok (.if_icmp .eq 17, 3) := by decide +kernel
theorem d58_36 : decode (xB 58) 36 = .ok (.aload_n 1, 1) := by decide +kernel
theorem d58_37 : decode (xB 58) 37 = .ok (.aload_n 0, 1) := by decide +kernel
theorem d58_38 : decode (xB 58) 38 = .ok (.aload_n 0, 1) := by decide +kernel
theorem d58_39 : decode (xB 58) 39 = .ok (.getfield 30, 3) := by decide +kernel
theorem d58_42 : decode (xB 58) 42 = .ok (.iload_n 2, 1) := by decide +kernel
theorem d58_43 : decode (xB 58) 43 = .ok (.iaload, 1) := by decide +kernel
theorem d58_44 : decode (xB 58) 44 = .ok (.invokevirtual 87, 3) := by decide +kernel
theorem d58_47 : decode (xB 58) 47 = .ok (.invokevirtual 108, 3) := by decide +kernel
theorem d58_50 : decode (xB 58) 50 = .ok (.iinc 2 1, 3) := by decide +kernel
theorem d58_53 : decode (xB 58) 53 = .ok (.goto (-47), 3) := by decide +kernel
theorem d58_56 : decode (xB 58) 56 = .ok (.return_, 1) := by decide +kernel
theorem b58_0 {d : Nat} {P : xPr} {Q : xQr} {r : Nat} {mem : Nat → Nat → Int32} (hP : Cl d none 58 P Q)
    (k : xCall d 31 [.ref 3] (LAY, RFu r, mem) (Bk P 1 [.ref 81, .ref 3, .null] [] (0, 0))) : P 0 [.ref 81, .ref 3, .null] [] (0, 0) (LAY, RFu r, mem) := by
  refine r_aload_n hP d58_0 rfl ?_
  exact r_callv (As := []) (S := []) hP d58_1 cr_7_103 (by decide +kernel) rfl (by simp) rfl ly_3 (by simp [Value.category]) ⟨Nat.zero_le _, Nat.zero_le _⟩ k
theorem b58_4 {d : Nat} {P : xPr} {Q : xQr} {r : Nat} {mem : Nat → Nat → Int32} (hP : Cl d none 58 P Q) {v2 : Value}
    (k : P 6 [.ref 81, .ref 3, .int (nI 0)] [] (0, 0) (LAY, RFu r, mem)) : P 4 [.ref 81, .ref 3, v2] [] (0, 0) (LAY, RFu r, mem) := by
  refine r_iconst (v := nI 0) hP d58_4 rfl ?_
  refine r_istore_n (L' := [.ref 81, .ref 3, .int (nI 0)]) hP d58_5 (Nat.le_of_ble_eq_true rfl) rfl ?_
  exact k
theorem b58_6 {d : Nat} {P : xPr} {Q : xQr} {r : Nat} {mem : Nat → Nat → Int32} (hP : Cl d none 58 P Q) {x2 : Int32}
    (kt : (mem 81 10) ≤ x2 → P 56 [.ref 81, .ref 3, .int x2] [] (0, 0) (LAY, RFu r, mem)) (kf : ¬ (mem 81 10) ≤ x2 → P 14 [.ref 81, .ref 3, .int x2] [] (0, 0) (LAY, RFu r, mem)) : P 6 [.ref 81, .ref 3, .int x2] [] (0, 0) (LAY, RFu r, mem) := by
  refine r_iload_n hP d58_6 rfl ?_
  refine r_aload_n hP d58_7 rfl ?_
  refine r_geti hP d58_8 fr_7_54 rfl ly_81 ?_
  exact r_icmp (t := 56) hP d58_11 (by decide) kt kf
theorem b58_14 {d : Nat} {P : xPr} {Q : xQr} {r : Nat} {mem : Nat → Nat → Int32} (hP : Cl d none 58 P Q) {x2 : Int32} (hi21 : vp_in x2 6)
    (k : xCall d 56 [.ref 81, .int (mem 93 x2.toNatClampNeg)] (LAY, RFu r, mem) (Bk P 22 [.ref 81, .ref 3, .int x2] [.ref 3] (0, 0))) : P 14 [.ref 81, .ref 3, .int x2] [] (0, 0) (LAY, RFu r, mem) := by
  refine r_aload_n hP d58_14 rfl ?_
  refine r_aload_n hP d58_15 rfl ?_
  refine r_aload_n hP d58_16 rfl ?_
  refine r_getr (a := 93) hP d58_17 fr_7_30 rfl ly_81 rg_81_7 ?_
  refine r_iload_n hP d58_20 rfl ?_
  refine r_iaload hP d58_21 ly_93 hi21 ?_
  exact r_callv (As := [.int (mem 93 x2.toNatClampNeg)]) (S := [.ref 3]) hP d58_22 cr_7_79 (by decide +kernel) rfl (by simp [Value.category]) rfl ly_81 (by simp [Value.category]) ⟨Nat.zero_le _, Nat.zero_le _⟩ k
theorem b58_25 {d : Nat} {P : xPr} {Q : xQr} {r : Nat} {mem : Nat → Nat → Int32} (hP : Cl d none 58 P Q) {x2 : Int32} {y1 : Int32}
    (k : xCall d 32 [.ref 3, .int y1] (LAY, RFu r, mem) (Bk P 25 [.ref 81, .ref 3, .int x2] [] (0, 0))) : P 25 [.ref 81, .ref 3, .int x2] [.int y1, .ref 3] (0, 0) (LAY, RFu r, mem) := by
  exact r_callv (As := [.int y1]) (S := []) hP d58_25 cr_7_108 (by decide +kernel) rfl (by simp [Value.category]) rfl ly_3 (by simp [Value.category]) ⟨Nat.zero_le _, Nat.zero_le _⟩ k
theorem b58_28 {d : Nat} {P : xPr} {Q : xQr} {r : Nat} {mem : Nat → Nat → Int32} (hP : Cl d none 58 P Q) {x2 : Int32}
    (kt : (mem 81 9) = (-1) → P 50 [.ref 81, .ref 3, .int x2] [] (0, 0) (LAY, RFu r, mem)) (kf : ¬ (mem 81 9) = (-1) → P 36 [.ref 81, .ref 3, .int x2] [] (0, 0) (LAY, RFu r, mem)) : P 28 [.ref 81, .ref 3, .int x2] [] (0, 0) (LAY, RFu r, mem) := by
  refine r_aload_n hP d58_28 rfl ?_
  refine r_geti hP d58_29 fr_7_45 rfl ly_81 ?_
  refine r_iconst (v := (-1)) hP d58_32 rfl ?_
  exact r_icmp (t := 50) hP d58_33 (by decide) kt kf
theorem b58_36 {d : Nat} {P : xPr} {Q : xQr} {r : Nat} {mem : Nat → Nat → Int32} (hP : Cl d none 58 P Q) {x2 : Int32} (hi43 : vp_in x2 6)
    (k : xCall d 57 [.ref 81, .int (mem 93 x2.toNatClampNeg)] (LAY, RFu r, mem) (Bk P 44 [.ref 81, .ref 3, .int x2] [.ref 3] (0, 0))) : P 36 [.ref 81, .ref 3, .int x2] [] (0, 0) (LAY, RFu r, mem) := by
  refine r_aload_n hP d58_36 rfl ?_
  refine r_aload_n hP d58_37 rfl ?_
  refine r_aload_n hP d58_38 rfl ?_
  refine r_getr (a := 93) hP d58_39 fr_7_30 rfl ly_81 rg_81_7 ?_
  refine r_iload_n hP d58_42 rfl ?_
  refine r_iaload hP d58_43 ly_93 hi43 ?_
  exact r_callv (As := [.int (mem 93 x2.toNatClampNeg)]) (S := [.ref 3]) hP d58_44 cr_7_87 (by decide +kernel) rfl (by simp [Value.category]) rfl ly_81 (by simp [Value.category]) ⟨Nat.zero_le _, Nat.zero_le _⟩ k
theorem b58_47 {d : Nat} {P : xPr} {Q : xQr} {r : Nat} {mem : Nat → Nat → Int32} (hP : Cl d none 58 P Q) {x2 : Int32} {y1 : Int32}
    (k : xCall d 32 [.ref 3, .int y1] (LAY, RFu r, mem) (Bk P 47 [.ref 81, .ref 3, .int x2] [] (0, 0))) : P 47 [.ref 81, .ref 3, .int x2] [.int y1, .ref 3] (0, 0) (LAY, RFu r, mem) := by
  exact r_callv (As := [.int y1]) (S := []) hP d58_47 cr_7_108 (by decide +kernel) rfl (by simp [Value.category]) rfl ly_3 (by simp [Value.category]) ⟨Nat.zero_le _, Nat.zero_le _⟩ k
theorem b58_50 {d : Nat} {P : xPr} {Q : xQr} {r : Nat} {mem : Nat → Nat → Int32} (hP : Cl d none 58 P Q) {x2 : Int32}
    (k : P 6 [.ref 81, .ref 3, .int (x2 + nI 1)] [] (0, 0) (LAY, RFu r, mem)) : P 50 [.ref 81, .ref 3, .int x2] [] (0, 0) (LAY, RFu r, mem) := by
  refine r_iinc (v := nI 1) (L' := [.ref 81, .ref 3, .int (x2 + nI 1)]) hP d58_50 rfl rfl rfl ?_
  refine r_goto (t := 6) hP d58_53 (by decide) ?_
  exact k
theorem b58_56 {d : Nat} {P : xPr} {Q : xQr} {r : Nat} {mem : Nat → Nat → Int32} (hP : Cl d none 58 P Q) {v0 : Value} {v1 : Value} {v2 : Value}
    (k : Q none (LAY, RFu r, mem)) : P 56 [v0, v1, v2] [] (0, 0) (LAY, RFu r, mem) := by
  exact r_vret hP d58_56 rfl k
theorem d82_0 : decode (xB 82) 0 = .ok (.iload_n 1, 1) := by decide +kernel
theorem d82_1 : decode (xB 82) 1 = .ok (.ifCond .lt 15, 3) := by decide +kernel
theorem d82_4 : decode (xB 82) 4 = .ok (.iload_n 1, 1) := by decide +kernel
theorem d82_5 : decode (xB 82) 5 = .ok (.aload_n 0, 1) := by decide +kernel
theorem d82_6 : decode (xB 82) 6 = .ok (.getfield 44, 3) := by decide +kernel
theorem d82_9 : decode (xB 82) 9 = .ok (.if_icmp .ge 7, 3) := by decide +kernel
theorem d82_12 : decode (xB 82) 12 = .ok (.iconst 1, 1) := by decide +kernel
theorem d82_13 : decode (xB 82) 13 = .ok (.goto 4, 3) := by decide +kernel
theorem d82_16 : decode (xB 82) 16 = .ok (.iconst 0, 1) := by decide +kernel
theorem d82_17 : decode (xB 82) 17 = .ok (.ireturn, 1) := by decide +kernel
theorem b82_0 {d : Nat} {P : xPr} {Q : xQr} {r : Nat} {mem : Nat → Nat → Int32} (hP : Cl d none 82 P Q) {t : Nat} {p0 : Int32} (ht : isTown t)
    (kt : p0 < 0 → P 16 [.ref t, .int p0] [] (0, 0) (LAY, RFu r, mem)) (kf : ¬ p0 < 0 → P 4 [.ref t, .int p0] [] (0, 0) (LAY, RFu r, mem)) : P 0 [.ref t, .int p0] [] (0, 0) (LAY, RFu r, mem) := by
  refine r_iload_n hP d82_0 rfl ?_
  exact r_if (t := 16) hP d82_1 (by decide) kt kf
theorem b82_4 {d : Nat} {P : xPr} {Q : xQr} {r : Nat} {mem : Nat → Nat → Int32} (hP : Cl d none 82 P Q) {t : Nat} {x1 : Int32} (ht : isTown t)
    (kt : (mem t 0) ≤ x1 → P 16 [.ref t, .int x1] [] (0, 0) (LAY, RFu r, mem)) (kf : ¬ (mem t 0) ≤ x1 → P 12 [.ref t, .int x1] [] (0, 0) (LAY, RFu r, mem)) : P 4 [.ref t, .int x1] [] (0, 0) (LAY, RFu r, mem) := by
  refine r_iload_n hP d82_4 rfl ?_
  refine r_aload_n hP d82_5 rfl ?_
  refine r_geti hP d82_6 fr_10_44 rfl (lt_10 ht) ?_
  exact r_icmp (t := 16) hP d82_9 (by decide) kt kf
theorem b82_12 {d : Nat} {P : xPr} {Q : xQr} {r : Nat} {mem : Nat → Nat → Int32} (hP : Cl d none 82 P Q) {t : Nat} {v0 : Value} {v1 : Value} (ht : isTown t)
    (k : P 17 [v0, v1] [.int (nI 1)] (0, 0) (LAY, RFu r, mem)) : P 12 [v0, v1] [] (0, 0) (LAY, RFu r, mem) := by
  refine r_iconst (v := nI 1) hP d82_12 rfl ?_
  refine r_goto (t := 17) hP d82_13 (by decide) ?_
  exact k
theorem b82_16 {d : Nat} {P : xPr} {Q : xQr} {r : Nat} {mem : Nat → Nat → Int32} (hP : Cl d none 82 P Q) {t : Nat} {v0 : Value} {v1 : Value} (ht : isTown t)
    (k : P 17 [v0, v1] [.int (nI 0)] (0, 0) (LAY, RFu r, mem)) : P 16 [v0, v1] [] (0, 0) (LAY, RFu r, mem) := by
  refine r_iconst (v := nI 0) hP d82_16 rfl ?_
  exact k
theorem b82_17 {d : Nat} {P : xPr} {Q : xQr} {r : Nat} {mem : Nat → Nat → Int32} (hP : Cl d none 82 P Q) {t : Nat} {v0 : Value} {v1 : Value} {y0 : Int32} (ht : isTown t) (hzr : y0 = 0 ∨ y0 = 1)
    (k : Q (some (.int y0)) (LAY, RFu r, mem)) : P 17 [v0, v1] [.int y0] (0, 0) (LAY, RFu r, mem) := by
  exact r_zret hP d82_17 rfl hzr k
theorem d83_0 : decode (xB 83) 0 = .ok (.iload_n 1, 1) := by decide +kernel
theorem d83_1 : decode (xB 83) 1 = .ok (.ifCond .lt 15, 3) := by decide +kernel
theorem d83_4 : decode (xB 83) 4 = .ok (.iload_n 1, 1) := by decide +kernel
theorem d83_5 : decode (xB 83) 5 = .ok (.aload_n 0, 1) := by decide +kernel
theorem d83_6 : decode (xB 83) 6 = .ok (.getfield 48, 3) := by decide +kernel
theorem d83_9 : decode (xB 83) 9 = .ok (.if_icmp .ge 7, 3) := by decide +kernel
theorem d83_12 : decode (xB 83) 12 = .ok (.iconst 1, 1) := by decide +kernel
theorem d83_13 : decode (xB 83) 13 = .ok (.goto 4, 3) := by decide +kernel
theorem d83_16 : decode (xB 83) 16 = .ok (.iconst 0, 1) := by decide +kernel
theorem d83_17 : decode (xB 83) 17 = .ok (.ireturn, 1) := by decide +kernel
theorem b83_0 {d : Nat} {P : xPr} {Q : xQr} {r : Nat} {mem : Nat → Nat → Int32} (hP : Cl d none 83 P Q) {t : Nat} {p0 : Int32} (ht : isTown t)
    (kt : p0 < 0 → P 16 [.ref t, .int p0] [] (0, 0) (LAY, RFu r, mem)) (kf : ¬ p0 < 0 → P 4 [.ref t, .int p0] [] (0, 0) (LAY, RFu r, mem)) : P 0 [.ref t, .int p0] [] (0, 0) (LAY, RFu r, mem) := by
  refine r_iload_n hP d83_0 rfl ?_
  exact r_if (t := 16) hP d83_1 (by decide) kt kf
theorem b83_4 {d : Nat} {P : xPr} {Q : xQr} {r : Nat} {mem : Nat → Nat → Int32} (hP : Cl d none 83 P Q) {t : Nat} {x1 : Int32} (ht : isTown t)
    (kt : (mem t 1) ≤ x1 → P 16 [.ref t, .int x1] [] (0, 0) (LAY, RFu r, mem)) (kf : ¬ (mem t 1) ≤ x1 → P 12 [.ref t, .int x1] [] (0, 0) (LAY, RFu r, mem)) : P 4 [.ref t, .int x1] [] (0, 0) (LAY, RFu r, mem) := by
  refine r_iload_n hP d83_4 rfl ?_
  refine r_aload_n hP d83_5 rfl ?_
  refine r_geti hP d83_6 fr_10_48 rfl (lt_10 ht) ?_
  exact r_icmp (t := 16) hP d83_9 (by decide) kt kf
theorem b83_12 {d : Nat} {P : xPr} {Q : xQr} {r : Nat} {mem : Nat → Nat → Int32} (hP : Cl d none 83 P Q) {t : Nat} {v0 : Value} {v1 : Value} (ht : isTown t)
    (k : P 17 [v0, v1] [.int (nI 1)] (0, 0) (LAY, RFu r, mem)) : P 12 [v0, v1] [] (0, 0) (LAY, RFu r, mem) := by
  refine r_iconst (v := nI 1) hP d83_12 rfl ?_
  refine r_goto (t := 17) hP d83_13 (by decide) ?_
  exact k
theorem b83_16 {d : Nat} {P : xPr} {Q : xQr} {r : Nat} {mem : Nat → Nat → Int32} (hP : Cl d none 83 P Q) {t : Nat} {v0 : Value} {v1 : Value} (ht : isTown t)
    (k : P 17 [v0, v1] [.int (nI 0)] (0, 0) (LAY, RFu r, mem)) : P 16 [v0, v1] [] (0, 0) (LAY, RFu r, mem) := by
  refine r_iconst (v := nI 0) hP d83_16 rfl ?_
  exact k
theorem b83_17 {d : Nat} {P : xPr} {Q : xQr} {r : Nat} {mem : Nat → Nat → Int32} (hP : Cl d none 83 P Q) {t : Nat} {v0 : Value} {v1 : Value} {y0 : Int32} (ht : isTown t) (hzr : y0 = 0 ∨ y0 = 1)
    (k : Q (some (.int y0)) (LAY, RFu r, mem)) : P 17 [v0, v1] [.int y0] (0, 0) (LAY, RFu r, mem) := by
  exact r_zret hP d83_17 rfl hzr k
theorem d84_0 : decode (xB 84) 0 = .ok (.aload_n 0, 1) := by decide +kernel
theorem d84_1 : decode (xB 84) 1 = .ok (.aload_n 0, 1) := by decide +kernel
theorem d84_2 : decode (xB 84) 2 = .ok (.getfield 44, 3) := by decide +kernel
theorem d84_5 : decode (xB 84) 5 = .ok (.putfield 51, 3) := by decide +kernel
theorem d84_8 : decode (xB 84) 8 = .ok (.aload_n 0, 1) := by decide +kernel
theorem d84_9 : decode (xB 84) 9 = .ok (.aload_n 0, 1) := by decide +kernel
theorem d84_10 : decode (xB 84) 10 = .ok (.getfield 48, 3) := by decide +kernel
theorem d84_13 : decode (xB 84) 13 = .ok (.putfield 54, 3) := by decide +kernel
theorem d84_16 : decode (xB 84) 16 = .ok (.aload_n 1, 1) := by decide +kernel
theorem d84_17 : decode (xB 84) 17 = .ok (.bipush 76, 2) := by decide +kernel
theorem d84_19 : decode (xB 84) 19 = .ok (.invokevirtual 57, 3) := by decide +kernel
theorem d84_22 : decode (xB 84) 22 = .ok (.aload_n 1, 1) := by decide +kernel
theorem d84_23 : decode (xB 84) 23 = .ok (.getfield 62, 3) := by decide +kernel
theorem d84_26 : decode (xB 84) 26 = .ok (.ifCond .ne 5, 3) := by decide +kernel
theorem d84_29 : decode (xB 84) 29 = .ok (.iconst 0, 1) := by decide +kernel
theorem d84_30 : decode (xB 84) 30 = .ok (.ireturn, 1) := by decide +kernel
theorem d84_31 : decode (xB 84) 31 = .ok (.iconst 0, 1) := by decide +kernel
theorem d84_32 : decode (xB 84) 32 = .ok (.istore_n 2, 1) := by decide +kernel
theorem d84_33 : decode (xB 84) 33 = .ok (.aload_n 1, 1) := by decide +kernel
theorem d84_34 : decode (xB 84) 34 = .ok (.invokevirtual 65, 3) := by decide +kernel
theorem d84_37 : decode (xB 84) 37 = .ok (.bipush 114, 2) := by decide +kernel
theorem d84_39 : decode (xB 84) 39 = .ok (.if_icmp .ne 11, 3) := by decide +kernel
theorem d84_42 : decode (xB 84) 42 = .ok (.aload_n 0, 1) := by decide +kernel
theorem d84_43 : decode (xB 84) 43 = .ok (.aload_n 1, 1) := by decide +kernel
theorem d84_44 : decode (xB 84) 44 = .ok (.invokevirtual 69, 3) := by decide +kernel
theorem d84_47 : decode (xB 84) 47 = .ok (.goto 8, 3) := by decide +kernel
theorem d84_50 : decode (xB 84) 50 = .ok (.aload_n 0, 1) := by decide +kernel
theorem d84_51 : decode (xB 84) 51 = .ok (.aload_n 1, 1) := by decide +kernel
theorem d84_52 : decode (xB 84) 52 = .ok (.invokevirtual 73, 3) := by decide +kernel
theorem d84_55 : decode (xB 84) 55 = .ok (.istore_n 3, 1) := by decide +kernel
theorem d84_56 : decode (xB 84) 56 = .ok (.iload_n 3, 1) := by decide +kernel
theorem d84_57 : decode (xB 84) 57 = .ok (.ifCond .ne 5, 3) := by decide +kernel
theorem d84_60 : decode (xB 84) 60 = .ok (.iconst (-1), 1) := by decide +kernel
theorem d84_61 : decode (xB 84) 61 = .ok (.ireturn, 1) := by decide +kernel
theorem d84_62 : decode (xB 84) 62 = .ok (.iinc 2 1, 3) := by decide +kernel
theorem d84_65 : decode (xB 84) 65 = .ok (.iload_n 2, 1) := by decide +kernel
theorem d84_66 : decode (xB 84) 66 = .ok (.bipush 76, 2) := by decide +kernel
theorem d84_68 : decode (xB 84) 68 = .ok (.if_icmp .ge 12, 3) := by decide +kernel
theorem d84_71 : decode (xB 84) 71 = .ok (.aload_n 1, 1) := by decide +kernel
theorem d84_72 : decode (xB 84) 72 = .ok (.bipush 59, 2) := by decide +kernel
theorem d84_74 : decode (xB 84) 74 = .ok (.invokevirtual 76, 3) := by decide +kernel
theorem d84_77 : decode (xB 84) 77 = .ok (.ifCond .ne (-44), 3) := by decide +kernel
theorem d84_80 : decode (xB 84) 80 = .ok (.aload_n 1, 1) := by decide +kernel
theorem d84_81 : decode (xB 84) 81 = .ok (.invokevirtual 80, 3) := by decide +kernel
theorem d84_84 : decode (xB 84) 84 = .ok (.ifCond .ne 5, 3) := by decide +kernel
theorem d84_87 : decode (xB 84) 87 = .ok (.iconst (-1), 1) := by decide +kernel
theorem d84_88 : decode (xB 84) 88 = .ok (.ireturn, 1) := by decide +kernel
theorem d84_89 : decode (xB 84) 89 = .ok (.aload_n 0, 1) := by decide +kernel
theorem d84_90 : decode (xB 84) 90 = .ok (.aload_n 0, 1) := by decide +kernel
theorem d84_91 : decode (xB 84) 91 = .ok (.getfield 51, 3) := by decide +kernel
theorem d84_94 : decode (xB 84) 94 = .ok (.putfield 44, 3) := by decide +kernel
theorem d84_97 : decode (xB 84) 97 = .ok (.aload_n 0, 1) := by decide +kernel
theorem d84_98 : decode (xB 84) 98 = .ok (.aload_n 0, 1) := by decide +kernel
theorem d84_99 : decode (xB 84) 99 = .ok (.getfield 54, 3) := by decide +kernel
theorem d84_102 : decode (xB 84) 102 = .ok (.putfield 48, 3) := by decide +kernel
theorem d84_105 : decode (xB 84) 105 = .ok (.iload_n 2, 1) := by decide +kernel
theorem d84_106 : decode (xB 84) 106 = .ok (.ireturn, 1) := by decide +kernel
theorem b84_0 {d : Nat} {P : xPr} {Q : xQr} {r : Nat} {mem : Nat → Nat → Int32} (hP : Cl d none 84 P Q) {t : Nat} (ht : isTown t)
    (k : xCall d 74 [.ref 1, .int (nI 76)] (LAY, RFu r, xu2 (xu2 mem t 10 (mem t 0)) t 11 ((xu2 mem t 10 (mem t 0)) t 1)) (Bk P 19 [.ref t, .ref 1, .null, .null] [] (0, 0))) : P 0 [.ref t, .ref 1, .null, .null] [] (0, 0) (LAY, RFu r, mem) := by
  refine r_aload_n hP d84_0 rfl ?_
  refine r_aload_n hP d84_1 rfl ?_
  refine r_geti hP d84_2 fr_10_44 rfl (lt_10 ht) ?_
  refine r_puti hP d84_5 fr_10_51 rfl (fun q => by cases q) (lt_10 ht) ?_
  refine r_aload_n hP d84_8 rfl ?_
  refine r_aload_n hP d84_9 rfl ?_
  refine r_geti hP d84_10 fr_10_48 rfl (lt_10 ht) ?_
  refine r_puti hP d84_13 fr_10_54 rfl (fun q => by cases q) (lt_10 ht) ?_
  refine r_aload_n hP d84_16 rfl ?_
  refine r_bipush (v := nI 76) hP d84_17 rfl ?_
  exact r_callv (As := [.int (nI 76)]) (S := []) hP d84_19 cr_10_57 (by decide +kernel) rfl (by simp [Value.category]) rfl ly_1 (by simp [Value.category]) ⟨Nat.zero_le _, Nat.zero_le _⟩ k
theorem b84_22 {d : Nat} {P : xPr} {Q : xQr} {r : Nat} {mem : Nat → Nat → Int32} (hP : Cl d none 84 P Q) {t : Nat} {v2 : Value} {v3 : Value} (ht : isTown t)
    (kt : ¬ (mem 1 1) = 0 → P 31 [.ref t, .ref 1, v2, v3] [] (0, 0) (LAY, RFu r, mem)) (kf : (mem 1 1) = 0 → P 29 [.ref t, .ref 1, v2, v3] [] (0, 0) (LAY, RFu r, mem)) : P 22 [.ref t, .ref 1, v2, v3] [] (0, 0) (LAY, RFu r, mem) := by
  refine r_aload_n hP d84_22 rfl ?_
  refine r_geti hP d84_23 fr_10_62 rfl ly_1 ?_
  exact r_if (t := 31) hP d84_26 (by decide) kt (fun q => kf (Decidable.of_not_not q))
theorem b84_29 {d : Nat} {P : xPr} {Q : xQr} {r : Nat} {mem : Nat → Nat → Int32} (hP : Cl d none 84 P Q) {t : Nat} {v0 : Value} {v1 : Value} {v2 : Value} {v3 : Value} (ht : isTown t)
    (k : Q (some (.int (nI 0))) (LAY, RFu r, mem)) : P 29 [v0, v1, v2, v3] [] (0, 0) (LAY, RFu r, mem) := by
  refine r_iconst (v := nI 0) hP d84_29 rfl ?_
  exact r_iret hP d84_30 rfl k
theorem b84_31 {d : Nat} {P : xPr} {Q : xQr} {r : Nat} {mem : Nat → Nat → Int32} (hP : Cl d none 84 P Q) {t : Nat} {v2 : Value} {v3 : Value} (ht : isTown t)
    (k : P 33 [.ref t, .ref 1, .int (nI 0), v3] [] (0, 0) (LAY, RFu r, mem)) : P 31 [.ref t, .ref 1, v2, v3] [] (0, 0) (LAY, RFu r, mem) := by
  refine r_iconst (v := nI 0) hP d84_31 rfl ?_
  refine r_istore_n (L' := [.ref t, .ref 1, .int (nI 0), v3]) hP d84_32 (Nat.le_of_ble_eq_true rfl) rfl ?_
  exact k
theorem b84_33 {d : Nat} {P : xPr} {Q : xQr} {r : Nat} {mem : Nat → Nat → Int32} (hP : Cl d none 84 P Q) {t : Nat} {x2 : Int32} {v3 : Value} (ht : isTown t)
    (k : xCall d 75 [.ref 1] (LAY, RFu r, mem) (Bk P 34 [.ref t, .ref 1, .int x2, v3] [] (0, 0))) : P 33 [.ref t, .ref 1, .int x2, v3] [] (0, 0) (LAY, RFu r, mem) := by
  refine r_aload_n hP d84_33 rfl ?_
  exact r_callv (As := []) (S := []) hP d84_34 cr_10_65 (by decide +kernel) rfl (by simp) rfl ly_1 (by simp [Value.category]) ⟨Nat.zero_le _, Nat.zero_le _⟩ k
theorem b84_37 {d : Nat} {P : xPr} {Q : xQr} {r : Nat} {mem : Nat → Nat → Int32} (hP : Cl d none 84 P Q) {t : Nat} {x2 : Int32} {v3 : Value} {y0 : Int32} (ht : isTown t)
    (kt : ¬ y0 = (nI 114) → P 50 [.ref t, .ref 1, .int x2, v3] [] (0, 0) (LAY, RFu r, mem)) (kf : y0 = (nI 114) → P 42 [.ref t, .ref 1, .int x2, v3] [] (0, 0) (LAY, RFu r, mem)) : P 37 [.ref t, .ref 1, .int x2, v3] [.int y0] (0, 0) (LAY, RFu r, mem) := by
  refine r_bipush (v := nI 114) hP d84_37 rfl ?_
  exact r_icmp (t := 50) hP d84_39 (by decide) kt (fun q => kf (Decidable.of_not_not q))
theorem b84_42 {d : Nat} {P : xPr} {Q : xQr} {r : Nat} {mem : Nat → Nat → Int32} (hP : Cl d none 84 P Q) {t : Nat} {x2 : Int32} {v3 : Value} (ht : isTown t)
    (k : xCall d 85 [.ref t, .ref 1] (LAY, RFu r, mem) (Bk P 44 [.ref t, .ref 1, .int x2, v3] [] (0, 0))) : P 42 [.ref t, .ref 1, .int x2, v3] [] (0, 0) (LAY, RFu r, mem) := by
  refine r_aload_n hP d84_42 rfl ?_
  refine r_aload_n hP d84_43 rfl ?_
  exact r_callv (As := [.ref 1]) (S := []) hP d84_44 cr_10_69 (by decide +kernel) rfl (by simp [Value.category]) rfl (lt_10 ht) (by simp [Value.category]) ⟨Nat.zero_le _, Nat.zero_le _⟩ k
theorem b84_47 {d : Nat} {P : xPr} {Q : xQr} {r : Nat} {mem : Nat → Nat → Int32} (hP : Cl d none 84 P Q) {t : Nat} {x2 : Int32} {v3 : Value} {y0 : Int32} (ht : isTown t)
    (k : P 55 [.ref t, .ref 1, .int x2, v3] [.int y0] (0, 0) (LAY, RFu r, mem)) : P 47 [.ref t, .ref 1, .int x2, v3] [.int y0] (0, 0) (LAY, RFu r, mem) := by
  refine r_goto (t := 55) hP d84_47 (by decide) ?_
  exact k
theorem b84_50 {d : Nat} {P : xPr} {Q : xQr} {r : Nat} {mem : Nat → Nat → Int32} (hP : Cl d none 84 P Q) {t : Nat} {x2 : Int32} {v3 : Value} (ht : isTown t)
    (k : xCall d 86 [.ref t, .ref 1] (LAY, RFu r, mem) (Bk P 52 [.ref t, .ref 1, .int x2, v3] [] (0, 0))) : P 50 [.ref t, .ref 1, .int x2, v3] [] (0, 0) (LAY, RFu r, mem) := by
  refine r_aload_n hP d84_50 rfl ?_
  refine r_aload_n hP d84_51 rfl ?_
  exact r_callv (As := [.ref 1]) (S := []) hP d84_52 cr_10_73 (by decide +kernel) rfl (by simp [Value.category]) rfl (lt_10 ht) (by simp [Value.category]) ⟨Nat.zero_le _, Nat.zero_le _⟩ k
theorem b84_55 {d : Nat} {P : xPr} {Q : xQr} {r : Nat} {mem : Nat → Nat → Int32} (hP : Cl d none 84 P Q) {t : Nat} {x2 : Int32} {v3 : Value} {y0 : Int32} (ht : isTown t)
    (kt : ¬ y0 = 0 → P 62 [.ref t, .ref 1, .int x2, .int y0] [] (0, 0) (LAY, RFu r, mem)) (kf : y0 = 0 → P 60 [.ref t, .ref 1, .int x2, .int y0] [] (0, 0) (LAY, RFu r, mem)) : P 55 [.ref t, .ref 1, .int x2, v3] [.int y0] (0, 0) (LAY, RFu r, mem) := by
  refine r_istore_n (L' := [.ref t, .ref 1, .int x2, .int y0]) hP d84_55 (Nat.le_of_ble_eq_true rfl) rfl ?_
  refine r_iload_n hP d84_56 rfl ?_
  exact r_if (t := 62) hP d84_57 (by decide) kt (fun q => kf (Decidable.of_not_not q))
theorem b84_60 {d : Nat} {P : xPr} {Q : xQr} {r : Nat} {mem : Nat → Nat → Int32} (hP : Cl d none 84 P Q) {t : Nat} {v0 : Value} {v1 : Value} {v2 : Value} {v3 : Value} (ht : isTown t)
    (k : Q (some (.int (-1))) (LAY, RFu r, mem)) : P 60 [v0, v1, v2, v3] [] (0, 0) (LAY, RFu r, mem) := by
  refine r_iconst (v := (-1)) hP d84_60 rfl ?_
  exact r_iret hP d84_61 rfl k
theorem b84_62 {d : Nat} {P : xPr} {Q : xQr} {r : Nat} {mem : Nat → Nat → Int32} (hP : Cl d none 84 P Q) {t : Nat} {x2 : Int32} {v3 : Value} (ht : isTown t)
    (kt : (nI 76) ≤ (x2 + nI 1) → P 80 [.ref t, .ref 1, .int (x2 + nI 1), v3] [] (0, 0) (LAY, RFu r, mem)) (kf : ¬ (nI 76) ≤ (x2 + nI 1) → P 71 [.ref t, .ref 1, .int (x2 + nI 1), v3] [] (0, 0) (LAY, RFu r, mem)) : P 62 [.ref t, .ref 1, .int x2, v3] [] (0, 0) (LAY, RFu r, mem) := by
  refine r_iinc (v := nI 1) (L' := [.ref t, .ref 1, .int (x2 + nI 1), v3]) hP d84_62 rfl rfl rfl ?_
  refine r_iload_n hP d84_65 rfl ?_
  refine r_bipush (v := nI 76) hP d84_66 rfl ?_
  exact r_icmp (t := 80) hP d84_68 (by decide) kt kf
theorem b84_71 {d : Nat} {P : xPr} {Q : xQr} {r : Nat} {mem : Nat → Nat → Int32} (hP : Cl d none 84 P Q) {t : Nat} {x2 : Int32} {v3 : Value} (ht : isTown t)
    (k : xCall d 76 [.ref 1, .int (nI 59)] (LAY, RFu r, mem) (Bk P 74 [.ref t, .ref 1, .int x2, v3] [] (0, 0))) : P 71 [.ref t, .ref 1, .int x2, v3] [] (0, 0) (LAY, RFu r, mem) := by
  refine r_aload_n hP d84_71 rfl ?_
  refine r_bipush (v := nI 59) hP d84_72 rfl ?_
  exact r_callv (As := [.int (nI 59)]) (S := []) hP d84_74 cr_10_76 (by decide +kernel) rfl (by simp [Value.category]) rfl ly_1 (by simp [Value.category]) ⟨Nat.zero_le _, Nat.zero_le _⟩ k
theorem b84_77 {d : Nat} {P : xPr} {Q : xQr} {r : Nat} {mem : Nat → Nat → Int32} (hP : Cl d none 84 P Q) {t : Nat} {x2 : Int32} {v3 : Value} {y0 : Int32} (ht : isTown t)
    (kt : ¬ y0 = 0 → P 33 [.ref t, .ref 1, .int x2, v3] [] (0, 0) (LAY, RFu r, mem)) (kf : y0 = 0 → P 80 [.ref t, .ref 1, .int x2, v3] [] (0, 0) (LAY, RFu r, mem)) : P 77 [.ref t, .ref 1, .int x2, v3] [.int y0] (0, 0) (LAY, RFu r, mem) := by
  exact r_if (t := 33) hP d84_77 (by decide) kt (fun q => kf (Decidable.of_not_not q))
theorem b84_80 {d : Nat} {P : xPr} {Q : xQr} {r : Nat} {mem : Nat → Nat → Int32} (hP : Cl d none 84 P Q) {t : Nat} {x2 : Int32} {v3 : Value} (ht : isTown t)
    (k : xCall d 79 [.ref 1] (LAY, RFu r, mem) (Bk P 81 [.ref t, .ref 1, .int x2, v3] [] (0, 0))) : P 80 [.ref t, .ref 1, .int x2, v3] [] (0, 0) (LAY, RFu r, mem) := by
  refine r_aload_n hP d84_80 rfl ?_
  exact r_callv (As := []) (S := []) hP d84_81 cr_10_80 (by decide +kernel) rfl (by simp) rfl ly_1 (by simp [Value.category]) ⟨Nat.zero_le _, Nat.zero_le _⟩ k
theorem b84_84 {d : Nat} {P : xPr} {Q : xQr} {r : Nat} {mem : Nat → Nat → Int32} (hP : Cl d none 84 P Q) {t : Nat} {v1 : Value} {x2 : Int32} {v3 : Value} {y0 : Int32} (ht : isTown t)
    (kt : ¬ y0 = 0 → P 89 [.ref t, v1, .int x2, v3] [] (0, 0) (LAY, RFu r, mem)) (kf : y0 = 0 → P 87 [.ref t, v1, .int x2, v3] [] (0, 0) (LAY, RFu r, mem)) : P 84 [.ref t, v1, .int x2, v3] [.int y0] (0, 0) (LAY, RFu r, mem) := by
  exact r_if (t := 89) hP d84_84 (by decide) kt (fun q => kf (Decidable.of_not_not q))
theorem b84_87 {d : Nat} {P : xPr} {Q : xQr} {r : Nat} {mem : Nat → Nat → Int32} (hP : Cl d none 84 P Q) {t : Nat} {v0 : Value} {v1 : Value} {v2 : Value} {v3 : Value} (ht : isTown t)
    (k : Q (some (.int (-1))) (LAY, RFu r, mem)) : P 87 [v0, v1, v2, v3] [] (0, 0) (LAY, RFu r, mem) := by
  refine r_iconst (v := (-1)) hP d84_87 rfl ?_
  exact r_iret hP d84_88 rfl k
theorem b84_89 {d : Nat} {P : xPr} {Q : xQr} {r : Nat} {mem : Nat → Nat → Int32} (hP : Cl d none 84 P Q) {t : Nat} {v1 : Value} {x2 : Int32} {v3 : Value} (ht : isTown t)
    (k : Q (some (.int x2)) (LAY, RFu r, xu2 (xu2 mem t 0 (mem t 10)) t 1 ((xu2 mem t 0 (mem t 10)) t 11))) : P 89 [.ref t, v1, .int x2, v3] [] (0, 0) (LAY, RFu r, mem) := by
  refine r_aload_n hP d84_89 rfl ?_
  refine r_aload_n hP d84_90 rfl ?_
  refine r_geti hP d84_91 fr_10_51 rfl (lt_10 ht) ?_
  refine r_puti hP d84_94 fr_10_44 rfl (fun q => by cases q) (lt_10 ht) ?_
  refine r_aload_n hP d84_97 rfl ?_
  refine r_aload_n hP d84_98 rfl ?_
  refine r_geti hP d84_99 fr_10_54 rfl (lt_10 ht) ?_
  refine r_puti hP d84_102 fr_10_48 rfl (fun q => by cases q) (lt_10 ht) ?_
  refine r_iload_n hP d84_105 rfl ?_
  exact r_iret hP d84_106 rfl k
theorem d85_0 : decode (xB 85) 0 = .ok (.aload_n 0, 1) := by decide +kernel
theorem d85_1 : decode (xB 85) 1 = .ok (.getfield 51, 3) := by decide +kernel
theorem d85_4 : decode (xB 85) 4 = .ok (.iconst 4, 1) := by decide +kernel
theorem d85_5 : decode (xB 85) 5 = .ok (.if_icmp .ge 12, 3) := by decide +kernel
theorem d85_8 : decode (xB 85) 8 = .ok (.aload_n 1, 1) := by decide +kernel
theorem d85_9 : decode (xB 85) 9 = .ok (.bipush 114, 2) := by decide +kernel
theorem d85_11 : decode (xB 85) 11 = .ok (.invokevirtual 76, 3) := by decide +kernel
theorem d85_14 : decode (xB 85) 14 = .ok (.ifCond .ne 5, 3) := by decide +kernel
theorem d85_17 : decode (xB 85) 17 = .ok (.iconst 0, 1) := by decide +kernel
theorem d85_18 : decode (xB 85) 18 = .ok (.ireturn, 1) := by decide +kernel
theorem d85_19 : decode (xB 85) 19 = .ok (.aload_n 1, 1) := by decide +kernel
theorem d85_20 : decode (xB 85) 20 = .ok (.bipush 8, 2) := by decide +kernel
theorem d85_22 : decode (xB 85) 22 = .ok (.invokevirtual 84, 3) := by decide +kernel
theorem d85_25 : decode (xB 85) 25 = .ok (.istore_n 2, 1) := by decide +kernel
theorem d85_26 : decode (xB 85) 26 = .ok (.iload_n 2, 1) := by decide +kernel
theorem d85_27 : decode (xB 85) 27 = .ok (.iconst (-1), 1) := by decide +kernel
theorem d85_28 : decode (xB 85) 28 = .ok (.if_icmp .ne 5, 3) := by decide +kernel
theorem d85_31 : decode (xB 85) 31 = .ok (.iconst 0, 1) := by decide +kernel
theorem d85_32 : decode (xB 85) 32 = .ok (.ireturn, 1) := by decide +kernel
theorem d85_33 : decode (xB 85) 33 = .ok (.aload_n 0, 1) := by decide +kernel
theorem d85_34 : decode (xB 85) 34 = .ok (.getfield 9, 3) := by decide +kernel
theorem d85_37 : decode (xB 85) 37 = .ok (.aload_n 0, 1) := by decide +kernel
theorem d85_38 : decode (xB 85) 38 = .ok (.getfield 51, 3) := by decide +kernel
theorem d85_41 : decode (xB 85) 41 = .ok (.iload_n 2, 1) := by decide +kernel
theorem d85_42 : decode (xB 85) 42 = .ok (.iastore, 1) := by decide +kernel
theorem d85_43 : decode (xB 85) 43 = .ok (.aload_n 0, 1) := by decide +kernel
theorem d85_44 : decode (xB 85) 44 = .ok (.dup, 1) := by decide +kernel
theorem d85_45 : decode (xB 85) 45 = .ok (.getfield 51, 3) := by decide +kernel
theorem d85_48 : decode (xB 85) 48 = .ok (.iconst 1, 1) := by decide +kernel
theorem d85_49 : decode (xB 85) 49 = .ok (.iadd, 1) := by decide +kernel
theorem d85_50 : decode (xB 85) 50 = .ok (.putfield 51, 3) := by decide +kernel
theorem d85_53 : decode (xB 85) 53 = .ok (.iconst 1, 1) := by decide +kernel
theorem d85_54 : decode (xB 85) 54 = .ok (.ireturn, 1) := by decide +kernel
theorem b85_0 {d : Nat} {P : xPr} {Q : xQr} {r : Nat} {mem : Nat → Nat → Int32} (hP : Cl d none 85 P Q) {t : Nat} (ht : isTown t)
    (kt : (nI 4) ≤ (mem t 10) → P 17 [.ref t, .ref 1, .null] [] (0, 0) (LAY, RFu r, mem)) (kf : ¬ (nI 4) ≤ (mem t 10) → P 8 [.ref t, .ref 1, .null] [] (0, 0) (LAY, RFu r, mem)) : P 0 [.ref t, .ref 1, .null] [] (0, 0) (LAY, RFu r, mem) := by
  refine r_aload_n hP d85_0 rfl ?_
  refine r_geti hP d85_1 fr_10_51 rfl (lt_10 ht) ?_
  refine r_iconst (v := nI 4) hP d85_4 rfl ?_
  exact r_icmp (t := 17) hP d85_5 (by decide) kt kf
theorem b85_8 {d : Nat} {P : xPr} {Q : xQr} {r : Nat} {mem : Nat → Nat → Int32} (hP : Cl d none 85 P Q) {t : Nat} {v2 : Value} (ht : isTown t)
    (k : xCall d 76 [.ref 1, .int (nI 114)] (LAY, RFu r, mem) (Bk P 11 [.ref t, .ref 1, v2] [] (0, 0))) : P 8 [.ref t, .ref 1, v2] [] (0, 0) (LAY, RFu r, mem) := by
  refine r_aload_n hP d85_8 rfl ?_
  refine r_bipush (v := nI 114) hP d85_9 rfl ?_
  exact r_callv (As := [.int (nI 114)]) (S := []) hP d85_11 cr_10_76 (by decide +kernel) rfl (by simp [Value.category]) rfl ly_1 (by simp [Value.category]) ⟨Nat.zero_le _, Nat.zero_le _⟩ k
theorem b85_14 {d : Nat} {P : xPr} {Q : xQr} {r : Nat} {mem : Nat → Nat → Int32} (hP : Cl d none 85 P Q) {t : Nat} {v2 : Value} {y0 : Int32} (ht : isTown t)
    (kt : ¬ y0 = 0 → P 19 [.ref t, .ref 1, v2] [] (0, 0) (LAY, RFu r, mem)) (kf : y0 = 0 → P 17 [.ref t, .ref 1, v2] [] (0, 0) (LAY, RFu r, mem)) : P 14 [.ref t, .ref 1, v2] [.int y0] (0, 0) (LAY, RFu r, mem) := by
  exact r_if (t := 19) hP d85_14 (by decide) kt (fun q => kf (Decidable.of_not_not q))
theorem b85_17 {d : Nat} {P : xPr} {Q : xQr} {r : Nat} {mem : Nat → Nat → Int32} (hP : Cl d none 85 P Q) {t : Nat} {v0 : Value} {v1 : Value} {v2 : Value} (ht : isTown t) (hzr : nI 0 = 0 ∨ nI 0 = 1)
    (k : Q (some (.int (nI 0))) (LAY, RFu r, mem)) : P 17 [v0, v1, v2] [] (0, 0) (LAY, RFu r, mem) := by
  refine r_iconst (v := nI 0) hP d85_17 rfl ?_
  exact r_zret hP d85_18 rfl hzr k
theorem b85_19 {d : Nat} {P : xPr} {Q : xQr} {r : Nat} {mem : Nat → Nat → Int32} (hP : Cl d none 85 P Q) {t : Nat} {v2 : Value} (ht : isTown t)
    (k : xCall d 77 [.ref 1, .int (nI 8)] (LAY, RFu r, mem) (Bk P 22 [.ref t, .ref 1, v2] [] (0, 0))) : P 19 [.ref t, .ref 1, v2] [] (0, 0) (LAY, RFu r, mem) := by
  refine r_aload_n hP d85_19 rfl ?_
  refine r_bipush (v := nI 8) hP d85_20 rfl ?_
  exact r_callv (As := [.int (nI 8)]) (S := []) hP d85_22 cr_10_84 (by decide +kernel) rfl (by simp [Value.category]) rfl ly_1 (by simp [Value.category]) ⟨Nat.zero_le _, Nat.zero_le _⟩ k
theorem b85_25 {d : Nat} {P : xPr} {Q : xQr} {r : Nat} {mem : Nat → Nat → Int32} (hP : Cl d none 85 P Q) {t : Nat} {v1 : Value} {v2 : Value} {y0 : Int32} (ht : isTown t)
    (kt : ¬ y0 = (-1) → P 33 [.ref t, v1, .int y0] [] (0, 0) (LAY, RFu r, mem)) (kf : y0 = (-1) → P 31 [.ref t, v1, .int y0] [] (0, 0) (LAY, RFu r, mem)) : P 25 [.ref t, v1, v2] [.int y0] (0, 0) (LAY, RFu r, mem) := by
  refine r_istore_n (L' := [.ref t, v1, .int y0]) hP d85_25 (Nat.le_of_ble_eq_true rfl) rfl ?_
  refine r_iload_n hP d85_26 rfl ?_
  refine r_iconst (v := (-1)) hP d85_27 rfl ?_
  exact r_icmp (t := 33) hP d85_28 (by decide) kt (fun q => kf (Decidable.of_not_not q))
theorem b85_31 {d : Nat} {P : xPr} {Q : xQr} {r : Nat} {mem : Nat → Nat → Int32} (hP : Cl d none 85 P Q) {t : Nat} {v0 : Value} {v1 : Value} {v2 : Value} (ht : isTown t) (hzr : nI 0 = 0 ∨ nI 0 = 1)
    (k : Q (some (.int (nI 0))) (LAY, RFu r, mem)) : P 31 [v0, v1, v2] [] (0, 0) (LAY, RFu r, mem) := by
  refine r_iconst (v := nI 0) hP d85_31 rfl ?_
  exact r_zret hP d85_32 rfl hzr k
theorem b85_33 {d : Nat} {P : xPr} {Q : xQr} {r : Nat} {mem : Nat → Nat → Int32} (hP : Cl d none 85 P Q) {t : Nat} {v1 : Value} {x2 : Int32} (ht : isTown t) (hi42 : vp_in (mem t 10) 4) (hzr : nI 1 = 0 ∨ nI 1 = 1)
    (k : Q (some (.int (nI 1))) (LAY, RFu r, xu2 (xu2 mem (t + 1) (mem t 10).toNatClampNeg x2) t 10 (((xu2 mem (t + 1) (mem t 10).toNatClampNeg x2) t 10) + (nI 1)))) : P 33 [.ref t, v1, .int x2] [] (0, 0) (LAY, RFu r, mem) := by
  refine r_aload_n hP d85_33 rfl ?_
  refine r_getr (a := (t + 1)) hP d85_34 fr_10_9 rfl (lt_10 ht) (rt_10_2 ht) ?_
  refine r_aload_n hP d85_37 rfl ?_
  refine r_geti hP d85_38 fr_10_51 rfl (lt_10 ht) ?_
  refine r_iload_n hP d85_41 rfl ?_
  refine r_iastore hP d85_42 (lt_10_2 ht) hi42 ?_
  refine r_aload_n hP d85_43 rfl ?_
  refine r_dup hP d85_44 rfl ?_
  refine r_geti hP d85_45 fr_10_51 rfl (lt_10 ht) ?_
  refine r_iconst (v := nI 1) hP d85_48 rfl ?_
  refine r_iadd hP d85_49 ?_
  refine r_puti hP d85_50 fr_10_51 rfl (fun q => by cases q) (lt_10 ht) ?_
  refine r_iconst (v := nI 1) hP d85_53 rfl ?_
  exact r_zret hP d85_54 rfl hzr k
theorem d86_0 : decode (xB 86) 0 = .ok (.aload_n 0, 1) := by decide +kernel
theorem d86_1 : decode (xB 86) 1 = .ok (.getfield 54, 3) := by decide +kernel
theorem d86_4 : decode (xB 86) 4 = .ok (.bipush 8, 2) := by decide +kernel
theorem d86_6 : decode (xB 86) 6 = .ok (.if_icmp .lt 5, 3) := by decide +kernel
theorem d86_9 : decode (xB 86) 9 = .ok (.iconst 0, 1) := by decide +kernel
theorem d86_10 : decode (xB 86) 10 = .ok (.ireturn, 1) := by decide +kernel
theorem d86_11 : decode (xB 86) 11 = .ok (.aload_n 1, 1) := by decide +kernel
theorem d86_12 : decode (xB 86) 12 = .ok (.iconst 2, 1) := by decide +kernel
theorem d86_13 : decode (xB 86) 13 = .ok (.invokevirtual 88, 3) := by decide +kernel
theorem d86_16 : decode (xB 86) 16 = .ok (.istore_n 2, 1) := by decide +kernel
theorem d86_17 : decode (xB 86) 17 = .ok (.iload_n 2, 1) := by decide +kernel
theorem d86_18 : decode (xB 86) 18 = .ok (.iconst (-1), 1) := by decide +kernel
theorem d86_19 : decode (xB 86) 19 = .ok (.if_icmp .ne 5, 3) := by decide +kernel
theorem d86_22 : decode (xB 86) 22 = .ok (.iconst 0, 1) := by decide +kernel
theorem d86_23 : decode (xB 86) 23 = .ok (.ireturn, 1) := by decide +kernel
theorem d86_24 : decode (xB 86) 24 = .ok (.aload_n 0, 1) := by decide +kernel
theorem d86_25 : decode (xB 86) 25 = .ok (.getfield 15, 3) := by decide +kernel
theorem d86_28 : decode (xB 86) 28 = .ok (.aload_n 0, 1) := by decide +kernel
theorem d86_29 : decode (xB 86) 29 = .ok (.getfield 54, 3) := by decide +kernel
theorem d86_32 : decode (xB 86) 32 = .ok (.iload_n 2, 1) := by decide +kernel
theorem d86_33 : decode (xB 86) 33 = .ok (.iastore, 1) := by decide +kernel
theorem d86_34 : decode (xB 86) 34 = .ok (.aload_n 0, 1) := by decide +kernel
theorem d86_35 : decode (xB 86) 35 = .ok (.getfield 18, 3) := by decide +kernel
theorem d86_38 : decode (xB 86) 38 = .ok (.aload_n 0, 1) := by decide +kernel
theorem d86_39 : decode (xB 86) 39 = .ok (.getfield 54, 3) := by decide +kernel
theorem d86_42 : decode (xB 86) 42 = .ok (.aload_n 1, 1) := by decide +kernel
theorem d86_43 : decode (xB 86) 43 = .ok (.bipush 33, 2) := by decide +kernel
theorem d86_45 : decode (xB 86) 45 = .ok (.invokevirtual 76, 3) := by decide +kernel
theorem d86_48 : decode (xB 86) 48 = .ok (.ifCond .eq 7, 3) := by decide +kernel
theorem d86_51 : decode (xB 86) 51 = .ok (.iconst 1, 1) := by decide +kernel
theorem d86_52 : decode (xB 86) 52 = .ok (.goto 4, 3) := by decide +kernel
theorem d86_55 : decode (xB 86) 55 = .ok (.iconst 0, 1) := by decide +kernel
theorem d86_56 : decode (xB 86) 56 = .ok (.iastore, 1) := by decide +kernel
theorem d86_57 : decode (xB 86) 57 = .ok (.aload_n 0, 1) := by decide +kernel
theorem d86_58 : decode (xB 86) 58 = .ok (.dup, 1) := by decide +kernel
theorem d86_59 : decode (xB 86) 59 = .ok (.getfield 54, 3) := by decide +kernel
theorem d86_62 : decode (xB 86) 62 = .ok (.iconst 1, 1) := by decide +kernel
theorem d86_63 : decode (xB 86) 63 = .ok (.iadd, 1) := by decide +kernel
theorem d86_64 : decode (xB 86) 64 = .ok (.putfield 54, 3) := by decide +kernel
theorem d86_67 : decode (xB 86) 67 = .ok (.iconst 1, 1) := by decide +kernel
theorem d86_68 : decode (xB 86) 68 = .ok (.ireturn, 1) := by decide +kernel
theorem b86_0 {d : Nat} {P : xPr} {Q : xQr} {r : Nat} {mem : Nat → Nat → Int32} (hP : Cl d none 86 P Q) {t : Nat} (ht : isTown t)
    (kt : (mem t 11) < (nI 8) → P 11 [.ref t, .ref 1, .null] [] (0, 0) (LAY, RFu r, mem)) (kf : ¬ (mem t 11) < (nI 8) → P 9 [.ref t, .ref 1, .null] [] (0, 0) (LAY, RFu r, mem)) : P 0 [.ref t, .ref 1, .null] [] (0, 0) (LAY, RFu r, mem) := by
  refine r_aload_n hP d86_0 rfl ?_
  refine r_geti hP d86_1 fr_10_54 rfl (lt_10 ht) ?_
  refine r_bipush (v := nI 8) hP d86_4 rfl ?_
  exact r_icmp (t := 11) hP d86_6 (by decide) kt kf
theorem b86_9 {d : Nat} {P : xPr} {Q : xQr} {r : Nat} {mem : Nat → Nat → Int32} (hP : Cl d none 86 P Q) {t : Nat} {v0 : Value} {v1 : Value} {v2 : Value} (ht : isTown t) (hzr : nI 0 = 0 ∨ nI 0 = 1)
    (k : Q (some (.int (nI 0))) (LAY, RFu r, mem)) : P 9 [v0, v1, v2] [] (0, 0) (LAY, RFu r, mem) := by
  refine r_iconst (v := nI 0) hP d86_9 rfl ?_
  exact r_zret hP d86_10 rfl hzr k
theorem b86_11 {d : Nat} {P : xPr} {Q : xQr} {r : Nat} {mem : Nat → Nat → Int32} (hP : Cl d none 86 P Q) {t : Nat} {v2 : Value} (ht : isTown t)
    (k : xCall d 78 [.ref 1, .int (nI 2)] (LAY, RFu r, mem) (Bk P 13 [.ref t, .ref 1, v2] [] (0, 0))) : P 11 [.ref t, .ref 1, v2] [] (0, 0) (LAY, RFu r, mem) := by
  refine r_aload_n hP d86_11 rfl ?_
  refine r_iconst (v := nI 2) hP d86_12 rfl ?_
  exact r_callv (As := [.int (nI 2)]) (S := []) hP d86_13 cr_10_88 (by decide +kernel) rfl (by simp [Value.category]) rfl ly_1 (by simp [Value.category]) ⟨Nat.zero_le _, Nat.zero_le _⟩ k
theorem b86_16 {d : Nat} {P : xPr} {Q : xQr} {r : Nat} {mem : Nat → Nat → Int32} (hP : Cl d none 86 P Q) {t : Nat} {v2 : Value} {y0 : Int32} (ht : isTown t)
    (kt : ¬ y0 = (-1) → P 24 [.ref t, .ref 1, .int y0] [] (0, 0) (LAY, RFu r, mem)) (kf : y0 = (-1) → P 22 [.ref t, .ref 1, .int y0] [] (0, 0) (LAY, RFu r, mem)) : P 16 [.ref t, .ref 1, v2] [.int y0] (0, 0) (LAY, RFu r, mem) := by
  refine r_istore_n (L' := [.ref t, .ref 1, .int y0]) hP d86_16 (Nat.le_of_ble_eq_true rfl) rfl ?_
  refine r_iload_n hP d86_17 rfl ?_
  refine r_iconst (v := (-1)) hP d86_18 rfl ?_
  exact r_icmp (t := 24) hP d86_19 (by decide) kt (fun q => kf (Decidable.of_not_not q))
theorem b86_22 {d : Nat} {P : xPr} {Q : xQr} {r : Nat} {mem : Nat → Nat → Int32} (hP : Cl d none 86 P Q) {t : Nat} {v0 : Value} {v1 : Value} {v2 : Value} (ht : isTown t) (hzr : nI 0 = 0 ∨ nI 0 = 1)
    (k : Q (some (.int (nI 0))) (LAY, RFu r, mem)) : P 22 [v0, v1, v2] [] (0, 0) (LAY, RFu r, mem) := by
  refine r_iconst (v := nI 0) hP d86_22 rfl ?_
  exact r_zret hP d86_23 rfl hzr k
theorem b86_24 {d : Nat} {P : xPr} {Q : xQr} {r : Nat} {mem : Nat → Nat → Int32} (hP : Cl d none 86 P Q) {t : Nat} {x2 : Int32} (ht : isTown t) (hi33 : vp_in (mem t 11) 8)
    (k : xCall d 76 [.ref 1, .int (nI 33)] (LAY, RFu r, xu2 mem (t + 2) (mem t 11).toNatClampNeg x2) (Bk P 45 [.ref t, .ref 1, .int x2] [.int ((xu2 mem (t + 2) (mem t 11).toNatClampNeg x2) t 11), .ref (t + 3)] (0, 0))) : P 24 [.ref t, .ref 1, .int x2] [] (0, 0) (LAY, RFu r, mem) := by
  refine r_aload_n hP d86_24 rfl ?_
  refine r_getr (a := (t + 2)) hP d86_25 fr_10_15 rfl (lt_10 ht) (rt_10_3 ht) ?_
  refine r_aload_n hP d86_28 rfl ?_
  refine r_geti hP d86_29 fr_10_54 rfl (lt_10 ht) ?_
  refine r_iload_n hP d86_32 rfl ?_
  refine r_iastore hP d86_33 (lt_10_3 ht) hi33 ?_
  refine r_aload_n hP d86_34 rfl ?_
  refine r_getr (a := (t + 3)) hP d86_35 fr_10_18 rfl (lt_10 ht) (rt_10_4 ht) ?_
  refine r_aload_n hP d86_38 rfl ?_
  refine r_geti hP d86_39 fr_10_54 rfl (lt_10 ht) ?_
  refine r_aload_n hP d86_42 rfl ?_
  refine r_bipush (v := nI 33) hP d86_43 rfl ?_
  exact r_callv (As := [.int (nI 33)]) (S := [.int ((xu2 mem (t + 2) (mem t 11).toNatClampNeg x2) t 11), .ref (t + 3)]) hP d86_45 cr_10_76 (by decide +kernel) rfl (by simp [Value.category]) rfl ly_1 (by simp [Value.category]) ⟨Nat.zero_le _, Nat.zero_le _⟩ k
theorem b86_48 {d : Nat} {P : xPr} {Q : xQr} {r : Nat} {mem : Nat → Nat → Int32} (hP : Cl d none 86 P Q) {t : Nat} {v1 : Value} {v2 : Value} {y1 : Int32} {y2 : Int32} (ht : isTown t)
    (kt : y2 = 0 → P 55 [.ref t, v1, v2] [.int y1, .ref (t + 3)] (0, 0) (LAY, RFu r, mem)) (kf : ¬ y2 = 0 → P 51 [.ref t, v1, v2] [.int y1, .ref (t + 3)] (0, 0) (LAY, RFu r, mem)) : P 48 [.ref t, v1, v2] [.int y2, .int y1, .ref (t + 3)] (0, 0) (LAY, RFu r, mem) := by
  exact r_if (t := 55) hP d86_48 (by decide) kt kf
theorem b86_51 {d : Nat} {P : xPr} {Q : xQr} {r : Nat} {mem : Nat → Nat → Int32} (hP : Cl d none 86 P Q) {t : Nat} {v1 : Value} {v2 : Value} {y1 : Int32} (ht : isTown t)
    (k : P 56 [.ref t, v1, v2] [.int (nI 1), .int y1, .ref (t + 3)] (0, 0) (LAY, RFu r, mem)) : P 51 [.ref t, v1, v2] [.int y1, .ref (t + 3)] (0, 0) (LAY, RFu r, mem) := by
  refine r_iconst (v := nI 1) hP d86_51 rfl ?_
  refine r_goto (t := 56) hP d86_52 (by decide) ?_
  exact k
theorem b86_55 {d : Nat} {P : xPr} {Q : xQr} {r : Nat} {mem : Nat → Nat → Int32} (hP : Cl d none 86 P Q) {t : Nat} {v1 : Value} {v2 : Value} {y1 : Int32} (ht : isTown t)
    (k : P 56 [.ref t, v1, v2] [.int (nI 0), .int y1, .ref (t + 3)] (0, 0) (LAY, RFu r, mem)) : P 55 [.ref t, v1, v2] [.int y1, .ref (t + 3)] (0, 0) (LAY, RFu r, mem) := by
  refine r_iconst (v := nI 0) hP d86_55 rfl ?_
  exact k
theorem b86_56 {d : Nat} {P : xPr} {Q : xQr} {r : Nat} {mem : Nat → Nat → Int32} (hP : Cl d none 86 P Q) {t : Nat} {v1 : Value} {v2 : Value} {y1 : Int32} {y2 : Int32} (ht : isTown t) (hi56 : vp_in y1 8) (hzr : nI 1 = 0 ∨ nI 1 = 1)
    (k : Q (some (.int (nI 1))) (LAY, RFu r, xu2 (xu2 mem (t + 3) y1.toNatClampNeg y2) t 11 (((xu2 mem (t + 3) y1.toNatClampNeg y2) t 11) + (nI 1)))) : P 56 [.ref t, v1, v2] [.int y2, .int y1, .ref (t + 3)] (0, 0) (LAY, RFu r, mem) := by
  refine r_iastore hP d86_56 (lt_10_4 ht) hi56 ?_
  refine r_aload_n hP d86_57 rfl ?_
  refine r_dup hP d86_58 rfl ?_
  refine r_geti hP d86_59 fr_10_54 rfl (lt_10 ht) ?_
  refine r_iconst (v := nI 1) hP d86_62 rfl ?_
  refine r_iadd hP d86_63 ?_
  refine r_puti hP d86_64 fr_10_54 rfl (fun q => by cases q) (lt_10 ht) ?_
  refine r_iconst (v := nI 1) hP d86_67 rfl ?_
  exact r_zret hP d86_68 rfl hzr k
theorem d87_0 : decode (xB 87) 0 = .ok (.iconst 1, 1) := by decide +kernel
theorem d87_1 : decode (xB 87) 1 = .ok (.istore_n 3, 1) := by decide +kernel
theorem d87_2 : decode (xB 87) 2 = .ok (.aload_n 1, 1) := by decide +kernel
theorem d87_3 : decode (xB 87) 3 = .ok (.bipush 24, 2) := by decide +kernel
theorem d87_5 : decode (xB 87) 5 = .ok (.invokevirtual 57, 3) := by decide +kernel
theorem d87_8 : decode (xB 87) 8 = .ok (.iconst 0, 1) := by decide +kernel
theorem d87_9 : decode (xB 87) 9 = .ok (.istore 4, 2) := by decide +kernel
theorem d87_11 : decode (xB 87) 11 = .ok (.iload 4, 2) := by decide +kernel
theorem d87_13 : decode (xB 87) 13 = .ok (.bipush 24, 2) := by decide +kernel
theorem d87_15 : decode (xB 87) 15 = .ok (.if_icmp .ge 50, 3) := by decide +kernel
theorem d87_18 : decode (xB 87) 18 = .ok (.iload_n 3, 1) := by decide +kernel
theorem d87_19 : decode (xB 87) 19 = .ok (.ifCond .eq 46, 3) := by decide +kernel
theorem d87_22 : decode (xB 87) 22 = .ok (.aload_n 1, 1) := by decide +kernel
theorem d87_23 : decode (xB 87) 23 = .ok (.invokevirtual 65, 3) := by decide +kernel
theorem d87_26 : decode (xB 87) 26 = .ok (.iconst (-1), 1) := by decide +kernel
theorem d87_27 : decode (xB 87) 27 = .ok (.if_icmp .eq 38, 3) := by decide +kernel
theorem d87_30 : decode (xB 87) 30 = .ok (.aload_n 1, 1) := by decide +kernel
theorem d87_31 : decode (xB 87) 31 = .ok (.bipush 45, 2) := by decide +kernel
theorem d87_33 : decode (xB 87) 33 = .ok (.invokevirtual 76, 3) := by decide +kernel
theorem d87_36 : decode (xB 87) 36 = .ok (.ifCond .ne 17, 3) := by decide +kernel
theorem d87_39 : decode (xB 87) 39 = .ok (.aload_n 1, 1) := by decide +kernel
theorem d87_40 : decode (xB 87) 40 = .ok (.aload_n 0, 1) := by decide +kernel
theorem d87_41 : decode (xB 87) 41 = .ok (.getfield 44, 3) := by decide +kernel
theorem d87_44 : decode (xB 87) 44 = .ok (.iconst 1, 1) := by decide +kernel
theorem d87_45 : decode (xB 87) 45 = .ok (.isub, 1) := by decide +kernel
theorem d87_46 : decode (xB 87) 46 = .ok (.invokevirtual 84, 3) := by decide +kernel
theorem d87_49 : decode (xB 87) 49 = .ok (.iconst (-1), 1) := by decide +kernel
theorem d87_50 : decode (xB 87) 50 = .ok (.if_icmp .eq 7, 3) := by decide +kernel
theorem d87_53 : decode (xB 87) 53 = .ok (.iconst 1, 1) := by decide +kernel
theorem d87_54 : decode (xB 87) 54 = .ok (.goto 4, 3) := by decide +kernel
theorem d87_57 : decode (xB 87) 57 = .ok (.iconst 0, 1) := by decide +kernel
theorem d87_58 : decode (xB 87) 58 = .ok (.istore_n 3, 1) := by decide +kernel
theorem d87_59 : decode (xB 87) 59 = .ok (.iinc 4 1, 3) := by decide +kernel
theorem d87_62 : decode (xB 87) 62 = .ok (.goto (-51), 3) := by decide +kernel
theorem d87_65 : decode (xB 87) 65 = .ok (.iload_n 3, 1) := by decide +kernel
theorem d87_66 : decode (xB 87) 66 = .ok (.ifCond .eq 10, 3) := by decide +kernel
theorem d87_69 : decode (xB 87) 69 = .ok (.aload_n 1, 1) := by decide +kernel
theorem d87_70 : decode (xB 87) 70 = .ok (.invokevirtual 80, 3) := by decide +kernel
theorem d87_73 : decode (xB 87) 73 = .ok (.ifCond .ne 5, 3) := by decide +kernel
theorem d87_76 : decode (xB 87) 76 = .ok (.iconst 0, 1) := by decide +kernel
theorem d87_77 : decode (xB 87) 77 = .ok (.ireturn, 1) := by decide +kernel
theorem d87_78 : decode (xB 87) 78 = .ok (.aload_n 0, 1) := by decide +kernel
theorem d87_79 : decode (xB 87) 79 = .ok (.getfield 26, 3) := by decide +kernel
theorem d87_82 : decode (xB 87) 82 = .ok (.iload_n 2, 1) := by decide +kernel
theorem d87_83 : decode (xB 87) 83 = .ok (.bipush 24, 2) := by decide +kernel
theorem d87_85 : decode (xB 87) 85 = .ok (.aload_n 1, 1) := by decide +kernel
theorem d87_86 : decode (xB 87) 86 = .ok (.getfield 62, 3) := by decide +kernel
theorem d87_89 : decode (xB 87) 89 = .ok (.invokestatic 91, 3) := by decide +kernel
theorem d87_92 : decode (xB 87) 92 = .ok (.iastore, 1) := by decide +kernel
theorem d87_93 : decode (xB 87) 93 = .ok (.iconst 0, 1) := by decide +kernel
theorem d87_94 : decode (xB 87) 94 = .ok (.istore 4, 2) := by decide +kernel
theorem d87_96 : decode (xB 87) 96 = .ok (.iload 4, 2) := by decide +kernel
theorem d87_98 : decode (xB 87) 98 = .ok (.aload_n 0, 1) := by decide +kernel
theorem d87_99 : decode (xB 87) 99 = .ok (.getfield 26, 3) := by decide +kernel
theorem d87_102 : decode (xB 87) 102 = .ok (.iload_n 2, 1) := by decide +kernel
theorem d87_103 : decode (xB 87) 103 = .ok (.iaload, 1) := by decide +kernel
theorem d87_104 : decode (xB 87) 104 = .ok (.if_icmp .ge 44, 3) := by decide +kernel
theorem d87_107 : decode (xB 87) 107 = .ok (.aload_n 0, 1) := by decide +kernel
theorem d87_108 : decode (xB 87) 108 = .ok (.getfield 23, 3) := by decide +kernel
theorem d87_111 : decode (xB 87) 111 = .ok (.iload_n 2, 1) := by decide +kernel
theorem d87_112 : decode (xB 87) 112 = .ok (.aaload, 1) := by decide +kernel
theorem d87_113 : decode (xB 87) 113 = .ok (.iload 4, 2) := by decide +kernel
theorem d87_115 : decode (xB 87) 115 = .ok (.aload_n 1, 1) := by decide +kernel
theorem d87_116 : decode (xB 87) 116 = .ok (.getfield 97, 3) := by decide +kernel
theorem d87_119 : decode (xB 87) 119 = .ok (.iload 4, 2) := by decide +kernel
theorem d87_121 : decode (xB 87) 121 = .ok (.iaload, 1) := by decide +kernel
theorem d87_122 : decode (xB 87) 122 = .ok (.bipush 45, 2) := by decide +kernel
theorem d87_124 : decode (xB 87) 124 = .ok (.if_icmp .ne 7, 3) := by decide +kernel
theorem d87_127 : decode (xB 87) 127 = .ok (.iconst (-1), 1) := by decide +kernel
theorem d87_128 : decode (xB 87) 128 = .ok (.goto 13, 3) := by decide +kernel
theorem d87_131 : decode (xB 87) 131 = .ok (.aload_n 1, 1) := by decide +kernel
theorem d87_132 : decode (xB 87) 132 = .ok (.getfield 97, 3) := by decide +kernel
theorem d87_135 : decode (xB 87) 135 = .ok (.iload 4, 2) := by decide +kernel
theorem d87_137 : decode (xB 87) 137 = .ok (.iaload, 1) := by decide +kernel
theorem d87_138 : decode (xB 87) 138 = .ok (.bipush 48, 2) := by decide +kernel
theorem d87_140 : decode (xB 87) 140 = .ok (.isub, 1) := by decide +kernel
theorem d87_141 : decode (xB 87) 141 = .ok (.iastore, 1) := by decide +kernel
theorem d87_142 : decode (xB 87) 142 = .ok (.iinc 4 1, 3) := by decide +kernel
theorem d87_145 : decode (xB 87) 145 = .ok (.goto (-49), 3) := by decide +kernel
theorem d87_148 : decode (xB 87) 148 = .ok (.iconst 1, 1) := by decide +kernel
theorem d87_149 : decode (xB 87) 149 = .ok (.ireturn, 1) := by decide +kernel
theorem b87_0 {d : Nat} {P : xPr} {Q : xQr} {r : Nat} {mem : Nat → Nat → Int32} (hP : Cl d none 87 P Q) {t : Nat} {p1 : Int32} (ht : isTown t)
    (k : xCall d 74 [.ref 1, .int (nI 24)] (LAY, RFu r, mem) (Bk P 5 [.ref t, .ref 1, .int p1, .int (nI 1), .null] [] (0, 0))) : P 0 [.ref t, .ref 1, .int p1, .null, .null] [] (0, 0) (LAY, RFu r, mem) := by
  refine r_iconst (v := nI 1) hP d87_0 rfl ?_
  refine r_istore_n (L' := [.ref t, .ref 1, .int p1, .int (nI 1), .null]) hP d87_1 (Nat.le_of_ble_eq_true rfl) rfl ?_
  refine r_aload_n hP d87_2 rfl ?_
  refine r_bipush (v := nI 24) hP d87_3 rfl ?_
  exact r_callv (As := [.int (nI 24)]) (S := []) hP d87_5 cr_10_57 (by decide +kernel) rfl (by simp [Value.category]) rfl ly_1 (by simp [Value.category]) ⟨Nat.zero_le _, Nat.zero_le _⟩ k
theorem b87_8 {d : Nat} {P : xPr} {Q : xQr} {r : Nat} {mem : Nat → Nat → Int32} (hP : Cl d none 87 P Q) {t : Nat} {x2 : Int32} {x3 : Int32} {v4 : Value} (ht : isTown t)
    (k : P 11 [.ref t, .ref 1, .int x2, .int x3, .int (nI 0)] [] (0, 0) (LAY, RFu r, mem)) : P 8 [.ref t, .ref 1, .int x2, .int x3, v4] [] (0, 0) (LAY, RFu r, mem) := by
  refine r_iconst (v := nI 0) hP d87_8 rfl ?_
  refine r_istore (L' := [.ref t, .ref 1, .int x2, .int x3, .int (nI 0)]) hP d87_9 (Nat.le_of_ble_eq_true rfl) rfl ?_
  exact k
theorem b87_11 {d : Nat} {P : xPr} {Q : xQr} {r : Nat} {mem : Nat → Nat → Int32} (hP : Cl d none 87 P Q) {t : Nat} {x2 : Int32} {x3 : Int32} {x4 : Int32} (ht : isTown t)
    (kt : (nI 24) ≤ x4 → P 65 [.ref t, .ref 1, .int x2, .int x3, .int x4] [] (0, 0) (LAY, RFu r, mem)) (kf : ¬ (nI 24) ≤ x4 → P 18 [.ref t, .ref 1, .int x2, .int x3, .int x4] [] (0, 0) (LAY, RFu r, mem)) : P 11 [.ref t, .ref 1, .int x2, .int x3, .int x4] [] (0, 0) (LAY, RFu r, mem) := by
  refine r_iload hP d87_11 rfl ?_
  refine r_bipush (v := nI 24) hP d87_13 rfl ?_
  exact r_icmp (t := 65) hP d87_15 (by decide) kt kf
theorem b87_18 {d : Nat} {P : xPr} {Q : xQr} {r : Nat} {mem : Nat → Nat → Int32} (hP : Cl d none 87 P Q) {t : Nat} {x2 : Int32} {x3 : Int32} {x4 : Int32} (ht : isTown t)
    (kt : x3 = 0 → P 65 [.ref t, .ref 1, .int x2, .int x3, .int x4] [] (0, 0) (LAY, RFu r, mem)) (kf : ¬ x3 = 0 → P 22 [.ref t, .ref 1, .int x2, .int x3, .int x4] [] (0, 0) (LAY, RFu r, mem)) : P 18 [.ref t, .ref 1, .int x2, .int x3, .int x4] [] (0, 0) (LAY, RFu r, mem) := by
  refine r_iload_n hP d87_18 rfl ?_
  exact r_if (t := 65) hP d87_19 (by decide) kt kf
theorem b87_22 {d : Nat} {P : xPr} {Q : xQr} {r : Nat} {mem : Nat → Nat → Int32} (hP : Cl d none 87 P Q) {t : Nat} {x2 : Int32} {x3 : Int32} {x4 : Int32} (ht : isTown t)
    (k : xCall d 75 [.ref 1] (LAY, RFu r, mem) (Bk P 23 [.ref t, .ref 1, .int x2, .int x3, .int x4] [] (0, 0))) : P 22 [.ref t, .ref 1, .int x2, .int x3, .int x4] [] (0, 0) (LAY, RFu r, mem) := by
  refine r_aload_n hP d87_22 rfl ?_
  exact r_callv (As := []) (S := []) hP d87_23 cr_10_65 (by decide +kernel) rfl (by simp) rfl ly_1 (by simp [Value.category]) ⟨Nat.zero_le _, Nat.zero_le _⟩ k
theorem b87_26 {d : Nat} {P : xPr} {Q : xQr} {r : Nat} {mem : Nat → Nat → Int32} (hP : Cl d none 87 P Q) {t : Nat} {x2 : Int32} {x3 : Int32} {x4 : Int32} {y0 : Int32} (ht : isTown t)
    (kt : y0 = (-1) → P 65 [.ref t, .ref 1, .int x2, .int x3, .int x4] [] (0, 0) (LAY, RFu r, mem)) (kf : ¬ y0 = (-1) → P 30 [.ref t, .ref 1, .int x2, .int x3, .int x4] [] (0, 0) (LAY, RFu r, mem)) : P 26 [.ref t, .ref 1, .int x2, .int x3, .int x4] [.int y0] (0, 0) (LAY, RFu r, mem) := by
  refine r_iconst (v := (-1)) hP d87_26 rfl ?_
  exact r_icmp (t := 65) hP d87_27 (by decide) kt kf
theorem b87_30 {d : Nat} {P : xPr} {Q : xQr} {r : Nat} {mem : Nat → Nat → Int32} (hP : Cl d none 87 P Q) {t : Nat} {x2 : Int32} {v3 : Value} {x4 : Int32} (ht : isTown t)
    (k : xCall d 76 [.ref 1, .int (nI 45)] (LAY, RFu r, mem) (Bk P 33 [.ref t, .ref 1, .int x2, v3, .int x4] [] (0, 0))) : P 30 [.ref t, .ref 1, .int x2, v3, .int x4] [] (0, 0) (LAY, RFu r, mem) := by
  refine r_aload_n hP d87_30 rfl ?_
  refine r_bipush (v := nI 45) hP d87_31 rfl ?_
  exact r_callv (As := [.int (nI 45)]) (S := []) hP d87_33 cr_10_76 (by decide +kernel) rfl (by simp [Value.category]) rfl ly_1 (by simp [Value.category]) ⟨Nat.zero_le _, Nat.zero_le _⟩ k
theorem b87_36 {d : Nat} {P : xPr} {Q : xQr} {r : Nat} {mem : Nat → Nat → Int32} (hP : Cl d none 87 P Q) {t : Nat} {x2 : Int32} {v3 : Value} {x4 : Int32} {y0 : Int32} (ht : isTown t)
    (kt : ¬ y0 = 0 → P 53 [.ref t, .ref 1, .int x2, v3, .int x4] [] (0, 0) (LAY, RFu r, mem)) (kf : y0 = 0 → P 39 [.ref t, .ref 1, .int x2, v3, .int x4] [] (0, 0) (LAY, RFu r, mem)) : P 36 [.ref t, .ref 1, .int x2, v3, .int x4] [.int y0] (0, 0) (LAY, RFu r, mem) := by
  exact r_if (t := 53) hP d87_36 (by decide) kt (fun q => kf (Decidable.of_not_not q))
theorem b87_39 {d : Nat} {P : xPr} {Q : xQr} {r : Nat} {mem : Nat → Nat → Int32} (hP : Cl d none 87 P Q) {t : Nat} {x2 : Int32} {v3 : Value} {x4 : Int32} (ht : isTown t)
    (k : xCall d 77 [.ref 1, .int ((mem t 0) - (nI 1))] (LAY, RFu r, mem) (Bk P 46 [.ref t, .ref 1, .int x2, v3, .int x4] [] (0, 0))) : P 39 [.ref t, .ref 1, .int x2, v3, .int x4] [] (0, 0) (LAY, RFu r, mem) := by
  refine r_aload_n hP d87_39 rfl ?_
  refine r_aload_n hP d87_40 rfl ?_
  refine r_geti hP d87_41 fr_10_44 rfl (lt_10 ht) ?_
  refine r_iconst (v := nI 1) hP d87_44 rfl ?_
  refine r_isub hP d87_45 ?_
  exact r_callv (As := [.int ((mem t 0) - (nI 1))]) (S := []) hP d87_46 cr_10_84 (by decide +kernel) rfl (by simp [Value.category]) rfl ly_1 (by simp [Value.category]) ⟨Nat.zero_le _, Nat.zero_le _⟩ k
theorem b87_49 {d : Nat} {P : xPr} {Q : xQr} {r : Nat} {mem : Nat → Nat → Int32} (hP : Cl d none 87 P Q) {t : Nat} {x2 : Int32} {v3 : Value} {x4 : Int32} {y0 : Int32} (ht : isTown t)
    (kt : y0 = (-1) → P 57 [.ref t, .ref 1, .int x2, v3, .int x4] [] (0, 0) (LAY, RFu r, mem)) (kf : ¬ y0 = (-1) → P 53 [.ref t, .ref 1, .int x2, v3, .int x4] [] (0, 0) (LAY, RFu r, mem)) : P 49 [.ref t, .ref 1, .int x2, v3, .int x4] [.int y0] (0, 0) (LAY, RFu r, mem) := by
  refine r_iconst (v := (-1)) hP d87_49 rfl ?_
  exact r_icmp (t := 57) hP d87_50 (by decide) kt kf
theorem b87_53 {d : Nat} {P : xPr} {Q : xQr} {r : Nat} {mem : Nat → Nat → Int32} (hP : Cl d none 87 P Q) {t : Nat} {x2 : Int32} {v3 : Value} {x4 : Int32} (ht : isTown t)
    (k : P 58 [.ref t, .ref 1, .int x2, v3, .int x4] [.int (nI 1)] (0, 0) (LAY, RFu r, mem)) : P 53 [.ref t, .ref 1, .int x2, v3, .int x4] [] (0, 0) (LAY, RFu r, mem) := by
  refine r_iconst (v := nI 1) hP d87_53 rfl ?_
  refine r_goto (t := 58) hP d87_54 (by decide) ?_
  exact k
theorem b87_57 {d : Nat} {P : xPr} {Q : xQr} {r : Nat} {mem : Nat → Nat → Int32} (hP : Cl d none 87 P Q) {t : Nat} {x2 : Int32} {v3 : Value} {x4 : Int32} (ht : isTown t)
    (k : P 58 [.ref t, .ref 1, .int x2, v3, .int x4] [.int (nI 0)] (0, 0) (LAY, RFu r, mem)) : P 57 [.ref t, .ref 1, .int x2, v3, .int x4] [] (0, 0) (LAY, RFu r, mem) := by
  refine r_iconst (v := nI 0) hP d87_57 rfl ?_
  exact k
theorem b87_58 {d : Nat} {P : xPr} {Q : xQr} {r : Nat} {mem : Nat → Nat → Int32} (hP : Cl d none 87 P Q) {t : Nat} {x2 : Int32} {v3 : Value} {x4 : Int32} {y0 : Int32} (ht : isTown t)
    (k : P 11 [.ref t, .ref 1, .int x2, .int y0, .int (x4 + nI 1)] [] (0, 0) (LAY, RFu r, mem)) : P 58 [.ref t, .ref 1, .int x2, v3, .int x4] [.int y0] (0, 0) (LAY, RFu r, mem) := by
  refine r_istore_n (L' := [.ref t, .ref 1, .int x2, .int y0, .int x4]) hP d87_58 (Nat.le_of_ble_eq_true rfl) rfl ?_
  refine r_iinc (v := nI 1) (L' := [.ref t, .ref 1, .int x2, .int y0, .int (x4 + nI 1)]) hP d87_59 rfl rfl rfl ?_
  refine r_goto (t := 11) hP d87_62 (by decide) ?_
  exact k
theorem b87_65 {d : Nat} {P : xPr} {Q : xQr} {r : Nat} {mem : Nat → Nat → Int32} (hP : Cl d none 87 P Q) {t : Nat} {x2 : Int32} {x3 : Int32} {v4 : Value} (ht : isTown t)
    (kt : x3 = 0 → P 76 [.ref t, .ref 1, .int x2, .int x3, v4] [] (0, 0) (LAY, RFu r, mem)) (kf : ¬ x3 = 0 → P 69 [.ref t, .ref 1, .int x2, .int x3, v4] [] (0, 0) (LAY, RFu r, mem)) : P 65 [.ref t, .ref 1, .int x2, .int x3, v4] [] (0, 0) (LAY, RFu r, mem) := by
  refine r_iload_n hP d87_65 rfl ?_
  exact r_if (t := 76) hP d87_66 (by decide) kt kf
theorem b87_69 {d : Nat} {P : xPr} {Q : xQr} {r : Nat} {mem : Nat → Nat → Int32} (hP : Cl d none 87 P Q) {t : Nat} {x2 : Int32} {v3 : Value} {v4 : Value} (ht : isTown t)
    (k : xCall d 79 [.ref 1] (LAY, RFu r, mem) (Bk P 70 [.ref t, .ref 1, .int x2, v3, v4] [] (0, 0))) : P 69 [.ref t, .ref 1, .int x2, v3, v4] [] (0, 0) (LAY, RFu r, mem) := by
  refine r_aload_n hP d87_69 rfl ?_
  exact r_callv (As := []) (S := []) hP d87_70 cr_10_80 (by decide +kernel) rfl (by simp) rfl ly_1 (by simp [Value.category]) ⟨Nat.zero_le _, Nat.zero_le _⟩ k
theorem b87_73 {d : Nat} {P : xPr} {Q : xQr} {r : Nat} {mem : Nat → Nat → Int32} (hP : Cl d none 87 P Q) {t : Nat} {x2 : Int32} {v3 : Value} {v4 : Value} {y0 : Int32} (ht : isTown t)
    (kt : ¬ y0 = 0 → P 78 [.ref t, .ref 1, .int x2, v3, v4] [] (0, 0) (LAY, RFu r, mem)) (kf : y0 = 0 → P 76 [.ref t, .ref 1, .int x2, v3, v4] [] (0, 0) (LAY, RFu r, mem)) : P 73 [.ref t, .ref 1, .int x2, v3, v4] [.int y0] (0, 0) (LAY, RFu r, mem) := by
  exact r_if (t := 78) hP d87_73 (by decide) kt (fun q => kf (Decidable.of_not_not q))
theorem b87_76 {d : Nat} {P : xPr} {Q : xQr} {r : Nat} {mem : Nat → Nat → Int32} (hP : Cl d none 87 P Q) {t : Nat} {v0 : Value} {v1 : Value} {v2 : Value} {v3 : Value} {v4 : Value} (ht : isTown t) (hzr : nI 0 = 0 ∨ nI 0 = 1)
    (k : Q (some (.int (nI 0))) (LAY, RFu r, mem)) : P 76 [v0, v1, v2, v3, v4] [] (0, 0) (LAY, RFu r, mem) := by
  refine r_iconst (v := nI 0) hP d87_76 rfl ?_
  exact r_zret hP d87_77 rfl hzr k
theorem b87_78 {d : Nat} {P : xPr} {Q : xQr} {r : Nat} {mem : Nat → Nat → Int32} (hP : Cl d none 87 P Q) {t : Nat} {x2 : Int32} {v3 : Value} {v4 : Value} (ht : isTown t) (hi92 : vp_in x2 8)
    (k : P 96 [.ref t, .ref 1, .int x2, v3, .int (nI 0)] [] (0, 0) (LAY, RFu r, xu2 mem (t + 13) x2.toNatClampNeg (if mem 1 1 < nI 24 then mem 1 1 else nI 24))) : P 78 [.ref t, .ref 1, .int x2, v3, v4] [] (0, 0) (LAY, RFu r, mem) := by
  refine r_aload_n hP d87_78 rfl ?_
  refine r_getr (a := (t + 13)) hP d87_79 fr_10_26 rfl (lt_10 ht) (rt_10_6 ht) ?_
  refine r_iload_n hP d87_82 rfl ?_
  refine r_bipush (v := nI 24) hP d87_83 rfl ?_
  refine r_aload_n hP d87_85 rfl ?_
  refine r_geti hP d87_86 fr_10_62 rfl ly_1 ?_
  refine r_min hP d87_89 cr_10_91 (by simp [Value.category]) ?_
  refine r_iastore hP d87_92 (lt_10_6 ht) hi92 ?_
  refine r_iconst (v := nI 0) hP d87_93 rfl ?_
  refine r_istore (L' := [.ref t, .ref 1, .int x2, v3, .int (nI 0)]) hP d87_94 (Nat.le_of_ble_eq_true rfl) rfl ?_
  exact k
theorem b87_96 {d : Nat} {P : xPr} {Q : xQr} {r : Nat} {mem : Nat → Nat → Int32} (hP : Cl d none 87 P Q) {t : Nat} {x2 : Int32} {v3 : Value} {x4 : Int32} (ht : isTown t) (hi103 : vp_in x2 8)
    (kt : (mem (t + 13) x2.toNatClampNeg) ≤ x4 → P 148 [.ref t, .ref 1, .int x2, v3, .int x4] [] (0, 0) (LAY, RFu r, mem)) (kf : ¬ (mem (t + 13) x2.toNatClampNeg) ≤ x4 → P 107 [.ref t, .ref 1, .int x2, v3, .int x4] [] (0, 0) (LAY, RFu r, mem)) : P 96 [.ref t, .ref 1, .int x2, v3, .int x4] [] (0, 0) (LAY, RFu r, mem) := by
  refine r_iload hP d87_96 rfl ?_
  refine r_aload_n hP d87_98 rfl ?_
  refine r_getr (a := (t + 13)) hP d87_99 fr_10_26 rfl (lt_10 ht) (rt_10_6 ht) ?_
  refine r_iload_n hP d87_102 rfl ?_
  refine r_iaload hP d87_103 (lt_10_6 ht) hi103 ?_
  exact r_icmp (t := 148) hP d87_104 (by decide) kt kf
theorem b87_107 {d : Nat} {P : xPr} {Q : xQr} {r : Nat} {mem : Nat → Nat → Int32} (hP : Cl d none 87 P Q) {t : Nat} {x2 : Int32} {v3 : Value} {x4 : Int32} (ht : isTown t) (hi112 : vp_in x2 8) (hi121 : vp_in x4 80)
    (kt : ¬ (mem 2 x4.toNatClampNeg) = (nI 45) → P 131 [.ref t, .ref 1, .int x2, v3, .int x4] [.int x4, .ref (t + 5 + x2.toNatClampNeg)] (0, 0) (LAY, RFu r, mem)) (kf : (mem 2 x4.toNatClampNeg) = (nI 45) → P 127 [.ref t, .ref 1, .int x2, v3, .int x4] [.int x4, .ref (t + 5 + x2.toNatClampNeg)] (0, 0) (LAY, RFu r, mem)) : P 107 [.ref t, .ref 1, .int x2, v3, .int x4] [] (0, 0) (LAY, RFu r, mem) := by
  refine r_aload_n hP d87_107 rfl ?_
  refine r_getr (a := (t + 4)) hP d87_108 fr_10_23 rfl (lt_10 ht) (rt_10_5 ht) ?_
  refine r_iload_n hP d87_111 rfl ?_
  refine r_aaload (b := (t + 5 + x2.toNatClampNeg)) hP d87_112 (by decide) (lt_10_5 ht) hi112 (rt2_10_5 ht (vp_lt hi112)) ?_
  refine r_iload hP d87_113 rfl ?_
  refine r_aload_n hP d87_115 rfl ?_
  refine r_getr (a := 2) hP d87_116 fr_10_97 rfl ly_1 rg_1_0 ?_
  refine r_iload hP d87_119 rfl ?_
  refine r_iaload hP d87_121 ly_2 hi121 ?_
  refine r_bipush (v := nI 45) hP d87_122 rfl ?_
  exact r_icmp (t := 131) hP d87_124 (by decide) kt (fun q => kf (Decidable.of_not_not q))
theorem b87_127 {d : Nat} {P : xPr} {Q : xQr} {r : Nat} {mem : Nat → Nat → Int32} (hP : Cl d none 87 P Q) {t : Nat} {x2 : Int32} {v3 : Value} {x4 : Int32} {w0 : Nat} {y1 : Int32} (ht : isTown t) (hw0 : LAY[w0]? = some (13, 24))
    (k : P 141 [.ref t, .ref 1, .int x2, v3, .int x4] [.int (-1), .int y1, .ref w0] (0, 0) (LAY, RFu r, mem)) : P 127 [.ref t, .ref 1, .int x2, v3, .int x4] [.int y1, .ref w0] (0, 0) (LAY, RFu r, mem) := by
  refine r_iconst (v := (-1)) hP d87_127 rfl ?_
  refine r_goto (t := 141) hP d87_128 (by decide) ?_
  exact k
theorem b87_131 {d : Nat} {P : xPr} {Q : xQr} {r : Nat} {mem : Nat → Nat → Int32} (hP : Cl d none 87 P Q) {t : Nat} {x2 : Int32} {v3 : Value} {x4 : Int32} {w0 : Nat} {y1 : Int32} (ht : isTown t) (hw0 : LAY[w0]? = some (13, 24)) (hi137 : vp_in x4 80)
    (k : P 141 [.ref t, .ref 1, .int x2, v3, .int x4] [.int ((mem 2 x4.toNatClampNeg) - (nI 48)), .int y1, .ref w0] (0, 0) (LAY, RFu r, mem)) : P 131 [.ref t, .ref 1, .int x2, v3, .int x4] [.int y1, .ref w0] (0, 0) (LAY, RFu r, mem) := by
  refine r_aload_n hP d87_131 rfl ?_
  refine r_getr (a := 2) hP d87_132 fr_10_97 rfl ly_1 rg_1_0 ?_
  refine r_iload hP d87_135 rfl ?_
  refine r_iaload hP d87_137 ly_2 hi137 ?_
  refine r_bipush (v := nI 48) hP d87_138 rfl ?_
  refine r_isub hP d87_140 ?_
  exact k
theorem b87_141 {d : Nat} {P : xPr} {Q : xQr} {r : Nat} {mem : Nat → Nat → Int32} (hP : Cl d none 87 P Q) {t : Nat} {x2 : Int32} {v3 : Value} {x4 : Int32} {w0 : Nat} {y1 : Int32} {y2 : Int32} (ht : isTown t) (hw0 : LAY[w0]? = some (13, 24)) (hi141 : vp_in y1 24)
    (k : P 96 [.ref t, .ref 1, .int x2, v3, .int (x4 + nI 1)] [] (0, 0) (LAY, RFu r, xu2 mem w0 y1.toNatClampNeg y2)) : P 141 [.ref t, .ref 1, .int x2, v3, .int x4] [.int y2, .int y1, .ref w0] (0, 0) (LAY, RFu r, mem) := by
  refine r_iastore hP d87_141 hw0 hi141 ?_
  refine r_iinc (v := nI 1) (L' := [.ref t, .ref 1, .int x2, v3, .int (x4 + nI 1)]) hP d87_142 rfl rfl rfl ?_
  refine r_goto (t := 96) hP d87_145 (by decide) ?_
  exact k
theorem b87_148 {d : Nat} {P : xPr} {Q : xQr} {r : Nat} {mem : Nat → Nat → Int32} (hP : Cl d none 87 P Q) {t : Nat} {v0 : Value} {v1 : Value} {v2 : Value} {v3 : Value} {v4 : Value} (ht : isTown t) (hzr : nI 1 = 0 ∨ nI 1 = 1)
    (k : Q (some (.int (nI 1))) (LAY, RFu r, mem)) : P 148 [v0, v1, v2, v3, v4] [] (0, 0) (LAY, RFu r, mem) := by
  refine r_iconst (v := nI 1) hP d87_148 rfl ?_
  exact r_zret hP d87_149 rfl hzr k
theorem d88_0 : decode (xB 88) 0 = .ok (.aload_n 0, 1) := by decide +kernel
theorem d88_1 : decode (xB 88) 1 = .ok (.aload_n 1, 1) := by decide +kernel
theorem d88_2 : decode (xB 88) 2 = .ok (.getfield 44, 3) := by decide +kernel
theorem d88_5 : decode (xB 88) 5 = .ok (.putfield 44, 3) := by decide +kernel
theorem d88_8 : decode (xB 88) 8 = .ok (.aload_n 0, 1) := by decide +kernel
theorem d88_9 : decode (xB 88) 9 = .ok (.aload_n 1, 1) := by decide +kernel
theorem d88_10 : decode (xB 88) 10 = .ok (.getfield 48, 3) := by decide +kernel
theorem d88_13 : decode (xB 88) 13 = .ok (.putfield 48, 3) := by decide +kernel
theorem d88_16 : decode (xB 88) 16 = .ok (.aload_n 1, 1) := by decide +kernel
theorem d88_17 : decode (xB 88) 17 = .ok (.getfield 9, 3) := by decide +kernel
theorem d88_20 : decode (xB 88) 20 = .ok (.iconst 0, 1) := by decide +kernel
theorem d88_21 : decode (xB 88) 21 = .ok (.aload_n 0, 1) := by decide +kernel
theorem d88_22 : decode (xB 88) 22 = .ok (.getfield 9, 3) := by decide +kernel
theorem d88_25 : decode (xB 88) 25 = .ok (.iconst 0, 1) := by decide +kernel
theorem d88_26 : decode (xB 88) 26 = .ok (.iconst 4, 1) := by decide +kernel
theorem d88_27 : decode (xB 88) 27 = .ok (.invokestatic 100, 3) := by decide +kernel
theorem d88_30 : decode (xB 88) 30 = .ok (.aload_n 1, 1) := by decide +kernel
theorem d88_31 : decode (xB 88) 31 = .ok (.getfield 15, 3) := by decide +kernel
theorem d88_34 : decode (xB 88) 34 = .ok (.iconst 0, 1) := by decide +kernel
theorem d88_35 : decode (xB 88) 35 = .ok (.aload_n 0, 1) := by decide +kernel
theorem d88_36 : decode (xB 88) 36 = .ok (.getfield 15, 3) := by decide +kernel
theorem d88_39 : decode (xB 88) 39 = .ok (.iconst 0, 1) := by decide +kernel
theorem d88_40 : decode (xB 88) 40 = .ok (.bipush 8, 2) := by decide +kernel
theorem d88_42 : decode (xB 88) 42 = .ok (.invokestatic 100, 3) := by decide +kernel
theorem d88_45 : decode (xB 88) 45 = .ok (.aload_n 1, 1) := by decide +kernel
theorem d88_46 : decode (xB 88) 46 = .ok (.getfield 18, 3) := by decide +kernel
theorem d88_49 : decode (xB 88) 49 = .ok (.iconst 0, 1) := by decide +kernel
theorem d88_50 : decode (xB 88) 50 = .ok (.aload_n 0, 1) := by decide +kernel
theorem d88_51 : decode (xB 88) 51 = .ok (.getfield 18, 3) := by decide +kernel
theorem d88_54 : decode (xB 88) 54 = .ok (.iconst 0, 1) := by decide +kernel
theorem d88_55 : decode (xB 88) 55 = .ok (.bipush 8, 2) := by decide +kernel
theorem d88_57 : decode (xB 88) 57 = .ok (.invokestatic 100, 3) := by decide +kernel
theorem d88_60 : decode (xB 88) 60 = .ok (.aload_n 1, 1) := by decide +kernel
theorem d88_61 : decode (xB 88) 61 = .ok (.getfield 26, 3) := by decide +kernel
theorem d88_64 : decode (xB 88) 64 = .ok (.iconst 0, 1) := by decide +kernel
theorem d88_65 : decode (xB 88) 65 = .ok (.aload_n 0, 1) := by decide +kernel
theorem d88_66 : decode (xB 88) 66 = .ok (.getfield 26, 3) := by decide +kernel
theorem d88_69 : decode (xB 88) 69 = .ok (.iconst 0, 1) := by decide +kernel
theorem d88_70 : decode (xB 88) 70 = .ok (.bipush 8, 2) := by decide +kernel
theorem d88_72 : decode (xB 88) 72 = .ok (.invokestatic 100, 3) := by decide +kernel
theorem d88_75 : decode (xB 88) 75 = .ok (.aload_n 1, 1) := by decide +kernel
theorem d88_76 : decode (xB 88) 76 = .ok (.getfield 29, 3) := by decide +kernel
theorem d88_79 : decode (xB 88) 79 = .ok (.iconst 0, 1) := by decide +kernel
theorem d88_80 : decode (xB 88) 80 = .ok (.aload_n 0, 1) := by decide +kernel
theorem d88_81 : decode (xB 88) 81 = .ok (.getfield 29, 3) := by decide +kernel
theorem d88_84 : decode (xB 88) 84 = .ok (.iconst 0, 1) := by decide +kernel
theorem d88_85 : decode (xB 88) 85 = .ok (.bipush 8, 2) := by decide +kernel
theorem d88_87 : decode (xB 88) 87 = .ok (.invokestatic 100, 3) := by decide +kernel
theorem d88_90 : decode (xB 88) 90 = .ok (.iconst 0, 1) := by decide +kernel
theorem d88_91 : decode (xB 88) 91 = .ok (.istore_n 2, 1) := by decide +kernel
theorem d88_92 : decode (xB 88) 92 = .ok (.iload_n 2, 1) := by decide +kernel
theorem d88_93 : decode (xB 88) 93 = .ok (.aload_n 0, 1) := by decide +kernel
theorem d88_94 : decode (xB 88) 94 = .ok (.getfield 48, 3) := by decide +kernel
theorem d88_97 : decode (xB 88) 97 = .ok (.if_icmp .ge 28, 3) := by decide +kernel
theorem d88_100 : decode (xB 88) 100 = .ok (.aload_n 1, 1) := by decide +kernel
theorem d88_101 : decode (xB 88) 101 = .ok (.getfield 23, 3) := by decide +kernel
theorem d88_104 : decode (xB 88) 104 = .ok (.iload_n 2, 1) := by decide +kernel
theorem d88_105 : decode (xB 88) 105 = .ok (.aaload, 1) := by decide +kernel
theorem d88_106 : decode (xB 88) 106 = .ok (.iconst 0, 1) := by decide +kernel
theorem d88_107 : decode (xB 88) 107 = .ok (.aload_n 0, 1) := by decide +kernel
theorem d88_108 : decode (xB 88) 108 = .ok (.getfield 23, 3) := by decide +kernel
theorem d88_111 : decode (xB 88) 111 = .ok (.iload_n 2, 1) := by decide +kernel
theorem d88_112 : decode (xB 88) 112 = .ok (.aaload, 1) := by decide +kernel
theorem d88_113 : decode (xB 88) 113 = .ok (.iconst 0, 1) := by decide +kernel
theorem d88_114 : decode (xB 88) 114 = .ok (.bipush 24, 2) := by decide +kernel
theorem d88_116 : decode (xB 88) 116 = .ok (.invokestatic 100, 3) := by decide +kernel
theorem d88_119 : decode (xB 88) 119 = .ok (.iinc 2 1, 3) := by decide +kernel
theorem d88_122 : decode (xB 88) 122 = .ok (.goto (-30), 3) := by decide +kernel
theorem d88_125 : decode (xB 88) 125 = .ok (.aload_n 0, 1) := by decide +kernel
theorem d88_126 : decode (xB 88) 126 = .ok (.getfield 37, 3) := by decide +kernel
theorem d88_129 : decode (xB 88) 129 = .ok (.aload_n 1, 1) := by decide +kernel
theorem d88_130 : decode (xB 88) 130 = .ok (.getfield 37, 3) := by decide +kernel
theorem d88_133 : decode (xB 88) 133 = .ok (.invokevirtual 106, 3) := by decide +kernel
theorem d88_136 : decode (xB 88) 136 = .ok (.aload_n 0, 1) := by decide +kernel
theorem d88_137 : decode (xB 88) 137 = .ok (.getfield 41, 3) := by decide +kernel
theorem d88_140 : decode (xB 88) 140 = .ok (.aload_n 1, 1) := by decide +kernel
theorem d88_141 : decode (xB 88) 141 = .ok (.getfield 41, 3) := by decide +kernel
theorem d88_144 : decode (xB 88) 144 = .ok (.invokevirtual 106, 3) := by decide +kernel
theorem d88_147 : decode (xB 88) 147 = .ok (.return_, 1) := by decide +kernel
theorem b88_0 {d : Nat} {P : xPr} {Q : xQr} {r : Nat} {mem : Nat → Nat → Int32} (hP : Cl d none 88 P Q) {t : Nat} {t1 : Nat} (ht : isTown t) (ht1 : isTown t1)
    (k : P 92 [.ref t, .ref t1, .int (nI 0)] [] (0, 0) (LAY, RFu r, xuA (xuA (xuA (xuA (xuA (xu2 (xu2 mem t 0 (mem t1 0)) t 1 ((xu2 mem t 0 (mem t1 0)) t1 1)) (t + 1) (va_cpy ((xu2 (xu2 mem t 0 (mem t1 0)) t 1 ((xu2 mem t 0 (mem t1 0)) t1 1)) (t1 + 1)) ((xu2 (xu2 mem t 0 (mem t1 0)) t 1 ((xu2 mem t 0 (mem t1 0)) t1 1)) (t + 1)) 0 0 4)) (t + 2) (va_cpy ((xuA (xu2 (xu2 mem t 0 (mem t1 0)) t 1 ((xu2 mem t 0 (mem t1 0)) t1 1)) (t + 1) (va_cpy ((xu2 (xu2 mem t 0 (mem t1 0)) t 1 ((xu2 mem t 0 (mem t1 0)) t1 1)) (t1 + 1)) ((xu2 (xu2 mem t 0 (mem t1 0)) t 1 ((xu2 mem t 0 (mem t1 0)) t1 1)) (t + 1)) 0 0 4)) (t1 + 2)) ((xuA (xu2 (xu2 mem t 0 (mem t1 0)) t 1 ((xu2 mem t 0 (mem t1 0)) t1 1)) (t + 1) (va_cpy ((xu2 (xu2 mem t 0 (mem t1 0)) t 1 ((xu2 mem t 0 (mem t1 0)) t1 1)) (t1 + 1)) ((xu2 (xu2 mem t 0 (mem t1 0)) t 1 ((xu2 mem t 0 (mem t1 0)) t1 1)) (t + 1)) 0 0 4)) (t + 2)) 0 0 8)) (t + 3) (va_cpy ((xuA (xuA (xu2 (xu2 mem t 0 (mem t1 0)) t 1 ((xu2 mem t 0 (mem t1 0)) t1 1)) (t + 1) (va_cpy ((xu2 (xu2 mem t 0 (mem t1 0)) t 1 ((xu2 mem t 0 (mem t1 0)) t1 1)) (t1 + 1)) ((xu2 (xu2 mem t 0 (mem t1 0)) t 1 ((xu2 mem t 0 (mem t1 0)) t1 1)) (t + 1)) 0 0 4)) (t + 2) (va_cpy ((xuA (xu2 (xu2 mem t 0 (mem t1 0)) t 1 ((xu2 mem t 0 (mem t1 0)) t1 1)) (t + 1) (va_cpy ((xu2 (xu2 mem t 0 (mem t1 0)) t 1 ((xu2 mem t 0 (mem t1 0)) t1 1)) (t1 + 1)) ((xu2 (xu2 mem t 0 (mem t1 0)) t 1 ((xu2 mem t 0 (mem t1 0)) t1 1)) (t + 1)) 0 0 4)) (t1 + 2)) ((xuA (xu2 (xu2 mem t 0 (mem t1 0)) t 1 ((xu2 mem t 0 (mem t1 0)) t1 1)) (t + 1) (va_cpy ((xu2 (xu2 mem t 0 (mem t1 0)) t 1 ((xu2 mem t 0 (mem t1 0)) t1 1)) (t1 + 1)) ((xu2 (xu2 mem t 0 (mem t1 0)) t 1 ((xu2 mem t 0 (mem t1 0)) t1 1)) (t + 1)) 0 0 4)) (t + 2)) 0 0 8)) (t1 + 3)) ((xuA (xuA (xu2 (xu2 mem t 0 (mem t1 0)) t 1 ((xu2 mem t 0 (mem t1 0)) t1 1)) (t + 1) (va_cpy ((xu2 (xu2 mem t 0 (mem t1 0)) t 1 ((xu2 mem t 0 (mem t1 0)) t1 1)) (t1 + 1)) ((xu2 (xu2 mem t 0 (mem t1 0)) t 1 ((xu2 mem t 0 (mem t1 0)) t1 1)) (t + 1)) 0 0 4)) (t + 2) (va_cpy ((xuA (xu2 (xu2 mem t 0 (mem t1 0)) t 1 ((xu2 mem t 0 (mem t1 0)) t1 1)) (t + 1) (va_cpy ((xu2 (xu2 mem t 0 (mem t1 0)) t 1 ((xu2 mem t 0 (mem t1 0)) t1 1)) (t1 + 1)) ((xu2 (xu2 mem t 0 (mem t1 0)) t 1 ((xu2 mem t 0 (mem t1 0)) t1 1)) (t + 1)) 0 0 4)) (t1 + 2)) ((xuA (xu2 (xu2 mem t 0 (mem t1 0)) t 1 ((xu2 mem t 0 (mem t1 0)) t1 1)) (t + 1) (va_cpy ((xu2 (xu2 mem t 0 (mem t1 0)) t 1 ((xu2 mem t 0 (mem t1 0)) t1 1)) (t1 + 1)) ((xu2 (xu2 mem t 0 (mem t1 0)) t 1 ((xu2 mem t 0 (mem t1 0)) t1 1)) (t + 1)) 0 0 4)) (t + 2)) 0 0 8)) (t + 3)) 0 0 8)) (t + 13) (va_cpy ((xuA (xuA (xuA (xu2 (xu2 mem t 0 (mem t1 0)) t 1 ((xu2 mem t 0 (mem t1 0)) t1 1)) (t + 1) (va_cpy ((xu2 (xu2 mem t 0 (mem t1 0)) t 1 ((xu2 mem t 0 (mem t1 0)) t1 1)) (t1 + 1)) ((xu2 (xu2 mem t 0 (mem t1 0)) t 1 ((xu2 mem t 0 (mem t1 0)) t1 1)) (t + 1)) 0 0 4)) (t + 2) (va_cpy ((xuA (xu2 (xu2 mem t 0 (mem t1 0)) t 1 ((xu2 mem t 0 (mem t1 0)) t1 1)) (t + 1) (va_cpy ((xu2 (xu2 mem t 0 (mem t1 0)) t 1 ((xu2 mem t 0 (mem t1 0)) t1 1)) (t1 + 1)) ((xu2 (xu2 mem t 0 (mem t1 0)) t 1 ((xu2 mem t 0 (mem t1 0)) t1 1)) (t + 1)) 0 0 4)) (t1 + 2)) ((xuA (xu2 (xu2 mem t 0 (mem t1 0)) t 1 ((xu2 mem t 0 (mem t1 0)) t1 1)) (t + 1) (va_cpy ((xu2 (xu2 mem t 0 (mem t1 0)) t 1 ((xu2 mem t 0 (mem t1 0)) t1 1)) (t1 + 1)) ((xu2 (xu2 mem t 0 (mem t1 0)) t 1 ((xu2 mem t 0 (mem t1 0)) t1 1)) (t + 1)) 0 0 4)) (t + 2)) 0 0 8)) (t + 3) (va_cpy ((xuA (xuA (xu2 (xu2 mem t 0 (mem t1 0)) t 1 ((xu2 mem t 0 (mem t1 0)) t1 1)) (t + 1) (va_cpy ((xu2 (xu2 mem t 0 (mem t1 0)) t 1 ((xu2 mem t 0 (mem t1 0)) t1 1)) (t1 + 1)) ((xu2 (xu2 mem t 0 (mem t1 0)) t 1 ((xu2 mem t 0 (mem t1 0)) t1 1)) (t + 1)) 0 0 4)) (t + 2) (va_cpy ((xuA (xu2 (xu2 mem t 0 (mem t1 0)) t 1 ((xu2 mem t 0 (mem t1 0)) t1 1)) (t + 1) (va_cpy ((xu2 (xu2 mem t 0 (mem t1 0)) t 1 ((xu2 mem t 0 (mem t1 0)) t1 1)) (t1 + 1)) ((xu2 (xu2 mem t 0 (mem t1 0)) t 1 ((xu2 mem t 0 (mem t1 0)) t1 1)) (t + 1)) 0 0 4)) (t1 + 2)) ((xuA (xu2 (xu2 mem t 0 (mem t1 0)) t 1 ((xu2 mem t 0 (mem t1 0)) t1 1)) (t + 1) (va_cpy ((xu2 (xu2 mem t 0 (mem t1 0)) t 1 ((xu2 mem t 0 (mem t1 0)) t1 1)) (t1 + 1)) ((xu2 (xu2 mem t 0 (mem t1 0)) t 1 ((xu2 mem t 0 (mem t1 0)) t1 1)) (t + 1)) 0 0 4)) (t + 2)) 0 0 8)) (t1 + 3)) ((xuA (xuA (xu2 (xu2 mem t 0 (mem t1 0)) t 1 ((xu2 mem t 0 (mem t1 0)) t1 1)) (t + 1) (va_cpy ((xu2 (xu2 mem t 0 (mem t1 0)) t 1 ((xu2 mem t 0 (mem t1 0)) t1 1)) (t1 + 1)) ((xu2 (xu2 mem t 0 (mem t1 0)) t 1 ((xu2 mem t 0 (mem t1 0)) t1 1)) (t + 1)) 0 0 4)) (t + 2) (va_cpy ((xuA (xu2 (xu2 mem t 0 (mem t1 0)) t 1 ((xu2 mem t 0 (mem t1 0)) t1 1)) (t + 1) (va_cpy ((xu2 (xu2 mem t 0 (mem t1 0)) t 1 ((xu2 mem t 0 (mem t1 0)) t1 1)) (t1 + 1)) ((xu2 (xu2 mem t 0 (mem t1 0)) t 1 ((xu2 mem t 0 (mem t1 0)) t1 1)) (t + 1)) 0 0 4)) (t1 + 2)) ((xuA (xu2 (xu2 mem t 0 (mem t1 0)) t 1 ((xu2 mem t 0 (mem t1 0)) t1 1)) (t + 1) (va_cpy ((xu2 (xu2 mem t 0 (mem t1 0)) t 1 ((xu2 mem t 0 (mem t1 0)) t1 1)) (t1 + 1)) ((xu2 (xu2 mem t 0 (mem t1 0)) t 1 ((xu2 mem t 0 (mem t1 0)) t1 1)) (t + 1)) 0 0 4)) (t + 2)) 0 0 8)) (t + 3)) 0 0 8)) (t1 + 13)) ((xuA (xuA (xuA (xu2 (xu2 mem t 0 (mem t1 0)) t 1 ((xu2 mem t 0 (mem t1 0)) t1 1)) (t + 1) (va_cpy ((xu2 (xu2 mem t 0 (mem t1 0)) t 1 ((xu2 mem t 0 (mem t1 0)) t1 1)) (t1 + 1)) ((xu2 (xu2 mem t 0 (mem t1 0)) t 1 ((xu2 mem t 0 (mem t1 0)) t1 1)) (t + 1)) 0 0 4)) (t + 2) (va_cpy ((xuA (xu2 (xu2 mem t 0 (mem t1 0)) t 1 ((xu2 mem t 0 (mem t1 0)) t1 1)) (t + 1) (va_cpy ((xu2 (xu2 mem t 0 (mem t1 0)) t 1 ((xu2 mem t 0 (mem t1 0)) t1 1)) (t1 + 1)) ((xu2 (xu2 mem t 0 (mem t1 0)) t 1 ((xu2 mem t 0 (mem t1 0)) t1 1)) (t + 1)) 0 0 4)) (t1 + 2)) ((xuA (xu2 (xu2 mem t 0 (mem t1 0)) t 1 ((xu2 mem t 0 (mem t1 0)) t1 1)) (t + 1) (va_cpy ((xu2 (xu2 mem t 0 (mem t1 0)) t 1 ((xu2 mem t 0 (mem t1 0)) t1 1)) (t1 + 1)) ((xu2 (xu2 mem t 0 (mem t1 0)) t 1 ((xu2 mem t 0 (mem t1 0)) t1 1)) (t + 1)) 0 0 4)) (t + 2)) 0 0 8)) (t + 3) (va_cpy ((xuA (xuA (xu2 (xu2 mem t 0 (mem t1 0)) t 1 ((xu2 mem t 0 (mem t1 0)) t1 1)) (t + 1) (va_cpy ((xu2 (xu2 mem t 0 (mem t1 0)) t 1 ((xu2 mem t 0 (mem t1 0)) t1 1)) (t1 + 1)) ((xu2 (xu2 mem t 0 (mem t1 0)) t 1 ((xu2 mem t 0 (mem t1 0)) t1 1)) (t + 1)) 0 0 4)) (t + 2) (va_cpy ((xuA (xu2 (xu2 mem t 0 (mem t1 0)) t 1 ((xu2 mem t 0 (mem t1 0)) t1 1)) (t + 1) (va_cpy ((xu2 (xu2 mem t 0 (mem t1 0)) t 1 ((xu2 mem t 0 (mem t1 0)) t1 1)) (t1 + 1)) ((xu2 (xu2 mem t 0 (mem t1 0)) t 1 ((xu2 mem t 0 (mem t1 0)) t1 1)) (t + 1)) 0 0 4)) (t1 + 2)) ((xuA (xu2 (xu2 mem t 0 (mem t1 0)) t 1 ((xu2 mem t 0 (mem t1 0)) t1 1)) (t + 1) (va_cpy ((xu2 (xu2 mem t 0 (mem t1 0)) t 1 ((xu2 mem t 0 (mem t1 0)) t1 1)) (t1 + 1)) ((xu2 (xu2 mem t 0 (mem t1 0)) t 1 ((xu2 mem t 0 (mem t1 0)) t1 1)) (t + 1)) 0 0 4)) (t + 2)) 0 0 8)) (t1 + 3)) ((xuA (xuA (xu2 (xu2 mem t 0 (mem t1 0)) t 1 ((xu2 mem t 0 (mem t1 0)) t1 1)) (t + 1) (va_cpy ((xu2 (xu2 mem t 0 (mem t1 0)) t 1 ((xu2 mem t 0 (mem t1 0)) t1 1)) (t1 + 1)) ((xu2 (xu2 mem t 0 (mem t1 0)) t 1 ((xu2 mem t 0 (mem t1 0)) t1 1)) (t + 1)) 0 0 4)) (t + 2) (va_cpy ((xuA (xu2 (xu2 mem t 0 (mem t1 0)) t 1 ((xu2 mem t 0 (mem t1 0)) t1 1)) (t + 1) (va_cpy ((xu2 (xu2 mem t 0 (mem t1 0)) t 1 ((xu2 mem t 0 (mem t1 0)) t1 1)) (t1 + 1)) ((xu2 (xu2 mem t 0 (mem t1 0)) t 1 ((xu2 mem t 0 (mem t1 0)) t1 1)) (t + 1)) 0 0 4)) (t1 + 2)) ((xuA (xu2 (xu2 mem t 0 (mem t1 0)) t 1 ((xu2 mem t 0 (mem t1 0)) t1 1)) (t + 1) (va_cpy ((xu2 (xu2 mem t 0 (mem t1 0)) t 1 ((xu2 mem t 0 (mem t1 0)) t1 1)) (t1 + 1)) ((xu2 (xu2 mem t 0 (mem t1 0)) t 1 ((xu2 mem t 0 (mem t1 0)) t1 1)) (t + 1)) 0 0 4)) (t + 2)) 0 0 8)) (t + 3)) 0 0 8)) (t + 13)) 0 0 8)) (t + 14) (va_cpy ((xuA (xuA (xuA (xuA (xu2 (xu2 mem t 0 (mem t1 0)) t 1 ((xu2 mem t 0 (mem t1 0)) t1 1)) (t + 1) (va_cpy ((xu2 (xu2 mem t 0 (mem t1 0)) t 1 ((xu2 mem t 0 (mem t1 0)) t1 1)) (t1 + 1)) ((xu2 (xu2 mem t 0 (mem t1 0)) t 1 ((xu2 mem t 0 (mem t1 0)) t1 1)) (t + 1)) 0 0 4)) (t + 2) (va_cpy ((xuA (xu2 (xu2 mem t 0 (mem t1 0)) t 1 ((xu2 mem t 0 (mem t1 0)) t1 1)) (t + 1) (va_cpy ((xu2 (xu2 mem t 0 (mem t1 0)) t 1 ((xu2 mem t 0 (mem t1 0)) t1 1)) (t1 + 1)) ((xu2 (xu2 mem t 0 (mem t1 0)) t 1 ((xu2 mem t 0 (mem t1 0)) t1 1)) (t + 1)) 0 0 4)) (t1 + 2)) ((xuA (xu2 (xu2 mem t 0 (mem t1 0)) t 1 ((xu2 mem t 0 (mem t1 0)) t1 1)) (t + 1) (va_cpy ((xu2 (xu2 mem t 0 (mem t1 0)) t 1 ((xu2 mem t 0 (mem t1 0)) t1 1)) (t1 + 1)) ((xu2 (xu2 mem t 0 (mem t1 0)) t 1 ((xu2 mem t 0 (mem t1 0)) t1 1)) (t + 1)) 0 0 4)) (t + 2)) 0 0 8)) (t + 3) (va_cpy ((xuA (xuA (xu2 (xu2 mem t 0 (mem t1 0)) t 1 ((xu2 mem t 0 (mem t1 0)) t1 1)) (t + 1) (va_cpy ((xu2 (xu2 mem t 0 (mem t1 0)) t 1 ((xu2 mem t 0 (mem t1 0)) t1 1)) (t1 + 1)) ((xu2 (xu2 mem t 0 (mem t1 0)) t 1 ((xu2 mem t 0 (mem t1 0)) t1 1)) (t + 1)) 0 0 4)) (t + 2) (va_cpy ((xuA (xu2 (xu2 mem t 0 (mem t1 0)) t 1 ((xu2 mem t 0 (mem t1 0)) t1 1)) (t + 1) (va_cpy ((xu2 (xu2 mem t 0 (mem t1 0)) t 1 ((xu2 mem t 0 (mem t1 0)) t1 1)) (t1 + 1)) ((xu2 (xu2 mem t 0 (mem t1 0)) t 1 ((xu2 mem t 0 (mem t1 0)) t1 1)) (t + 1)) 0 0 4)) (t1 + 2)) ((xuA (xu2 (xu2 mem t 0 (mem t1 0)) t 1 ((xu2 mem t 0 (mem t1 0)) t1 1)) (t + 1) (va_cpy ((xu2 (xu2 mem t 0 (mem t1 0)) t 1 ((xu2 mem t 0 (mem t1 0)) t1 1)) (t1 + 1)) ((xu2 (xu2 mem t 0 (mem t1 0)) t 1 ((xu2 mem t 0 (mem t1 0)) t1 1)) (t + 1)) 0 0 4)) (t + 2)) 0 0 8)) (t1 + 3)) ((xuA (xuA (xu2 (xu2 mem t 0 (mem t1 0)) t 1 ((xu2 mem t 0 (mem t1 0)) t1 1)) (t + 1) (va_cpy ((xu2 (xu2 mem t 0 (mem t1 0)) t 1 ((xu2 mem t 0 (mem t1 0)) t1 1)) (t1 + 1)) ((xu2 (xu2 mem t 0 (mem t1 0)) t 1 ((xu2 mem t 0 (mem t1 0)) t1 1)) (t + 1)) 0 0 4)) (t + 2) (va_cpy ((xuA (xu2 (xu2 mem t 0 (mem t1 0)) t 1 ((xu2 mem t 0 (mem t1 0)) t1 1)) (t + 1) (va_cpy ((xu2 (xu2 mem t 0 (mem t1 0)) t 1 ((xu2 mem t 0 (mem t1 0)) t1 1)) (t1 + 1)) ((xu2 (xu2 mem t 0 (mem t1 0)) t 1 ((xu2 mem t 0 (mem t1 0)) t1 1)) (t + 1)) 0 0 4)) (t1 + 2)) ((xuA (xu2 (xu2 mem t 0 (mem t1 0)) t 1 ((xu2 mem t 0 (mem t1 0)) t1 1)) (t + 1) (va_cpy ((xu2 (xu2 mem t 0 (mem t1 0)) t 1 ((xu2 mem t 0 (mem t1 0)) t1 1)) (t1 + 1)) ((xu2 (xu2 mem t 0 (mem t1 0)) t 1 ((xu2 mem t 0 (mem t1 0)) t1 1)) (t + 1)) 0 0 4)) (t + 2)) 0 0 8)) (t + 3)) 0 0 8)) (t + 13) (va_cpy ((xuA (xuA (xuA (xu2 (xu2 mem t 0 (mem t1 0)) t 1 ((xu2 mem t 0 (mem t1 0)) t1 1)) (t + 1) (va_cpy ((xu2 (xu2 mem t 0 (mem t1 0)) t 1 ((xu2 mem t 0 (mem t1 0)) t1 1)) (t1 + 1)) ((xu2 (xu2 mem t 0 (mem t1 0)) t 1 ((xu2 mem t 0 (mem t1 0)) t1 1)) (t + 1)) 0 0 4)) (t + 2) (va_cpy ((xuA (xu2 (xu2 mem t 0 (mem t1 0)) t 1 ((xu2 mem t 0 (mem t1 0)) t1 1)) (t + 1) (va_cpy ((xu2 (xu2 mem t 0 (mem t1 0)) t 1 ((xu2 mem t 0 (mem t1 0)) t1 1)) (t1 + 1)) ((xu2 (xu2 mem t 0 (mem t1 0)) t 1 ((xu2 mem t 0 (mem t1 0)) t1 1)) (t + 1)) 0 0 4)) (t1 + 2)) ((xuA (xu2 (xu2 mem t 0 (mem t1 0)) t 1 ((xu2 mem t 0 (mem t1 0)) t1 1)) (t + 1) (va_cpy ((xu2 (xu2 mem t 0 (mem t1 0)) t 1 ((xu2 mem t 0 (mem t1 0)) t1 1)) (t1 + 1)) ((xu2 (xu2 mem t 0 (mem t1 0)) t 1 ((xu2 mem t 0 (mem t1 0)) t1 1)) (t + 1)) 0 0 4)) (t + 2)) 0 0 8)) (t + 3) (va_cpy ((xuA (xuA (xu2 (xu2 mem t 0 (mem t1 0)) t 1 ((xu2 mem t 0 (mem t1 0)) t1 1)) (t + 1) (va_cpy ((xu2 (xu2 mem t 0 (mem t1 0)) t 1 ((xu2 mem t 0 (mem t1 0)) t1 1)) (t1 + 1)) ((xu2 (xu2 mem t 0 (mem t1 0)) t 1 ((xu2 mem t 0 (mem t1 0)) t1 1)) (t + 1)) 0 0 4)) (t + 2) (va_cpy ((xuA (xu2 (xu2 mem t 0 (mem t1 0)) t 1 ((xu2 mem t 0 (mem t1 0)) t1 1)) (t + 1) (va_cpy ((xu2 (xu2 mem t 0 (mem t1 0)) t 1 ((xu2 mem t 0 (mem t1 0)) t1 1)) (t1 + 1)) ((xu2 (xu2 mem t 0 (mem t1 0)) t 1 ((xu2 mem t 0 (mem t1 0)) t1 1)) (t + 1)) 0 0 4)) (t1 + 2)) ((xuA (xu2 (xu2 mem t 0 (mem t1 0)) t 1 ((xu2 mem t 0 (mem t1 0)) t1 1)) (t + 1) (va_cpy ((xu2 (xu2 mem t 0 (mem t1 0)) t 1 ((xu2 mem t 0 (mem t1 0)) t1 1)) (t1 + 1)) ((xu2 (xu2 mem t 0 (mem t1 0)) t 1 ((xu2 mem t 0 (mem t1 0)) t1 1)) (t + 1)) 0 0 4)) (t + 2)) 0 0 8)) (t1 + 3)) ((xuA (xuA (xu2 (xu2 mem t 0 (mem t1 0)) t 1 ((xu2 mem t 0 (mem t1 0)) t1 1)) (t + 1) (va_cpy ((xu2 (xu2 mem t 0 (mem t1 0)) t 1 ((xu2 mem t 0 (mem t1 0)) t1 1)) (t1 + 1)) ((xu2 (xu2 mem t 0 (mem t1 0)) t 1 ((xu2 mem t 0 (mem t1 0)) t1 1)) (t + 1)) 0 0 4)) (t + 2) (va_cpy ((xuA (xu2 (xu2 mem t 0 (mem t1 0)) t 1 ((xu2 mem t 0 (mem t1 0)) t1 1)) (t + 1) (va_cpy ((xu2 (xu2 mem t 0 (mem t1 0)) t 1 ((xu2 mem t 0 (mem t1 0)) t1 1)) (t1 + 1)) ((xu2 (xu2 mem t 0 (mem t1 0)) t 1 ((xu2 mem t 0 (mem t1 0)) t1 1)) (t + 1)) 0 0 4)) (t1 + 2)) ((xuA (xu2 (xu2 mem t 0 (mem t1 0)) t 1 ((xu2 mem t 0 (mem t1 0)) t1 1)) (t + 1) (va_cpy ((xu2 (xu2 mem t 0 (mem t1 0)) t 1 ((xu2 mem t 0 (mem t1 0)) t1 1)) (t1 + 1)) ((xu2 (xu2 mem t 0 (mem t1 0)) t 1 ((xu2 mem t 0 (mem t1 0)) t1 1)) (t + 1)) 0 0 4)) (t + 2)) 0 0 8)) (t + 3)) 0 0 8)) (t1 + 13)) ((xuA (xuA (xuA (xu2 (xu2 mem t 0 (mem t1 0)) t 1 ((xu2 mem t 0 (mem t1 0)) t1 1)) (t + 1) (va_cpy ((xu2 (xu2 mem t 0 (mem t1 0)) t 1 ((xu2 mem t 0 (mem t1 0)) t1 1)) (t1 + 1)) ((xu2 (xu2 mem t 0 (mem t1 0)) t 1 ((xu2 mem t 0 (mem t1 0)) t1 1)) (t + 1)) 0 0 4)) (t + 2) (va_cpy ((xuA (xu2 (xu2 mem t 0 (mem t1 0)) t 1 ((xu2 mem t 0 (mem t1 0)) t1 1)) (t + 1) (va_cpy ((xu2 (xu2 mem t 0 (mem t1 0)) t 1 ((xu2 mem t 0 (mem t1 0)) t1 1)) (t1 + 1)) ((xu2 (xu2 mem t 0 (mem t1 0)) t 1 ((xu2 mem t 0 (mem t1 0)) t1 1)) (t + 1)) 0 0 4)) (t1 + 2)) ((xuA (xu2 (xu2 mem t 0 (mem t1 0)) t 1 ((xu2 mem t 0 (mem t1 0)) t1 1)) (t + 1) (va_cpy ((xu2 (xu2 mem t 0 (mem t1 0)) t 1 ((xu2 mem t 0 (mem t1 0)) t1 1)) (t1 + 1)) ((xu2 (xu2 mem t 0 (mem t1 0)) t 1 ((xu2 mem t 0 (mem t1 0)) t1 1)) (t + 1)) 0 0 4)) (t + 2)) 0 0 8)) (t + 3) (va_cpy ((xuA (xuA (xu2 (xu2 mem t 0 (mem t1 0)) t 1 ((xu2 mem t 0 (mem t1 0)) t1 1)) (t + 1) (va_cpy ((xu2 (xu2 mem t 0 (mem t1 0)) t 1 ((xu2 mem t 0 (mem t1 0)) t1 1)) (t1 + 1)) ((xu2 (xu2 mem t 0 (mem t1 0)) t 1 ((xu2 mem t 0 (mem t1 0)) t1 1)) (t + 1)) 0 0 4)) (t + 2) (va_cpy ((xuA (xu2 (xu2 mem t 0 (mem t1 0)) t 1 ((xu2 mem t 0 (mem t1 0)) t1 1)) (t + 1) (va_cpy ((xu2 (xu2 mem t 0 (mem t1 0)) t 1 ((xu2 mem t 0 (mem t1 0)) t1 1)) (t1 + 1)) ((xu2 (xu2 mem t 0 (mem t1 0)) t 1 ((xu2 mem t 0 (mem t1 0)) t1 1)) (t + 1)) 0 0 4)) (t1 + 2)) ((xuA (xu2 (xu2 mem t 0 (mem t1 0)) t 1 ((xu2 mem t 0 (mem t1 0)) t1 1)) (t + 1) (va_cpy ((xu2 (xu2 mem t 0 (mem t1 0)) t 1 ((xu2 mem t 0 (mem t1 0)) t1 1)) (t1 + 1)) ((xu2 (xu2 mem t 0 (mem t1 0)) t 1 ((xu2 mem t 0 (mem t1 0)) t1 1)) (t + 1)) 0 0 4)) (t + 2)) 0 0 8)) (t1 + 3)) ((xuA (xuA (xu2 (xu2 mem t 0 (mem t1 0)) t 1 ((xu2 mem t 0 (mem t1 0)) t1 1)) (t + 1) (va_cpy ((xu2 (xu2 mem t 0 (mem t1 0)) t 1 ((xu2 mem t 0 (mem t1 0)) t1 1)) (t1 + 1)) ((xu2 (xu2 mem t 0 (mem t1 0)) t 1 ((xu2 mem t 0 (mem t1 0)) t1 1)) (t + 1)) 0 0 4)) (t + 2) (va_cpy ((xuA (xu2 (xu2 mem t 0 (mem t1 0)) t 1 ((xu2 mem t 0 (mem t1 0)) t1 1)) (t + 1) (va_cpy ((xu2 (xu2 mem t 0 (mem t1 0)) t 1 ((xu2 mem t 0 (mem t1 0)) t1 1)) (t1 + 1)) ((xu2 (xu2 mem t 0 (mem t1 0)) t 1 ((xu2 mem t 0 (mem t1 0)) t1 1)) (t + 1)) 0 0 4)) (t1 + 2)) ((xuA (xu2 (xu2 mem t 0 (mem t1 0)) t 1 ((xu2 mem t 0 (mem t1 0)) t1 1)) (t + 1) (va_cpy ((xu2 (xu2 mem t 0 (mem t1 0)) t 1 ((xu2 mem t 0 (mem t1 0)) t1 1)) (t1 + 1)) ((xu2 (xu2 mem t 0 (mem t1 0)) t 1 ((xu2 mem t 0 (mem t1 0)) t1 1)) (t + 1)) 0 0 4)) (t + 2)) 0 0 8)) (t + 3)) 0 0 8)) (t + 13)) 0 0 8)) (t1 + 14)) ((xuA (xuA (xuA (xuA (xu2 (xu2 mem t 0 (mem t1 0)) t 1 ((xu2 mem t 0 (mem t1 0)) t1 1)) (t + 1) (va_cpy ((xu2 (xu2 mem t 0 (mem t1 0)) t 1 ((xu2 mem t 0 (mem t1 0)) t1 1)) (t1 + 1)) ((xu2 (xu2 mem t 0 (mem t1 0)) t 1 ((xu2 mem t 0 (mem t1 0)) t1 1)) (t + 1)) 0 0 4)) (t + 2) (va_cpy ((xuA (xu2 (xu2 mem t 0 (mem t1 0)) t 1 ((xu2 mem t 0 (mem t1 0)) t1 1)) (t + 1) (va_cpy ((xu2 (xu2 mem t 0 (mem t1 0)) t 1 ((xu2 mem t 0 (mem t1 0)) t1 1)) (t1 + 1)) ((xu2 (xu2 mem t 0 (mem t1 0)) t 1 ((xu2 mem t 0 (mem t1 0)) t1 1)) (t + 1)) 0 0 4)) (t1 + 2)) ((xuA (xu2 (xu2 mem t 0 (mem t1 0)) t 1 ((xu2 mem t 0 (mem t1 0)) t1 1)) (t + 1) (va_cpy ((xu2 (xu2 mem t 0 (mem t1 0)) t 1 ((xu2 mem t 0 (mem t1 0)) t1 1)) (t1 + 1)) ((xu2 (xu2 mem t 0 (mem t1 0)) t 1 ((xu2 mem t 0 (mem t1 0)) t1 1)) (t + 1)) 0 0 4)) (t + 2)) 0 0 8)) (t + 3) (va_cpy ((xuA (xuA (xu2 (xu2 mem t 0 (mem t1 0)) t 1 ((xu2 mem t 0 (mem t1 0)) t1 1)) (t + 1) (va_cpy ((xu2 (xu2 mem t 0 (mem t1 0)) t 1 ((xu2 mem t 0 (mem t1 0)) t1 1)) (t1 + 1)) ((xu2 (xu2 mem t 0 (mem t1 0)) t 1 ((xu2 mem t 0 (mem t1 0)) t1 1)) (t + 1)) 0 0 4)) (t + 2) (va_cpy ((xuA (xu2 (xu2 mem t 0 (mem t1 0)) t 1 ((xu2 mem t 0 (mem t1 0)) t1 1)) (t + 1) (va_cpy ((xu2 (xu2 mem t 0 (mem t1 0)) t 1 ((xu2 mem t 0 (mem t1 0)) t1 1)) (t1 + 1)) ((xu2 (xu2 mem t 0 (mem t1 0)) t 1 ((xu2 mem t 0 (mem t1 0)) t1 1)) (t + 1)) 0 0 4)) (t1 + 2)) ((xuA (xu2 (xu2 mem t 0 (mem t1 0)) t 1 ((xu2 mem t 0 (mem t1 0)) t1 1)) (t + 1) (va_cpy ((xu2 (xu2 mem t 0 (mem t1 0)) t 1 ((xu2 mem t 0 (mem t1 0)) t1 1)) (t1 + 1)) ((xu2 (xu2 mem t 0 (mem t1 0)) t 1 ((xu2 mem t 0 (mem t1 0)) t1 1)) (t + 1)) 0 0 4)) (t + 2)) 0 0 8)) (t1 + 3)) ((xuA (xuA (xu2 (xu2 mem t 0 (mem t1 0)) t 1 ((xu2 mem t 0 (mem t1 0)) t1 1)) (t + 1) (va_cpy ((xu2 (xu2 mem t 0 (mem t1 0)) t 1 ((xu2 mem t 0 (mem t1 0)) t1 1)) (t1 + 1)) ((xu2 (xu2 mem t 0 (mem t1 0)) t 1 ((xu2 mem t 0 (mem t1 0)) t1 1)) (t + 1)) 0 0 4)) (t + 2) (va_cpy ((xuA (xu2 (xu2 mem t 0 (mem t1 0)) t 1 ((xu2 mem t 0 (mem t1 0)) t1 1)) (t + 1) (va_cpy ((xu2 (xu2 mem t 0 (mem t1 0)) t 1 ((xu2 mem t 0 (mem t1 0)) t1 1)) (t1 + 1)) ((xu2 (xu2 mem t 0 (mem t1 0)) t 1 ((xu2 mem t 0 (mem t1 0)) t1 1)) (t + 1)) 0 0 4)) (t1 + 2)) ((xuA (xu2 (xu2 mem t 0 (mem t1 0)) t 1 ((xu2 mem t 0 (mem t1 0)) t1 1)) (t + 1) (va_cpy ((xu2 (xu2 mem t 0 (mem t1 0)) t 1 ((xu2 mem t 0 (mem t1 0)) t1 1)) (t1 + 1)) ((xu2 (xu2 mem t 0 (mem t1 0)) t 1 ((xu2 mem t 0 (mem t1 0)) t1 1)) (t + 1)) 0 0 4)) (t + 2)) 0 0 8)) (t + 3)) 0 0 8)) (t + 13) (va_cpy ((xuA (xuA (xuA (xu2 (xu2 mem t 0 (mem t1 0)) t 1 ((xu2 mem t 0 (mem t1 0)) t1 1)) (t + 1) (va_cpy ((xu2 (xu2 mem t 0 (mem t1 0)) t 1 ((xu2 mem t 0 (mem t1 0)) t1 1)) (t1 + 1)) ((xu2 (xu2 mem t 0 (mem t1 0)) t 1 ((xu2 mem t 0 (mem t1 0)) t1 1)) (t + 1)) 0 0 4)) (t + 2) (va_cpy ((xuA (xu2 (xu2 mem t 0 (mem t1 0)) t 1 ((xu2 mem t 0 (mem t1 0)) t1 1)) (t + 1) (va_cpy ((xu2 (xu2 mem t 0 (mem t1 0)) t 1 ((xu2 mem t 0 (mem t1 0)) t1 1)) (t1 + 1)) ((xu2 (xu2 mem t 0 (mem t1 0)) t 1 ((xu2 mem t 0 (mem t1 0)) t1 1)) (t + 1)) 0 0 4)) (t1 + 2)) ((xuA (xu2 (xu2 mem t 0 (mem t1 0)) t 1 ((xu2 mem t 0 (mem t1 0)) t1 1)) (t + 1) (va_cpy ((xu2 (xu2 mem t 0 (mem t1 0)) t 1 ((xu2 mem t 0 (mem t1 0)) t1 1)) (t1 + 1)) ((xu2 (xu2 mem t 0 (mem t1 0)) t 1 ((xu2 mem t 0 (mem t1 0)) t1 1)) (t + 1)) 0 0 4)) (t + 2)) 0 0 8)) (t + 3) (va_cpy ((xuA (xuA (xu2 (xu2 mem t 0 (mem t1 0)) t 1 ((xu2 mem t 0 (mem t1 0)) t1 1)) (t + 1) (va_cpy ((xu2 (xu2 mem t 0 (mem t1 0)) t 1 ((xu2 mem t 0 (mem t1 0)) t1 1)) (t1 + 1)) ((xu2 (xu2 mem t 0 (mem t1 0)) t 1 ((xu2 mem t 0 (mem t1 0)) t1 1)) (t + 1)) 0 0 4)) (t + 2) (va_cpy ((xuA (xu2 (xu2 mem t 0 (mem t1 0)) t 1 ((xu2 mem t 0 (mem t1 0)) t1 1)) (t + 1) (va_cpy ((xu2 (xu2 mem t 0 (mem t1 0)) t 1 ((xu2 mem t 0 (mem t1 0)) t1 1)) (t1 + 1)) ((xu2 (xu2 mem t 0 (mem t1 0)) t 1 ((xu2 mem t 0 (mem t1 0)) t1 1)) (t + 1)) 0 0 4)) (t1 + 2)) ((xuA (xu2 (xu2 mem t 0 (mem t1 0)) t 1 ((xu2 mem t 0 (mem t1 0)) t1 1)) (t + 1) (va_cpy ((xu2 (xu2 mem t 0 (mem t1 0)) t 1 ((xu2 mem t 0 (mem t1 0)) t1 1)) (t1 + 1)) ((xu2 (xu2 mem t 0 (mem t1 0)) t 1 ((xu2 mem t 0 (mem t1 0)) t1 1)) (t + 1)) 0 0 4)) (t + 2)) 0 0 8)) (t1 + 3)) ((xuA (xuA (xu2 (xu2 mem t 0 (mem t1 0)) t 1 ((xu2 mem t 0 (mem t1 0)) t1 1)) (t + 1) (va_cpy ((xu2 (xu2 mem t 0 (mem t1 0)) t 1 ((xu2 mem t 0 (mem t1 0)) t1 1)) (t1 + 1)) ((xu2 (xu2 mem t 0 (mem t1 0)) t 1 ((xu2 mem t 0 (mem t1 0)) t1 1)) (t + 1)) 0 0 4)) (t + 2) (va_cpy ((xuA (xu2 (xu2 mem t 0 (mem t1 0)) t 1 ((xu2 mem t 0 (mem t1 0)) t1 1)) (t + 1) (va_cpy ((xu2 (xu2 mem t 0 (mem t1 0)) t 1 ((xu2 mem t 0 (mem t1 0)) t1 1)) (t1 + 1)) ((xu2 (xu2 mem t 0 (mem t1 0)) t 1 ((xu2 mem t 0 (mem t1 0)) t1 1)) (t + 1)) 0 0 4)) (t1 + 2)) ((xuA (xu2 (xu2 mem t 0 (mem t1 0)) t 1 ((xu2 mem t 0 (mem t1 0)) t1 1)) (t + 1) (va_cpy ((xu2 (xu2 mem t 0 (mem t1 0)) t 1 ((xu2 mem t 0 (mem t1 0)) t1 1)) (t1 + 1)) ((xu2 (xu2 mem t 0 (mem t1 0)) t 1 ((xu2 mem t 0 (mem t1 0)) t1 1)) (t + 1)) 0 0 4)) (t + 2)) 0 0 8)) (t + 3)) 0 0 8)) (t1 + 13)) ((xuA (xuA (xuA (xu2 (xu2 mem t 0 (mem t1 0)) t 1 ((xu2 mem t 0 (mem t1 0)) t1 1)) (t + 1) (va_cpy ((xu2 (xu2 mem t 0 (mem t1 0)) t 1 ((xu2 mem t 0 (mem t1 0)) t1 1)) (t1 + 1)) ((xu2 (xu2 mem t 0 (mem t1 0)) t 1 ((xu2 mem t 0 (mem t1 0)) t1 1)) (t + 1)) 0 0 4)) (t + 2) (va_cpy ((xuA (xu2 (xu2 mem t 0 (mem t1 0)) t 1 ((xu2 mem t 0 (mem t1 0)) t1 1)) (t + 1) (va_cpy ((xu2 (xu2 mem t 0 (mem t1 0)) t 1 ((xu2 mem t 0 (mem t1 0)) t1 1)) (t1 + 1)) ((xu2 (xu2 mem t 0 (mem t1 0)) t 1 ((xu2 mem t 0 (mem t1 0)) t1 1)) (t + 1)) 0 0 4)) (t1 + 2)) ((xuA (xu2 (xu2 mem t 0 (mem t1 0)) t 1 ((xu2 mem t 0 (mem t1 0)) t1 1)) (t + 1) (va_cpy ((xu2 (xu2 mem t 0 (mem t1 0)) t 1 ((xu2 mem t 0 (mem t1 0)) t1 1)) (t1 + 1)) ((xu2 (xu2 mem t 0 (mem t1 0)) t 1 ((xu2 mem t 0 (mem t1 0)) t1 1)) (t + 1)) 0 0 4)) (t + 2)) 0 0 8)) (t + 3) (va_cpy ((xuA (xuA (xu2 (xu2 mem t 0 (mem t1 0)) t 1 ((xu2 mem t 0 (mem t1 0)) t1 1)) (t + 1) (va_cpy ((xu2 (xu2 mem t 0 (mem t1 0)) t 1 ((xu2 mem t 0 (mem t1 0)) t1 1)) (t1 + 1)) ((xu2 (xu2 mem t 0 (mem t1 0)) t 1 ((xu2 mem t 0 (mem t1 0)) t1 1)) (t + 1)) 0 0 4)) (t + 2) (va_cpy ((xuA (xu2 (xu2 mem t 0 (mem t1 0)) t 1 ((xu2 mem t 0 (mem t1 0)) t1 1)) (t + 1) (va_cpy ((xu2 (xu2 mem t 0 (mem t1 0)) t 1 ((xu2 mem t 0 (mem t1 0)) t1 1)) (t1 + 1)) ((xu2 (xu2 mem t 0 (mem t1 0)) t 1 ((xu2 mem t 0 (mem t1 0)) t1 1)) (t + 1)) 0 0 4)) (t1 + 2)) ((xuA (xu2 (xu2 mem t 0 (mem t1 0)) t 1 ((xu2 mem t 0 (mem t1 0)) t1 1)) (t + 1) (va_cpy ((xu2 (xu2 mem t 0 (mem t1 0)) t 1 ((xu2 mem t 0 (mem t1 0)) t1 1)) (t1 + 1)) ((xu2 (xu2 mem t 0 (mem t1 0)) t 1 ((xu2 mem t 0 (mem t1 0)) t1 1)) (t + 1)) 0 0 4)) (t + 2)) 0 0 8)) (t1 + 3)) ((xuA (xuA (xu2 (xu2 mem t 0 (mem t1 0)) t 1 ((xu2 mem t 0 (mem t1 0)) t1 1)) (t + 1) (va_cpy ((xu2 (xu2 mem t 0 (mem t1 0)) t 1 ((xu2 mem t 0 (mem t1 0)) t1 1)) (t1 + 1)) ((xu2 (xu2 mem t 0 (mem t1 0)) t 1 ((xu2 mem t 0 (mem t1 0)) t1 1)) (t + 1)) 0 0 4)) (t + 2) (va_cpy ((xuA (xu2 (xu2 mem t 0 (mem t1 0)) t 1 ((xu2 mem t 0 (mem t1 0)) t1 1)) (t + 1) (va_cpy ((xu2 (xu2 mem t 0 (mem t1 0)) t 1 ((xu2 mem t 0 (mem t1 0)) t1 1)) (t1 + 1)) ((xu2 (xu2 mem t 0 (mem t1 0)) t 1 ((xu2 mem t 0 (mem t1 0)) t1 1)) (t + 1)) 0 0 4)) (t1 + 2)) ((xuA (xu2 (xu2 mem t 0 (mem t1 0)) t 1 ((xu2 mem t 0 (mem t1 0)) t1 1)) (t + 1) (va_cpy ((xu2 (xu2 mem t 0 (mem t1 0)) t 1 ((xu2 mem t 0 (mem t1 0)) t1 1)) (t1 + 1)) ((xu2 (xu2 mem t 0 (mem t1 0)) t 1 ((xu2 mem t 0 (mem t1 0)) t1 1)) (t + 1)) 0 0 4)) (t + 2)) 0 0 8)) (t + 3)) 0 0 8)) (t + 13)) 0 0 8)) (t + 14)) 0 0 8))) : P 0 [.ref t, .ref t1, .null] [] (0, 0) (LAY, RFu r, mem) := by
  refine r_aload_n hP d88_0 rfl ?_
  refine r_aload_n hP d88_1 rfl ?_
  refine r_geti hP d88_2 fr_10_44 rfl (lt_10 ht1) ?_
  refine r_puti hP d88_5 fr_10_44 rfl (fun q => by cases q) (lt_10 ht) ?_
  refine r_aload_n hP d88_8 rfl ?_
  refine r_aload_n hP d88_9 rfl ?_
  refine r_geti hP d88_10 fr_10_48 rfl (lt_10 ht1) ?_
  refine r_puti hP d88_13 fr_10_48 rfl (fun q => by cases q) (lt_10 ht) ?_
  refine r_aload_n hP d88_16 rfl ?_
  refine r_getr (a := (t1 + 1)) hP d88_17 fr_10_9 rfl (lt_10 ht1) (rt_10_2 ht1) ?_
  refine r_iconst (v := nI 0) hP d88_20 rfl ?_
  refine r_aload_n hP d88_21 rfl ?_
  refine r_getr (a := (t + 1)) hP d88_22 fr_10_9 rfl (lt_10 ht) (rt_10_2 ht) ?_
  refine r_iconst (v := nI 0) hP d88_25 rfl ?_
  refine r_iconst (v := nI 4) hP d88_26 rfl ?_
  refine r_copy (sp' := 0) (dp' := 0) (m' := 4) hP d88_27 cr_10_100 (lt_10_2 ht1) (lt_10_2 ht) (by decide) (by decide) (by decide) rfl rfl rfl (by decide) (by decide) (by decide) ?_
  refine r_aload_n hP d88_30 rfl ?_
  refine r_getr (a := (t1 + 2)) hP d88_31 fr_10_15 rfl (lt_10 ht1) (rt_10_3 ht1) ?_
  refine r_iconst (v := nI 0) hP d88_34 rfl ?_
  refine r_aload_n hP d88_35 rfl ?_
  refine r_getr (a := (t + 2)) hP d88_36 fr_10_15 rfl (lt_10 ht) (rt_10_3 ht) ?_
  refine r_iconst (v := nI 0) hP d88_39 rfl ?_
  refine r_bipush (v := nI 8) hP d88_40 rfl ?_
  refine r_copy (sp' := 0) (dp' := 0) (m' := 8) hP d88_42 cr_10_100 (lt_10_3 ht1) (lt_10_3 ht) (by decide) (by decide) (by decide) rfl rfl rfl (by decide) (by decide) (by decide) ?_
  refine r_aload_n hP d88_45 rfl ?_
  refine r_getr (a := (t1 + 3)) hP d88_46 fr_10_18 rfl (lt_10 ht1) (rt_10_4 ht1) ?_
  refine r_iconst (v := nI 0) hP d88_49 rfl ?_
  refine r_aload_n hP d88_50 rfl ?_
  refine r_getr (a := (t + 3)) hP d88_51 fr_10_18 rfl (lt_10 ht) (rt_10_4 ht) ?_
  refine r_iconst (v := nI 0) hP d88_54 rfl ?_
  refine r_bipush (v := nI 8) hP d88_55 rfl ?_
  refine r_copy (sp' := 0) (dp' := 0) (m' := 8) hP d88_57 cr_10_100 (lt_10_4 ht1) (lt_10_4 ht) (by decide) (by decide) (by decide) rfl rfl rfl (by decide) (by decide) (by decide) ?_
  refine r_aload_n hP d88_60 rfl ?_
  refine r_getr (a := (t1 + 13)) hP d88_61 fr_10_26 rfl (lt_10 ht1) (rt_10_6 ht1) ?_
  refine r_iconst (v := nI 0) hP d88_64 rfl ?_
  refine r_aload_n hP d88_65 rfl ?_
  refine r_getr (a := (t + 13)) hP d88_66 fr_10_26 rfl (lt_10 ht) (rt_10_6 ht) ?_
  refine r_iconst (v := nI 0) hP d88_69 rfl ?_
  refine r_bipush (v := nI 8) hP d88_70 rfl ?_
  refine r_copy (sp' := 0) (dp' := 0) (m' := 8) hP d88_72 cr_10_100 (lt_10_6 ht1) (lt_10_6 ht) (by decide) (by decide) (by decide) rfl rfl rfl (by decide) (by decide) (by decide) ?_
  refine r_aload_n hP d88_75 rfl ?_
  refine r_getr (a := (t1 + 14)) hP d88_76 fr_10_29 rfl (lt_10 ht1) (rt_10_7 ht1) ?_
  refine r_iconst (v := nI 0) hP d88_79 rfl ?_
  refine r_aload_n hP d88_80 rfl ?_
  refine r_getr (a := (t + 14)) hP d88_81 fr_10_29 rfl (lt_10 ht) (rt_10_7 ht) ?_
  refine r_iconst (v := nI 0) hP d88_84 rfl ?_
  refine r_bipush (v := nI 8) hP d88_85 rfl ?_
  refine r_copy (sp' := 0) (dp' := 0) (m' := 8) hP d88_87 cr_10_100 (lt_10_7 ht1) (lt_10_7 ht) (by decide) (by decide) (by decide) rfl rfl rfl (by decide) (by decide) (by decide) ?_
  refine r_iconst (v := nI 0) hP d88_90 rfl ?_
  refine r_istore_n (L' := [.ref t, .ref t1, .int (nI 0)]) hP d88_91 (Nat.le_of_ble_eq_true rfl) rfl ?_
  exact k
theorem b88_92 {d : Nat} {P : xPr} {Q : xQr} {r : Nat} {mem : Nat → Nat → Int32} (hP : Cl d none 88 P Q) {t : Nat} {t1 : Nat} {x2 : Int32} (ht : isTown t) (ht1 : isTown t1)
    (kt : (mem t 1) ≤ x2 → P 125 [.ref t, .ref t1, .int x2] [] (0, 0) (LAY, RFu r, mem)) (kf : ¬ (mem t 1) ≤ x2 → P 100 [.ref t, .ref t1, .int x2] [] (0, 0) (LAY, RFu r, mem)) : P 92 [.ref t, .ref t1, .int x2] [] (0, 0) (LAY, RFu r, mem) := by
  refine r_iload_n hP d88_92 rfl ?_
  refine r_aload_n hP d88_93 rfl ?_
  refine r_geti hP d88_94 fr_10_48 rfl (lt_10 ht) ?_
  exact r_icmp (t := 125) hP d88_97 (by decide) kt kf
theorem b88_100 {d : Nat} {P : xPr} {Q : xQr} {r : Nat} {mem : Nat → Nat → Int32} (hP : Cl d none 88 P Q) {t : Nat} {t1 : Nat} {x2 : Int32} (ht : isTown t) (ht1 : isTown t1) (hi105 : vp_in x2 8) (hi112 : vp_in x2 8)
    (k : P 92 [.ref t, .ref t1, .int (x2 + nI 1)] [] (0, 0) (LAY, RFu r, xuA mem (t + 5 + x2.toNatClampNeg) (va_cpy (mem (t1 + 5 + x2.toNatClampNeg)) (mem (t + 5 + x2.toNatClampNeg)) 0 0 24))) : P 100 [.ref t, .ref t1, .int x2] [] (0, 0) (LAY, RFu r, mem) := by
  refine r_aload_n hP d88_100 rfl ?_
  refine r_getr (a := (t1 + 4)) hP d88_101 fr_10_23 rfl (lt_10 ht1) (rt_10_5 ht1) ?_
  refine r_iload_n hP d88_104 rfl ?_
  refine r_aaload (b := (t1 + 5 + x2.toNatClampNeg)) hP d88_105 (by decide) (lt_10_5 ht1) hi105 (rt2_10_5 ht1 (vp_lt hi105)) ?_
  refine r_iconst (v := nI 0) hP d88_106 rfl ?_
  refine r_aload_n hP d88_107 rfl ?_
  refine r_getr (a := (t + 4)) hP d88_108 fr_10_23 rfl (lt_10 ht) (rt_10_5 ht) ?_
  refine r_iload_n hP d88_111 rfl ?_
  refine r_aaload (b := (t + 5 + x2.toNatClampNeg)) hP d88_112 (by decide) (lt_10_5 ht) hi112 (rt2_10_5 ht (vp_lt hi112)) ?_
  refine r_iconst (v := nI 0) hP d88_113 rfl ?_
  refine r_bipush (v := nI 24) hP d88_114 rfl ?_
  refine r_copy (sp' := 0) (dp' := 0) (m' := 24) hP d88_116 cr_10_100 (lt2_10_5 ht1 (vp_lt hi105)) (lt2_10_5 ht (vp_lt hi112)) (by decide) (by decide) (by decide) rfl rfl rfl (by decide) (by decide) (by decide) ?_
  refine r_iinc (v := nI 1) (L' := [.ref t, .ref t1, .int (x2 + nI 1)]) hP d88_119 rfl rfl rfl ?_
  refine r_goto (t := 92) hP d88_122 (by decide) ?_
  exact k
theorem b88_125 {d : Nat} {P : xPr} {Q : xQr} {r : Nat} {mem : Nat → Nat → Int32} (hP : Cl d none 88 P Q) {t : Nat} {t1 : Nat} {v2 : Value} (ht : isTown t) (ht1 : isTown t1)
    (k : xCall d 39 [.ref (t + 15), .ref (t1 + 15)] (LAY, RFu r, mem) (Bk P 133 [.ref t, .ref t1, v2] [] (0, 0))) : P 125 [.ref t, .ref t1, v2] [] (0, 0) (LAY, RFu r, mem) := by
  refine r_aload_n hP d88_125 rfl ?_
  refine r_getr (a := (t + 15)) hP d88_126 fr_10_37 rfl (lt_10 ht) (rt_10_8 ht) ?_
  refine r_aload_n hP d88_129 rfl ?_
  refine r_getr (a := (t1 + 15)) hP d88_130 fr_10_37 rfl (lt_10 ht1) (rt_10_8 ht1) ?_
  exact r_callv (As := [.ref (t1 + 15)]) (S := []) hP d88_133 cr_10_106 (by decide +kernel) rfl (by simp [Value.category]) rfl (lt_10_8 ht) (by simp [Value.category]) ⟨Nat.zero_le _, Nat.zero_le _⟩ k
theorem b88_136 {d : Nat} {P : xPr} {Q : xQr} {r : Nat} {mem : Nat → Nat → Int32} (hP : Cl d none 88 P Q) {t : Nat} {t1 : Nat} {v2 : Value} (ht : isTown t) (ht1 : isTown t1)
    (k : xCall d 39 [.ref (t + 18), .ref (t1 + 18)] (LAY, RFu r, mem) (Bk P 144 [.ref t, .ref t1, v2] [] (0, 0))) : P 136 [.ref t, .ref t1, v2] [] (0, 0) (LAY, RFu r, mem) := by
  refine r_aload_n hP d88_136 rfl ?_
  refine r_getr (a := (t + 18)) hP d88_137 fr_10_41 rfl (lt_10 ht) (rt_10_9 ht) ?_
  refine r_aload_n hP d88_140 rfl ?_
  refine r_getr (a := (t1 + 18)) hP d88_141 fr_10_41 rfl (lt_10 ht1) (rt_10_9 ht1) ?_
  exact r_callv (As := [.ref (t1 + 18)]) (S := []) hP d88_144 cr_10_106 (by decide +kernel) rfl (by simp [Value.category]) rfl (lt_10_9 ht) (by simp [Value.category]) ⟨Nat.zero_le _, Nat.zero_le _⟩ k
theorem b88_147 {d : Nat} {P : xPr} {Q : xQr} {r : Nat} {mem : Nat → Nat → Int32} (hP : Cl d none 88 P Q) {t : Nat} {t1 : Nat} {v0 : Value} {v1 : Value} {v2 : Value} (ht : isTown t) (ht1 : isTown t1)
    (k : Q none (LAY, RFu r, mem)) : P 147 [v0, v1, v2] [] (0, 0) (LAY, RFu r, mem) := by
  exact r_vret hP d88_147 rfl k
theorem d89_0 : decode (xB 89) 0 = .ok (.aload_n 0, 1) := by decide +kernel
theorem d89_1 : decode (xB 89) 1 = .ok (.getfield 26, 3) := by decide +kernel
theorem d89_4 : decode (xB 89) 4 = .ok (.iload_n 1, 1) := by decide +kernel
theorem d89_5 : decode (xB 89) 5 = .ok (.iaload, 1) := by decide +kernel
theorem d89_6 : decode (xB 89) 6 = .ok (.istore_n 3, 1) := by decide +kernel
theorem d89_7 : decode (xB 89) 7 = .ok (.iload_n 3, 1) := by decide +kernel
theorem d89_8 : decode (xB 89) 8 = .ok (.ifCond .le 9, 3) := by decide +kernel
theorem d89_11 : decode (xB 89) 11 = .ok (.iload_n 3, 1) := by decide +kernel
theorem d89_12 : decode (xB 89) 12 = .ok (.bipush 24, 2) := by decide +kernel
theorem d89_14 : decode (xB 89) 14 = .ok (.if_icmp .le 5, 3) := by decide +kernel
theorem d89_17 : decode (xB 89) 17 = .ok (.iconst (-1), 1) := by decide +kernel
theorem d89_18 : decode (xB 89) 18 = .ok (.ireturn, 1) := by decide +kernel
theorem d89_19 : decode (xB 89) 19 = .ok (.aload_n 0, 1) := by decide +kernel
theorem d89_20 : decode (xB 89) 20 = .ok (.getfield 23, 3) := by decide +kernel
theorem d89_23 : decode (xB 89) 23 = .ok (.iload_n 1, 1) := by decide +kernel
theorem d89_24 : decode (xB 89) 24 = .ok (.aaload, 1) := by decide +kernel
theorem d89_25 : decode (xB 89) 25 = .ok (.iload_n 2, 1) := by decide +kernel
theorem d89_26 : decode (xB 89) 26 = .ok (.aload_n 0, 1) := by decide +kernel
theorem d89_27 : decode (xB 89) 27 = .ok (.getfield 29, 3) := by decide +kernel
theorem d89_30 : decode (xB 89) 30 = .ok (.iload_n 1, 1) := by decide +kernel
theorem d89_31 : decode (xB 89) 31 = .ok (.iaload, 1) := by decide +kernel
theorem d89_32 : decode (xB 89) 32 = .ok (.iadd, 1) := by decide +kernel
theorem d89_33 : decode (xB 89) 33 = .ok (.iload_n 3, 1) := by decide +kernel
theorem d89_34 : decode (xB 89) 34 = .ok (.invokestatic 110, 3) := by decide +kernel
theorem d89_37 : decode (xB 89) 37 = .ok (.iaload, 1) := by decide +kernel
theorem d89_38 : decode (xB 89) 38 = .ok (.ireturn, 1) := by decide +kernel
theorem b89_0 {d : Nat} {P : xPr} {Q : xQr} {r : Nat} {mem : Nat → Nat → Int32} (hP : Cl d none 89 P Q) {t : Nat} {p0 : Int32} {p1 : Int32} (ht : isTown t) (hi5 : vp_in p0 8)
    (kt : (mem (t + 13) p0.toNatClampNeg) ≤ 0 → P 17 [.ref t, .int p0, .int p1, .int (mem (t + 13) p0.toNatClampNeg)] [] (0, 0) (LAY, RFu r, mem)) (kf : ¬ (mem (t + 13) p0.toNatClampNeg) ≤ 0 → P 11 [.ref t, .int p0, .int p1, .int (mem (t + 13) p0.toNatClampNeg)] [] (0, 0) (LAY, RFu r, mem)) : P 0 [.ref t, .int p0, .int p1, .null] [] (0, 0) (LAY, RFu r, mem) := by
  refine r_aload_n hP d89_0 rfl ?_
  refine r_getr (a := (t + 13)) hP d89_1 fr_10_26 rfl (lt_10 ht) (rt_10_6 ht) ?_
  refine r_iload_n hP d89_4 rfl ?_
  refine r_iaload hP d89_5 (lt_10_6 ht) hi5 ?_
  refine r_istore_n (L' := [.ref t, .int p0, .int p1, .int (mem (t + 13) p0.toNatClampNeg)]) hP d89_6 (Nat.le_of_ble_eq_true rfl) rfl ?_
  refine r_iload_n hP d89_7 rfl ?_
  exact r_if (t := 17) hP d89_8 (by decide) kt kf
theorem b89_11 {d : Nat} {P : xPr} {Q : xQr} {r : Nat} {mem : Nat → Nat → Int32} (hP : Cl d none 89 P Q) {t : Nat} {x1 : Int32} {x2 : Int32} {x3 : Int32} (ht : isTown t)
    (kt : x3 ≤ (nI 24) → P 19 [.ref t, .int x1, .int x2, .int x3] [] (0, 0) (LAY, RFu r, mem)) (kf : ¬ x3 ≤ (nI 24) → P 17 [.ref t, .int x1, .int x2, .int x3] [] (0, 0) (LAY, RFu r, mem)) : P 11 [.ref t, .int x1, .int x2, .int x3] [] (0, 0) (LAY, RFu r, mem) := by
  refine r_iload_n hP d89_11 rfl ?_
  refine r_bipush (v := nI 24) hP d89_12 rfl ?_
  exact r_icmp (t := 19) hP d89_14 (by decide) kt kf
theorem b89_17 {d : Nat} {P : xPr} {Q : xQr} {r : Nat} {mem : Nat → Nat → Int32} (hP : Cl d none 89 P Q) {t : Nat} {v0 : Value} {v1 : Value} {v2 : Value} {v3 : Value} (ht : isTown t)
    (k : Q (some (.int (-1))) (LAY, RFu r, mem)) : P 17 [v0, v1, v2, v3] [] (0, 0) (LAY, RFu r, mem) := by
  refine r_iconst (v := (-1)) hP d89_17 rfl ?_
  exact r_iret hP d89_18 rfl k
theorem b89_19 {d : Nat} {P : xPr} {Q : xQr} {r : Nat} {mem : Nat → Nat → Int32} (hP : Cl d none 89 P Q) {t : Nat} {x1 : Int32} {x2 : Int32} {x3 : Int32} (ht : isTown t) (hi24 : vp_in x1 8) (hi31 : vp_in x1 8) (hz34 : ¬ x3 = 0) (hi37 : vp_in (Jvm.Free.MCB.fmod (x2 + (mem (t + 14) x1.toNatClampNeg)) x3) 24)
    (k : Q (some (.int (mem (t + 5 + x1.toNatClampNeg) (Jvm.Free.MCB.fmod (x2 + (mem (t + 14) x1.toNatClampNeg)) x3).toNatClampNeg))) (LAY, RFu r, mem)) : P 19 [.ref t, .int x1, .int x2, .int x3] [] (0, 0) (LAY, RFu r, mem) := by
  refine r_aload_n hP d89_19 rfl ?_
  refine r_getr (a := (t + 4)) hP d89_20 fr_10_23 rfl (lt_10 ht) (rt_10_5 ht) ?_
  refine r_iload_n hP d89_23 rfl ?_
  refine r_aaload (b := (t + 5 + x1.toNatClampNeg)) hP d89_24 (by decide) (lt_10_5 ht) hi24 (rt2_10_5 ht (vp_lt hi24)) ?_
  refine r_iload_n hP d89_25 rfl ?_
  refine r_aload_n hP d89_26 rfl ?_
  refine r_getr (a := (t + 14)) hP d89_27 fr_10_29 rfl (lt_10 ht) (rt_10_7 ht) ?_
  refine r_iload_n hP d89_30 rfl ?_
  refine r_iaload hP d89_31 (lt_10_7 ht) hi31 ?_
  refine r_iadd hP d89_32 ?_
  refine r_iload_n hP d89_33 rfl ?_
  refine r_fmod hP d89_34 cr_10_110 hz34 (by simp [Value.category]) ?_
  refine r_iaload hP d89_37 (lt2_10_5 ht (vp_lt hi24)) hi37 ?_
  exact r_iret hP d89_38 rfl k
theorem d90_0 : decode (xB 90) 0 = .ok (.iconst 0, 1) := by decide +kernel
theorem d90_1 : decode (xB 90) 1 = .ok (.istore_n 3, 1) := by decide +kernel
theorem d90_2 : decode (xB 90) 2 = .ok (.iconst 0, 1) := by decide +kernel
theorem d90_3 : decode (xB 90) 3 = .ok (.istore 4, 2) := by decide +kernel
theorem d90_5 : decode (xB 90) 5 = .ok (.iload 4, 2) := by decide +kernel
theorem d90_7 : decode (xB 90) 7 = .ok (.aload_n 0, 1) := by decide +kernel
theorem d90_8 : decode (xB 90) 8 = .ok (.getfield 48, 3) := by decide +kernel
theorem d90_11 : decode (xB 90) 11 = .ok (.if_icmp .ge 23, 3) := by decide +kernel
theorem d90_14 : decode (xB 90) 14 = .ok (.aload_n 0, 1) := by decide +kernel
theorem d90_15 : decode (xB 90) 15 = .ok (.iload 4, 2) := by decide +kernel
theorem d90_17 : decode (xB 90) 17 = .ok (.iload_n 2, 1) := by decide +kernel
theorem d90_18 : decode (xB 90) 18 = .ok (.invokevirtual 113, 3) := by decide +kernel
theorem d90_21 : decode (xB 90) 21 = .ok (.iload_n 1, 1) := by decide +kernel
theorem d90_22 : decode (xB 90) 22 = .ok (.if_icmp .ne 6, 3) := by decide +kernel
theorem d90_25 : decode (xB 90) 25 = .ok (.iinc 3 1, 3) := by decide +kernel
theorem d90_28 : decode (xB 90) 28 = .ok (.iinc 4 1, 3) := by decide +kernel
theorem d90_31 : decode (xB 90) 31 = .ok (.goto (-26), 3) := by decide +kernel
theorem d90_34 : decode (xB 90) 34 = .ok (.iload_n 3, 1) := by decide +kernel
theorem d90_35 : decode (xB 90) 35 = .ok (.ireturn, 1) := by decide +kernel
theorem b90_0 {d : Nat} {P : xPr} {Q : xQr} {r : Nat} {mem : Nat → Nat → Int32} (hP : Cl d none 90 P Q) {t : Nat} {p0 : Int32} {p1 : Int32} (ht : isTown t)
    (k : P 5 [.ref t, .int p0, .int p1, .int (nI 0), .int (nI 0)] [] (0, 0) (LAY, RFu r, mem)) : P 0 [.ref t, .int p0, .int p1, .null, .null] [] (0, 0) (LAY, RFu r, mem) := by
  refine r_iconst (v := nI 0) hP d90_0 rfl ?_
  refine r_istore_n (L' := [.ref t, .int p0, .int p1, .int (nI 0), .null]) hP d90_1 (Nat.le_of_ble_eq_true rfl) rfl ?_
  refine r_iconst (v := nI 0) hP d90_2 rfl ?_
  refine r_istore (L' := [.ref t, .int p0, .int p1, .int (nI 0), .int (nI 0)]) hP d90_3 (Nat.le_of_ble_eq_true rfl) rfl ?_
  exact k
theorem b90_5 {d : Nat} {P : xPr} {Q : xQr} {r : Nat} {mem : Nat → Nat → Int32} (hP : Cl d none 90 P Q) {t : Nat} {x1 : Int32} {x2 : Int32} {x3 : Int32} {x4 : Int32} (ht : isTown t)
    (kt : (mem t 1) ≤ x4 → P 34 [.ref t, .int x1, .int x2, .int x3, .int x4] [] (0, 0) (LAY, RFu r, mem)) (kf : ¬ (mem t 1) ≤ x4 → P 14 [.ref t, .int x1, .int x2, .int x3, .int x4] [] (0, 0) (LAY, RFu r, mem)) : P 5 [.ref t, .int x1, .int x2, .int x3, .int x4] [] (0, 0) (LAY, RFu r, mem) := by
  refine r_iload hP d90_5 rfl ?_
  refine r_aload_n hP d90_7 rfl ?_
  refine r_geti hP d90_8 fr_10_48 rfl (lt_10 ht) ?_
  exact r_icmp (t := 34) hP d90_11 (by decide) kt kf
theorem b90_14 {d : Nat} {P : xPr} {Q : xQr} {r : Nat} {mem : Nat → Nat → Int32} (hP : Cl d none 90 P Q) {t : Nat} {x1 : Int32} {x2 : Int32} {x3 : Int32} {x4 : Int32} (ht : isTown t)
    (k : xCall d 89 [.ref t, .int x4, .int x2] (LAY, RFu r, mem) (Bk P 18 [.ref t, .int x1, .int x2, .int x3, .int x4] [] (0, 0))) : P 14 [.ref t, .int x1, .int x2, .int x3, .int x4] [] (0, 0) (LAY, RFu r, mem) := by
  refine r_aload_n hP d90_14 rfl ?_
  refine r_iload hP d90_15 rfl ?_
  refine r_iload_n hP d90_17 rfl ?_
  exact r_callv (As := [.int x4, .int x2]) (S := []) hP d90_18 cr_10_113 (by decide +kernel) rfl (by simp [Value.category]) rfl (lt_10 ht) (by simp [Value.category]) ⟨Nat.zero_le _, Nat.zero_le _⟩ k
theorem b90_21 {d : Nat} {P : xPr} {Q : xQr} {r : Nat} {mem : Nat → Nat → Int32} (hP : Cl d none 90 P Q) {t : Nat} {x1 : Int32} {x2 : Int32} {x3 : Int32} {x4 : Int32} {y0 : Int32} (ht : isTown t)
    (kt : ¬ y0 = x1 → P 28 [.ref t, .int x1, .int x2, .int x3, .int x4] [] (0, 0) (LAY, RFu r, mem)) (kf : y0 = x1 → P 25 [.ref t, .int x1, .int x2, .int x3, .int x4] [] (0, 0) (LAY, RFu r, mem)) : P 21 [.ref t, .int x1, .int x2, .int x3, .int x4] [.int y0] (0, 0) (LAY, RFu r, mem) := by
  refine r_iload_n hP d90_21 rfl ?_
  exact r_icmp (t := 28) hP d90_22 (by decide) kt (fun q => kf (Decidable.of_not_not q))
theorem b90_25 {d : Nat} {P : xPr} {Q : xQr} {r : Nat} {mem : Nat → Nat → Int32} (hP : Cl d none 90 P Q) {t : Nat} {x1 : Int32} {x2 : Int32} {x3 : Int32} {x4 : Int32} (ht : isTown t)
    (k : P 28 [.ref t, .int x1, .int x2, .int (x3 + nI 1), .int x4] [] (0, 0) (LAY, RFu r, mem)) : P 25 [.ref t, .int x1, .int x2, .int x3, .int x4] [] (0, 0) (LAY, RFu r, mem) := by
  refine r_iinc (v := nI 1) (L' := [.ref t, .int x1, .int x2, .int (x3 + nI 1), .int x4]) hP d90_25 rfl rfl rfl ?_
  exact k
theorem b90_28 {d : Nat} {P : xPr} {Q : xQr} {r : Nat} {mem : Nat → Nat → Int32} (hP : Cl d none 90 P Q) {t : Nat} {x1 : Int32} {x2 : Int32} {x3 : Int32} {x4 : Int32} (ht : isTown t)
    (k : P 5 [.ref t, .int x1, .int x2, .int x3, .int (x4 + nI 1)] [] (0, 0) (LAY, RFu r, mem)) : P 28 [.ref t, .int x1, .int x2, .int x3, .int x4] [] (0, 0) (LAY, RFu r, mem) := by
  refine r_iinc (v := nI 1) (L' := [.ref t, .int x1, .int x2, .int x3, .int (x4 + nI 1)]) hP d90_28 rfl rfl rfl ?_
  refine r_goto (t := 5) hP d90_31 (by decide) ?_
  exact k
theorem b90_34 {d : Nat} {P : xPr} {Q : xQr} {r : Nat} {mem : Nat → Nat → Int32} (hP : Cl d none 90 P Q) {t : Nat} {v0 : Value} {v1 : Value} {v2 : Value} {x3 : Int32} {v4 : Value} (ht : isTown t)
    (k : Q (some (.int x3)) (LAY, RFu r, mem)) : P 34 [v0, v1, v2, .int x3, v4] [] (0, 0) (LAY, RFu r, mem) := by
  refine r_iload_n hP d90_34 rfl ?_
  exact r_iret hP d90_35 rfl k
theorem d91_0 : decode (xB 91) 0 = .ok (.aload_n 0, 1) := by decide +kernel
theorem d91_1 : decode (xB 91) 1 = .ok (.getfield 23, 3) := by decide +kernel
theorem d91_4 : decode (xB 91) 4 = .ok (.iload_n 1, 1) := by decide +kernel
theorem d91_5 : decode (xB 91) 5 = .ok (.aaload, 1) := by decide +kernel
theorem d91_6 : decode (xB 91) 6 = .ok (.iconst 0, 1) := by decide +kernel
theorem d91_7 : decode (xB 91) 7 = .ok (.iload_n 2, 1) := by decide +kernel
theorem d91_8 : decode (xB 91) 8 = .ok (.iastore, 1) := by decide +kernel
theorem d91_9 : decode (xB 91) 9 = .ok (.aload_n 0, 1) := by decide +kernel
theorem d91_10 : decode (xB 91) 10 = .ok (.getfield 26, 3) := by decide +kernel
theorem d91_13 : decode (xB 91) 13 = .ok (.iload_n 1, 1) := by decide +kernel
theorem d91_14 : decode (xB 91) 14 = .ok (.iconst 1, 1) := by decide +kernel
theorem d91_15 : decode (xB 91) 15 = .ok (.iastore, 1) := by decide +kernel
theorem d91_16 : decode (xB 91) 16 = .ok (.return_, 1) := by decide +kernel
theorem b91_0 {d : Nat} {P : xPr} {Q : xQr} {r : Nat} {mem : Nat → Nat → Int32} (hP : Cl d none 91 P Q) {t : Nat} {p0 : Int32} {p1 : Int32} (ht : isTown t) (hi5 : vp_in p0 8) (hi8 : vp_in (nI 0) 24) (hi15 : vp_in p0 8)
    (k : Q none (LAY, RFu r, xu2 (xu2 mem (t + 5 + p0.toNatClampNeg) (nI 0).toNatClampNeg p1) (t + 13) p0.toNatClampNeg (nI 1))) : P 0 [.ref t, .int p0, .int p1] [] (0, 0) (LAY, RFu r, mem) := by
  refine r_aload_n hP d91_0 rfl ?_
  refine r_getr (a := (t + 4)) hP d91_1 fr_10_23 rfl (lt_10 ht) (rt_10_5 ht) ?_
  refine r_iload_n hP d91_4 rfl ?_
  refine r_aaload (b := (t + 5 + p0.toNatClampNeg)) hP d91_5 (by decide) (lt_10_5 ht) hi5 (rt2_10_5 ht (vp_lt hi5)) ?_
  refine r_iconst (v := nI 0) hP d91_6 rfl ?_
  refine r_iload_n hP d91_7 rfl ?_
  refine r_iastore hP d91_8 (lt2_10_5 ht (vp_lt hi5)) hi8 ?_
  refine r_aload_n hP d91_9 rfl ?_
  refine r_getr (a := (t + 13)) hP d91_10 fr_10_26 rfl (lt_10 ht) (rt_10_6 ht) ?_
  refine r_iload_n hP d91_13 rfl ?_
  refine r_iconst (v := nI 1) hP d91_14 rfl ?_
  refine r_iastore hP d91_15 (lt_10_6 ht) hi15 ?_
  exact r_vret hP d91_16 rfl k
theorem d92_0 : decode (xB 92) 0 = .ok (.aload_n 0, 1) := by decide +kernel
theorem d92_1 : decode (xB 92) 1 = .ok (.getfield 26, 3) := by decide +kernel
theorem d92_4 : decode (xB 92) 4 = .ok (.iload_n 1, 1) := by decide +kernel
theorem d92_5 : decode (xB 92) 5 = .ok (.iaload, 1) := by decide +kernel
theorem d92_6 : decode (xB 92) 6 = .ok (.istore_n 3, 1) := by decide +kernel
theorem d92_7 : decode (xB 92) 7 = .ok (.aload_n 0, 1) := by decide +kernel
theorem d92_8 : decode (xB 92) 8 = .ok (.getfield 26, 3) := by decide +kernel
theorem d92_11 : decode (xB 92) 11 = .ok (.iload_n 1, 1) := by decide +kernel
theorem d92_12 : decode (xB 92) 12 = .ok (.aload_n 0, 1) := by decide +kernel
theorem d92_13 : decode (xB 92) 13 = .ok (.getfield 26, 3) := by decide +kernel
theorem d92_16 : decode (xB 92) 16 = .ok (.iload_n 2, 1) := by decide +kernel
theorem d92_17 : decode (xB 92) 17 = .ok (.iaload, 1) := by decide +kernel
theorem d92_18 : decode (xB 92) 18 = .ok (.iastore, 1) := by decide +kernel
theorem d92_19 : decode (xB 92) 19 = .ok (.aload_n 0, 1) := by decide +kernel
theorem d92_20 : decode (xB 92) 20 = .ok (.getfield 26, 3) := by decide +kernel
theorem d92_23 : decode (xB 92) 23 = .ok (.iload_n 2, 1) := by decide +kernel
theorem d92_24 : decode (xB 92) 24 = .ok (.iload_n 3, 1) := by decide +kernel
theorem d92_25 : decode (xB 92) 25 = .ok (.iastore, 1) := by decide +kernel
theorem d92_26 : decode (xB 92) 26 = .ok (.iconst 0, 1) := by decide +kernel
theorem d92_27 : decode (xB 92) 27 = .ok (.istore 4, 2) := by decide +kernel
theorem d92_29 : decode (xB 92) 29 = .ok (.iload 4, 2) := by decide +kernel
theorem d92_31 : decode (xB 92) 31 = .ok (.bipush 24, 2) := by decide +kernel
theorem d92_33 : decode (xB 92) 33 = .ok (.if_icmp .ge 49, 3) := by decide +kernel
theorem d92_36 : decode (xB 92) 36 = .ok (.aload_n 0, 1) := by decide +kernel
theorem d92_37 : decode (xB 92) 37 = .ok (.getfield 23, 3) := by decide +kernel
theorem d92_40 : decode (xB 92) 40 = .ok (.iload_n 1, 1) := by decide +kernel
theorem d92_41 : decode (xB 92) 41 = .ok (.aaload, 1) := by decide +kernel
theorem d92_42 : decode (xB 92) 42 = .ok (.iload 4, 2) := by decide +kernel
theorem d92_44 : decode (xB 92) 44 = .ok (.iaload, 1) := by decide +kernel
theorem d92_45 : decode (xB 92) 45 = .ok (.istore 5, 2) := by decide +kernel
theorem d92_47 : decode (xB 92) 47 = .ok (.aload_n 0, 1) := by decide +kernel
theorem d92_48 : decode (xB 92) 48 = .ok (.getfield 23, 3) := by decide +kernel
theorem d92_51 : decode (xB 92) 51 = .ok (.iload_n 1, 1) := by decide +kernel
theorem d92_52 : decode (xB 92) 52 = .ok (.aaload, 1) := by decide +kernel
theorem d92_53 : decode (xB 92) 53 = .ok (.iload 4, 2) := by decide +kernel
theorem d92_55 : decode (xB 92) 55 = .ok (.aload_n 0, 1) := by decide +kernel
theorem d92_56 : decode (xB 92) 56 = .ok (.getfield 23, 3) := by decide +kernel
theorem d92_59 : decode (xB 92) 59 = .ok (.iload_n 2, 1) := by decide +kernel
theorem d92_60 : decode (xB 92) 60 = .ok (.aaload, 1) := by decide +kernel
theorem d92_61 : decode (xB 92) 61 = .ok (.iload 4, 2) := by decide +kernel
theorem d92_63 : decode (xB 92) 63 = .ok (.iaload, 1) := by decide +kernel
theorem d92_64 : decode (xB 92) 64 = .ok (.iastore, 1) := by decide +kernel
theorem d92_65 : decode (xB 92) 65 = .ok (.aload_n 0, 1) := by decide +kernel
theorem d92_66 : decode (xB 92) 66 = .ok (.getfield 23, 3) := by decide +kernel
theorem d92_69 : decode (xB 92) 69 = .ok (.iload_n 2, 1) := by decide +kernel
theorem d92_70 : decode (xB 92) 70 = .ok (.aaload, 1) := by decide +kernel
theorem d92_71 : decode (xB 92) 71 = .ok (.iload 4, 2) := by decide +kernel
theorem d92_73 : decode (xB 92) 73 = .ok (.iload 5, 2) := by decide +kernel
theorem d92_75 : decode (xB 92) 75 = .ok (.iastore, 1) := by decide +kernel
theorem d92_76 : decode (xB 92) 76 = .ok (.iinc 4 1, 3) := by decide +kernel
theorem d92_79 : decode (xB 92) 79 = .ok (.goto (-50), 3) := by decide +kernel
theorem d92_82 : decode (xB 92) 82 = .ok (.return_, 1) := by decide +kernel
theorem b92_0 {d : Nat} {P : xPr} {Q : xQr} {r : Nat} {mem : Nat → Nat → Int32} (hP : Cl d none 92 P Q) {t : Nat} {p0 : Int32} {p1 : Int32} (ht : isTown t) (hi5 : vp_in p0 8) (hi17 : vp_in p1 8) (hi18 : vp_in p0 8) (hi25 : vp_in p1 8)
    (k : P 29 [.ref t, .int p0, .int p1, .int (mem (t + 13) p0.toNatClampNeg), .int (nI 0), .null] [] (0, 0) (LAY, RFu r, xu2 (xu2 mem (t + 13) p0.toNatClampNeg (mem (t + 13) p1.toNatClampNeg)) (t + 13) p1.toNatClampNeg (mem (t + 13) p0.toNatClampNeg))) : P 0 [.ref t, .int p0, .int p1, .null, .null, .null] [] (0, 0) (LAY, RFu r, mem) := by
  refine r_aload_n hP d92_0 rfl ?_
  refine r_getr (a := (t + 13)) hP d92_1 fr_10_26 rfl (lt_10 ht) (rt_10_6 ht) ?_
  refine r_iload_n hP d92_4 rfl ?_
  refine r_iaload hP d92_5 (lt_10_6 ht) hi5 ?_
  refine r_istore_n (L' := [.ref t, .int p0, .int p1, .int (mem (t + 13) p0.toNatClampNeg), .null, .null]) hP d92_6 (Nat.le_of_ble_eq_true rfl) rfl ?_
  refine r_aload_n hP d92_7 rfl ?_
  refine r_getr (a := (t + 13)) hP d92_8 fr_10_26 rfl (lt_10 ht) (rt_10_6 ht) ?_
  refine r_iload_n hP d92_11 rfl ?_
  refine r_aload_n hP d92_12 rfl ?_
  refine r_getr (a := (t + 13)) hP d92_13 fr_10_26 rfl (lt_10 ht) (rt_10_6 ht) ?_
  refine r_iload_n hP d92_16 rfl ?_
  refine r_iaload hP d92_17 (lt_10_6 ht) hi17 ?_
  refine r_iastore hP d92_18 (lt_10_6 ht) hi18 ?_
  refine r_aload_n hP d92_19 rfl ?_
  refine r_getr (a := (t + 13)) hP d92_20 fr_10_26 rfl (lt_10 ht) (rt_10_6 ht) ?_
  refine r_iload_n hP d92_23 rfl ?_
  refine r_iload_n hP d92_24 rfl ?_
  refine r_iastore hP d92_25 (lt_10_6 ht) hi25 ?_
  refine r_iconst (v := nI 0) hP d92_26 rfl ?_
  refine r_istore (L' := [.ref t, .int p0, .int p1, .int (mem (t + 13) p0.toNatClampNeg), .int (nI 0), .null]) hP d92_27 (Nat.le_of_ble_eq_true rfl) rfl ?_
  exact k
theorem b92_29 {d : Nat} {P : xPr} {Q : xQr} {r : Nat} {mem : Nat → Nat → Int32} (hP : Cl d none 92 P Q) {t : Nat} {x1 : Int32} {x2 : Int32} {v3 : Value} {x4 : Int32} {v5 : Value} (ht : isTown t)
    (kt : (nI 24) ≤ x4 → P 82 [.ref t, .int x1, .int x2, v3, .int x4, v5] [] (0, 0) (LAY, RFu r, mem)) (kf : ¬ (nI 24) ≤ x4 → P 36 [.ref t, .int x1, .int x2, v3, .int x4, v5] [] (0, 0) (LAY, RFu r, mem)) : P 29 [.ref t, .int x1, .int x2, v3, .int x4, v5] [] (0, 0) (LAY, RFu r, mem) := by
  refine r_iload hP d92_29 rfl ?_
  refine r_bipush (v := nI 24) hP d92_31 rfl ?_
  exact r_icmp (t := 82) hP d92_33 (by decide) kt kf
theorem b92_36 {d : Nat} {P : xPr} {Q : xQr} {r : Nat} {mem : Nat → Nat → Int32} (hP : Cl d none 92 P Q) {t : Nat} {x1 : Int32} {x2 : Int32} {v3 : Value} {x4 : Int32} {v5 : Value} (ht : isTown t) (hi41 : vp_in x1 8) (hi44 : vp_in x4 24) (hi52 : vp_in x1 8) (hi60 : vp_in x2 8) (hi63 : vp_in x4 24) (hi64 : vp_in x4 24) (hi70 : vp_in x2 8) (hi75 : vp_in x4 24)
    (k : P 29 [.ref t, .int x1, .int x2, v3, .int (x4 + nI 1), .int (mem (t + 5 + x1.toNatClampNeg) x4.toNatClampNeg)] [] (0, 0) (LAY, RFu r, xu2 (xu2 mem (t + 5 + x1.toNatClampNeg) x4.toNatClampNeg (mem (t + 5 + x2.toNatClampNeg) x4.toNatClampNeg)) (t + 5 + x2.toNatClampNeg) x4.toNatClampNeg (mem (t + 5 + x1.toNatClampNeg) x4.toNatClampNeg))) : P 36 [.ref t, .int x1, .int x2, v3, .int x4, v5] [] (0, 0) (LAY, RFu r, mem) := by
  refine r_aload_n hP d92_36 rfl ?_
  refine r_getr (a := (t + 4)) hP d92_37 fr_10_23 rfl (lt_10 ht) (rt_10_5 ht) ?_
  refine r_iload_n hP d92_40 rfl ?_
  refine r_aaload (b := (t + 5 + x1.toNatClampNeg)) hP d92_41 (by decide) (lt_10_5 ht) hi41 (rt2_10_5 ht (vp_lt hi41)) ?_
  refine r_iload hP d92_42 rfl ?_
  refine r_iaload hP d92_44 (lt2_10_5 ht (vp_lt hi41)) hi44 ?_
  refine r_istore (L' := [.ref t, .int x1, .int x2, v3, .int x4, .int (mem (t + 5 + x1.toNatClampNeg) x4.toNatClampNeg)]) hP d92_45 (Nat.le_of_ble_eq_true rfl) rfl ?_
  refine r_aload_n hP d92_47 rfl ?_
  refine r_getr (a := (t + 4)) hP d92_48 fr_10_23 rfl (lt_10 ht) (rt_10_5 ht) ?_
  refine r_iload_n hP d92_51 rfl ?_
  refine r_aaload (b := (t + 5 + x1.toNatClampNeg)) hP d92_52 (by decide) (lt_10_5 ht) hi52 (rt2_10_5 ht (vp_lt hi52)) ?_
  refine r_iload hP d92_53 rfl ?_
  refine r_aload_n hP d92_55 rfl ?_
  refine r_getr (a := (t + 4)) hP d92_56 fr_10_23 rfl (lt_10 ht) (rt_10_5 ht) ?_
  refine r_iload_n hP d92_59 rfl ?_
  refine r_aaload (b := (t + 5 + x2.toNatClampNeg)) hP d92_60 (by decide) (lt_10_5 ht) hi60 (rt2_10_5 ht (vp_lt hi60)) ?_
  refine r_iload hP d92_61 rfl ?_
  refine r_iaload hP d92_63 (lt2_10_5 ht (vp_lt hi60)) hi63 ?_
  refine r_iastore hP d92_64 (lt2_10_5 ht (vp_lt hi52)) hi64 ?_
  refine r_aload_n hP d92_65 rfl ?_
  refine r_getr (a := (t + 4)) hP d92_66 fr_10_23 rfl (lt_10 ht) (rt_10_5 ht) ?_
  refine r_iload_n hP d92_69 rfl ?_
  refine r_aaload (b := (t + 5 + x2.toNatClampNeg)) hP d92_70 (by decide) (lt_10_5 ht) hi70 (rt2_10_5 ht (vp_lt hi70)) ?_
  refine r_iload hP d92_71 rfl ?_
  refine r_iload hP d92_73 rfl ?_
  refine r_iastore hP d92_75 (lt2_10_5 ht (vp_lt hi70)) hi75 ?_
  refine r_iinc (v := nI 1) (L' := [.ref t, .int x1, .int x2, v3, .int (x4 + nI 1), .int (mem (t + 5 + x1.toNatClampNeg) x4.toNatClampNeg)]) hP d92_76 rfl rfl rfl ?_
  refine r_goto (t := 29) hP d92_79 (by decide) ?_
  exact k
theorem b92_82 {d : Nat} {P : xPr} {Q : xQr} {r : Nat} {mem : Nat → Nat → Int32} (hP : Cl d none 92 P Q) {t : Nat} {v0 : Value} {v1 : Value} {v2 : Value} {v3 : Value} {v4 : Value} {v5 : Value} (ht : isTown t)
    (k : Q none (LAY, RFu r, mem)) : P 82 [v0, v1, v2, v3, v4, v5] [] (0, 0) (LAY, RFu r, mem) := by
  exact r_vret hP d92_82 rfl k
theorem d93_0 : decode (xB 93) 0 = .ok (.aload_n 0, 1) := by decide +kernel
theorem d93_1 : decode (xB 93) 1 = .ok (.getfield 9, 3) := by decide +kernel
theorem d93_4 : decode (xB 93) 4 = .ok (.iload_n 1, 1) := by decide +kernel
theorem d93_5 : decode (xB 93) 5 = .ok (.dup2, 1) := by decide +kernel
theorem d93_6 : decode (xB 93) 6 = .ok (.iaload, 1) := by decide +kernel
theorem d93_7 : decode (xB 93) 7 = .ok (.aload_n 0, 1) := by decide +kernel
theorem d93_8 : decode (xB 93) 8 = .ok (.getfield 9, 3) := by decide +kernel
theorem d93_11 : decode (xB 93) 11 = .ok (.iload_n 2, 1) := by decide +kernel
theorem d93_12 : decode (xB 93) 12 = .ok (.iaload, 1) := by decide +kernel
theorem d93_13 : decode (xB 93) 13 = .ok (.iadd, 1) := by decide +kernel
theorem d93_14 : decode (xB 93) 14 = .ok (.iastore, 1) := by decide +kernel
theorem d93_15 : decode (xB 93) 15 = .ok (.iconst 0, 1) := by decide +kernel
theorem d93_16 : decode (xB 93) 16 = .ok (.istore_n 3, 1) := by decide +kernel
theorem d93_17 : decode (xB 93) 17 = .ok (.iload_n 3, 1) := by decide +kernel
theorem d93_18 : decode (xB 93) 18 = .ok (.aload_n 0, 1) := by decide +kernel
theorem d93_19 : decode (xB 93) 19 = .ok (.getfield 48, 3) := by decide +kernel
theorem d93_22 : decode (xB 93) 22 = .ok (.if_icmp .ge 52, 3) := by decide +kernel
theorem d93_25 : decode (xB 93) 25 = .ok (.iconst 0, 1) := by decide +kernel
theorem d93_26 : decode (xB 93) 26 = .ok (.istore 4, 2) := by decide +kernel
theorem d93_28 : decode (xB 93) 28 = .ok (.iload 4, 2) := by decide +kernel
theorem d93_30 : decode (xB 93) 30 = .ok (.aload_n 0, 1) := by decide +kernel
theorem d93_31 : decode (xB 93) 31 = .ok (.getfield 26, 3) := by decide +kernel
theorem d93_34 : decode (xB 93) 34 = .ok (.iload_n 3, 1) := by decide +kernel
theorem d93_35 : decode (xB 93) 35 = .ok (.iaload, 1) := by decide +kernel
theorem d93_36 : decode (xB 93) 36 = .ok (.if_icmp .ge 32, 3) := by decide +kernel
theorem d93_39 : decode (xB 93) 39 = .ok (.aload_n 0, 1) := by decide +kernel
theorem d93_40 : decode (xB 93) 40 = .ok (.getfield 23, 3) := by decide +kernel
theorem d93_43 : decode (xB 93) 43 = .ok (.iload_n 3, 1) := by decide +kernel
theorem d93_44 : decode (xB 93) 44 = .ok (.aaload, 1) := by decide +kernel
theorem d93_45 : decode (xB 93) 45 = .ok (.iload 4, 2) := by decide +kernel
theorem d93_47 : decode (xB 93) 47 = .ok (.iaload, 1) := by decide +kernel
theorem d93_48 : decode (xB 93) 48 = .ok (.iload_n 2, 1) := by decide +kernel
theorem d93_49 : decode (xB 93) 49 = .ok (.if_icmp .ne 13, 3) := by decide +kernel
theorem d93_52 : decode (xB 93) 52 = .ok (.aload_n 0, 1) := by decide +kernel
theorem d93_53 : decode (xB 93) 53 = .ok (.getfield 23, 3) := by decide +kernel
theorem d93_56 : decode (xB 93) 56 = .ok (.iload_n 3, 1) := by decide +kernel
theorem d93_57 : decode (xB 93) 57 = .ok (.aaload, 1) := by decide +kernel
theorem d93_58 : decode (xB 93) 58 = .ok (.iload 4, 2) := by decide +kernel
theorem d93_60 : decode (xB 93) 60 = .ok (.iload_n 1, 1) := by decide +kernel
theorem d93_61 : decode (xB 93) 61 = .ok (.iastore, 1) := by decide +kernel
theorem d93_62 : decode (xB 93) 62 = .ok (.iinc 4 1, 3) := by decide +kernel
theorem d93_65 : decode (xB 93) 65 = .ok (.goto (-37), 3) := by decide +kernel
theorem d93_68 : decode (xB 93) 68 = .ok (.iinc 3 1, 3) := by decide +kernel
theorem d93_71 : decode (xB 93) 71 = .ok (.goto (-54), 3) := by decide +kernel
theorem d93_74 : decode (xB 93) 74 = .ok (.return_, 1) := by decide +kernel
theorem b93_0 {d : Nat} {P : xPr} {Q : xQr} {r : Nat} {mem : Nat → Nat → Int32} (hP : Cl d none 93 P Q) {t : Nat} {p0 : Int32} {p1 : Int32} (ht : isTown t) (hi6 : vp_in p0 4) (hi12 : vp_in p1 4) (hi14 : vp_in p0 4)
    (k : P 17 [.ref t, .int p0, .int p1, .int (nI 0), .null] [] (0, 0) (LAY, RFu r, xu2 mem (t + 1) p0.toNatClampNeg ((mem (t + 1) p0.toNatClampNeg) + (mem (t + 1) p1.toNatClampNeg)))) : P 0 [.ref t, .int p0, .int p1, .null, .null] [] (0, 0) (LAY, RFu r, mem) := by
  refine r_aload_n hP d93_0 rfl ?_
  refine r_getr (a := (t + 1)) hP d93_1 fr_10_9 rfl (lt_10 ht) (rt_10_2 ht) ?_
  refine r_iload_n hP d93_4 rfl ?_
  refine r_dup2 hP d93_5 rfl rfl ?_
  refine r_iaload hP d93_6 (lt_10_2 ht) hi6 ?_
  refine r_aload_n hP d93_7 rfl ?_
  refine r_getr (a := (t + 1)) hP d93_8 fr_10_9 rfl (lt_10 ht) (rt_10_2 ht) ?_
  refine r_iload_n hP d93_11 rfl ?_
  refine r_iaload hP d93_12 (lt_10_2 ht) hi12 ?_
  refine r_iadd hP d93_13 ?_
  refine r_iastore hP d93_14 (lt_10_2 ht) hi14 ?_
  refine r_iconst (v := nI 0) hP d93_15 rfl ?_
  refine r_istore_n (L' := [.ref t, .int p0, .int p1, .int (nI 0), .null]) hP d93_16 (Nat.le_of_ble_eq_true rfl) rfl ?_
  exact k
theorem b93_17 {d : Nat} {P : xPr} {Q : xQr} {r : Nat} {mem : Nat → Nat → Int32} (hP : Cl d none 93 P Q) {t : Nat} {x1 : Int32} {x2 : Int32} {x3 : Int32} {v4 : Value} (ht : isTown t)
    (kt : (mem t 1) ≤ x3 → P 74 [.ref t, .int x1, .int x2, .int x3, v4] [] (0, 0) (LAY, RFu r, mem)) (kf : ¬ (mem t 1) ≤ x3 → P 25 [.ref t, .int x1, .int x2, .int x3, v4] [] (0, 0) (LAY, RFu r, mem)) : P 17 [.ref t, .int x1, .int x2, .int x3, v4] [] (0, 0) (LAY, RFu r, mem) := by
  refine r_iload_n hP d93_17 rfl ?_
  refine r_aload_n hP d93_18 rfl ?_
  refine r_geti hP d93_19 fr_10_48 rfl (lt_10 ht) ?_
  exact r_icmp (t := 74) hP d93_22 (by decide) kt kf
theorem b93_25 {d : Nat} {P : xPr} {Q : xQr} {r : Nat} {mem : Nat → Nat → Int32} (hP : Cl d none 93 P Q) {t : Nat} {x1 : Int32} {x2 : Int32} {x3 : Int32} {v4 : Value} (ht : isTown t)
    (k : P 28 [.ref t, .int x1, .int x2, .int x3, .int (nI 0)] [] (0, 0) (LAY, RFu r, mem)) : P 25 [.ref t, .int x1, .int x2, .int x3, v4] [] (0, 0) (LAY, RFu r, mem) := by
  refine r_iconst (v := nI 0) hP d93_25 rfl ?_
  refine r_istore (L' := [.ref t, .int x1, .int x2, .int x3, .int (nI 0)]) hP d93_26 (Nat.le_of_ble_eq_true rfl) rfl ?_
  exact k
theorem b93_28 {d : Nat} {P : xPr} {Q : xQr} {r : Nat} {mem : Nat → Nat → Int32} (hP : Cl d none 93 P Q) {t : Nat} {x1 : Int32} {x2 : Int32} {x3 : Int32} {x4 : Int32} (ht : isTown t) (hi35 : vp_in x3 8)
    (kt : (mem (t + 13) x3.toNatClampNeg) ≤ x4 → P 68 [.ref t, .int x1, .int x2, .int x3, .int x4] [] (0, 0) (LAY, RFu r, mem)) (kf : ¬ (mem (t + 13) x3.toNatClampNeg) ≤ x4 → P 39 [.ref t, .int x1, .int x2, .int x3, .int x4] [] (0, 0) (LAY, RFu r, mem)) : P 28 [.ref t, .int x1, .int x2, .int x3, .int x4] [] (0, 0) (LAY, RFu r, mem) := by
  refine r_iload hP d93_28 rfl ?_
  refine r_aload_n hP d93_30 rfl ?_
  refine r_getr (a := (t + 13)) hP d93_31 fr_10_26 rfl (lt_10 ht) (rt_10_6 ht) ?_
  refine r_iload_n hP d93_34 rfl ?_
  refine r_iaload hP d93_35 (lt_10_6 ht) hi35 ?_
  exact r_icmp (t := 68) hP d93_36 (by decide) kt kf
theorem b93_39 {d : Nat} {P : xPr} {Q : xQr} {r : Nat} {mem : Nat → Nat → Int32} (hP : Cl d none 93 P Q) {t : Nat} {x1 : Int32} {x2 : Int32} {x3 : Int32} {x4 : Int32} (ht : isTown t) (hi44 : vp_in x3 8) (hi47 : vp_in x4 24)
    (kt : ¬ (mem (t + 5 + x3.toNatClampNeg) x4.toNatClampNeg) = x2 → P 62 [.ref t, .int x1, .int x2, .int x3, .int x4] [] (0, 0) (LAY, RFu r, mem)) (kf : (mem (t + 5 + x3.toNatClampNeg) x4.toNatClampNeg) = x2 → P 52 [.ref t, .int x1, .int x2, .int x3, .int x4] [] (0, 0) (LAY, RFu r, mem)) : P 39 [.ref t, .int x1, .int x2, .int x3, .int x4] [] (0, 0) (LAY, RFu r, mem) := by
  refine r_aload_n hP d93_39 rfl ?_
  refine r_getr (a := (t + 4)) hP d93_40 fr_10_23 rfl (lt_10 ht) (rt_10_5 ht) ?_
  refine r_iload_n hP d93_43 rfl ?_
  refine r_aaload (b := (t + 5 + x3.toNatClampNeg)) hP d93_44 (by decide) (lt_10_5 ht) hi44 (rt2_10_5 ht (vp_lt hi44)) ?_
  refine r_iload hP d93_45 rfl ?_
  refine r_iaload hP d93_47 (lt2_10_5 ht (vp_lt hi44)) hi47 ?_
  refine r_iload_n hP d93_48 rfl ?_
  exact r_icmp (t := 62) hP d93_49 (by decide) kt (fun q => kf (Decidable.of_not_not q))
theorem b93_52 {d : Nat} {P : xPr} {Q : xQr} {r : Nat} {mem : Nat → Nat → Int32} (hP : Cl d none 93 P Q) {t : Nat} {x1 : Int32} {x2 : Int32} {x3 : Int32} {x4 : Int32} (ht : isTown t) (hi57 : vp_in x3 8) (hi61 : vp_in x4 24)
    (k : P 62 [.ref t, .int x1, .int x2, .int x3, .int x4] [] (0, 0) (LAY, RFu r, xu2 mem (t + 5 + x3.toNatClampNeg) x4.toNatClampNeg x1)) : P 52 [.ref t, .int x1, .int x2, .int x3, .int x4] [] (0, 0) (LAY, RFu r, mem) := by
  refine r_aload_n hP d93_52 rfl ?_
  refine r_getr (a := (t + 4)) hP d93_53 fr_10_23 rfl (lt_10 ht) (rt_10_5 ht) ?_
  refine r_iload_n hP d93_56 rfl ?_
  refine r_aaload (b := (t + 5 + x3.toNatClampNeg)) hP d93_57 (by decide) (lt_10_5 ht) hi57 (rt2_10_5 ht (vp_lt hi57)) ?_
  refine r_iload hP d93_58 rfl ?_
  refine r_iload_n hP d93_60 rfl ?_
  refine r_iastore hP d93_61 (lt2_10_5 ht (vp_lt hi57)) hi61 ?_
  exact k
theorem b93_62 {d : Nat} {P : xPr} {Q : xQr} {r : Nat} {mem : Nat → Nat → Int32} (hP : Cl d none 93 P Q) {t : Nat} {x1 : Int32} {x2 : Int32} {x3 : Int32} {x4 : Int32} (ht : isTown t)
    (k : P 28 [.ref t, .int x1, .int x2, .int x3, .int (x4 + nI 1)] [] (0, 0) (LAY, RFu r, mem)) : P 62 [.ref t, .int x1, .int x2, .int x3, .int x4] [] (0, 0) (LAY, RFu r, mem) := by
  refine r_iinc (v := nI 1) (L' := [.ref t, .int x1, .int x2, .int x3, .int (x4 + nI 1)]) hP d93_62 rfl rfl rfl ?_
  refine r_goto (t := 28) hP d93_65 (by decide) ?_
  exact k
theorem b93_68 {d : Nat} {P : xPr} {Q : xQr} {r : Nat} {mem : Nat → Nat → Int32} (hP : Cl d none 93 P Q) {t : Nat} {x1 : Int32} {x2 : Int32} {x3 : Int32} {v4 : Value} (ht : isTown t)
    (k : P 17 [.ref t, .int x1, .int x2, .int (x3 + nI 1), v4] [] (0, 0) (LAY, RFu r, mem)) : P 68 [.ref t, .int x1, .int x2, .int x3, v4] [] (0, 0) (LAY, RFu r, mem) := by
  refine r_iinc (v := nI 1) (L' := [.ref t, .int x1, .int x2, .int (x3 + nI 1), v4]) hP d93_68 rfl rfl rfl ?_
  refine r_goto (t := 17) hP d93_71 (by decide) ?_
  exact k
theorem b93_74 {d : Nat} {P : xPr} {Q : xQr} {r : Nat} {mem : Nat → Nat → Int32} (hP : Cl d none 93 P Q) {t : Nat} {v0 : Value} {v1 : Value} {v2 : Value} {v3 : Value} {v4 : Value} (ht : isTown t)
    (k : Q none (LAY, RFu r, mem)) : P 74 [v0, v1, v2, v3, v4] [] (0, 0) (LAY, RFu r, mem) := by
  exact r_vret hP d93_74 rfl k
theorem d94_0 : decode (xB 94) 0 = .ok (.iconst 0, 1) := by decide +kernel
theorem d94_1 : decode (xB 94) 1 = .ok (.istore_n 1, 1) := by decide +kernel
theorem d94_2 : decode (xB 94) 2 = .ok (.iconst 0, 1) := by decide +kernel
theorem d94_3 : decode (xB 94) 3 = .ok (.istore_n 2, 1) := by decide +kernel
theorem d94_4 : decode (xB 94) 4 = .ok (.iload_n 2, 1) := by decide +kernel
theorem d94_5 : decode (xB 94) 5 = .ok (.aload_n 0, 1) := by decide +kernel
theorem d94_6 : decode (xB 94) 6 = .ok (.getfield 44, 3) := by decide +kernel
theorem d94_9 : decode (xB 94) 9 = .ok (.if_icmp .ge 18, 3) := by decide +kernel
theorem d94_12 : decode (xB 94) 12 = .ok (.iload_n 1, 1) := by decide +kernel
theorem d94_13 : decode (xB 94) 13 = .ok (.aload_n 0, 1) := by decide +kernel
theorem d94_14 : decode (xB 94) 14 = .ok (.getfield 9, 3) := by decide +kernel
theorem d94_17 : decode (xB 94) 17 = .ok (.iload_n 2, 1) := by decide +kernel
theorem d94_18 : decode (xB 94) 18 = .ok (.iaload, 1) := by decide +kernel
theorem d94_19 : decode (xB 94) 19 = .ok (.iadd, 1) := by decide +kernel
theorem d94_20 : decode (xB 94) 20 = .ok (.istore_n 1, 1) := by decide +kernel
theorem d94_21 : decode (xB 94) 21 = .ok (.iinc 2 1, 3) := by decide +kernel
theorem d94_24 : decode (xB 94) 24 = .ok (.goto (-20), 3) := by decide +kernel
theorem d94_27 : decode (xB 94) 27 = .ok (.iload_n 1, 1) := by decide +kernel
theorem d94_28 : decode (xB 94) 28 = .ok (.ireturn, 1) := by decide +kernel
theorem b94_0 {d : Nat} {P : xPr} {Q : xQr} {r : Nat} {mem : Nat → Nat → Int32} (hP : Cl d none 94 P Q) {t : Nat} (ht : isTown t)
    (k : P 4 [.ref t, .int (nI 0), .int (nI 0)] [] (0, 0) (LAY, RFu r, mem)) : P 0 [.ref t, .null, .null] [] (0, 0) (LAY, RFu r, mem) := by
  refine r_iconst (v := nI 0) hP d94_0 rfl ?_
  refine r_istore_n (L' := [.ref t, .int (nI 0), .null]) hP d94_1 (Nat.le_of_ble_eq_true rfl) rfl ?_
  refine r_iconst (v := nI 0) hP d94_2 rfl ?_
  refine r_istore_n (L' := [.ref t, .int (nI 0), .int (nI 0)]) hP d94_3 (Nat.le_of_ble_eq_true rfl) rfl ?_
  exact k
theorem b94_4 {d : Nat} {P : xPr} {Q : xQr} {r : Nat} {mem : Nat → Nat → Int32} (hP : Cl d none 94 P Q) {t : Nat} {x1 : Int32} {x2 : Int32} (ht : isTown t)
    (kt : (mem t 0) ≤ x2 → P 27 [.ref t, .int x1, .int x2] [] (0, 0) (LAY, RFu r, mem)) (kf : ¬ (mem t 0) ≤ x2 → P 12 [.ref t, .int x1, .int x2] [] (0, 0) (LAY, RFu r, mem)) : P 4 [.ref t, .int x1, .int x2] [] (0, 0) (LAY, RFu r, mem) := by
  refine r_iload_n hP d94_4 rfl ?_
  refine r_aload_n hP d94_5 rfl ?_
  refine r_geti hP d94_6 fr_10_44 rfl (lt_10 ht) ?_
  exact r_icmp (t := 27) hP d94_9 (by decide) kt kf
theorem b94_12 {d : Nat} {P : xPr} {Q : xQr} {r : Nat} {mem : Nat → Nat → Int32} (hP : Cl d none 94 P Q) {t : Nat} {x1 : Int32} {x2 : Int32} (ht : isTown t) (hi18 : vp_in x2 4)
    (k : P 4 [.ref t, .int (x1 + (mem (t + 1) x2.toNatClampNeg)), .int (x2 + nI 1)] [] (0, 0) (LAY, RFu r, mem)) : P 12 [.ref t, .int x1, .int x2] [] (0, 0) (LAY, RFu r, mem) := by
  refine r_iload_n hP d94_12 rfl ?_
  refine r_aload_n hP d94_13 rfl ?_
  refine r_getr (a := (t + 1)) hP d94_14 fr_10_9 rfl (lt_10 ht) (rt_10_2 ht) ?_
  refine r_iload_n hP d94_17 rfl ?_
  refine r_iaload hP d94_18 (lt_10_2 ht) hi18 ?_
  refine r_iadd hP d94_19 ?_
  refine r_istore_n (L' := [.ref t, .int (x1 + (mem (t + 1) x2.toNatClampNeg)), .int x2]) hP d94_20 (Nat.le_of_ble_eq_true rfl) rfl ?_
  refine r_iinc (v := nI 1) (L' := [.ref t, .int (x1 + (mem (t + 1) x2.toNatClampNeg)), .int (x2 + nI 1)]) hP d94_21 rfl rfl rfl ?_
  refine r_goto (t := 4) hP d94_24 (by decide) ?_
  exact k
theorem b94_27 {d : Nat} {P : xPr} {Q : xQr} {r : Nat} {mem : Nat → Nat → Int32} (hP : Cl d none 94 P Q) {t : Nat} {v0 : Value} {x1 : Int32} {v2 : Value} (ht : isTown t)
    (k : Q (some (.int x1)) (LAY, RFu r, mem)) : P 27 [v0, .int x1, v2] [] (0, 0) (LAY, RFu r, mem) := by
  refine r_iload_n hP d94_27 rfl ?_
  exact r_iret hP d94_28 rfl k
theorem d95_0 : decode (xB 95) 0 = .ok (.iconst 1, 1) := by decide +kernel
theorem d95_1 : decode (xB 95) 1 = .ok (.istore_n 1, 1) := by decide +kernel
theorem d95_2 : decode (xB 95) 2 = .ok (.iload_n 1, 1) := by decide +kernel
theorem d95_3 : decode (xB 95) 3 = .ok (.sipush 500, 3) := by decide +kernel
theorem d95_6 : decode (xB 95) 6 = .ok (.if_icmp .gt 19, 3) := by decide +kernel
theorem d95_9 : decode (xB 95) 9 = .ok (.aload_n 0, 1) := by decide +kernel
theorem d95_10 : decode (xB 95) 10 = .ok (.iload_n 1, 1) := by decide +kernel
theorem d95_11 : decode (xB 95) 11 = .ok (.invokevirtual 116, 3) := by decide +kernel
theorem d95_14 : decode (xB 95) 14 = .ok (.ifCond .eq 5, 3) := by decide +kernel
theorem d95_17 : decode (xB 95) 17 = .ok (.iload_n 1, 1) := by decide +kernel
theorem d95_18 : decode (xB 95) 18 = .ok (.ireturn, 1) := by decide +kernel
theorem d95_19 : decode (xB 95) 19 = .ok (.iinc 1 1, 3) := by decide +kernel
theorem d95_22 : decode (xB 95) 22 = .ok (.goto (-20), 3) := by decide +kernel
theorem d95_25 : decode (xB 95) 25 = .ok (.iconst (-1), 1) := by decide +kernel
theorem d95_26 : decode (xB 95) 26 = .ok (.ireturn, 1) := by decide +kernel
theorem b95_0 {d : Nat} {P : xPr} {Q : xQr} {r : Nat} {mem : Nat → Nat → Int32} (hP : Cl d none 95 P Q) {t : Nat} (ht : isTown t)
    (k : P 2 [.ref t, .int (nI 1)] [] (0, 0) (LAY, RFu r, mem)) : P 0 [.ref t, .null] [] (0, 0) (LAY, RFu r, mem) := by
  refine r_iconst (v := nI 1) hP d95_0 rfl ?_
  refine r_istore_n (L' := [.ref t, .int (nI 1)]) hP d95_1 (Nat.le_of_ble_eq_true rfl) rfl ?_
  exact k
theorem b95_2 {d : Nat} {P : xPr} {Q : xQr} {r : Nat} {mem : Nat → Nat → Int32} (hP : Cl d none 95 P Q) {t : Nat} {x1 : Int32} (ht : isTown t)
    (kt : (nI 500) < x1 → P 25 [.ref t, .int x1] [] (0, 0) (LAY, RFu r, mem)) (kf : ¬ (nI 500) < x1 → P 9 [.ref t, .int x1] [] (0, 0) (LAY, RFu r, mem)) : P 2 [.ref t, .int x1] [] (0, 0) (LAY, RFu r, mem) := by
  refine r_iload_n hP d95_2 rfl ?_
  refine r_sipush (v := nI 500) hP d95_3 rfl ?_
  exact r_icmp (t := 25) hP d95_6 (by decide) kt kf
theorem b95_9 {d : Nat} {P : xPr} {Q : xQr} {r : Nat} {mem : Nat → Nat → Int32} (hP : Cl d none 95 P Q) {t : Nat} {x1 : Int32} (ht : isTown t)
    (k : xCall d 96 [.ref t, .int x1] (LAY, RFu r, mem) (Bk P 11 [.ref t, .int x1] [] (0, 0))) : P 9 [.ref t, .int x1] [] (0, 0) (LAY, RFu r, mem) := by
  refine r_aload_n hP d95_9 rfl ?_
  refine r_iload_n hP d95_10 rfl ?_
  exact r_callv (As := [.int x1]) (S := []) hP d95_11 cr_10_116 (by decide +kernel) rfl (by simp [Value.category]) rfl (lt_10 ht) (by simp [Value.category]) ⟨Nat.zero_le _, Nat.zero_le _⟩ k
theorem b95_14 {d : Nat} {P : xPr} {Q : xQr} {r : Nat} {mem : Nat → Nat → Int32} (hP : Cl d none 95 P Q) {t : Nat} {x1 : Int32} {y0 : Int32} (ht : isTown t)
    (kt : y0 = 0 → P 19 [.ref t, .int x1] [] (0, 0) (LAY, RFu r, mem)) (kf : ¬ y0 = 0 → P 17 [.ref t, .int x1] [] (0, 0) (LAY, RFu r, mem)) : P 14 [.ref t, .int x1] [.int y0] (0, 0) (LAY, RFu r, mem) := by
  exact r_if (t := 19) hP d95_14 (by decide) kt kf
theorem b95_17 {d : Nat} {P : xPr} {Q : xQr} {r : Nat} {mem : Nat → Nat → Int32} (hP : Cl d none 95 P Q) {t : Nat} {v0 : Value} {x1 : Int32} (ht : isTown t)
    (k : Q (some (.int x1)) (LAY, RFu r, mem)) : P 17 [v0, .int x1] [] (0, 0) (LAY, RFu r, mem) := by
  refine r_iload_n hP d95_17 rfl ?_
  exact r_iret hP d95_18 rfl k
theorem b95_19 {d : Nat} {P : xPr} {Q : xQr} {r : Nat} {mem : Nat → Nat → Int32} (hP : Cl d none 95 P Q) {t : Nat} {x1 : Int32} (ht : isTown t)
    (k : P 2 [.ref t, .int (x1 + nI 1)] [] (0, 0) (LAY, RFu r, mem)) : P 19 [.ref t, .int x1] [] (0, 0) (LAY, RFu r, mem) := by
  refine r_iinc (v := nI 1) (L' := [.ref t, .int (x1 + nI 1)]) hP d95_19 rfl rfl rfl ?_
  refine r_goto (t := 2) hP d95_22 (by decide) ?_
  exact k
theorem b95_25 {d : Nat} {P : xPr} {Q : xQr} {r : Nat} {mem : Nat → Nat → Int32} (hP : Cl d none 95 P Q) {t : Nat} {v0 : Value} {v1 : Value} (ht : isTown t)
    (k : Q (some (.int (-1))) (LAY, RFu r, mem)) : P 25 [v0, v1] [] (0, 0) (LAY, RFu r, mem) := by
  refine r_iconst (v := (-1)) hP d95_25 rfl ?_
  exact r_iret hP d95_26 rfl k
theorem d96_0 : decode (xB 96) 0 = .ok (.iconst 0, 1) := by decide +kernel
theorem d96_1 : decode (xB 96) 1 = .ok (.istore_n 2, 1) := by decide +kernel
theorem d96_2 : decode (xB 96) 2 = .ok (.iload_n 2, 1) := by decide +kernel
theorem d96_3 : decode (xB 96) 3 = .ok (.aload_n 0, 1) := by decide +kernel
theorem d96_4 : decode (xB 96) 4 = .ok (.getfield 48, 3) := by decide +kernel
theorem d96_7 : decode (xB 96) 7 = .ok (.if_icmp .ge 31, 3) := by decide +kernel
theorem d96_10 : decode (xB 96) 10 = .ok (.aload_n 0, 1) := by decide +kernel
theorem d96_11 : decode (xB 96) 11 = .ok (.getfield 26, 3) := by decide +kernel
theorem d96_14 : decode (xB 96) 14 = .ok (.iload_n 2, 1) := by decide +kernel
theorem d96_15 : decode (xB 96) 15 = .ok (.iaload, 1) := by decide +kernel
theorem d96_16 : decode (xB 96) 16 = .ok (.ifCond .le 16, 3) := by decide +kernel
theorem d96_19 : decode (xB 96) 19 = .ok (.iload_n 1, 1) := by decide +kernel
theorem d96_20 : decode (xB 96) 20 = .ok (.aload_n 0, 1) := by decide +kernel
theorem d96_21 : decode (xB 96) 21 = .ok (.getfield 26, 3) := by decide +kernel
theorem d96_24 : decode (xB 96) 24 = .ok (.iload_n 2, 1) := by decide +kernel
theorem d96_25 : decode (xB 96) 25 = .ok (.iaload, 1) := by decide +kernel
theorem d96_26 : decode (xB 96) 26 = .ok (.irem, 1) := by decide +kernel
theorem d96_27 : decode (xB 96) 27 = .ok (.ifCond .eq 5, 3) := by decide +kernel
theorem d96_30 : decode (xB 96) 30 = .ok (.iconst 0, 1) := by decide +kernel
theorem d96_31 : decode (xB 96) 31 = .ok (.ireturn, 1) := by decide +kernel
theorem d96_32 : decode (xB 96) 32 = .ok (.iinc 2 1, 3) := by decide +kernel
theorem d96_35 : decode (xB 96) 35 = .ok (.goto (-33), 3) := by decide +kernel
theorem d96_38 : decode (xB 96) 38 = .ok (.iconst 1, 1) := by decide +kernel
theorem d96_39 : decode (xB 96) 39 = .ok (.ireturn, 1) := by decide +kernel
theorem b96_0 {d : Nat} {P : xPr} {Q : xQr} {r : Nat} {mem : Nat → Nat → Int32} (hP : Cl d none 96 P Q) {t : Nat} {p0 : Int32} (ht : isTown t)
    (k : P 2 [.ref t, .int p0, .int (nI 0)] [] (0, 0) (LAY, RFu r, mem)) : P 0 [.ref t, .int p0, .null] [] (0, 0) (LAY, RFu r, mem) := by
  refine r_iconst (v := nI 0) hP d96_0 rfl ?_
  refine r_istore_n (L' := [.ref t, .int p0, .int (nI 0)]) hP d96_1 (Nat.le_of_ble_eq_true rfl) rfl ?_
  exact k
theorem b96_2 {d : Nat} {P : xPr} {Q : xQr} {r : Nat} {mem : Nat → Nat → Int32} (hP : Cl d none 96 P Q) {t : Nat} {x1 : Int32} {x2 : Int32} (ht : isTown t)
    (kt : (mem t 1) ≤ x2 → P 38 [.ref t, .int x1, .int x2] [] (0, 0) (LAY, RFu r, mem)) (kf : ¬ (mem t 1) ≤ x2 → P 10 [.ref t, .int x1, .int x2] [] (0, 0) (LAY, RFu r, mem)) : P 2 [.ref t, .int x1, .int x2] [] (0, 0) (LAY, RFu r, mem) := by
  refine r_iload_n hP d96_2 rfl ?_
  refine r_aload_n hP d96_3 rfl ?_
  refine r_geti hP d96_4 fr_10_48 rfl (lt_10 ht) ?_
  exact r_icmp (t := 38) hP d96_7 (by decide) kt kf
theorem b96_10 {d : Nat} {P : xPr} {Q : xQr} {r : Nat} {mem : Nat → Nat → Int32} (hP : Cl d none 96 P Q) {t : Nat} {x1 : Int32} {x2 : Int32} (ht : isTown t) (hi15 : vp_in x2 8)
    (kt : (mem (t + 13) x2.toNatClampNeg) ≤ 0 → P 32 [.ref t, .int x1, .int x2] [] (0, 0) (LAY, RFu r, mem)) (kf : ¬ (mem (t + 13) x2.toNatClampNeg) ≤ 0 → P 19 [.ref t, .int x1, .int x2] [] (0, 0) (LAY, RFu r, mem)) : P 10 [.ref t, .int x1, .int x2] [] (0, 0) (LAY, RFu r, mem) := by
  refine r_aload_n hP d96_10 rfl ?_
  refine r_getr (a := (t + 13)) hP d96_11 fr_10_26 rfl (lt_10 ht) (rt_10_6 ht) ?_
  refine r_iload_n hP d96_14 rfl ?_
  refine r_iaload hP d96_15 (lt_10_6 ht) hi15 ?_
  exact r_if (t := 32) hP d96_16 (by decide) kt kf
theorem b96_19 {d : Nat} {P : xPr} {Q : xQr} {r : Nat} {mem : Nat → Nat → Int32} (hP : Cl d none 96 P Q) {t : Nat} {x1 : Int32} {x2 : Int32} (ht : isTown t) (hi25 : vp_in x2 8) (hz26 : ¬ (mem (t + 13) x2.toNatClampNeg) = 0)
    (kt : (x1 - x1 / (mem (t + 13) x2.toNatClampNeg) * (mem (t + 13) x2.toNatClampNeg)) = 0 → P 32 [.ref t, .int x1, .int x2] [] (0, 0) (LAY, RFu r, mem)) (kf : ¬ (x1 - x1 / (mem (t + 13) x2.toNatClampNeg) * (mem (t + 13) x2.toNatClampNeg)) = 0 → P 30 [.ref t, .int x1, .int x2] [] (0, 0) (LAY, RFu r, mem)) : P 19 [.ref t, .int x1, .int x2] [] (0, 0) (LAY, RFu r, mem) := by
  refine r_iload_n hP d96_19 rfl ?_
  refine r_aload_n hP d96_20 rfl ?_
  refine r_getr (a := (t + 13)) hP d96_21 fr_10_26 rfl (lt_10 ht) (rt_10_6 ht) ?_
  refine r_iload_n hP d96_24 rfl ?_
  refine r_iaload hP d96_25 (lt_10_6 ht) hi25 ?_
  refine r_irem hP d96_26 hz26 ?_
  exact r_if (t := 32) hP d96_27 (by decide) kt kf
theorem b96_30 {d : Nat} {P : xPr} {Q : xQr} {r : Nat} {mem : Nat → Nat → Int32} (hP : Cl d none 96 P Q) {t : Nat} {v0 : Value} {v1 : Value} {v2 : Value} (ht : isTown t) (hzr : nI 0 = 0 ∨ nI 0 = 1)
    (k : Q (some (.int (nI 0))) (LAY, RFu r, mem)) : P 30 [v0, v1, v2] [] (0, 0) (LAY, RFu r, mem) := by
  refine r_iconst (v := nI 0) hP d96_30 rfl ?_
  exact r_zret hP d96_31 rfl hzr k
theorem b96_32 {d : Nat} {P : xPr} {Q : xQr} {r : Nat} {mem : Nat → Nat → Int32} (hP : Cl d none 96 P Q) {t : Nat} {x1 : Int32} {x2 : Int32} (ht : isTown t)
    (k : P 2 [.ref t, .int x1, .int (x2 + nI 1)] [] (0, 0) (LAY, RFu r, mem)) : P 32 [.ref t, .int x1, .int x2] [] (0, 0) (LAY, RFu r, mem) := by
  refine r_iinc (v := nI 1) (L' := [.ref t, .int x1, .int (x2 + nI 1)]) hP d96_32 rfl rfl rfl ?_
  refine r_goto (t := 2) hP d96_35 (by decide) ?_
  exact k
theorem b96_38 {d : Nat} {P : xPr} {Q : xQr} {r : Nat} {mem : Nat → Nat → Int32} (hP : Cl d none 96 P Q) {t : Nat} {v0 : Value} {v1 : Value} {v2 : Value} (ht : isTown t) (hzr : nI 1 = 0 ∨ nI 1 = 1)
    (k : Q (some (.int (nI 1))) (LAY, RFu r, mem)) : P 38 [v0, v1, v2] [] (0, 0) (LAY, RFu r, mem) := by
  refine r_iconst (v := nI 1) hP d96_38 rfl ?_
  exact r_zret hP d96_39 rfl hzr k
