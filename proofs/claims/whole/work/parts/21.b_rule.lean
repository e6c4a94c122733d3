/-! blocks: X0_groupUp, X0_addUp, X0_inDebtOrCredit, X0_firstGroup, X0_payAll, X0_credit, X2_read, X2_act, X2_first, X2_second, X2_number, X2_chairNumber, X3_push, X3_pop, X3_forgetPast, X3_put, X3_bringBack, X5_clear, X5_become, X5_add, X5_takeFrom, X5_valueFor, X5_thing, X5_joined, X6_read, X6_readAheadOfThing, X6_readThing, X6_readClosings, X6_readJoin, X6_addWaiting, X6_push, X6_binding -/
theorem d1_0 : decode (xB 1) 0 = .ok (.aload_n 0, 1) := by decide +kernel
theorem d1_1 : decode (xB 1) 1 = .ok (.aload_n 1, 1) := by decide +kernel
theorem d1_2 : decode (xB 1) 2 = .ok (.invokevirtual 18, 3) := by decide +kernel
theorem d1_5 : decode (xB 1) 5 = .ok (.aload_n 1, 1) := by decide +kernel
theorem d1_6 : decode (xB 1) 6 = .ok (.invokestatic 22, 3) := by decide +kernel
theorem d1_9 : decode (xB 1) 9 = .ok (.istore_n 3, 1) := by decide +kernel
theorem d1_10 : decode (xB 1) 10 = .ok (.iload_n 3, 1) := by decide +kernel
theorem d1_11 : decode (xB 1) 11 = .ok (.invokestatic 26, 3) := by decide +kernel
theorem d1_14 : decode (xB 1) 14 = .ok (.istore 4, 2) := by decide +kernel
theorem d1_16 : decode (xB 1) 16 = .ok (.aload_n 2, 1) := by decide +kernel
theorem d1_17 : decode (xB 1) 17 = .ok (.invokevirtual 32, 3) := by decide +kernel
theorem d1_20 : decode (xB 1) 20 = .ok (.iconst 0, 1) := by decide +kernel
theorem d1_21 : decode (xB 1) 21 = .ok (.istore 5, 2) := by decide +kernel
theorem d1_23 : decode (xB 1) 23 = .ok (.iload 5, 2) := by decide +kernel
theorem d1_25 : decode (xB 1) 25 = .ok (.bipush 8, 2) := by decide +kernel
theorem d1_27 : decode (xB 1) 27 = .ok (.if_icmp .ge 33, 3) := by decide +kernel
theorem d1_30 : decode (xB 1) 30 = .ok (.iload_n 3, 1) := by decide +kernel
theorem d1_31 : decode (xB 1) 31 = .ok (.ifCond .eq 29, 3) := by decide +kernel
theorem d1_34 : decode (xB 1) 34 = .ok (.aload_n 0, 1) := by decide +kernel
theorem d1_35 : decode (xB 1) 35 = .ok (.iload_n 3, 1) := by decide +kernel
theorem d1_36 : decode (xB 1) 36 = .ok (.invokevirtual 37, 3) := by decide +kernel
theorem d1_39 : decode (xB 1) 39 = .ok (.istore 6, 2) := by decide +kernel
theorem d1_41 : decode (xB 1) 41 = .ok (.aload_n 2, 1) := by decide +kernel
theorem d1_42 : decode (xB 1) 42 = .ok (.iload 6, 2) := by decide +kernel
theorem d1_44 : decode (xB 1) 44 = .ok (.invokevirtual 40, 3) := by decide +kernel
theorem d1_47 : decode (xB 1) 47 = .ok (.iload_n 3, 1) := by decide +kernel
theorem d1_48 : decode (xB 1) 48 = .ok (.iload 6, 2) := by decide +kernel
theorem d1_50 : decode (xB 1) 50 = .ok (.iconst (-1), 1) := by decide +kernel
theorem d1_51 : decode (xB 1) 51 = .ok (.ixor, 1) := by decide +kernel
theorem d1_52 : decode (xB 1) 52 = .ok (.iand, 1) := by decide +kernel
theorem d1_53 : decode (xB 1) 53 = .ok (.istore_n 3, 1) := by decide +kernel
theorem d1_54 : decode (xB 1) 54 = .ok (.iinc 5 1, 3) := by decide +kernel
theorem d1_57 : decode (xB 1) 57 = .ok (.goto (-34), 3) := by decide +kernel
theorem d1_60 : decode (xB 1) 60 = .ok (.iload 4, 2) := by decide +kernel
theorem d1_62 : decode (xB 1) 62 = .ok (.aload_n 2, 1) := by decide +kernel
theorem d1_63 : decode (xB 1) 63 = .ok (.getfield 44, 3) := by decide +kernel
theorem d1_66 : decode (xB 1) 66 = .ok (.isub, 1) := by decide +kernel
theorem d1_67 : decode (xB 1) 67 = .ok (.ireturn, 1) := by decide +kernel
theorem b1_0 {d : Nat} {P : xPr} {Q : xQr} {r : Nat} {mem : Nat → Nat → Int32} (hP : Cl d none 1 P Q) {s : Nat} (hs : isState s)
    (k : xCall d 2 [.ref 78, .ref s] (LAY, RFu r, mem) (Bk P 2 [.ref 78, .ref s, .ref 3, .null, .null, .null, .null] [] (0, 0))) : P 0 [.ref 78, .ref s, .ref 3, .null, .null, .null, .null] [] (0, 0) (LAY, RFu r, mem) := by
  refine r_aload_n hP d1_0 rfl ?_
  refine r_aload_n hP d1_1 rfl ?_
  exact r_callv (As := [.ref s]) (S := []) hP d1_2 cr_0_18 (by decide +kernel) rfl (by simp [Value.category]) rfl ly_78 (by simp [Value.category]) ⟨Nat.zero_le _, Nat.zero_le _⟩ k
theorem b1_5 {d : Nat} {P : xPr} {Q : xQr} {r : Nat} {mem : Nat → Nat → Int32} (hP : Cl d none 1 P Q) {s : Nat} {v3 : Value} {v4 : Value} {v5 : Value} {v6 : Value} (hs : isState s)
    (k : xCall d 3 [.ref s] (LAY, RFu r, mem) (Bk P 6 [.ref 78, .ref s, .ref 3, v3, v4, v5, v6] [] (0, 0))) : P 5 [.ref 78, .ref s, .ref 3, v3, v4, v5, v6] [] (0, 0) (LAY, RFu r, mem) := by
  refine r_aload_n hP d1_5 rfl ?_
  exact r_calls (As := [.ref s]) (S := []) hP d1_6 cr_0_22 (by decide +kernel) rfl (by simp [Value.category]) rfl (by simp [Value.category]) ⟨Nat.zero_le _, Nat.zero_le _⟩ k
theorem b1_9 {d : Nat} {P : xPr} {Q : xQr} {r : Nat} {mem : Nat → Nat → Int32} (hP : Cl d none 1 P Q) {s : Nat} {v1 : Value} {v3 : Value} {v4 : Value} {v5 : Value} {v6 : Value} {y0 : Int32} (hs : isState s)
    (k : xCall d 237 [.int y0] (LAY, RFu r, mem) (Bk P 11 [.ref 78, v1, .ref 3, .int y0, v4, v5, v6] [] (0, 0))) : P 9 [.ref 78, v1, .ref 3, v3, v4, v5, v6] [.int y0] (0, 0) (LAY, RFu r, mem) := by
  refine r_istore_n (L' := [.ref 78, v1, .ref 3, .int y0, v4, v5, v6]) hP d1_9 (Nat.le_of_ble_eq_true rfl) rfl ?_
  refine r_iload_n hP d1_10 rfl ?_
  exact r_calls (As := [.int y0]) (S := []) hP d1_11 cr_0_26 (by decide +kernel) rfl (by simp [Value.category]) rfl (by simp [Value.category]) ⟨Nat.zero_le _, Nat.zero_le _⟩ k
theorem b1_14 {d : Nat} {P : xPr} {Q : xQr} {r : Nat} {mem : Nat → Nat → Int32} (hP : Cl d none 1 P Q) {s : Nat} {v1 : Value} {x3 : Int32} {v4 : Value} {v5 : Value} {v6 : Value} {y0 : Int32} (hs : isState s)
    (k : xCall d 31 [.ref 3] (LAY, RFu r, mem) (Bk P 17 [.ref 78, v1, .ref 3, .int x3, .int y0, v5, v6] [] (0, 0))) : P 14 [.ref 78, v1, .ref 3, .int x3, v4, v5, v6] [.int y0] (0, 0) (LAY, RFu r, mem) := by
  refine r_istore (L' := [.ref 78, v1, .ref 3, .int x3, .int y0, v5, v6]) hP d1_14 (Nat.le_of_ble_eq_true rfl) rfl ?_
  refine r_aload_n hP d1_16 rfl ?_
  exact r_callv (As := []) (S := []) hP d1_17 cr_0_32 (by decide +kernel) rfl (by simp) rfl ly_3 (by simp [Value.category]) ⟨Nat.zero_le _, Nat.zero_le _⟩ k
theorem b1_20 {d : Nat} {P : xPr} {Q : xQr} {r : Nat} {mem : Nat → Nat → Int32} (hP : Cl d none 1 P Q) {s : Nat} {v1 : Value} {x3 : Int32} {x4 : Int32} {v5 : Value} {v6 : Value} (hs : isState s)
    (k : P 23 [.ref 78, v1, .ref 3, .int x3, .int x4, .int (nI 0), v6] [] (0, 0) (LAY, RFu r, mem)) : P 20 [.ref 78, v1, .ref 3, .int x3, .int x4, v5, v6] [] (0, 0) (LAY, RFu r, mem) := by
  refine r_iconst (v := nI 0) hP d1_20 rfl ?_
  refine r_istore (L' := [.ref 78, v1, .ref 3, .int x3, .int x4, .int (nI 0), v6]) hP d1_21 (Nat.le_of_ble_eq_true rfl) rfl ?_
  exact k
theorem b1_23 {d : Nat} {P : xPr} {Q : xQr} {r : Nat} {mem : Nat → Nat → Int32} (hP : Cl d none 1 P Q) {s : Nat} {v1 : Value} {x3 : Int32} {x4 : Int32} {x5 : Int32} {v6 : Value} (hs : isState s)
    (kt : (nI 8) ≤ x5 → P 60 [.ref 78, v1, .ref 3, .int x3, .int x4, .int x5, v6] [] (0, 0) (LAY, RFu r, mem)) (kf : ¬ (nI 8) ≤ x5 → P 30 [.ref 78, v1, .ref 3, .int x3, .int x4, .int x5, v6] [] (0, 0) (LAY, RFu r, mem)) : P 23 [.ref 78, v1, .ref 3, .int x3, .int x4, .int x5, v6] [] (0, 0) (LAY, RFu r, mem) := by
  refine r_iload hP d1_23 rfl ?_
  refine r_bipush (v := nI 8) hP d1_25 rfl ?_
  exact r_icmp (t := 60) hP d1_27 (by decide) kt kf
theorem b1_30 {d : Nat} {P : xPr} {Q : xQr} {r : Nat} {mem : Nat → Nat → Int32} (hP : Cl d none 1 P Q) {s : Nat} {v1 : Value} {x3 : Int32} {x4 : Int32} {x5 : Int32} {v6 : Value} (hs : isState s)
    (kt : x3 = 0 → P 60 [.ref 78, v1, .ref 3, .int x3, .int x4, .int x5, v6] [] (0, 0) (LAY, RFu r, mem)) (kf : ¬ x3 = 0 → P 34 [.ref 78, v1, .ref 3, .int x3, .int x4, .int x5, v6] [] (0, 0) (LAY, RFu r, mem)) : P 30 [.ref 78, v1, .ref 3, .int x3, .int x4, .int x5, v6] [] (0, 0) (LAY, RFu r, mem) := by
  refine r_iload_n hP d1_30 rfl ?_
  exact r_if (t := 60) hP d1_31 (by decide) kt kf
theorem b1_34 {d : Nat} {P : xPr} {Q : xQr} {r : Nat} {mem : Nat → Nat → Int32} (hP : Cl d none 1 P Q) {s : Nat} {v1 : Value} {x3 : Int32} {x4 : Int32} {x5 : Int32} {v6 : Value} (hs : isState s)
    (k : xCall d 4 [.ref 78, .int x3] (LAY, RFu r, mem) (Bk P 36 [.ref 78, v1, .ref 3, .int x3, .int x4, .int x5, v6] [] (0, 0))) : P 34 [.ref 78, v1, .ref 3, .int x3, .int x4, .int x5, v6] [] (0, 0) (LAY, RFu r, mem) := by
  refine r_aload_n hP d1_34 rfl ?_
  refine r_iload_n hP d1_35 rfl ?_
  exact r_callv (As := [.int x3]) (S := []) hP d1_36 cr_0_37 (by decide +kernel) rfl (by simp [Value.category]) rfl ly_78 (by simp [Value.category]) ⟨Nat.zero_le _, Nat.zero_le _⟩ k
theorem b1_39 {d : Nat} {P : xPr} {Q : xQr} {r : Nat} {mem : Nat → Nat → Int32} (hP : Cl d none 1 P Q) {s : Nat} {v1 : Value} {x3 : Int32} {x4 : Int32} {x5 : Int32} {v6 : Value} {y0 : Int32} (hs : isState s)
    (k : xCall d 32 [.ref 3, .int y0] (LAY, RFu r, mem) (Bk P 44 [.ref 78, v1, .ref 3, .int x3, .int x4, .int x5, .int y0] [] (0, 0))) : P 39 [.ref 78, v1, .ref 3, .int x3, .int x4, .int x5, v6] [.int y0] (0, 0) (LAY, RFu r, mem) := by
  refine r_istore (L' := [.ref 78, v1, .ref 3, .int x3, .int x4, .int x5, .int y0]) hP d1_39 (Nat.le_of_ble_eq_true rfl) rfl ?_
  refine r_aload_n hP d1_41 rfl ?_
  refine r_iload hP d1_42 rfl ?_
  exact r_callv (As := [.int y0]) (S := []) hP d1_44 cr_0_40 (by decide +kernel) rfl (by simp [Value.category]) rfl ly_3 (by simp [Value.category]) ⟨Nat.zero_le _, Nat.zero_le _⟩ k
theorem b1_47 {d : Nat} {P : xPr} {Q : xQr} {r : Nat} {mem : Nat → Nat → Int32} (hP : Cl d none 1 P Q) {s : Nat} {v1 : Value} {x3 : Int32} {x4 : Int32} {x5 : Int32} {x6 : Int32} (hs : isState s)
    (k : P 23 [.ref 78, v1, .ref 3, .int (x3 &&& (x6 ^^^ (-1))), .int x4, .int (x5 + nI 1), .int x6] [] (0, 0) (LAY, RFu r, mem)) : P 47 [.ref 78, v1, .ref 3, .int x3, .int x4, .int x5, .int x6] [] (0, 0) (LAY, RFu r, mem) := by
  refine r_iload_n hP d1_47 rfl ?_
  refine r_iload hP d1_48 rfl ?_
  refine r_iconst (v := (-1)) hP d1_50 rfl ?_
  refine r_ixor hP d1_51 ?_
  refine r_iand hP d1_52 ?_
  refine r_istore_n (L' := [.ref 78, v1, .ref 3, .int (x3 &&& (x6 ^^^ (-1))), .int x4, .int x5, .int x6]) hP d1_53 (Nat.le_of_ble_eq_true rfl) rfl ?_
  refine r_iinc (v := nI 1) (L' := [.ref 78, v1, .ref 3, .int (x3 &&& (x6 ^^^ (-1))), .int x4, .int (x5 + nI 1), .int x6]) hP d1_54 rfl rfl rfl ?_
  refine r_goto (t := 23) hP d1_57 (by decide) ?_
  exact k
theorem b1_60 {d : Nat} {P : xPr} {Q : xQr} {r : Nat} {mem : Nat → Nat → Int32} (hP : Cl d none 1 P Q) {s : Nat} {v0 : Value} {v1 : Value} {v3 : Value} {x4 : Int32} {v5 : Value} {v6 : Value} (hs : isState s)
    (k : Q (some (.int (x4 - (mem 3 1)))) (LAY, RFu r, mem)) : P 60 [v0, v1, .ref 3, v3, .int x4, v5, v6] [] (0, 0) (LAY, RFu r, mem) := by
  refine r_iload hP d1_60 rfl ?_
  refine r_aload_n hP d1_62 rfl ?_
  refine r_geti hP d1_63 fr_0_44 rfl ly_3 ?_
  refine r_isub hP d1_66 ?_
  exact r_iret hP d1_67 rfl k
theorem d2_0 : decode (xB 2) 0 = .ok (.aload_n 0, 1) := by decide +kernel
theorem d2_1 : decode (xB 2) 1 = .ok (.getfield 11, 3) := by decide +kernel
theorem d2_4 : decode (xB 2) 4 = .ok (.iconst 0, 1) := by decide +kernel
theorem d2_5 : decode (xB 2) 5 = .ok (.iconst 0, 1) := by decide +kernel
theorem d2_6 : decode (xB 2) 6 = .ok (.iastore, 1) := by decide +kernel
theorem d2_7 : decode (xB 2) 7 = .ok (.aload_n 0, 1) := by decide +kernel
theorem d2_8 : decode (xB 2) 8 = .ok (.getfield 15, 3) := by decide +kernel
theorem d2_11 : decode (xB 2) 11 = .ok (.iconst 0, 1) := by decide +kernel
theorem d2_12 : decode (xB 2) 12 = .ok (.iconst 0, 1) := by decide +kernel
theorem d2_13 : decode (xB 2) 13 = .ok (.iastore, 1) := by decide +kernel
theorem d2_14 : decode (xB 2) 14 = .ok (.iconst 1, 1) := by decide +kernel
theorem d2_15 : decode (xB 2) 15 = .ok (.istore_n 2, 1) := by decide +kernel
theorem d2_16 : decode (xB 2) 16 = .ok (.iload_n 2, 1) := by decide +kernel
theorem d2_17 : decode (xB 2) 17 = .ok (.sipush 256, 3) := by decide +kernel
theorem d2_20 : decode (xB 2) 20 = .ok (.if_icmp .ge 107, 3) := by decide +kernel
theorem d2_23 : decode (xB 2) 23 = .ok (.iconst 0, 1) := by decide +kernel
theorem d2_24 : decode (xB 2) 24 = .ok (.istore_n 3, 1) := by decide +kernel
theorem d2_25 : decode (xB 2) 25 = .ok (.iconst 0, 1) := by decide +kernel
theorem d2_26 : decode (xB 2) 26 = .ok (.istore 4, 2) := by decide +kernel
theorem d2_28 : decode (xB 2) 28 = .ok (.iload 4, 2) := by decide +kernel
theorem d2_30 : decode (xB 2) 30 = .ok (.bipush 8, 2) := by decide +kernel
theorem d2_32 : decode (xB 2) 32 = .ok (.if_icmp .ge 67, 3) := by decide +kernel
theorem d2_35 : decode (xB 2) 35 = .ok (.iload_n 2, 1) := by decide +kernel
theorem d2_36 : decode (xB 2) 36 = .ok (.iload 4, 2) := by decide +kernel
theorem d2_38 : decode (xB 2) 38 = .ok (.ishr, 1) := by decide +kernel
theorem d2_39 : decode (xB 2) 39 = .ok (.iconst 1, 1) := by decide +kernel
theorem d2_40 : decode (xB 2) 40 = .ok (.iand, 1) := by decide +kernel
theorem d2_41 : decode (xB 2) 41 = .ok (.iconst 1, 1) := by decide +kernel
theorem d2_42 : decode (xB 2) 42 = .ok (.if_icmp .ne 51, 3) := by decide +kernel
theorem d2_45 : decode (xB 2) 45 = .ok (.iload_n 3, 1) := by decide +kernel
theorem d2_46 : decode (xB 2) 46 = .ok (.aload_n 0, 1) := by decide +kernel
theorem d2_47 : decode (xB 2) 47 = .ok (.getfield 15, 3) := by decide +kernel
theorem d2_50 : decode (xB 2) 50 = .ok (.iload_n 2, 1) := by decide +kernel
theorem d2_51 : decode (xB 2) 51 = .ok (.iconst 1, 1) := by decide +kernel
theorem d2_52 : decode (xB 2) 52 = .ok (.iload 4, 2) := by decide +kernel
theorem d2_54 : decode (xB 2) 54 = .ok (.ishl, 1) := by decide +kernel
theorem d2_55 : decode (xB 2) 55 = .ok (.iconst (-1), 1) := by decide +kernel
theorem d2_56 : decode (xB 2) 56 = .ok (.ixor, 1) := by decide +kernel
theorem d2_57 : decode (xB 2) 57 = .ok (.iand, 1) := by decide +kernel
theorem d2_58 : decode (xB 2) 58 = .ok (.iaload, 1) := by decide +kernel
theorem d2_59 : decode (xB 2) 59 = .ok (.invokestatic 48, 3) := by decide +kernel
theorem d2_62 : decode (xB 2) 62 = .ok (.istore_n 3, 1) := by decide +kernel
theorem d2_63 : decode (xB 2) 63 = .ok (.aload_n 0, 1) := by decide +kernel
theorem d2_64 : decode (xB 2) 64 = .ok (.getfield 11, 3) := by decide +kernel
theorem d2_67 : decode (xB 2) 67 = .ok (.iload_n 2, 1) := by decide +kernel
theorem d2_68 : decode (xB 2) 68 = .ok (.aload_n 0, 1) := by decide +kernel
theorem d2_69 : decode (xB 2) 69 = .ok (.getfield 11, 3) := by decide +kernel
theorem d2_72 : decode (xB 2) 72 = .ok (.iload_n 2, 1) := by decide +kernel
theorem d2_73 : decode (xB 2) 73 = .ok (.iconst 1, 1) := by decide +kernel
theorem d2_74 : decode (xB 2) 74 = .ok (.iload 4, 2) := by decide +kernel
theorem d2_76 : decode (xB 2) 76 = .ok (.ishl, 1) := by decide +kernel
theorem d2_77 : decode (xB 2) 77 = .ok (.iconst (-1), 1) := by decide +kernel
theorem d2_78 : decode (xB 2) 78 = .ok (.ixor, 1) := by decide +kernel
theorem d2_79 : decode (xB 2) 79 = .ok (.iand, 1) := by decide +kernel
theorem d2_80 : decode (xB 2) 80 = .ok (.iaload, 1) := by decide +kernel
theorem d2_81 : decode (xB 2) 81 = .ok (.aload_n 1, 1) := by decide +kernel
theorem d2_82 : decode (xB 2) 82 = .ok (.getfield 54, 3) := by decide +kernel
theorem d2_85 : decode (xB 2) 85 = .ok (.bipush 48, 2) := by decide +kernel
theorem d2_87 : decode (xB 2) 87 = .ok (.iload 4, 2) := by decide +kernel
theorem d2_89 : decode (xB 2) 89 = .ok (.iadd, 1) := by decide +kernel
theorem d2_90 : decode (xB 2) 90 = .ok (.iaload, 1) := by decide +kernel
theorem d2_91 : decode (xB 2) 91 = .ok (.iadd, 1) := by decide +kernel
theorem d2_92 : decode (xB 2) 92 = .ok (.iastore, 1) := by decide +kernel
theorem d2_93 : decode (xB 2) 93 = .ok (.iinc 4 1, 3) := by decide +kernel
theorem d2_96 : decode (xB 2) 96 = .ok (.goto (-68), 3) := by decide +kernel
theorem d2_99 : decode (xB 2) 99 = .ok (.aload_n 0, 1) := by decide +kernel
theorem d2_100 : decode (xB 2) 100 = .ok (.getfield 15, 3) := by decide +kernel
theorem d2_103 : decode (xB 2) 103 = .ok (.iload_n 2, 1) := by decide +kernel
theorem d2_104 : decode (xB 2) 104 = .ok (.aload_n 0, 1) := by decide +kernel
theorem d2_105 : decode (xB 2) 105 = .ok (.getfield 11, 3) := by decide +kernel
theorem d2_108 : decode (xB 2) 108 = .ok (.iload_n 2, 1) := by decide +kernel
theorem d2_109 : decode (xB 2) 109 = .ok (.iaload, 1) := by decide +kernel
theorem d2_110 : decode (xB 2) 110 = .ok (.ifCond .ne 9, 3) := by decide +kernel
theorem d2_113 : decode (xB 2) 113 = .ok (.iload_n 3, 1) := by decide +kernel
theorem d2_114 : decode (xB 2) 114 = .ok (.iconst 1, 1) := by decide +kernel
theorem d2_115 : decode (xB 2) 115 = .ok (.iadd, 1) := by decide +kernel
theorem d2_116 : decode (xB 2) 116 = .ok (.goto 4, 3) := by decide +kernel
theorem d2_119 : decode (xB 2) 119 = .ok (.iload_n 3, 1) := by decide +kernel
theorem d2_120 : decode (xB 2) 120 = .ok (.iastore, 1) := by decide +kernel
theorem d2_121 : decode (xB 2) 121 = .ok (.iinc 2 1, 3) := by decide +kernel
theorem d2_124 : decode (xB 2) 124 = .ok (.goto (-108), 3) := by decide +kernel
theorem d2_127 : decode (xB 2) 127 = .ok (.return_, 1) := by decide +kernel
theorem b2_0 {d : Nat} {P : xPr} {Q : xQr} {r : Nat} {mem : Nat → Nat → Int32} (hP : Cl d none 2 P Q) {s : Nat} (hs : isState s) (hi6 : vp_in (nI 0) 256) (hi13 : vp_in (nI 0) 256)
    (k : P 16 [.ref 78, .ref s, .int (nI 1), .null, .null] [] (0, 0) (LAY, RFu r, xu2 (xu2 mem 79 (nI 0).toNatClampNeg (nI 0)) 80 (nI 0).toNatClampNeg (nI 0))) : P 0 [.ref 78, .ref s, .null, .null, .null] [] (0, 0) (LAY, RFu r, mem) := by
  refine r_aload_n hP d2_0 rfl ?_
  refine r_getr (a := 79) hP d2_1 fr_0_11 rfl ly_78 rg_78_0 ?_
  refine r_iconst (v := nI 0) hP d2_4 rfl ?_
  refine r_iconst (v := nI 0) hP d2_5 rfl ?_
  refine r_iastore hP d2_6 ly_79 hi6 ?_
  refine r_aload_n hP d2_7 rfl ?_
  refine r_getr (a := 80) hP d2_8 fr_0_15 rfl ly_78 rg_78_1 ?_
  refine r_iconst (v := nI 0) hP d2_11 rfl ?_
  refine r_iconst (v := nI 0) hP d2_12 rfl ?_
  refine r_iastore hP d2_13 ly_80 hi13 ?_
  refine r_iconst (v := nI 1) hP d2_14 rfl ?_
  refine r_istore_n (L' := [.ref 78, .ref s, .int (nI 1), .null, .null]) hP d2_15 (Nat.le_of_ble_eq_true rfl) rfl ?_
  exact k
theorem b2_16 {d : Nat} {P : xPr} {Q : xQr} {r : Nat} {mem : Nat → Nat → Int32} (hP : Cl d none 2 P Q) {s : Nat} {x2 : Int32} {v3 : Value} {v4 : Value} (hs : isState s)
    (kt : (nI 256) ≤ x2 → P 127 [.ref 78, .ref s, .int x2, v3, v4] [] (0, 0) (LAY, RFu r, mem)) (kf : ¬ (nI 256) ≤ x2 → P 23 [.ref 78, .ref s, .int x2, v3, v4] [] (0, 0) (LAY, RFu r, mem)) : P 16 [.ref 78, .ref s, .int x2, v3, v4] [] (0, 0) (LAY, RFu r, mem) := by
  refine r_iload_n hP d2_16 rfl ?_
  refine r_sipush (v := nI 256) hP d2_17 rfl ?_
  exact r_icmp (t := 127) hP d2_20 (by decide) kt kf
theorem b2_23 {d : Nat} {P : xPr} {Q : xQr} {r : Nat} {mem : Nat → Nat → Int32} (hP : Cl d none 2 P Q) {s : Nat} {x2 : Int32} {v3 : Value} {v4 : Value} (hs : isState s)
    (k : P 28 [.ref 78, .ref s, .int x2, .int (nI 0), .int (nI 0)] [] (0, 0) (LAY, RFu r, mem)) : P 23 [.ref 78, .ref s, .int x2, v3, v4] [] (0, 0) (LAY, RFu r, mem) := by
  refine r_iconst (v := nI 0) hP d2_23 rfl ?_
  refine r_istore_n (L' := [.ref 78, .ref s, .int x2, .int (nI 0), v4]) hP d2_24 (Nat.le_of_ble_eq_true rfl) rfl ?_
  refine r_iconst (v := nI 0) hP d2_25 rfl ?_
  refine r_istore (L' := [.ref 78, .ref s, .int x2, .int (nI 0), .int (nI 0)]) hP d2_26 (Nat.le_of_ble_eq_true rfl) rfl ?_
  exact k
theorem b2_28 {d : Nat} {P : xPr} {Q : xQr} {r : Nat} {mem : Nat → Nat → Int32} (hP : Cl d none 2 P Q) {s : Nat} {x2 : Int32} {x3 : Int32} {x4 : Int32} (hs : isState s)
    (kt : (nI 8) ≤ x4 → P 99 [.ref 78, .ref s, .int x2, .int x3, .int x4] [] (0, 0) (LAY, RFu r, mem)) (kf : ¬ (nI 8) ≤ x4 → P 35 [.ref 78, .ref s, .int x2, .int x3, .int x4] [] (0, 0) (LAY, RFu r, mem)) : P 28 [.ref 78, .ref s, .int x2, .int x3, .int x4] [] (0, 0) (LAY, RFu r, mem) := by
  refine r_iload hP d2_28 rfl ?_
  refine r_bipush (v := nI 8) hP d2_30 rfl ?_
  exact r_icmp (t := 99) hP d2_32 (by decide) kt kf
theorem b2_35 {d : Nat} {P : xPr} {Q : xQr} {r : Nat} {mem : Nat → Nat → Int32} (hP : Cl d none 2 P Q) {s : Nat} {x2 : Int32} {x3 : Int32} {x4 : Int32} (hs : isState s)
    (kt : ¬ ((x2 >>> (x4 &&& 31)) &&& (nI 1)) = (nI 1) → P 93 [.ref 78, .ref s, .int x2, .int x3, .int x4] [] (0, 0) (LAY, RFu r, mem)) (kf : ((x2 >>> (x4 &&& 31)) &&& (nI 1)) = (nI 1) → P 45 [.ref 78, .ref s, .int x2, .int x3, .int x4] [] (0, 0) (LAY, RFu r, mem)) : P 35 [.ref 78, .ref s, .int x2, .int x3, .int x4] [] (0, 0) (LAY, RFu r, mem) := by
  refine r_iload_n hP d2_35 rfl ?_
  refine r_iload hP d2_36 rfl ?_
  refine r_ishr hP d2_38 ?_
  refine r_iconst (v := nI 1) hP d2_39 rfl ?_
  refine r_iand hP d2_40 ?_
  refine r_iconst (v := nI 1) hP d2_41 rfl ?_
  exact r_icmp (t := 93) hP d2_42 (by decide) kt (fun q => kf (Decidable.of_not_not q))
theorem b2_45 {d : Nat} {P : xPr} {Q : xQr} {r : Nat} {mem : Nat → Nat → Int32} (hP : Cl d none 2 P Q) {s : Nat} {x2 : Int32} {x3 : Int32} {x4 : Int32} (hs : isState s) (hi58 : vp_in (x2 &&& (((nI 1) <<< (x4 &&& 31)) ^^^ (-1))) 256) (hi80 : vp_in (x2 &&& (((nI 1) <<< (x4 &&& 31)) ^^^ (-1))) 256) (hi90 : vp_in ((nI 48) + x4) 121) (hi92 : vp_in x2 256)
    (k : P 93 [.ref 78, .ref s, .int x2, .int (if x3 < mem 80 (x2 &&& (((nI 1) <<< (x4 &&& 31)) ^^^ (-1))).toNatClampNeg then mem 80 (x2 &&& (((nI 1) <<< (x4 &&& 31)) ^^^ (-1))).toNatClampNeg else x3), .int x4] [] (0, 0) (LAY, RFu r, xu2 mem 79 x2.toNatClampNeg ((mem 79 (x2 &&& (((nI 1) <<< (x4 &&& 31)) ^^^ (-1))).toNatClampNeg) + (mem (s + 1) ((nI 48) + x4).toNatClampNeg)))) : P 45 [.ref 78, .ref s, .int x2, .int x3, .int x4] [] (0, 0) (LAY, RFu r, mem) := by
  refine r_iload_n hP d2_45 rfl ?_
  refine r_aload_n hP d2_46 rfl ?_
  refine r_getr (a := 80) hP d2_47 fr_0_15 rfl ly_78 rg_78_1 ?_
  refine r_iload_n hP d2_50 rfl ?_
  refine r_iconst (v := nI 1) hP d2_51 rfl ?_
  refine r_iload hP d2_52 rfl ?_
  refine r_ishl hP d2_54 ?_
  refine r_iconst (v := (-1)) hP d2_55 rfl ?_
  refine r_ixor hP d2_56 ?_
  refine r_iand hP d2_57 ?_
  refine r_iaload hP d2_58 ly_80 hi58 ?_
  refine r_max hP d2_59 cr_0_48 (by decide) ?_
  refine r_istore_n (L' := [.ref 78, .ref s, .int x2, .int (if x3 < mem 80 (x2 &&& (((nI 1) <<< (x4 &&& 31)) ^^^ (-1))).toNatClampNeg then mem 80 (x2 &&& (((nI 1) <<< (x4 &&& 31)) ^^^ (-1))).toNatClampNeg else x3), .int x4]) hP d2_62 (Nat.le_of_ble_eq_true rfl) rfl ?_
  refine r_aload_n hP d2_63 rfl ?_
  refine r_getr (a := 79) hP d2_64 fr_0_11 rfl ly_78 rg_78_0 ?_
  refine r_iload_n hP d2_67 rfl ?_
  refine r_aload_n hP d2_68 rfl ?_
  refine r_getr (a := 79) hP d2_69 fr_0_11 rfl ly_78 rg_78_0 ?_
  refine r_iload_n hP d2_72 rfl ?_
  refine r_iconst (v := nI 1) hP d2_73 rfl ?_
  refine r_iload hP d2_74 rfl ?_
  refine r_ishl hP d2_76 ?_
  refine r_iconst (v := (-1)) hP d2_77 rfl ?_
  refine r_ixor hP d2_78 ?_
  refine r_iand hP d2_79 ?_
  refine r_iaload hP d2_80 ly_79 hi80 ?_
  refine r_aload_n hP d2_81 rfl ?_
  refine r_getr (a := (s + 1)) hP d2_82 fr_0_54 rfl (lt_8 hs) (rt_8_0 hs) ?_
  refine r_bipush (v := nI 48) hP d2_85 rfl ?_
  refine r_iload hP d2_87 rfl ?_
  refine r_iadd hP d2_89 ?_
  refine r_iaload hP d2_90 (lt_8_0 hs) hi90 ?_
  refine r_iadd hP d2_91 ?_
  refine r_iastore hP d2_92 ly_79 hi92 ?_
  exact k
theorem b2_93 {d : Nat} {P : xPr} {Q : xQr} {r : Nat} {mem : Nat → Nat → Int32} (hP : Cl d none 2 P Q) {s : Nat} {x2 : Int32} {x3 : Int32} {x4 : Int32} (hs : isState s)
    (k : P 28 [.ref 78, .ref s, .int x2, .int x3, .int (x4 + nI 1)] [] (0, 0) (LAY, RFu r, mem)) : P 93 [.ref 78, .ref s, .int x2, .int x3, .int x4] [] (0, 0) (LAY, RFu r, mem) := by
  refine r_iinc (v := nI 1) (L' := [.ref 78, .ref s, .int x2, .int x3, .int (x4 + nI 1)]) hP d2_93 rfl rfl rfl ?_
  refine r_goto (t := 28) hP d2_96 (by decide) ?_
  exact k
theorem b2_99 {d : Nat} {P : xPr} {Q : xQr} {r : Nat} {mem : Nat → Nat → Int32} (hP : Cl d none 2 P Q) {s : Nat} {x2 : Int32} {x3 : Int32} {v4 : Value} (hs : isState s) (hi109 : vp_in x2 256)
    (kt : ¬ (mem 79 x2.toNatClampNeg) = 0 → P 119 [.ref 78, .ref s, .int x2, .int x3, v4] [.int x2, .ref 80] (0, 0) (LAY, RFu r, mem)) (kf : (mem 79 x2.toNatClampNeg) = 0 → P 113 [.ref 78, .ref s, .int x2, .int x3, v4] [.int x2, .ref 80] (0, 0) (LAY, RFu r, mem)) : P 99 [.ref 78, .ref s, .int x2, .int x3, v4] [] (0, 0) (LAY, RFu r, mem) := by
  refine r_aload_n hP d2_99 rfl ?_
  refine r_getr (a := 80) hP d2_100 fr_0_15 rfl ly_78 rg_78_1 ?_
  refine r_iload_n hP d2_103 rfl ?_
  refine r_aload_n hP d2_104 rfl ?_
  refine r_getr (a := 79) hP d2_105 fr_0_11 rfl ly_78 rg_78_0 ?_
  refine r_iload_n hP d2_108 rfl ?_
  refine r_iaload hP d2_109 ly_79 hi109 ?_
  exact r_if (t := 119) hP d2_110 (by decide) kt (fun q => kf (Decidable.of_not_not q))
theorem b2_113 {d : Nat} {P : xPr} {Q : xQr} {r : Nat} {mem : Nat → Nat → Int32} (hP : Cl d none 2 P Q) {s : Nat} {x2 : Int32} {x3 : Int32} {v4 : Value} {y1 : Int32} (hs : isState s)
    (k : P 120 [.ref 78, .ref s, .int x2, .int x3, v4] [.int (x3 + (nI 1)), .int y1, .ref 80] (0, 0) (LAY, RFu r, mem)) : P 113 [.ref 78, .ref s, .int x2, .int x3, v4] [.int y1, .ref 80] (0, 0) (LAY, RFu r, mem) := by
  refine r_iload_n hP d2_113 rfl ?_
  refine r_iconst (v := nI 1) hP d2_114 rfl ?_
  refine r_iadd hP d2_115 ?_
  refine r_goto (t := 120) hP d2_116 (by decide) ?_
  exact k
theorem b2_119 {d : Nat} {P : xPr} {Q : xQr} {r : Nat} {mem : Nat → Nat → Int32} (hP : Cl d none 2 P Q) {s : Nat} {x2 : Int32} {x3 : Int32} {v4 : Value} {y1 : Int32} (hs : isState s)
    (k : P 120 [.ref 78, .ref s, .int x2, .int x3, v4] [.int x3, .int y1, .ref 80] (0, 0) (LAY, RFu r, mem)) : P 119 [.ref 78, .ref s, .int x2, .int x3, v4] [.int y1, .ref 80] (0, 0) (LAY, RFu r, mem) := by
  refine r_iload_n hP d2_119 rfl ?_
  exact k
theorem b2_120 {d : Nat} {P : xPr} {Q : xQr} {r : Nat} {mem : Nat → Nat → Int32} (hP : Cl d none 2 P Q) {s : Nat} {x2 : Int32} {v3 : Value} {v4 : Value} {y1 : Int32} {y2 : Int32} (hs : isState s) (hi120 : vp_in y1 256)
    (k : P 16 [.ref 78, .ref s, .int (x2 + nI 1), v3, v4] [] (0, 0) (LAY, RFu r, xu2 mem 80 y1.toNatClampNeg y2)) : P 120 [.ref 78, .ref s, .int x2, v3, v4] [.int y2, .int y1, .ref 80] (0, 0) (LAY, RFu r, mem) := by
  refine r_iastore hP d2_120 ly_80 hi120 ?_
  refine r_iinc (v := nI 1) (L' := [.ref 78, .ref s, .int (x2 + nI 1), v3, v4]) hP d2_121 rfl rfl rfl ?_
  refine r_goto (t := 16) hP d2_124 (by decide) ?_
  exact k
theorem b2_127 {d : Nat} {P : xPr} {Q : xQr} {r : Nat} {mem : Nat → Nat → Int32} (hP : Cl d none 2 P Q) {s : Nat} {v0 : Value} {v1 : Value} {v2 : Value} {v3 : Value} {v4 : Value} (hs : isState s)
    (k : Q none (LAY, RFu r, mem)) : P 127 [v0, v1, v2, v3, v4] [] (0, 0) (LAY, RFu r, mem) := by
  exact r_vret hP d2_127 rfl k
theorem d3_0 : decode (xB 3) 0 = .ok (.iconst 0, 1) := by decide +kernel
theorem d3_1 : decode (xB 3) 1 = .ok (.istore_n 1, 1) := by decide +kernel
theorem d3_2 : decode (xB 3) 2 = .ok (.iconst 0, 1) := by decide +kernel
theorem d3_3 : decode (xB 3) 3 = .ok (.istore_n 2, 1) := by decide +kernel
theorem d3_4 : decode (xB 3) 4 = .ok (.iload_n 2, 1) := by decide +kernel
theorem d3_5 : decode (xB 3) 5 = .ok (.bipush 8, 2) := by decide +kernel
theorem d3_7 : decode (xB 3) 7 = .ok (.if_icmp .ge 27, 3) := by decide +kernel
theorem d3_10 : decode (xB 3) 10 = .ok (.aload_n 0, 1) := by decide +kernel
theorem d3_11 : decode (xB 3) 11 = .ok (.getfield 54, 3) := by decide +kernel
theorem d3_14 : decode (xB 3) 14 = .ok (.bipush 48, 2) := by decide +kernel
theorem d3_16 : decode (xB 3) 16 = .ok (.iload_n 2, 1) := by decide +kernel
theorem d3_17 : decode (xB 3) 17 = .ok (.iadd, 1) := by decide +kernel
theorem d3_18 : decode (xB 3) 18 = .ok (.iaload, 1) := by decide +kernel
theorem d3_19 : decode (xB 3) 19 = .ok (.ifCond .eq 9, 3) := by decide +kernel
theorem d3_22 : decode (xB 3) 22 = .ok (.iload_n 1, 1) := by decide +kernel
theorem d3_23 : decode (xB 3) 23 = .ok (.iconst 1, 1) := by decide +kernel
theorem d3_24 : decode (xB 3) 24 = .ok (.iload_n 2, 1) := by decide +kernel
theorem d3_25 : decode (xB 3) 25 = .ok (.ishl, 1) := by decide +kernel
theorem d3_26 : decode (xB 3) 26 = .ok (.ior, 1) := by decide +kernel
theorem d3_27 : decode (xB 3) 27 = .ok (.istore_n 1, 1) := by decide +kernel
theorem d3_28 : decode (xB 3) 28 = .ok (.iinc 2 1, 3) := by decide +kernel
theorem d3_31 : decode (xB 3) 31 = .ok (.goto (-27), 3) := by decide +kernel
theorem d3_34 : decode (xB 3) 34 = .ok (.iload_n 1, 1) := by decide +kernel
theorem d3_35 : decode (xB 3) 35 = .ok (.ireturn, 1) := by decide +kernel
theorem b3_0 {d : Nat} {P : xPr} {Q : xQr} {r : Nat} {mem : Nat → Nat → Int32} (hP : Cl d none 3 P Q) {s : Nat} (hs : isState s)
    (k : P 4 [.ref s, .int (nI 0), .int (nI 0)] [] (0, 0) (LAY, RFu r, mem)) : P 0 [.ref s, .null, .null] [] (0, 0) (LAY, RFu r, mem) := by
  refine r_iconst (v := nI 0) hP d3_0 rfl ?_
  refine r_istore_n (L' := [.ref s, .int (nI 0), .null]) hP d3_1 (Nat.le_of_ble_eq_true rfl) rfl ?_
  refine r_iconst (v := nI 0) hP d3_2 rfl ?_
  refine r_istore_n (L' := [.ref s, .int (nI 0), .int (nI 0)]) hP d3_3 (Nat.le_of_ble_eq_true rfl) rfl ?_
  exact k
theorem b3_4 {d : Nat} {P : xPr} {Q : xQr} {r : Nat} {mem : Nat → Nat → Int32} (hP : Cl d none 3 P Q) {s : Nat} {x1 : Int32} {x2 : Int32} (hs : isState s)
    (kt : (nI 8) ≤ x2 → P 34 [.ref s, .int x1, .int x2] [] (0, 0) (LAY, RFu r, mem)) (kf : ¬ (nI 8) ≤ x2 → P 10 [.ref s, .int x1, .int x2] [] (0, 0) (LAY, RFu r, mem)) : P 4 [.ref s, .int x1, .int x2] [] (0, 0) (LAY, RFu r, mem) := by
  refine r_iload_n hP d3_4 rfl ?_
  refine r_bipush (v := nI 8) hP d3_5 rfl ?_
  exact r_icmp (t := 34) hP d3_7 (by decide) kt kf
theorem b3_10 {d : Nat} {P : xPr} {Q : xQr} {r : Nat} {mem : Nat → Nat → Int32} (hP : Cl d none 3 P Q) {s : Nat} {x1 : Int32} {x2 : Int32} (hs : isState s) (hi18 : vp_in ((nI 48) + x2) 121)
    (kt : (mem (s + 1) ((nI 48) + x2).toNatClampNeg) = 0 → P 28 [.ref s, .int x1, .int x2] [] (0, 0) (LAY, RFu r, mem)) (kf : ¬ (mem (s + 1) ((nI 48) + x2).toNatClampNeg) = 0 → P 22 [.ref s, .int x1, .int x2] [] (0, 0) (LAY, RFu r, mem)) : P 10 [.ref s, .int x1, .int x2] [] (0, 0) (LAY, RFu r, mem) := by
  refine r_aload_n hP d3_10 rfl ?_
  refine r_getr (a := (s + 1)) hP d3_11 fr_0_54 rfl (lt_8 hs) (rt_8_0 hs) ?_
  refine r_bipush (v := nI 48) hP d3_14 rfl ?_
  refine r_iload_n hP d3_16 rfl ?_
  refine r_iadd hP d3_17 ?_
  refine r_iaload hP d3_18 (lt_8_0 hs) hi18 ?_
  exact r_if (t := 28) hP d3_19 (by decide) kt kf
theorem b3_22 {d : Nat} {P : xPr} {Q : xQr} {r : Nat} {mem : Nat → Nat → Int32} (hP : Cl d none 3 P Q) {s : Nat} {x1 : Int32} {x2 : Int32} (hs : isState s)
    (k : P 28 [.ref s, .int (x1 ||| ((nI 1) <<< (x2 &&& 31))), .int x2] [] (0, 0) (LAY, RFu r, mem)) : P 22 [.ref s, .int x1, .int x2] [] (0, 0) (LAY, RFu r, mem) := by
  refine r_iload_n hP d3_22 rfl ?_
  refine r_iconst (v := nI 1) hP d3_23 rfl ?_
  refine r_iload_n hP d3_24 rfl ?_
  refine r_ishl hP d3_25 ?_
  refine r_ior hP d3_26 ?_
  refine r_istore_n (L' := [.ref s, .int (x1 ||| ((nI 1) <<< (x2 &&& 31))), .int x2]) hP d3_27 (Nat.le_of_ble_eq_true rfl) rfl ?_
  exact k
theorem b3_28 {d : Nat} {P : xPr} {Q : xQr} {r : Nat} {mem : Nat → Nat → Int32} (hP : Cl d none 3 P Q) {s : Nat} {x1 : Int32} {x2 : Int32} (hs : isState s)
    (k : P 4 [.ref s, .int x1, .int (x2 + nI 1)] [] (0, 0) (LAY, RFu r, mem)) : P 28 [.ref s, .int x1, .int x2] [] (0, 0) (LAY, RFu r, mem) := by
  refine r_iinc (v := nI 1) (L' := [.ref s, .int x1, .int (x2 + nI 1)]) hP d3_28 rfl rfl rfl ?_
  refine r_goto (t := 4) hP d3_31 (by decide) ?_
  exact k
theorem b3_34 {d : Nat} {P : xPr} {Q : xQr} {r : Nat} {mem : Nat → Nat → Int32} (hP : Cl d none 3 P Q) {s : Nat} {v0 : Value} {x1 : Int32} {v2 : Value} (hs : isState s)
    (k : Q (some (.int x1)) (LAY, RFu r, mem)) : P 34 [v0, .int x1, v2] [] (0, 0) (LAY, RFu r, mem) := by
  refine r_iload_n hP d3_34 rfl ?_
  exact r_iret hP d3_35 rfl k
theorem d4_0 : decode (xB 4) 0 = .ok (.iload_n 1, 1) := by decide +kernel
theorem d4_1 : decode (xB 4) 1 = .ok (.iload_n 1, 1) := by decide +kernel
theorem d4_2 : decode (xB 4) 2 = .ok (.ineg, 1) := by decide +kernel
theorem d4_3 : decode (xB 4) 3 = .ok (.iand, 1) := by decide +kernel
theorem d4_4 : decode (xB 4) 4 = .ok (.istore_n 2, 1) := by decide +kernel
theorem d4_5 : decode (xB 4) 5 = .ok (.iload_n 2, 1) := by decide +kernel
theorem d4_6 : decode (xB 4) 6 = .ok (.istore_n 3, 1) := by decide +kernel
theorem d4_7 : decode (xB 4) 7 = .ok (.iload_n 3, 1) := by decide +kernel
theorem d4_8 : decode (xB 4) 8 = .ok (.iload_n 1, 1) := by decide +kernel
theorem d4_9 : decode (xB 4) 9 = .ok (.if_icmp .ge 67, 3) := by decide +kernel
theorem d4_12 : decode (xB 4) 12 = .ok (.iload_n 3, 1) := by decide +kernel
theorem d4_13 : decode (xB 4) 13 = .ok (.iload_n 1, 1) := by decide +kernel
theorem d4_14 : decode (xB 4) 14 = .ok (.iconst (-1), 1) := by decide +kernel
theorem d4_15 : decode (xB 4) 15 = .ok (.ixor, 1) := by decide +kernel
theorem d4_16 : decode (xB 4) 16 = .ok (.iand, 1) := by decide +kernel
theorem d4_17 : decode (xB 4) 17 = .ok (.ifCond .ne 13, 3) := by decide +kernel
theorem d4_20 : decode (xB 4) 20 = .ok (.iload_n 3, 1) := by decide +kernel
theorem d4_21 : decode (xB 4) 21 = .ok (.iload_n 2, 1) := by decide +kernel
theorem d4_22 : decode (xB 4) 22 = .ok (.iand, 1) := by decide +kernel
theorem d4_23 : decode (xB 4) 23 = .ok (.ifCond .eq 7, 3) := by decide +kernel
theorem d4_26 : decode (xB 4) 26 = .ok (.iconst 1, 1) := by decide +kernel
theorem d4_27 : decode (xB 4) 27 = .ok (.goto 4, 3) := by decide +kernel
theorem d4_30 : decode (xB 4) 30 = .ok (.iconst 0, 1) := by decide +kernel
theorem d4_31 : decode (xB 4) 31 = .ok (.istore 4, 2) := by decide +kernel
theorem d4_33 : decode (xB 4) 33 = .ok (.iload 4, 2) := by decide +kernel
theorem d4_35 : decode (xB 4) 35 = .ok (.ifCond .eq 35, 3) := by decide +kernel
theorem d4_38 : decode (xB 4) 38 = .ok (.aload_n 0, 1) := by decide +kernel
theorem d4_39 : decode (xB 4) 39 = .ok (.getfield 11, 3) := by decide +kernel
theorem d4_42 : decode (xB 4) 42 = .ok (.iload_n 3, 1) := by decide +kernel
theorem d4_43 : decode (xB 4) 43 = .ok (.iaload, 1) := by decide +kernel
theorem d4_44 : decode (xB 4) 44 = .ok (.ifCond .ne 26, 3) := by decide +kernel
theorem d4_47 : decode (xB 4) 47 = .ok (.aload_n 0, 1) := by decide +kernel
theorem d4_48 : decode (xB 4) 48 = .ok (.getfield 15, 3) := by decide +kernel
theorem d4_51 : decode (xB 4) 51 = .ok (.iload_n 1, 1) := by decide +kernel
theorem d4_52 : decode (xB 4) 52 = .ok (.iload_n 3, 1) := by decide +kernel
theorem d4_53 : decode (xB 4) 53 = .ok (.iconst (-1), 1) := by decide +kernel
theorem d4_54 : decode (xB 4) 54 = .ok (.ixor, 1) := by decide +kernel
theorem d4_55 : decode (xB 4) 55 = .ok (.iand, 1) := by decide +kernel
theorem d4_56 : decode (xB 4) 56 = .ok (.iaload, 1) := by decide +kernel
theorem d4_57 : decode (xB 4) 57 = .ok (.aload_n 0, 1) := by decide +kernel
theorem d4_58 : decode (xB 4) 58 = .ok (.getfield 15, 3) := by decide +kernel
theorem d4_61 : decode (xB 4) 61 = .ok (.iload_n 1, 1) := by decide +kernel
theorem d4_62 : decode (xB 4) 62 = .ok (.iaload, 1) := by decide +kernel
theorem d4_63 : decode (xB 4) 63 = .ok (.iconst 1, 1) := by decide +kernel
theorem d4_64 : decode (xB 4) 64 = .ok (.isub, 1) := by decide +kernel
theorem d4_65 : decode (xB 4) 65 = .ok (.if_icmp .ne 5, 3) := by decide +kernel
theorem d4_68 : decode (xB 4) 68 = .ok (.iload_n 3, 1) := by decide +kernel
theorem d4_69 : decode (xB 4) 69 = .ok (.ireturn, 1) := by decide +kernel
theorem d4_70 : decode (xB 4) 70 = .ok (.iinc 3 1, 3) := by decide +kernel
theorem d4_73 : decode (xB 4) 73 = .ok (.goto (-66), 3) := by decide +kernel
theorem d4_76 : decode (xB 4) 76 = .ok (.iload_n 1, 1) := by decide +kernel
theorem d4_77 : decode (xB 4) 77 = .ok (.ireturn, 1) := by decide +kernel
theorem b4_0 {d : Nat} {P : xPr} {Q : xQr} {r : Nat} {mem : Nat → Nat → Int32} (hP : Cl d none 4 P Q) {p0 : Int32}
    (k : P 7 [.ref 78, .int p0, .int (p0 &&& (-p0)), .int (p0 &&& (-p0)), .null] [] (0, 0) (LAY, RFu r, mem)) : P 0 [.ref 78, .int p0, .null, .null, .null] [] (0, 0) (LAY, RFu r, mem) := by
  refine r_iload_n hP d4_0 rfl ?_
  refine r_iload_n hP d4_1 rfl ?_
  refine r_ineg hP d4_2 ?_
  refine r_iand hP d4_3 ?_
  refine r_istore_n (L' := [.ref 78, .int p0, .int (p0 &&& (-p0)), .null, .null]) hP d4_4 (Nat.le_of_ble_eq_true rfl) rfl ?_
  refine r_iload_n hP d4_5 rfl ?_
  refine r_istore_n (L' := [.ref 78, .int p0, .int (p0 &&& (-p0)), .int (p0 &&& (-p0)), .null]) hP d4_6 (Nat.le_of_ble_eq_true rfl) rfl ?_
  exact k
theorem b4_7 {d : Nat} {P : xPr} {Q : xQr} {r : Nat} {mem : Nat → Nat → Int32} (hP : Cl d none 4 P Q) {x1 : Int32} {x2 : Int32} {x3 : Int32} {v4 : Value}
    (kt : x1 ≤ x3 → P 76 [.ref 78, .int x1, .int x2, .int x3, v4] [] (0, 0) (LAY, RFu r, mem)) (kf : ¬ x1 ≤ x3 → P 12 [.ref 78, .int x1, .int x2, .int x3, v4] [] (0, 0) (LAY, RFu r, mem)) : P 7 [.ref 78, .int x1, .int x2, .int x3, v4] [] (0, 0) (LAY, RFu r, mem) := by
  refine r_iload_n hP d4_7 rfl ?_
  refine r_iload_n hP d4_8 rfl ?_
  exact r_icmp (t := 76) hP d4_9 (by decide) kt kf
theorem b4_12 {d : Nat} {P : xPr} {Q : xQr} {r : Nat} {mem : Nat → Nat → Int32} (hP : Cl d none 4 P Q) {x1 : Int32} {x2 : Int32} {x3 : Int32} {v4 : Value}
    (kt : ¬ (x3 &&& (x1 ^^^ (-1))) = 0 → P 30 [.ref 78, .int x1, .int x2, .int x3, v4] [] (0, 0) (LAY, RFu r, mem)) (kf : (x3 &&& (x1 ^^^ (-1))) = 0 → P 20 [.ref 78, .int x1, .int x2, .int x3, v4] [] (0, 0) (LAY, RFu r, mem)) : P 12 [.ref 78, .int x1, .int x2, .int x3, v4] [] (0, 0) (LAY, RFu r, mem) := by
  refine r_iload_n hP d4_12 rfl ?_
  refine r_iload_n hP d4_13 rfl ?_
  refine r_iconst (v := (-1)) hP d4_14 rfl ?_
  refine r_ixor hP d4_15 ?_
  refine r_iand hP d4_16 ?_
  exact r_if (t := 30) hP d4_17 (by decide) kt (fun q => kf (Decidable.of_not_not q))
theorem b4_20 {d : Nat} {P : xPr} {Q : xQr} {r : Nat} {mem : Nat → Nat → Int32} (hP : Cl d none 4 P Q) {x1 : Int32} {x2 : Int32} {x3 : Int32} {v4 : Value}
    (kt : (x3 &&& x2) = 0 → P 30 [.ref 78, .int x1, .int x2, .int x3, v4] [] (0, 0) (LAY, RFu r, mem)) (kf : ¬ (x3 &&& x2) = 0 → P 26 [.ref 78, .int x1, .int x2, .int x3, v4] [] (0, 0) (LAY, RFu r, mem)) : P 20 [.ref 78, .int x1, .int x2, .int x3, v4] [] (0, 0) (LAY, RFu r, mem) := by
  refine r_iload_n hP d4_20 rfl ?_
  refine r_iload_n hP d4_21 rfl ?_
  refine r_iand hP d4_22 ?_
  exact r_if (t := 30) hP d4_23 (by decide) kt kf
theorem b4_26 {d : Nat} {P : xPr} {Q : xQr} {r : Nat} {mem : Nat → Nat → Int32} (hP : Cl d none 4 P Q) {x1 : Int32} {x2 : Int32} {x3 : Int32} {v4 : Value}
    (k : P 31 [.ref 78, .int x1, .int x2, .int x3, v4] [.int (nI 1)] (0, 0) (LAY, RFu r, mem)) : P 26 [.ref 78, .int x1, .int x2, .int x3, v4] [] (0, 0) (LAY, RFu r, mem) := by
  refine r_iconst (v := nI 1) hP d4_26 rfl ?_
  refine r_goto (t := 31) hP d4_27 (by decide) ?_
  exact k
theorem b4_30 {d : Nat} {P : xPr} {Q : xQr} {r : Nat} {mem : Nat → Nat → Int32} (hP : Cl d none 4 P Q) {x1 : Int32} {x2 : Int32} {x3 : Int32} {v4 : Value}
    (k : P 31 [.ref 78, .int x1, .int x2, .int x3, v4] [.int (nI 0)] (0, 0) (LAY, RFu r, mem)) : P 30 [.ref 78, .int x1, .int x2, .int x3, v4] [] (0, 0) (LAY, RFu r, mem) := by
  refine r_iconst (v := nI 0) hP d4_30 rfl ?_
  exact k
theorem b4_31 {d : Nat} {P : xPr} {Q : xQr} {r : Nat} {mem : Nat → Nat → Int32} (hP : Cl d none 4 P Q) {x1 : Int32} {x2 : Int32} {x3 : Int32} {v4 : Value} {y0 : Int32}
    (kt : y0 = 0 → P 70 [.ref 78, .int x1, .int x2, .int x3, .int y0] [] (0, 0) (LAY, RFu r, mem)) (kf : ¬ y0 = 0 → P 38 [.ref 78, .int x1, .int x2, .int x3, .int y0] [] (0, 0) (LAY, RFu r, mem)) : P 31 [.ref 78, .int x1, .int x2, .int x3, v4] [.int y0] (0, 0) (LAY, RFu r, mem) := by
  refine r_istore (L' := [.ref 78, .int x1, .int x2, .int x3, .int y0]) hP d4_31 (Nat.le_of_ble_eq_true rfl) rfl ?_
  refine r_iload hP d4_33 rfl ?_
  exact r_if (t := 70) hP d4_35 (by decide) kt kf
theorem b4_38 {d : Nat} {P : xPr} {Q : xQr} {r : Nat} {mem : Nat → Nat → Int32} (hP : Cl d none 4 P Q) {x1 : Int32} {x2 : Int32} {x3 : Int32} {v4 : Value} (hi43 : vp_in x3 256)
    (kt : ¬ (mem 79 x3.toNatClampNeg) = 0 → P 70 [.ref 78, .int x1, .int x2, .int x3, v4] [] (0, 0) (LAY, RFu r, mem)) (kf : (mem 79 x3.toNatClampNeg) = 0 → P 47 [.ref 78, .int x1, .int x2, .int x3, v4] [] (0, 0) (LAY, RFu r, mem)) : P 38 [.ref 78, .int x1, .int x2, .int x3, v4] [] (0, 0) (LAY, RFu r, mem) := by
  refine r_aload_n hP d4_38 rfl ?_
  refine r_getr (a := 79) hP d4_39 fr_0_11 rfl ly_78 rg_78_0 ?_
  refine r_iload_n hP d4_42 rfl ?_
  refine r_iaload hP d4_43 ly_79 hi43 ?_
  exact r_if (t := 70) hP d4_44 (by decide) kt (fun q => kf (Decidable.of_not_not q))
theorem b4_47 {d : Nat} {P : xPr} {Q : xQr} {r : Nat} {mem : Nat → Nat → Int32} (hP : Cl d none 4 P Q) {x1 : Int32} {x2 : Int32} {x3 : Int32} {v4 : Value} (hi56 : vp_in (x1 &&& (x3 ^^^ (-1))) 256) (hi62 : vp_in x1 256)
    (kt : ¬ (mem 80 (x1 &&& (x3 ^^^ (-1))).toNatClampNeg) = ((mem 80 x1.toNatClampNeg) - (nI 1)) → P 70 [.ref 78, .int x1, .int x2, .int x3, v4] [] (0, 0) (LAY, RFu r, mem)) (kf : (mem 80 (x1 &&& (x3 ^^^ (-1))).toNatClampNeg) = ((mem 80 x1.toNatClampNeg) - (nI 1)) → P 68 [.ref 78, .int x1, .int x2, .int x3, v4] [] (0, 0) (LAY, RFu r, mem)) : P 47 [.ref 78, .int x1, .int x2, .int x3, v4] [] (0, 0) (LAY, RFu r, mem) := by
  refine r_aload_n hP d4_47 rfl ?_
  refine r_getr (a := 80) hP d4_48 fr_0_15 rfl ly_78 rg_78_1 ?_
  refine r_iload_n hP d4_51 rfl ?_
  refine r_iload_n hP d4_52 rfl ?_
  refine r_iconst (v := (-1)) hP d4_53 rfl ?_
  refine r_ixor hP d4_54 ?_
  refine r_iand hP d4_55 ?_
  refine r_iaload hP d4_56 ly_80 hi56 ?_
  refine r_aload_n hP d4_57 rfl ?_
  refine r_getr (a := 80) hP d4_58 fr_0_15 rfl ly_78 rg_78_1 ?_
  refine r_iload_n hP d4_61 rfl ?_
  refine r_iaload hP d4_62 ly_80 hi62 ?_
  refine r_iconst (v := nI 1) hP d4_63 rfl ?_
  refine r_isub hP d4_64 ?_
  exact r_icmp (t := 70) hP d4_65 (by decide) kt (fun q => kf (Decidable.of_not_not q))
theorem b4_68 {d : Nat} {P : xPr} {Q : xQr} {r : Nat} {mem : Nat → Nat → Int32} (hP : Cl d none 4 P Q) {v0 : Value} {v1 : Value} {v2 : Value} {x3 : Int32} {v4 : Value}
    (k : Q (some (.int x3)) (LAY, RFu r, mem)) : P 68 [v0, v1, v2, .int x3, v4] [] (0, 0) (LAY, RFu r, mem) := by
  refine r_iload_n hP d4_68 rfl ?_
  exact r_iret hP d4_69 rfl k
theorem b4_70 {d : Nat} {P : xPr} {Q : xQr} {r : Nat} {mem : Nat → Nat → Int32} (hP : Cl d none 4 P Q) {x1 : Int32} {x2 : Int32} {x3 : Int32} {v4 : Value}
    (k : P 7 [.ref 78, .int x1, .int x2, .int (x3 + nI 1), v4] [] (0, 0) (LAY, RFu r, mem)) : P 70 [.ref 78, .int x1, .int x2, .int x3, v4] [] (0, 0) (LAY, RFu r, mem) := by
  refine r_iinc (v := nI 1) (L' := [.ref 78, .int x1, .int x2, .int (x3 + nI 1), v4]) hP d4_70 rfl rfl rfl ?_
  refine r_goto (t := 7) hP d4_73 (by decide) ?_
  exact k
theorem b4_76 {d : Nat} {P : xPr} {Q : xQr} {r : Nat} {mem : Nat → Nat → Int32} (hP : Cl d none 4 P Q) {v0 : Value} {x1 : Int32} {v2 : Value} {v3 : Value} {v4 : Value}
    (k : Q (some (.int x1)) (LAY, RFu r, mem)) : P 76 [v0, .int x1, v2, v3, v4] [] (0, 0) (LAY, RFu r, mem) := by
  refine r_iload_n hP d4_76 rfl ?_
  exact r_iret hP d4_77 rfl k
theorem d5_0 : decode (xB 5) 0 = .ok (.iconst 0, 1) := by decide +kernel
theorem d5_1 : decode (xB 5) 1 = .ok (.istore_n 3, 1) := by decide +kernel
theorem d5_2 : decode (xB 5) 2 = .ok (.iconst 0, 1) := by decide +kernel
theorem d5_3 : decode (xB 5) 3 = .ok (.istore 4, 2) := by decide +kernel
theorem d5_5 : decode (xB 5) 5 = .ok (.iconst 0, 1) := by decide +kernel
theorem d5_6 : decode (xB 5) 6 = .ok (.istore 5, 2) := by decide +kernel
theorem d5_8 : decode (xB 5) 8 = .ok (.iload 5, 2) := by decide +kernel
theorem d5_10 : decode (xB 5) 10 = .ok (.bipush 8, 2) := by decide +kernel
theorem d5_12 : decode (xB 5) 12 = .ok (.if_icmp .ge 125, 3) := by decide +kernel
theorem d5_15 : decode (xB 5) 15 = .ok (.iconst 0, 1) := by decide +kernel
theorem d5_16 : decode (xB 5) 16 = .ok (.istore 6, 2) := by decide +kernel
theorem d5_18 : decode (xB 5) 18 = .ok (.iconst 0, 1) := by decide +kernel
theorem d5_19 : decode (xB 5) 19 = .ok (.istore 7, 2) := by decide +kernel
theorem d5_21 : decode (xB 5) 21 = .ok (.iconst 1, 1) := by decide +kernel
theorem d5_22 : decode (xB 5) 22 = .ok (.istore 8, 2) := by decide +kernel
theorem d5_24 : decode (xB 5) 24 = .ok (.iload 8, 2) := by decide +kernel
theorem d5_26 : decode (xB 5) 26 = .ok (.bipush 8, 2) := by decide +kernel
theorem d5_28 : decode (xB 5) 28 = .ok (.if_icmp .ge 57, 3) := by decide +kernel
theorem d5_31 : decode (xB 5) 31 = .ok (.aload_n 1, 1) := by decide +kernel
theorem d5_32 : decode (xB 5) 32 = .ok (.iload 8, 2) := by decide +kernel
theorem d5_34 : decode (xB 5) 34 = .ok (.invokestatic 59, 3) := by decide +kernel
theorem d5_37 : decode (xB 5) 37 = .ok (.aload_n 1, 1) := by decide +kernel
theorem d5_38 : decode (xB 5) 38 = .ok (.iload 6, 2) := by decide +kernel
theorem d5_40 : decode (xB 5) 40 = .ok (.invokestatic 59, 3) := by decide +kernel
theorem d5_43 : decode (xB 5) 43 = .ok (.if_icmp .ge 8, 3) := by decide +kernel
theorem d5_46 : decode (xB 5) 46 = .ok (.iload 8, 2) := by decide +kernel
theorem d5_48 : decode (xB 5) 48 = .ok (.goto 5, 3) := by decide +kernel
theorem d5_51 : decode (xB 5) 51 = .ok (.iload 6, 2) := by decide +kernel
theorem d5_53 : decode (xB 5) 53 = .ok (.istore 6, 2) := by decide +kernel
theorem d5_55 : decode (xB 5) 55 = .ok (.aload_n 1, 1) := by decide +kernel
theorem d5_56 : decode (xB 5) 56 = .ok (.iload 8, 2) := by decide +kernel
theorem d5_58 : decode (xB 5) 58 = .ok (.invokestatic 59, 3) := by decide +kernel
theorem d5_61 : decode (xB 5) 61 = .ok (.aload_n 1, 1) := by decide +kernel
theorem d5_62 : decode (xB 5) 62 = .ok (.iload 7, 2) := by decide +kernel
theorem d5_64 : decode (xB 5) 64 = .ok (.invokestatic 59, 3) := by decide +kernel
theorem d5_67 : decode (xB 5) 67 = .ok (.if_icmp .le 8, 3) := by decide +kernel
theorem d5_70 : decode (xB 5) 70 = .ok (.iload 8, 2) := by decide +kernel
theorem d5_72 : decode (xB 5) 72 = .ok (.goto 5, 3) := by decide +kernel
theorem d5_75 : decode (xB 5) 75 = .ok (.iload 7, 2) := by decide +kernel
theorem d5_77 : decode (xB 5) 77 = .ok (.istore 7, 2) := by decide +kernel
theorem d5_79 : decode (xB 5) 79 = .ok (.iinc 8 1, 3) := by decide +kernel
theorem d5_82 : decode (xB 5) 82 = .ok (.goto (-58), 3) := by decide +kernel
theorem d5_85 : decode (xB 5) 85 = .ok (.aload_n 1, 1) := by decide +kernel
theorem d5_86 : decode (xB 5) 86 = .ok (.iload 6, 2) := by decide +kernel
theorem d5_88 : decode (xB 5) 88 = .ok (.invokestatic 59, 3) := by decide +kernel
theorem d5_91 : decode (xB 5) 91 = .ok (.ineg, 1) := by decide +kernel
theorem d5_92 : decode (xB 5) 92 = .ok (.aload_n 1, 1) := by decide +kernel
theorem d5_93 : decode (xB 5) 93 = .ok (.iload 7, 2) := by decide +kernel
theorem d5_95 : decode (xB 5) 95 = .ok (.invokestatic 59, 3) := by decide +kernel
theorem d5_98 : decode (xB 5) 98 = .ok (.invokestatic 63, 3) := by decide +kernel
theorem d5_101 : decode (xB 5) 101 = .ok (.istore 8, 2) := by decide +kernel
theorem d5_103 : decode (xB 5) 103 = .ok (.iload 8, 2) := by decide +kernel
theorem d5_105 : decode (xB 5) 105 = .ok (.ifCond .gt 6, 3) := by decide +kernel
theorem d5_108 : decode (xB 5) 108 = .ok (.goto 29, 3) := by decide +kernel
theorem d5_111 : decode (xB 5) 111 = .ok (.aload_n 1, 1) := by decide +kernel
theorem d5_112 : decode (xB 5) 112 = .ok (.iload 6, 2) := by decide +kernel
theorem d5_114 : decode (xB 5) 114 = .ok (.iload 7, 2) := by decide +kernel
theorem d5_116 : decode (xB 5) 116 = .ok (.iload 8, 2) := by decide +kernel
theorem d5_118 : decode (xB 5) 118 = .ok (.invokevirtual 66, 3) := by decide +kernel
theorem d5_121 : decode (xB 5) 121 = .ok (.iinc 3 1, 3) := by decide +kernel
theorem d5_124 : decode (xB 5) 124 = .ok (.iload 4, 2) := by decide +kernel
theorem d5_126 : decode (xB 5) 126 = .ok (.iload 8, 2) := by decide +kernel
theorem d5_128 : decode (xB 5) 128 = .ok (.iadd, 1) := by decide +kernel
theorem d5_129 : decode (xB 5) 129 = .ok (.istore 4, 2) := by decide +kernel
theorem d5_131 : decode (xB 5) 131 = .ok (.iinc 5 1, 3) := by decide +kernel
theorem d5_134 : decode (xB 5) 134 = .ok (.goto (-126), 3) := by decide +kernel
theorem d5_137 : decode (xB 5) 137 = .ok (.aload_n 2, 1) := by decide +kernel
theorem d5_138 : decode (xB 5) 138 = .ok (.invokevirtual 32, 3) := by decide +kernel
theorem d5_141 : decode (xB 5) 141 = .ok (.aload_n 2, 1) := by decide +kernel
theorem d5_142 : decode (xB 5) 142 = .ok (.iload 4, 2) := by decide +kernel
theorem d5_144 : decode (xB 5) 144 = .ok (.invokevirtual 40, 3) := by decide +kernel
theorem d5_147 : decode (xB 5) 147 = .ok (.iload_n 3, 1) := by decide +kernel
theorem d5_148 : decode (xB 5) 148 = .ok (.ireturn, 1) := by decide +kernel
theorem b5_0 {d : Nat} {P : xPr} {Q : xQr} {r : Nat} {mem : Nat → Nat → Int32} (hP : Cl d none 5 P Q) {s : Nat} (hs : isState s)
    (k : P 8 [.ref 78, .ref s, .ref 3, .int (nI 0), .int (nI 0), .int (nI 0), .null, .null, .null] [] (0, 0) (LAY, RFu r, mem)) : P 0 [.ref 78, .ref s, .ref 3, .null, .null, .null, .null, .null, .null] [] (0, 0) (LAY, RFu r, mem) := by
  refine r_iconst (v := nI 0) hP d5_0 rfl ?_
  refine r_istore_n (L' := [.ref 78, .ref s, .ref 3, .int (nI 0), .null, .null, .null, .null, .null]) hP d5_1 (Nat.le_of_ble_eq_true rfl) rfl ?_
  refine r_iconst (v := nI 0) hP d5_2 rfl ?_
  refine r_istore (L' := [.ref 78, .ref s, .ref 3, .int (nI 0), .int (nI 0), .null, .null, .null, .null]) hP d5_3 (Nat.le_of_ble_eq_true rfl) rfl ?_
  refine r_iconst (v := nI 0) hP d5_5 rfl ?_
  refine r_istore (L' := [.ref 78, .ref s, .ref 3, .int (nI 0), .int (nI 0), .int (nI 0), .null, .null, .null]) hP d5_6 (Nat.le_of_ble_eq_true rfl) rfl ?_
  exact k
theorem b5_8 {d : Nat} {P : xPr} {Q : xQr} {r : Nat} {mem : Nat → Nat → Int32} (hP : Cl d none 5 P Q) {s : Nat} {v0 : Value} {x3 : Int32} {x4 : Int32} {x5 : Int32} {v6 : Value} {v7 : Value} {v8 : Value} (hs : isState s)
    (kt : (nI 8) ≤ x5 → P 137 [v0, .ref s, .ref 3, .int x3, .int x4, .int x5, v6, v7, v8] [] (0, 0) (LAY, RFu r, mem)) (kf : ¬ (nI 8) ≤ x5 → P 15 [v0, .ref s, .ref 3, .int x3, .int x4, .int x5, v6, v7, v8] [] (0, 0) (LAY, RFu r, mem)) : P 8 [v0, .ref s, .ref 3, .int x3, .int x4, .int x5, v6, v7, v8] [] (0, 0) (LAY, RFu r, mem) := by
  refine r_iload hP d5_8 rfl ?_
  refine r_bipush (v := nI 8) hP d5_10 rfl ?_
  exact r_icmp (t := 137) hP d5_12 (by decide) kt kf
theorem b5_15 {d : Nat} {P : xPr} {Q : xQr} {r : Nat} {mem : Nat → Nat → Int32} (hP : Cl d none 5 P Q) {s : Nat} {v0 : Value} {x3 : Int32} {x4 : Int32} {x5 : Int32} {v6 : Value} {v7 : Value} {v8 : Value} (hs : isState s)
    (k : P 24 [v0, .ref s, .ref 3, .int x3, .int x4, .int x5, .int (nI 0), .int (nI 0), .int (nI 1)] [] (0, 0) (LAY, RFu r, mem)) : P 15 [v0, .ref s, .ref 3, .int x3, .int x4, .int x5, v6, v7, v8] [] (0, 0) (LAY, RFu r, mem) := by
  refine r_iconst (v := nI 0) hP d5_15 rfl ?_
  refine r_istore (L' := [v0, .ref s, .ref 3, .int x3, .int x4, .int x5, .int (nI 0), v7, v8]) hP d5_16 (Nat.le_of_ble_eq_true rfl) rfl ?_
  refine r_iconst (v := nI 0) hP d5_18 rfl ?_
  refine r_istore (L' := [v0, .ref s, .ref 3, .int x3, .int x4, .int x5, .int (nI 0), .int (nI 0), v8]) hP d5_19 (Nat.le_of_ble_eq_true rfl) rfl ?_
  refine r_iconst (v := nI 1) hP d5_21 rfl ?_
  refine r_istore (L' := [v0, .ref s, .ref 3, .int x3, .int x4, .int x5, .int (nI 0), .int (nI 0), .int (nI 1)]) hP d5_22 (Nat.le_of_ble_eq_true rfl) rfl ?_
  exact k
theorem b5_24 {d : Nat} {P : xPr} {Q : xQr} {r : Nat} {mem : Nat → Nat → Int32} (hP : Cl d none 5 P Q) {s : Nat} {v0 : Value} {x3 : Int32} {x4 : Int32} {x5 : Int32} {x6 : Int32} {x7 : Int32} {x8 : Int32} (hs : isState s)
    (kt : (nI 8) ≤ x8 → P 85 [v0, .ref s, .ref 3, .int x3, .int x4, .int x5, .int x6, .int x7, .int x8] [] (0, 0) (LAY, RFu r, mem)) (kf : ¬ (nI 8) ≤ x8 → P 31 [v0, .ref s, .ref 3, .int x3, .int x4, .int x5, .int x6, .int x7, .int x8] [] (0, 0) (LAY, RFu r, mem)) : P 24 [v0, .ref s, .ref 3, .int x3, .int x4, .int x5, .int x6, .int x7, .int x8] [] (0, 0) (LAY, RFu r, mem) := by
  refine r_iload hP d5_24 rfl ?_
  refine r_bipush (v := nI 8) hP d5_26 rfl ?_
  exact r_icmp (t := 85) hP d5_28 (by decide) kt kf
theorem b5_31 {d : Nat} {P : xPr} {Q : xQr} {r : Nat} {mem : Nat → Nat → Int32} (hP : Cl d none 5 P Q) {s : Nat} {v0 : Value} {x3 : Int32} {x4 : Int32} {x5 : Int32} {x6 : Int32} {x7 : Int32} {x8 : Int32} (hs : isState s)
    (k : xCall d 6 [.ref s, .int x8] (LAY, RFu r, mem) (Bk P 34 [v0, .ref s, .ref 3, .int x3, .int x4, .int x5, .int x6, .int x7, .int x8] [] (0, 0))) : P 31 [v0, .ref s, .ref 3, .int x3, .int x4, .int x5, .int x6, .int x7, .int x8] [] (0, 0) (LAY, RFu r, mem) := by
  refine r_aload_n hP d5_31 rfl ?_
  refine r_iload hP d5_32 rfl ?_
  exact r_calls (As := [.ref s, .int x8]) (S := []) hP d5_34 cr_0_59 (by decide +kernel) rfl (by simp [Value.category]) rfl (by simp [Value.category]) ⟨Nat.zero_le _, Nat.zero_le _⟩ k
theorem b5_37 {d : Nat} {P : xPr} {Q : xQr} {r : Nat} {mem : Nat → Nat → Int32} (hP : Cl d none 5 P Q) {s : Nat} {v0 : Value} {x3 : Int32} {x4 : Int32} {x5 : Int32} {x6 : Int32} {x7 : Int32} {x8 : Int32} {y0 : Int32} (hs : isState s)
    (k : xCall d 6 [.ref s, .int x6] (LAY, RFu r, mem) (Bk P 40 [v0, .ref s, .ref 3, .int x3, .int x4, .int x5, .int x6, .int x7, .int x8] [.int y0] (0, 0))) : P 37 [v0, .ref s, .ref 3, .int x3, .int x4, .int x5, .int x6, .int x7, .int x8] [.int y0] (0, 0) (LAY, RFu r, mem) := by
  refine r_aload_n hP d5_37 rfl ?_
  refine r_iload hP d5_38 rfl ?_
  exact r_calls (As := [.ref s, .int x6]) (S := [.int y0]) hP d5_40 cr_0_59 (by decide +kernel) rfl (by simp [Value.category]) rfl (by simp [Value.category]) ⟨Nat.zero_le _, Nat.zero_le _⟩ k
theorem b5_43 {d : Nat} {P : xPr} {Q : xQr} {r : Nat} {mem : Nat → Nat → Int32} (hP : Cl d none 5 P Q) {s : Nat} {v0 : Value} {x3 : Int32} {x4 : Int32} {x5 : Int32} {x6 : Int32} {x7 : Int32} {x8 : Int32} {y0 : Int32} {y1 : Int32} (hs : isState s)
    (kt : y1 ≤ y0 → P 51 [v0, .ref s, .ref 3, .int x3, .int x4, .int x5, .int x6, .int x7, .int x8] [] (0, 0) (LAY, RFu r, mem)) (kf : ¬ y1 ≤ y0 → P 46 [v0, .ref s, .ref 3, .int x3, .int x4, .int x5, .int x6, .int x7, .int x8] [] (0, 0) (LAY, RFu r, mem)) : P 43 [v0, .ref s, .ref 3, .int x3, .int x4, .int x5, .int x6, .int x7, .int x8] [.int y1, .int y0] (0, 0) (LAY, RFu r, mem) := by
  exact r_icmp (t := 51) hP d5_43 (by decide) kt kf
theorem b5_46 {d : Nat} {P : xPr} {Q : xQr} {r : Nat} {mem : Nat → Nat → Int32} (hP : Cl d none 5 P Q) {s : Nat} {v0 : Value} {x3 : Int32} {x4 : Int32} {x5 : Int32} {v6 : Value} {x7 : Int32} {x8 : Int32} (hs : isState s)
    (k : P 53 [v0, .ref s, .ref 3, .int x3, .int x4, .int x5, v6, .int x7, .int x8] [.int x8] (0, 0) (LAY, RFu r, mem)) : P 46 [v0, .ref s, .ref 3, .int x3, .int x4, .int x5, v6, .int x7, .int x8] [] (0, 0) (LAY, RFu r, mem) := by
  refine r_iload hP d5_46 rfl ?_
  refine r_goto (t := 53) hP d5_48 (by decide) ?_
  exact k
theorem b5_51 {d : Nat} {P : xPr} {Q : xQr} {r : Nat} {mem : Nat → Nat → Int32} (hP : Cl d none 5 P Q) {s : Nat} {v0 : Value} {x3 : Int32} {x4 : Int32} {x5 : Int32} {x6 : Int32} {x7 : Int32} {x8 : Int32} (hs : isState s)
    (k : P 53 [v0, .ref s, .ref 3, .int x3, .int x4, .int x5, .int x6, .int x7, .int x8] [.int x6] (0, 0) (LAY, RFu r, mem)) : P 51 [v0, .ref s, .ref 3, .int x3, .int x4, .int x5, .int x6, .int x7, .int x8] [] (0, 0) (LAY, RFu r, mem) := by
  refine r_iload hP d5_51 rfl ?_
  exact k
theorem b5_53 {d : Nat} {P : xPr} {Q : xQr} {r : Nat} {mem : Nat → Nat → Int32} (hP : Cl d none 5 P Q) {s : Nat} {v0 : Value} {x3 : Int32} {x4 : Int32} {x5 : Int32} {v6 : Value} {x7 : Int32} {x8 : Int32} {y0 : Int32} (hs : isState s)
    (k : xCall d 6 [.ref s, .int x8] (LAY, RFu r, mem) (Bk P 58 [v0, .ref s, .ref 3, .int x3, .int x4, .int x5, .int y0, .int x7, .int x8] [] (0, 0))) : P 53 [v0, .ref s, .ref 3, .int x3, .int x4, .int x5, v6, .int x7, .int x8] [.int y0] (0, 0) (LAY, RFu r, mem) := by
  refine r_istore (L' := [v0, .ref s, .ref 3, .int x3, .int x4, .int x5, .int y0, .int x7, .int x8]) hP d5_53 (Nat.le_of_ble_eq_true rfl) rfl ?_
  refine r_aload_n hP d5_55 rfl ?_
  refine r_iload hP d5_56 rfl ?_
  exact r_calls (As := [.ref s, .int x8]) (S := []) hP d5_58 cr_0_59 (by decide +kernel) rfl (by simp [Value.category]) rfl (by simp [Value.category]) ⟨Nat.zero_le _, Nat.zero_le _⟩ k
theorem b5_61 {d : Nat} {P : xPr} {Q : xQr} {r : Nat} {mem : Nat → Nat → Int32} (hP : Cl d none 5 P Q) {s : Nat} {v0 : Value} {x3 : Int32} {x4 : Int32} {x5 : Int32} {x6 : Int32} {x7 : Int32} {x8 : Int32} {y0 : Int32} (hs : isState s)
    (k : xCall d 6 [.ref s, .int x7] (LAY, RFu r, mem) (Bk P 64 [v0, .ref s, .ref 3, .int x3, .int x4, .int x5, .int x6, .int x7, .int x8] [.int y0] (0, 0))) : P 61 [v0, .ref s, .ref 3, .int x3, .int x4, .int x5, .int x6, .int x7, .int x8] [.int y0] (0, 0) (LAY, RFu r, mem) := by
  refine r_aload_n hP d5_61 rfl ?_
  refine r_iload hP d5_62 rfl ?_
  exact r_calls (As := [.ref s, .int x7]) (S := [.int y0]) hP d5_64 cr_0_59 (by decide +kernel) rfl (by simp [Value.category]) rfl (by simp [Value.category]) ⟨Nat.zero_le _, Nat.zero_le _⟩ k
theorem b5_67 {d : Nat} {P : xPr} {Q : xQr} {r : Nat} {mem : Nat → Nat → Int32} (hP : Cl d none 5 P Q) {s : Nat} {v0 : Value} {x3 : Int32} {x4 : Int32} {x5 : Int32} {x6 : Int32} {x7 : Int32} {x8 : Int32} {y0 : Int32} {y1 : Int32} (hs : isState s)
    (kt : y0 ≤ y1 → P 75 [v0, .ref s, .ref 3, .int x3, .int x4, .int x5, .int x6, .int x7, .int x8] [] (0, 0) (LAY, RFu r, mem)) (kf : ¬ y0 ≤ y1 → P 70 [v0, .ref s, .ref 3, .int x3, .int x4, .int x5, .int x6, .int x7, .int x8] [] (0, 0) (LAY, RFu r, mem)) : P 67 [v0, .ref s, .ref 3, .int x3, .int x4, .int x5, .int x6, .int x7, .int x8] [.int y1, .int y0] (0, 0) (LAY, RFu r, mem) := by
  exact r_icmp (t := 75) hP d5_67 (by decide) kt kf
theorem b5_70 {d : Nat} {P : xPr} {Q : xQr} {r : Nat} {mem : Nat → Nat → Int32} (hP : Cl d none 5 P Q) {s : Nat} {v0 : Value} {x3 : Int32} {x4 : Int32} {x5 : Int32} {x6 : Int32} {v7 : Value} {x8 : Int32} (hs : isState s)
    (k : P 77 [v0, .ref s, .ref 3, .int x3, .int x4, .int x5, .int x6, v7, .int x8] [.int x8] (0, 0) (LAY, RFu r, mem)) : P 70 [v0, .ref s, .ref 3, .int x3, .int x4, .int x5, .int x6, v7, .int x8] [] (0, 0) (LAY, RFu r, mem) := by
  refine r_iload hP d5_70 rfl ?_
  refine r_goto (t := 77) hP d5_72 (by decide) ?_
  exact k
theorem b5_75 {d : Nat} {P : xPr} {Q : xQr} {r : Nat} {mem : Nat → Nat → Int32} (hP : Cl d none 5 P Q) {s : Nat} {v0 : Value} {x3 : Int32} {x4 : Int32} {x5 : Int32} {x6 : Int32} {x7 : Int32} {x8 : Int32} (hs : isState s)
    (k : P 77 [v0, .ref s, .ref 3, .int x3, .int x4, .int x5, .int x6, .int x7, .int x8] [.int x7] (0, 0) (LAY, RFu r, mem)) : P 75 [v0, .ref s, .ref 3, .int x3, .int x4, .int x5, .int x6, .int x7, .int x8] [] (0, 0) (LAY, RFu r, mem) := by
  refine r_iload hP d5_75 rfl ?_
  exact k
theorem b5_77 {d : Nat} {P : xPr} {Q : xQr} {r : Nat} {mem : Nat → Nat → Int32} (hP : Cl d none 5 P Q) {s : Nat} {v0 : Value} {x3 : Int32} {x4 : Int32} {x5 : Int32} {x6 : Int32} {v7 : Value} {x8 : Int32} {y0 : Int32} (hs : isState s)
    (k : P 24 [v0, .ref s, .ref 3, .int x3, .int x4, .int x5, .int x6, .int y0, .int (x8 + nI 1)] [] (0, 0) (LAY, RFu r, mem)) : P 77 [v0, .ref s, .ref 3, .int x3, .int x4, .int x5, .int x6, v7, .int x8] [.int y0] (0, 0) (LAY, RFu r, mem) := by
  refine r_istore (L' := [v0, .ref s, .ref 3, .int x3, .int x4, .int x5, .int x6, .int y0, .int x8]) hP d5_77 (Nat.le_of_ble_eq_true rfl) rfl ?_
  refine r_iinc (v := nI 1) (L' := [v0, .ref s, .ref 3, .int x3, .int x4, .int x5, .int x6, .int y0, .int (x8 + nI 1)]) hP d5_79 rfl rfl rfl ?_
  refine r_goto (t := 24) hP d5_82 (by decide) ?_
  exact k
theorem b5_85 {d : Nat} {P : xPr} {Q : xQr} {r : Nat} {mem : Nat → Nat → Int32} (hP : Cl d none 5 P Q) {s : Nat} {v0 : Value} {x3 : Int32} {x4 : Int32} {x5 : Int32} {x6 : Int32} {x7 : Int32} {v8 : Value} (hs : isState s)
    (k : xCall d 6 [.ref s, .int x6] (LAY, RFu r, mem) (Bk P 88 [v0, .ref s, .ref 3, .int x3, .int x4, .int x5, .int x6, .int x7, v8] [] (0, 0))) : P 85 [v0, .ref s, .ref 3, .int x3, .int x4, .int x5, .int x6, .int x7, v8] [] (0, 0) (LAY, RFu r, mem) := by
  refine r_aload_n hP d5_85 rfl ?_
  refine r_iload hP d5_86 rfl ?_
  exact r_calls (As := [.ref s, .int x6]) (S := []) hP d5_88 cr_0_59 (by decide +kernel) rfl (by simp [Value.category]) rfl (by simp [Value.category]) ⟨Nat.zero_le _, Nat.zero_le _⟩ k
theorem b5_91 {d : Nat} {P : xPr} {Q : xQr} {r : Nat} {mem : Nat → Nat → Int32} (hP : Cl d none 5 P Q) {s : Nat} {v0 : Value} {x3 : Int32} {x4 : Int32} {x5 : Int32} {x6 : Int32} {x7 : Int32} {v8 : Value} {y0 : Int32} (hs : isState s)
    (k : xCall d 6 [.ref s, .int x7] (LAY, RFu r, mem) (Bk P 95 [v0, .ref s, .ref 3, .int x3, .int x4, .int x5, .int x6, .int x7, v8] [.int (-y0)] (0, 0))) : P 91 [v0, .ref s, .ref 3, .int x3, .int x4, .int x5, .int x6, .int x7, v8] [.int y0] (0, 0) (LAY, RFu r, mem) := by
  refine r_ineg hP d5_91 ?_
  refine r_aload_n hP d5_92 rfl ?_
  refine r_iload hP d5_93 rfl ?_
  exact r_calls (As := [.ref s, .int x7]) (S := [.int (-y0)]) hP d5_95 cr_0_59 (by decide +kernel) rfl (by simp [Value.category]) rfl (by simp [Value.category]) ⟨Nat.zero_le _, Nat.zero_le _⟩ k
theorem b5_98 {d : Nat} {P : xPr} {Q : xQr} {r : Nat} {mem : Nat → Nat → Int32} (hP : Cl d none 5 P Q) {s : Nat} {v0 : Value} {x3 : Int32} {x4 : Int32} {x5 : Int32} {x6 : Int32} {x7 : Int32} {v8 : Value} {y0 : Int32} {y1 : Int32} (hs : isState s)
    (kt : 0 < (if y1 < y0 then y1 else y0) → P 111 [v0, .ref s, .ref 3, .int x3, .int x4, .int x5, .int x6, .int x7, .int (if y1 < y0 then y1 else y0)] [] (0, 0) (LAY, RFu r, mem)) (kf : ¬ 0 < (if y1 < y0 then y1 else y0) → P 108 [v0, .ref s, .ref 3, .int x3, .int x4, .int x5, .int x6, .int x7, .int (if y1 < y0 then y1 else y0)] [] (0, 0) (LAY, RFu r, mem)) : P 98 [v0, .ref s, .ref 3, .int x3, .int x4, .int x5, .int x6, .int x7, v8] [.int y1, .int y0] (0, 0) (LAY, RFu r, mem) := by
  refine r_min hP d5_98 cr_0_63 (by decide) ?_
  refine r_istore (L' := [v0, .ref s, .ref 3, .int x3, .int x4, .int x5, .int x6, .int x7, .int (if y1 < y0 then y1 else y0)]) hP d5_101 (Nat.le_of_ble_eq_true rfl) rfl ?_
  refine r_iload hP d5_103 rfl ?_
  exact r_if (t := 111) hP d5_105 (by decide) kt kf
theorem b5_108 {d : Nat} {P : xPr} {Q : xQr} {r : Nat} {mem : Nat → Nat → Int32} (hP : Cl d none 5 P Q) {s : Nat} {v0 : Value} {v1 : Value} {x3 : Int32} {x4 : Int32} {v5 : Value} {v6 : Value} {v7 : Value} {v8 : Value} (hs : isState s)
    (k : P 137 [v0, v1, .ref 3, .int x3, .int x4, v5, v6, v7, v8] [] (0, 0) (LAY, RFu r, mem)) : P 108 [v0, v1, .ref 3, .int x3, .int x4, v5, v6, v7, v8] [] (0, 0) (LAY, RFu r, mem) := by
  refine r_goto (t := 137) hP d5_108 (by decide) ?_
  exact k
theorem b5_111 {d : Nat} {P : xPr} {Q : xQr} {r : Nat} {mem : Nat → Nat → Int32} (hP : Cl d none 5 P Q) {s : Nat} {v0 : Value} {x3 : Int32} {x4 : Int32} {x5 : Int32} {x6 : Int32} {x7 : Int32} {x8 : Int32} (hs : isState s)
    (k : xCall d 68 [.ref s, .int x6, .int x7, .int x8] (LAY, RFu r, mem) (Bk P 118 [v0, .ref s, .ref 3, .int x3, .int x4, .int x5, .int x6, .int x7, .int x8] [] (0, 0))) : P 111 [v0, .ref s, .ref 3, .int x3, .int x4, .int x5, .int x6, .int x7, .int x8] [] (0, 0) (LAY, RFu r, mem) := by
  refine r_aload_n hP d5_111 rfl ?_
  refine r_iload hP d5_112 rfl ?_
  refine r_iload hP d5_114 rfl ?_
  refine r_iload hP d5_116 rfl ?_
  exact r_callv (As := [.int x6, .int x7, .int x8]) (S := []) hP d5_118 cr_0_66 (by decide +kernel) rfl (by simp [Value.category]) rfl (lt_8 hs) (by simp [Value.category]) ⟨Nat.zero_le _, Nat.zero_le _⟩ k
theorem b5_121 {d : Nat} {P : xPr} {Q : xQr} {r : Nat} {mem : Nat → Nat → Int32} (hP : Cl d none 5 P Q) {s : Nat} {v0 : Value} {x3 : Int32} {x4 : Int32} {x5 : Int32} {v6 : Value} {v7 : Value} {x8 : Int32} (hs : isState s)
    (k : P 8 [v0, .ref s, .ref 3, .int (x3 + nI 1), .int (x4 + x8), .int (x5 + nI 1), v6, v7, .int x8] [] (0, 0) (LAY, RFu r, mem)) : P 121 [v0, .ref s, .ref 3, .int x3, .int x4, .int x5, v6, v7, .int x8] [] (0, 0) (LAY, RFu r, mem) := by
  refine r_iinc (v := nI 1) (L' := [v0, .ref s, .ref 3, .int (x3 + nI 1), .int x4, .int x5, v6, v7, .int x8]) hP d5_121 rfl rfl rfl ?_
  refine r_iload hP d5_124 rfl ?_
  refine r_iload hP d5_126 rfl ?_
  refine r_iadd hP d5_128 ?_
  refine r_istore (L' := [v0, .ref s, .ref 3, .int (x3 + nI 1), .int (x4 + x8), .int x5, v6, v7, .int x8]) hP d5_129 (Nat.le_of_ble_eq_true rfl) rfl ?_
  refine r_iinc (v := nI 1) (L' := [v0, .ref s, .ref 3, .int (x3 + nI 1), .int (x4 + x8), .int (x5 + nI 1), v6, v7, .int x8]) hP d5_131 rfl rfl rfl ?_
  refine r_goto (t := 8) hP d5_134 (by decide) ?_
  exact k
theorem b5_137 {d : Nat} {P : xPr} {Q : xQr} {r : Nat} {mem : Nat → Nat → Int32} (hP : Cl d none 5 P Q) {s : Nat} {v0 : Value} {v1 : Value} {x3 : Int32} {x4 : Int32} {v5 : Value} {v6 : Value} {v7 : Value} {v8 : Value} (hs : isState s)
    (k : xCall d 31 [.ref 3] (LAY, RFu r, mem) (Bk P 138 [v0, v1, .ref 3, .int x3, .int x4, v5, v6, v7, v8] [] (0, 0))) : P 137 [v0, v1, .ref 3, .int x3, .int x4, v5, v6, v7, v8] [] (0, 0) (LAY, RFu r, mem) := by
  refine r_aload_n hP d5_137 rfl ?_
  exact r_callv (As := []) (S := []) hP d5_138 cr_0_32 (by decide +kernel) rfl (by simp) rfl ly_3 (by simp [Value.category]) ⟨Nat.zero_le _, Nat.zero_le _⟩ k
theorem b5_141 {d : Nat} {P : xPr} {Q : xQr} {r : Nat} {mem : Nat → Nat → Int32} (hP : Cl d none 5 P Q) {s : Nat} {v0 : Value} {v1 : Value} {x3 : Int32} {x4 : Int32} {v5 : Value} {v6 : Value} {v7 : Value} {v8 : Value} (hs : isState s)
    (k : xCall d 32 [.ref 3, .int x4] (LAY, RFu r, mem) (Bk P 144 [v0, v1, .ref 3, .int x3, .int x4, v5, v6, v7, v8] [] (0, 0))) : P 141 [v0, v1, .ref 3, .int x3, .int x4, v5, v6, v7, v8] [] (0, 0) (LAY, RFu r, mem) := by
  refine r_aload_n hP d5_141 rfl ?_
  refine r_iload hP d5_142 rfl ?_
  exact r_callv (As := [.int x4]) (S := []) hP d5_144 cr_0_40 (by decide +kernel) rfl (by simp [Value.category]) rfl ly_3 (by simp [Value.category]) ⟨Nat.zero_le _, Nat.zero_le _⟩ k
theorem b5_147 {d : Nat} {P : xPr} {Q : xQr} {r : Nat} {mem : Nat → Nat → Int32} (hP : Cl d none 5 P Q) {s : Nat} {v0 : Value} {v1 : Value} {v2 : Value} {x3 : Int32} {v4 : Value} {v5 : Value} {v6 : Value} {v7 : Value} {v8 : Value} (hs : isState s)
    (k : Q (some (.int x3)) (LAY, RFu r, mem)) : P 147 [v0, v1, v2, .int x3, v4, v5, v6, v7, v8] [] (0, 0) (LAY, RFu r, mem) := by
  refine r_iload_n hP d5_147 rfl ?_
  exact r_iret hP d5_148 rfl k
theorem d6_0 : decode (xB 6) 0 = .ok (.aload_n 0, 1) := by decide +kernel
theorem d6_1 : decode (xB 6) 1 = .ok (.getfield 54, 3) := by decide +kernel
theorem d6_4 : decode (xB 6) 4 = .ok (.bipush 48, 2) := by decide +kernel
theorem d6_6 : decode (xB 6) 6 = .ok (.iload_n 1, 1) := by decide +kernel
theorem d6_7 : decode (xB 6) 7 = .ok (.iadd, 1) := by decide +kernel
theorem d6_8 : decode (xB 6) 8 = .ok (.iaload, 1) := by decide +kernel
theorem d6_9 : decode (xB 6) 9 = .ok (.ireturn, 1) := by decide +kernel
theorem b6_0 {d : Nat} {P : xPr} {Q : xQr} {r : Nat} {mem : Nat → Nat → Int32} (hP : Cl d none 6 P Q) {s : Nat} {p1 : Int32} (hs : isState s) (hi8 : vp_in ((nI 48) + p1) 121)
    (k : Q (some (.int (mem (s + 1) ((nI 48) + p1).toNatClampNeg))) (LAY, RFu r, mem)) : P 0 [.ref s, .int p1] [] (0, 0) (LAY, RFu r, mem) := by
  refine r_aload_n hP d6_0 rfl ?_
  refine r_getr (a := (s + 1)) hP d6_1 fr_0_54 rfl (lt_8 hs) (rt_8_0 hs) ?_
  refine r_bipush (v := nI 48) hP d6_4 rfl ?_
  refine r_iload_n hP d6_6 rfl ?_
  refine r_iadd hP d6_7 ?_
  refine r_iaload hP d6_8 (lt_8_0 hs) hi8 ?_
  exact r_iret hP d6_9 rfl k
theorem d18_0 : decode (xB 18) 0 = .ok (.aload_n 0, 1) := by decide +kernel
theorem d18_1 : decode (xB 18) 1 = .ok (.iconst 0, 1) := by decide +kernel
theorem d18_2 : decode (xB 18) 2 = .ok (.putfield 28, 3) := by decide +kernel
theorem d18_5 : decode (xB 18) 5 = .ok (.aload_n 0, 1) := by decide +kernel
theorem d18_6 : decode (xB 18) 6 = .ok (.getfield 24, 3) := by decide +kernel
theorem d18_9 : decode (xB 18) 9 = .ok (.bipush 60, 2) := by decide +kernel
theorem d18_11 : decode (xB 18) 11 = .ok (.invokevirtual 32, 3) := by decide +kernel
theorem d18_14 : decode (xB 18) 14 = .ok (.aload_n 0, 1) := by decide +kernel
theorem d18_15 : decode (xB 18) 15 = .ok (.getfield 24, 3) := by decide +kernel
theorem d18_18 : decode (xB 18) 18 = .ok (.getfield 38, 3) := by decide +kernel
theorem d18_21 : decode (xB 18) 21 = .ok (.ifCond .ne 5, 3) := by decide +kernel
theorem d18_24 : decode (xB 18) 24 = .ok (.iconst 1, 1) := by decide +kernel
theorem d18_25 : decode (xB 18) 25 = .ok (.ireturn, 1) := by decide +kernel
theorem d18_26 : decode (xB 18) 26 = .ok (.iconst 0, 1) := by decide +kernel
theorem d18_27 : decode (xB 18) 27 = .ok (.istore_n 1, 1) := by decide +kernel
theorem d18_28 : decode (xB 18) 28 = .ok (.iload_n 1, 1) := by decide +kernel
theorem d18_29 : decode (xB 18) 29 = .ok (.bipush 60, 2) := by decide +kernel
theorem d18_31 : decode (xB 18) 31 = .ok (.if_icmp .ge 44, 3) := by decide +kernel
theorem d18_34 : decode (xB 18) 34 = .ok (.aload_n 0, 1) := by decide +kernel
theorem d18_35 : decode (xB 18) 35 = .ok (.iload_n 1, 1) := by decide +kernel
theorem d18_36 : decode (xB 18) 36 = .ok (.invokevirtual 41, 3) := by decide +kernel
theorem d18_39 : decode (xB 18) 39 = .ok (.ifCond .ne 5, 3) := by decide +kernel
theorem d18_42 : decode (xB 18) 42 = .ok (.iconst 0, 1) := by decide +kernel
theorem d18_43 : decode (xB 18) 43 = .ok (.ireturn, 1) := by decide +kernel
theorem d18_44 : decode (xB 18) 44 = .ok (.aload_n 0, 1) := by decide +kernel
theorem d18_45 : decode (xB 18) 45 = .ok (.dup, 1) := by decide +kernel
theorem d18_46 : decode (xB 18) 46 = .ok (.getfield 28, 3) := by decide +kernel
theorem d18_49 : decode (xB 18) 49 = .ok (.iconst 1, 1) := by decide +kernel
theorem d18_50 : decode (xB 18) 50 = .ok (.iadd, 1) := by decide +kernel
theorem d18_51 : decode (xB 18) 51 = .ok (.putfield 28, 3) := by decide +kernel
theorem d18_54 : decode (xB 18) 54 = .ok (.aload_n 0, 1) := by decide +kernel
theorem d18_55 : decode (xB 18) 55 = .ok (.getfield 24, 3) := by decide +kernel
theorem d18_58 : decode (xB 18) 58 = .ok (.bipush 59, 2) := by decide +kernel
theorem d18_60 : decode (xB 18) 60 = .ok (.invokevirtual 45, 3) := by decide +kernel
theorem d18_63 : decode (xB 18) 63 = .ok (.ifCond .ne 6, 3) := by decide +kernel
theorem d18_66 : decode (xB 18) 66 = .ok (.goto 9, 3) := by decide +kernel
theorem d18_69 : decode (xB 18) 69 = .ok (.iinc 1 1, 3) := by decide +kernel
theorem d18_72 : decode (xB 18) 72 = .ok (.goto (-44), 3) := by decide +kernel
theorem d18_75 : decode (xB 18) 75 = .ok (.aload_n 0, 1) := by decide +kernel
theorem d18_76 : decode (xB 18) 76 = .ok (.getfield 24, 3) := by decide +kernel
theorem d18_79 : decode (xB 18) 79 = .ok (.invokevirtual 48, 3) := by decide +kernel
theorem d18_82 : decode (xB 18) 82 = .ok (.ireturn, 1) := by decide +kernel
theorem b18_0 {d : Nat} {P : xPr} {Q : xQr} {r : Nat} {mem : Nat → Nat → Int32} (hP : Cl d none 18 P Q)
    (k : xCall d 74 [.ref 1, .int (nI 60)] (LAY, RFu r, xu2 mem 99 4 (nI 0)) (Bk P 11 [.ref 99, .null] [] (0, 0))) : P 0 [.ref 99, .null] [] (0, 0) (LAY, RFu r, mem) := by
  refine r_aload_n hP d18_0 rfl ?_
  refine r_iconst (v := nI 0) hP d18_1 rfl ?_
  refine r_puti hP d18_2 fr_2_28 rfl (fun q => by cases q) ly_99 ?_
  refine r_aload_n hP d18_5 rfl ?_
  refine r_getr (a := 1) hP d18_6 fr_2_24 rfl ly_99 rg_99_5 ?_
  refine r_bipush (v := nI 60) hP d18_9 rfl ?_
  exact r_callv (As := [.int (nI 60)]) (S := []) hP d18_11 cr_2_32 (by decide +kernel) rfl (by simp [Value.category]) rfl ly_1 (by simp [Value.category]) ⟨Nat.zero_le _, Nat.zero_le _⟩ k
theorem b18_14 {d : Nat} {P : xPr} {Q : xQr} {r : Nat} {mem : Nat → Nat → Int32} (hP : Cl d none 18 P Q) {v1 : Value}
    (kt : ¬ (mem 1 1) = 0 → P 26 [.ref 99, v1] [] (0, 0) (LAY, RFu r, mem)) (kf : (mem 1 1) = 0 → P 24 [.ref 99, v1] [] (0, 0) (LAY, RFu r, mem)) : P 14 [.ref 99, v1] [] (0, 0) (LAY, RFu r, mem) := by
  refine r_aload_n hP d18_14 rfl ?_
  refine r_getr (a := 1) hP d18_15 fr_2_24 rfl ly_99 rg_99_5 ?_
  refine r_geti hP d18_18 fr_2_38 rfl ly_1 ?_
  exact r_if (t := 26) hP d18_21 (by decide) kt (fun q => kf (Decidable.of_not_not q))
theorem b18_24 {d : Nat} {P : xPr} {Q : xQr} {r : Nat} {mem : Nat → Nat → Int32} (hP : Cl d none 18 P Q) {v0 : Value} {v1 : Value} (hzr : nI 1 = 0 ∨ nI 1 = 1)
    (k : Q (some (.int (nI 1))) (LAY, RFu r, mem)) : P 24 [v0, v1] [] (0, 0) (LAY, RFu r, mem) := by
  refine r_iconst (v := nI 1) hP d18_24 rfl ?_
  exact r_zret hP d18_25 rfl hzr k
theorem b18_26 {d : Nat} {P : xPr} {Q : xQr} {r : Nat} {mem : Nat → Nat → Int32} (hP : Cl d none 18 P Q) {v1 : Value}
    (k : P 28 [.ref 99, .int (nI 0)] [] (0, 0) (LAY, RFu r, mem)) : P 26 [.ref 99, v1] [] (0, 0) (LAY, RFu r, mem) := by
  refine r_iconst (v := nI 0) hP d18_26 rfl ?_
  refine r_istore_n (L' := [.ref 99, .int (nI 0)]) hP d18_27 (Nat.le_of_ble_eq_true rfl) rfl ?_
  exact k
theorem b18_28 {d : Nat} {P : xPr} {Q : xQr} {r : Nat} {mem : Nat → Nat → Int32} (hP : Cl d none 18 P Q) {x1 : Int32}
    (kt : (nI 60) ≤ x1 → P 75 [.ref 99, .int x1] [] (0, 0) (LAY, RFu r, mem)) (kf : ¬ (nI 60) ≤ x1 → P 34 [.ref 99, .int x1] [] (0, 0) (LAY, RFu r, mem)) : P 28 [.ref 99, .int x1] [] (0, 0) (LAY, RFu r, mem) := by
  refine r_iload_n hP d18_28 rfl ?_
  refine r_bipush (v := nI 60) hP d18_29 rfl ?_
  exact r_icmp (t := 75) hP d18_31 (by decide) kt kf
theorem b18_34 {d : Nat} {P : xPr} {Q : xQr} {r : Nat} {mem : Nat → Nat → Int32} (hP : Cl d none 18 P Q) {x1 : Int32}
    (k : xCall d 19 [.ref 99, .int x1] (LAY, RFu r, mem) (Bk P 36 [.ref 99, .int x1] [] (0, 0))) : P 34 [.ref 99, .int x1] [] (0, 0) (LAY, RFu r, mem) := by
  refine r_aload_n hP d18_34 rfl ?_
  refine r_iload_n hP d18_35 rfl ?_
  exact r_callv (As := [.int x1]) (S := []) hP d18_36 cr_2_41 (by decide +kernel) rfl (by simp [Value.category]) rfl ly_99 (by simp [Value.category]) ⟨Nat.zero_le _, Nat.zero_le _⟩ k
theorem b18_39 {d : Nat} {P : xPr} {Q : xQr} {r : Nat} {mem : Nat → Nat → Int32} (hP : Cl d none 18 P Q) {x1 : Int32} {y0 : Int32}
    (kt : ¬ y0 = 0 → P 44 [.ref 99, .int x1] [] (0, 0) (LAY, RFu r, mem)) (kf : y0 = 0 → P 42 [.ref 99, .int x1] [] (0, 0) (LAY, RFu r, mem)) : P 39 [.ref 99, .int x1] [.int y0] (0, 0) (LAY, RFu r, mem) := by
  exact r_if (t := 44) hP d18_39 (by decide) kt (fun q => kf (Decidable.of_not_not q))
theorem b18_42 {d : Nat} {P : xPr} {Q : xQr} {r : Nat} {mem : Nat → Nat → Int32} (hP : Cl d none 18 P Q) {v0 : Value} {v1 : Value} (hzr : nI 0 = 0 ∨ nI 0 = 1)
    (k : Q (some (.int (nI 0))) (LAY, RFu r, mem)) : P 42 [v0, v1] [] (0, 0) (LAY, RFu r, mem) := by
  refine r_iconst (v := nI 0) hP d18_42 rfl ?_
  exact r_zret hP d18_43 rfl hzr k
theorem b18_44 {d : Nat} {P : xPr} {Q : xQr} {r : Nat} {mem : Nat → Nat → Int32} (hP : Cl d none 18 P Q) {x1 : Int32}
    (k : xCall d 76 [.ref 1, .int (nI 59)] (LAY, RFu r, xu2 mem 99 4 ((mem 99 4) + (nI 1))) (Bk P 60 [.ref 99, .int x1] [] (0, 0))) : P 44 [.ref 99, .int x1] [] (0, 0) (LAY, RFu r, mem) := by
  refine r_aload_n hP d18_44 rfl ?_
  refine r_dup hP d18_45 rfl ?_
  refine r_geti hP d18_46 fr_2_28 rfl ly_99 ?_
  refine r_iconst (v := nI 1) hP d18_49 rfl ?_
  refine r_iadd hP d18_50 ?_
  refine r_puti hP d18_51 fr_2_28 rfl (fun q => by cases q) ly_99 ?_
  refine r_aload_n hP d18_54 rfl ?_
  refine r_getr (a := 1) hP d18_55 fr_2_24 rfl ly_99 rg_99_5 ?_
  refine r_bipush (v := nI 59) hP d18_58 rfl ?_
  exact r_callv (As := [.int (nI 59)]) (S := []) hP d18_60 cr_2_45 (by decide +kernel) rfl (by simp [Value.category]) rfl ly_1 (by simp [Value.category]) ⟨Nat.zero_le _, Nat.zero_le _⟩ k
theorem b18_63 {d : Nat} {P : xPr} {Q : xQr} {r : Nat} {mem : Nat → Nat → Int32} (hP : Cl d none 18 P Q) {x1 : Int32} {y0 : Int32}
    (kt : ¬ y0 = 0 → P 69 [.ref 99, .int x1] [] (0, 0) (LAY, RFu r, mem)) (kf : y0 = 0 → P 66 [.ref 99, .int x1] [] (0, 0) (LAY, RFu r, mem)) : P 63 [.ref 99, .int x1] [.int y0] (0, 0) (LAY, RFu r, mem) := by
  exact r_if (t := 69) hP d18_63 (by decide) kt (fun q => kf (Decidable.of_not_not q))
theorem b18_66 {d : Nat} {P : xPr} {Q : xQr} {r : Nat} {mem : Nat → Nat → Int32} (hP : Cl d none 18 P Q) {v1 : Value}
    (k : P 75 [.ref 99, v1] [] (0, 0) (LAY, RFu r, mem)) : P 66 [.ref 99, v1] [] (0, 0) (LAY, RFu r, mem) := by
  refine r_goto (t := 75) hP d18_66 (by decide) ?_
  exact k
theorem b18_69 {d : Nat} {P : xPr} {Q : xQr} {r : Nat} {mem : Nat → Nat → Int32} (hP : Cl d none 18 P Q) {x1 : Int32}
    (k : P 28 [.ref 99, .int (x1 + nI 1)] [] (0, 0) (LAY, RFu r, mem)) : P 69 [.ref 99, .int x1] [] (0, 0) (LAY, RFu r, mem) := by
  refine r_iinc (v := nI 1) (L' := [.ref 99, .int (x1 + nI 1)]) hP d18_69 rfl rfl rfl ?_
  refine r_goto (t := 28) hP d18_72 (by decide) ?_
  exact k
theorem b18_75 {d : Nat} {P : xPr} {Q : xQr} {r : Nat} {mem : Nat → Nat → Int32} (hP : Cl d none 18 P Q) {v1 : Value}
    (k : xCall d 79 [.ref 1] (LAY, RFu r, mem) (Bk P 79 [.ref 99, v1] [] (0, 0))) : P 75 [.ref 99, v1] [] (0, 0) (LAY, RFu r, mem) := by
  refine r_aload_n hP d18_75 rfl ?_
  refine r_getr (a := 1) hP d18_76 fr_2_24 rfl ly_99 rg_99_5 ?_
  exact r_callv (As := []) (S := []) hP d18_79 cr_2_48 (by decide +kernel) rfl (by simp) rfl ly_1 (by simp [Value.category]) ⟨Nat.zero_le _, Nat.zero_le _⟩ k
theorem b18_82 {d : Nat} {P : xPr} {Q : xQr} {r : Nat} {mem : Nat → Nat → Int32} (hP : Cl d none 18 P Q) {v0 : Value} {v1 : Value} {y0 : Int32} (hzr : y0 = 0 ∨ y0 = 1)
    (k : Q (some (.int y0)) (LAY, RFu r, mem)) : P 82 [v0, v1] [.int y0] (0, 0) (LAY, RFu r, mem) := by
  exact r_zret hP d18_82 rfl hzr k
theorem d19_0 : decode (xB 19) 0 = .ok (.aload_n 0, 1) := by decide +kernel
theorem d19_1 : decode (xB 19) 1 = .ok (.getfield 9, 3) := by decide +kernel
theorem d19_4 : decode (xB 19) 4 = .ok (.iload_n 1, 1) := by decide +kernel
theorem d19_5 : decode (xB 19) 5 = .ok (.aload_n 0, 1) := by decide +kernel
theorem d19_6 : decode (xB 19) 6 = .ok (.getfield 24, 3) := by decide +kernel
theorem d19_9 : decode (xB 19) 9 = .ok (.invokevirtual 52, 3) := by decide +kernel
theorem d19_12 : decode (xB 19) 12 = .ok (.iastore, 1) := by decide +kernel
theorem d19_13 : decode (xB 19) 13 = .ok (.aload_n 0, 1) := by decide +kernel
theorem d19_14 : decode (xB 19) 14 = .ok (.getfield 15, 3) := by decide +kernel
theorem d19_17 : decode (xB 19) 17 = .ok (.iload_n 1, 1) := by decide +kernel
theorem d19_18 : decode (xB 19) 18 = .ok (.iconst (-1), 1) := by decide +kernel
theorem d19_19 : decode (xB 19) 19 = .ok (.iastore, 1) := by decide +kernel
theorem d19_20 : decode (xB 19) 20 = .ok (.aload_n 0, 1) := by decide +kernel
theorem d19_21 : decode (xB 19) 21 = .ok (.getfield 18, 3) := by decide +kernel
theorem d19_24 : decode (xB 19) 24 = .ok (.iload_n 1, 1) := by decide +kernel
theorem d19_25 : decode (xB 19) 25 = .ok (.iconst (-1), 1) := by decide +kernel
theorem d19_26 : decode (xB 19) 26 = .ok (.iastore, 1) := by decide +kernel
theorem d19_27 : decode (xB 19) 27 = .ok (.aload_n 0, 1) := by decide +kernel
theorem d19_28 : decode (xB 19) 28 = .ok (.getfield 21, 3) := by decide +kernel
theorem d19_31 : decode (xB 19) 31 = .ok (.iload_n 1, 1) := by decide +kernel
theorem d19_32 : decode (xB 19) 32 = .ok (.iconst (-1), 1) := by decide +kernel
theorem d19_33 : decode (xB 19) 33 = .ok (.iastore, 1) := by decide +kernel
theorem d19_34 : decode (xB 19) 34 = .ok (.aload_n 0, 1) := by decide +kernel
theorem d19_35 : decode (xB 19) 35 = .ok (.getfield 9, 3) := by decide +kernel
theorem d19_38 : decode (xB 19) 38 = .ok (.iload_n 1, 1) := by decide +kernel
theorem d19_39 : decode (xB 19) 39 = .ok (.iaload, 1) := by decide +kernel
theorem d19_40 : decode (xB 19) 40 = .ok (.lookupswitch 242 #[(99, 78), (108, 176), (113, 52), (115, 124), (119, 150)], 52) := by decide +kernel
theorem d19_92 : decode (xB 19) 92 = .ok (.aload_n 0, 1) := by decide +kernel
theorem d19_93 : decode (xB 19) 93 = .ok (.getfield 24, 3) := by decide +kernel
theorem d19_96 : decode (xB 19) 96 = .ok (.bipush 113, 2) := by decide +kernel
theorem d19_98 : decode (xB 19) 98 = .ok (.invokevirtual 45, 3) := by decide +kernel
theorem d19_101 : decode (xB 19) 101 = .ok (.ifCond .eq 15, 3) := by decide +kernel
theorem d19_104 : decode (xB 19) 104 = .ok (.aload_n 0, 1) := by decide +kernel
theorem d19_105 : decode (xB 19) 105 = .ok (.iload_n 1, 1) := by decide +kernel
theorem d19_106 : decode (xB 19) 106 = .ok (.invokevirtual 56, 3) := by decide +kernel
theorem d19_109 : decode (xB 19) 109 = .ok (.ifCond .eq 7, 3) := by decide +kernel
theorem d19_112 : decode (xB 19) 112 = .ok (.iconst 1, 1) := by decide +kernel
theorem d19_113 : decode (xB 19) 113 = .ok (.goto 4, 3) := by decide +kernel
theorem d19_116 : decode (xB 19) 116 = .ok (.iconst 0, 1) := by decide +kernel
theorem d19_117 : decode (xB 19) 117 = .ok (.ireturn, 1) := by decide +kernel
theorem d19_118 : decode (xB 19) 118 = .ok (.aload_n 0, 1) := by decide +kernel
theorem d19_119 : decode (xB 19) 119 = .ok (.getfield 24, 3) := by decide +kernel
theorem d19_122 : decode (xB 19) 122 = .ok (.bipush 99, 2) := by decide +kernel
theorem d19_124 : decode (xB 19) 124 = .ok (.invokevirtual 45, 3) := by decide +kernel
theorem d19_127 : decode (xB 19) 127 = .ok (.ifCond .eq 35, 3) := by decide +kernel
theorem d19_130 : decode (xB 19) 130 = .ok (.aload_n 0, 1) := by decide +kernel
theorem d19_131 : decode (xB 19) 131 = .ok (.iload_n 1, 1) := by decide +kernel
theorem d19_132 : decode (xB 19) 132 = .ok (.invokevirtual 59, 3) := by decide +kernel
theorem d19_135 : decode (xB 19) 135 = .ok (.ifCond .eq 27, 3) := by decide +kernel
theorem d19_138 : decode (xB 19) 138 = .ok (.aload_n 0, 1) := by decide +kernel
theorem d19_139 : decode (xB 19) 139 = .ok (.getfield 24, 3) := by decide +kernel
theorem d19_142 : decode (xB 19) 142 = .ok (.bipush 61, 2) := by decide +kernel
theorem d19_144 : decode (xB 19) 144 = .ok (.invokevirtual 45, 3) := by decide +kernel
theorem d19_147 : decode (xB 19) 147 = .ok (.ifCond .eq 15, 3) := by decide +kernel
theorem d19_150 : decode (xB 19) 150 = .ok (.aload_n 0, 1) := by decide +kernel
theorem d19_151 : decode (xB 19) 151 = .ok (.iload_n 1, 1) := by decide +kernel
theorem d19_152 : decode (xB 19) 152 = .ok (.invokevirtual 62, 3) := by decide +kernel
theorem d19_155 : decode (xB 19) 155 = .ok (.ifCond .eq 7, 3) := by decide +kernel
theorem d19_158 : decode (xB 19) 158 = .ok (.iconst 1, 1) := by decide +kernel
theorem d19_159 : decode (xB 19) 159 = .ok (.goto 4, 3) := by decide +kernel
theorem d19_162 : decode (xB 19) 162 = .ok (.iconst 0, 1) := by decide +kernel
theorem d19_163 : decode (xB 19) 163 = .ok (.ireturn, 1) := by decide +kernel
theorem d19_164 : decode (xB 19) 164 = .ok (.aload_n 0, 1) := by decide +kernel
theorem d19_165 : decode (xB 19) 165 = .ok (.getfield 24, 3) := by decide +kernel
theorem d19_168 : decode (xB 19) 168 = .ok (.bipush 115, 2) := by decide +kernel
theorem d19_170 : decode (xB 19) 170 = .ok (.invokevirtual 45, 3) := by decide +kernel
theorem d19_173 : decode (xB 19) 173 = .ok (.ifCond .eq 15, 3) := by decide +kernel
theorem d19_176 : decode (xB 19) 176 = .ok (.aload_n 0, 1) := by decide +kernel
theorem d19_177 : decode (xB 19) 177 = .ok (.iload_n 1, 1) := by decide +kernel
theorem d19_178 : decode (xB 19) 178 = .ok (.invokevirtual 59, 3) := by decide +kernel
theorem d19_181 : decode (xB 19) 181 = .ok (.ifCond .eq 7, 3) := by decide +kernel
theorem d19_184 : decode (xB 19) 184 = .ok (.iconst 1, 1) := by decide +kernel
theorem d19_185 : decode (xB 19) 185 = .ok (.goto 4, 3) := by decide +kernel
theorem d19_188 : decode (xB 19) 188 = .ok (.iconst 0, 1) := by decide +kernel
theorem d19_189 : decode (xB 19) 189 = .ok (.ireturn, 1) := by decide +kernel
theorem d19_190 : decode (xB 19) 190 = .ok (.aload_n 0, 1) := by decide +kernel
theorem d19_191 : decode (xB 19) 191 = .ok (.getfield 24, 3) := by decide +kernel
theorem d19_194 : decode (xB 19) 194 = .ok (.bipush 119, 2) := by decide +kernel
theorem d19_196 : decode (xB 19) 196 = .ok (.invokevirtual 45, 3) := by decide +kernel
theorem d19_199 : decode (xB 19) 199 = .ok (.ifCond .eq 15, 3) := by decide +kernel
theorem d19_202 : decode (xB 19) 202 = .ok (.aload_n 0, 1) := by decide +kernel
theorem d19_203 : decode (xB 19) 203 = .ok (.iload_n 1, 1) := by decide +kernel
theorem d19_204 : decode (xB 19) 204 = .ok (.invokevirtual 59, 3) := by decide +kernel
theorem d19_207 : decode (xB 19) 207 = .ok (.ifCond .eq 7, 3) := by decide +kernel
theorem d19_210 : decode (xB 19) 210 = .ok (.iconst 1, 1) := by decide +kernel
theorem d19_211 : decode (xB 19) 211 = .ok (.goto 4, 3) := by decide +kernel
theorem d19_214 : decode (xB 19) 214 = .ok (.iconst 0, 1) := by decide +kernel
theorem d19_215 : decode (xB 19) 215 = .ok (.ireturn, 1) := by decide +kernel
theorem d19_216 : decode (xB 19) 216 = .ok (.aload_n 0, 1) := by decide +kernel
theorem d19_217 : decode (xB 19) 217 = .ok (.getfield 24, 3) := by decide +kernel
theorem d19_220 : decode (xB 19) 220 = .ok (.bipush 108, 2) := by decide +kernel
theorem d19_222 : decode (xB 19) 222 = .ok (.invokevirtual 45, 3) := by decide +kernel
theorem d19_225 : decode (xB 19) 225 = .ok (.ifCond .eq 55, 3) := by decide +kernel
theorem d19_228 : decode (xB 19) 228 = .ok (.aload_n 0, 1) := by decide +kernel
theorem d19_229 : decode (xB 19) 229 = .ok (.iload_n 1, 1) := by decide +kernel
theorem d19_230 : decode (xB 19) 230 = .ok (.invokevirtual 59, 3) := by decide +kernel
theorem d19_233 : decode (xB 19) 233 = .ok (.ifCond .eq 47, 3) := by decide +kernel
theorem d19_236 : decode (xB 19) 236 = .ok (.aload_n 0, 1) := by decide +kernel
theorem d19_237 : decode (xB 19) 237 = .ok (.getfield 24, 3) := by decide +kernel
theorem d19_240 : decode (xB 19) 240 = .ok (.bipush 62, 2) := by decide +kernel
theorem d19_242 : decode (xB 19) 242 = .ok (.invokevirtual 45, 3) := by decide +kernel
theorem d19_245 : decode (xB 19) 245 = .ok (.ifCond .eq 35, 3) := by decide +kernel
theorem d19_248 : decode (xB 19) 248 = .ok (.aload_n 0, 1) := by decide +kernel
theorem d19_249 : decode (xB 19) 249 = .ok (.iload_n 1, 1) := by decide +kernel
theorem d19_250 : decode (xB 19) 250 = .ok (.invokevirtual 65, 3) := by decide +kernel
theorem d19_253 : decode (xB 19) 253 = .ok (.ifCond .eq 27, 3) := by decide +kernel
theorem d19_256 : decode (xB 19) 256 = .ok (.aload_n 0, 1) := by decide +kernel
theorem d19_257 : decode (xB 19) 257 = .ok (.getfield 24, 3) := by decide +kernel
theorem d19_260 : decode (xB 19) 260 = .ok (.bipush 42, 2) := by decide +kernel
theorem d19_262 : decode (xB 19) 262 = .ok (.invokevirtual 45, 3) := by decide +kernel
theorem d19_265 : decode (xB 19) 265 = .ok (.ifCond .eq 15, 3) := by decide +kernel
theorem d19_268 : decode (xB 19) 268 = .ok (.aload_n 0, 1) := by decide +kernel
theorem d19_269 : decode (xB 19) 269 = .ok (.iload_n 1, 1) := by decide +kernel
theorem d19_270 : decode (xB 19) 270 = .ok (.invokevirtual 56, 3) := by decide +kernel
theorem d19_273 : decode (xB 19) 273 = .ok (.ifCond .eq 7, 3) := by decide +kernel
theorem d19_276 : decode (xB 19) 276 = .ok (.iconst 1, 1) := by decide +kernel
theorem d19_277 : decode (xB 19) 277 = .ok (.goto 4, 3) := by decide +kernel
theorem d19_280 : decode (xB 19) 280 = .ok (.iconst 0, 1) := by decide +kernel
theorem d19_281 : decode (xB 19) 281 = .ok (.ireturn, 1) := by decide +kernel
theorem d19_282 : decode (xB 19) 282 = .ok (.iconst 0, 1) := by decide +kernel
theorem d19_283 : decode (xB 19) 283 = .ok (.ireturn, 1) := by decide +kernel
theorem b19_0 {d : Nat} {P : xPr} {Q : xQr} {r : Nat} {mem : Nat → Nat → Int32} (hP : Cl d none 19 P Q) {p0 : Int32}
    (k : xCall d 75 [.ref 1] (LAY, RFu r, mem) (Bk P 9 [.ref 99, .int p0] [.int p0, .ref 100] (0, 0))) : P 0 [.ref 99, .int p0] [] (0, 0) (LAY, RFu r, mem) := by
  refine r_aload_n hP d19_0 rfl ?_
  refine r_getr (a := 100) hP d19_1 fr_2_9 rfl ly_99 rg_99_0 ?_
  refine r_iload_n hP d19_4 rfl ?_
  refine r_aload_n hP d19_5 rfl ?_
  refine r_getr (a := 1) hP d19_6 fr_2_24 rfl ly_99 rg_99_5 ?_
  exact r_callv (As := []) (S := [.int p0, .ref 100]) hP d19_9 cr_2_52 (by decide +kernel) rfl (by simp) rfl ly_1 (by simp [Value.category]) ⟨Nat.zero_le _, Nat.zero_le _⟩ k
theorem b19_12 {d : Nat} {P : xPr} {Q : xQr} {r : Nat} {mem : Nat → Nat → Int32} (hP : Cl d none 19 P Q) {x1 : Int32} {y1 : Int32} {y2 : Int32} (hi12 : vp_in y1 60) (hi19 : vp_in x1 60) (hi26 : vp_in x1 60) (hi33 : vp_in x1 60) (hi39 : vp_in x1 60)
    (kd : ¬ ((xu2 (xu2 (xu2 (xu2 mem 100 y1.toNatClampNeg y2) 101 x1.toNatClampNeg (-1)) 102 x1.toNatClampNeg (-1)) 103 x1.toNatClampNeg (-1)) 100 x1.toNatClampNeg).toInt = 99 → ¬ ((xu2 (xu2 (xu2 (xu2 mem 100 y1.toNatClampNeg y2) 101 x1.toNatClampNeg (-1)) 102 x1.toNatClampNeg (-1)) 103 x1.toNatClampNeg (-1)) 100 x1.toNatClampNeg).toInt = 108 → ¬ ((xu2 (xu2 (xu2 (xu2 mem 100 y1.toNatClampNeg y2) 101 x1.toNatClampNeg (-1)) 102 x1.toNatClampNeg (-1)) 103 x1.toNatClampNeg (-1)) 100 x1.toNatClampNeg).toInt = 113 → ¬ ((xu2 (xu2 (xu2 (xu2 mem 100 y1.toNatClampNeg y2) 101 x1.toNatClampNeg (-1)) 102 x1.toNatClampNeg (-1)) 103 x1.toNatClampNeg (-1)) 100 x1.toNatClampNeg).toInt = 115 → ¬ ((xu2 (xu2 (xu2 (xu2 mem 100 y1.toNatClampNeg y2) 101 x1.toNatClampNeg (-1)) 102 x1.toNatClampNeg (-1)) 103 x1.toNatClampNeg (-1)) 100 x1.toNatClampNeg).toInt = 119 → P 282 [.ref 99, .int x1] [] (0, 0) (LAY, RFu r, xu2 (xu2 (xu2 (xu2 mem 100 y1.toNatClampNeg y2) 101 x1.toNatClampNeg (-1)) 102 x1.toNatClampNeg (-1)) 103 x1.toNatClampNeg (-1))) (k0 : ((xu2 (xu2 (xu2 (xu2 mem 100 y1.toNatClampNeg y2) 101 x1.toNatClampNeg (-1)) 102 x1.toNatClampNeg (-1)) 103 x1.toNatClampNeg (-1)) 100 x1.toNatClampNeg).toInt = 99 → P 118 [.ref 99, .int x1] [] (0, 0) (LAY, RFu r, xu2 (xu2 (xu2 (xu2 mem 100 y1.toNatClampNeg y2) 101 x1.toNatClampNeg (-1)) 102 x1.toNatClampNeg (-1)) 103 x1.toNatClampNeg (-1))) (k1 : ((xu2 (xu2 (xu2 (xu2 mem 100 y1.toNatClampNeg y2) 101 x1.toNatClampNeg (-1)) 102 x1.toNatClampNeg (-1)) 103 x1.toNatClampNeg (-1)) 100 x1.toNatClampNeg).toInt = 108 → P 216 [.ref 99, .int x1] [] (0, 0) (LAY, RFu r, xu2 (xu2 (xu2 (xu2 mem 100 y1.toNatClampNeg y2) 101 x1.toNatClampNeg (-1)) 102 x1.toNatClampNeg (-1)) 103 x1.toNatClampNeg (-1))) (k2 : ((xu2 (xu2 (xu2 (xu2 mem 100 y1.toNatClampNeg y2) 101 x1.toNatClampNeg (-1)) 102 x1.toNatClampNeg (-1)) 103 x1.toNatClampNeg (-1)) 100 x1.toNatClampNeg).toInt = 113 → P 92 [.ref 99, .int x1] [] (0, 0) (LAY, RFu r, xu2 (xu2 (xu2 (xu2 mem 100 y1.toNatClampNeg y2) 101 x1.toNatClampNeg (-1)) 102 x1.toNatClampNeg (-1)) 103 x1.toNatClampNeg (-1))) (k3 : ((xu2 (xu2 (xu2 (xu2 mem 100 y1.toNatClampNeg y2) 101 x1.toNatClampNeg (-1)) 102 x1.toNatClampNeg (-1)) 103 x1.toNatClampNeg (-1)) 100 x1.toNatClampNeg).toInt = 115 → P 164 [.ref 99, .int x1] [] (0, 0) (LAY, RFu r, xu2 (xu2 (xu2 (xu2 mem 100 y1.toNatClampNeg y2) 101 x1.toNatClampNeg (-1)) 102 x1.toNatClampNeg (-1)) 103 x1.toNatClampNeg (-1))) (k4 : ((xu2 (xu2 (xu2 (xu2 mem 100 y1.toNatClampNeg y2) 101 x1.toNatClampNeg (-1)) 102 x1.toNatClampNeg (-1)) 103 x1.toNatClampNeg (-1)) 100 x1.toNatClampNeg).toInt = 119 → P 190 [.ref 99, .int x1] [] (0, 0) (LAY, RFu r, xu2 (xu2 (xu2 (xu2 mem 100 y1.toNatClampNeg y2) 101 x1.toNatClampNeg (-1)) 102 x1.toNatClampNeg (-1)) 103 x1.toNatClampNeg (-1))) : P 12 [.ref 99, .int x1] [.int y2, .int y1, .ref 100] (0, 0) (LAY, RFu r, mem) := by
  refine r_iastore hP d19_12 ly_100 hi12 ?_
  refine r_aload_n hP d19_13 rfl ?_
  refine r_getr (a := 101) hP d19_14 fr_2_15 rfl ly_99 rg_99_1 ?_
  refine r_iload_n hP d19_17 rfl ?_
  refine r_iconst (v := (-1)) hP d19_18 rfl ?_
  refine r_iastore hP d19_19 ly_101 hi19 ?_
  refine r_aload_n hP d19_20 rfl ?_
  refine r_getr (a := 102) hP d19_21 fr_2_18 rfl ly_99 rg_99_2 ?_
  refine r_iload_n hP d19_24 rfl ?_
  refine r_iconst (v := (-1)) hP d19_25 rfl ?_
  refine r_iastore hP d19_26 ly_102 hi26 ?_
  refine r_aload_n hP d19_27 rfl ?_
  refine r_getr (a := 103) hP d19_28 fr_2_21 rfl ly_99 rg_99_3 ?_
  refine r_iload_n hP d19_31 rfl ?_
  refine r_iconst (v := (-1)) hP d19_32 rfl ?_
  refine r_iastore hP d19_33 ly_103 hi33 ?_
  refine r_aload_n hP d19_34 rfl ?_
  refine r_getr (a := 100) hP d19_35 fr_2_9 rfl ly_99 rg_99_0 ?_
  refine r_iload_n hP d19_38 rfl ?_
  refine r_iaload hP d19_39 ly_100 hi39 ?_
  refine r_lookup hP d19_40 (by decide) ?_
  by_cases c0 : ((xu2 (xu2 (xu2 (xu2 mem 100 y1.toNatClampNeg y2) 101 x1.toNatClampNeg (-1)) 102 x1.toNatClampNeg (-1)) 103 x1.toNatClampNeg (-1)) 100 x1.toNatClampNeg).toInt = 99
  · rw [c0]; exact ⟨118, by decide, k0 c0⟩
  by_cases c1 : ((xu2 (xu2 (xu2 (xu2 mem 100 y1.toNatClampNeg y2) 101 x1.toNatClampNeg (-1)) 102 x1.toNatClampNeg (-1)) 103 x1.toNatClampNeg (-1)) 100 x1.toNatClampNeg).toInt = 108
  · rw [c1]; exact ⟨216, by decide, k1 c1⟩
  by_cases c2 : ((xu2 (xu2 (xu2 (xu2 mem 100 y1.toNatClampNeg y2) 101 x1.toNatClampNeg (-1)) 102 x1.toNatClampNeg (-1)) 103 x1.toNatClampNeg (-1)) 100 x1.toNatClampNeg).toInt = 113
  · rw [c2]; exact ⟨92, by decide, k2 c2⟩
  by_cases c3 : ((xu2 (xu2 (xu2 (xu2 mem 100 y1.toNatClampNeg y2) 101 x1.toNatClampNeg (-1)) 102 x1.toNatClampNeg (-1)) 103 x1.toNatClampNeg (-1)) 100 x1.toNatClampNeg).toInt = 115
  · rw [c3]; exact ⟨164, by decide, k3 c3⟩
  by_cases c4 : ((xu2 (xu2 (xu2 (xu2 mem 100 y1.toNatClampNeg y2) 101 x1.toNatClampNeg (-1)) 102 x1.toNatClampNeg (-1)) 103 x1.toNatClampNeg (-1)) 100 x1.toNatClampNeg).toInt = 119
  · rw [c4]; exact ⟨190, by decide, k4 c4⟩
  have e : Op.lookupswitch.offset [(99, 78), (108, 176), (113, 52), (115, 124), (119, 150)] 242 ((xu2 (xu2 (xu2 (xu2 mem 100 y1.toNatClampNeg y2) 101 x1.toNatClampNeg (-1)) 102 x1.toNatClampNeg (-1)) 103 x1.toNatClampNeg (-1)) 100 x1.toNatClampNeg).toInt = 242 := by simp [Op.lookupswitch.offset, Ne.symm c0, Ne.symm c1, Ne.symm c2, Ne.symm c3, Ne.symm c4]
  exact ⟨282, by show (40 : Int) + Op.lookupswitch.offset [(99, 78), (108, 176), (113, 52), (115, 124), (119, 150)] 242 ((xu2 (xu2 (xu2 (xu2 mem 100 y1.toNatClampNeg y2) 101 x1.toNatClampNeg (-1)) 102 x1.toNatClampNeg (-1)) 103 x1.toNatClampNeg (-1)) 100 x1.toNatClampNeg).toInt = _; rw [e]; decide, kd c0 c1 c2 c3 c4⟩
theorem b19_92 {d : Nat} {P : xPr} {Q : xQr} {r : Nat} {mem : Nat → Nat → Int32} (hP : Cl d none 19 P Q) {x1 : Int32}
    (k : xCall d 76 [.ref 1, .int (nI 113)] (LAY, RFu r, mem) (Bk P 98 [.ref 99, .int x1] [] (0, 0))) : P 92 [.ref 99, .int x1] [] (0, 0) (LAY, RFu r, mem) := by
  refine r_aload_n hP d19_92 rfl ?_
  refine r_getr (a := 1) hP d19_93 fr_2_24 rfl ly_99 rg_99_5 ?_
  refine r_bipush (v := nI 113) hP d19_96 rfl ?_
  exact r_callv (As := [.int (nI 113)]) (S := []) hP d19_98 cr_2_45 (by decide +kernel) rfl (by simp [Value.category]) rfl ly_1 (by simp [Value.category]) ⟨Nat.zero_le _, Nat.zero_le _⟩ k
theorem b19_101 {d : Nat} {P : xPr} {Q : xQr} {r : Nat} {mem : Nat → Nat → Int32} (hP : Cl d none 19 P Q) {x1 : Int32} {y0 : Int32}
    (kt : y0 = 0 → P 116 [.ref 99, .int x1] [] (0, 0) (LAY, RFu r, mem)) (kf : ¬ y0 = 0 → P 104 [.ref 99, .int x1] [] (0, 0) (LAY, RFu r, mem)) : P 101 [.ref 99, .int x1] [.int y0] (0, 0) (LAY, RFu r, mem) := by
  exact r_if (t := 116) hP d19_101 (by decide) kt kf
theorem b19_104 {d : Nat} {P : xPr} {Q : xQr} {r : Nat} {mem : Nat → Nat → Int32} (hP : Cl d none 19 P Q) {x1 : Int32}
    (k : xCall d 22 [.ref 99, .int x1] (LAY, RFu r, mem) (Bk P 106 [.ref 99, .int x1] [] (0, 0))) : P 104 [.ref 99, .int x1] [] (0, 0) (LAY, RFu r, mem) := by
  refine r_aload_n hP d19_104 rfl ?_
  refine r_iload_n hP d19_105 rfl ?_
  exact r_callv (As := [.int x1]) (S := []) hP d19_106 cr_2_56 (by decide +kernel) rfl (by simp [Value.category]) rfl ly_99 (by simp [Value.category]) ⟨Nat.zero_le _, Nat.zero_le _⟩ k
theorem b19_109 {d : Nat} {P : xPr} {Q : xQr} {r : Nat} {mem : Nat → Nat → Int32} (hP : Cl d none 19 P Q) {v0 : Value} {v1 : Value} {y0 : Int32}
    (kt : y0 = 0 → P 116 [v0, v1] [] (0, 0) (LAY, RFu r, mem)) (kf : ¬ y0 = 0 → P 112 [v0, v1] [] (0, 0) (LAY, RFu r, mem)) : P 109 [v0, v1] [.int y0] (0, 0) (LAY, RFu r, mem) := by
  exact r_if (t := 116) hP d19_109 (by decide) kt kf
theorem b19_112 {d : Nat} {P : xPr} {Q : xQr} {r : Nat} {mem : Nat → Nat → Int32} (hP : Cl d none 19 P Q) {v0 : Value} {v1 : Value}
    (k : P 117 [v0, v1] [.int (nI 1)] (0, 0) (LAY, RFu r, mem)) : P 112 [v0, v1] [] (0, 0) (LAY, RFu r, mem) := by
  refine r_iconst (v := nI 1) hP d19_112 rfl ?_
  refine r_goto (t := 117) hP d19_113 (by decide) ?_
  exact k
theorem b19_116 {d : Nat} {P : xPr} {Q : xQr} {r : Nat} {mem : Nat → Nat → Int32} (hP : Cl d none 19 P Q) {v0 : Value} {v1 : Value}
    (k : P 117 [v0, v1] [.int (nI 0)] (0, 0) (LAY, RFu r, mem)) : P 116 [v0, v1] [] (0, 0) (LAY, RFu r, mem) := by
  refine r_iconst (v := nI 0) hP d19_116 rfl ?_
  exact k
theorem b19_117 {d : Nat} {P : xPr} {Q : xQr} {r : Nat} {mem : Nat → Nat → Int32} (hP : Cl d none 19 P Q) {v0 : Value} {v1 : Value} {y0 : Int32} (hzr : y0 = 0 ∨ y0 = 1)
    (k : Q (some (.int y0)) (LAY, RFu r, mem)) : P 117 [v0, v1] [.int y0] (0, 0) (LAY, RFu r, mem) := by
  exact r_zret hP d19_117 rfl hzr k
theorem b19_118 {d : Nat} {P : xPr} {Q : xQr} {r : Nat} {mem : Nat → Nat → Int32} (hP : Cl d none 19 P Q) {x1 : Int32}
    (k : xCall d 76 [.ref 1, .int (nI 99)] (LAY, RFu r, mem) (Bk P 124 [.ref 99, .int x1] [] (0, 0))) : P 118 [.ref 99, .int x1] [] (0, 0) (LAY, RFu r, mem) := by
  refine r_aload_n hP d19_118 rfl ?_
  refine r_getr (a := 1) hP d19_119 fr_2_24 rfl ly_99 rg_99_5 ?_
  refine r_bipush (v := nI 99) hP d19_122 rfl ?_
  exact r_callv (As := [.int (nI 99)]) (S := []) hP d19_124 cr_2_45 (by decide +kernel) rfl (by simp [Value.category]) rfl ly_1 (by simp [Value.category]) ⟨Nat.zero_le _, Nat.zero_le _⟩ k
theorem b19_127 {d : Nat} {P : xPr} {Q : xQr} {r : Nat} {mem : Nat → Nat → Int32} (hP : Cl d none 19 P Q) {x1 : Int32} {y0 : Int32}
    (kt : y0 = 0 → P 162 [.ref 99, .int x1] [] (0, 0) (LAY, RFu r, mem)) (kf : ¬ y0 = 0 → P 130 [.ref 99, .int x1] [] (0, 0) (LAY, RFu r, mem)) : P 127 [.ref 99, .int x1] [.int y0] (0, 0) (LAY, RFu r, mem) := by
  exact r_if (t := 162) hP d19_127 (by decide) kt kf
theorem b19_130 {d : Nat} {P : xPr} {Q : xQr} {r : Nat} {mem : Nat → Nat → Int32} (hP : Cl d none 19 P Q) {x1 : Int32}
    (k : xCall d 20 [.ref 99, .int x1] (LAY, RFu r, mem) (Bk P 132 [.ref 99, .int x1] [] (0, 0))) : P 130 [.ref 99, .int x1] [] (0, 0) (LAY, RFu r, mem) := by
  refine r_aload_n hP d19_130 rfl ?_
  refine r_iload_n hP d19_131 rfl ?_
  exact r_callv (As := [.int x1]) (S := []) hP d19_132 cr_2_59 (by decide +kernel) rfl (by simp [Value.category]) rfl ly_99 (by simp [Value.category]) ⟨Nat.zero_le _, Nat.zero_le _⟩ k
theorem b19_135 {d : Nat} {P : xPr} {Q : xQr} {r : Nat} {mem : Nat → Nat → Int32} (hP : Cl d none 19 P Q) {x1 : Int32} {y0 : Int32}
    (kt : y0 = 0 → P 162 [.ref 99, .int x1] [] (0, 0) (LAY, RFu r, mem)) (kf : ¬ y0 = 0 → P 138 [.ref 99, .int x1] [] (0, 0) (LAY, RFu r, mem)) : P 135 [.ref 99, .int x1] [.int y0] (0, 0) (LAY, RFu r, mem) := by
  exact r_if (t := 162) hP d19_135 (by decide) kt kf
theorem b19_138 {d : Nat} {P : xPr} {Q : xQr} {r : Nat} {mem : Nat → Nat → Int32} (hP : Cl d none 19 P Q) {x1 : Int32}
    (k : xCall d 76 [.ref 1, .int (nI 61)] (LAY, RFu r, mem) (Bk P 144 [.ref 99, .int x1] [] (0, 0))) : P 138 [.ref 99, .int x1] [] (0, 0) (LAY, RFu r, mem) := by
  refine r_aload_n hP d19_138 rfl ?_
  refine r_getr (a := 1) hP d19_139 fr_2_24 rfl ly_99 rg_99_5 ?_
  refine r_bipush (v := nI 61) hP d19_142 rfl ?_
  exact r_callv (As := [.int (nI 61)]) (S := []) hP d19_144 cr_2_45 (by decide +kernel) rfl (by simp [Value.category]) rfl ly_1 (by simp [Value.category]) ⟨Nat.zero_le _, Nat.zero_le _⟩ k
theorem b19_147 {d : Nat} {P : xPr} {Q : xQr} {r : Nat} {mem : Nat → Nat → Int32} (hP : Cl d none 19 P Q) {x1 : Int32} {y0 : Int32}
    (kt : y0 = 0 → P 162 [.ref 99, .int x1] [] (0, 0) (LAY, RFu r, mem)) (kf : ¬ y0 = 0 → P 150 [.ref 99, .int x1] [] (0, 0) (LAY, RFu r, mem)) : P 147 [.ref 99, .int x1] [.int y0] (0, 0) (LAY, RFu r, mem) := by
  exact r_if (t := 162) hP d19_147 (by decide) kt kf
theorem b19_150 {d : Nat} {P : xPr} {Q : xQr} {r : Nat} {mem : Nat → Nat → Int32} (hP : Cl d none 19 P Q) {x1 : Int32}
    (k : xCall d 23 [.ref 99, .int x1] (LAY, RFu r, mem) (Bk P 152 [.ref 99, .int x1] [] (0, 0))) : P 150 [.ref 99, .int x1] [] (0, 0) (LAY, RFu r, mem) := by
  refine r_aload_n hP d19_150 rfl ?_
  refine r_iload_n hP d19_151 rfl ?_
  exact r_callv (As := [.int x1]) (S := []) hP d19_152 cr_2_62 (by decide +kernel) rfl (by simp [Value.category]) rfl ly_99 (by simp [Value.category]) ⟨Nat.zero_le _, Nat.zero_le _⟩ k
theorem b19_155 {d : Nat} {P : xPr} {Q : xQr} {r : Nat} {mem : Nat → Nat → Int32} (hP : Cl d none 19 P Q) {v0 : Value} {v1 : Value} {y0 : Int32}
    (kt : y0 = 0 → P 162 [v0, v1] [] (0, 0) (LAY, RFu r, mem)) (kf : ¬ y0 = 0 → P 158 [v0, v1] [] (0, 0) (LAY, RFu r, mem)) : P 155 [v0, v1] [.int y0] (0, 0) (LAY, RFu r, mem) := by
  exact r_if (t := 162) hP d19_155 (by decide) kt kf
theorem b19_158 {d : Nat} {P : xPr} {Q : xQr} {r : Nat} {mem : Nat → Nat → Int32} (hP : Cl d none 19 P Q) {v0 : Value} {v1 : Value}
    (k : P 163 [v0, v1] [.int (nI 1)] (0, 0) (LAY, RFu r, mem)) : P 158 [v0, v1] [] (0, 0) (LAY, RFu r, mem) := by
  refine r_iconst (v := nI 1) hP d19_158 rfl ?_
  refine r_goto (t := 163) hP d19_159 (by decide) ?_
  exact k
theorem b19_162 {d : Nat} {P : xPr} {Q : xQr} {r : Nat} {mem : Nat → Nat → Int32} (hP : Cl d none 19 P Q) {v0 : Value} {v1 : Value}
    (k : P 163 [v0, v1] [.int (nI 0)] (0, 0) (LAY, RFu r, mem)) : P 162 [v0, v1] [] (0, 0) (LAY, RFu r, mem) := by
  refine r_iconst (v := nI 0) hP d19_162 rfl ?_
  exact k
theorem b19_163 {d : Nat} {P : xPr} {Q : xQr} {r : Nat} {mem : Nat → Nat → Int32} (hP : Cl d none 19 P Q) {v0 : Value} {v1 : Value} {y0 : Int32} (hzr : y0 = 0 ∨ y0 = 1)
    (k : Q (some (.int y0)) (LAY, RFu r, mem)) : P 163 [v0, v1] [.int y0] (0, 0) (LAY, RFu r, mem) := by
  exact r_zret hP d19_163 rfl hzr k
theorem b19_164 {d : Nat} {P : xPr} {Q : xQr} {r : Nat} {mem : Nat → Nat → Int32} (hP : Cl d none 19 P Q) {x1 : Int32}
    (k : xCall d 76 [.ref 1, .int (nI 115)] (LAY, RFu r, mem) (Bk P 170 [.ref 99, .int x1] [] (0, 0))) : P 164 [.ref 99, .int x1] [] (0, 0) (LAY, RFu r, mem) := by
  refine r_aload_n hP d19_164 rfl ?_
  refine r_getr (a := 1) hP d19_165 fr_2_24 rfl ly_99 rg_99_5 ?_
  refine r_bipush (v := nI 115) hP d19_168 rfl ?_
  exact r_callv (As := [.int (nI 115)]) (S := []) hP d19_170 cr_2_45 (by decide +kernel) rfl (by simp [Value.category]) rfl ly_1 (by simp [Value.category]) ⟨Nat.zero_le _, Nat.zero_le _⟩ k
theorem b19_173 {d : Nat} {P : xPr} {Q : xQr} {r : Nat} {mem : Nat → Nat → Int32} (hP : Cl d none 19 P Q) {x1 : Int32} {y0 : Int32}
    (kt : y0 = 0 → P 188 [.ref 99, .int x1] [] (0, 0) (LAY, RFu r, mem)) (kf : ¬ y0 = 0 → P 176 [.ref 99, .int x1] [] (0, 0) (LAY, RFu r, mem)) : P 173 [.ref 99, .int x1] [.int y0] (0, 0) (LAY, RFu r, mem) := by
  exact r_if (t := 188) hP d19_173 (by decide) kt kf
theorem b19_176 {d : Nat} {P : xPr} {Q : xQr} {r : Nat} {mem : Nat → Nat → Int32} (hP : Cl d none 19 P Q) {x1 : Int32}
    (k : xCall d 20 [.ref 99, .int x1] (LAY, RFu r, mem) (Bk P 178 [.ref 99, .int x1] [] (0, 0))) : P 176 [.ref 99, .int x1] [] (0, 0) (LAY, RFu r, mem) := by
  refine r_aload_n hP d19_176 rfl ?_
  refine r_iload_n hP d19_177 rfl ?_
  exact r_callv (As := [.int x1]) (S := []) hP d19_178 cr_2_59 (by decide +kernel) rfl (by simp [Value.category]) rfl ly_99 (by simp [Value.category]) ⟨Nat.zero_le _, Nat.zero_le _⟩ k
theorem b19_181 {d : Nat} {P : xPr} {Q : xQr} {r : Nat} {mem : Nat → Nat → Int32} (hP : Cl d none 19 P Q) {v0 : Value} {v1 : Value} {y0 : Int32}
    (kt : y0 = 0 → P 188 [v0, v1] [] (0, 0) (LAY, RFu r, mem)) (kf : ¬ y0 = 0 → P 184 [v0, v1] [] (0, 0) (LAY, RFu r, mem)) : P 181 [v0, v1] [.int y0] (0, 0) (LAY, RFu r, mem) := by
  exact r_if (t := 188) hP d19_181 (by decide) kt kf
theorem b19_184 {d : Nat} {P : xPr} {Q : xQr} {r : Nat} {mem : Nat → Nat → Int32} (hP : Cl d none 19 P Q) {v0 : Value} {v1 : Value}
    (k : P 189 [v0, v1] [.int (nI 1)] (0, 0) (LAY, RFu r, mem)) : P 184 [v0, v1] [] (0, 0) (LAY, RFu r, mem) := by
  refine r_iconst (v := nI 1) hP d19_184 rfl ?_
  refine r_goto (t := 189) hP d19_185 (by decide) ?_
  exact k
theorem b19_188 {d : Nat} {P : xPr} {Q : xQr} {r : Nat} {mem : Nat → Nat → Int32} (hP : Cl d none 19 P Q) {v0 : Value} {v1 : Value}
    (k : P 189 [v0, v1] [.int (nI 0)] (0, 0) (LAY, RFu r, mem)) : P 188 [v0, v1] [] (0, 0) (LAY, RFu r, mem) := by
  refine r_iconst (v := nI 0) hP d19_188 rfl ?_
  exact k
theorem b19_189 {d : Nat} {P : xPr} {Q : xQr} {r : Nat} {mem : Nat → Nat → Int32} (hP : Cl d none 19 P Q) {v0 : Value} {v1 : Value} {y0 : Int32} (hzr : y0 = 0 ∨ y0 = 1)
    (k : Q (some (.int y0)) (LAY, RFu r, mem)) : P 189 [v0, v1] [.int y0] (0, 0) (LAY, RFu r, mem) := by
  exact r_zret hP d19_189 rfl hzr k
theorem b19_190 {d : Nat} {P : xPr} {Q : xQr} {r : Nat} {mem : Nat → Nat → Int32} (hP : Cl d none 19 P Q) {x1 : Int32}
    (k : xCall d 76 [.ref 1, .int (nI 119)] (LAY, RFu r, mem) (Bk P 196 [.ref 99, .int x1] [] (0, 0))) : P 190 [.ref 99, .int x1] [] (0, 0) (LAY, RFu r, mem) := by
  refine r_aload_n hP d19_190 rfl ?_
  refine r_getr (a := 1) hP d19_191 fr_2_24 rfl ly_99 rg_99_5 ?_
  refine r_bipush (v := nI 119) hP d19_194 rfl ?_
  exact r_callv (As := [.int (nI 119)]) (S := []) hP d19_196 cr_2_45 (by decide +kernel) rfl (by simp [Value.category]) rfl ly_1 (by simp [Value.category]) ⟨Nat.zero_le _, Nat.zero_le _⟩ k
theorem b19_199 {d : Nat} {P : xPr} {Q : xQr} {r : Nat} {mem : Nat → Nat → Int32} (hP : Cl d none 19 P Q) {x1 : Int32} {y0 : Int32}
    (kt : y0 = 0 → P 214 [.ref 99, .int x1] [] (0, 0) (LAY, RFu r, mem)) (kf : ¬ y0 = 0 → P 202 [.ref 99, .int x1] [] (0, 0) (LAY, RFu r, mem)) : P 199 [.ref 99, .int x1] [.int y0] (0, 0) (LAY, RFu r, mem) := by
  exact r_if (t := 214) hP d19_199 (by decide) kt kf
theorem b19_202 {d : Nat} {P : xPr} {Q : xQr} {r : Nat} {mem : Nat → Nat → Int32} (hP : Cl d none 19 P Q) {x1 : Int32}
    (k : xCall d 20 [.ref 99, .int x1] (LAY, RFu r, mem) (Bk P 204 [.ref 99, .int x1] [] (0, 0))) : P 202 [.ref 99, .int x1] [] (0, 0) (LAY, RFu r, mem) := by
  refine r_aload_n hP d19_202 rfl ?_
  refine r_iload_n hP d19_203 rfl ?_
  exact r_callv (As := [.int x1]) (S := []) hP d19_204 cr_2_59 (by decide +kernel) rfl (by simp [Value.category]) rfl ly_99 (by simp [Value.category]) ⟨Nat.zero_le _, Nat.zero_le _⟩ k
theorem b19_207 {d : Nat} {P : xPr} {Q : xQr} {r : Nat} {mem : Nat → Nat → Int32} (hP : Cl d none 19 P Q) {v0 : Value} {v1 : Value} {y0 : Int32}
    (kt : y0 = 0 → P 214 [v0, v1] [] (0, 0) (LAY, RFu r, mem)) (kf : ¬ y0 = 0 → P 210 [v0, v1] [] (0, 0) (LAY, RFu r, mem)) : P 207 [v0, v1] [.int y0] (0, 0) (LAY, RFu r, mem) := by
  exact r_if (t := 214) hP d19_207 (by decide) kt kf
theorem b19_210 {d : Nat} {P : xPr} {Q : xQr} {r : Nat} {mem : Nat → Nat → Int32} (hP : Cl d none 19 P Q) {v0 : Value} {v1 : Value}
    (k : P 215 [v0, v1] [.int (nI 1)] (0, 0) (LAY, RFu r, mem)) : P 210 [v0, v1] [] (0, 0) (LAY, RFu r, mem) := by
  refine r_iconst (v := nI 1) hP d19_210 rfl ?_
  refine r_goto (t := 215) hP d19_211 (by decide) ?_
  exact k
theorem b19_214 {d : Nat} {P : xPr} {Q : xQr} {r : Nat} {mem : Nat → Nat → Int32} (hP : Cl d none 19 P Q) {v0 : Value} {v1 : Value}
    (k : P 215 [v0, v1] [.int (nI 0)] (0, 0) (LAY, RFu r, mem)) : P 214 [v0, v1] [] (0, 0) (LAY, RFu r, mem) := by
  refine r_iconst (v := nI 0) hP d19_214 rfl ?_
  exact k
theorem b19_215 {d : Nat} {P : xPr} {Q : xQr} {r : Nat} {mem : Nat → Nat → Int32} (hP : Cl d none 19 P Q) {v0 : Value} {v1 : Value} {y0 : Int32} (hzr : y0 = 0 ∨ y0 = 1)
    (k : Q (some (.int y0)) (LAY, RFu r, mem)) : P 215 [v0, v1] [.int y0] (0, 0) (LAY, RFu r, mem) := by
  exact r_zret hP d19_215 rfl hzr k
theorem b19_216 {d : Nat} {P : xPr} {Q : xQr} {r : Nat} {mem : Nat → Nat → Int32} (hP : Cl d none 19 P Q) {x1 : Int32}
    (k : xCall d 76 [.ref 1, .int (nI 108)] (LAY, RFu r, mem) (Bk P 222 [.ref 99, .int x1] [] (0, 0))) : P 216 [.ref 99, .int x1] [] (0, 0) (LAY, RFu r, mem) := by
  refine r_aload_n hP d19_216 rfl ?_
  refine r_getr (a := 1) hP d19_217 fr_2_24 rfl ly_99 rg_99_5 ?_
  refine r_bipush (v := nI 108) hP d19_220 rfl ?_
  exact r_callv (As := [.int (nI 108)]) (S := []) hP d19_222 cr_2_45 (by decide +kernel) rfl (by simp [Value.category]) rfl ly_1 (by simp [Value.category]) ⟨Nat.zero_le _, Nat.zero_le _⟩ k
theorem b19_225 {d : Nat} {P : xPr} {Q : xQr} {r : Nat} {mem : Nat → Nat → Int32} (hP : Cl d none 19 P Q) {x1 : Int32} {y0 : Int32}
    (kt : y0 = 0 → P 280 [.ref 99, .int x1] [] (0, 0) (LAY, RFu r, mem)) (kf : ¬ y0 = 0 → P 228 [.ref 99, .int x1] [] (0, 0) (LAY, RFu r, mem)) : P 225 [.ref 99, .int x1] [.int y0] (0, 0) (LAY, RFu r, mem) := by
  exact r_if (t := 280) hP d19_225 (by decide) kt kf
theorem b19_228 {d : Nat} {P : xPr} {Q : xQr} {r : Nat} {mem : Nat → Nat → Int32} (hP : Cl d none 19 P Q) {x1 : Int32}
    (k : xCall d 20 [.ref 99, .int x1] (LAY, RFu r, mem) (Bk P 230 [.ref 99, .int x1] [] (0, 0))) : P 228 [.ref 99, .int x1] [] (0, 0) (LAY, RFu r, mem) := by
  refine r_aload_n hP d19_228 rfl ?_
  refine r_iload_n hP d19_229 rfl ?_
  exact r_callv (As := [.int x1]) (S := []) hP d19_230 cr_2_59 (by decide +kernel) rfl (by simp [Value.category]) rfl ly_99 (by simp [Value.category]) ⟨Nat.zero_le _, Nat.zero_le _⟩ k
theorem b19_233 {d : Nat} {P : xPr} {Q : xQr} {r : Nat} {mem : Nat → Nat → Int32} (hP : Cl d none 19 P Q) {x1 : Int32} {y0 : Int32}
    (kt : y0 = 0 → P 280 [.ref 99, .int x1] [] (0, 0) (LAY, RFu r, mem)) (kf : ¬ y0 = 0 → P 236 [.ref 99, .int x1] [] (0, 0) (LAY, RFu r, mem)) : P 233 [.ref 99, .int x1] [.int y0] (0, 0) (LAY, RFu r, mem) := by
  exact r_if (t := 280) hP d19_233 (by decide) kt kf
theorem b19_236 {d : Nat} {P : xPr} {Q : xQr} {r : Nat} {mem : Nat → Nat → Int32} (hP : Cl d none 19 P Q) {x1 : Int32}
    (k : xCall d 76 [.ref 1, .int (nI 62)] (LAY, RFu r, mem) (Bk P 242 [.ref 99, .int x1] [] (0, 0))) : P 236 [.ref 99, .int x1] [] (0, 0) (LAY, RFu r, mem) := by
  refine r_aload_n hP d19_236 rfl ?_
  refine r_getr (a := 1) hP d19_237 fr_2_24 rfl ly_99 rg_99_5 ?_
  refine r_bipush (v := nI 62) hP d19_240 rfl ?_
  exact r_callv (As := [.int (nI 62)]) (S := []) hP d19_242 cr_2_45 (by decide +kernel) rfl (by simp [Value.category]) rfl ly_1 (by simp [Value.category]) ⟨Nat.zero_le _, Nat.zero_le _⟩ k
theorem b19_245 {d : Nat} {P : xPr} {Q : xQr} {r : Nat} {mem : Nat → Nat → Int32} (hP : Cl d none 19 P Q) {x1 : Int32} {y0 : Int32}
    (kt : y0 = 0 → P 280 [.ref 99, .int x1] [] (0, 0) (LAY, RFu r, mem)) (kf : ¬ y0 = 0 → P 248 [.ref 99, .int x1] [] (0, 0) (LAY, RFu r, mem)) : P 245 [.ref 99, .int x1] [.int y0] (0, 0) (LAY, RFu r, mem) := by
  exact r_if (t := 280) hP d19_245 (by decide) kt kf
theorem b19_248 {d : Nat} {P : xPr} {Q : xQr} {r : Nat} {mem : Nat → Nat → Int32} (hP : Cl d none 19 P Q) {x1 : Int32}
    (k : xCall d 21 [.ref 99, .int x1] (LAY, RFu r, mem) (Bk P 250 [.ref 99, .int x1] [] (0, 0))) : P 248 [.ref 99, .int x1] [] (0, 0) (LAY, RFu r, mem) := by
  refine r_aload_n hP d19_248 rfl ?_
  refine r_iload_n hP d19_249 rfl ?_
  exact r_callv (As := [.int x1]) (S := []) hP d19_250 cr_2_65 (by decide +kernel) rfl (by simp [Value.category]) rfl ly_99 (by simp [Value.category]) ⟨Nat.zero_le _, Nat.zero_le _⟩ k
theorem b19_253 {d : Nat} {P : xPr} {Q : xQr} {r : Nat} {mem : Nat → Nat → Int32} (hP : Cl d none 19 P Q) {x1 : Int32} {y0 : Int32}
    (kt : y0 = 0 → P 280 [.ref 99, .int x1] [] (0, 0) (LAY, RFu r, mem)) (kf : ¬ y0 = 0 → P 256 [.ref 99, .int x1] [] (0, 0) (LAY, RFu r, mem)) : P 253 [.ref 99, .int x1] [.int y0] (0, 0) (LAY, RFu r, mem) := by
  exact r_if (t := 280) hP d19_253 (by decide) kt kf
theorem b19_256 {d : Nat} {P : xPr} {Q : xQr} {r : Nat} {mem : Nat → Nat → Int32} (hP : Cl d none 19 P Q) {x1 : Int32}
    (k : xCall d 76 [.ref 1, .int (nI 42)] (LAY, RFu r, mem) (Bk P 262 [.ref 99, .int x1] [] (0, 0))) : P 256 [.ref 99, .int x1] [] (0, 0) (LAY, RFu r, mem) := by
  refine r_aload_n hP d19_256 rfl ?_
  refine r_getr (a := 1) hP d19_257 fr_2_24 rfl ly_99 rg_99_5 ?_
  refine r_bipush (v := nI 42) hP d19_260 rfl ?_
  exact r_callv (As := [.int (nI 42)]) (S := []) hP d19_262 cr_2_45 (by decide +kernel) rfl (by simp [Value.category]) rfl ly_1 (by simp [Value.category]) ⟨Nat.zero_le _, Nat.zero_le _⟩ k
theorem b19_265 {d : Nat} {P : xPr} {Q : xQr} {r : Nat} {mem : Nat → Nat → Int32} (hP : Cl d none 19 P Q) {x1 : Int32} {y0 : Int32}
    (kt : y0 = 0 → P 280 [.ref 99, .int x1] [] (0, 0) (LAY, RFu r, mem)) (kf : ¬ y0 = 0 → P 268 [.ref 99, .int x1] [] (0, 0) (LAY, RFu r, mem)) : P 265 [.ref 99, .int x1] [.int y0] (0, 0) (LAY, RFu r, mem) := by
  exact r_if (t := 280) hP d19_265 (by decide) kt kf
theorem b19_268 {d : Nat} {P : xPr} {Q : xQr} {r : Nat} {mem : Nat → Nat → Int32} (hP : Cl d none 19 P Q) {x1 : Int32}
    (k : xCall d 22 [.ref 99, .int x1] (LAY, RFu r, mem) (Bk P 270 [.ref 99, .int x1] [] (0, 0))) : P 268 [.ref 99, .int x1] [] (0, 0) (LAY, RFu r, mem) := by
  refine r_aload_n hP d19_268 rfl ?_
  refine r_iload_n hP d19_269 rfl ?_
  exact r_callv (As := [.int x1]) (S := []) hP d19_270 cr_2_56 (by decide +kernel) rfl (by simp [Value.category]) rfl ly_99 (by simp [Value.category]) ⟨Nat.zero_le _, Nat.zero_le _⟩ k
theorem b19_273 {d : Nat} {P : xPr} {Q : xQr} {r : Nat} {mem : Nat → Nat → Int32} (hP : Cl d none 19 P Q) {v0 : Value} {v1 : Value} {y0 : Int32}
    (kt : y0 = 0 → P 280 [v0, v1] [] (0, 0) (LAY, RFu r, mem)) (kf : ¬ y0 = 0 → P 276 [v0, v1] [] (0, 0) (LAY, RFu r, mem)) : P 273 [v0, v1] [.int y0] (0, 0) (LAY, RFu r, mem) := by
  exact r_if (t := 280) hP d19_273 (by decide) kt kf
theorem b19_276 {d : Nat} {P : xPr} {Q : xQr} {r : Nat} {mem : Nat → Nat → Int32} (hP : Cl d none 19 P Q) {v0 : Value} {v1 : Value}
    (k : P 281 [v0, v1] [.int (nI 1)] (0, 0) (LAY, RFu r, mem)) : P 276 [v0, v1] [] (0, 0) (LAY, RFu r, mem) := by
  refine r_iconst (v := nI 1) hP d19_276 rfl ?_
  refine r_goto (t := 281) hP d19_277 (by decide) ?_
  exact k
theorem b19_280 {d : Nat} {P : xPr} {Q : xQr} {r : Nat} {mem : Nat → Nat → Int32} (hP : Cl d none 19 P Q) {v0 : Value} {v1 : Value}
    (k : P 281 [v0, v1] [.int (nI 0)] (0, 0) (LAY, RFu r, mem)) : P 280 [v0, v1] [] (0, 0) (LAY, RFu r, mem) := by
  refine r_iconst (v := nI 0) hP d19_280 rfl ?_
  exact k
theorem b19_281 {d : Nat} {P : xPr} {Q : xQr} {r : Nat} {mem : Nat → Nat → Int32} (hP : Cl d none 19 P Q) {v0 : Value} {v1 : Value} {y0 : Int32} (hzr : y0 = 0 ∨ y0 = 1)
    (k : Q (some (.int y0)) (LAY, RFu r, mem)) : P 281 [v0, v1] [.int y0] (0, 0) (LAY, RFu r, mem) := by
  exact r_zret hP d19_281 rfl hzr k
theorem b19_282 {d : Nat} {P : xPr} {Q : xQr} {r : Nat} {mem : Nat → Nat → Int32} (hP : Cl d none 19 P Q) {v0 : Value} {v1 : Value} (hzr : nI 0 = 0 ∨ nI 0 = 1)
    (k : Q (some (.int (nI 0))) (LAY, RFu r, mem)) : P 282 [v0, v1] [] (0, 0) (LAY, RFu r, mem) := by
  refine r_iconst (v := nI 0) hP d19_282 rfl ?_
  exact r_zret hP d19_283 rfl hzr k
theorem d20_0 : decode (xB 20) 0 = .ok (.aload_n 0, 1) := by decide +kernel
theorem d20_1 : decode (xB 20) 1 = .ok (.getfield 15, 3) := by decide +kernel
theorem d20_4 : decode (xB 20) 4 = .ok (.iload_n 1, 1) := by decide +kernel
theorem d20_5 : decode (xB 20) 5 = .ok (.aload_n 0, 1) := by decide +kernel
theorem d20_6 : decode (xB 20) 6 = .ok (.getfield 24, 3) := by decide +kernel
theorem d20_9 : decode (xB 20) 9 = .ok (.bipush 9, 2) := by decide +kernel
theorem d20_11 : decode (xB 20) 11 = .ok (.invokevirtual 68, 3) := by decide +kernel
theorem d20_14 : decode (xB 20) 14 = .ok (.iastore, 1) := by decide +kernel
theorem d20_15 : decode (xB 20) 15 = .ok (.aload_n 0, 1) := by decide +kernel
theorem d20_16 : decode (xB 20) 16 = .ok (.getfield 15, 3) := by decide +kernel
theorem d20_19 : decode (xB 20) 19 = .ok (.iload_n 1, 1) := by decide +kernel
theorem d20_20 : decode (xB 20) 20 = .ok (.iaload, 1) := by decide +kernel
theorem d20_21 : decode (xB 20) 21 = .ok (.iconst (-1), 1) := by decide +kernel
theorem d20_22 : decode (xB 20) 22 = .ok (.if_icmp .eq 7, 3) := by decide +kernel
theorem d20_25 : decode (xB 20) 25 = .ok (.iconst 1, 1) := by decide +kernel
theorem d20_26 : decode (xB 20) 26 = .ok (.goto 4, 3) := by decide +kernel
theorem d20_29 : decode (xB 20) 29 = .ok (.iconst 0, 1) := by decide +kernel
theorem d20_30 : decode (xB 20) 30 = .ok (.ireturn, 1) := by decide +kernel
theorem b20_0 {d : Nat} {P : xPr} {Q : xQr} {r : Nat} {mem : Nat → Nat → Int32} (hP : Cl d none 20 P Q) {p0 : Int32}
    (k : xCall d 77 [.ref 1, .int (nI 9)] (LAY, RFu r, mem) (Bk P 11 [.ref 99, .int p0] [.int p0, .ref 101] (0, 0))) : P 0 [.ref 99, .int p0] [] (0, 0) (LAY, RFu r, mem) := by
  refine r_aload_n hP d20_0 rfl ?_
  refine r_getr (a := 101) hP d20_1 fr_2_15 rfl ly_99 rg_99_1 ?_
  refine r_iload_n hP d20_4 rfl ?_
  refine r_aload_n hP d20_5 rfl ?_
  refine r_getr (a := 1) hP d20_6 fr_2_24 rfl ly_99 rg_99_5 ?_
  refine r_bipush (v := nI 9) hP d20_9 rfl ?_
  exact r_callv (As := [.int (nI 9)]) (S := [.int p0, .ref 101]) hP d20_11 cr_2_68 (by decide +kernel) rfl (by simp [Value.category]) rfl ly_1 (by simp [Value.category]) ⟨Nat.zero_le _, Nat.zero_le _⟩ k
theorem b20_14 {d : Nat} {P : xPr} {Q : xQr} {r : Nat} {mem : Nat → Nat → Int32} (hP : Cl d none 20 P Q) {x1 : Int32} {y1 : Int32} {y2 : Int32} (hi14 : vp_in y1 60) (hi20 : vp_in x1 60)
    (kt : ((xu2 mem 101 y1.toNatClampNeg y2) 101 x1.toNatClampNeg) = (-1) → P 29 [.ref 99, .int x1] [] (0, 0) (LAY, RFu r, xu2 mem 101 y1.toNatClampNeg y2)) (kf : ¬ ((xu2 mem 101 y1.toNatClampNeg y2) 101 x1.toNatClampNeg) = (-1) → P 25 [.ref 99, .int x1] [] (0, 0) (LAY, RFu r, xu2 mem 101 y1.toNatClampNeg y2)) : P 14 [.ref 99, .int x1] [.int y2, .int y1, .ref 101] (0, 0) (LAY, RFu r, mem) := by
  refine r_iastore hP d20_14 ly_101 hi14 ?_
  refine r_aload_n hP d20_15 rfl ?_
  refine r_getr (a := 101) hP d20_16 fr_2_15 rfl ly_99 rg_99_1 ?_
  refine r_iload_n hP d20_19 rfl ?_
  refine r_iaload hP d20_20 ly_101 hi20 ?_
  refine r_iconst (v := (-1)) hP d20_21 rfl ?_
  exact r_icmp (t := 29) hP d20_22 (by decide) kt kf
theorem b20_25 {d : Nat} {P : xPr} {Q : xQr} {r : Nat} {mem : Nat → Nat → Int32} (hP : Cl d none 20 P Q) {v0 : Value} {v1 : Value}
    (k : P 30 [v0, v1] [.int (nI 1)] (0, 0) (LAY, RFu r, mem)) : P 25 [v0, v1] [] (0, 0) (LAY, RFu r, mem) := by
  refine r_iconst (v := nI 1) hP d20_25 rfl ?_
  refine r_goto (t := 30) hP d20_26 (by decide) ?_
  exact k
theorem b20_29 {d : Nat} {P : xPr} {Q : xQr} {r : Nat} {mem : Nat → Nat → Int32} (hP : Cl d none 20 P Q) {v0 : Value} {v1 : Value}
    (k : P 30 [v0, v1] [.int (nI 0)] (0, 0) (LAY, RFu r, mem)) : P 29 [v0, v1] [] (0, 0) (LAY, RFu r, mem) := by
  refine r_iconst (v := nI 0) hP d20_29 rfl ?_
  exact k
theorem b20_30 {d : Nat} {P : xPr} {Q : xQr} {r : Nat} {mem : Nat → Nat → Int32} (hP : Cl d none 20 P Q) {v0 : Value} {v1 : Value} {y0 : Int32} (hzr : y0 = 0 ∨ y0 = 1)
    (k : Q (some (.int y0)) (LAY, RFu r, mem)) : P 30 [v0, v1] [.int y0] (0, 0) (LAY, RFu r, mem) := by
  exact r_zret hP d20_30 rfl hzr k
theorem d21_0 : decode (xB 21) 0 = .ok (.aload_n 0, 1) := by decide +kernel
theorem d21_1 : decode (xB 21) 1 = .ok (.getfield 18, 3) := by decide +kernel
theorem d21_4 : decode (xB 21) 4 = .ok (.iload_n 1, 1) := by decide +kernel
theorem d21_5 : decode (xB 21) 5 = .ok (.aload_n 0, 1) := by decide +kernel
theorem d21_6 : decode (xB 21) 6 = .ok (.getfield 24, 3) := by decide +kernel
theorem d21_9 : decode (xB 21) 9 = .ok (.bipush 9, 2) := by decide +kernel
theorem d21_11 : decode (xB 21) 11 = .ok (.invokevirtual 68, 3) := by decide +kernel
theorem d21_14 : decode (xB 21) 14 = .ok (.iastore, 1) := by decide +kernel
theorem d21_15 : decode (xB 21) 15 = .ok (.aload_n 0, 1) := by decide +kernel
theorem d21_16 : decode (xB 21) 16 = .ok (.getfield 18, 3) := by decide +kernel
theorem d21_19 : decode (xB 21) 19 = .ok (.iload_n 1, 1) := by decide +kernel
theorem d21_20 : decode (xB 21) 20 = .ok (.iaload, 1) := by decide +kernel
theorem d21_21 : decode (xB 21) 21 = .ok (.iconst (-1), 1) := by decide +kernel
theorem d21_22 : decode (xB 21) 22 = .ok (.if_icmp .eq 7, 3) := by decide +kernel
theorem d21_25 : decode (xB 21) 25 = .ok (.iconst 1, 1) := by decide +kernel
theorem d21_26 : decode (xB 21) 26 = .ok (.goto 4, 3) := by decide +kernel
theorem d21_29 : decode (xB 21) 29 = .ok (.iconst 0, 1) := by decide +kernel
theorem d21_30 : decode (xB 21) 30 = .ok (.ireturn, 1) := by decide +kernel
theorem b21_0 {d : Nat} {P : xPr} {Q : xQr} {r : Nat} {mem : Nat → Nat → Int32} (hP : Cl d none 21 P Q) {p0 : Int32}
    (k : xCall d 77 [.ref 1, .int (nI 9)] (LAY, RFu r, mem) (Bk P 11 [.ref 99, .int p0] [.int p0, .ref 102] (0, 0))) : P 0 [.ref 99, .int p0] [] (0, 0) (LAY, RFu r, mem) := by
  refine r_aload_n hP d21_0 rfl ?_
  refine r_getr (a := 102) hP d21_1 fr_2_18 rfl ly_99 rg_99_2 ?_
  refine r_iload_n hP d21_4 rfl ?_
  refine r_aload_n hP d21_5 rfl ?_
  refine r_getr (a := 1) hP d21_6 fr_2_24 rfl ly_99 rg_99_5 ?_
  refine r_bipush (v := nI 9) hP d21_9 rfl ?_
  exact r_callv (As := [.int (nI 9)]) (S := [.int p0, .ref 102]) hP d21_11 cr_2_68 (by decide +kernel) rfl (by simp [Value.category]) rfl ly_1 (by simp [Value.category]) ⟨Nat.zero_le _, Nat.zero_le _⟩ k
theorem b21_14 {d : Nat} {P : xPr} {Q : xQr} {r : Nat} {mem : Nat → Nat → Int32} (hP : Cl d none 21 P Q) {x1 : Int32} {y1 : Int32} {y2 : Int32} (hi14 : vp_in y1 60) (hi20 : vp_in x1 60)
    (kt : ((xu2 mem 102 y1.toNatClampNeg y2) 102 x1.toNatClampNeg) = (-1) → P 29 [.ref 99, .int x1] [] (0, 0) (LAY, RFu r, xu2 mem 102 y1.toNatClampNeg y2)) (kf : ¬ ((xu2 mem 102 y1.toNatClampNeg y2) 102 x1.toNatClampNeg) = (-1) → P 25 [.ref 99, .int x1] [] (0, 0) (LAY, RFu r, xu2 mem 102 y1.toNatClampNeg y2)) : P 14 [.ref 99, .int x1] [.int y2, .int y1, .ref 102] (0, 0) (LAY, RFu r, mem) := by
  refine r_iastore hP d21_14 ly_102 hi14 ?_
  refine r_aload_n hP d21_15 rfl ?_
  refine r_getr (a := 102) hP d21_16 fr_2_18 rfl ly_99 rg_99_2 ?_
  refine r_iload_n hP d21_19 rfl ?_
  refine r_iaload hP d21_20 ly_102 hi20 ?_
  refine r_iconst (v := (-1)) hP d21_21 rfl ?_
  exact r_icmp (t := 29) hP d21_22 (by decide) kt kf
theorem b21_25 {d : Nat} {P : xPr} {Q : xQr} {r : Nat} {mem : Nat → Nat → Int32} (hP : Cl d none 21 P Q) {v0 : Value} {v1 : Value}
    (k : P 30 [v0, v1] [.int (nI 1)] (0, 0) (LAY, RFu r, mem)) : P 25 [v0, v1] [] (0, 0) (LAY, RFu r, mem) := by
  refine r_iconst (v := nI 1) hP d21_25 rfl ?_
  refine r_goto (t := 30) hP d21_26 (by decide) ?_
  exact k
theorem b21_29 {d : Nat} {P : xPr} {Q : xQr} {r : Nat} {mem : Nat → Nat → Int32} (hP : Cl d none 21 P Q) {v0 : Value} {v1 : Value}
    (k : P 30 [v0, v1] [.int (nI 0)] (0, 0) (LAY, RFu r, mem)) : P 29 [v0, v1] [] (0, 0) (LAY, RFu r, mem) := by
  refine r_iconst (v := nI 0) hP d21_29 rfl ?_
  exact k
theorem b21_30 {d : Nat} {P : xPr} {Q : xQr} {r : Nat} {mem : Nat → Nat → Int32} (hP : Cl d none 21 P Q) {v0 : Value} {v1 : Value} {y0 : Int32} (hzr : y0 = 0 ∨ y0 = 1)
    (k : Q (some (.int y0)) (LAY, RFu r, mem)) : P 30 [v0, v1] [.int y0] (0, 0) (LAY, RFu r, mem) := by
  exact r_zret hP d21_30 rfl hzr k
theorem d22_0 : decode (xB 22) 0 = .ok (.aload_n 0, 1) := by decide +kernel
theorem d22_1 : decode (xB 22) 1 = .ok (.getfield 21, 3) := by decide +kernel
theorem d22_4 : decode (xB 22) 4 = .ok (.iload_n 1, 1) := by decide +kernel
theorem d22_5 : decode (xB 22) 5 = .ok (.aload_n 0, 1) := by decide +kernel
theorem d22_6 : decode (xB 22) 6 = .ok (.getfield 24, 3) := by decide +kernel
theorem d22_9 : decode (xB 22) 9 = .ok (.iconst 2, 1) := by decide +kernel
theorem d22_10 : decode (xB 22) 10 = .ok (.invokevirtual 72, 3) := by decide +kernel
theorem d22_13 : decode (xB 22) 13 = .ok (.iastore, 1) := by decide +kernel
theorem d22_14 : decode (xB 22) 14 = .ok (.aload_n 0, 1) := by decide +kernel
theorem d22_15 : decode (xB 22) 15 = .ok (.getfield 21, 3) := by decide +kernel
theorem d22_18 : decode (xB 22) 18 = .ok (.iload_n 1, 1) := by decide +kernel
theorem d22_19 : decode (xB 22) 19 = .ok (.iaload, 1) := by decide +kernel
theorem d22_20 : decode (xB 22) 20 = .ok (.iconst (-1), 1) := by decide +kernel
theorem d22_21 : decode (xB 22) 21 = .ok (.if_icmp .eq 7, 3) := by decide +kernel
theorem d22_24 : decode (xB 22) 24 = .ok (.iconst 1, 1) := by decide +kernel
theorem d22_25 : decode (xB 22) 25 = .ok (.goto 4, 3) := by decide +kernel
theorem d22_28 : decode (xB 22) 28 = .ok (.iconst 0, 1) := by decide +kernel
theorem d22_29 : decode (xB 22) 29 = .ok (.ireturn, 1) := by decide +kernel
theorem b22_0 {d : Nat} {P : xPr} {Q : xQr} {r : Nat} {mem : Nat → Nat → Int32} (hP : Cl d none 22 P Q) {p0 : Int32}
    (k : xCall d 78 [.ref 1, .int (nI 2)] (LAY, RFu r, mem) (Bk P 10 [.ref 99, .int p0] [.int p0, .ref 103] (0, 0))) : P 0 [.ref 99, .int p0] [] (0, 0) (LAY, RFu r, mem) := by
  refine r_aload_n hP d22_0 rfl ?_
  refine r_getr (a := 103) hP d22_1 fr_2_21 rfl ly_99 rg_99_3 ?_
  refine r_iload_n hP d22_4 rfl ?_
  refine r_aload_n hP d22_5 rfl ?_
  refine r_getr (a := 1) hP d22_6 fr_2_24 rfl ly_99 rg_99_5 ?_
  refine r_iconst (v := nI 2) hP d22_9 rfl ?_
  exact r_callv (As := [.int (nI 2)]) (S := [.int p0, .ref 103]) hP d22_10 cr_2_72 (by decide +kernel) rfl (by simp [Value.category]) rfl ly_1 (by simp [Value.category]) ⟨Nat.zero_le _, Nat.zero_le _⟩ k
theorem b22_13 {d : Nat} {P : xPr} {Q : xQr} {r : Nat} {mem : Nat → Nat → Int32} (hP : Cl d none 22 P Q) {x1 : Int32} {y1 : Int32} {y2 : Int32} (hi13 : vp_in y1 60) (hi19 : vp_in x1 60)
    (kt : ((xu2 mem 103 y1.toNatClampNeg y2) 103 x1.toNatClampNeg) = (-1) → P 28 [.ref 99, .int x1] [] (0, 0) (LAY, RFu r, xu2 mem 103 y1.toNatClampNeg y2)) (kf : ¬ ((xu2 mem 103 y1.toNatClampNeg y2) 103 x1.toNatClampNeg) = (-1) → P 24 [.ref 99, .int x1] [] (0, 0) (LAY, RFu r, xu2 mem 103 y1.toNatClampNeg y2)) : P 13 [.ref 99, .int x1] [.int y2, .int y1, .ref 103] (0, 0) (LAY, RFu r, mem) := by
  refine r_iastore hP d22_13 ly_103 hi13 ?_
  refine r_aload_n hP d22_14 rfl ?_
  refine r_getr (a := 103) hP d22_15 fr_2_21 rfl ly_99 rg_99_3 ?_
  refine r_iload_n hP d22_18 rfl ?_
  refine r_iaload hP d22_19 ly_103 hi19 ?_
  refine r_iconst (v := (-1)) hP d22_20 rfl ?_
  exact r_icmp (t := 28) hP d22_21 (by decide) kt kf
theorem b22_24 {d : Nat} {P : xPr} {Q : xQr} {r : Nat} {mem : Nat → Nat → Int32} (hP : Cl d none 22 P Q) {v0 : Value} {v1 : Value}
    (k : P 29 [v0, v1] [.int (nI 1)] (0, 0) (LAY, RFu r, mem)) : P 24 [v0, v1] [] (0, 0) (LAY, RFu r, mem) := by
  refine r_iconst (v := nI 1) hP d22_24 rfl ?_
  refine r_goto (t := 29) hP d22_25 (by decide) ?_
  exact k
theorem b22_28 {d : Nat} {P : xPr} {Q : xQr} {r : Nat} {mem : Nat → Nat → Int32} (hP : Cl d none 22 P Q) {v0 : Value} {v1 : Value}
    (k : P 29 [v0, v1] [.int (nI 0)] (0, 0) (LAY, RFu r, mem)) : P 28 [v0, v1] [] (0, 0) (LAY, RFu r, mem) := by
  refine r_iconst (v := nI 0) hP d22_28 rfl ?_
  exact k
theorem b22_29 {d : Nat} {P : xPr} {Q : xQr} {r : Nat} {mem : Nat → Nat → Int32} (hP : Cl d none 22 P Q) {v0 : Value} {v1 : Value} {y0 : Int32} (hzr : y0 = 0 ∨ y0 = 1)
    (k : Q (some (.int y0)) (LAY, RFu r, mem)) : P 29 [v0, v1] [.int y0] (0, 0) (LAY, RFu r, mem) := by
  exact r_zret hP d22_29 rfl hzr k
theorem d23_0 : decode (xB 23) 0 = .ok (.aload_n 0, 1) := by decide +kernel
theorem d23_1 : decode (xB 23) 1 = .ok (.getfield 21, 3) := by decide +kernel
theorem d23_4 : decode (xB 23) 4 = .ok (.iload_n 1, 1) := by decide +kernel
theorem d23_5 : decode (xB 23) 5 = .ok (.aload_n 0, 1) := by decide +kernel
theorem d23_6 : decode (xB 23) 6 = .ok (.getfield 24, 3) := by decide +kernel
theorem d23_9 : decode (xB 23) 9 = .ok (.bipush 8, 2) := by decide +kernel
theorem d23_11 : decode (xB 23) 11 = .ok (.invokevirtual 68, 3) := by decide +kernel
theorem d23_14 : decode (xB 23) 14 = .ok (.iastore, 1) := by decide +kernel
theorem d23_15 : decode (xB 23) 15 = .ok (.aload_n 0, 1) := by decide +kernel
theorem d23_16 : decode (xB 23) 16 = .ok (.getfield 21, 3) := by decide +kernel
theorem d23_19 : decode (xB 23) 19 = .ok (.iload_n 1, 1) := by decide +kernel
theorem d23_20 : decode (xB 23) 20 = .ok (.iaload, 1) := by decide +kernel
theorem d23_21 : decode (xB 23) 21 = .ok (.iconst (-1), 1) := by decide +kernel
theorem d23_22 : decode (xB 23) 22 = .ok (.if_icmp .eq 7, 3) := by decide +kernel
theorem d23_25 : decode (xB 23) 25 = .ok (.iconst 1, 1) := by decide +kernel
theorem d23_26 : decode (xB 23) 26 = .ok (.goto 4, 3) := by decide +kernel
theorem d23_29 : decode (xB 23) 29 = .ok (.iconst 0, 1) := by decide +kernel
theorem d23_30 : decode (xB 23) 30 = .ok (.ireturn, 1) := by decide +kernel
theorem b23_0 {d : Nat} {P : xPr} {Q : xQr} {r : Nat} {mem : Nat → Nat → Int32} (hP : Cl d none 23 P Q) {p0 : Int32}
    (k : xCall d 77 [.ref 1, .int (nI 8)] (LAY, RFu r, mem) (Bk P 11 [.ref 99, .int p0] [.int p0, .ref 103] (0, 0))) : P 0 [.ref 99, .int p0] [] (0, 0) (LAY, RFu r, mem) := by
  refine r_aload_n hP d23_0 rfl ?_
  refine r_getr (a := 103) hP d23_1 fr_2_21 rfl ly_99 rg_99_3 ?_
  refine r_iload_n hP d23_4 rfl ?_
  refine r_aload_n hP d23_5 rfl ?_
  refine r_getr (a := 1) hP d23_6 fr_2_24 rfl ly_99 rg_99_5 ?_
  refine r_bipush (v := nI 8) hP d23_9 rfl ?_
  exact r_callv (As := [.int (nI 8)]) (S := [.int p0, .ref 103]) hP d23_11 cr_2_68 (by decide +kernel) rfl (by simp [Value.category]) rfl ly_1 (by simp [Value.category]) ⟨Nat.zero_le _, Nat.zero_le _⟩ k
theorem b23_14 {d : Nat} {P : xPr} {Q : xQr} {r : Nat} {mem : Nat → Nat → Int32} (hP : Cl d none 23 P Q) {x1 : Int32} {y1 : Int32} {y2 : Int32} (hi14 : vp_in y1 60) (hi20 : vp_in x1 60)
    (kt : ((xu2 mem 103 y1.toNatClampNeg y2) 103 x1.toNatClampNeg) = (-1) → P 29 [.ref 99, .int x1] [] (0, 0) (LAY, RFu r, xu2 mem 103 y1.toNatClampNeg y2)) (kf : ¬ ((xu2 mem 103 y1.toNatClampNeg y2) 103 x1.toNatClampNeg) = (-1) → P 25 [.ref 99, .int x1] [] (0, 0) (LAY, RFu r, xu2 mem 103 y1.toNatClampNeg y2)) : P 14 [.ref 99, .int x1] [.int y2, .int y1, .ref 103] (0, 0) (LAY, RFu r, mem) := by
  refine r_iastore hP d23_14 ly_103 hi14 ?_
  refine r_aload_n hP d23_15 rfl ?_
  refine r_getr (a := 103) hP d23_16 fr_2_21 rfl ly_99 rg_99_3 ?_
  refine r_iload_n hP d23_19 rfl ?_
  refine r_iaload hP d23_20 ly_103 hi20 ?_
  refine r_iconst (v := (-1)) hP d23_21 rfl ?_
  exact r_icmp (t := 29) hP d23_22 (by decide) kt kf
theorem b23_25 {d : Nat} {P : xPr} {Q : xQr} {r : Nat} {mem : Nat → Nat → Int32} (hP : Cl d none 23 P Q) {v0 : Value} {v1 : Value}
    (k : P 30 [v0, v1] [.int (nI 1)] (0, 0) (LAY, RFu r, mem)) : P 25 [v0, v1] [] (0, 0) (LAY, RFu r, mem) := by
  refine r_iconst (v := nI 1) hP d23_25 rfl ?_
  refine r_goto (t := 30) hP d23_26 (by decide) ?_
  exact k
theorem b23_29 {d : Nat} {P : xPr} {Q : xQr} {r : Nat} {mem : Nat → Nat → Int32} (hP : Cl d none 23 P Q) {v0 : Value} {v1 : Value}
    (k : P 30 [v0, v1] [.int (nI 0)] (0, 0) (LAY, RFu r, mem)) : P 29 [v0, v1] [] (0, 0) (LAY, RFu r, mem) := by
  refine r_iconst (v := nI 0) hP d23_29 rfl ?_
  exact k
theorem b23_30 {d : Nat} {P : xPr} {Q : xQr} {r : Nat} {mem : Nat → Nat → Int32} (hP : Cl d none 23 P Q) {v0 : Value} {v1 : Value} {y0 : Int32} (hzr : y0 = 0 ∨ y0 = 1)
    (k : Q (some (.int y0)) (LAY, RFu r, mem)) : P 30 [v0, v1] [.int y0] (0, 0) (LAY, RFu r, mem) := by
  exact r_zret hP d23_30 rfl hzr k
theorem d25_0 : decode (xB 25) 0 = .ok (.aload_n 1, 1) := by decide +kernel
theorem d25_1 : decode (xB 25) 1 = .ok (.getfield 34, 3) := by decide +kernel
theorem d25_4 : decode (xB 25) 4 = .ok (.iconst 0, 1) := by decide +kernel
theorem d25_5 : decode (xB 25) 5 = .ok (.aload_n 0, 1) := by decide +kernel
theorem d25_6 : decode (xB 25) 6 = .ok (.getfield 15, 3) := by decide +kernel
theorem d25_9 : decode (xB 25) 9 = .ok (.aload_n 0, 1) := by decide +kernel
theorem d25_10 : decode (xB 25) 10 = .ok (.getfield 37, 3) := by decide +kernel
theorem d25_13 : decode (xB 25) 13 = .ok (.aaload, 1) := by decide +kernel
theorem d25_14 : decode (xB 25) 14 = .ok (.iconst 0, 1) := by decide +kernel
theorem d25_15 : decode (xB 25) 15 = .ok (.bipush 121, 2) := by decide +kernel
theorem d25_17 : decode (xB 25) 17 = .ok (.invokestatic 41, 3) := by decide +kernel
theorem d25_20 : decode (xB 25) 20 = .ok (.aload_n 0, 1) := by decide +kernel
theorem d25_21 : decode (xB 25) 21 = .ok (.aload_n 0, 1) := by decide +kernel
theorem d25_22 : decode (xB 25) 22 = .ok (.getfield 37, 3) := by decide +kernel
theorem d25_25 : decode (xB 25) 25 = .ok (.iconst 1, 1) := by decide +kernel
theorem d25_26 : decode (xB 25) 26 = .ok (.iadd, 1) := by decide +kernel
theorem d25_27 : decode (xB 25) 27 = .ok (.bipush 10, 2) := by decide +kernel
theorem d25_29 : decode (xB 25) 29 = .ok (.irem, 1) := by decide +kernel
theorem d25_30 : decode (xB 25) 30 = .ok (.putfield 37, 3) := by decide +kernel
theorem d25_33 : decode (xB 25) 33 = .ok (.aload_n 0, 1) := by decide +kernel
theorem d25_34 : decode (xB 25) 34 = .ok (.bipush 10, 2) := by decide +kernel
theorem d25_36 : decode (xB 25) 36 = .ok (.aload_n 0, 1) := by decide +kernel
theorem d25_37 : decode (xB 25) 37 = .ok (.getfield 47, 3) := by decide +kernel
theorem d25_40 : decode (xB 25) 40 = .ok (.iconst 1, 1) := by decide +kernel
theorem d25_41 : decode (xB 25) 41 = .ok (.iadd, 1) := by decide +kernel
theorem d25_42 : decode (xB 25) 42 = .ok (.invokestatic 50, 3) := by decide +kernel
theorem d25_45 : decode (xB 25) 45 = .ok (.putfield 47, 3) := by decide +kernel
theorem d25_48 : decode (xB 25) 48 = .ok (.return_, 1) := by decide +kernel
theorem b25_0 {d : Nat} {P : xPr} {Q : xQr} {r : Nat} {mem : Nat → Nat → Int32} (hP : Cl d none 25 P Q) {s : Nat} (hs : isState s) (hi13 : vp_in (mem 55 2) 10) (hz29 : ¬ (nI 10) = 0)
    (k : Q none (LAY, RFu r, xu2 (xu2 (xuA mem (57 + (mem 55 2).toNatClampNeg) (va_cpy (mem (s + 1)) (mem (57 + (mem 55 2).toNatClampNeg)) 0 0 121)) 55 2 ((((xuA mem (57 + (mem 55 2).toNatClampNeg) (va_cpy (mem (s + 1)) (mem (57 + (mem 55 2).toNatClampNeg)) 0 0 121)) 55 2) + (nI 1)) - (((xuA mem (57 + (mem 55 2).toNatClampNeg) (va_cpy (mem (s + 1)) (mem (57 + (mem 55 2).toNatClampNeg)) 0 0 121)) 55 2) + (nI 1)) / (nI 10) * (nI 10))) 55 0 (if ((xu2 (xuA mem (57 + (mem 55 2).toNatClampNeg) (va_cpy (mem (s + 1)) (mem (57 + (mem 55 2).toNatClampNeg)) 0 0 121)) 55 2 ((((xuA mem (57 + (mem 55 2).toNatClampNeg) (va_cpy (mem (s + 1)) (mem (57 + (mem 55 2).toNatClampNeg)) 0 0 121)) 55 2) + (nI 1)) - (((xuA mem (57 + (mem 55 2).toNatClampNeg) (va_cpy (mem (s + 1)) (mem (57 + (mem 55 2).toNatClampNeg)) 0 0 121)) 55 2) + (nI 1)) / (nI 10) * (nI 10))) 55 0) + (nI 1) < nI 10 then ((xu2 (xuA mem (57 + (mem 55 2).toNatClampNeg) (va_cpy (mem (s + 1)) (mem (57 + (mem 55 2).toNatClampNeg)) 0 0 121)) 55 2 ((((xuA mem (57 + (mem 55 2).toNatClampNeg) (va_cpy (mem (s + 1)) (mem (57 + (mem 55 2).toNatClampNeg)) 0 0 121)) 55 2) + (nI 1)) - (((xuA mem (57 + (mem 55 2).toNatClampNeg) (va_cpy (mem (s + 1)) (mem (57 + (mem 55 2).toNatClampNeg)) 0 0 121)) 55 2) + (nI 1)) / (nI 10) * (nI 10))) 55 0) + (nI 1) else nI 10))) : P 0 [.ref 55, .ref s] [] (0, 0) (LAY, RFu r, mem) := by
  refine r_aload_n hP d25_0 rfl ?_
  refine r_getr (a := (s + 1)) hP d25_1 fr_3_34 rfl (lt_8 hs) (rt_8_0 hs) ?_
  refine r_iconst (v := nI 0) hP d25_4 rfl ?_
  refine r_aload_n hP d25_5 rfl ?_
  refine r_getr (a := 56) hP d25_6 fr_3_15 rfl ly_55 rg_55_1 ?_
  refine r_aload_n hP d25_9 rfl ?_
  refine r_geti hP d25_10 fr_3_37 rfl ly_55 ?_
  refine r_aaload (b := (57 + (mem 55 2).toNatClampNeg)) hP d25_13 (by decide) ly_56 hi13 (rg2_56 (vp_lt hi13)) ?_
  refine r_iconst (v := nI 0) hP d25_14 rfl ?_
  refine r_bipush (v := nI 121) hP d25_15 rfl ?_
  refine r_copy (sp' := 0) (dp' := 0) (m' := 121) hP d25_17 cr_3_41 (lt_8_0 hs) (ly2_56 (vp_lt hi13)) (by decide) (by decide) (by decide) rfl rfl rfl (by decide) (by decide) (by decide) ?_
  refine r_aload_n hP d25_20 rfl ?_
  refine r_aload_n hP d25_21 rfl ?_
  refine r_geti hP d25_22 fr_3_37 rfl ly_55 ?_
  refine r_iconst (v := nI 1) hP d25_25 rfl ?_
  refine r_iadd hP d25_26 ?_
  refine r_bipush (v := nI 10) hP d25_27 rfl ?_
  refine r_irem hP d25_29 hz29 ?_
  refine r_puti hP d25_30 fr_3_37 rfl (fun q => by cases q) ly_55 ?_
  refine r_aload_n hP d25_33 rfl ?_
  refine r_bipush (v := nI 10) hP d25_34 rfl ?_
  refine r_aload_n hP d25_36 rfl ?_
  refine r_geti hP d25_37 fr_3_47 rfl ly_55 ?_
  refine r_iconst (v := nI 1) hP d25_40 rfl ?_
  refine r_iadd hP d25_41 ?_
  refine r_min hP d25_42 cr_3_50 (by simp [Value.category]) ?_
  refine r_puti hP d25_45 fr_3_47 rfl (fun q => by cases q) ly_55 ?_
  exact r_vret hP d25_48 rfl k
theorem d26_0 : decode (xB 26) 0 = .ok (.aload_n 0, 1) := by decide +kernel
theorem d26_1 : decode (xB 26) 1 = .ok (.getfield 47, 3) := by decide +kernel
theorem d26_4 : decode (xB 26) 4 = .ok (.ifCond .ne 5, 3) := by decide +kernel
theorem d26_7 : decode (xB 26) 7 = .ok (.iconst 0, 1) := by decide +kernel
theorem d26_8 : decode (xB 26) 8 = .ok (.ireturn, 1) := by decide +kernel
theorem d26_9 : decode (xB 26) 9 = .ok (.aload_n 0, 1) := by decide +kernel
theorem d26_10 : decode (xB 26) 10 = .ok (.aload_n 0, 1) := by decide +kernel
theorem d26_11 : decode (xB 26) 11 = .ok (.getfield 37, 3) := by decide +kernel
theorem d26_14 : decode (xB 26) 14 = .ok (.bipush 10, 2) := by decide +kernel
theorem d26_16 : decode (xB 26) 16 = .ok (.iadd, 1) := by decide +kernel
theorem d26_17 : decode (xB 26) 17 = .ok (.iconst 1, 1) := by decide +kernel
theorem d26_18 : decode (xB 26) 18 = .ok (.isub, 1) := by decide +kernel
theorem d26_19 : decode (xB 26) 19 = .ok (.bipush 10, 2) := by decide +kernel
theorem d26_21 : decode (xB 26) 21 = .ok (.irem, 1) := by decide +kernel
theorem d26_22 : decode (xB 26) 22 = .ok (.putfield 37, 3) := by decide +kernel
theorem d26_25 : decode (xB 26) 25 = .ok (.aload_n 0, 1) := by decide +kernel
theorem d26_26 : decode (xB 26) 26 = .ok (.dup, 1) := by decide +kernel
theorem d26_27 : decode (xB 26) 27 = .ok (.getfield 47, 3) := by decide +kernel
theorem d26_30 : decode (xB 26) 30 = .ok (.iconst 1, 1) := by decide +kernel
theorem d26_31 : decode (xB 26) 31 = .ok (.isub, 1) := by decide +kernel
theorem d26_32 : decode (xB 26) 32 = .ok (.putfield 47, 3) := by decide +kernel
theorem d26_35 : decode (xB 26) 35 = .ok (.aload_n 0, 1) := by decide +kernel
theorem d26_36 : decode (xB 26) 36 = .ok (.getfield 15, 3) := by decide +kernel
theorem d26_39 : decode (xB 26) 39 = .ok (.aload_n 0, 1) := by decide +kernel
theorem d26_40 : decode (xB 26) 40 = .ok (.getfield 37, 3) := by decide +kernel
theorem d26_43 : decode (xB 26) 43 = .ok (.aaload, 1) := by decide +kernel
theorem d26_44 : decode (xB 26) 44 = .ok (.iconst 0, 1) := by decide +kernel
theorem d26_45 : decode (xB 26) 45 = .ok (.aload_n 1, 1) := by decide +kernel
theorem d26_46 : decode (xB 26) 46 = .ok (.getfield 34, 3) := by decide +kernel
theorem d26_49 : decode (xB 26) 49 = .ok (.iconst 0, 1) := by decide +kernel
theorem d26_50 : decode (xB 26) 50 = .ok (.bipush 121, 2) := by decide +kernel
theorem d26_52 : decode (xB 26) 52 = .ok (.invokestatic 41, 3) := by decide +kernel
theorem d26_55 : decode (xB 26) 55 = .ok (.iconst 1, 1) := by decide +kernel
theorem d26_56 : decode (xB 26) 56 = .ok (.ireturn, 1) := by decide +kernel
theorem b26_0 {d : Nat} {P : xPr} {Q : xQr} {r : Nat} {mem : Nat → Nat → Int32} (hP : Cl d none 26 P Q) {s : Nat} (hs : isState s)
    (kt : ¬ (mem 55 0) = 0 → P 9 [.ref 55, .ref s] [] (0, 0) (LAY, RFu r, mem)) (kf : (mem 55 0) = 0 → P 7 [.ref 55, .ref s] [] (0, 0) (LAY, RFu r, mem)) : P 0 [.ref 55, .ref s] [] (0, 0) (LAY, RFu r, mem) := by
  refine r_aload_n hP d26_0 rfl ?_
  refine r_geti hP d26_1 fr_3_47 rfl ly_55 ?_
  exact r_if (t := 9) hP d26_4 (by decide) kt (fun q => kf (Decidable.of_not_not q))
theorem b26_7 {d : Nat} {P : xPr} {Q : xQr} {r : Nat} {mem : Nat → Nat → Int32} (hP : Cl d none 26 P Q) {s : Nat} {v0 : Value} {v1 : Value} (hs : isState s) (hzr : nI 0 = 0 ∨ nI 0 = 1)
    (k : Q (some (.int (nI 0))) (LAY, RFu r, mem)) : P 7 [v0, v1] [] (0, 0) (LAY, RFu r, mem) := by
  refine r_iconst (v := nI 0) hP d26_7 rfl ?_
  exact r_zret hP d26_8 rfl hzr k
theorem b26_9 {d : Nat} {P : xPr} {Q : xQr} {r : Nat} {mem : Nat → Nat → Int32} (hP : Cl d none 26 P Q) {s : Nat} (hs : isState s) (hz21 : ¬ (nI 10) = 0) (hi43 : vp_in ((xu2 (xu2 mem 55 2 ((((mem 55 2) + (nI 10)) - (nI 1)) - (((mem 55 2) + (nI 10)) - (nI 1)) / (nI 10) * (nI 10))) 55 0 (((xu2 mem 55 2 ((((mem 55 2) + (nI 10)) - (nI 1)) - (((mem 55 2) + (nI 10)) - (nI 1)) / (nI 10) * (nI 10))) 55 0) - (nI 1))) 55 2) 10) (hzr : nI 1 = 0 ∨ nI 1 = 1)
    (k : Q (some (.int (nI 1))) (LAY, RFu r, xuA (xu2 (xu2 mem 55 2 ((((mem 55 2) + (nI 10)) - (nI 1)) - (((mem 55 2) + (nI 10)) - (nI 1)) / (nI 10) * (nI 10))) 55 0 (((xu2 mem 55 2 ((((mem 55 2) + (nI 10)) - (nI 1)) - (((mem 55 2) + (nI 10)) - (nI 1)) / (nI 10) * (nI 10))) 55 0) - (nI 1))) (s + 1) (va_cpy ((xu2 (xu2 mem 55 2 ((((mem 55 2) + (nI 10)) - (nI 1)) - (((mem 55 2) + (nI 10)) - (nI 1)) / (nI 10) * (nI 10))) 55 0 (((xu2 mem 55 2 ((((mem 55 2) + (nI 10)) - (nI 1)) - (((mem 55 2) + (nI 10)) - (nI 1)) / (nI 10) * (nI 10))) 55 0) - (nI 1))) (57 + ((xu2 (xu2 mem 55 2 ((((mem 55 2) + (nI 10)) - (nI 1)) - (((mem 55 2) + (nI 10)) - (nI 1)) / (nI 10) * (nI 10))) 55 0 (((xu2 mem 55 2 ((((mem 55 2) + (nI 10)) - (nI 1)) - (((mem 55 2) + (nI 10)) - (nI 1)) / (nI 10) * (nI 10))) 55 0) - (nI 1))) 55 2).toNatClampNeg)) ((xu2 (xu2 mem 55 2 ((((mem 55 2) + (nI 10)) - (nI 1)) - (((mem 55 2) + (nI 10)) - (nI 1)) / (nI 10) * (nI 10))) 55 0 (((xu2 mem 55 2 ((((mem 55 2) + (nI 10)) - (nI 1)) - (((mem 55 2) + (nI 10)) - (nI 1)) / (nI 10) * (nI 10))) 55 0) - (nI 1))) (s + 1)) 0 0 121))) : P 9 [.ref 55, .ref s] [] (0, 0) (LAY, RFu r, mem) := by
  refine r_aload_n hP d26_9 rfl ?_
  refine r_aload_n hP d26_10 rfl ?_
  refine r_geti hP d26_11 fr_3_37 rfl ly_55 ?_
  refine r_bipush (v := nI 10) hP d26_14 rfl ?_
  refine r_iadd hP d26_16 ?_
  refine r_iconst (v := nI 1) hP d26_17 rfl ?_
  refine r_isub hP d26_18 ?_
  refine r_bipush (v := nI 10) hP d26_19 rfl ?_
  refine r_irem hP d26_21 hz21 ?_
  refine r_puti hP d26_22 fr_3_37 rfl (fun q => by cases q) ly_55 ?_
  refine r_aload_n hP d26_25 rfl ?_
  refine r_dup hP d26_26 rfl ?_
  refine r_geti hP d26_27 fr_3_47 rfl ly_55 ?_
  refine r_iconst (v := nI 1) hP d26_30 rfl ?_
  refine r_isub hP d26_31 ?_
  refine r_puti hP d26_32 fr_3_47 rfl (fun q => by cases q) ly_55 ?_
  refine r_aload_n hP d26_35 rfl ?_
  refine r_getr (a := 56) hP d26_36 fr_3_15 rfl ly_55 rg_55_1 ?_
  refine r_aload_n hP d26_39 rfl ?_
  refine r_geti hP d26_40 fr_3_37 rfl ly_55 ?_
  refine r_aaload (b := (57 + ((xu2 (xu2 mem 55 2 ((((mem 55 2) + (nI 10)) - (nI 1)) - (((mem 55 2) + (nI 10)) - (nI 1)) / (nI 10) * (nI 10))) 55 0 (((xu2 mem 55 2 ((((mem 55 2) + (nI 10)) - (nI 1)) - (((mem 55 2) + (nI 10)) - (nI 1)) / (nI 10) * (nI 10))) 55 0) - (nI 1))) 55 2).toNatClampNeg)) hP d26_43 (by decide) ly_56 hi43 (rg2_56 (vp_lt hi43)) ?_
  refine r_iconst (v := nI 0) hP d26_44 rfl ?_
  refine r_aload_n hP d26_45 rfl ?_
  refine r_getr (a := (s + 1)) hP d26_46 fr_3_34 rfl (lt_8 hs) (rt_8_0 hs) ?_
  refine r_iconst (v := nI 0) hP d26_49 rfl ?_
  refine r_bipush (v := nI 121) hP d26_50 rfl ?_
  refine r_copy (sp' := 0) (dp' := 0) (m' := 121) hP d26_52 cr_3_41 (ly2_56 (vp_lt hi43)) (lt_8_0 hs) (by decide) (by decide) (by decide) rfl rfl rfl (by decide) (by decide) (by decide) ?_
  refine r_iconst (v := nI 1) hP d26_55 rfl ?_
  exact r_zret hP d26_56 rfl hzr k
theorem d27_0 : decode (xB 27) 0 = .ok (.aload_n 0, 1) := by decide +kernel
theorem d27_1 : decode (xB 27) 1 = .ok (.iconst 0, 1) := by decide +kernel
theorem d27_2 : decode (xB 27) 2 = .ok (.putfield 47, 3) := by decide +kernel
theorem d27_5 : decode (xB 27) 5 = .ok (.return_, 1) := by decide +kernel
theorem b27_0 {d : Nat} {P : xPr} {Q : xQr} {r : Nat} {mem : Nat → Nat → Int32} (hP : Cl d none 27 P Q)
    (k : Q none (LAY, RFu r, xu2 mem 55 0 (nI 0))) : P 0 [.ref 55] [] (0, 0) (LAY, RFu r, mem) := by
  refine r_aload_n hP d27_0 rfl ?_
  refine r_iconst (v := nI 0) hP d27_1 rfl ?_
  refine r_puti hP d27_2 fr_3_47 rfl (fun q => by cases q) ly_55 ?_
  exact r_vret hP d27_5 rfl k
theorem d28_0 : decode (xB 28) 0 = .ok (.aload_n 3, 1) := by decide +kernel
theorem d28_1 : decode (xB 28) 1 = .ok (.getfield 34, 3) := by decide +kernel
theorem d28_4 : decode (xB 28) 4 = .ok (.iconst 0, 1) := by decide +kernel
theorem d28_5 : decode (xB 28) 5 = .ok (.aload_n 0, 1) := by decide +kernel
theorem d28_6 : decode (xB 28) 6 = .ok (.getfield 18, 3) := by decide +kernel
theorem d28_9 : decode (xB 28) 9 = .ok (.iload_n 1, 1) := by decide +kernel
theorem d28_10 : decode (xB 28) 10 = .ok (.aaload, 1) := by decide +kernel
theorem d28_11 : decode (xB 28) 11 = .ok (.iconst 0, 1) := by decide +kernel
theorem d28_12 : decode (xB 28) 12 = .ok (.bipush 121, 2) := by decide +kernel
theorem d28_14 : decode (xB 28) 14 = .ok (.invokestatic 41, 3) := by decide +kernel
theorem d28_17 : decode (xB 28) 17 = .ok (.aload_n 2, 1) := by decide +kernel
theorem d28_18 : decode (xB 28) 18 = .ok (.getfield 56, 3) := by decide +kernel
theorem d28_21 : decode (xB 28) 21 = .ok (.iconst 0, 1) := by decide +kernel
theorem d28_22 : decode (xB 28) 22 = .ok (.aload_n 0, 1) := by decide +kernel
theorem d28_23 : decode (xB 28) 23 = .ok (.getfield 21, 3) := by decide +kernel
theorem d28_26 : decode (xB 28) 26 = .ok (.iload_n 1, 1) := by decide +kernel
theorem d28_27 : decode (xB 28) 27 = .ok (.aaload, 1) := by decide +kernel
theorem d28_28 : decode (xB 28) 28 = .ok (.iconst 0, 1) := by decide +kernel
theorem d28_29 : decode (xB 28) 29 = .ok (.bipush 8, 2) := by decide +kernel
theorem d28_31 : decode (xB 28) 31 = .ok (.invokestatic 41, 3) := by decide +kernel
theorem d28_34 : decode (xB 28) 34 = .ok (.aload_n 2, 1) := by decide +kernel
theorem d28_35 : decode (xB 28) 35 = .ok (.getfield 60, 3) := by decide +kernel
theorem d28_38 : decode (xB 28) 38 = .ok (.iconst 0, 1) := by decide +kernel
theorem d28_39 : decode (xB 28) 39 = .ok (.aload_n 0, 1) := by decide +kernel
theorem d28_40 : decode (xB 28) 40 = .ok (.getfield 24, 3) := by decide +kernel
theorem d28_43 : decode (xB 28) 43 = .ok (.iload_n 1, 1) := by decide +kernel
theorem d28_44 : decode (xB 28) 44 = .ok (.aaload, 1) := by decide +kernel
theorem d28_45 : decode (xB 28) 45 = .ok (.iconst 0, 1) := by decide +kernel
theorem d28_46 : decode (xB 28) 46 = .ok (.iconst 4, 1) := by decide +kernel
theorem d28_47 : decode (xB 28) 47 = .ok (.invokestatic 41, 3) := by decide +kernel
theorem d28_50 : decode (xB 28) 50 = .ok (.aload_n 0, 1) := by decide +kernel
theorem d28_51 : decode (xB 28) 51 = .ok (.getfield 27, 3) := by decide +kernel
theorem d28_54 : decode (xB 28) 54 = .ok (.iload_n 1, 1) := by decide +kernel
theorem d28_55 : decode (xB 28) 55 = .ok (.aload_n 2, 1) := by decide +kernel
theorem d28_56 : decode (xB 28) 56 = .ok (.getfield 62, 3) := by decide +kernel
theorem d28_59 : decode (xB 28) 59 = .ok (.iastore, 1) := by decide +kernel
theorem d28_60 : decode (xB 28) 60 = .ok (.aload_n 0, 1) := by decide +kernel
theorem d28_61 : decode (xB 28) 61 = .ok (.getfield 31, 3) := by decide +kernel
theorem d28_64 : decode (xB 28) 64 = .ok (.iload_n 1, 1) := by decide +kernel
theorem d28_65 : decode (xB 28) 65 = .ok (.aload_n 2, 1) := by decide +kernel
theorem d28_66 : decode (xB 28) 66 = .ok (.getfield 64, 3) := by decide +kernel
theorem d28_69 : decode (xB 28) 69 = .ok (.iastore, 1) := by decide +kernel
theorem d28_70 : decode (xB 28) 70 = .ok (.return_, 1) := by decide +kernel
theorem b28_0 {d : Nat} {P : xPr} {Q : xQr} {r : Nat} {mem : Nat → Nat → Int32} (hP : Cl d none 28 P Q) {p0 : Int32} {t : Nat} {s : Nat} (ht : isTown t) (hs : isState s) (hi10 : vp_in p0 2) (hi27 : vp_in p0 2) (hi44 : vp_in p0 2) (hi59 : vp_in p0 2) (hi69 : vp_in p0 2)
    (k : Q none (LAY, RFu r, xu2 (xu2 (xuA (xuA (xuA mem (68 + p0.toNatClampNeg) (va_cpy (mem (s + 1)) (mem (68 + p0.toNatClampNeg)) 0 0 121)) (71 + p0.toNatClampNeg) (va_cpy ((xuA mem (68 + p0.toNatClampNeg) (va_cpy (mem (s + 1)) (mem (68 + p0.toNatClampNeg)) 0 0 121)) (t + 3)) ((xuA mem (68 + p0.toNatClampNeg) (va_cpy (mem (s + 1)) (mem (68 + p0.toNatClampNeg)) 0 0 121)) (71 + p0.toNatClampNeg)) 0 0 8)) (74 + p0.toNatClampNeg) (va_cpy ((xuA (xuA mem (68 + p0.toNatClampNeg) (va_cpy (mem (s + 1)) (mem (68 + p0.toNatClampNeg)) 0 0 121)) (71 + p0.toNatClampNeg) (va_cpy ((xuA mem (68 + p0.toNatClampNeg) (va_cpy (mem (s + 1)) (mem (68 + p0.toNatClampNeg)) 0 0 121)) (t + 3)) ((xuA mem (68 + p0.toNatClampNeg) (va_cpy (mem (s + 1)) (mem (68 + p0.toNatClampNeg)) 0 0 121)) (71 + p0.toNatClampNeg)) 0 0 8)) (t + 1)) ((xuA (xuA mem (68 + p0.toNatClampNeg) (va_cpy (mem (s + 1)) (mem (68 + p0.toNatClampNeg)) 0 0 121)) (71 + p0.toNatClampNeg) (va_cpy ((xuA mem (68 + p0.toNatClampNeg) (va_cpy (mem (s + 1)) (mem (68 + p0.toNatClampNeg)) 0 0 121)) (t + 3)) ((xuA mem (68 + p0.toNatClampNeg) (va_cpy (mem (s + 1)) (mem (68 + p0.toNatClampNeg)) 0 0 121)) (71 + p0.toNatClampNeg)) 0 0 8)) (74 + p0.toNatClampNeg)) 0 0 4)) 76 p0.toNatClampNeg ((xuA (xuA (xuA mem (68 + p0.toNatClampNeg) (va_cpy (mem (s + 1)) (mem (68 + p0.toNatClampNeg)) 0 0 121)) (71 + p0.toNatClampNeg) (va_cpy ((xuA mem (68 + p0.toNatClampNeg) (va_cpy (mem (s + 1)) (mem (68 + p0.toNatClampNeg)) 0 0 121)) (t + 3)) ((xuA mem (68 + p0.toNatClampNeg) (va_cpy (mem (s + 1)) (mem (68 + p0.toNatClampNeg)) 0 0 121)) (71 + p0.toNatClampNeg)) 0 0 8)) (74 + p0.toNatClampNeg) (va_cpy ((xuA (xuA mem (68 + p0.toNatClampNeg) (va_cpy (mem (s + 1)) (mem (68 + p0.toNatClampNeg)) 0 0 121)) (71 + p0.toNatClampNeg) (va_cpy ((xuA mem (68 + p0.toNatClampNeg) (va_cpy (mem (s + 1)) (mem (68 + p0.toNatClampNeg)) 0 0 121)) (t + 3)) ((xuA mem (68 + p0.toNatClampNeg) (va_cpy (mem (s + 1)) (mem (68 + p0.toNatClampNeg)) 0 0 121)) (71 + p0.toNatClampNeg)) 0 0 8)) (t + 1)) ((xuA (xuA mem (68 + p0.toNatClampNeg) (va_cpy (mem (s + 1)) (mem (68 + p0.toNatClampNeg)) 0 0 121)) (71 + p0.toNatClampNeg) (va_cpy ((xuA mem (68 + p0.toNatClampNeg) (va_cpy (mem (s + 1)) (mem (68 + p0.toNatClampNeg)) 0 0 121)) (t + 3)) ((xuA mem (68 + p0.toNatClampNeg) (va_cpy (mem (s + 1)) (mem (68 + p0.toNatClampNeg)) 0 0 121)) (71 + p0.toNatClampNeg)) 0 0 8)) (74 + p0.toNatClampNeg)) 0 0 4)) t 0)) 77 p0.toNatClampNeg ((xu2 (xuA (xuA (xuA mem (68 + p0.toNatClampNeg) (va_cpy (mem (s + 1)) (mem (68 + p0.toNatClampNeg)) 0 0 121)) (71 + p0.toNatClampNeg) (va_cpy ((xuA mem (68 + p0.toNatClampNeg) (va_cpy (mem (s + 1)) (mem (68 + p0.toNatClampNeg)) 0 0 121)) (t + 3)) ((xuA mem (68 + p0.toNatClampNeg) (va_cpy (mem (s + 1)) (mem (68 + p0.toNatClampNeg)) 0 0 121)) (71 + p0.toNatClampNeg)) 0 0 8)) (74 + p0.toNatClampNeg) (va_cpy ((xuA (xuA mem (68 + p0.toNatClampNeg) (va_cpy (mem (s + 1)) (mem (68 + p0.toNatClampNeg)) 0 0 121)) (71 + p0.toNatClampNeg) (va_cpy ((xuA mem (68 + p0.toNatClampNeg) (va_cpy (mem (s + 1)) (mem (68 + p0.toNatClampNeg)) 0 0 121)) (t + 3)) ((xuA mem (68 + p0.toNatClampNeg) (va_cpy (mem (s + 1)) (mem (68 + p0.toNatClampNeg)) 0 0 121)) (71 + p0.toNatClampNeg)) 0 0 8)) (t + 1)) ((xuA (xuA mem (68 + p0.toNatClampNeg) (va_cpy (mem (s + 1)) (mem (68 + p0.toNatClampNeg)) 0 0 121)) (71 + p0.toNatClampNeg) (va_cpy ((xuA mem (68 + p0.toNatClampNeg) (va_cpy (mem (s + 1)) (mem (68 + p0.toNatClampNeg)) 0 0 121)) (t + 3)) ((xuA mem (68 + p0.toNatClampNeg) (va_cpy (mem (s + 1)) (mem (68 + p0.toNatClampNeg)) 0 0 121)) (71 + p0.toNatClampNeg)) 0 0 8)) (74 + p0.toNatClampNeg)) 0 0 4)) 76 p0.toNatClampNeg ((xuA (xuA (xuA mem (68 + p0.toNatClampNeg) (va_cpy (mem (s + 1)) (mem (68 + p0.toNatClampNeg)) 0 0 121)) (71 + p0.toNatClampNeg) (va_cpy ((xuA mem (68 + p0.toNatClampNeg) (va_cpy (mem (s + 1)) (mem (68 + p0.toNatClampNeg)) 0 0 121)) (t + 3)) ((xuA mem (68 + p0.toNatClampNeg) (va_cpy (mem (s + 1)) (mem (68 + p0.toNatClampNeg)) 0 0 121)) (71 + p0.toNatClampNeg)) 0 0 8)) (74 + p0.toNatClampNeg) (va_cpy ((xuA (xuA mem (68 + p0.toNatClampNeg) (va_cpy (mem (s + 1)) (mem (68 + p0.toNatClampNeg)) 0 0 121)) (71 + p0.toNatClampNeg) (va_cpy ((xuA mem (68 + p0.toNatClampNeg) (va_cpy (mem (s + 1)) (mem (68 + p0.toNatClampNeg)) 0 0 121)) (t + 3)) ((xuA mem (68 + p0.toNatClampNeg) (va_cpy (mem (s + 1)) (mem (68 + p0.toNatClampNeg)) 0 0 121)) (71 + p0.toNatClampNeg)) 0 0 8)) (t + 1)) ((xuA (xuA mem (68 + p0.toNatClampNeg) (va_cpy (mem (s + 1)) (mem (68 + p0.toNatClampNeg)) 0 0 121)) (71 + p0.toNatClampNeg) (va_cpy ((xuA mem (68 + p0.toNatClampNeg) (va_cpy (mem (s + 1)) (mem (68 + p0.toNatClampNeg)) 0 0 121)) (t + 3)) ((xuA mem (68 + p0.toNatClampNeg) (va_cpy (mem (s + 1)) (mem (68 + p0.toNatClampNeg)) 0 0 121)) (71 + p0.toNatClampNeg)) 0 0 8)) (74 + p0.toNatClampNeg)) 0 0 4)) t 0)) t 1))) : P 0 [.ref 55, .int p0, .ref t, .ref s] [] (0, 0) (LAY, RFu r, mem) := by
  refine r_aload_n hP d28_0 rfl ?_
  refine r_getr (a := (s + 1)) hP d28_1 fr_3_34 rfl (lt_8 hs) (rt_8_0 hs) ?_
  refine r_iconst (v := nI 0) hP d28_4 rfl ?_
  refine r_aload_n hP d28_5 rfl ?_
  refine r_getr (a := 67) hP d28_6 fr_3_18 rfl ly_55 rg_55_3 ?_
  refine r_iload_n hP d28_9 rfl ?_
  refine r_aaload (b := (68 + p0.toNatClampNeg)) hP d28_10 (by decide) ly_67 hi10 (rg2_67 (vp_lt hi10)) ?_
  refine r_iconst (v := nI 0) hP d28_11 rfl ?_
  refine r_bipush (v := nI 121) hP d28_12 rfl ?_
  refine r_copy (sp' := 0) (dp' := 0) (m' := 121) hP d28_14 cr_3_41 (lt_8_0 hs) (ly2_67 (vp_lt hi10)) (by decide) (by decide) (by decide) rfl rfl rfl (by decide) (by decide) (by decide) ?_
  refine r_aload_n hP d28_17 rfl ?_
  refine r_getr (a := (t + 3)) hP d28_18 fr_3_56 rfl (lt_10 ht) (rt_10_4 ht) ?_
  refine r_iconst (v := nI 0) hP d28_21 rfl ?_
  refine r_aload_n hP d28_22 rfl ?_
  refine r_getr (a := 70) hP d28_23 fr_3_21 rfl ly_55 rg_55_4 ?_
  refine r_iload_n hP d28_26 rfl ?_
  refine r_aaload (b := (71 + p0.toNatClampNeg)) hP d28_27 (by decide) ly_70 hi27 (rg2_70 (vp_lt hi27)) ?_
  refine r_iconst (v := nI 0) hP d28_28 rfl ?_
  refine r_bipush (v := nI 8) hP d28_29 rfl ?_
  refine r_copy (sp' := 0) (dp' := 0) (m' := 8) hP d28_31 cr_3_41 (lt_10_4 ht) (ly2_70 (vp_lt hi27)) (by decide) (by decide) (by decide) rfl rfl rfl (by decide) (by decide) (by decide) ?_
  refine r_aload_n hP d28_34 rfl ?_
  refine r_getr (a := (t + 1)) hP d28_35 fr_3_60 rfl (lt_10 ht) (rt_10_2 ht) ?_
  refine r_iconst (v := nI 0) hP d28_38 rfl ?_
  refine r_aload_n hP d28_39 rfl ?_
  refine r_getr (a := 73) hP d28_40 fr_3_24 rfl ly_55 rg_55_5 ?_
  refine r_iload_n hP d28_43 rfl ?_
  refine r_aaload (b := (74 + p0.toNatClampNeg)) hP d28_44 (by decide) ly_73 hi44 (rg2_73 (vp_lt hi44)) ?_
  refine r_iconst (v := nI 0) hP d28_45 rfl ?_
  refine r_iconst (v := nI 4) hP d28_46 rfl ?_
  refine r_copy (sp' := 0) (dp' := 0) (m' := 4) hP d28_47 cr_3_41 (lt_10_2 ht) (ly2_73 (vp_lt hi44)) (by decide) (by decide) (by decide) rfl rfl rfl (by decide) (by decide) (by decide) ?_
  refine r_aload_n hP d28_50 rfl ?_
  refine r_getr (a := 76) hP d28_51 fr_3_27 rfl ly_55 rg_55_6 ?_
  refine r_iload_n hP d28_54 rfl ?_
  refine r_aload_n hP d28_55 rfl ?_
  refine r_geti hP d28_56 fr_3_62 rfl (lt_10 ht) ?_
  refine r_iastore hP d28_59 ly_76 hi59 ?_
  refine r_aload_n hP d28_60 rfl ?_
  refine r_getr (a := 77) hP d28_61 fr_3_31 rfl ly_55 rg_55_7 ?_
  refine r_iload_n hP d28_64 rfl ?_
  refine r_aload_n hP d28_65 rfl ?_
  refine r_geti hP d28_66 fr_3_64 rfl (lt_10 ht) ?_
  refine r_iastore hP d28_69 ly_77 hi69 ?_
  exact r_vret hP d28_70 rfl k
theorem d29_0 : decode (xB 29) 0 = .ok (.aload_n 0, 1) := by decide +kernel
theorem d29_1 : decode (xB 29) 1 = .ok (.getfield 31, 3) := by decide +kernel
theorem d29_4 : decode (xB 29) 4 = .ok (.iload_n 1, 1) := by decide +kernel
theorem d29_5 : decode (xB 29) 5 = .ok (.iaload, 1) := by decide +kernel
theorem d29_6 : decode (xB 29) 6 = .ok (.aload_n 2, 1) := by decide +kernel
theorem d29_7 : decode (xB 29) 7 = .ok (.getfield 64, 3) := by decide +kernel
theorem d29_10 : decode (xB 29) 10 = .ok (.if_icmp .ne 16, 3) := by decide +kernel
theorem d29_13 : decode (xB 29) 13 = .ok (.aload_n 0, 1) := by decide +kernel
theorem d29_14 : decode (xB 29) 14 = .ok (.getfield 27, 3) := by decide +kernel
theorem d29_17 : decode (xB 29) 17 = .ok (.iload_n 1, 1) := by decide +kernel
theorem d29_18 : decode (xB 29) 18 = .ok (.iaload, 1) := by decide +kernel
theorem d29_19 : decode (xB 29) 19 = .ok (.aload_n 2, 1) := by decide +kernel
theorem d29_20 : decode (xB 29) 20 = .ok (.getfield 62, 3) := by decide +kernel
theorem d29_23 : decode (xB 29) 23 = .ok (.if_icmp .eq 5, 3) := by decide +kernel
theorem d29_26 : decode (xB 29) 26 = .ok (.iconst 0, 1) := by decide +kernel
theorem d29_27 : decode (xB 29) 27 = .ok (.ireturn, 1) := by decide +kernel
theorem d29_28 : decode (xB 29) 28 = .ok (.aload_n 0, 1) := by decide +kernel
theorem d29_29 : decode (xB 29) 29 = .ok (.getfield 18, 3) := by decide +kernel
theorem d29_32 : decode (xB 29) 32 = .ok (.iload_n 1, 1) := by decide +kernel
theorem d29_33 : decode (xB 29) 33 = .ok (.aaload, 1) := by decide +kernel
theorem d29_34 : decode (xB 29) 34 = .ok (.iconst 0, 1) := by decide +kernel
theorem d29_35 : decode (xB 29) 35 = .ok (.aload_n 3, 1) := by decide +kernel
theorem d29_36 : decode (xB 29) 36 = .ok (.getfield 34, 3) := by decide +kernel
theorem d29_39 : decode (xB 29) 39 = .ok (.iconst 0, 1) := by decide +kernel
theorem d29_40 : decode (xB 29) 40 = .ok (.bipush 121, 2) := by decide +kernel
theorem d29_42 : decode (xB 29) 42 = .ok (.invokestatic 41, 3) := by decide +kernel
theorem d29_45 : decode (xB 29) 45 = .ok (.aload_n 0, 1) := by decide +kernel
theorem d29_46 : decode (xB 29) 46 = .ok (.getfield 21, 3) := by decide +kernel
theorem d29_49 : decode (xB 29) 49 = .ok (.iload_n 1, 1) := by decide +kernel
theorem d29_50 : decode (xB 29) 50 = .ok (.aaload, 1) := by decide +kernel
theorem d29_51 : decode (xB 29) 51 = .ok (.iconst 0, 1) := by decide +kernel
theorem d29_52 : decode (xB 29) 52 = .ok (.aload_n 2, 1) := by decide +kernel
theorem d29_53 : decode (xB 29) 53 = .ok (.getfield 56, 3) := by decide +kernel
theorem d29_56 : decode (xB 29) 56 = .ok (.iconst 0, 1) := by decide +kernel
theorem d29_57 : decode (xB 29) 57 = .ok (.bipush 8, 2) := by decide +kernel
theorem d29_59 : decode (xB 29) 59 = .ok (.invokestatic 41, 3) := by decide +kernel
theorem d29_62 : decode (xB 29) 62 = .ok (.aload_n 0, 1) := by decide +kernel
theorem d29_63 : decode (xB 29) 63 = .ok (.getfield 24, 3) := by decide +kernel
theorem d29_66 : decode (xB 29) 66 = .ok (.iload_n 1, 1) := by decide +kernel
theorem d29_67 : decode (xB 29) 67 = .ok (.aaload, 1) := by decide +kernel
theorem d29_68 : decode (xB 29) 68 = .ok (.iconst 0, 1) := by decide +kernel
theorem d29_69 : decode (xB 29) 69 = .ok (.aload_n 2, 1) := by decide +kernel
theorem d29_70 : decode (xB 29) 70 = .ok (.getfield 60, 3) := by decide +kernel
theorem d29_73 : decode (xB 29) 73 = .ok (.iconst 0, 1) := by decide +kernel
theorem d29_74 : decode (xB 29) 74 = .ok (.iconst 4, 1) := by decide +kernel
theorem d29_75 : decode (xB 29) 75 = .ok (.invokestatic 41, 3) := by decide +kernel
theorem d29_78 : decode (xB 29) 78 = .ok (.iconst 1, 1) := by decide +kernel
theorem d29_79 : decode (xB 29) 79 = .ok (.ireturn, 1) := by decide +kernel
theorem b29_0 {d : Nat} {P : xPr} {Q : xQr} {r : Nat} {mem : Nat → Nat → Int32} (hP : Cl d none 29 P Q) {p0 : Int32} {t : Nat} {s : Nat} (ht : isTown t) (hs : isState s) (hi5 : vp_in p0 2)
    (kt : ¬ (mem 77 p0.toNatClampNeg) = (mem t 1) → P 26 [.ref 55, .int p0, .ref t, .ref s] [] (0, 0) (LAY, RFu r, mem)) (kf : (mem 77 p0.toNatClampNeg) = (mem t 1) → P 13 [.ref 55, .int p0, .ref t, .ref s] [] (0, 0) (LAY, RFu r, mem)) : P 0 [.ref 55, .int p0, .ref t, .ref s] [] (0, 0) (LAY, RFu r, mem) := by
  refine r_aload_n hP d29_0 rfl ?_
  refine r_getr (a := 77) hP d29_1 fr_3_31 rfl ly_55 rg_55_7 ?_
  refine r_iload_n hP d29_4 rfl ?_
  refine r_iaload hP d29_5 ly_77 hi5 ?_
  refine r_aload_n hP d29_6 rfl ?_
  refine r_geti hP d29_7 fr_3_64 rfl (lt_10 ht) ?_
  exact r_icmp (t := 26) hP d29_10 (by decide) kt (fun q => kf (Decidable.of_not_not q))
theorem b29_13 {d : Nat} {P : xPr} {Q : xQr} {r : Nat} {mem : Nat → Nat → Int32} (hP : Cl d none 29 P Q) {t : Nat} {s : Nat} {x1 : Int32} (ht : isTown t) (hs : isState s) (hi18 : vp_in x1 2)
    (kt : (mem 76 x1.toNatClampNeg) = (mem t 0) → P 28 [.ref 55, .int x1, .ref t, .ref s] [] (0, 0) (LAY, RFu r, mem)) (kf : ¬ (mem 76 x1.toNatClampNeg) = (mem t 0) → P 26 [.ref 55, .int x1, .ref t, .ref s] [] (0, 0) (LAY, RFu r, mem)) : P 13 [.ref 55, .int x1, .ref t, .ref s] [] (0, 0) (LAY, RFu r, mem) := by
  refine r_aload_n hP d29_13 rfl ?_
  refine r_getr (a := 76) hP d29_14 fr_3_27 rfl ly_55 rg_55_6 ?_
  refine r_iload_n hP d29_17 rfl ?_
  refine r_iaload hP d29_18 ly_76 hi18 ?_
  refine r_aload_n hP d29_19 rfl ?_
  refine r_geti hP d29_20 fr_3_62 rfl (lt_10 ht) ?_
  exact r_icmp (t := 28) hP d29_23 (by decide) kt kf
theorem b29_26 {d : Nat} {P : xPr} {Q : xQr} {r : Nat} {mem : Nat → Nat → Int32} (hP : Cl d none 29 P Q) {t : Nat} {s : Nat} {v0 : Value} {v1 : Value} {v2 : Value} {v3 : Value} (ht : isTown t) (hs : isState s) (hzr : nI 0 = 0 ∨ nI 0 = 1)
    (k : Q (some (.int (nI 0))) (LAY, RFu r, mem)) : P 26 [v0, v1, v2, v3] [] (0, 0) (LAY, RFu r, mem) := by
  refine r_iconst (v := nI 0) hP d29_26 rfl ?_
  exact r_zret hP d29_27 rfl hzr k
theorem b29_28 {d : Nat} {P : xPr} {Q : xQr} {r : Nat} {mem : Nat → Nat → Int32} (hP : Cl d none 29 P Q) {t : Nat} {s : Nat} {x1 : Int32} (ht : isTown t) (hs : isState s) (hi33 : vp_in x1 2) (hi50 : vp_in x1 2) (hi67 : vp_in x1 2) (hzr : nI 1 = 0 ∨ nI 1 = 1)
    (k : Q (some (.int (nI 1))) (LAY, RFu r, xuA (xuA (xuA mem (s + 1) (va_cpy (mem (68 + x1.toNatClampNeg)) (mem (s + 1)) 0 0 121)) (t + 3) (va_cpy ((xuA mem (s + 1) (va_cpy (mem (68 + x1.toNatClampNeg)) (mem (s + 1)) 0 0 121)) (71 + x1.toNatClampNeg)) ((xuA mem (s + 1) (va_cpy (mem (68 + x1.toNatClampNeg)) (mem (s + 1)) 0 0 121)) (t + 3)) 0 0 8)) (t + 1) (va_cpy ((xuA (xuA mem (s + 1) (va_cpy (mem (68 + x1.toNatClampNeg)) (mem (s + 1)) 0 0 121)) (t + 3) (va_cpy ((xuA mem (s + 1) (va_cpy (mem (68 + x1.toNatClampNeg)) (mem (s + 1)) 0 0 121)) (71 + x1.toNatClampNeg)) ((xuA mem (s + 1) (va_cpy (mem (68 + x1.toNatClampNeg)) (mem (s + 1)) 0 0 121)) (t + 3)) 0 0 8)) (74 + x1.toNatClampNeg)) ((xuA (xuA mem (s + 1) (va_cpy (mem (68 + x1.toNatClampNeg)) (mem (s + 1)) 0 0 121)) (t + 3) (va_cpy ((xuA mem (s + 1) (va_cpy (mem (68 + x1.toNatClampNeg)) (mem (s + 1)) 0 0 121)) (71 + x1.toNatClampNeg)) ((xuA mem (s + 1) (va_cpy (mem (68 + x1.toNatClampNeg)) (mem (s + 1)) 0 0 121)) (t + 3)) 0 0 8)) (t + 1)) 0 0 4))) : P 28 [.ref 55, .int x1, .ref t, .ref s] [] (0, 0) (LAY, RFu r, mem) := by
  refine r_aload_n hP d29_28 rfl ?_
  refine r_getr (a := 67) hP d29_29 fr_3_18 rfl ly_55 rg_55_3 ?_
  refine r_iload_n hP d29_32 rfl ?_
  refine r_aaload (b := (68 + x1.toNatClampNeg)) hP d29_33 (by decide) ly_67 hi33 (rg2_67 (vp_lt hi33)) ?_
  refine r_iconst (v := nI 0) hP d29_34 rfl ?_
  refine r_aload_n hP d29_35 rfl ?_
  refine r_getr (a := (s + 1)) hP d29_36 fr_3_34 rfl (lt_8 hs) (rt_8_0 hs) ?_
  refine r_iconst (v := nI 0) hP d29_39 rfl ?_
  refine r_bipush (v := nI 121) hP d29_40 rfl ?_
  refine r_copy (sp' := 0) (dp' := 0) (m' := 121) hP d29_42 cr_3_41 (ly2_67 (vp_lt hi33)) (lt_8_0 hs) (by decide) (by decide) (by decide) rfl rfl rfl (by decide) (by decide) (by decide) ?_
  refine r_aload_n hP d29_45 rfl ?_
  refine r_getr (a := 70) hP d29_46 fr_3_21 rfl ly_55 rg_55_4 ?_
  refine r_iload_n hP d29_49 rfl ?_
  refine r_aaload (b := (71 + x1.toNatClampNeg)) hP d29_50 (by decide) ly_70 hi50 (rg2_70 (vp_lt hi50)) ?_
  refine r_iconst (v := nI 0) hP d29_51 rfl ?_
  refine r_aload_n hP d29_52 rfl ?_
  refine r_getr (a := (t + 3)) hP d29_53 fr_3_56 rfl (lt_10 ht) (rt_10_4 ht) ?_
  refine r_iconst (v := nI 0) hP d29_56 rfl ?_
  refine r_bipush (v := nI 8) hP d29_57 rfl ?_
  refine r_copy (sp' := 0) (dp' := 0) (m' := 8) hP d29_59 cr_3_41 (ly2_70 (vp_lt hi50)) (lt_10_4 ht) (by decide) (by decide) (by decide) rfl rfl rfl (by decide) (by decide) (by decide) ?_
  refine r_aload_n hP d29_62 rfl ?_
  refine r_getr (a := 73) hP d29_63 fr_3_24 rfl ly_55 rg_55_5 ?_
  refine r_iload_n hP d29_66 rfl ?_
  refine r_aaload (b := (74 + x1.toNatClampNeg)) hP d29_67 (by decide) ly_73 hi67 (rg2_73 (vp_lt hi67)) ?_
  refine r_iconst (v := nI 0) hP d29_68 rfl ?_
  refine r_aload_n hP d29_69 rfl ?_
  refine r_getr (a := (t + 1)) hP d29_70 fr_3_60 rfl (lt_10 ht) (rt_10_2 ht) ?_
  refine r_iconst (v := nI 0) hP d29_73 rfl ?_
  refine r_iconst (v := nI 4) hP d29_74 rfl ?_
  refine r_copy (sp' := 0) (dp' := 0) (m' := 4) hP d29_75 cr_3_41 (ly2_73 (vp_lt hi67)) (lt_10_2 ht) (by decide) (by decide) (by decide) rfl rfl rfl (by decide) (by decide) (by decide) ?_
  refine r_iconst (v := nI 1) hP d29_78 rfl ?_
  exact r_zret hP d29_79 rfl hzr k
theorem d36_0 : decode (xB 36) 0 = .ok (.aload_n 0, 1) := by decide +kernel
theorem d36_1 : decode (xB 36) 1 = .ok (.iconst 0, 1) := by decide +kernel
theorem d36_2 : decode (xB 36) 2 = .ok (.putfield 18, 3) := by decide +kernel
theorem d36_5 : decode (xB 36) 5 = .ok (.return_, 1) := by decide +kernel
theorem b36_0 {d : Nat} {P : xPr} {Q : xQr} {r : Nat} {mem : Nat → Nat → Int32} (hP : Cl d none 36 P Q) {q : Nat} (hq : isRule q)
    (k : Q none (LAY, RFu r, xu2 mem q 2 (nI 0))) : P 0 [.ref q] [] (0, 0) (LAY, RFu r, mem) := by
  refine r_aload_n hP d36_0 rfl ?_
  refine r_iconst (v := nI 0) hP d36_1 rfl ?_
  refine r_puti hP d36_2 fr_5_18 rfl (fun q => by cases q) (lt_5 hq) ?_
  exact r_vret hP d36_5 rfl k
theorem d37_0 : decode (xB 37) 0 = .ok (.aload_n 0, 1) := by decide +kernel
theorem d37_1 : decode (xB 37) 1 = .ok (.iconst 0, 1) := by decide +kernel
theorem d37_2 : decode (xB 37) 2 = .ok (.putfield 18, 3) := by decide +kernel
theorem d37_5 : decode (xB 37) 5 = .ok (.aload_n 0, 1) := by decide +kernel
theorem d37_6 : decode (xB 37) 6 = .ok (.sipush 1000, 3) := by decide +kernel
theorem d37_9 : decode (xB 37) 9 = .ok (.iload_n 1, 1) := by decide +kernel
theorem d37_10 : decode (xB 37) 10 = .ok (.iadd, 1) := by decide +kernel
theorem d37_11 : decode (xB 37) 11 = .ok (.invokevirtual 22, 3) := by decide +kernel
theorem d37_14 : decode (xB 37) 14 = .ok (.return_, 1) := by decide +kernel
theorem b37_0 {d : Nat} {P : xPr} {Q : xQr} {r : Nat} {mem : Nat → Nat → Int32} (hP : Cl d none 37 P Q) {q : Nat} {p0 : Int32} (hq : isRule q)
    (k : xCall d 38 [.ref q, .int ((nI 1000) + p0)] (LAY, RFu r, xu2 mem q 2 (nI 0)) (Bk P 11 [.ref q, .int p0] [] (0, 0))) : P 0 [.ref q, .int p0] [] (0, 0) (LAY, RFu r, mem) := by
  refine r_aload_n hP d37_0 rfl ?_
  refine r_iconst (v := nI 0) hP d37_1 rfl ?_
  refine r_puti hP d37_2 fr_5_18 rfl (fun q => by cases q) (lt_5 hq) ?_
  refine r_aload_n hP d37_5 rfl ?_
  refine r_sipush (v := nI 1000) hP d37_6 rfl ?_
  refine r_iload_n hP d37_9 rfl ?_
  refine r_iadd hP d37_10 ?_
  exact r_callv (As := [.int ((nI 1000) + p0)]) (S := []) hP d37_11 cr_5_22 (by decide +kernel) rfl (by simp [Value.category]) rfl (lt_5 hq) (by simp [Value.category]) ⟨Nat.zero_le _, Nat.zero_le _⟩ k
theorem b37_14 {d : Nat} {P : xPr} {Q : xQr} {r : Nat} {mem : Nat → Nat → Int32} (hP : Cl d none 37 P Q) {q : Nat} {v0 : Value} {v1 : Value} (hq : isRule q)
    (k : Q none (LAY, RFu r, mem)) : P 14 [v0, v1] [] (0, 0) (LAY, RFu r, mem) := by
  exact r_vret hP d37_14 rfl k
theorem d38_0 : decode (xB 38) 0 = .ok (.aload_n 0, 1) := by decide +kernel
theorem d38_1 : decode (xB 38) 1 = .ok (.getfield 18, 3) := by decide +kernel
theorem d38_4 : decode (xB 38) 4 = .ok (.aload_n 0, 1) := by decide +kernel
theorem d38_5 : decode (xB 38) 5 = .ok (.getfield 9, 3) := by decide +kernel
theorem d38_8 : decode (xB 38) 8 = .ok (.arraylength, 1) := by decide +kernel
theorem d38_9 : decode (xB 38) 9 = .ok (.if_icmp .ge 23, 3) := by decide +kernel
theorem d38_12 : decode (xB 38) 12 = .ok (.aload_n 0, 1) := by decide +kernel
theorem d38_13 : decode (xB 38) 13 = .ok (.getfield 9, 3) := by decide +kernel
theorem d38_16 : decode (xB 38) 16 = .ok (.aload_n 0, 1) := by decide +kernel
theorem d38_17 : decode (xB 38) 17 = .ok (.getfield 18, 3) := by decide +kernel
theorem d38_20 : decode (xB 38) 20 = .ok (.iload_n 1, 1) := by decide +kernel
theorem d38_21 : decode (xB 38) 21 = .ok (.iastore, 1) := by decide +kernel
theorem d38_22 : decode (xB 38) 22 = .ok (.aload_n 0, 1) := by decide +kernel
theorem d38_23 : decode (xB 38) 23 = .ok (.dup, 1) := by decide +kernel
theorem d38_24 : decode (xB 38) 24 = .ok (.getfield 18, 3) := by decide +kernel
theorem d38_27 : decode (xB 38) 27 = .ok (.iconst 1, 1) := by decide +kernel
theorem d38_28 : decode (xB 38) 28 = .ok (.iadd, 1) := by decide +kernel
theorem d38_29 : decode (xB 38) 29 = .ok (.putfield 18, 3) := by decide +kernel
theorem d38_32 : decode (xB 38) 32 = .ok (.return_, 1) := by decide +kernel
theorem b38_0 {d : Nat} {P : xPr} {Q : xQr} {r : Nat} {mem : Nat → Nat → Int32} (hP : Cl d none 38 P Q) {q : Nat} {p0 : Int32} (hq : isRule q)
    (kt : (nI 40) ≤ (mem q 2) → P 32 [.ref q, .int p0] [] (0, 0) (LAY, RFu r, mem)) (kf : ¬ (nI 40) ≤ (mem q 2) → P 12 [.ref q, .int p0] [] (0, 0) (LAY, RFu r, mem)) : P 0 [.ref q, .int p0] [] (0, 0) (LAY, RFu r, mem) := by
  refine r_aload_n hP d38_0 rfl ?_
  refine r_geti hP d38_1 fr_5_18 rfl (lt_5 hq) ?_
  refine r_aload_n hP d38_4 rfl ?_
  refine r_getr (a := (q + 1)) hP d38_5 fr_5_9 rfl (lt_5 hq) (rt_5_0 hq) ?_
  refine r_alen (v := nI 40) hP d38_8 (by decide) (by decide) (lt_5_0 hq) rfl ?_
  exact r_icmp (t := 32) hP d38_9 (by decide) kt kf
theorem b38_12 {d : Nat} {P : xPr} {Q : xQr} {r : Nat} {mem : Nat → Nat → Int32} (hP : Cl d none 38 P Q) {q : Nat} {x1 : Int32} (hq : isRule q) (hi21 : vp_in (mem q 2) 40)
    (k : P 32 [.ref q, .int x1] [] (0, 0) (LAY, RFu r, xu2 (xu2 mem (q + 1) (mem q 2).toNatClampNeg x1) q 2 (((xu2 mem (q + 1) (mem q 2).toNatClampNeg x1) q 2) + (nI 1)))) : P 12 [.ref q, .int x1] [] (0, 0) (LAY, RFu r, mem) := by
  refine r_aload_n hP d38_12 rfl ?_
  refine r_getr (a := (q + 1)) hP d38_13 fr_5_9 rfl (lt_5 hq) (rt_5_0 hq) ?_
  refine r_aload_n hP d38_16 rfl ?_
  refine r_geti hP d38_17 fr_5_18 rfl (lt_5 hq) ?_
  refine r_iload_n hP d38_20 rfl ?_
  refine r_iastore hP d38_21 (lt_5_0 hq) hi21 ?_
  refine r_aload_n hP d38_22 rfl ?_
  refine r_dup hP d38_23 rfl ?_
  refine r_geti hP d38_24 fr_5_18 rfl (lt_5 hq) ?_
  refine r_iconst (v := nI 1) hP d38_27 rfl ?_
  refine r_iadd hP d38_28 ?_
  refine r_puti hP d38_29 fr_5_18 rfl (fun q => by cases q) (lt_5 hq) ?_
  exact k
theorem b38_32 {d : Nat} {P : xPr} {Q : xQr} {r : Nat} {mem : Nat → Nat → Int32} (hP : Cl d none 38 P Q) {q : Nat} {v0 : Value} {v1 : Value} (hq : isRule q)
    (k : Q none (LAY, RFu r, mem)) : P 32 [v0, v1] [] (0, 0) (LAY, RFu r, mem) := by
  exact r_vret hP d38_32 rfl k
theorem d39_0 : decode (xB 39) 0 = .ok (.aload_n 1, 1) := by decide +kernel
theorem d39_1 : decode (xB 39) 1 = .ok (.getfield 9, 3) := by decide +kernel
theorem d39_4 : decode (xB 39) 4 = .ok (.iconst 0, 1) := by decide +kernel
theorem d39_5 : decode (xB 39) 5 = .ok (.aload_n 0, 1) := by decide +kernel
theorem d39_6 : decode (xB 39) 6 = .ok (.getfield 9, 3) := by decide +kernel
theorem d39_9 : decode (xB 39) 9 = .ok (.iconst 0, 1) := by decide +kernel
theorem d39_10 : decode (xB 39) 10 = .ok (.bipush 40, 2) := by decide +kernel
theorem d39_12 : decode (xB 39) 12 = .ok (.invokestatic 26, 3) := by decide +kernel
theorem d39_15 : decode (xB 39) 15 = .ok (.aload_n 0, 1) := by decide +kernel
theorem d39_16 : decode (xB 39) 16 = .ok (.aload_n 1, 1) := by decide +kernel
theorem d39_17 : decode (xB 39) 17 = .ok (.getfield 18, 3) := by decide +kernel
theorem d39_20 : decode (xB 39) 20 = .ok (.putfield 18, 3) := by decide +kernel
theorem d39_23 : decode (xB 39) 23 = .ok (.return_, 1) := by decide +kernel
theorem b39_0 {d : Nat} {P : xPr} {Q : xQr} {r : Nat} {mem : Nat → Nat → Int32} (hP : Cl d none 39 P Q) {q : Nat} {q1 : Nat} (hq : isRule q) (hq1 : isRule q1)
    (k : Q none (LAY, RFu r, xu2 (xuA mem (q + 1) (va_cpy (mem (q1 + 1)) (mem (q + 1)) 0 0 40)) q 2 ((xuA mem (q + 1) (va_cpy (mem (q1 + 1)) (mem (q + 1)) 0 0 40)) q1 2))) : P 0 [.ref q, .ref q1] [] (0, 0) (LAY, RFu r, mem) := by
  refine r_aload_n hP d39_0 rfl ?_
  refine r_getr (a := (q1 + 1)) hP d39_1 fr_5_9 rfl (lt_5 hq1) (rt_5_0 hq1) ?_
  refine r_iconst (v := nI 0) hP d39_4 rfl ?_
  refine r_aload_n hP d39_5 rfl ?_
  refine r_getr (a := (q + 1)) hP d39_6 fr_5_9 rfl (lt_5 hq) (rt_5_0 hq) ?_
  refine r_iconst (v := nI 0) hP d39_9 rfl ?_
  refine r_bipush (v := nI 40) hP d39_10 rfl ?_
  refine r_copy (sp' := 0) (dp' := 0) (m' := 40) hP d39_12 cr_5_26 (lt_5_0 hq1) (lt_5_0 hq) (by decide) (by decide) (by decide) rfl rfl rfl (by decide) (by decide) (by decide) ?_
  refine r_aload_n hP d39_15 rfl ?_
  refine r_aload_n hP d39_16 rfl ?_
  refine r_geti hP d39_17 fr_5_18 rfl (lt_5 hq1) ?_
  refine r_puti hP d39_20 fr_5_18 rfl (fun q => by cases q) (lt_5 hq) ?_
  exact r_vret hP d39_23 rfl k
theorem d40_0 : decode (xB 40) 0 = .ok (.iconst (-1), 1) := by decide +kernel
theorem d40_1 : decode (xB 40) 1 = .ok (.istore 4, 2) := by decide +kernel
theorem d40_3 : decode (xB 40) 3 = .ok (.iconst 0, 1) := by decide +kernel
theorem d40_4 : decode (xB 40) 4 = .ok (.istore 5, 2) := by decide +kernel
theorem d40_6 : decode (xB 40) 6 = .ok (.iload 5, 2) := by decide +kernel
theorem d40_8 : decode (xB 40) 8 = .ok (.aload_n 0, 1) := by decide +kernel
theorem d40_9 : decode (xB 40) 9 = .ok (.getfield 18, 3) := by decide +kernel
theorem d40_12 : decode (xB 40) 12 = .ok (.if_icmp .ge 148, 3) := by decide +kernel
theorem d40_15 : decode (xB 40) 15 = .ok (.aload_n 0, 1) := by decide +kernel
theorem d40_16 : decode (xB 40) 16 = .ok (.getfield 9, 3) := by decide +kernel
theorem d40_19 : decode (xB 40) 19 = .ok (.iload 5, 2) := by decide +kernel
theorem d40_21 : decode (xB 40) 21 = .ok (.iaload, 1) := by decide +kernel
theorem d40_22 : decode (xB 40) 22 = .ok (.istore 6, 2) := by decide +kernel
theorem d40_24 : decode (xB 40) 24 = .ok (.iload 6, 2) := by decide +kernel
theorem d40_26 : decode (xB 40) 26 = .ok (.sipush 2000, 3) := by decide +kernel
theorem d40_29 : decode (xB 40) 29 = .ok (.if_icmp .ge 53, 3) := by decide +kernel
theorem d40_32 : decode (xB 40) 32 = .ok (.iinc 4 1, 3) := by decide +kernel
theorem d40_35 : decode (xB 40) 35 = .ok (.iload 4, 2) := by decide +kernel
theorem d40_37 : decode (xB 40) 37 = .ok (.aload_n 0, 1) := by decide +kernel
theorem d40_38 : decode (xB 40) 38 = .ok (.getfield 15, 3) := by decide +kernel
theorem d40_41 : decode (xB 40) 41 = .ok (.arraylength, 1) := by decide +kernel
theorem d40_42 : decode (xB 40) 42 = .ok (.if_icmp .lt 5, 3) := by decide +kernel
theorem d40_45 : decode (xB 40) 45 = .ok (.iconst 0, 1) := by decide +kernel
theorem d40_46 : decode (xB 40) 46 = .ok (.ireturn, 1) := by decide +kernel
theorem d40_47 : decode (xB 40) 47 = .ok (.aload_n 0, 1) := by decide +kernel
theorem d40_48 : decode (xB 40) 48 = .ok (.getfield 15, 3) := by decide +kernel
theorem d40_51 : decode (xB 40) 51 = .ok (.iload 4, 2) := by decide +kernel
theorem d40_53 : decode (xB 40) 53 = .ok (.iload 6, 2) := by decide +kernel
theorem d40_55 : decode (xB 40) 55 = .ok (.sipush 1000, 3) := by decide +kernel
theorem d40_58 : decode (xB 40) 58 = .ok (.if_icmp .ge 8, 3) := by decide +kernel
theorem d40_61 : decode (xB 40) 61 = .ok (.iload 6, 2) := by decide +kernel
theorem d40_63 : decode (xB 40) 63 = .ok (.goto 15, 3) := by decide +kernel
theorem d40_66 : decode (xB 40) 66 = .ok (.iload 6, 2) := by decide +kernel
theorem d40_68 : decode (xB 40) 68 = .ok (.sipush 1000, 3) := by decide +kernel
theorem d40_71 : decode (xB 40) 71 = .ok (.isub, 1) := by decide +kernel
theorem d40_72 : decode (xB 40) 72 = .ok (.aload_n 1, 1) := by decide +kernel
theorem d40_73 : decode (xB 40) 73 = .ok (.aload_n 2, 1) := by decide +kernel
theorem d40_74 : decode (xB 40) 74 = .ok (.iload_n 3, 1) := by decide +kernel
theorem d40_75 : decode (xB 40) 75 = .ok (.invokestatic 32, 3) := by decide +kernel
theorem d40_78 : decode (xB 40) 78 = .ok (.iastore, 1) := by decide +kernel
theorem d40_79 : decode (xB 40) 79 = .ok (.goto 75, 3) := by decide +kernel
theorem d40_82 : decode (xB 40) 82 = .ok (.iload 6, 2) := by decide +kernel
theorem d40_84 : decode (xB 40) 84 = .ok (.sipush 3000, 3) := by decide +kernel
theorem d40_87 : decode (xB 40) 87 = .ok (.if_icmp .ne 26, 3) := by decide +kernel
theorem d40_90 : decode (xB 40) 90 = .ok (.iload 4, 2) := by decide +kernel
theorem d40_92 : decode (xB 40) 92 = .ok (.ifCond .lt 21, 3) := by decide +kernel
theorem d40_95 : decode (xB 40) 95 = .ok (.aload_n 0, 1) := by decide +kernel
theorem d40_96 : decode (xB 40) 96 = .ok (.getfield 15, 3) := by decide +kernel
theorem d40_99 : decode (xB 40) 99 = .ok (.iload 4, 2) := by decide +kernel
theorem d40_101 : decode (xB 40) 101 = .ok (.aload_n 0, 1) := by decide +kernel
theorem d40_102 : decode (xB 40) 102 = .ok (.getfield 15, 3) := by decide +kernel
theorem d40_105 : decode (xB 40) 105 = .ok (.iload 4, 2) := by decide +kernel
theorem d40_107 : decode (xB 40) 107 = .ok (.iaload, 1) := by decide +kernel
theorem d40_108 : decode (xB 40) 108 = .ok (.ineg, 1) := by decide +kernel
theorem d40_109 : decode (xB 40) 109 = .ok (.iastore, 1) := by decide +kernel
theorem d40_110 : decode (xB 40) 110 = .ok (.goto 44, 3) := by decide +kernel
theorem d40_113 : decode (xB 40) 113 = .ok (.iload 4, 2) := by decide +kernel
theorem d40_115 : decode (xB 40) 115 = .ok (.iconst 1, 1) := by decide +kernel
theorem d40_116 : decode (xB 40) 116 = .ok (.if_icmp .lt 38, 3) := by decide +kernel
theorem d40_119 : decode (xB 40) 119 = .ok (.iinc 4 (-1), 3) := by decide +kernel
theorem d40_122 : decode (xB 40) 122 = .ok (.aload_n 0, 1) := by decide +kernel
theorem d40_123 : decode (xB 40) 123 = .ok (.getfield 15, 3) := by decide +kernel
theorem d40_126 : decode (xB 40) 126 = .ok (.iload 4, 2) := by decide +kernel
theorem d40_128 : decode (xB 40) 128 = .ok (.iload 6, 2) := by decide +kernel
theorem d40_130 : decode (xB 40) 130 = .ok (.sipush 2000, 3) := by decide +kernel
theorem d40_133 : decode (xB 40) 133 = .ok (.isub, 1) := by decide +kernel
theorem d40_134 : decode (xB 40) 134 = .ok (.aload_n 0, 1) := by decide +kernel
theorem d40_135 : decode (xB 40) 135 = .ok (.getfield 15, 3) := by decide +kernel
theorem d40_138 : decode (xB 40) 138 = .ok (.iload 4, 2) := by decide +kernel
theorem d40_140 : decode (xB 40) 140 = .ok (.iaload, 1) := by decide +kernel
theorem d40_141 : decode (xB 40) 141 = .ok (.aload_n 0, 1) := by decide +kernel
theorem d40_142 : decode (xB 40) 142 = .ok (.getfield 15, 3) := by decide +kernel
theorem d40_145 : decode (xB 40) 145 = .ok (.iload 4, 2) := by decide +kernel
theorem d40_147 : decode (xB 40) 147 = .ok (.iconst 1, 1) := by decide +kernel
theorem d40_148 : decode (xB 40) 148 = .ok (.iadd, 1) := by decide +kernel
theorem d40_149 : decode (xB 40) 149 = .ok (.iaload, 1) := by decide +kernel
theorem d40_150 : decode (xB 40) 150 = .ok (.invokestatic 36, 3) := by decide +kernel
theorem d40_153 : decode (xB 40) 153 = .ok (.iastore, 1) := by decide +kernel
theorem d40_154 : decode (xB 40) 154 = .ok (.iinc 5 1, 3) := by decide +kernel
theorem d40_157 : decode (xB 40) 157 = .ok (.goto (-151), 3) := by decide +kernel
theorem d40_160 : decode (xB 40) 160 = .ok (.aload_n 0, 1) := by decide +kernel
theorem d40_161 : decode (xB 40) 161 = .ok (.getfield 15, 3) := by decide +kernel
theorem d40_164 : decode (xB 40) 164 = .ok (.iconst 0, 1) := by decide +kernel
theorem d40_165 : decode (xB 40) 165 = .ok (.iaload, 1) := by decide +kernel
theorem d40_166 : decode (xB 40) 166 = .ok (.ireturn, 1) := by decide +kernel
theorem b40_0 {d : Nat} {P : xPr} {Q : xQr} {r : Nat} {mem : Nat → Nat → Int32} (hP : Cl d none 40 P Q) {q : Nat} {t : Nat} {s : Nat} {p2 : Int32} (hq : isRule q) (ht : isTown t) (hs : isState s)
    (k : P 6 [.ref q, .ref t, .ref s, .int p2, .int (-1), .int (nI 0), .null] [] (0, 0) (LAY, RFu r, mem)) : P 0 [.ref q, .ref t, .ref s, .int p2, .null, .null, .null] [] (0, 0) (LAY, RFu r, mem) := by
  refine r_iconst (v := (-1)) hP d40_0 rfl ?_
  refine r_istore (L' := [.ref q, .ref t, .ref s, .int p2, .int (-1), .null, .null]) hP d40_1 (Nat.le_of_ble_eq_true rfl) rfl ?_
  refine r_iconst (v := nI 0) hP d40_3 rfl ?_
  refine r_istore (L' := [.ref q, .ref t, .ref s, .int p2, .int (-1), .int (nI 0), .null]) hP d40_4 (Nat.le_of_ble_eq_true rfl) rfl ?_
  exact k
theorem b40_6 {d : Nat} {P : xPr} {Q : xQr} {r : Nat} {mem : Nat → Nat → Int32} (hP : Cl d none 40 P Q) {q : Nat} {t : Nat} {s : Nat} {x3 : Int32} {x4 : Int32} {x5 : Int32} {v6 : Value} (hq : isRule q) (ht : isTown t) (hs : isState s)
    (kt : (mem q 2) ≤ x5 → P 160 [.ref q, .ref t, .ref s, .int x3, .int x4, .int x5, v6] [] (0, 0) (LAY, RFu r, mem)) (kf : ¬ (mem q 2) ≤ x5 → P 15 [.ref q, .ref t, .ref s, .int x3, .int x4, .int x5, v6] [] (0, 0) (LAY, RFu r, mem)) : P 6 [.ref q, .ref t, .ref s, .int x3, .int x4, .int x5, v6] [] (0, 0) (LAY, RFu r, mem) := by
  refine r_iload hP d40_6 rfl ?_
  refine r_aload_n hP d40_8 rfl ?_
  refine r_geti hP d40_9 fr_5_18 rfl (lt_5 hq) ?_
  exact r_icmp (t := 160) hP d40_12 (by decide) kt kf
theorem b40_15 {d : Nat} {P : xPr} {Q : xQr} {r : Nat} {mem : Nat → Nat → Int32} (hP : Cl d none 40 P Q) {q : Nat} {t : Nat} {s : Nat} {x3 : Int32} {x4 : Int32} {x5 : Int32} {v6 : Value} (hq : isRule q) (ht : isTown t) (hs : isState s) (hi21 : vp_in x5 40)
    (kt : (nI 2000) ≤ (mem (q + 1) x5.toNatClampNeg) → P 82 [.ref q, .ref t, .ref s, .int x3, .int x4, .int x5, .int (mem (q + 1) x5.toNatClampNeg)] [] (0, 0) (LAY, RFu r, mem)) (kf : ¬ (nI 2000) ≤ (mem (q + 1) x5.toNatClampNeg) → P 32 [.ref q, .ref t, .ref s, .int x3, .int x4, .int x5, .int (mem (q + 1) x5.toNatClampNeg)] [] (0, 0) (LAY, RFu r, mem)) : P 15 [.ref q, .ref t, .ref s, .int x3, .int x4, .int x5, v6] [] (0, 0) (LAY, RFu r, mem) := by
  refine r_aload_n hP d40_15 rfl ?_
  refine r_getr (a := (q + 1)) hP d40_16 fr_5_9 rfl (lt_5 hq) (rt_5_0 hq) ?_
  refine r_iload hP d40_19 rfl ?_
  refine r_iaload hP d40_21 (lt_5_0 hq) hi21 ?_
  refine r_istore (L' := [.ref q, .ref t, .ref s, .int x3, .int x4, .int x5, .int (mem (q + 1) x5.toNatClampNeg)]) hP d40_22 (Nat.le_of_ble_eq_true rfl) rfl ?_
  refine r_iload hP d40_24 rfl ?_
  refine r_sipush (v := nI 2000) hP d40_26 rfl ?_
  exact r_icmp (t := 82) hP d40_29 (by decide) kt kf
theorem b40_32 {d : Nat} {P : xPr} {Q : xQr} {r : Nat} {mem : Nat → Nat → Int32} (hP : Cl d none 40 P Q) {q : Nat} {t : Nat} {s : Nat} {x3 : Int32} {x4 : Int32} {x5 : Int32} {x6 : Int32} (hq : isRule q) (ht : isTown t) (hs : isState s)
    (kt : (x4 + nI 1) < (nI 40) → P 47 [.ref q, .ref t, .ref s, .int x3, .int (x4 + nI 1), .int x5, .int x6] [] (0, 0) (LAY, RFu r, mem)) (kf : ¬ (x4 + nI 1) < (nI 40) → P 45 [.ref q, .ref t, .ref s, .int x3, .int (x4 + nI 1), .int x5, .int x6] [] (0, 0) (LAY, RFu r, mem)) : P 32 [.ref q, .ref t, .ref s, .int x3, .int x4, .int x5, .int x6] [] (0, 0) (LAY, RFu r, mem) := by
  refine r_iinc (v := nI 1) (L' := [.ref q, .ref t, .ref s, .int x3, .int (x4 + nI 1), .int x5, .int x6]) hP d40_32 rfl rfl rfl ?_
  refine r_iload hP d40_35 rfl ?_
  refine r_aload_n hP d40_37 rfl ?_
  refine r_getr (a := (q + 2)) hP d40_38 fr_5_15 rfl (lt_5 hq) (rt_5_1 hq) ?_
  refine r_alen (v := nI 40) hP d40_41 (by decide) (by decide) (lt_5_1 hq) rfl ?_
  exact r_icmp (t := 47) hP d40_42 (by decide) kt kf
theorem b40_45 {d : Nat} {P : xPr} {Q : xQr} {r : Nat} {mem : Nat → Nat → Int32} (hP : Cl d none 40 P Q) {q : Nat} {t : Nat} {s : Nat} {v0 : Value} {v1 : Value} {v2 : Value} {v3 : Value} {v4 : Value} {v5 : Value} {v6 : Value} (hq : isRule q) (ht : isTown t) (hs : isState s)
    (k : Q (some (.int (nI 0))) (LAY, RFu r, mem)) : P 45 [v0, v1, v2, v3, v4, v5, v6] [] (0, 0) (LAY, RFu r, mem) := by
  refine r_iconst (v := nI 0) hP d40_45 rfl ?_
  exact r_iret hP d40_46 rfl k
theorem b40_47 {d : Nat} {P : xPr} {Q : xQr} {r : Nat} {mem : Nat → Nat → Int32} (hP : Cl d none 40 P Q) {q : Nat} {t : Nat} {s : Nat} {x3 : Int32} {x4 : Int32} {x5 : Int32} {x6 : Int32} (hq : isRule q) (ht : isTown t) (hs : isState s)
    (kt : (nI 1000) ≤ x6 → P 66 [.ref q, .ref t, .ref s, .int x3, .int x4, .int x5, .int x6] [.int x4, .ref (q + 2)] (0, 0) (LAY, RFu r, mem)) (kf : ¬ (nI 1000) ≤ x6 → P 61 [.ref q, .ref t, .ref s, .int x3, .int x4, .int x5, .int x6] [.int x4, .ref (q + 2)] (0, 0) (LAY, RFu r, mem)) : P 47 [.ref q, .ref t, .ref s, .int x3, .int x4, .int x5, .int x6] [] (0, 0) (LAY, RFu r, mem) := by
  refine r_aload_n hP d40_47 rfl ?_
  refine r_getr (a := (q + 2)) hP d40_48 fr_5_15 rfl (lt_5 hq) (rt_5_1 hq) ?_
  refine r_iload hP d40_51 rfl ?_
  refine r_iload hP d40_53 rfl ?_
  refine r_sipush (v := nI 1000) hP d40_55 rfl ?_
  exact r_icmp (t := 66) hP d40_58 (by decide) kt kf
theorem b40_61 {d : Nat} {P : xPr} {Q : xQr} {r : Nat} {mem : Nat → Nat → Int32} (hP : Cl d none 40 P Q) {q : Nat} {t : Nat} {s : Nat} {x3 : Int32} {x4 : Int32} {x5 : Int32} {x6 : Int32} {y1 : Int32} (hq : isRule q) (ht : isTown t) (hs : isState s)
    (k : P 78 [.ref q, .ref t, .ref s, .int x3, .int x4, .int x5, .int x6] [.int x6, .int y1, .ref (q + 2)] (0, 0) (LAY, RFu r, mem)) : P 61 [.ref q, .ref t, .ref s, .int x3, .int x4, .int x5, .int x6] [.int y1, .ref (q + 2)] (0, 0) (LAY, RFu r, mem) := by
  refine r_iload hP d40_61 rfl ?_
  refine r_goto (t := 78) hP d40_63 (by decide) ?_
  exact k
theorem b40_66 {d : Nat} {P : xPr} {Q : xQr} {r : Nat} {mem : Nat → Nat → Int32} (hP : Cl d none 40 P Q) {q : Nat} {t : Nat} {s : Nat} {x3 : Int32} {x4 : Int32} {x5 : Int32} {x6 : Int32} {y1 : Int32} (hq : isRule q) (ht : isTown t) (hs : isState s)
    (k : xCall d 41 [.int (x6 - (nI 1000)), .ref t, .ref s, .int x3] (LAY, RFu r, mem) (Bk P 75 [.ref q, .ref t, .ref s, .int x3, .int x4, .int x5, .int x6] [.int y1, .ref (q + 2)] (0, 0))) : P 66 [.ref q, .ref t, .ref s, .int x3, .int x4, .int x5, .int x6] [.int y1, .ref (q + 2)] (0, 0) (LAY, RFu r, mem) := by
  refine r_iload hP d40_66 rfl ?_
  refine r_sipush (v := nI 1000) hP d40_68 rfl ?_
  refine r_isub hP d40_71 ?_
  refine r_aload_n hP d40_72 rfl ?_
  refine r_aload_n hP d40_73 rfl ?_
  refine r_iload_n hP d40_74 rfl ?_
  exact r_calls (As := [.int (x6 - (nI 1000)), .ref t, .ref s, .int x3]) (S := [.int y1, .ref (q + 2)]) hP d40_75 cr_5_32 (by decide +kernel) rfl (by simp [Value.category]) rfl (by simp [Value.category]) ⟨Nat.zero_le _, Nat.zero_le _⟩ k
theorem b40_78 {d : Nat} {P : xPr} {Q : xQr} {r : Nat} {mem : Nat → Nat → Int32} (hP : Cl d none 40 P Q) {q : Nat} {t : Nat} {s : Nat} {x3 : Int32} {x4 : Int32} {x5 : Int32} {v6 : Value} {y1 : Int32} {y2 : Int32} (hq : isRule q) (ht : isTown t) (hs : isState s) (hi78 : vp_in y1 40)
    (k : P 154 [.ref q, .ref t, .ref s, .int x3, .int x4, .int x5, v6] [] (0, 0) (LAY, RFu r, xu2 mem (q + 2) y1.toNatClampNeg y2)) : P 78 [.ref q, .ref t, .ref s, .int x3, .int x4, .int x5, v6] [.int y2, .int y1, .ref (q + 2)] (0, 0) (LAY, RFu r, mem) := by
  refine r_iastore hP d40_78 (lt_5_1 hq) hi78 ?_
  refine r_goto (t := 154) hP d40_79 (by decide) ?_
  exact k
theorem b40_82 {d : Nat} {P : xPr} {Q : xQr} {r : Nat} {mem : Nat → Nat → Int32} (hP : Cl d none 40 P Q) {q : Nat} {t : Nat} {s : Nat} {x3 : Int32} {x4 : Int32} {x5 : Int32} {x6 : Int32} (hq : isRule q) (ht : isTown t) (hs : isState s)
    (kt : ¬ x6 = (nI 3000) → P 113 [.ref q, .ref t, .ref s, .int x3, .int x4, .int x5, .int x6] [] (0, 0) (LAY, RFu r, mem)) (kf : x6 = (nI 3000) → P 90 [.ref q, .ref t, .ref s, .int x3, .int x4, .int x5, .int x6] [] (0, 0) (LAY, RFu r, mem)) : P 82 [.ref q, .ref t, .ref s, .int x3, .int x4, .int x5, .int x6] [] (0, 0) (LAY, RFu r, mem) := by
  refine r_iload hP d40_82 rfl ?_
  refine r_sipush (v := nI 3000) hP d40_84 rfl ?_
  exact r_icmp (t := 113) hP d40_87 (by decide) kt (fun q => kf (Decidable.of_not_not q))
theorem b40_90 {d : Nat} {P : xPr} {Q : xQr} {r : Nat} {mem : Nat → Nat → Int32} (hP : Cl d none 40 P Q) {q : Nat} {t : Nat} {s : Nat} {x3 : Int32} {x4 : Int32} {x5 : Int32} {x6 : Int32} (hq : isRule q) (ht : isTown t) (hs : isState s)
    (kt : x4 < 0 → P 113 [.ref q, .ref t, .ref s, .int x3, .int x4, .int x5, .int x6] [] (0, 0) (LAY, RFu r, mem)) (kf : ¬ x4 < 0 → P 95 [.ref q, .ref t, .ref s, .int x3, .int x4, .int x5, .int x6] [] (0, 0) (LAY, RFu r, mem)) : P 90 [.ref q, .ref t, .ref s, .int x3, .int x4, .int x5, .int x6] [] (0, 0) (LAY, RFu r, mem) := by
  refine r_iload hP d40_90 rfl ?_
  exact r_if (t := 113) hP d40_92 (by decide) kt kf
theorem b40_95 {d : Nat} {P : xPr} {Q : xQr} {r : Nat} {mem : Nat → Nat → Int32} (hP : Cl d none 40 P Q) {q : Nat} {t : Nat} {s : Nat} {x3 : Int32} {x4 : Int32} {x5 : Int32} {v6 : Value} (hq : isRule q) (ht : isTown t) (hs : isState s) (hi107 : vp_in x4 40) (hi109 : vp_in x4 40)
    (k : P 154 [.ref q, .ref t, .ref s, .int x3, .int x4, .int x5, v6] [] (0, 0) (LAY, RFu r, xu2 mem (q + 2) x4.toNatClampNeg (-(mem (q + 2) x4.toNatClampNeg)))) : P 95 [.ref q, .ref t, .ref s, .int x3, .int x4, .int x5, v6] [] (0, 0) (LAY, RFu r, mem) := by
  refine r_aload_n hP d40_95 rfl ?_
  refine r_getr (a := (q + 2)) hP d40_96 fr_5_15 rfl (lt_5 hq) (rt_5_1 hq) ?_
  refine r_iload hP d40_99 rfl ?_
  refine r_aload_n hP d40_101 rfl ?_
  refine r_getr (a := (q + 2)) hP d40_102 fr_5_15 rfl (lt_5 hq) (rt_5_1 hq) ?_
  refine r_iload hP d40_105 rfl ?_
  refine r_iaload hP d40_107 (lt_5_1 hq) hi107 ?_
  refine r_ineg hP d40_108 ?_
  refine r_iastore hP d40_109 (lt_5_1 hq) hi109 ?_
  refine r_goto (t := 154) hP d40_110 (by decide) ?_
  exact k
theorem b40_113 {d : Nat} {P : xPr} {Q : xQr} {r : Nat} {mem : Nat → Nat → Int32} (hP : Cl d none 40 P Q) {q : Nat} {t : Nat} {s : Nat} {x3 : Int32} {x4 : Int32} {x5 : Int32} {x6 : Int32} (hq : isRule q) (ht : isTown t) (hs : isState s)
    (kt : x4 < (nI 1) → P 154 [.ref q, .ref t, .ref s, .int x3, .int x4, .int x5, .int x6] [] (0, 0) (LAY, RFu r, mem)) (kf : ¬ x4 < (nI 1) → P 119 [.ref q, .ref t, .ref s, .int x3, .int x4, .int x5, .int x6] [] (0, 0) (LAY, RFu r, mem)) : P 113 [.ref q, .ref t, .ref s, .int x3, .int x4, .int x5, .int x6] [] (0, 0) (LAY, RFu r, mem) := by
  refine r_iload hP d40_113 rfl ?_
  refine r_iconst (v := nI 1) hP d40_115 rfl ?_
  exact r_icmp (t := 154) hP d40_116 (by decide) kt kf
theorem b40_119 {d : Nat} {P : xPr} {Q : xQr} {r : Nat} {mem : Nat → Nat → Int32} (hP : Cl d none 40 P Q) {q : Nat} {t : Nat} {s : Nat} {x3 : Int32} {x4 : Int32} {x5 : Int32} {x6 : Int32} (hq : isRule q) (ht : isTown t) (hs : isState s) (hi140 : vp_in (x4 + (-1)) 40) (hi149 : vp_in ((x4 + (-1)) + (nI 1)) 40)
    (k : xCall d 42 [.int (x6 - (nI 2000)), .int (mem (q + 2) (x4 + (-1)).toNatClampNeg), .int (mem (q + 2) ((x4 + (-1)) + (nI 1)).toNatClampNeg)] (LAY, RFu r, mem) (Bk P 150 [.ref q, .ref t, .ref s, .int x3, .int (x4 + (-1)), .int x5, .int x6] [.int (x4 + (-1)), .ref (q + 2)] (0, 0))) : P 119 [.ref q, .ref t, .ref s, .int x3, .int x4, .int x5, .int x6] [] (0, 0) (LAY, RFu r, mem) := by
  refine r_iinc (v := (-1)) (L' := [.ref q, .ref t, .ref s, .int x3, .int (x4 + (-1)), .int x5, .int x6]) hP d40_119 rfl rfl rfl ?_
  refine r_aload_n hP d40_122 rfl ?_
  refine r_getr (a := (q + 2)) hP d40_123 fr_5_15 rfl (lt_5 hq) (rt_5_1 hq) ?_
  refine r_iload hP d40_126 rfl ?_
  refine r_iload hP d40_128 rfl ?_
  refine r_sipush (v := nI 2000) hP d40_130 rfl ?_
  refine r_isub hP d40_133 ?_
  refine r_aload_n hP d40_134 rfl ?_
  refine r_getr (a := (q + 2)) hP d40_135 fr_5_15 rfl (lt_5 hq) (rt_5_1 hq) ?_
  refine r_iload hP d40_138 rfl ?_
  refine r_iaload hP d40_140 (lt_5_1 hq) hi140 ?_
  refine r_aload_n hP d40_141 rfl ?_
  refine r_getr (a := (q + 2)) hP d40_142 fr_5_15 rfl (lt_5 hq) (rt_5_1 hq) ?_
  refine r_iload hP d40_145 rfl ?_
  refine r_iconst (v := nI 1) hP d40_147 rfl ?_
  refine r_iadd hP d40_148 ?_
  refine r_iaload hP d40_149 (lt_5_1 hq) hi149 ?_
  exact r_calls (As := [.int (x6 - (nI 2000)), .int (mem (q + 2) (x4 + (-1)).toNatClampNeg), .int (mem (q + 2) ((x4 + (-1)) + (nI 1)).toNatClampNeg)]) (S := [.int (x4 + (-1)), .ref (q + 2)]) hP d40_150 cr_5_36 (by decide +kernel) rfl (by simp [Value.category]) rfl (by simp [Value.category]) ⟨Nat.zero_le _, Nat.zero_le _⟩ k
theorem b40_153 {d : Nat} {P : xPr} {Q : xQr} {r : Nat} {mem : Nat → Nat → Int32} (hP : Cl d none 40 P Q) {q : Nat} {t : Nat} {s : Nat} {x3 : Int32} {x4 : Int32} {x5 : Int32} {v6 : Value} {y1 : Int32} {y2 : Int32} (hq : isRule q) (ht : isTown t) (hs : isState s) (hi153 : vp_in y1 40)
    (k : P 154 [.ref q, .ref t, .ref s, .int x3, .int x4, .int x5, v6] [] (0, 0) (LAY, RFu r, xu2 mem (q + 2) y1.toNatClampNeg y2)) : P 153 [.ref q, .ref t, .ref s, .int x3, .int x4, .int x5, v6] [.int y2, .int y1, .ref (q + 2)] (0, 0) (LAY, RFu r, mem) := by
  refine r_iastore hP d40_153 (lt_5_1 hq) hi153 ?_
  exact k
theorem b40_154 {d : Nat} {P : xPr} {Q : xQr} {r : Nat} {mem : Nat → Nat → Int32} (hP : Cl d none 40 P Q) {q : Nat} {t : Nat} {s : Nat} {x3 : Int32} {x4 : Int32} {x5 : Int32} {v6 : Value} (hq : isRule q) (ht : isTown t) (hs : isState s)
    (k : P 6 [.ref q, .ref t, .ref s, .int x3, .int x4, .int (x5 + nI 1), v6] [] (0, 0) (LAY, RFu r, mem)) : P 154 [.ref q, .ref t, .ref s, .int x3, .int x4, .int x5, v6] [] (0, 0) (LAY, RFu r, mem) := by
  refine r_iinc (v := nI 1) (L' := [.ref q, .ref t, .ref s, .int x3, .int x4, .int (x5 + nI 1), v6]) hP d40_154 rfl rfl rfl ?_
  refine r_goto (t := 6) hP d40_157 (by decide) ?_
  exact k
theorem b40_160 {d : Nat} {P : xPr} {Q : xQr} {r : Nat} {mem : Nat → Nat → Int32} (hP : Cl d none 40 P Q) {q : Nat} {t : Nat} {s : Nat} {v1 : Value} {v2 : Value} {v3 : Value} {v4 : Value} {v5 : Value} {v6 : Value} (hq : isRule q) (ht : isTown t) (hs : isState s) (hi165 : vp_in (nI 0) 40)
    (k : Q (some (.int (mem (q + 2) (nI 0).toNatClampNeg))) (LAY, RFu r, mem)) : P 160 [.ref q, v1, v2, v3, v4, v5, v6] [] (0, 0) (LAY, RFu r, mem) := by
  refine r_aload_n hP d40_160 rfl ?_
  refine r_getr (a := (q + 2)) hP d40_161 fr_5_15 rfl (lt_5 hq) (rt_5_1 hq) ?_
  refine r_iconst (v := nI 0) hP d40_164 rfl ?_
  refine r_iaload hP d40_165 (lt_5_1 hq) hi165 ?_
  exact r_iret hP d40_166 rfl k
theorem d41_0 : decode (xB 41) 0 = .ok (.iload_n 0, 1) := by decide +kernel
theorem d41_1 : decode (xB 41) 1 = .ok (.tableswitch 151 97 116 #[131, 141, 151, 151, 151, 151, 97, 151, 95, 151, 104, 151, 151, 151, 151, 151, 151, 151, 111, 121], 95) := by decide +kernel
theorem d41_96 : decode (xB 41) 96 = .ok (.iload_n 3, 1) := by decide +kernel
theorem d41_97 : decode (xB 41) 97 = .ok (.ireturn, 1) := by decide +kernel
theorem d41_98 : decode (xB 41) 98 = .ok (.aload_n 1, 1) := by decide +kernel
theorem d41_99 : decode (xB 41) 99 = .ok (.getfield 40, 3) := by decide +kernel
theorem d41_102 : decode (xB 41) 102 = .ok (.iload_n 3, 1) := by decide +kernel
theorem d41_103 : decode (xB 41) 103 = .ok (.iaload, 1) := by decide +kernel
theorem d41_104 : decode (xB 41) 104 = .ok (.ireturn, 1) := by decide +kernel
theorem d41_105 : decode (xB 41) 105 = .ok (.aload_n 1, 1) := by decide +kernel
theorem d41_106 : decode (xB 41) 106 = .ok (.getfield 45, 3) := by decide +kernel
theorem d41_109 : decode (xB 41) 109 = .ok (.iload_n 3, 1) := by decide +kernel
theorem d41_110 : decode (xB 41) 110 = .ok (.iaload, 1) := by decide +kernel
theorem d41_111 : decode (xB 41) 111 = .ok (.ireturn, 1) := by decide +kernel
theorem d41_112 : decode (xB 41) 112 = .ok (.aload_n 2, 1) := by decide +kernel
theorem d41_113 : decode (xB 41) 113 = .ok (.getfield 48, 3) := by decide +kernel
theorem d41_116 : decode (xB 41) 116 = .ok (.bipush 16, 2) := by decide +kernel
theorem d41_118 : decode (xB 41) 118 = .ok (.iload_n 3, 1) := by decide +kernel
theorem d41_119 : decode (xB 41) 119 = .ok (.iadd, 1) := by decide +kernel
theorem d41_120 : decode (xB 41) 120 = .ok (.iaload, 1) := by decide +kernel
theorem d41_121 : decode (xB 41) 121 = .ok (.ireturn, 1) := by decide +kernel
theorem d41_122 : decode (xB 41) 122 = .ok (.aload_n 2, 1) := by decide +kernel
theorem d41_123 : decode (xB 41) 123 = .ok (.getfield 48, 3) := by decide +kernel
theorem d41_126 : decode (xB 41) 126 = .ok (.bipush 24, 2) := by decide +kernel
theorem d41_128 : decode (xB 41) 128 = .ok (.iload_n 3, 1) := by decide +kernel
theorem d41_129 : decode (xB 41) 129 = .ok (.iadd, 1) := by decide +kernel
theorem d41_130 : decode (xB 41) 130 = .ok (.iaload, 1) := by decide +kernel
theorem d41_131 : decode (xB 41) 131 = .ok (.ireturn, 1) := by decide +kernel
theorem d41_132 : decode (xB 41) 132 = .ok (.aload_n 2, 1) := by decide +kernel
theorem d41_133 : decode (xB 41) 133 = .ok (.getfield 48, 3) := by decide +kernel
theorem d41_136 : decode (xB 41) 136 = .ok (.bipush 32, 2) := by decide +kernel
theorem d41_138 : decode (xB 41) 138 = .ok (.iload_n 3, 1) := by decide +kernel
theorem d41_139 : decode (xB 41) 139 = .ok (.iadd, 1) := by decide +kernel
theorem d41_140 : decode (xB 41) 140 = .ok (.iaload, 1) := by decide +kernel
theorem d41_141 : decode (xB 41) 141 = .ok (.ireturn, 1) := by decide +kernel
theorem d41_142 : decode (xB 41) 142 = .ok (.aload_n 2, 1) := by decide +kernel
theorem d41_143 : decode (xB 41) 143 = .ok (.getfield 48, 3) := by decide +kernel
theorem d41_146 : decode (xB 41) 146 = .ok (.bipush 40, 2) := by decide +kernel
theorem d41_148 : decode (xB 41) 148 = .ok (.iload_n 3, 1) := by decide +kernel
theorem d41_149 : decode (xB 41) 149 = .ok (.iadd, 1) := by decide +kernel
theorem d41_150 : decode (xB 41) 150 = .ok (.iaload, 1) := by decide +kernel
theorem d41_151 : decode (xB 41) 151 = .ok (.ireturn, 1) := by decide +kernel
theorem d41_152 : decode (xB 41) 152 = .ok (.aload_n 2, 1) := by decide +kernel
theorem d41_153 : decode (xB 41) 153 = .ok (.getfield 48, 3) := by decide +kernel
theorem d41_156 : decode (xB 41) 156 = .ok (.bipush 48, 2) := by decide +kernel
theorem d41_158 : decode (xB 41) 158 = .ok (.iload_n 3, 1) := by decide +kernel
theorem d41_159 : decode (xB 41) 159 = .ok (.iadd, 1) := by decide +kernel
theorem d41_160 : decode (xB 41) 160 = .ok (.iaload, 1) := by decide +kernel
theorem d41_161 : decode (xB 41) 161 = .ok (.ireturn, 1) := by decide +kernel
theorem b41_0 {d : Nat} {P : xPr} {Q : xQr} {r : Nat} {mem : Nat → Nat → Int32} (hP : Cl d none 41 P Q) {p0 : Int32} {t : Nat} {s : Nat} {p3 : Int32} (ht : isTown t) (hs : isState s)
    (kd : (p0.toInt < 97 ∨ 116 < p0.toInt) → P 152 [.int p0, .ref t, .ref s, .int p3] [] (0, 0) (LAY, RFu r, mem)) (k0 : p0.toInt = 97 → P 132 [.int p0, .ref t, .ref s, .int p3] [] (0, 0) (LAY, RFu r, mem)) (k1 : p0.toInt = 98 → P 142 [.int p0, .ref t, .ref s, .int p3] [] (0, 0) (LAY, RFu r, mem)) (k2 : p0.toInt = 99 → P 152 [.int p0, .ref t, .ref s, .int p3] [] (0, 0) (LAY, RFu r, mem)) (k3 : p0.toInt = 100 → P 152 [.int p0, .ref t, .ref s, .int p3] [] (0, 0) (LAY, RFu r, mem)) (k4 : p0.toInt = 101 → P 152 [.int p0, .ref t, .ref s, .int p3] [] (0, 0) (LAY, RFu r, mem)) (k5 : p0.toInt = 102 → P 152 [.int p0, .ref t, .ref s, .int p3] [] (0, 0) (LAY, RFu r, mem)) (k6 : p0.toInt = 103 → P 98 [.int p0, .ref t, .ref s, .int p3] [] (0, 0) (LAY, RFu r, mem)) (k7 : p0.toInt = 104 → P 152 [.int p0, .ref t, .ref s, .int p3] [] (0, 0) (LAY, RFu r, mem)) (k8 : p0.toInt = 105 → P 96 [.int p0, .ref t, .ref s, .int p3] [] (0, 0) (LAY, RFu r, mem)) (k9 : p0.toInt = 106 → P 152 [.int p0, .ref t, .ref s, .int p3] [] (0, 0) (LAY, RFu r, mem)) (k10 : p0.toInt = 107 → P 105 [.int p0, .ref t, .ref s, .int p3] [] (0, 0) (LAY, RFu r, mem)) (k11 : p0.toInt = 108 → P 152 [.int p0, .ref t, .ref s, .int p3] [] (0, 0) (LAY, RFu r, mem)) (k12 : p0.toInt = 109 → P 152 [.int p0, .ref t, .ref s, .int p3] [] (0, 0) (LAY, RFu r, mem)) (k13 : p0.toInt = 110 → P 152 [.int p0, .ref t, .ref s, .int p3] [] (0, 0) (LAY, RFu r, mem)) (k14 : p0.toInt = 111 → P 152 [.int p0, .ref t, .ref s, .int p3] [] (0, 0) (LAY, RFu r, mem)) (k15 : p0.toInt = 112 → P 152 [.int p0, .ref t, .ref s, .int p3] [] (0, 0) (LAY, RFu r, mem)) (k16 : p0.toInt = 113 → P 152 [.int p0, .ref t, .ref s, .int p3] [] (0, 0) (LAY, RFu r, mem)) (k17 : p0.toInt = 114 → P 152 [.int p0, .ref t, .ref s, .int p3] [] (0, 0) (LAY, RFu r, mem)) (k18 : p0.toInt = 115 → P 112 [.int p0, .ref t, .ref s, .int p3] [] (0, 0) (LAY, RFu r, mem)) (k19 : p0.toInt = 116 → P 122 [.int p0, .ref t, .ref s, .int p3] [] (0, 0) (LAY, RFu r, mem)) : P 0 [.int p0, .ref t, .ref s, .int p3] [] (0, 0) (LAY, RFu r, mem) := by
  refine r_iload_n hP d41_0 rfl ?_
  refine r_table (t := 152) hP d41_1 (by decide) (by decide) kd (fun h1 h2 off ho => ?_)
  have hc : p0.toInt = 97 ∨ p0.toInt = 98 ∨ p0.toInt = 99 ∨ p0.toInt = 100 ∨ p0.toInt = 101 ∨ p0.toInt = 102 ∨ p0.toInt = 103 ∨ p0.toInt = 104 ∨ p0.toInt = 105 ∨ p0.toInt = 106 ∨ p0.toInt = 107 ∨ p0.toInt = 108 ∨ p0.toInt = 109 ∨ p0.toInt = 110 ∨ p0.toInt = 111 ∨ p0.toInt = 112 ∨ p0.toInt = 113 ∨ p0.toInt = 114 ∨ p0.toInt = 115 ∨ p0.toInt = 116 := by omega
  rcases hc with hc | hc | hc | hc | hc | hc | hc | hc | hc | hc | hc | hc | hc | hc | hc | hc | hc | hc | hc | hc
  · rw [hc] at ho; cases ho; exact ⟨132, by decide, k0 hc⟩
  · rw [hc] at ho; cases ho; exact ⟨142, by decide, k1 hc⟩
  · rw [hc] at ho; cases ho; exact ⟨152, by decide, k2 hc⟩
  · rw [hc] at ho; cases ho; exact ⟨152, by decide, k3 hc⟩
  · rw [hc] at ho; cases ho; exact ⟨152, by decide, k4 hc⟩
  · rw [hc] at ho; cases ho; exact ⟨152, by decide, k5 hc⟩
  · rw [hc] at ho; cases ho; exact ⟨98, by decide, k6 hc⟩
  · rw [hc] at ho; cases ho; exact ⟨152, by decide, k7 hc⟩
  · rw [hc] at ho; cases ho; exact ⟨96, by decide, k8 hc⟩
  · rw [hc] at ho; cases ho; exact ⟨152, by decide, k9 hc⟩
  · rw [hc] at ho; cases ho; exact ⟨105, by decide, k10 hc⟩
  · rw [hc] at ho; cases ho; exact ⟨152, by decide, k11 hc⟩
  · rw [hc] at ho; cases ho; exact ⟨152, by decide, k12 hc⟩
  · rw [hc] at ho; cases ho; exact ⟨152, by decide, k13 hc⟩
  · rw [hc] at ho; cases ho; exact ⟨152, by decide, k14 hc⟩
  · rw [hc] at ho; cases ho; exact ⟨152, by decide, k15 hc⟩
  · rw [hc] at ho; cases ho; exact ⟨152, by decide, k16 hc⟩
  · rw [hc] at ho; cases ho; exact ⟨152, by decide, k17 hc⟩
  · rw [hc] at ho; cases ho; exact ⟨112, by decide, k18 hc⟩
  · rw [hc] at ho; cases ho; exact ⟨122, by decide, k19 hc⟩
theorem b41_96 {d : Nat} {P : xPr} {Q : xQr} {r : Nat} {mem : Nat → Nat → Int32} (hP : Cl d none 41 P Q) {t : Nat} {s : Nat} {v0 : Value} {v1 : Value} {v2 : Value} {x3 : Int32} (ht : isTown t) (hs : isState s)
    (k : Q (some (.int x3)) (LAY, RFu r, mem)) : P 96 [v0, v1, v2, .int x3] [] (0, 0) (LAY, RFu r, mem) := by
  refine r_iload_n hP d41_96 rfl ?_
  exact r_iret hP d41_97 rfl k
theorem b41_98 {d : Nat} {P : xPr} {Q : xQr} {r : Nat} {mem : Nat → Nat → Int32} (hP : Cl d none 41 P Q) {t : Nat} {s : Nat} {v0 : Value} {v2 : Value} {x3 : Int32} (ht : isTown t) (hs : isState s) (hi103 : vp_in x3 8)
    (k : Q (some (.int (mem (t + 2) x3.toNatClampNeg))) (LAY, RFu r, mem)) : P 98 [v0, .ref t, v2, .int x3] [] (0, 0) (LAY, RFu r, mem) := by
  refine r_aload_n hP d41_98 rfl ?_
  refine r_getr (a := (t + 2)) hP d41_99 fr_5_40 rfl (lt_10 ht) (rt_10_3 ht) ?_
  refine r_iload_n hP d41_102 rfl ?_
  refine r_iaload hP d41_103 (lt_10_3 ht) hi103 ?_
  exact r_iret hP d41_104 rfl k
theorem b41_105 {d : Nat} {P : xPr} {Q : xQr} {r : Nat} {mem : Nat → Nat → Int32} (hP : Cl d none 41 P Q) {t : Nat} {s : Nat} {v0 : Value} {v2 : Value} {x3 : Int32} (ht : isTown t) (hs : isState s) (hi110 : vp_in x3 8)
    (k : Q (some (.int (mem (t + 3) x3.toNatClampNeg))) (LAY, RFu r, mem)) : P 105 [v0, .ref t, v2, .int x3] [] (0, 0) (LAY, RFu r, mem) := by
  refine r_aload_n hP d41_105 rfl ?_
  refine r_getr (a := (t + 3)) hP d41_106 fr_5_45 rfl (lt_10 ht) (rt_10_4 ht) ?_
  refine r_iload_n hP d41_109 rfl ?_
  refine r_iaload hP d41_110 (lt_10_4 ht) hi110 ?_
  exact r_iret hP d41_111 rfl k
theorem b41_112 {d : Nat} {P : xPr} {Q : xQr} {r : Nat} {mem : Nat → Nat → Int32} (hP : Cl d none 41 P Q) {t : Nat} {s : Nat} {v0 : Value} {v1 : Value} {x3 : Int32} (ht : isTown t) (hs : isState s) (hi120 : vp_in ((nI 16) + x3) 121)
    (k : Q (some (.int (mem (s + 1) ((nI 16) + x3).toNatClampNeg))) (LAY, RFu r, mem)) : P 112 [v0, v1, .ref s, .int x3] [] (0, 0) (LAY, RFu r, mem) := by
  refine r_aload_n hP d41_112 rfl ?_
  refine r_getr (a := (s + 1)) hP d41_113 fr_5_48 rfl (lt_8 hs) (rt_8_0 hs) ?_
  refine r_bipush (v := nI 16) hP d41_116 rfl ?_
  refine r_iload_n hP d41_118 rfl ?_
  refine r_iadd hP d41_119 ?_
  refine r_iaload hP d41_120 (lt_8_0 hs) hi120 ?_
  exact r_iret hP d41_121 rfl k
theorem b41_122 {d : Nat} {P : xPr} {Q : xQr} {r : Nat} {mem : Nat → Nat → Int32} (hP : Cl d none 41 P Q) {t : Nat} {s : Nat} {v0 : Value} {v1 : Value} {x3 : Int32} (ht : isTown t) (hs : isState s) (hi130 : vp_in ((nI 24) + x3) 121)
    (k : Q (some (.int (mem (s + 1) ((nI 24) + x3).toNatClampNeg))) (LAY, RFu r, mem)) : P 122 [v0, v1, .ref s, .int x3] [] (0, 0) (LAY, RFu r, mem) := by
  refine r_aload_n hP d41_122 rfl ?_
  refine r_getr (a := (s + 1)) hP d41_123 fr_5_48 rfl (lt_8 hs) (rt_8_0 hs) ?_
  refine r_bipush (v := nI 24) hP d41_126 rfl ?_
  refine r_iload_n hP d41_128 rfl ?_
  refine r_iadd hP d41_129 ?_
  refine r_iaload hP d41_130 (lt_8_0 hs) hi130 ?_
  exact r_iret hP d41_131 rfl k
theorem b41_132 {d : Nat} {P : xPr} {Q : xQr} {r : Nat} {mem : Nat → Nat → Int32} (hP : Cl d none 41 P Q) {t : Nat} {s : Nat} {v0 : Value} {v1 : Value} {x3 : Int32} (ht : isTown t) (hs : isState s) (hi140 : vp_in ((nI 32) + x3) 121)
    (k : Q (some (.int (mem (s + 1) ((nI 32) + x3).toNatClampNeg))) (LAY, RFu r, mem)) : P 132 [v0, v1, .ref s, .int x3] [] (0, 0) (LAY, RFu r, mem) := by
  refine r_aload_n hP d41_132 rfl ?_
  refine r_getr (a := (s + 1)) hP d41_133 fr_5_48 rfl (lt_8 hs) (rt_8_0 hs) ?_
  refine r_bipush (v := nI 32) hP d41_136 rfl ?_
  refine r_iload_n hP d41_138 rfl ?_
  refine r_iadd hP d41_139 ?_
  refine r_iaload hP d41_140 (lt_8_0 hs) hi140 ?_
  exact r_iret hP d41_141 rfl k
theorem b41_142 {d : Nat} {P : xPr} {Q : xQr} {r : Nat} {mem : Nat → Nat → Int32} (hP : Cl d none 41 P Q) {t : Nat} {s : Nat} {v0 : Value} {v1 : Value} {x3 : Int32} (ht : isTown t) (hs : isState s) (hi150 : vp_in ((nI 40) + x3) 121)
    (k : Q (some (.int (mem (s + 1) ((nI 40) + x3).toNatClampNeg))) (LAY, RFu r, mem)) : P 142 [v0, v1, .ref s, .int x3] [] (0, 0) (LAY, RFu r, mem) := by
  refine r_aload_n hP d41_142 rfl ?_
  refine r_getr (a := (s + 1)) hP d41_143 fr_5_48 rfl (lt_8 hs) (rt_8_0 hs) ?_
  refine r_bipush (v := nI 40) hP d41_146 rfl ?_
  refine r_iload_n hP d41_148 rfl ?_
  refine r_iadd hP d41_149 ?_
  refine r_iaload hP d41_150 (lt_8_0 hs) hi150 ?_
  exact r_iret hP d41_151 rfl k
theorem b41_152 {d : Nat} {P : xPr} {Q : xQr} {r : Nat} {mem : Nat → Nat → Int32} (hP : Cl d none 41 P Q) {t : Nat} {s : Nat} {v0 : Value} {v1 : Value} {x3 : Int32} (ht : isTown t) (hs : isState s) (hi160 : vp_in ((nI 48) + x3) 121)
    (k : Q (some (.int (mem (s + 1) ((nI 48) + x3).toNatClampNeg))) (LAY, RFu r, mem)) : P 152 [v0, v1, .ref s, .int x3] [] (0, 0) (LAY, RFu r, mem) := by
  refine r_aload_n hP d41_152 rfl ?_
  refine r_getr (a := (s + 1)) hP d41_153 fr_5_48 rfl (lt_8 hs) (rt_8_0 hs) ?_
  refine r_bipush (v := nI 48) hP d41_156 rfl ?_
  refine r_iload_n hP d41_158 rfl ?_
  refine r_iadd hP d41_159 ?_
  refine r_iaload hP d41_160 (lt_8_0 hs) hi160 ?_
  exact r_iret hP d41_161 rfl k
theorem d42_0 : decode (xB 42) 0 = .ok (.iload_n 0, 1) := by decide +kernel
theorem d42_1 : decode (xB 42) 1 = .ok (.lookupswitch 105 #[(42, 67), (43, 59), (45, 63), (47, 71), (60, 83), (62, 94)], 59) := by decide +kernel
theorem d42_60 : decode (xB 42) 60 = .ok (.iload_n 1, 1) := by decide +kernel
theorem d42_61 : decode (xB 42) 61 = .ok (.iload_n 2, 1) := by decide +kernel
theorem d42_62 : decode (xB 42) 62 = .ok (.iadd, 1) := by decide +kernel
theorem d42_63 : decode (xB 42) 63 = .ok (.ireturn, 1) := by decide +kernel
theorem d42_64 : decode (xB 42) 64 = .ok (.iload_n 1, 1) := by decide +kernel
theorem d42_65 : decode (xB 42) 65 = .ok (.iload_n 2, 1) := by decide +kernel
theorem d42_66 : decode (xB 42) 66 = .ok (.isub, 1) := by decide +kernel
theorem d42_67 : decode (xB 42) 67 = .ok (.ireturn, 1) := by decide +kernel
theorem d42_68 : decode (xB 42) 68 = .ok (.iload_n 1, 1) := by decide +kernel
theorem d42_69 : decode (xB 42) 69 = .ok (.iload_n 2, 1) := by decide +kernel
theorem d42_70 : decode (xB 42) 70 = .ok (.imul, 1) := by decide +kernel
theorem d42_71 : decode (xB 42) 71 = .ok (.ireturn, 1) := by decide +kernel
theorem d42_72 : decode (xB 42) 72 = .ok (.iload_n 2, 1) := by decide +kernel
theorem d42_73 : decode (xB 42) 73 = .ok (.ifCond .ne 7, 3) := by decide +kernel
theorem d42_76 : decode (xB 42) 76 = .ok (.iconst 0, 1) := by decide +kernel
theorem d42_77 : decode (xB 42) 77 = .ok (.goto 6, 3) := by decide +kernel
theorem d42_80 : decode (xB 42) 80 = .ok (.iload_n 1, 1) := by decide +kernel
theorem d42_81 : decode (xB 42) 81 = .ok (.iload_n 2, 1) := by decide +kernel
theorem d42_82 : decode (xB 42) 82 = .ok (.idiv, 1) := by decide +kernel
theorem d42_83 : decode (xB 42) 83 = .ok (.ireturn, 1) := by decide +kernel
theorem d42_84 : decode (xB 42) 84 = .ok (.iload_n 1, 1) := by decide +kernel
theorem d42_85 : decode (xB 42) 85 = .ok (.iload_n 2, 1) := by decide +kernel
theorem d42_86 : decode (xB 42) 86 = .ok (.if_icmp .ge 7, 3) := by decide +kernel
theorem d42_89 : decode (xB 42) 89 = .ok (.iconst 1, 1) := by decide +kernel
theorem d42_90 : decode (xB 42) 90 = .ok (.goto 4, 3) := by decide +kernel
theorem d42_93 : decode (xB 42) 93 = .ok (.iconst 0, 1) := by decide +kernel
theorem d42_94 : decode (xB 42) 94 = .ok (.ireturn, 1) := by decide +kernel
theorem d42_95 : decode (xB 42) 95 = .ok (.iload_n 1, 1) := by decide +kernel
theorem d42_96 : decode (xB 42) 96 = .ok (.iload_n 2, 1) := by decide +kernel
theorem d42_97 : decode (xB 42) 97 = .ok (.if_icmp .le 7, 3) := by decide +kernel
theorem d42_100 : decode (xB 42) 100 = .ok (.iconst 1, 1) := by decide +kernel
theorem d42_101 : decode (xB 42) 101 = .ok (.goto 4, 3) := by decide +kernel
theorem d42_104 : decode (xB 42) 104 = .ok (.iconst 0, 1) := by decide +kernel
theorem d42_105 : decode (xB 42) 105 = .ok (.ireturn, 1) := by decide +kernel
theorem d42_106 : decode (xB 42) 106 = .ok (.iload_n 1, 1) := by decide +kernel
theorem d42_107 : decode (xB 42) 107 = .ok (.iload_n 2, 1) := by decide +kernel
theorem d42_108 : decode (xB 42) 108 = .ok (.if_icmp .ne 7, 3) := by decide +kernel
theorem d42_111 : decode (xB 42) 111 = .ok (.iconst 1, 1) := by decide +kernel
theorem d42_112 : decode (xB 42) 112 = .ok (.goto 4, 3) := by decide +kernel
theorem d42_115 : decode (xB 42) 115 = .ok (.iconst 0, 1) := by decide +kernel
theorem d42_116 : decode (xB 42) 116 = .ok (.ireturn, 1) := by decide +kernel
theorem b42_0 {d : Nat} {P : xPr} {Q : xQr} {r : Nat} {mem : Nat → Nat → Int32} (hP : Cl d none 42 P Q) {p0 : Int32} {p1 : Int32} {p2 : Int32}
    (kd : ¬ p0.toInt = 42 → ¬ p0.toInt = 43 → ¬ p0.toInt = 45 → ¬ p0.toInt = 47 → ¬ p0.toInt = 60 → ¬ p0.toInt = 62 → P 106 [.int p0, .int p1, .int p2] [] (0, 0) (LAY, RFu r, mem)) (k0 : p0.toInt = 42 → P 68 [.int p0, .int p1, .int p2] [] (0, 0) (LAY, RFu r, mem)) (k1 : p0.toInt = 43 → P 60 [.int p0, .int p1, .int p2] [] (0, 0) (LAY, RFu r, mem)) (k2 : p0.toInt = 45 → P 64 [.int p0, .int p1, .int p2] [] (0, 0) (LAY, RFu r, mem)) (k3 : p0.toInt = 47 → P 72 [.int p0, .int p1, .int p2] [] (0, 0) (LAY, RFu r, mem)) (k4 : p0.toInt = 60 → P 84 [.int p0, .int p1, .int p2] [] (0, 0) (LAY, RFu r, mem)) (k5 : p0.toInt = 62 → P 95 [.int p0, .int p1, .int p2] [] (0, 0) (LAY, RFu r, mem)) : P 0 [.int p0, .int p1, .int p2] [] (0, 0) (LAY, RFu r, mem) := by
  refine r_iload_n hP d42_0 rfl ?_
  refine r_lookup hP d42_1 (by decide) ?_
  by_cases c0 : p0.toInt = 42
  · rw [c0]; exact ⟨68, by decide, k0 c0⟩
  by_cases c1 : p0.toInt = 43
  · rw [c1]; exact ⟨60, by decide, k1 c1⟩
  by_cases c2 : p0.toInt = 45
  · rw [c2]; exact ⟨64, by decide, k2 c2⟩
  by_cases c3 : p0.toInt = 47
  · rw [c3]; exact ⟨72, by decide, k3 c3⟩
  by_cases c4 : p0.toInt = 60
  · rw [c4]; exact ⟨84, by decide, k4 c4⟩
  by_cases c5 : p0.toInt = 62
  · rw [c5]; exact ⟨95, by decide, k5 c5⟩
  have e : Op.lookupswitch.offset [(42, 67), (43, 59), (45, 63), (47, 71), (60, 83), (62, 94)] 105 p0.toInt = 105 := by simp [Op.lookupswitch.offset, Ne.symm c0, Ne.symm c1, Ne.symm c2, Ne.symm c3, Ne.symm c4, Ne.symm c5]
  exact ⟨106, by show (1 : Int) + Op.lookupswitch.offset [(42, 67), (43, 59), (45, 63), (47, 71), (60, 83), (62, 94)] 105 p0.toInt = _; rw [e]; decide, kd c0 c1 c2 c3 c4 c5⟩
theorem b42_60 {d : Nat} {P : xPr} {Q : xQr} {r : Nat} {mem : Nat → Nat → Int32} (hP : Cl d none 42 P Q) {v0 : Value} {x1 : Int32} {x2 : Int32}
    (k : Q (some (.int (x1 + x2))) (LAY, RFu r, mem)) : P 60 [v0, .int x1, .int x2] [] (0, 0) (LAY, RFu r, mem) := by
  refine r_iload_n hP d42_60 rfl ?_
  refine r_iload_n hP d42_61 rfl ?_
  refine r_iadd hP d42_62 ?_
  exact r_iret hP d42_63 rfl k
theorem b42_64 {d : Nat} {P : xPr} {Q : xQr} {r : Nat} {mem : Nat → Nat → Int32} (hP : Cl d none 42 P Q) {v0 : Value} {x1 : Int32} {x2 : Int32}
    (k : Q (some (.int (x1 - x2))) (LAY, RFu r, mem)) : P 64 [v0, .int x1, .int x2] [] (0, 0) (LAY, RFu r, mem) := by
  refine r_iload_n hP d42_64 rfl ?_
  refine r_iload_n hP d42_65 rfl ?_
  refine r_isub hP d42_66 ?_
  exact r_iret hP d42_67 rfl k
theorem b42_68 {d : Nat} {P : xPr} {Q : xQr} {r : Nat} {mem : Nat → Nat → Int32} (hP : Cl d none 42 P Q) {v0 : Value} {x1 : Int32} {x2 : Int32}
    (k : Q (some (.int (x1 * x2))) (LAY, RFu r, mem)) : P 68 [v0, .int x1, .int x2] [] (0, 0) (LAY, RFu r, mem) := by
  refine r_iload_n hP d42_68 rfl ?_
  refine r_iload_n hP d42_69 rfl ?_
  refine r_imul hP d42_70 ?_
  exact r_iret hP d42_71 rfl k
theorem b42_72 {d : Nat} {P : xPr} {Q : xQr} {r : Nat} {mem : Nat → Nat → Int32} (hP : Cl d none 42 P Q) {v0 : Value} {x1 : Int32} {x2 : Int32}
    (kt : ¬ x2 = 0 → P 80 [v0, .int x1, .int x2] [] (0, 0) (LAY, RFu r, mem)) (kf : x2 = 0 → P 76 [v0, .int x1, .int x2] [] (0, 0) (LAY, RFu r, mem)) : P 72 [v0, .int x1, .int x2] [] (0, 0) (LAY, RFu r, mem) := by
  refine r_iload_n hP d42_72 rfl ?_
  exact r_if (t := 80) hP d42_73 (by decide) kt (fun q => kf (Decidable.of_not_not q))
theorem b42_76 {d : Nat} {P : xPr} {Q : xQr} {r : Nat} {mem : Nat → Nat → Int32} (hP : Cl d none 42 P Q) {v0 : Value} {v1 : Value} {v2 : Value}
    (k : P 83 [v0, v1, v2] [.int (nI 0)] (0, 0) (LAY, RFu r, mem)) : P 76 [v0, v1, v2] [] (0, 0) (LAY, RFu r, mem) := by
  refine r_iconst (v := nI 0) hP d42_76 rfl ?_
  refine r_goto (t := 83) hP d42_77 (by decide) ?_
  exact k
theorem b42_80 {d : Nat} {P : xPr} {Q : xQr} {r : Nat} {mem : Nat → Nat → Int32} (hP : Cl d none 42 P Q) {v0 : Value} {x1 : Int32} {x2 : Int32} (hz82 : ¬ x2 = 0)
    (k : P 83 [v0, .int x1, .int x2] [.int (x1 / x2)] (0, 0) (LAY, RFu r, mem)) : P 80 [v0, .int x1, .int x2] [] (0, 0) (LAY, RFu r, mem) := by
  refine r_iload_n hP d42_80 rfl ?_
  refine r_iload_n hP d42_81 rfl ?_
  refine r_idiv hP d42_82 hz82 ?_
  exact k
theorem b42_83 {d : Nat} {P : xPr} {Q : xQr} {r : Nat} {mem : Nat → Nat → Int32} (hP : Cl d none 42 P Q) {v0 : Value} {v1 : Value} {v2 : Value} {y0 : Int32}
    (k : Q (some (.int y0)) (LAY, RFu r, mem)) : P 83 [v0, v1, v2] [.int y0] (0, 0) (LAY, RFu r, mem) := by
  exact r_iret hP d42_83 rfl k
theorem b42_84 {d : Nat} {P : xPr} {Q : xQr} {r : Nat} {mem : Nat → Nat → Int32} (hP : Cl d none 42 P Q) {v0 : Value} {x1 : Int32} {x2 : Int32}
    (kt : x2 ≤ x1 → P 93 [v0, .int x1, .int x2] [] (0, 0) (LAY, RFu r, mem)) (kf : ¬ x2 ≤ x1 → P 89 [v0, .int x1, .int x2] [] (0, 0) (LAY, RFu r, mem)) : P 84 [v0, .int x1, .int x2] [] (0, 0) (LAY, RFu r, mem) := by
  refine r_iload_n hP d42_84 rfl ?_
  refine r_iload_n hP d42_85 rfl ?_
  exact r_icmp (t := 93) hP d42_86 (by decide) kt kf
theorem b42_89 {d : Nat} {P : xPr} {Q : xQr} {r : Nat} {mem : Nat → Nat → Int32} (hP : Cl d none 42 P Q) {v0 : Value} {v1 : Value} {v2 : Value}
    (k : P 94 [v0, v1, v2] [.int (nI 1)] (0, 0) (LAY, RFu r, mem)) : P 89 [v0, v1, v2] [] (0, 0) (LAY, RFu r, mem) := by
  refine r_iconst (v := nI 1) hP d42_89 rfl ?_
  refine r_goto (t := 94) hP d42_90 (by decide) ?_
  exact k
theorem b42_93 {d : Nat} {P : xPr} {Q : xQr} {r : Nat} {mem : Nat → Nat → Int32} (hP : Cl d none 42 P Q) {v0 : Value} {v1 : Value} {v2 : Value}
    (k : P 94 [v0, v1, v2] [.int (nI 0)] (0, 0) (LAY, RFu r, mem)) : P 93 [v0, v1, v2] [] (0, 0) (LAY, RFu r, mem) := by
  refine r_iconst (v := nI 0) hP d42_93 rfl ?_
  exact k
theorem b42_94 {d : Nat} {P : xPr} {Q : xQr} {r : Nat} {mem : Nat → Nat → Int32} (hP : Cl d none 42 P Q) {v0 : Value} {v1 : Value} {v2 : Value} {y0 : Int32}
    (k : Q (some (.int y0)) (LAY, RFu r, mem)) : P 94 [v0, v1, v2] [.int y0] (0, 0) (LAY, RFu r, mem) := by
  exact r_iret hP d42_94 rfl k
theorem b42_95 {d : Nat} {P : xPr} {Q : xQr} {r : Nat} {mem : Nat → Nat → Int32} (hP : Cl d none 42 P Q) {v0 : Value} {x1 : Int32} {x2 : Int32}
    (kt : x1 ≤ x2 → P 104 [v0, .int x1, .int x2] [] (0, 0) (LAY, RFu r, mem)) (kf : ¬ x1 ≤ x2 → P 100 [v0, .int x1, .int x2] [] (0, 0) (LAY, RFu r, mem)) : P 95 [v0, .int x1, .int x2] [] (0, 0) (LAY, RFu r, mem) := by
  refine r_iload_n hP d42_95 rfl ?_
  refine r_iload_n hP d42_96 rfl ?_
  exact r_icmp (t := 104) hP d42_97 (by decide) kt kf
theorem b42_100 {d : Nat} {P : xPr} {Q : xQr} {r : Nat} {mem : Nat → Nat → Int32} (hP : Cl d none 42 P Q) {v0 : Value} {v1 : Value} {v2 : Value}
    (k : P 105 [v0, v1, v2] [.int (nI 1)] (0, 0) (LAY, RFu r, mem)) : P 100 [v0, v1, v2] [] (0, 0) (LAY, RFu r, mem) := by
  refine r_iconst (v := nI 1) hP d42_100 rfl ?_
  refine r_goto (t := 105) hP d42_101 (by decide) ?_
  exact k
theorem b42_104 {d : Nat} {P : xPr} {Q : xQr} {r : Nat} {mem : Nat → Nat → Int32} (hP : Cl d none 42 P Q) {v0 : Value} {v1 : Value} {v2 : Value}
    (k : P 105 [v0, v1, v2] [.int (nI 0)] (0, 0) (LAY, RFu r, mem)) : P 104 [v0, v1, v2] [] (0, 0) (LAY, RFu r, mem) := by
  refine r_iconst (v := nI 0) hP d42_104 rfl ?_
  exact k
theorem b42_105 {d : Nat} {P : xPr} {Q : xQr} {r : Nat} {mem : Nat → Nat → Int32} (hP : Cl d none 42 P Q) {v0 : Value} {v1 : Value} {v2 : Value} {y0 : Int32}
    (k : Q (some (.int y0)) (LAY, RFu r, mem)) : P 105 [v0, v1, v2] [.int y0] (0, 0) (LAY, RFu r, mem) := by
  exact r_iret hP d42_105 rfl k
theorem b42_106 {d : Nat} {P : xPr} {Q : xQr} {r : Nat} {mem : Nat → Nat → Int32} (hP : Cl d none 42 P Q) {v0 : Value} {x1 : Int32} {x2 : Int32}
    (kt : ¬ x1 = x2 → P 115 [v0, .int x1, .int x2] [] (0, 0) (LAY, RFu r, mem)) (kf : x1 = x2 → P 111 [v0, .int x1, .int x2] [] (0, 0) (LAY, RFu r, mem)) : P 106 [v0, .int x1, .int x2] [] (0, 0) (LAY, RFu r, mem) := by
  refine r_iload_n hP d42_106 rfl ?_
  refine r_iload_n hP d42_107 rfl ?_
  exact r_icmp (t := 115) hP d42_108 (by decide) kt (fun q => kf (Decidable.of_not_not q))
theorem b42_111 {d : Nat} {P : xPr} {Q : xQr} {r : Nat} {mem : Nat → Nat → Int32} (hP : Cl d none 42 P Q) {v0 : Value} {v1 : Value} {v2 : Value}
    (k : P 116 [v0, v1, v2] [.int (nI 1)] (0, 0) (LAY, RFu r, mem)) : P 111 [v0, v1, v2] [] (0, 0) (LAY, RFu r, mem) := by
  refine r_iconst (v := nI 1) hP d42_111 rfl ?_
  refine r_goto (t := 116) hP d42_112 (by decide) ?_
  exact k
theorem b42_115 {d : Nat} {P : xPr} {Q : xQr} {r : Nat} {mem : Nat → Nat → Int32} (hP : Cl d none 42 P Q) {v0 : Value} {v1 : Value} {v2 : Value}
    (k : P 116 [v0, v1, v2] [.int (nI 0)] (0, 0) (LAY, RFu r, mem)) : P 115 [v0, v1, v2] [] (0, 0) (LAY, RFu r, mem) := by
  refine r_iconst (v := nI 0) hP d42_115 rfl ?_
  exact k
theorem b42_116 {d : Nat} {P : xPr} {Q : xQr} {r : Nat} {mem : Nat → Nat → Int32} (hP : Cl d none 42 P Q) {v0 : Value} {v1 : Value} {v2 : Value} {y0 : Int32}
    (k : Q (some (.int y0)) (LAY, RFu r, mem)) : P 116 [v0, v1, v2] [.int y0] (0, 0) (LAY, RFu r, mem) := by
  exact r_iret hP d42_116 rfl k
theorem d44_0 : decode (xB 44) 0 = .ok (.aload_n 0, 1) := by decide +kernel
theorem d44_1 : decode (xB 44) 1 = .ok (.getfield 14, 3) := by decide +kernel
theorem d44_4 : decode (xB 44) 4 = .ok (.invokevirtual 28, 3) := by decide +kernel
theorem d44_7 : decode (xB 44) 7 = .ok (.aload_n 0, 1) := by decide +kernel
theorem d44_8 : decode (xB 44) 8 = .ok (.iconst 0, 1) := by decide +kernel
theorem d44_9 : decode (xB 44) 9 = .ok (.putfield 31, 3) := by decide +kernel
theorem d44_12 : decode (xB 44) 12 = .ok (.aload_n 0, 1) := by decide +kernel
theorem d44_13 : decode (xB 44) 13 = .ok (.iconst 0, 1) := by decide +kernel
theorem d44_14 : decode (xB 44) 14 = .ok (.putfield 35, 3) := by decide +kernel
theorem d44_17 : decode (xB 44) 17 = .ok (.aload_n 0, 1) := by decide +kernel
theorem d44_18 : decode (xB 44) 18 = .ok (.iconst 0, 1) := by decide +kernel
theorem d44_19 : decode (xB 44) 19 = .ok (.putfield 38, 3) := by decide +kernel
theorem d44_22 : decode (xB 44) 22 = .ok (.aload_n 0, 1) := by decide +kernel
theorem d44_23 : decode (xB 44) 23 = .ok (.getfield 24, 3) := by decide +kernel
theorem d44_26 : decode (xB 44) 26 = .ok (.bipush 40, 2) := by decide +kernel
theorem d44_28 : decode (xB 44) 28 = .ok (.invokevirtual 41, 3) := by decide +kernel
theorem d44_31 : decode (xB 44) 31 = .ok (.iconst 0, 1) := by decide +kernel
theorem d44_32 : decode (xB 44) 32 = .ok (.istore_n 1, 1) := by decide +kernel
theorem d44_33 : decode (xB 44) 33 = .ok (.iload_n 1, 1) := by decide +kernel
theorem d44_34 : decode (xB 44) 34 = .ok (.bipush 40, 2) := by decide +kernel
theorem d44_36 : decode (xB 44) 36 = .ok (.if_icmp .ge 36, 3) := by decide +kernel
theorem d44_39 : decode (xB 44) 39 = .ok (.aload_n 0, 1) := by decide +kernel
theorem d44_40 : decode (xB 44) 40 = .ok (.invokevirtual 46, 3) := by decide +kernel
theorem d44_43 : decode (xB 44) 43 = .ok (.aload_n 0, 1) := by decide +kernel
theorem d44_44 : decode (xB 44) 44 = .ok (.invokevirtual 49, 3) := by decide +kernel
theorem d44_47 : decode (xB 44) 47 = .ok (.ifCond .ne 5, 3) := by decide +kernel
theorem d44_50 : decode (xB 44) 50 = .ok (.iconst 0, 1) := by decide +kernel
theorem d44_51 : decode (xB 44) 51 = .ok (.ireturn, 1) := by decide +kernel
theorem d44_52 : decode (xB 44) 52 = .ok (.aload_n 0, 1) := by decide +kernel
theorem d44_53 : decode (xB 44) 53 = .ok (.invokevirtual 53, 3) := by decide +kernel
theorem d44_56 : decode (xB 44) 56 = .ok (.aload_n 0, 1) := by decide +kernel
theorem d44_57 : decode (xB 44) 57 = .ok (.invokevirtual 56, 3) := by decide +kernel
theorem d44_60 : decode (xB 44) 60 = .ok (.ifCond .ne 6, 3) := by decide +kernel
theorem d44_63 : decode (xB 44) 63 = .ok (.goto 9, 3) := by decide +kernel
theorem d44_66 : decode (xB 44) 66 = .ok (.iinc 1 1, 3) := by decide +kernel
theorem d44_69 : decode (xB 44) 69 = .ok (.goto (-36), 3) := by decide +kernel
theorem d44_72 : decode (xB 44) 72 = .ok (.aload_n 0, 1) := by decide +kernel
theorem d44_73 : decode (xB 44) 73 = .ok (.iconst 1, 1) := by decide +kernel
theorem d44_74 : decode (xB 44) 74 = .ok (.invokevirtual 59, 3) := by decide +kernel
theorem d44_77 : decode (xB 44) 77 = .ok (.aload_n 0, 1) := by decide +kernel
theorem d44_78 : decode (xB 44) 78 = .ok (.getfield 35, 3) := by decide +kernel
theorem d44_81 : decode (xB 44) 81 = .ok (.ifCond .ne 17, 3) := by decide +kernel
theorem d44_84 : decode (xB 44) 84 = .ok (.aload_n 0, 1) := by decide +kernel
theorem d44_85 : decode (xB 44) 85 = .ok (.getfield 24, 3) := by decide +kernel
theorem d44_88 : decode (xB 44) 88 = .ok (.invokevirtual 62, 3) := by decide +kernel
theorem d44_91 : decode (xB 44) 91 = .ok (.ifCond .eq 7, 3) := by decide +kernel
theorem d44_94 : decode (xB 44) 94 = .ok (.iconst 1, 1) := by decide +kernel
theorem d44_95 : decode (xB 44) 95 = .ok (.goto 4, 3) := by decide +kernel
theorem d44_98 : decode (xB 44) 98 = .ok (.iconst 0, 1) := by decide +kernel
theorem d44_99 : decode (xB 44) 99 = .ok (.ireturn, 1) := by decide +kernel
theorem b44_0 {d : Nat} {P : xPr} {Q : xQr} {r : Nat} {mem : Nat → Nat → Int32} (hP : Cl d none 44 P Q)
    (k : xCall d 36 [.ref 95] (LAY, RFu r, mem) (Bk P 4 [.ref 94, .null] [] (0, 0))) : P 0 [.ref 94, .null] [] (0, 0) (LAY, RFu r, mem) := by
  refine r_aload_n hP d44_0 rfl ?_
  refine r_getr (a := 95) hP d44_1 fr_6_14 rfl ly_94 rg_94_0 ?_
  exact r_callv (As := []) (S := []) hP d44_4 cr_6_28 (by decide +kernel) rfl (by simp) rfl ly_95 (by simp [Value.category]) ⟨Nat.zero_le _, Nat.zero_le _⟩ k
theorem b44_7 {d : Nat} {P : xPr} {Q : xQr} {r : Nat} {mem : Nat → Nat → Int32} (hP : Cl d none 44 P Q) {v1 : Value}
    (k : xCall d 74 [.ref 1, .int (nI 40)] (LAY, RFu r, xu2 (xu2 (xu2 mem 94 3 (nI 0)) 94 4 (nI 0)) 94 5 (nI 0)) (Bk P 28 [.ref 94, v1] [] (0, 0))) : P 7 [.ref 94, v1] [] (0, 0) (LAY, RFu r, mem) := by
  refine r_aload_n hP d44_7 rfl ?_
  refine r_iconst (v := nI 0) hP d44_8 rfl ?_
  refine r_puti hP d44_9 fr_6_31 rfl (fun q => by cases q) ly_94 ?_
  refine r_aload_n hP d44_12 rfl ?_
  refine r_iconst (v := nI 0) hP d44_13 rfl ?_
  refine r_puti hP d44_14 fr_6_35 rfl (fun q => by cases q) ly_94 ?_
  refine r_aload_n hP d44_17 rfl ?_
  refine r_iconst (v := nI 0) hP d44_18 rfl ?_
  refine r_puti hP d44_19 fr_6_38 rfl (fun q => by cases q) ly_94 ?_
  refine r_aload_n hP d44_22 rfl ?_
  refine r_getr (a := 1) hP d44_23 fr_6_24 rfl ly_94 rg_94_1 ?_
  refine r_bipush (v := nI 40) hP d44_26 rfl ?_
  exact r_callv (As := [.int (nI 40)]) (S := []) hP d44_28 cr_6_41 (by decide +kernel) rfl (by simp [Value.category]) rfl ly_1 (by simp [Value.category]) ⟨Nat.zero_le _, Nat.zero_le _⟩ k
theorem b44_31 {d : Nat} {P : xPr} {Q : xQr} {r : Nat} {mem : Nat → Nat → Int32} (hP : Cl d none 44 P Q) {v1 : Value}
    (k : P 33 [.ref 94, .int (nI 0)] [] (0, 0) (LAY, RFu r, mem)) : P 31 [.ref 94, v1] [] (0, 0) (LAY, RFu r, mem) := by
  refine r_iconst (v := nI 0) hP d44_31 rfl ?_
  refine r_istore_n (L' := [.ref 94, .int (nI 0)]) hP d44_32 (Nat.le_of_ble_eq_true rfl) rfl ?_
  exact k
theorem b44_33 {d : Nat} {P : xPr} {Q : xQr} {r : Nat} {mem : Nat → Nat → Int32} (hP : Cl d none 44 P Q) {x1 : Int32}
    (kt : (nI 40) ≤ x1 → P 72 [.ref 94, .int x1] [] (0, 0) (LAY, RFu r, mem)) (kf : ¬ (nI 40) ≤ x1 → P 39 [.ref 94, .int x1] [] (0, 0) (LAY, RFu r, mem)) : P 33 [.ref 94, .int x1] [] (0, 0) (LAY, RFu r, mem) := by
  refine r_iload_n hP d44_33 rfl ?_
  refine r_bipush (v := nI 40) hP d44_34 rfl ?_
  exact r_icmp (t := 72) hP d44_36 (by decide) kt kf
theorem b44_39 {d : Nat} {P : xPr} {Q : xQr} {r : Nat} {mem : Nat → Nat → Int32} (hP : Cl d none 44 P Q) {x1 : Int32}
    (k : xCall d 45 [.ref 94] (LAY, RFu r, mem) (Bk P 40 [.ref 94, .int x1] [] (0, 0))) : P 39 [.ref 94, .int x1] [] (0, 0) (LAY, RFu r, mem) := by
  refine r_aload_n hP d44_39 rfl ?_
  exact r_callv (As := []) (S := []) hP d44_40 cr_6_46 (by decide +kernel) rfl (by simp) rfl ly_94 (by simp [Value.category]) ⟨Nat.zero_le _, Nat.zero_le _⟩ k
theorem b44_43 {d : Nat} {P : xPr} {Q : xQr} {r : Nat} {mem : Nat → Nat → Int32} (hP : Cl d none 44 P Q) {x1 : Int32}
    (k : xCall d 46 [.ref 94] (LAY, RFu r, mem) (Bk P 44 [.ref 94, .int x1] [] (0, 0))) : P 43 [.ref 94, .int x1] [] (0, 0) (LAY, RFu r, mem) := by
  refine r_aload_n hP d44_43 rfl ?_
  exact r_callv (As := []) (S := []) hP d44_44 cr_6_49 (by decide +kernel) rfl (by simp) rfl ly_94 (by simp [Value.category]) ⟨Nat.zero_le _, Nat.zero_le _⟩ k
theorem b44_47 {d : Nat} {P : xPr} {Q : xQr} {r : Nat} {mem : Nat → Nat → Int32} (hP : Cl d none 44 P Q) {x1 : Int32} {y0 : Int32}
    (kt : ¬ y0 = 0 → P 52 [.ref 94, .int x1] [] (0, 0) (LAY, RFu r, mem)) (kf : y0 = 0 → P 50 [.ref 94, .int x1] [] (0, 0) (LAY, RFu r, mem)) : P 47 [.ref 94, .int x1] [.int y0] (0, 0) (LAY, RFu r, mem) := by
  exact r_if (t := 52) hP d44_47 (by decide) kt (fun q => kf (Decidable.of_not_not q))
theorem b44_50 {d : Nat} {P : xPr} {Q : xQr} {r : Nat} {mem : Nat → Nat → Int32} (hP : Cl d none 44 P Q) {v0 : Value} {v1 : Value} (hzr : nI 0 = 0 ∨ nI 0 = 1)
    (k : Q (some (.int (nI 0))) (LAY, RFu r, mem)) : P 50 [v0, v1] [] (0, 0) (LAY, RFu r, mem) := by
  refine r_iconst (v := nI 0) hP d44_50 rfl ?_
  exact r_zret hP d44_51 rfl hzr k
theorem b44_52 {d : Nat} {P : xPr} {Q : xQr} {r : Nat} {mem : Nat → Nat → Int32} (hP : Cl d none 44 P Q) {x1 : Int32}
    (k : xCall d 47 [.ref 94] (LAY, RFu r, mem) (Bk P 53 [.ref 94, .int x1] [] (0, 0))) : P 52 [.ref 94, .int x1] [] (0, 0) (LAY, RFu r, mem) := by
  refine r_aload_n hP d44_52 rfl ?_
  exact r_callv (As := []) (S := []) hP d44_53 cr_6_53 (by decide +kernel) rfl (by simp) rfl ly_94 (by simp [Value.category]) ⟨Nat.zero_le _, Nat.zero_le _⟩ k
theorem b44_56 {d : Nat} {P : xPr} {Q : xQr} {r : Nat} {mem : Nat → Nat → Int32} (hP : Cl d none 44 P Q) {x1 : Int32}
    (k : xCall d 48 [.ref 94] (LAY, RFu r, mem) (Bk P 57 [.ref 94, .int x1] [] (0, 0))) : P 56 [.ref 94, .int x1] [] (0, 0) (LAY, RFu r, mem) := by
  refine r_aload_n hP d44_56 rfl ?_
  exact r_callv (As := []) (S := []) hP d44_57 cr_6_56 (by decide +kernel) rfl (by simp) rfl ly_94 (by simp [Value.category]) ⟨Nat.zero_le _, Nat.zero_le _⟩ k
theorem b44_60 {d : Nat} {P : xPr} {Q : xQr} {r : Nat} {mem : Nat → Nat → Int32} (hP : Cl d none 44 P Q) {x1 : Int32} {y0 : Int32}
    (kt : ¬ y0 = 0 → P 66 [.ref 94, .int x1] [] (0, 0) (LAY, RFu r, mem)) (kf : y0 = 0 → P 63 [.ref 94, .int x1] [] (0, 0) (LAY, RFu r, mem)) : P 60 [.ref 94, .int x1] [.int y0] (0, 0) (LAY, RFu r, mem) := by
  exact r_if (t := 66) hP d44_60 (by decide) kt (fun q => kf (Decidable.of_not_not q))
theorem b44_63 {d : Nat} {P : xPr} {Q : xQr} {r : Nat} {mem : Nat → Nat → Int32} (hP : Cl d none 44 P Q) {v1 : Value}
    (k : P 72 [.ref 94, v1] [] (0, 0) (LAY, RFu r, mem)) : P 63 [.ref 94, v1] [] (0, 0) (LAY, RFu r, mem) := by
  refine r_goto (t := 72) hP d44_63 (by decide) ?_
  exact k
theorem b44_66 {d : Nat} {P : xPr} {Q : xQr} {r : Nat} {mem : Nat → Nat → Int32} (hP : Cl d none 44 P Q) {x1 : Int32}
    (k : P 33 [.ref 94, .int (x1 + nI 1)] [] (0, 0) (LAY, RFu r, mem)) : P 66 [.ref 94, .int x1] [] (0, 0) (LAY, RFu r, mem) := by
  refine r_iinc (v := nI 1) (L' := [.ref 94, .int (x1 + nI 1)]) hP d44_66 rfl rfl rfl ?_
  refine r_goto (t := 33) hP d44_69 (by decide) ?_
  exact k
theorem b44_72 {d : Nat} {P : xPr} {Q : xQr} {r : Nat} {mem : Nat → Nat → Int32} (hP : Cl d none 44 P Q) {v1 : Value}
    (k : xCall d 49 [.ref 94, .int (nI 1)] (LAY, RFu r, mem) (Bk P 74 [.ref 94, v1] [] (0, 0))) : P 72 [.ref 94, v1] [] (0, 0) (LAY, RFu r, mem) := by
  refine r_aload_n hP d44_72 rfl ?_
  refine r_iconst (v := nI 1) hP d44_73 rfl ?_
  exact r_callv (As := [.int (nI 1)]) (S := []) hP d44_74 cr_6_59 (by decide +kernel) rfl (by simp [Value.category]) rfl ly_94 (by simp [Value.category]) ⟨Nat.zero_le _, Nat.zero_le _⟩ k
theorem b44_77 {d : Nat} {P : xPr} {Q : xQr} {r : Nat} {mem : Nat → Nat → Int32} (hP : Cl d none 44 P Q) {v1 : Value}
    (kt : ¬ (mem 94 4) = 0 → P 98 [.ref 94, v1] [] (0, 0) (LAY, RFu r, mem)) (kf : (mem 94 4) = 0 → P 84 [.ref 94, v1] [] (0, 0) (LAY, RFu r, mem)) : P 77 [.ref 94, v1] [] (0, 0) (LAY, RFu r, mem) := by
  refine r_aload_n hP d44_77 rfl ?_
  refine r_geti hP d44_78 fr_6_35 rfl ly_94 ?_
  exact r_if (t := 98) hP d44_81 (by decide) kt (fun q => kf (Decidable.of_not_not q))
theorem b44_84 {d : Nat} {P : xPr} {Q : xQr} {r : Nat} {mem : Nat → Nat → Int32} (hP : Cl d none 44 P Q) {v1 : Value}
    (k : xCall d 79 [.ref 1] (LAY, RFu r, mem) (Bk P 88 [.ref 94, v1] [] (0, 0))) : P 84 [.ref 94, v1] [] (0, 0) (LAY, RFu r, mem) := by
  refine r_aload_n hP d44_84 rfl ?_
  refine r_getr (a := 1) hP d44_85 fr_6_24 rfl ly_94 rg_94_1 ?_
  exact r_callv (As := []) (S := []) hP d44_88 cr_6_62 (by decide +kernel) rfl (by simp) rfl ly_1 (by simp [Value.category]) ⟨Nat.zero_le _, Nat.zero_le _⟩ k
theorem b44_91 {d : Nat} {P : xPr} {Q : xQr} {r : Nat} {mem : Nat → Nat → Int32} (hP : Cl d none 44 P Q) {v0 : Value} {v1 : Value} {y0 : Int32}
    (kt : y0 = 0 → P 98 [v0, v1] [] (0, 0) (LAY, RFu r, mem)) (kf : ¬ y0 = 0 → P 94 [v0, v1] [] (0, 0) (LAY, RFu r, mem)) : P 91 [v0, v1] [.int y0] (0, 0) (LAY, RFu r, mem) := by
  exact r_if (t := 98) hP d44_91 (by decide) kt kf
theorem b44_94 {d : Nat} {P : xPr} {Q : xQr} {r : Nat} {mem : Nat → Nat → Int32} (hP : Cl d none 44 P Q) {v0 : Value} {v1 : Value}
    (k : P 99 [v0, v1] [.int (nI 1)] (0, 0) (LAY, RFu r, mem)) : P 94 [v0, v1] [] (0, 0) (LAY, RFu r, mem) := by
  refine r_iconst (v := nI 1) hP d44_94 rfl ?_
  refine r_goto (t := 99) hP d44_95 (by decide) ?_
  exact k
theorem b44_98 {d : Nat} {P : xPr} {Q : xQr} {r : Nat} {mem : Nat → Nat → Int32} (hP : Cl d none 44 P Q) {v0 : Value} {v1 : Value}
    (k : P 99 [v0, v1] [.int (nI 0)] (0, 0) (LAY, RFu r, mem)) : P 98 [v0, v1] [] (0, 0) (LAY, RFu r, mem) := by
  refine r_iconst (v := nI 0) hP d44_98 rfl ?_
  exact k
theorem b44_99 {d : Nat} {P : xPr} {Q : xQr} {r : Nat} {mem : Nat → Nat → Int32} (hP : Cl d none 44 P Q) {v0 : Value} {v1 : Value} {y0 : Int32} (hzr : y0 = 0 ∨ y0 = 1)
    (k : Q (some (.int y0)) (LAY, RFu r, mem)) : P 99 [v0, v1] [.int y0] (0, 0) (LAY, RFu r, mem) := by
  exact r_zret hP d44_99 rfl hzr k
theorem d45_0 : decode (xB 45) 0 = .ok (.iconst 0, 1) := by decide +kernel
theorem d45_1 : decode (xB 45) 1 = .ok (.istore_n 1, 1) := by decide +kernel
theorem d45_2 : decode (xB 45) 2 = .ok (.iload_n 1, 1) := by decide +kernel
theorem d45_3 : decode (xB 45) 3 = .ok (.bipush 40, 2) := by decide +kernel
theorem d45_5 : decode (xB 45) 5 = .ok (.if_icmp .ge 83, 3) := by decide +kernel
theorem d45_8 : decode (xB 45) 8 = .ok (.aload_n 0, 1) := by decide +kernel
theorem d45_9 : decode (xB 45) 9 = .ok (.getfield 24, 3) := by decide +kernel
theorem d45_12 : decode (xB 45) 12 = .ok (.bipush 45, 2) := by decide +kernel
theorem d45_14 : decode (xB 45) 14 = .ok (.invokevirtual 65, 3) := by decide +kernel
theorem d45_17 : decode (xB 45) 17 = .ok (.ifCond .eq 13, 3) := by decide +kernel
theorem d45_20 : decode (xB 45) 20 = .ok (.aload_n 0, 1) := by decide +kernel
theorem d45_21 : decode (xB 45) 21 = .ok (.sipush 3000, 3) := by decide +kernel
theorem d45_24 : decode (xB 45) 24 = .ok (.invokevirtual 69, 3) := by decide +kernel
theorem d45_27 : decode (xB 45) 27 = .ok (.goto 55, 3) := by decide +kernel
theorem d45_30 : decode (xB 45) 30 = .ok (.aload_n 0, 1) := by decide +kernel
theorem d45_31 : decode (xB 45) 31 = .ok (.getfield 35, 3) := by decide +kernel
theorem d45_34 : decode (xB 45) 34 = .ok (.iconst 4, 1) := by decide +kernel
theorem d45_35 : decode (xB 45) 35 = .ok (.if_icmp .ge 53, 3) := by decide +kernel
theorem d45_38 : decode (xB 45) 38 = .ok (.aload_n 0, 1) := by decide +kernel
theorem d45_39 : decode (xB 45) 39 = .ok (.getfield 24, 3) := by decide +kernel
theorem d45_42 : decode (xB 45) 42 = .ok (.bipush 40, 2) := by decide +kernel
theorem d45_44 : decode (xB 45) 44 = .ok (.invokevirtual 65, 3) := by decide +kernel
theorem d45_47 : decode (xB 45) 47 = .ok (.ifCond .eq 41, 3) := by decide +kernel
theorem d45_50 : decode (xB 45) 50 = .ok (.aload_n 0, 1) := by decide +kernel
theorem d45_51 : decode (xB 45) 51 = .ok (.iconst 0, 1) := by decide +kernel
theorem d45_52 : decode (xB 45) 52 = .ok (.invokevirtual 69, 3) := by decide +kernel
theorem d45_55 : decode (xB 45) 55 = .ok (.aload_n 0, 1) := by decide +kernel
theorem d45_56 : decode (xB 45) 56 = .ok (.dup, 1) := by decide +kernel
theorem d45_57 : decode (xB 45) 57 = .ok (.getfield 35, 3) := by decide +kernel
theorem d45_60 : decode (xB 45) 60 = .ok (.iconst 1, 1) := by decide +kernel
theorem d45_61 : decode (xB 45) 61 = .ok (.iadd, 1) := by decide +kernel
theorem d45_62 : decode (xB 45) 62 = .ok (.putfield 35, 3) := by decide +kernel
theorem d45_65 : decode (xB 45) 65 = .ok (.aload_n 0, 1) := by decide +kernel
theorem d45_66 : decode (xB 45) 66 = .ok (.dup, 1) := by decide +kernel
theorem d45_67 : decode (xB 45) 67 = .ok (.getfield 38, 3) := by decide +kernel
theorem d45_70 : decode (xB 45) 70 = .ok (.iconst 1, 1) := by decide +kernel
theorem d45_71 : decode (xB 45) 71 = .ok (.aload_n 0, 1) := by decide +kernel
theorem d45_72 : decode (xB 45) 72 = .ok (.getfield 35, 3) := by decide +kernel
theorem d45_75 : decode (xB 45) 75 = .ok (.ishl, 1) := by decide +kernel
theorem d45_76 : decode (xB 45) 76 = .ok (.iconst (-1), 1) := by decide +kernel
theorem d45_77 : decode (xB 45) 77 = .ok (.ixor, 1) := by decide +kernel
theorem d45_78 : decode (xB 45) 78 = .ok (.iand, 1) := by decide +kernel
theorem d45_79 : decode (xB 45) 79 = .ok (.putfield 38, 3) := by decide +kernel
theorem d45_82 : decode (xB 45) 82 = .ok (.iinc 1 1, 3) := by decide +kernel
theorem d45_85 : decode (xB 45) 85 = .ok (.goto (-83), 3) := by decide +kernel
theorem d45_88 : decode (xB 45) 88 = .ok (.return_, 1) := by decide +kernel
theorem b45_0 {d : Nat} {P : xPr} {Q : xQr} {r : Nat} {mem : Nat → Nat → Int32} (hP : Cl d none 45 P Q)
    (k : P 2 [.ref 94, .int (nI 0)] [] (0, 0) (LAY, RFu r, mem)) : P 0 [.ref 94, .null] [] (0, 0) (LAY, RFu r, mem) := by
  refine r_iconst (v := nI 0) hP d45_0 rfl ?_
  refine r_istore_n (L' := [.ref 94, .int (nI 0)]) hP d45_1 (Nat.le_of_ble_eq_true rfl) rfl ?_
  exact k
theorem b45_2 {d : Nat} {P : xPr} {Q : xQr} {r : Nat} {mem : Nat → Nat → Int32} (hP : Cl d none 45 P Q) {x1 : Int32}
    (kt : (nI 40) ≤ x1 → P 88 [.ref 94, .int x1] [] (0, 0) (LAY, RFu r, mem)) (kf : ¬ (nI 40) ≤ x1 → P 8 [.ref 94, .int x1] [] (0, 0) (LAY, RFu r, mem)) : P 2 [.ref 94, .int x1] [] (0, 0) (LAY, RFu r, mem) := by
  refine r_iload_n hP d45_2 rfl ?_
  refine r_bipush (v := nI 40) hP d45_3 rfl ?_
  exact r_icmp (t := 88) hP d45_5 (by decide) kt kf
theorem b45_8 {d : Nat} {P : xPr} {Q : xQr} {r : Nat} {mem : Nat → Nat → Int32} (hP : Cl d none 45 P Q) {x1 : Int32}
    (k : xCall d 76 [.ref 1, .int (nI 45)] (LAY, RFu r, mem) (Bk P 14 [.ref 94, .int x1] [] (0, 0))) : P 8 [.ref 94, .int x1] [] (0, 0) (LAY, RFu r, mem) := by
  refine r_aload_n hP d45_8 rfl ?_
  refine r_getr (a := 1) hP d45_9 fr_6_24 rfl ly_94 rg_94_1 ?_
  refine r_bipush (v := nI 45) hP d45_12 rfl ?_
  exact r_callv (As := [.int (nI 45)]) (S := []) hP d45_14 cr_6_65 (by decide +kernel) rfl (by simp [Value.category]) rfl ly_1 (by simp [Value.category]) ⟨Nat.zero_le _, Nat.zero_le _⟩ k
theorem b45_17 {d : Nat} {P : xPr} {Q : xQr} {r : Nat} {mem : Nat → Nat → Int32} (hP : Cl d none 45 P Q) {x1 : Int32} {y0 : Int32}
    (kt : y0 = 0 → P 30 [.ref 94, .int x1] [] (0, 0) (LAY, RFu r, mem)) (kf : ¬ y0 = 0 → P 20 [.ref 94, .int x1] [] (0, 0) (LAY, RFu r, mem)) : P 17 [.ref 94, .int x1] [.int y0] (0, 0) (LAY, RFu r, mem) := by
  exact r_if (t := 30) hP d45_17 (by decide) kt kf
theorem b45_20 {d : Nat} {P : xPr} {Q : xQr} {r : Nat} {mem : Nat → Nat → Int32} (hP : Cl d none 45 P Q) {x1 : Int32}
    (k : xCall d 50 [.ref 94, .int (nI 3000)] (LAY, RFu r, mem) (Bk P 24 [.ref 94, .int x1] [] (0, 0))) : P 20 [.ref 94, .int x1] [] (0, 0) (LAY, RFu r, mem) := by
  refine r_aload_n hP d45_20 rfl ?_
  refine r_sipush (v := nI 3000) hP d45_21 rfl ?_
  exact r_callv (As := [.int (nI 3000)]) (S := []) hP d45_24 cr_6_69 (by decide +kernel) rfl (by simp [Value.category]) rfl ly_94 (by simp [Value.category]) ⟨Nat.zero_le _, Nat.zero_le _⟩ k
theorem b45_27 {d : Nat} {P : xPr} {Q : xQr} {r : Nat} {mem : Nat → Nat → Int32} (hP : Cl d none 45 P Q) {x1 : Int32}
    (k : P 82 [.ref 94, .int x1] [] (0, 0) (LAY, RFu r, mem)) : P 27 [.ref 94, .int x1] [] (0, 0) (LAY, RFu r, mem) := by
  refine r_goto (t := 82) hP d45_27 (by decide) ?_
  exact k
theorem b45_30 {d : Nat} {P : xPr} {Q : xQr} {r : Nat} {mem : Nat → Nat → Int32} (hP : Cl d none 45 P Q) {x1 : Int32}
    (kt : (nI 4) ≤ (mem 94 4) → P 88 [.ref 94, .int x1] [] (0, 0) (LAY, RFu r, mem)) (kf : ¬ (nI 4) ≤ (mem 94 4) → P 38 [.ref 94, .int x1] [] (0, 0) (LAY, RFu r, mem)) : P 30 [.ref 94, .int x1] [] (0, 0) (LAY, RFu r, mem) := by
  refine r_aload_n hP d45_30 rfl ?_
  refine r_geti hP d45_31 fr_6_35 rfl ly_94 ?_
  refine r_iconst (v := nI 4) hP d45_34 rfl ?_
  exact r_icmp (t := 88) hP d45_35 (by decide) kt kf
theorem b45_38 {d : Nat} {P : xPr} {Q : xQr} {r : Nat} {mem : Nat → Nat → Int32} (hP : Cl d none 45 P Q) {x1 : Int32}
    (k : xCall d 76 [.ref 1, .int (nI 40)] (LAY, RFu r, mem) (Bk P 44 [.ref 94, .int x1] [] (0, 0))) : P 38 [.ref 94, .int x1] [] (0, 0) (LAY, RFu r, mem) := by
  refine r_aload_n hP d45_38 rfl ?_
  refine r_getr (a := 1) hP d45_39 fr_6_24 rfl ly_94 rg_94_1 ?_
  refine r_bipush (v := nI 40) hP d45_42 rfl ?_
  exact r_callv (As := [.int (nI 40)]) (S := []) hP d45_44 cr_6_65 (by decide +kernel) rfl (by simp [Value.category]) rfl ly_1 (by simp [Value.category]) ⟨Nat.zero_le _, Nat.zero_le _⟩ k
theorem b45_47 {d : Nat} {P : xPr} {Q : xQr} {r : Nat} {mem : Nat → Nat → Int32} (hP : Cl d none 45 P Q) {x1 : Int32} {y0 : Int32}
    (kt : y0 = 0 → P 88 [.ref 94, .int x1] [] (0, 0) (LAY, RFu r, mem)) (kf : ¬ y0 = 0 → P 50 [.ref 94, .int x1] [] (0, 0) (LAY, RFu r, mem)) : P 47 [.ref 94, .int x1] [.int y0] (0, 0) (LAY, RFu r, mem) := by
  exact r_if (t := 88) hP d45_47 (by decide) kt kf
theorem b45_50 {d : Nat} {P : xPr} {Q : xQr} {r : Nat} {mem : Nat → Nat → Int32} (hP : Cl d none 45 P Q) {x1 : Int32}
    (k : xCall d 50 [.ref 94, .int (nI 0)] (LAY, RFu r, mem) (Bk P 52 [.ref 94, .int x1] [] (0, 0))) : P 50 [.ref 94, .int x1] [] (0, 0) (LAY, RFu r, mem) := by
  refine r_aload_n hP d45_50 rfl ?_
  refine r_iconst (v := nI 0) hP d45_51 rfl ?_
  exact r_callv (As := [.int (nI 0)]) (S := []) hP d45_52 cr_6_69 (by decide +kernel) rfl (by simp [Value.category]) rfl ly_94 (by simp [Value.category]) ⟨Nat.zero_le _, Nat.zero_le _⟩ k
theorem b45_55 {d : Nat} {P : xPr} {Q : xQr} {r : Nat} {mem : Nat → Nat → Int32} (hP : Cl d none 45 P Q) {x1 : Int32}
    (k : P 82 [.ref 94, .int x1] [] (0, 0) (LAY, RFu r, xu2 (xu2 mem 94 4 ((mem 94 4) + (nI 1))) 94 5 (((xu2 mem 94 4 ((mem 94 4) + (nI 1))) 94 5) &&& (((nI 1) <<< (((xu2 mem 94 4 ((mem 94 4) + (nI 1))) 94 4) &&& 31)) ^^^ (-1))))) : P 55 [.ref 94, .int x1] [] (0, 0) (LAY, RFu r, mem) := by
  refine r_aload_n hP d45_55 rfl ?_
  refine r_dup hP d45_56 rfl ?_
  refine r_geti hP d45_57 fr_6_35 rfl ly_94 ?_
  refine r_iconst (v := nI 1) hP d45_60 rfl ?_
  refine r_iadd hP d45_61 ?_
  refine r_puti hP d45_62 fr_6_35 rfl (fun q => by cases q) ly_94 ?_
  refine r_aload_n hP d45_65 rfl ?_
  refine r_dup hP d45_66 rfl ?_
  refine r_geti hP d45_67 fr_6_38 rfl ly_94 ?_
  refine r_iconst (v := nI 1) hP d45_70 rfl ?_
  refine r_aload_n hP d45_71 rfl ?_
  refine r_geti hP d45_72 fr_6_35 rfl ly_94 ?_
  refine r_ishl hP d45_75 ?_
  refine r_iconst (v := (-1)) hP d45_76 rfl ?_
  refine r_ixor hP d45_77 ?_
  refine r_iand hP d45_78 ?_
  refine r_puti hP d45_79 fr_6_38 rfl (fun q => by cases q) ly_94 ?_
  exact k
theorem b45_82 {d : Nat} {P : xPr} {Q : xQr} {r : Nat} {mem : Nat → Nat → Int32} (hP : Cl d none 45 P Q) {x1 : Int32}
    (k : P 2 [.ref 94, .int (x1 + nI 1)] [] (0, 0) (LAY, RFu r, mem)) : P 82 [.ref 94, .int x1] [] (0, 0) (LAY, RFu r, mem) := by
  refine r_iinc (v := nI 1) (L' := [.ref 94, .int (x1 + nI 1)]) hP d45_82 rfl rfl rfl ?_
  refine r_goto (t := 2) hP d45_85 (by decide) ?_
  exact k
theorem b45_88 {d : Nat} {P : xPr} {Q : xQr} {r : Nat} {mem : Nat → Nat → Int32} (hP : Cl d none 45 P Q) {v0 : Value} {v1 : Value}
    (k : Q none (LAY, RFu r, mem)) : P 88 [v0, v1] [] (0, 0) (LAY, RFu r, mem) := by
  exact r_vret hP d45_88 rfl k
theorem d46_0 : decode (xB 46) 0 = .ok (.aload_n 0, 1) := by decide +kernel
theorem d46_1 : decode (xB 46) 1 = .ok (.getfield 24, 3) := by decide +kernel
theorem d46_4 : decode (xB 46) 4 = .ok (.invokevirtual 72, 3) := by decide +kernel
theorem d46_7 : decode (xB 46) 7 = .ok (.istore_n 1, 1) := by decide +kernel
theorem d46_8 : decode (xB 46) 8 = .ok (.iload_n 1, 1) := by decide +kernel
theorem d46_9 : decode (xB 46) 9 = .ok (.tableswitch 116 97 116 #[95, 95, 95, 116, 116, 116, 95, 116, 95, 116, 95, 116, 116, 116, 116, 116, 116, 116, 95, 95], 95) := by decide +kernel
theorem d46_104 : decode (xB 46) 104 = .ok (.aload_n 0, 1) := by decide +kernel
theorem d46_105 : decode (xB 46) 105 = .ok (.getfield 14, 3) := by decide +kernel
theorem d46_108 : decode (xB 46) 108 = .ok (.sipush 1000, 3) := by decide +kernel
theorem d46_111 : decode (xB 46) 111 = .ok (.iload_n 1, 1) := by decide +kernel
theorem d46_112 : decode (xB 46) 112 = .ok (.iadd, 1) := by decide +kernel
theorem d46_113 : decode (xB 46) 113 = .ok (.invokevirtual 76, 3) := by decide +kernel
theorem d46_116 : decode (xB 46) 116 = .ok (.aload_n 0, 1) := by decide +kernel
theorem d46_117 : decode (xB 46) 117 = .ok (.getfield 24, 3) := by decide +kernel
theorem d46_120 : decode (xB 46) 120 = .ok (.iload_n 1, 1) := by decide +kernel
theorem d46_121 : decode (xB 46) 121 = .ok (.invokevirtual 65, 3) := by decide +kernel
theorem d46_124 : decode (xB 46) 124 = .ok (.ireturn, 1) := by decide +kernel
theorem d46_125 : decode (xB 46) 125 = .ok (.aload_n 0, 1) := by decide +kernel
theorem d46_126 : decode (xB 46) 126 = .ok (.getfield 24, 3) := by decide +kernel
theorem d46_129 : decode (xB 46) 129 = .ok (.iconst 3, 1) := by decide +kernel
theorem d46_130 : decode (xB 46) 130 = .ok (.invokevirtual 79, 3) := by decide +kernel
theorem d46_133 : decode (xB 46) 133 = .ok (.istore_n 2, 1) := by decide +kernel
theorem d46_134 : decode (xB 46) 134 = .ok (.iload_n 2, 1) := by decide +kernel
theorem d46_135 : decode (xB 46) 135 = .ok (.iconst (-1), 1) := by decide +kernel
theorem d46_136 : decode (xB 46) 136 = .ok (.if_icmp .ne 5, 3) := by decide +kernel
theorem d46_139 : decode (xB 46) 139 = .ok (.iconst 0, 1) := by decide +kernel
theorem d46_140 : decode (xB 46) 140 = .ok (.ireturn, 1) := by decide +kernel
theorem d46_141 : decode (xB 46) 141 = .ok (.aload_n 0, 1) := by decide +kernel
theorem d46_142 : decode (xB 46) 142 = .ok (.getfield 14, 3) := by decide +kernel
theorem d46_145 : decode (xB 46) 145 = .ok (.iload_n 2, 1) := by decide +kernel
theorem d46_146 : decode (xB 46) 146 = .ok (.invokevirtual 76, 3) := by decide +kernel
theorem d46_149 : decode (xB 46) 149 = .ok (.iconst 1, 1) := by decide +kernel
theorem d46_150 : decode (xB 46) 150 = .ok (.ireturn, 1) := by decide +kernel
theorem b46_0 {d : Nat} {P : xPr} {Q : xQr} {r : Nat} {mem : Nat → Nat → Int32} (hP : Cl d none 46 P Q)
    (k : xCall d 75 [.ref 1] (LAY, RFu r, mem) (Bk P 4 [.ref 94, .null, .null] [] (0, 0))) : P 0 [.ref 94, .null, .null] [] (0, 0) (LAY, RFu r, mem) := by
  refine r_aload_n hP d46_0 rfl ?_
  refine r_getr (a := 1) hP d46_1 fr_6_24 rfl ly_94 rg_94_1 ?_
  exact r_callv (As := []) (S := []) hP d46_4 cr_6_72 (by decide +kernel) rfl (by simp) rfl ly_1 (by simp [Value.category]) ⟨Nat.zero_le _, Nat.zero_le _⟩ k
theorem b46_7 {d : Nat} {P : xPr} {Q : xQr} {r : Nat} {mem : Nat → Nat → Int32} (hP : Cl d none 46 P Q) {v1 : Value} {v2 : Value} {y0 : Int32}
    (kd : (y0.toInt < 97 ∨ 116 < y0.toInt) → P 125 [.ref 94, .int y0, v2] [] (0, 0) (LAY, RFu r, mem)) (k0 : y0.toInt = 97 → P 104 [.ref 94, .int y0, v2] [] (0, 0) (LAY, RFu r, mem)) (k1 : y0.toInt = 98 → P 104 [.ref 94, .int y0, v2] [] (0, 0) (LAY, RFu r, mem)) (k2 : y0.toInt = 99 → P 104 [.ref 94, .int y0, v2] [] (0, 0) (LAY, RFu r, mem)) (k3 : y0.toInt = 100 → P 125 [.ref 94, .int y0, v2] [] (0, 0) (LAY, RFu r, mem)) (k4 : y0.toInt = 101 → P 125 [.ref 94, .int y0, v2] [] (0, 0) (LAY, RFu r, mem)) (k5 : y0.toInt = 102 → P 125 [.ref 94, .int y0, v2] [] (0, 0) (LAY, RFu r, mem)) (k6 : y0.toInt = 103 → P 104 [.ref 94, .int y0, v2] [] (0, 0) (LAY, RFu r, mem)) (k7 : y0.toInt = 104 → P 125 [.ref 94, .int y0, v2] [] (0, 0) (LAY, RFu r, mem)) (k8 : y0.toInt = 105 → P 104 [.ref 94, .int y0, v2] [] (0, 0) (LAY, RFu r, mem)) (k9 : y0.toInt = 106 → P 125 [.ref 94, .int y0, v2] [] (0, 0) (LAY, RFu r, mem)) (k10 : y0.toInt = 107 → P 104 [.ref 94, .int y0, v2] [] (0, 0) (LAY, RFu r, mem)) (k11 : y0.toInt = 108 → P 125 [.ref 94, .int y0, v2] [] (0, 0) (LAY, RFu r, mem)) (k12 : y0.toInt = 109 → P 125 [.ref 94, .int y0, v2] [] (0, 0) (LAY, RFu r, mem)) (k13 : y0.toInt = 110 → P 125 [.ref 94, .int y0, v2] [] (0, 0) (LAY, RFu r, mem)) (k14 : y0.toInt = 111 → P 125 [.ref 94, .int y0, v2] [] (0, 0) (LAY, RFu r, mem)) (k15 : y0.toInt = 112 → P 125 [.ref 94, .int y0, v2] [] (0, 0) (LAY, RFu r, mem)) (k16 : y0.toInt = 113 → P 125 [.ref 94, .int y0, v2] [] (0, 0) (LAY, RFu r, mem)) (k17 : y0.toInt = 114 → P 125 [.ref 94, .int y0, v2] [] (0, 0) (LAY, RFu r, mem)) (k18 : y0.toInt = 115 → P 104 [.ref 94, .int y0, v2] [] (0, 0) (LAY, RFu r, mem)) (k19 : y0.toInt = 116 → P 104 [.ref 94, .int y0, v2] [] (0, 0) (LAY, RFu r, mem)) : P 7 [.ref 94, v1, v2] [.int y0] (0, 0) (LAY, RFu r, mem) := by
  refine r_istore_n (L' := [.ref 94, .int y0, v2]) hP d46_7 (Nat.le_of_ble_eq_true rfl) rfl ?_
  refine r_iload_n hP d46_8 rfl ?_
  refine r_table (t := 125) hP d46_9 (by decide) (by decide) kd (fun h1 h2 off ho => ?_)
  have hc : y0.toInt = 97 ∨ y0.toInt = 98 ∨ y0.toInt = 99 ∨ y0.toInt = 100 ∨ y0.toInt = 101 ∨ y0.toInt = 102 ∨ y0.toInt = 103 ∨ y0.toInt = 104 ∨ y0.toInt = 105 ∨ y0.toInt = 106 ∨ y0.toInt = 107 ∨ y0.toInt = 108 ∨ y0.toInt = 109 ∨ y0.toInt = 110 ∨ y0.toInt = 111 ∨ y0.toInt = 112 ∨ y0.toInt = 113 ∨ y0.toInt = 114 ∨ y0.toInt = 115 ∨ y0.toInt = 116 := by omega
  rcases hc with hc | hc | hc | hc | hc | hc | hc | hc | hc | hc | hc | hc | hc | hc | hc | hc | hc | hc | hc | hc
  · rw [hc] at ho; cases ho; exact ⟨104, by decide, k0 hc⟩
  · rw [hc] at ho; cases ho; exact ⟨104, by decide, k1 hc⟩
  · rw [hc] at ho; cases ho; exact ⟨104, by decide, k2 hc⟩
  · rw [hc] at ho; cases ho; exact ⟨125, by decide, k3 hc⟩
  · rw [hc] at ho; cases ho; exact ⟨125, by decide, k4 hc⟩
  · rw [hc] at ho; cases ho; exact ⟨125, by decide, k5 hc⟩
  · rw [hc] at ho; cases ho; exact ⟨104, by decide, k6 hc⟩
  · rw [hc] at ho; cases ho; exact ⟨125, by decide, k7 hc⟩
  · rw [hc] at ho; cases ho; exact ⟨104, by decide, k8 hc⟩
  · rw [hc] at ho; cases ho; exact ⟨125, by decide, k9 hc⟩
  · rw [hc] at ho; cases ho; exact ⟨104, by decide, k10 hc⟩
  · rw [hc] at ho; cases ho; exact ⟨125, by decide, k11 hc⟩
  · rw [hc] at ho; cases ho; exact ⟨125, by decide, k12 hc⟩
  · rw [hc] at ho; cases ho; exact ⟨125, by decide, k13 hc⟩
  · rw [hc] at ho; cases ho; exact ⟨125, by decide, k14 hc⟩
  · rw [hc] at ho; cases ho; exact ⟨125, by decide, k15 hc⟩
  · rw [hc] at ho; cases ho; exact ⟨125, by decide, k16 hc⟩
  · rw [hc] at ho; cases ho; exact ⟨125, by decide, k17 hc⟩
  · rw [hc] at ho; cases ho; exact ⟨104, by decide, k18 hc⟩
  · rw [hc] at ho; cases ho; exact ⟨104, by decide, k19 hc⟩
theorem b46_104 {d : Nat} {P : xPr} {Q : xQr} {r : Nat} {mem : Nat → Nat → Int32} (hP : Cl d none 46 P Q) {x1 : Int32} {v2 : Value}
    (k : xCall d 38 [.ref 95, .int ((nI 1000) + x1)] (LAY, RFu r, mem) (Bk P 113 [.ref 94, .int x1, v2] [] (0, 0))) : P 104 [.ref 94, .int x1, v2] [] (0, 0) (LAY, RFu r, mem) := by
  refine r_aload_n hP d46_104 rfl ?_
  refine r_getr (a := 95) hP d46_105 fr_6_14 rfl ly_94 rg_94_0 ?_
  refine r_sipush (v := nI 1000) hP d46_108 rfl ?_
  refine r_iload_n hP d46_111 rfl ?_
  refine r_iadd hP d46_112 ?_
  exact r_callv (As := [.int ((nI 1000) + x1)]) (S := []) hP d46_113 cr_6_76 (by decide +kernel) rfl (by simp [Value.category]) rfl ly_95 (by simp [Value.category]) ⟨Nat.zero_le _, Nat.zero_le _⟩ k
theorem b46_116 {d : Nat} {P : xPr} {Q : xQr} {r : Nat} {mem : Nat → Nat → Int32} (hP : Cl d none 46 P Q) {x1 : Int32} {v2 : Value}
    (k : xCall d 76 [.ref 1, .int x1] (LAY, RFu r, mem) (Bk P 121 [.ref 94, .int x1, v2] [] (0, 0))) : P 116 [.ref 94, .int x1, v2] [] (0, 0) (LAY, RFu r, mem) := by
  refine r_aload_n hP d46_116 rfl ?_
  refine r_getr (a := 1) hP d46_117 fr_6_24 rfl ly_94 rg_94_1 ?_
  refine r_iload_n hP d46_120 rfl ?_
  exact r_callv (As := [.int x1]) (S := []) hP d46_121 cr_6_65 (by decide +kernel) rfl (by simp [Value.category]) rfl ly_1 (by simp [Value.category]) ⟨Nat.zero_le _, Nat.zero_le _⟩ k
theorem b46_124 {d : Nat} {P : xPr} {Q : xQr} {r : Nat} {mem : Nat → Nat → Int32} (hP : Cl d none 46 P Q) {v0 : Value} {v1 : Value} {v2 : Value} {y0 : Int32} (hzr : y0 = 0 ∨ y0 = 1)
    (k : Q (some (.int y0)) (LAY, RFu r, mem)) : P 124 [v0, v1, v2] [.int y0] (0, 0) (LAY, RFu r, mem) := by
  exact r_zret hP d46_124 rfl hzr k
theorem b46_125 {d : Nat} {P : xPr} {Q : xQr} {r : Nat} {mem : Nat → Nat → Int32} (hP : Cl d none 46 P Q) {v1 : Value} {v2 : Value}
    (k : xCall d 78 [.ref 1, .int (nI 3)] (LAY, RFu r, mem) (Bk P 130 [.ref 94, v1, v2] [] (0, 0))) : P 125 [.ref 94, v1, v2] [] (0, 0) (LAY, RFu r, mem) := by
  refine r_aload_n hP d46_125 rfl ?_
  refine r_getr (a := 1) hP d46_126 fr_6_24 rfl ly_94 rg_94_1 ?_
  refine r_iconst (v := nI 3) hP d46_129 rfl ?_
  exact r_callv (As := [.int (nI 3)]) (S := []) hP d46_130 cr_6_79 (by decide +kernel) rfl (by simp [Value.category]) rfl ly_1 (by simp [Value.category]) ⟨Nat.zero_le _, Nat.zero_le _⟩ k
theorem b46_133 {d : Nat} {P : xPr} {Q : xQr} {r : Nat} {mem : Nat → Nat → Int32} (hP : Cl d none 46 P Q) {v1 : Value} {v2 : Value} {y0 : Int32}
    (kt : ¬ y0 = (-1) → P 141 [.ref 94, v1, .int y0] [] (0, 0) (LAY, RFu r, mem)) (kf : y0 = (-1) → P 139 [.ref 94, v1, .int y0] [] (0, 0) (LAY, RFu r, mem)) : P 133 [.ref 94, v1, v2] [.int y0] (0, 0) (LAY, RFu r, mem) := by
  refine r_istore_n (L' := [.ref 94, v1, .int y0]) hP d46_133 (Nat.le_of_ble_eq_true rfl) rfl ?_
  refine r_iload_n hP d46_134 rfl ?_
  refine r_iconst (v := (-1)) hP d46_135 rfl ?_
  exact r_icmp (t := 141) hP d46_136 (by decide) kt (fun q => kf (Decidable.of_not_not q))
theorem b46_139 {d : Nat} {P : xPr} {Q : xQr} {r : Nat} {mem : Nat → Nat → Int32} (hP : Cl d none 46 P Q) {v0 : Value} {v1 : Value} {v2 : Value} (hzr : nI 0 = 0 ∨ nI 0 = 1)
    (k : Q (some (.int (nI 0))) (LAY, RFu r, mem)) : P 139 [v0, v1, v2] [] (0, 0) (LAY, RFu r, mem) := by
  refine r_iconst (v := nI 0) hP d46_139 rfl ?_
  exact r_zret hP d46_140 rfl hzr k
theorem b46_141 {d : Nat} {P : xPr} {Q : xQr} {r : Nat} {mem : Nat → Nat → Int32} (hP : Cl d none 46 P Q) {v1 : Value} {x2 : Int32}
    (k : xCall d 38 [.ref 95, .int x2] (LAY, RFu r, mem) (Bk P 146 [.ref 94, v1, .int x2] [] (0, 0))) : P 141 [.ref 94, v1, .int x2] [] (0, 0) (LAY, RFu r, mem) := by
  refine r_aload_n hP d46_141 rfl ?_
  refine r_getr (a := 95) hP d46_142 fr_6_14 rfl ly_94 rg_94_0 ?_
  refine r_iload_n hP d46_145 rfl ?_
  exact r_callv (As := [.int x2]) (S := []) hP d46_146 cr_6_76 (by decide +kernel) rfl (by simp [Value.category]) rfl ly_95 (by simp [Value.category]) ⟨Nat.zero_le _, Nat.zero_le _⟩ k
theorem b46_149 {d : Nat} {P : xPr} {Q : xQr} {r : Nat} {mem : Nat → Nat → Int32} (hP : Cl d none 46 P Q) {v0 : Value} {v1 : Value} {v2 : Value} (hzr : nI 1 = 0 ∨ nI 1 = 1)
    (k : Q (some (.int (nI 1))) (LAY, RFu r, mem)) : P 149 [v0, v1, v2] [] (0, 0) (LAY, RFu r, mem) := by
  refine r_iconst (v := nI 1) hP d46_149 rfl ?_
  exact r_zret hP d46_150 rfl hzr k
theorem d47_0 : decode (xB 47) 0 = .ok (.iconst 0, 1) := by decide +kernel
theorem d47_1 : decode (xB 47) 1 = .ok (.istore_n 1, 1) := by decide +kernel
theorem d47_2 : decode (xB 47) 2 = .ok (.iload_n 1, 1) := by decide +kernel
theorem d47_3 : decode (xB 47) 3 = .ok (.bipush 40, 2) := by decide +kernel
theorem d47_5 : decode (xB 47) 5 = .ok (.if_icmp .ge 57, 3) := by decide +kernel
theorem d47_8 : decode (xB 47) 8 = .ok (.aload_n 0, 1) := by decide +kernel
theorem d47_9 : decode (xB 47) 9 = .ok (.getfield 35, 3) := by decide +kernel
theorem d47_12 : decode (xB 47) 12 = .ok (.ifCond .le 50, 3) := by decide +kernel
theorem d47_15 : decode (xB 47) 15 = .ok (.aload_n 0, 1) := by decide +kernel
theorem d47_16 : decode (xB 47) 16 = .ok (.getfield 24, 3) := by decide +kernel
theorem d47_19 : decode (xB 47) 19 = .ok (.bipush 41, 2) := by decide +kernel
theorem d47_21 : decode (xB 47) 21 = .ok (.invokevirtual 65, 3) := by decide +kernel
theorem d47_24 : decode (xB 47) 24 = .ok (.ifCond .eq 38, 3) := by decide +kernel
theorem d47_27 : decode (xB 47) 27 = .ok (.aload_n 0, 1) := by decide +kernel
theorem d47_28 : decode (xB 47) 28 = .ok (.iconst 1, 1) := by decide +kernel
theorem d47_29 : decode (xB 47) 29 = .ok (.invokevirtual 59, 3) := by decide +kernel
theorem d47_32 : decode (xB 47) 32 = .ok (.aload_n 0, 1) := by decide +kernel
theorem d47_33 : decode (xB 47) 33 = .ok (.iconst 0, 1) := by decide +kernel
theorem d47_34 : decode (xB 47) 34 = .ok (.aload_n 0, 1) := by decide +kernel
theorem d47_35 : decode (xB 47) 35 = .ok (.getfield 31, 3) := by decide +kernel
theorem d47_38 : decode (xB 47) 38 = .ok (.iconst 1, 1) := by decide +kernel
theorem d47_39 : decode (xB 47) 39 = .ok (.isub, 1) := by decide +kernel
theorem d47_40 : decode (xB 47) 40 = .ok (.invokestatic 83, 3) := by decide +kernel
theorem d47_43 : decode (xB 47) 43 = .ok (.putfield 31, 3) := by decide +kernel
theorem d47_46 : decode (xB 47) 46 = .ok (.aload_n 0, 1) := by decide +kernel
theorem d47_47 : decode (xB 47) 47 = .ok (.dup, 1) := by decide +kernel
theorem d47_48 : decode (xB 47) 48 = .ok (.getfield 35, 3) := by decide +kernel
theorem d47_51 : decode (xB 47) 51 = .ok (.iconst 1, 1) := by decide +kernel
theorem d47_52 : decode (xB 47) 52 = .ok (.isub, 1) := by decide +kernel
theorem d47_53 : decode (xB 47) 53 = .ok (.putfield 35, 3) := by decide +kernel
theorem d47_56 : decode (xB 47) 56 = .ok (.iinc 1 1, 3) := by decide +kernel
theorem d47_59 : decode (xB 47) 59 = .ok (.goto (-57), 3) := by decide +kernel
theorem d47_62 : decode (xB 47) 62 = .ok (.return_, 1) := by decide +kernel
theorem b47_0 {d : Nat} {P : xPr} {Q : xQr} {r : Nat} {mem : Nat → Nat → Int32} (hP : Cl d none 47 P Q)
    (k : P 2 [.ref 94, .int (nI 0)] [] (0, 0) (LAY, RFu r, mem)) : P 0 [.ref 94, .null] [] (0, 0) (LAY, RFu r, mem) := by
  refine r_iconst (v := nI 0) hP d47_0 rfl ?_
  refine r_istore_n (L' := [.ref 94, .int (nI 0)]) hP d47_1 (Nat.le_of_ble_eq_true rfl) rfl ?_
  exact k
theorem b47_2 {d : Nat} {P : xPr} {Q : xQr} {r : Nat} {mem : Nat → Nat → Int32} (hP : Cl d none 47 P Q) {x1 : Int32}
    (kt : (nI 40) ≤ x1 → P 62 [.ref 94, .int x1] [] (0, 0) (LAY, RFu r, mem)) (kf : ¬ (nI 40) ≤ x1 → P 8 [.ref 94, .int x1] [] (0, 0) (LAY, RFu r, mem)) : P 2 [.ref 94, .int x1] [] (0, 0) (LAY, RFu r, mem) := by
  refine r_iload_n hP d47_2 rfl ?_
  refine r_bipush (v := nI 40) hP d47_3 rfl ?_
  exact r_icmp (t := 62) hP d47_5 (by decide) kt kf
theorem b47_8 {d : Nat} {P : xPr} {Q : xQr} {r : Nat} {mem : Nat → Nat → Int32} (hP : Cl d none 47 P Q) {x1 : Int32}
    (kt : (mem 94 4) ≤ 0 → P 62 [.ref 94, .int x1] [] (0, 0) (LAY, RFu r, mem)) (kf : ¬ (mem 94 4) ≤ 0 → P 15 [.ref 94, .int x1] [] (0, 0) (LAY, RFu r, mem)) : P 8 [.ref 94, .int x1] [] (0, 0) (LAY, RFu r, mem) := by
  refine r_aload_n hP d47_8 rfl ?_
  refine r_geti hP d47_9 fr_6_35 rfl ly_94 ?_
  exact r_if (t := 62) hP d47_12 (by decide) kt kf
theorem b47_15 {d : Nat} {P : xPr} {Q : xQr} {r : Nat} {mem : Nat → Nat → Int32} (hP : Cl d none 47 P Q) {x1 : Int32}
    (k : xCall d 76 [.ref 1, .int (nI 41)] (LAY, RFu r, mem) (Bk P 21 [.ref 94, .int x1] [] (0, 0))) : P 15 [.ref 94, .int x1] [] (0, 0) (LAY, RFu r, mem) := by
  refine r_aload_n hP d47_15 rfl ?_
  refine r_getr (a := 1) hP d47_16 fr_6_24 rfl ly_94 rg_94_1 ?_
  refine r_bipush (v := nI 41) hP d47_19 rfl ?_
  exact r_callv (As := [.int (nI 41)]) (S := []) hP d47_21 cr_6_65 (by decide +kernel) rfl (by simp [Value.category]) rfl ly_1 (by simp [Value.category]) ⟨Nat.zero_le _, Nat.zero_le _⟩ k
theorem b47_24 {d : Nat} {P : xPr} {Q : xQr} {r : Nat} {mem : Nat → Nat → Int32} (hP : Cl d none 47 P Q) {x1 : Int32} {y0 : Int32}
    (kt : y0 = 0 → P 62 [.ref 94, .int x1] [] (0, 0) (LAY, RFu r, mem)) (kf : ¬ y0 = 0 → P 27 [.ref 94, .int x1] [] (0, 0) (LAY, RFu r, mem)) : P 24 [.ref 94, .int x1] [.int y0] (0, 0) (LAY, RFu r, mem) := by
  exact r_if (t := 62) hP d47_24 (by decide) kt kf
theorem b47_27 {d : Nat} {P : xPr} {Q : xQr} {r : Nat} {mem : Nat → Nat → Int32} (hP : Cl d none 47 P Q) {x1 : Int32}
    (k : xCall d 49 [.ref 94, .int (nI 1)] (LAY, RFu r, mem) (Bk P 29 [.ref 94, .int x1] [] (0, 0))) : P 27 [.ref 94, .int x1] [] (0, 0) (LAY, RFu r, mem) := by
  refine r_aload_n hP d47_27 rfl ?_
  refine r_iconst (v := nI 1) hP d47_28 rfl ?_
  exact r_callv (As := [.int (nI 1)]) (S := []) hP d47_29 cr_6_59 (by decide +kernel) rfl (by simp [Value.category]) rfl ly_94 (by simp [Value.category]) ⟨Nat.zero_le _, Nat.zero_le _⟩ k
theorem b47_32 {d : Nat} {P : xPr} {Q : xQr} {r : Nat} {mem : Nat → Nat → Int32} (hP : Cl d none 47 P Q) {x1 : Int32}
    (k : P 2 [.ref 94, .int (x1 + nI 1)] [] (0, 0) (LAY, RFu r, xu2 (xu2 mem 94 3 (if nI 0 < (mem 94 3) - (nI 1) then (mem 94 3) - (nI 1) else nI 0)) 94 4 (((xu2 mem 94 3 (if nI 0 < (mem 94 3) - (nI 1) then (mem 94 3) - (nI 1) else nI 0)) 94 4) - (nI 1)))) : P 32 [.ref 94, .int x1] [] (0, 0) (LAY, RFu r, mem) := by
  refine r_aload_n hP d47_32 rfl ?_
  refine r_iconst (v := nI 0) hP d47_33 rfl ?_
  refine r_aload_n hP d47_34 rfl ?_
  refine r_geti hP d47_35 fr_6_31 rfl ly_94 ?_
  refine r_iconst (v := nI 1) hP d47_38 rfl ?_
  refine r_isub hP d47_39 ?_
  refine r_max hP d47_40 cr_6_83 (by simp [Value.category]) ?_
  refine r_puti hP d47_43 fr_6_31 rfl (fun q => by cases q) ly_94 ?_
  refine r_aload_n hP d47_46 rfl ?_
  refine r_dup hP d47_47 rfl ?_
  refine r_geti hP d47_48 fr_6_35 rfl ly_94 ?_
  refine r_iconst (v := nI 1) hP d47_51 rfl ?_
  refine r_isub hP d47_52 ?_
  refine r_puti hP d47_53 fr_6_35 rfl (fun q => by cases q) ly_94 ?_
  refine r_iinc (v := nI 1) (L' := [.ref 94, .int (x1 + nI 1)]) hP d47_56 rfl rfl rfl ?_
  refine r_goto (t := 2) hP d47_59 (by decide) ?_
  exact k
theorem b47_62 {d : Nat} {P : xPr} {Q : xQr} {r : Nat} {mem : Nat → Nat → Int32} (hP : Cl d none 47 P Q) {v0 : Value} {v1 : Value}
    (k : Q none (LAY, RFu r, mem)) : P 62 [v0, v1] [] (0, 0) (LAY, RFu r, mem) := by
  exact r_vret hP d47_62 rfl k
theorem d48_0 : decode (xB 48) 0 = .ok (.aload_n 0, 1) := by decide +kernel
theorem d48_1 : decode (xB 48) 1 = .ok (.getfield 24, 3) := by decide +kernel
theorem d48_4 : decode (xB 48) 4 = .ok (.invokevirtual 72, 3) := by decide +kernel
theorem d48_7 : decode (xB 48) 7 = .ok (.istore_n 1, 1) := by decide +kernel
theorem d48_8 : decode (xB 48) 8 = .ok (.sipush 2000, 3) := by decide +kernel
theorem d48_11 : decode (xB 48) 11 = .ok (.iload_n 1, 1) := by decide +kernel
theorem d48_12 : decode (xB 48) 12 = .ok (.iadd, 1) := by decide +kernel
theorem d48_13 : decode (xB 48) 13 = .ok (.istore_n 2, 1) := by decide +kernel
theorem d48_14 : decode (xB 48) 14 = .ok (.iload_n 2, 1) := by decide +kernel
theorem d48_15 : decode (xB 48) 15 = .ok (.invokestatic 89, 3) := by decide +kernel
theorem d48_18 : decode (xB 48) 18 = .ok (.istore_n 3, 1) := by decide +kernel
theorem d48_19 : decode (xB 48) 19 = .ok (.iload_n 3, 1) := by decide +kernel
theorem d48_20 : decode (xB 48) 20 = .ok (.iconst 1, 1) := by decide +kernel
theorem d48_21 : decode (xB 48) 21 = .ok (.if_icmp .ge 5, 3) := by decide +kernel
theorem d48_24 : decode (xB 48) 24 = .ok (.iconst 0, 1) := by decide +kernel
theorem d48_25 : decode (xB 48) 25 = .ok (.ireturn, 1) := by decide +kernel
theorem d48_26 : decode (xB 48) 26 = .ok (.iload_n 3, 1) := by decide +kernel
theorem d48_27 : decode (xB 48) 27 = .ok (.iconst 1, 1) := by decide +kernel
theorem d48_28 : decode (xB 48) 28 = .ok (.if_icmp .ne 35, 3) := by decide +kernel
theorem d48_31 : decode (xB 48) 31 = .ok (.aload_n 0, 1) := by decide +kernel
theorem d48_32 : decode (xB 48) 32 = .ok (.getfield 38, 3) := by decide +kernel
theorem d48_35 : decode (xB 48) 35 = .ok (.aload_n 0, 1) := by decide +kernel
theorem d48_36 : decode (xB 48) 36 = .ok (.getfield 35, 3) := by decide +kernel
theorem d48_39 : decode (xB 48) 39 = .ok (.ishr, 1) := by decide +kernel
theorem d48_40 : decode (xB 48) 40 = .ok (.iconst 1, 1) := by decide +kernel
theorem d48_41 : decode (xB 48) 41 = .ok (.iand, 1) := by decide +kernel
theorem d48_42 : decode (xB 48) 42 = .ok (.iconst 1, 1) := by decide +kernel
theorem d48_43 : decode (xB 48) 43 = .ok (.if_icmp .ne 5, 3) := by decide +kernel
theorem d48_46 : decode (xB 48) 46 = .ok (.iconst 0, 1) := by decide +kernel
theorem d48_47 : decode (xB 48) 47 = .ok (.ireturn, 1) := by decide +kernel
theorem d48_48 : decode (xB 48) 48 = .ok (.aload_n 0, 1) := by decide +kernel
theorem d48_49 : decode (xB 48) 49 = .ok (.dup, 1) := by decide +kernel
theorem d48_50 : decode (xB 48) 50 = .ok (.getfield 38, 3) := by decide +kernel
theorem d48_53 : decode (xB 48) 53 = .ok (.iconst 1, 1) := by decide +kernel
theorem d48_54 : decode (xB 48) 54 = .ok (.aload_n 0, 1) := by decide +kernel
theorem d48_55 : decode (xB 48) 55 = .ok (.getfield 35, 3) := by decide +kernel
theorem d48_58 : decode (xB 48) 58 = .ok (.ishl, 1) := by decide +kernel
theorem d48_59 : decode (xB 48) 59 = .ok (.ior, 1) := by decide +kernel
theorem d48_60 : decode (xB 48) 60 = .ok (.putfield 38, 3) := by decide +kernel
theorem d48_63 : decode (xB 48) 63 = .ok (.aload_n 0, 1) := by decide +kernel
theorem d48_64 : decode (xB 48) 64 = .ok (.iload_n 3, 1) := by decide +kernel
theorem d48_65 : decode (xB 48) 65 = .ok (.invokevirtual 59, 3) := by decide +kernel
theorem d48_68 : decode (xB 48) 68 = .ok (.aload_n 0, 1) := by decide +kernel
theorem d48_69 : decode (xB 48) 69 = .ok (.iload_n 2, 1) := by decide +kernel
theorem d48_70 : decode (xB 48) 70 = .ok (.invokevirtual 69, 3) := by decide +kernel
theorem d48_73 : decode (xB 48) 73 = .ok (.aload_n 0, 1) := by decide +kernel
theorem d48_74 : decode (xB 48) 74 = .ok (.getfield 24, 3) := by decide +kernel
theorem d48_77 : decode (xB 48) 77 = .ok (.iload_n 1, 1) := by decide +kernel
theorem d48_78 : decode (xB 48) 78 = .ok (.invokevirtual 65, 3) := by decide +kernel
theorem d48_81 : decode (xB 48) 81 = .ok (.ireturn, 1) := by decide +kernel
theorem b48_0 {d : Nat} {P : xPr} {Q : xQr} {r : Nat} {mem : Nat → Nat → Int32} (hP : Cl d none 48 P Q)
    (k : xCall d 75 [.ref 1] (LAY, RFu r, mem) (Bk P 4 [.ref 94, .null, .null, .null] [] (0, 0))) : P 0 [.ref 94, .null, .null, .null] [] (0, 0) (LAY, RFu r, mem) := by
  refine r_aload_n hP d48_0 rfl ?_
  refine r_getr (a := 1) hP d48_1 fr_6_24 rfl ly_94 rg_94_1 ?_
  exact r_callv (As := []) (S := []) hP d48_4 cr_6_72 (by decide +kernel) rfl (by simp) rfl ly_1 (by simp [Value.category]) ⟨Nat.zero_le _, Nat.zero_le _⟩ k
theorem b48_7 {d : Nat} {P : xPr} {Q : xQr} {r : Nat} {mem : Nat → Nat → Int32} (hP : Cl d none 48 P Q) {v1 : Value} {v2 : Value} {v3 : Value} {y0 : Int32}
    (k : xCall d 51 [.int ((nI 2000) + y0)] (LAY, RFu r, mem) (Bk P 15 [.ref 94, .int y0, .int ((nI 2000) + y0), v3] [] (0, 0))) : P 7 [.ref 94, v1, v2, v3] [.int y0] (0, 0) (LAY, RFu r, mem) := by
  refine r_istore_n (L' := [.ref 94, .int y0, v2, v3]) hP d48_7 (Nat.le_of_ble_eq_true rfl) rfl ?_
  refine r_sipush (v := nI 2000) hP d48_8 rfl ?_
  refine r_iload_n hP d48_11 rfl ?_
  refine r_iadd hP d48_12 ?_
  refine r_istore_n (L' := [.ref 94, .int y0, .int ((nI 2000) + y0), v3]) hP d48_13 (Nat.le_of_ble_eq_true rfl) rfl ?_
  refine r_iload_n hP d48_14 rfl ?_
  exact r_calls (As := [.int ((nI 2000) + y0)]) (S := []) hP d48_15 cr_6_89 (by decide +kernel) rfl (by simp [Value.category]) rfl (by simp [Value.category]) ⟨Nat.zero_le _, Nat.zero_le _⟩ k
theorem b48_18 {d : Nat} {P : xPr} {Q : xQr} {r : Nat} {mem : Nat → Nat → Int32} (hP : Cl d none 48 P Q) {x1 : Int32} {x2 : Int32} {v3 : Value} {y0 : Int32}
    (kt : (nI 1) ≤ y0 → P 26 [.ref 94, .int x1, .int x2, .int y0] [] (0, 0) (LAY, RFu r, mem)) (kf : ¬ (nI 1) ≤ y0 → P 24 [.ref 94, .int x1, .int x2, .int y0] [] (0, 0) (LAY, RFu r, mem)) : P 18 [.ref 94, .int x1, .int x2, v3] [.int y0] (0, 0) (LAY, RFu r, mem) := by
  refine r_istore_n (L' := [.ref 94, .int x1, .int x2, .int y0]) hP d48_18 (Nat.le_of_ble_eq_true rfl) rfl ?_
  refine r_iload_n hP d48_19 rfl ?_
  refine r_iconst (v := nI 1) hP d48_20 rfl ?_
  exact r_icmp (t := 26) hP d48_21 (by decide) kt kf
theorem b48_24 {d : Nat} {P : xPr} {Q : xQr} {r : Nat} {mem : Nat → Nat → Int32} (hP : Cl d none 48 P Q) {v0 : Value} {v1 : Value} {v2 : Value} {v3 : Value} (hzr : nI 0 = 0 ∨ nI 0 = 1)
    (k : Q (some (.int (nI 0))) (LAY, RFu r, mem)) : P 24 [v0, v1, v2, v3] [] (0, 0) (LAY, RFu r, mem) := by
  refine r_iconst (v := nI 0) hP d48_24 rfl ?_
  exact r_zret hP d48_25 rfl hzr k
theorem b48_26 {d : Nat} {P : xPr} {Q : xQr} {r : Nat} {mem : Nat → Nat → Int32} (hP : Cl d none 48 P Q) {x1 : Int32} {x2 : Int32} {x3 : Int32}
    (kt : ¬ x3 = (nI 1) → P 63 [.ref 94, .int x1, .int x2, .int x3] [] (0, 0) (LAY, RFu r, mem)) (kf : x3 = (nI 1) → P 31 [.ref 94, .int x1, .int x2, .int x3] [] (0, 0) (LAY, RFu r, mem)) : P 26 [.ref 94, .int x1, .int x2, .int x3] [] (0, 0) (LAY, RFu r, mem) := by
  refine r_iload_n hP d48_26 rfl ?_
  refine r_iconst (v := nI 1) hP d48_27 rfl ?_
  exact r_icmp (t := 63) hP d48_28 (by decide) kt (fun q => kf (Decidable.of_not_not q))
theorem b48_31 {d : Nat} {P : xPr} {Q : xQr} {r : Nat} {mem : Nat → Nat → Int32} (hP : Cl d none 48 P Q) {x1 : Int32} {x2 : Int32} {x3 : Int32}
    (kt : ¬ (((mem 94 5) >>> ((mem 94 4) &&& 31)) &&& (nI 1)) = (nI 1) → P 48 [.ref 94, .int x1, .int x2, .int x3] [] (0, 0) (LAY, RFu r, mem)) (kf : (((mem 94 5) >>> ((mem 94 4) &&& 31)) &&& (nI 1)) = (nI 1) → P 46 [.ref 94, .int x1, .int x2, .int x3] [] (0, 0) (LAY, RFu r, mem)) : P 31 [.ref 94, .int x1, .int x2, .int x3] [] (0, 0) (LAY, RFu r, mem) := by
  refine r_aload_n hP d48_31 rfl ?_
  refine r_geti hP d48_32 fr_6_38 rfl ly_94 ?_
  refine r_aload_n hP d48_35 rfl ?_
  refine r_geti hP d48_36 fr_6_35 rfl ly_94 ?_
  refine r_ishr hP d48_39 ?_
  refine r_iconst (v := nI 1) hP d48_40 rfl ?_
  refine r_iand hP d48_41 ?_
  refine r_iconst (v := nI 1) hP d48_42 rfl ?_
  exact r_icmp (t := 48) hP d48_43 (by decide) kt (fun q => kf (Decidable.of_not_not q))
theorem b48_46 {d : Nat} {P : xPr} {Q : xQr} {r : Nat} {mem : Nat → Nat → Int32} (hP : Cl d none 48 P Q) {v0 : Value} {v1 : Value} {v2 : Value} {v3 : Value} (hzr : nI 0 = 0 ∨ nI 0 = 1)
    (k : Q (some (.int (nI 0))) (LAY, RFu r, mem)) : P 46 [v0, v1, v2, v3] [] (0, 0) (LAY, RFu r, mem) := by
  refine r_iconst (v := nI 0) hP d48_46 rfl ?_
  exact r_zret hP d48_47 rfl hzr k
theorem b48_48 {d : Nat} {P : xPr} {Q : xQr} {r : Nat} {mem : Nat → Nat → Int32} (hP : Cl d none 48 P Q) {x1 : Int32} {x2 : Int32} {x3 : Int32}
    (k : P 63 [.ref 94, .int x1, .int x2, .int x3] [] (0, 0) (LAY, RFu r, xu2 mem 94 5 ((mem 94 5) ||| ((nI 1) <<< ((mem 94 4) &&& 31))))) : P 48 [.ref 94, .int x1, .int x2, .int x3] [] (0, 0) (LAY, RFu r, mem) := by
  refine r_aload_n hP d48_48 rfl ?_
  refine r_dup hP d48_49 rfl ?_
  refine r_geti hP d48_50 fr_6_38 rfl ly_94 ?_
  refine r_iconst (v := nI 1) hP d48_53 rfl ?_
  refine r_aload_n hP d48_54 rfl ?_
  refine r_geti hP d48_55 fr_6_35 rfl ly_94 ?_
  refine r_ishl hP d48_58 ?_
  refine r_ior hP d48_59 ?_
  refine r_puti hP d48_60 fr_6_38 rfl (fun q => by cases q) ly_94 ?_
  exact k
theorem b48_63 {d : Nat} {P : xPr} {Q : xQr} {r : Nat} {mem : Nat → Nat → Int32} (hP : Cl d none 48 P Q) {x1 : Int32} {x2 : Int32} {x3 : Int32}
    (k : xCall d 49 [.ref 94, .int x3] (LAY, RFu r, mem) (Bk P 65 [.ref 94, .int x1, .int x2, .int x3] [] (0, 0))) : P 63 [.ref 94, .int x1, .int x2, .int x3] [] (0, 0) (LAY, RFu r, mem) := by
  refine r_aload_n hP d48_63 rfl ?_
  refine r_iload_n hP d48_64 rfl ?_
  exact r_callv (As := [.int x3]) (S := []) hP d48_65 cr_6_59 (by decide +kernel) rfl (by simp [Value.category]) rfl ly_94 (by simp [Value.category]) ⟨Nat.zero_le _, Nat.zero_le _⟩ k
theorem b48_68 {d : Nat} {P : xPr} {Q : xQr} {r : Nat} {mem : Nat → Nat → Int32} (hP : Cl d none 48 P Q) {x1 : Int32} {x2 : Int32} {v3 : Value}
    (k : xCall d 50 [.ref 94, .int x2] (LAY, RFu r, mem) (Bk P 70 [.ref 94, .int x1, .int x2, v3] [] (0, 0))) : P 68 [.ref 94, .int x1, .int x2, v3] [] (0, 0) (LAY, RFu r, mem) := by
  refine r_aload_n hP d48_68 rfl ?_
  refine r_iload_n hP d48_69 rfl ?_
  exact r_callv (As := [.int x2]) (S := []) hP d48_70 cr_6_69 (by decide +kernel) rfl (by simp [Value.category]) rfl ly_94 (by simp [Value.category]) ⟨Nat.zero_le _, Nat.zero_le _⟩ k
theorem b48_73 {d : Nat} {P : xPr} {Q : xQr} {r : Nat} {mem : Nat → Nat → Int32} (hP : Cl d none 48 P Q) {x1 : Int32} {v2 : Value} {v3 : Value}
    (k : xCall d 76 [.ref 1, .int x1] (LAY, RFu r, mem) (Bk P 78 [.ref 94, .int x1, v2, v3] [] (0, 0))) : P 73 [.ref 94, .int x1, v2, v3] [] (0, 0) (LAY, RFu r, mem) := by
  refine r_aload_n hP d48_73 rfl ?_
  refine r_getr (a := 1) hP d48_74 fr_6_24 rfl ly_94 rg_94_1 ?_
  refine r_iload_n hP d48_77 rfl ?_
  exact r_callv (As := [.int x1]) (S := []) hP d48_78 cr_6_65 (by decide +kernel) rfl (by simp [Value.category]) rfl ly_1 (by simp [Value.category]) ⟨Nat.zero_le _, Nat.zero_le _⟩ k
theorem b48_81 {d : Nat} {P : xPr} {Q : xQr} {r : Nat} {mem : Nat → Nat → Int32} (hP : Cl d none 48 P Q) {v0 : Value} {v1 : Value} {v2 : Value} {v3 : Value} {y0 : Int32} (hzr : y0 = 0 ∨ y0 = 1)
    (k : Q (some (.int y0)) (LAY, RFu r, mem)) : P 81 [v0, v1, v2, v3] [.int y0] (0, 0) (LAY, RFu r, mem) := by
  exact r_zret hP d48_81 rfl hzr k
theorem d49_0 : decode (xB 49) 0 = .ok (.iconst 0, 1) := by decide +kernel
theorem d49_1 : decode (xB 49) 1 = .ok (.istore_n 2, 1) := by decide +kernel
theorem d49_2 : decode (xB 49) 2 = .ok (.iload_n 2, 1) := by decide +kernel
theorem d49_3 : decode (xB 49) 3 = .ok (.bipush 40, 2) := by decide +kernel
theorem d49_5 : decode (xB 49) 5 = .ok (.if_icmp .ge 60, 3) := by decide +kernel
theorem d49_8 : decode (xB 49) 8 = .ok (.aload_n 0, 1) := by decide +kernel
theorem d49_9 : decode (xB 49) 9 = .ok (.getfield 31, 3) := by decide +kernel
theorem d49_12 : decode (xB 49) 12 = .ok (.ifCond .le 53, 3) := by decide +kernel
theorem d49_15 : decode (xB 49) 15 = .ok (.aload_n 0, 1) := by decide +kernel
theorem d49_16 : decode (xB 49) 16 = .ok (.getfield 20, 3) := by decide +kernel
theorem d49_19 : decode (xB 49) 19 = .ok (.aload_n 0, 1) := by decide +kernel
theorem d49_20 : decode (xB 49) 20 = .ok (.getfield 31, 3) := by decide +kernel
theorem d49_23 : decode (xB 49) 23 = .ok (.iconst 1, 1) := by decide +kernel
theorem d49_24 : decode (xB 49) 24 = .ok (.isub, 1) := by decide +kernel
theorem d49_25 : decode (xB 49) 25 = .ok (.iaload, 1) := by decide +kernel
theorem d49_26 : decode (xB 49) 26 = .ok (.invokestatic 89, 3) := by decide +kernel
theorem d49_29 : decode (xB 49) 29 = .ok (.iload_n 1, 1) := by decide +kernel
theorem d49_30 : decode (xB 49) 30 = .ok (.if_icmp .lt 35, 3) := by decide +kernel
theorem d49_33 : decode (xB 49) 33 = .ok (.aload_n 0, 1) := by decide +kernel
theorem d49_34 : decode (xB 49) 34 = .ok (.dup, 1) := by decide +kernel
theorem d49_35 : decode (xB 49) 35 = .ok (.getfield 31, 3) := by decide +kernel
theorem d49_38 : decode (xB 49) 38 = .ok (.iconst 1, 1) := by decide +kernel
theorem d49_39 : decode (xB 49) 39 = .ok (.isub, 1) := by decide +kernel
theorem d49_40 : decode (xB 49) 40 = .ok (.putfield 31, 3) := by decide +kernel
theorem d49_43 : decode (xB 49) 43 = .ok (.aload_n 0, 1) := by decide +kernel
theorem d49_44 : decode (xB 49) 44 = .ok (.getfield 14, 3) := by decide +kernel
theorem d49_47 : decode (xB 49) 47 = .ok (.aload_n 0, 1) := by decide +kernel
theorem d49_48 : decode (xB 49) 48 = .ok (.getfield 20, 3) := by decide +kernel
theorem d49_51 : decode (xB 49) 51 = .ok (.aload_n 0, 1) := by decide +kernel
theorem d49_52 : decode (xB 49) 52 = .ok (.getfield 31, 3) := by decide +kernel
theorem d49_55 : decode (xB 49) 55 = .ok (.iaload, 1) := by decide +kernel
theorem d49_56 : decode (xB 49) 56 = .ok (.invokevirtual 76, 3) := by decide +kernel
theorem d49_59 : decode (xB 49) 59 = .ok (.iinc 2 1, 3) := by decide +kernel
theorem d49_62 : decode (xB 49) 62 = .ok (.goto (-60), 3) := by decide +kernel
theorem d49_65 : decode (xB 49) 65 = .ok (.return_, 1) := by decide +kernel
theorem b49_0 {d : Nat} {P : xPr} {Q : xQr} {r : Nat} {mem : Nat → Nat → Int32} (hP : Cl d none 49 P Q) {p0 : Int32}
    (k : P 2 [.ref 94, .int p0, .int (nI 0)] [] (0, 0) (LAY, RFu r, mem)) : P 0 [.ref 94, .int p0, .null] [] (0, 0) (LAY, RFu r, mem) := by
  refine r_iconst (v := nI 0) hP d49_0 rfl ?_
  refine r_istore_n (L' := [.ref 94, .int p0, .int (nI 0)]) hP d49_1 (Nat.le_of_ble_eq_true rfl) rfl ?_
  exact k
theorem b49_2 {d : Nat} {P : xPr} {Q : xQr} {r : Nat} {mem : Nat → Nat → Int32} (hP : Cl d none 49 P Q) {x1 : Int32} {x2 : Int32}
    (kt : (nI 40) ≤ x2 → P 65 [.ref 94, .int x1, .int x2] [] (0, 0) (LAY, RFu r, mem)) (kf : ¬ (nI 40) ≤ x2 → P 8 [.ref 94, .int x1, .int x2] [] (0, 0) (LAY, RFu r, mem)) : P 2 [.ref 94, .int x1, .int x2] [] (0, 0) (LAY, RFu r, mem) := by
  refine r_iload_n hP d49_2 rfl ?_
  refine r_bipush (v := nI 40) hP d49_3 rfl ?_
  exact r_icmp (t := 65) hP d49_5 (by decide) kt kf
theorem b49_8 {d : Nat} {P : xPr} {Q : xQr} {r : Nat} {mem : Nat → Nat → Int32} (hP : Cl d none 49 P Q) {x1 : Int32} {x2 : Int32}
    (kt : (mem 94 3) ≤ 0 → P 65 [.ref 94, .int x1, .int x2] [] (0, 0) (LAY, RFu r, mem)) (kf : ¬ (mem 94 3) ≤ 0 → P 15 [.ref 94, .int x1, .int x2] [] (0, 0) (LAY, RFu r, mem)) : P 8 [.ref 94, .int x1, .int x2] [] (0, 0) (LAY, RFu r, mem) := by
  refine r_aload_n hP d49_8 rfl ?_
  refine r_geti hP d49_9 fr_6_31 rfl ly_94 ?_
  exact r_if (t := 65) hP d49_12 (by decide) kt kf
theorem b49_15 {d : Nat} {P : xPr} {Q : xQr} {r : Nat} {mem : Nat → Nat → Int32} (hP : Cl d none 49 P Q) {x1 : Int32} {x2 : Int32} (hi25 : vp_in ((mem 94 3) - (nI 1)) 40)
    (k : xCall d 51 [.int (mem 98 ((mem 94 3) - (nI 1)).toNatClampNeg)] (LAY, RFu r, mem) (Bk P 26 [.ref 94, .int x1, .int x2] [] (0, 0))) : P 15 [.ref 94, .int x1, .int x2] [] (0, 0) (LAY, RFu r, mem) := by
  refine r_aload_n hP d49_15 rfl ?_
  refine r_getr (a := 98) hP d49_16 fr_6_20 rfl ly_94 rg_94_2 ?_
  refine r_aload_n hP d49_19 rfl ?_
  refine r_geti hP d49_20 fr_6_31 rfl ly_94 ?_
  refine r_iconst (v := nI 1) hP d49_23 rfl ?_
  refine r_isub hP d49_24 ?_
  refine r_iaload hP d49_25 ly_98 hi25 ?_
  exact r_calls (As := [.int (mem 98 ((mem 94 3) - (nI 1)).toNatClampNeg)]) (S := []) hP d49_26 cr_6_89 (by decide +kernel) rfl (by simp [Value.category]) rfl (by simp [Value.category]) ⟨Nat.zero_le _, Nat.zero_le _⟩ k
theorem b49_29 {d : Nat} {P : xPr} {Q : xQr} {r : Nat} {mem : Nat → Nat → Int32} (hP : Cl d none 49 P Q) {x1 : Int32} {x2 : Int32} {y0 : Int32}
    (kt : y0 < x1 → P 65 [.ref 94, .int x1, .int x2] [] (0, 0) (LAY, RFu r, mem)) (kf : ¬ y0 < x1 → P 33 [.ref 94, .int x1, .int x2] [] (0, 0) (LAY, RFu r, mem)) : P 29 [.ref 94, .int x1, .int x2] [.int y0] (0, 0) (LAY, RFu r, mem) := by
  refine r_iload_n hP d49_29 rfl ?_
  exact r_icmp (t := 65) hP d49_30 (by decide) kt kf
theorem b49_33 {d : Nat} {P : xPr} {Q : xQr} {r : Nat} {mem : Nat → Nat → Int32} (hP : Cl d none 49 P Q) {x1 : Int32} {x2 : Int32} (hi55 : vp_in ((xu2 mem 94 3 ((mem 94 3) - (nI 1))) 94 3) 40)
    (k : xCall d 38 [.ref 95, .int ((xu2 mem 94 3 ((mem 94 3) - (nI 1))) 98 ((xu2 mem 94 3 ((mem 94 3) - (nI 1))) 94 3).toNatClampNeg)] (LAY, RFu r, xu2 mem 94 3 ((mem 94 3) - (nI 1))) (Bk P 56 [.ref 94, .int x1, .int x2] [] (0, 0))) : P 33 [.ref 94, .int x1, .int x2] [] (0, 0) (LAY, RFu r, mem) := by
  refine r_aload_n hP d49_33 rfl ?_
  refine r_dup hP d49_34 rfl ?_
  refine r_geti hP d49_35 fr_6_31 rfl ly_94 ?_
  refine r_iconst (v := nI 1) hP d49_38 rfl ?_
  refine r_isub hP d49_39 ?_
  refine r_puti hP d49_40 fr_6_31 rfl (fun q => by cases q) ly_94 ?_
  refine r_aload_n hP d49_43 rfl ?_
  refine r_getr (a := 95) hP d49_44 fr_6_14 rfl ly_94 rg_94_0 ?_
  refine r_aload_n hP d49_47 rfl ?_
  refine r_getr (a := 98) hP d49_48 fr_6_20 rfl ly_94 rg_94_2 ?_
  refine r_aload_n hP d49_51 rfl ?_
  refine r_geti hP d49_52 fr_6_31 rfl ly_94 ?_
  refine r_iaload hP d49_55 ly_98 hi55 ?_
  exact r_callv (As := [.int ((xu2 mem 94 3 ((mem 94 3) - (nI 1))) 98 ((xu2 mem 94 3 ((mem 94 3) - (nI 1))) 94 3).toNatClampNeg)]) (S := []) hP d49_56 cr_6_76 (by decide +kernel) rfl (by simp [Value.category]) rfl ly_95 (by simp [Value.category]) ⟨Nat.zero_le _, Nat.zero_le _⟩ k
theorem b49_59 {d : Nat} {P : xPr} {Q : xQr} {r : Nat} {mem : Nat → Nat → Int32} (hP : Cl d none 49 P Q) {x1 : Int32} {x2 : Int32}
    (k : P 2 [.ref 94, .int x1, .int (x2 + nI 1)] [] (0, 0) (LAY, RFu r, mem)) : P 59 [.ref 94, .int x1, .int x2] [] (0, 0) (LAY, RFu r, mem) := by
  refine r_iinc (v := nI 1) (L' := [.ref 94, .int x1, .int (x2 + nI 1)]) hP d49_59 rfl rfl rfl ?_
  refine r_goto (t := 2) hP d49_62 (by decide) ?_
  exact k
theorem b49_65 {d : Nat} {P : xPr} {Q : xQr} {r : Nat} {mem : Nat → Nat → Int32} (hP : Cl d none 49 P Q) {v0 : Value} {v1 : Value} {v2 : Value}
    (k : Q none (LAY, RFu r, mem)) : P 65 [v0, v1, v2] [] (0, 0) (LAY, RFu r, mem) := by
  exact r_vret hP d49_65 rfl k
theorem d50_0 : decode (xB 50) 0 = .ok (.aload_n 0, 1) := by decide +kernel
theorem d50_1 : decode (xB 50) 1 = .ok (.getfield 31, 3) := by decide +kernel
theorem d50_4 : decode (xB 50) 4 = .ok (.aload_n 0, 1) := by decide +kernel
theorem d50_5 : decode (xB 50) 5 = .ok (.getfield 20, 3) := by decide +kernel
theorem d50_8 : decode (xB 50) 8 = .ok (.arraylength, 1) := by decide +kernel
theorem d50_9 : decode (xB 50) 9 = .ok (.if_icmp .ge 23, 3) := by decide +kernel
theorem d50_12 : decode (xB 50) 12 = .ok (.aload_n 0, 1) := by decide +kernel
theorem d50_13 : decode (xB 50) 13 = .ok (.getfield 20, 3) := by decide +kernel
theorem d50_16 : decode (xB 50) 16 = .ok (.aload_n 0, 1) := by decide +kernel
theorem d50_17 : decode (xB 50) 17 = .ok (.getfield 31, 3) := by decide +kernel
theorem d50_20 : decode (xB 50) 20 = .ok (.iload_n 1, 1) := by decide +kernel
theorem d50_21 : decode (xB 50) 21 = .ok (.iastore, 1) := by decide +kernel
theorem d50_22 : decode (xB 50) 22 = .ok (.aload_n 0, 1) := by decide +kernel
theorem d50_23 : decode (xB 50) 23 = .ok (.dup, 1) := by decide +kernel
theorem d50_24 : decode (xB 50) 24 = .ok (.getfield 31, 3) := by decide +kernel
theorem d50_27 : decode (xB 50) 27 = .ok (.iconst 1, 1) := by decide +kernel
theorem d50_28 : decode (xB 50) 28 = .ok (.iadd, 1) := by decide +kernel
theorem d50_29 : decode (xB 50) 29 = .ok (.putfield 31, 3) := by decide +kernel
theorem d50_32 : decode (xB 50) 32 = .ok (.return_, 1) := by decide +kernel
theorem b50_0 {d : Nat} {P : xPr} {Q : xQr} {r : Nat} {mem : Nat → Nat → Int32} (hP : Cl d none 50 P Q) {p0 : Int32}
    (kt : (nI 40) ≤ (mem 94 3) → P 32 [.ref 94, .int p0] [] (0, 0) (LAY, RFu r, mem)) (kf : ¬ (nI 40) ≤ (mem 94 3) → P 12 [.ref 94, .int p0] [] (0, 0) (LAY, RFu r, mem)) : P 0 [.ref 94, .int p0] [] (0, 0) (LAY, RFu r, mem) := by
  refine r_aload_n hP d50_0 rfl ?_
  refine r_geti hP d50_1 fr_6_31 rfl ly_94 ?_
  refine r_aload_n hP d50_4 rfl ?_
  refine r_getr (a := 98) hP d50_5 fr_6_20 rfl ly_94 rg_94_2 ?_
  refine r_alen (v := nI 40) hP d50_8 (by decide) (by decide) ly_98 rfl ?_
  exact r_icmp (t := 32) hP d50_9 (by decide) kt kf
theorem b50_12 {d : Nat} {P : xPr} {Q : xQr} {r : Nat} {mem : Nat → Nat → Int32} (hP : Cl d none 50 P Q) {x1 : Int32} (hi21 : vp_in (mem 94 3) 40)
    (k : P 32 [.ref 94, .int x1] [] (0, 0) (LAY, RFu r, xu2 (xu2 mem 98 (mem 94 3).toNatClampNeg x1) 94 3 (((xu2 mem 98 (mem 94 3).toNatClampNeg x1) 94 3) + (nI 1)))) : P 12 [.ref 94, .int x1] [] (0, 0) (LAY, RFu r, mem) := by
  refine r_aload_n hP d50_12 rfl ?_
  refine r_getr (a := 98) hP d50_13 fr_6_20 rfl ly_94 rg_94_2 ?_
  refine r_aload_n hP d50_16 rfl ?_
  refine r_geti hP d50_17 fr_6_31 rfl ly_94 ?_
  refine r_iload_n hP d50_20 rfl ?_
  refine r_iastore hP d50_21 ly_98 hi21 ?_
  refine r_aload_n hP d50_22 rfl ?_
  refine r_dup hP d50_23 rfl ?_
  refine r_geti hP d50_24 fr_6_31 rfl ly_94 ?_
  refine r_iconst (v := nI 1) hP d50_27 rfl ?_
  refine r_iadd hP d50_28 ?_
  refine r_puti hP d50_29 fr_6_31 rfl (fun q => by cases q) ly_94 ?_
  exact k
theorem b50_32 {d : Nat} {P : xPr} {Q : xQr} {r : Nat} {mem : Nat → Nat → Int32} (hP : Cl d none 50 P Q) {v0 : Value} {v1 : Value}
    (k : Q none (LAY, RFu r, mem)) : P 32 [v0, v1] [] (0, 0) (LAY, RFu r, mem) := by
  exact r_vret hP d50_32 rfl k
theorem d51_0 : decode (xB 51) 0 = .ok (.iload_n 0, 1) := by decide +kernel
theorem d51_1 : decode (xB 51) 1 = .ok (.lookupswitch 83 #[(2042, 77), (2043, 79), (2045, 79), (2047, 77), (2060, 81), (2061, 81), (2062, 81), (3000, 75)], 75) := by decide +kernel
theorem d51_76 : decode (xB 51) 76 = .ok (.iconst 4, 1) := by decide +kernel
theorem d51_77 : decode (xB 51) 77 = .ok (.ireturn, 1) := by decide +kernel
theorem d51_78 : decode (xB 51) 78 = .ok (.iconst 3, 1) := by decide +kernel
theorem d51_79 : decode (xB 51) 79 = .ok (.ireturn, 1) := by decide +kernel
theorem d51_80 : decode (xB 51) 80 = .ok (.iconst 2, 1) := by decide +kernel
theorem d51_81 : decode (xB 51) 81 = .ok (.ireturn, 1) := by decide +kernel
theorem d51_82 : decode (xB 51) 82 = .ok (.iconst 1, 1) := by decide +kernel
theorem d51_83 : decode (xB 51) 83 = .ok (.ireturn, 1) := by decide +kernel
theorem d51_84 : decode (xB 51) 84 = .ok (.iconst 0, 1) := by decide +kernel
theorem d51_85 : decode (xB 51) 85 = .ok (.ireturn, 1) := by decide +kernel
theorem b51_0 {d : Nat} {P : xPr} {Q : xQr} {r : Nat} {mem : Nat → Nat → Int32} (hP : Cl d none 51 P Q) {p0 : Int32}
    (kd : ¬ p0.toInt = 2042 → ¬ p0.toInt = 2043 → ¬ p0.toInt = 2045 → ¬ p0.toInt = 2047 → ¬ p0.toInt = 2060 → ¬ p0.toInt = 2061 → ¬ p0.toInt = 2062 → ¬ p0.toInt = 3000 → P 84 [.int p0] [] (0, 0) (LAY, RFu r, mem)) (k0 : p0.toInt = 2042 → P 78 [.int p0] [] (0, 0) (LAY, RFu r, mem)) (k1 : p0.toInt = 2043 → P 80 [.int p0] [] (0, 0) (LAY, RFu r, mem)) (k2 : p0.toInt = 2045 → P 80 [.int p0] [] (0, 0) (LAY, RFu r, mem)) (k3 : p0.toInt = 2047 → P 78 [.int p0] [] (0, 0) (LAY, RFu r, mem)) (k4 : p0.toInt = 2060 → P 82 [.int p0] [] (0, 0) (LAY, RFu r, mem)) (k5 : p0.toInt = 2061 → P 82 [.int p0] [] (0, 0) (LAY, RFu r, mem)) (k6 : p0.toInt = 2062 → P 82 [.int p0] [] (0, 0) (LAY, RFu r, mem)) (k7 : p0.toInt = 3000 → P 76 [.int p0] [] (0, 0) (LAY, RFu r, mem)) : P 0 [.int p0] [] (0, 0) (LAY, RFu r, mem) := by
  refine r_iload_n hP d51_0 rfl ?_
  refine r_lookup hP d51_1 (by decide) ?_
  by_cases c0 : p0.toInt = 2042
  · rw [c0]; exact ⟨78, by decide, k0 c0⟩
  by_cases c1 : p0.toInt = 2043
  · rw [c1]; exact ⟨80, by decide, k1 c1⟩
  by_cases c2 : p0.toInt = 2045
  · rw [c2]; exact ⟨80, by decide, k2 c2⟩
  by_cases c3 : p0.toInt = 2047
  · rw [c3]; exact ⟨78, by decide, k3 c3⟩
  by_cases c4 : p0.toInt = 2060
  · rw [c4]; exact ⟨82, by decide, k4 c4⟩
  by_cases c5 : p0.toInt = 2061
  · rw [c5]; exact ⟨82, by decide, k5 c5⟩
  by_cases c6 : p0.toInt = 2062
  · rw [c6]; exact ⟨82, by decide, k6 c6⟩
  by_cases c7 : p0.toInt = 3000
  · rw [c7]; exact ⟨76, by decide, k7 c7⟩
  have e : Op.lookupswitch.offset [(2042, 77), (2043, 79), (2045, 79), (2047, 77), (2060, 81), (2061, 81), (2062, 81), (3000, 75)] 83 p0.toInt = 83 := by simp [Op.lookupswitch.offset, Ne.symm c0, Ne.symm c1, Ne.symm c2, Ne.symm c3, Ne.symm c4, Ne.symm c5, Ne.symm c6, Ne.symm c7]
  exact ⟨84, by show (1 : Int) + Op.lookupswitch.offset [(2042, 77), (2043, 79), (2045, 79), (2047, 77), (2060, 81), (2061, 81), (2062, 81), (3000, 75)] 83 p0.toInt = _; rw [e]; decide, kd c0 c1 c2 c3 c4 c5 c6 c7⟩
theorem b51_76 {d : Nat} {P : xPr} {Q : xQr} {r : Nat} {mem : Nat → Nat → Int32} (hP : Cl d none 51 P Q) {v0 : Value}
    (k : Q (some (.int (nI 4))) (LAY, RFu r, mem)) : P 76 [v0] [] (0, 0) (LAY, RFu r, mem) := by
  refine r_iconst (v := nI 4) hP d51_76 rfl ?_
  exact r_iret hP d51_77 rfl k
theorem b51_78 {d : Nat} {P : xPr} {Q : xQr} {r : Nat} {mem : Nat → Nat → Int32} (hP : Cl d none 51 P Q) {v0 : Value}
    (k : Q (some (.int (nI 3))) (LAY, RFu r, mem)) : P 78 [v0] [] (0, 0) (LAY, RFu r, mem) := by
  refine r_iconst (v := nI 3) hP d51_78 rfl ?_
  exact r_iret hP d51_79 rfl k
theorem b51_80 {d : Nat} {P : xPr} {Q : xQr} {r : Nat} {mem : Nat → Nat → Int32} (hP : Cl d none 51 P Q) {v0 : Value}
    (k : Q (some (.int (nI 2))) (LAY, RFu r, mem)) : P 80 [v0] [] (0, 0) (LAY, RFu r, mem) := by
  refine r_iconst (v := nI 2) hP d51_80 rfl ?_
  exact r_iret hP d51_81 rfl k
theorem b51_82 {d : Nat} {P : xPr} {Q : xQr} {r : Nat} {mem : Nat → Nat → Int32} (hP : Cl d none 51 P Q) {v0 : Value}
    (k : Q (some (.int (nI 1))) (LAY, RFu r, mem)) : P 82 [v0] [] (0, 0) (LAY, RFu r, mem) := by
  refine r_iconst (v := nI 1) hP d51_82 rfl ?_
  exact r_iret hP d51_83 rfl k
theorem b51_84 {d : Nat} {P : xPr} {Q : xQr} {r : Nat} {mem : Nat → Nat → Int32} (hP : Cl d none 51 P Q) {v0 : Value}
    (k : Q (some (.int (nI 0))) (LAY, RFu r, mem)) : P 84 [v0] [] (0, 0) (LAY, RFu r, mem) := by
  refine r_iconst (v := nI 0) hP d51_84 rfl ?_
  exact r_iret hP d51_85 rfl k
