/-! blocks: X12_quarters, X12_undo, X12_in, X12_asks, X12_queue, X12_day, X12_need, X12_readAct, X12_will, X12_longest, X12_gave, X12_pair, X12_lend, X12_creditOf, X12_fewest, X12_settle, X12_least, X12_sitTogether, X12_together, X12_both, X12_often, X12_change, X12_swap, X12_exchange, X12_delay, X12_crowd, X12_calm, X12_standing, X12_more, X12_feast, X12_told, X12_forget, X12_isSo, X12_stolen, X12_even, X12_spares, X12_isAgain, X12_round, X12_keep, X12_again, X12_count, X12_row -/
theorem d195_0 : decode (xB 195) 0 = .ok (.aload_n 0, 1) := by decide +kernel
theorem d195_1 : decode (xB 195) 1 = .ok (.iconst 0, 1) := by decide +kernel
theorem d195_2 : decode (xB 195) 2 = .ok (.putfield 121, 3) := by decide +kernel
theorem d195_5 : decode (xB 195) 5 = .ok (.iload_n 1, 1) := by decide +kernel
theorem d195_6 : decode (xB 195) 6 = .ok (.iconst 0, 1) := by decide +kernel
theorem d195_7 : decode (xB 195) 7 = .ok (.sipush 200, 3) := by decide +kernel
theorem d195_10 : decode (xB 195) 10 = .ok (.invokestatic 130, 3) := by decide +kernel
theorem d195_13 : decode (xB 195) 13 = .ok (.ifCond .ne 5, 3) := by decide +kernel
theorem d195_16 : decode (xB 195) 16 = .ok (.iconst (-1), 1) := by decide +kernel
theorem d195_17 : decode (xB 195) 17 = .ok (.ireturn, 1) := by decide +kernel
theorem d195_18 : decode (xB 195) 18 = .ok (.iload_n 1, 1) := by decide +kernel
theorem d195_19 : decode (xB 195) 19 = .ok (.ifCond .le 77, 3) := by decide +kernel
theorem d195_22 : decode (xB 195) 22 = .ok (.aload_n 0, 1) := by decide +kernel
theorem d195_23 : decode (xB 195) 23 = .ok (.getfield 186, 3) := by decide +kernel
theorem d195_26 : decode (xB 195) 26 = .ok (.bipush 10, 2) := by decide +kernel
theorem d195_28 : decode (xB 195) 28 = .ok (.if_icmp .ne 43, 3) := by decide +kernel
theorem d195_31 : decode (xB 195) 31 = .ok (.iconst 0, 1) := by decide +kernel
theorem d195_32 : decode (xB 195) 32 = .ok (.istore_n 2, 1) := by decide +kernel
theorem d195_33 : decode (xB 195) 33 = .ok (.iload_n 2, 1) := by decide +kernel
theorem d195_34 : decode (xB 195) 34 = .ok (.sipush 1089, 3) := by decide +kernel
theorem d195_37 : decode (xB 195) 37 = .ok (.if_icmp .ge 24, 3) := by decide +kernel
theorem d195_40 : decode (xB 195) 40 = .ok (.aload_n 0, 1) := by decide +kernel
theorem d195_41 : decode (xB 195) 41 = .ok (.getfield 84, 3) := by decide +kernel
theorem d195_44 : decode (xB 195) 44 = .ok (.iload_n 2, 1) := by decide +kernel
theorem d195_45 : decode (xB 195) 45 = .ok (.aload_n 0, 1) := by decide +kernel
theorem d195_46 : decode (xB 195) 46 = .ok (.getfield 84, 3) := by decide +kernel
theorem d195_49 : decode (xB 195) 49 = .ok (.iload_n 2, 1) := by decide +kernel
theorem d195_50 : decode (xB 195) 50 = .ok (.bipush 121, 2) := by decide +kernel
theorem d195_52 : decode (xB 195) 52 = .ok (.iadd, 1) := by decide +kernel
theorem d195_53 : decode (xB 195) 53 = .ok (.iaload, 1) := by decide +kernel
theorem d195_54 : decode (xB 195) 54 = .ok (.iastore, 1) := by decide +kernel
theorem d195_55 : decode (xB 195) 55 = .ok (.iinc 2 1, 3) := by decide +kernel
theorem d195_58 : decode (xB 195) 58 = .ok (.goto (-25), 3) := by decide +kernel
theorem d195_61 : decode (xB 195) 61 = .ok (.aload_n 0, 1) := by decide +kernel
theorem d195_62 : decode (xB 195) 62 = .ok (.dup, 1) := by decide +kernel
theorem d195_63 : decode (xB 195) 63 = .ok (.getfield 186, 3) := by decide +kernel
theorem d195_66 : decode (xB 195) 66 = .ok (.iconst 1, 1) := by decide +kernel
theorem d195_67 : decode (xB 195) 67 = .ok (.isub, 1) := by decide +kernel
theorem d195_68 : decode (xB 195) 68 = .ok (.putfield 186, 3) := by decide +kernel
theorem d195_71 : decode (xB 195) 71 = .ok (.aload_n 0, 1) := by decide +kernel
theorem d195_72 : decode (xB 195) 72 = .ok (.aload_n 0, 1) := by decide +kernel
theorem d195_73 : decode (xB 195) 73 = .ok (.getfield 84, 3) := by decide +kernel
theorem d195_76 : decode (xB 195) 76 = .ok (.bipush 121, 2) := by decide +kernel
theorem d195_78 : decode (xB 195) 78 = .ok (.aload_n 0, 1) := by decide +kernel
theorem d195_79 : decode (xB 195) 79 = .ok (.getfield 186, 3) := by decide +kernel
theorem d195_82 : decode (xB 195) 82 = .ok (.imul, 1) := by decide +kernel
theorem d195_83 : decode (xB 195) 83 = .ok (.invokevirtual 245, 3) := by decide +kernel
theorem d195_86 : decode (xB 195) 86 = .ok (.aload_n 0, 1) := by decide +kernel
theorem d195_87 : decode (xB 195) 87 = .ok (.dup, 1) := by decide +kernel
theorem d195_88 : decode (xB 195) 88 = .ok (.getfield 186, 3) := by decide +kernel
theorem d195_91 : decode (xB 195) 91 = .ok (.iconst 1, 1) := by decide +kernel
theorem d195_92 : decode (xB 195) 92 = .ok (.iadd, 1) := by decide +kernel
theorem d195_93 : decode (xB 195) 93 = .ok (.putfield 186, 3) := by decide +kernel
theorem d195_96 : decode (xB 195) 96 = .ok (.aload_n 0, 1) := by decide +kernel
theorem d195_97 : decode (xB 195) 97 = .ok (.invokevirtual 249, 3) := by decide +kernel
theorem d195_100 : decode (xB 195) 100 = .ok (.istore_n 2, 1) := by decide +kernel
theorem d195_101 : decode (xB 195) 101 = .ok (.iconst 0, 1) := by decide +kernel
theorem d195_102 : decode (xB 195) 102 = .ok (.istore_n 3, 1) := by decide +kernel
theorem d195_103 : decode (xB 195) 103 = .ok (.iconst 0, 1) := by decide +kernel
theorem d195_104 : decode (xB 195) 104 = .ok (.istore 4, 2) := by decide +kernel
theorem d195_106 : decode (xB 195) 106 = .ok (.iload 4, 2) := by decide +kernel
theorem d195_108 : decode (xB 195) 108 = .ok (.iload_n 1, 1) := by decide +kernel
theorem d195_109 : decode (xB 195) 109 = .ok (.if_icmp .ge 16, 3) := by decide +kernel
theorem d195_112 : decode (xB 195) 112 = .ok (.iload_n 3, 1) := by decide +kernel
theorem d195_113 : decode (xB 195) 113 = .ok (.aload_n 0, 1) := by decide +kernel
theorem d195_114 : decode (xB 195) 114 = .ok (.invokevirtual 252, 3) := by decide +kernel
theorem d195_117 : decode (xB 195) 117 = .ok (.iadd, 1) := by decide +kernel
theorem d195_118 : decode (xB 195) 118 = .ok (.istore_n 3, 1) := by decide +kernel
theorem d195_119 : decode (xB 195) 119 = .ok (.iinc 4 1, 3) := by decide +kernel
theorem d195_122 : decode (xB 195) 122 = .ok (.goto (-16), 3) := by decide +kernel
theorem d195_125 : decode (xB 195) 125 = .ok (.iconst 0, 1) := by decide +kernel
theorem d195_126 : decode (xB 195) 126 = .ok (.istore 4, 2) := by decide +kernel
theorem d195_128 : decode (xB 195) 128 = .ok (.iconst 0, 1) := by decide +kernel
theorem d195_129 : decode (xB 195) 129 = .ok (.istore 5, 2) := by decide +kernel
theorem d195_131 : decode (xB 195) 131 = .ok (.iload 5, 2) := by decide +kernel
theorem d195_133 : decode (xB 195) 133 = .ok (.aload_n 0, 1) := by decide +kernel
theorem d195_134 : decode (xB 195) 134 = .ok (.getfield 127, 3) := by decide +kernel
theorem d195_137 : decode (xB 195) 137 = .ok (.if_icmp .ge 28, 3) := by decide +kernel
theorem d195_140 : decode (xB 195) 140 = .ok (.iload 4, 2) := by decide +kernel
theorem d195_142 : decode (xB 195) 142 = .ok (.aload_n 0, 1) := by decide +kernel
theorem d195_143 : decode (xB 195) 143 = .ok (.iload 5, 2) := by decide +kernel
theorem d195_145 : decode (xB 195) 145 = .ok (.invokevirtual 255, 3) := by decide +kernel
theorem d195_148 : decode (xB 195) 148 = .ok (.ifCond .eq 7, 3) := by decide +kernel
theorem d195_151 : decode (xB 195) 151 = .ok (.iconst 1, 1) := by decide +kernel
theorem d195_152 : decode (xB 195) 152 = .ok (.goto 4, 3) := by decide +kernel
theorem d195_155 : decode (xB 195) 155 = .ok (.iconst 0, 1) := by decide +kernel
theorem d195_156 : decode (xB 195) 156 = .ok (.iadd, 1) := by decide +kernel
theorem d195_157 : decode (xB 195) 157 = .ok (.istore 4, 2) := by decide +kernel
theorem d195_159 : decode (xB 195) 159 = .ok (.iinc 5 1, 3) := by decide +kernel
theorem d195_162 : decode (xB 195) 162 = .ok (.goto (-31), 3) := by decide +kernel
theorem d195_165 : decode (xB 195) 165 = .ok (.aload_n 0, 1) := by decide +kernel
theorem d195_166 : decode (xB 195) 166 = .ok (.iconst 0, 1) := by decide +kernel
theorem d195_167 : decode (xB 195) 167 = .ok (.putfield 124, 3) := by decide +kernel
theorem d195_170 : decode (xB 195) 170 = .ok (.aload_n 0, 1) := by decide +kernel
theorem d195_171 : decode (xB 195) 171 = .ok (.iload 4, 2) := by decide +kernel
theorem d195_173 : decode (xB 195) 173 = .ok (.invokevirtual 258, 3) := by decide +kernel
theorem d195_176 : decode (xB 195) 176 = .ok (.aload_n 0, 1) := by decide +kernel
theorem d195_177 : decode (xB 195) 177 = .ok (.aload_n 0, 1) := by decide +kernel
theorem d195_178 : decode (xB 195) 178 = .ok (.invokevirtual 249, 3) := by decide +kernel
theorem d195_181 : decode (xB 195) 181 = .ok (.iload_n 2, 1) := by decide +kernel
theorem d195_182 : decode (xB 195) 182 = .ok (.isub, 1) := by decide +kernel
theorem d195_183 : decode (xB 195) 183 = .ok (.invokevirtual 258, 3) := by decide +kernel
theorem d195_186 : decode (xB 195) 186 = .ok (.iload_n 3, 1) := by decide +kernel
theorem d195_187 : decode (xB 195) 187 = .ok (.ireturn, 1) := by decide +kernel
theorem b195_0 {d : Nat} {P : xPr} {Q : xQr} {r : Nat} {mem : Nat → Nat → Int32} (hP : Cl d none 195 P Q) {p0 : Int32}
    (k : xCall d 158 [.int p0, .int (nI 0), .int (nI 200)] (LAY, RFu r, xu2 mem 108 20 (nI 0)) (Bk P 10 [.ref 108, .int p0, .null, .null, .null, .null] [] (0, 0))) : P 0 [.ref 108, .int p0, .null, .null, .null, .null] [] (0, 0) (LAY, RFu r, mem) := by
  refine r_aload_n hP d195_0 rfl ?_
  refine r_iconst (v := nI 0) hP d195_1 rfl ?_
  refine r_puti hP d195_2 fr_12_121 rfl (fun q => by cases q) ly_108 ?_
  refine r_iload_n hP d195_5 rfl ?_
  refine r_iconst (v := nI 0) hP d195_6 rfl ?_
  refine r_sipush (v := nI 200) hP d195_7 rfl ?_
  exact r_calls (As := [.int p0, .int (nI 0), .int (nI 200)]) (S := []) hP d195_10 cr_12_130 (by decide +kernel) rfl (by simp [Value.category]) rfl (by simp [Value.category]) ⟨Nat.zero_le _, Nat.zero_le _⟩ k
theorem b195_13 {d : Nat} {P : xPr} {Q : xQr} {r : Nat} {mem : Nat → Nat → Int32} (hP : Cl d none 195 P Q) {x1 : Int32} {v2 : Value} {v3 : Value} {v4 : Value} {v5 : Value} {y0 : Int32}
    (kt : ¬ y0 = 0 → P 18 [.ref 108, .int x1, v2, v3, v4, v5] [] (0, 0) (LAY, RFu r, mem)) (kf : y0 = 0 → P 16 [.ref 108, .int x1, v2, v3, v4, v5] [] (0, 0) (LAY, RFu r, mem)) : P 13 [.ref 108, .int x1, v2, v3, v4, v5] [.int y0] (0, 0) (LAY, RFu r, mem) := by
  exact r_if (t := 18) hP d195_13 (by decide) kt (fun q => kf (Decidable.of_not_not q))
theorem b195_16 {d : Nat} {P : xPr} {Q : xQr} {r : Nat} {mem : Nat → Nat → Int32} (hP : Cl d none 195 P Q) {v0 : Value} {v1 : Value} {v2 : Value} {v3 : Value} {v4 : Value} {v5 : Value}
    (k : Q (some (.int (-1))) (LAY, RFu r, mem)) : P 16 [v0, v1, v2, v3, v4, v5] [] (0, 0) (LAY, RFu r, mem) := by
  refine r_iconst (v := (-1)) hP d195_16 rfl ?_
  exact r_iret hP d195_17 rfl k
theorem b195_18 {d : Nat} {P : xPr} {Q : xQr} {r : Nat} {mem : Nat → Nat → Int32} (hP : Cl d none 195 P Q) {x1 : Int32} {v2 : Value} {v3 : Value} {v4 : Value} {v5 : Value}
    (kt : x1 ≤ 0 → P 96 [.ref 108, .int x1, v2, v3, v4, v5] [] (0, 0) (LAY, RFu r, mem)) (kf : ¬ x1 ≤ 0 → P 22 [.ref 108, .int x1, v2, v3, v4, v5] [] (0, 0) (LAY, RFu r, mem)) : P 18 [.ref 108, .int x1, v2, v3, v4, v5] [] (0, 0) (LAY, RFu r, mem) := by
  refine r_iload_n hP d195_18 rfl ?_
  exact r_if (t := 96) hP d195_19 (by decide) kt kf
theorem b195_22 {d : Nat} {P : xPr} {Q : xQr} {r : Nat} {mem : Nat → Nat → Int32} (hP : Cl d none 195 P Q) {x1 : Int32} {v2 : Value} {v3 : Value} {v4 : Value} {v5 : Value}
    (kt : ¬ (mem 108 37) = (nI 10) → P 71 [.ref 108, .int x1, v2, v3, v4, v5] [] (0, 0) (LAY, RFu r, mem)) (kf : (mem 108 37) = (nI 10) → P 31 [.ref 108, .int x1, v2, v3, v4, v5] [] (0, 0) (LAY, RFu r, mem)) : P 22 [.ref 108, .int x1, v2, v3, v4, v5] [] (0, 0) (LAY, RFu r, mem) := by
  refine r_aload_n hP d195_22 rfl ?_
  refine r_geti hP d195_23 fr_12_186 rfl ly_108 ?_
  refine r_bipush (v := nI 10) hP d195_26 rfl ?_
  exact r_icmp (t := 71) hP d195_28 (by decide) kt (fun q => kf (Decidable.of_not_not q))
theorem b195_31 {d : Nat} {P : xPr} {Q : xQr} {r : Nat} {mem : Nat → Nat → Int32} (hP : Cl d none 195 P Q) {x1 : Int32} {v2 : Value} {v3 : Value} {v4 : Value} {v5 : Value}
    (k : P 33 [.ref 108, .int x1, .int (nI 0), v3, v4, v5] [] (0, 0) (LAY, RFu r, mem)) : P 31 [.ref 108, .int x1, v2, v3, v4, v5] [] (0, 0) (LAY, RFu r, mem) := by
  refine r_iconst (v := nI 0) hP d195_31 rfl ?_
  refine r_istore_n (L' := [.ref 108, .int x1, .int (nI 0), v3, v4, v5]) hP d195_32 (Nat.le_of_ble_eq_true rfl) rfl ?_
  exact k
theorem b195_33 {d : Nat} {P : xPr} {Q : xQr} {r : Nat} {mem : Nat → Nat → Int32} (hP : Cl d none 195 P Q) {x1 : Int32} {x2 : Int32} {v3 : Value} {v4 : Value} {v5 : Value}
    (kt : (nI 1089) ≤ x2 → P 61 [.ref 108, .int x1, .int x2, v3, v4, v5] [] (0, 0) (LAY, RFu r, mem)) (kf : ¬ (nI 1089) ≤ x2 → P 40 [.ref 108, .int x1, .int x2, v3, v4, v5] [] (0, 0) (LAY, RFu r, mem)) : P 33 [.ref 108, .int x1, .int x2, v3, v4, v5] [] (0, 0) (LAY, RFu r, mem) := by
  refine r_iload_n hP d195_33 rfl ?_
  refine r_sipush (v := nI 1089) hP d195_34 rfl ?_
  exact r_icmp (t := 61) hP d195_37 (by decide) kt kf
theorem b195_40 {d : Nat} {P : xPr} {Q : xQr} {r : Nat} {mem : Nat → Nat → Int32} (hP : Cl d none 195 P Q) {x1 : Int32} {x2 : Int32} {v3 : Value} {v4 : Value} {v5 : Value} (hi53 : vp_in (x2 + (nI 121)) 1210) (hi54 : vp_in x2 1210)
    (k : P 33 [.ref 108, .int x1, .int (x2 + nI 1), v3, v4, v5] [] (0, 0) (LAY, RFu r, xu2 mem 132 x2.toNatClampNeg (mem 132 (x2 + (nI 121)).toNatClampNeg))) : P 40 [.ref 108, .int x1, .int x2, v3, v4, v5] [] (0, 0) (LAY, RFu r, mem) := by
  refine r_aload_n hP d195_40 rfl ?_
  refine r_getr (a := 132) hP d195_41 fr_12_84 rfl ly_108 rg_108_36 ?_
  refine r_iload_n hP d195_44 rfl ?_
  refine r_aload_n hP d195_45 rfl ?_
  refine r_getr (a := 132) hP d195_46 fr_12_84 rfl ly_108 rg_108_36 ?_
  refine r_iload_n hP d195_49 rfl ?_
  refine r_bipush (v := nI 121) hP d195_50 rfl ?_
  refine r_iadd hP d195_52 ?_
  refine r_iaload hP d195_53 ly_132 hi53 ?_
  refine r_iastore hP d195_54 ly_132 hi54 ?_
  refine r_iinc (v := nI 1) (L' := [.ref 108, .int x1, .int (x2 + nI 1), v3, v4, v5]) hP d195_55 rfl rfl rfl ?_
  refine r_goto (t := 33) hP d195_58 (by decide) ?_
  exact k
theorem b195_61 {d : Nat} {P : xPr} {Q : xQr} {r : Nat} {mem : Nat → Nat → Int32} (hP : Cl d none 195 P Q) {x1 : Int32} {v2 : Value} {v3 : Value} {v4 : Value} {v5 : Value}
    (k : P 71 [.ref 108, .int x1, v2, v3, v4, v5] [] (0, 0) (LAY, RFu r, xu2 mem 108 37 ((mem 108 37) - (nI 1)))) : P 61 [.ref 108, .int x1, v2, v3, v4, v5] [] (0, 0) (LAY, RFu r, mem) := by
  refine r_aload_n hP d195_61 rfl ?_
  refine r_dup hP d195_62 rfl ?_
  refine r_geti hP d195_63 fr_12_186 rfl ly_108 ?_
  refine r_iconst (v := nI 1) hP d195_66 rfl ?_
  refine r_isub hP d195_67 ?_
  refine r_puti hP d195_68 fr_12_186 rfl (fun q => by cases q) ly_108 ?_
  exact k
theorem b195_71 {d : Nat} {P : xPr} {Q : xQr} {r : Nat} {mem : Nat → Nat → Int32} (hP : Cl d none 195 P Q) {x1 : Int32} {v2 : Value} {v3 : Value} {v4 : Value} {v5 : Value}
    (k : xCall d 191 [.ref 108, .ref 132, .int ((nI 121) * (mem 108 37))] (LAY, RFu r, mem) (Bk P 83 [.ref 108, .int x1, v2, v3, v4, v5] [] (0, 0))) : P 71 [.ref 108, .int x1, v2, v3, v4, v5] [] (0, 0) (LAY, RFu r, mem) := by
  refine r_aload_n hP d195_71 rfl ?_
  refine r_aload_n hP d195_72 rfl ?_
  refine r_getr (a := 132) hP d195_73 fr_12_84 rfl ly_108 rg_108_36 ?_
  refine r_bipush (v := nI 121) hP d195_76 rfl ?_
  refine r_aload_n hP d195_78 rfl ?_
  refine r_geti hP d195_79 fr_12_186 rfl ly_108 ?_
  refine r_imul hP d195_82 ?_
  exact r_callv (As := [.ref 132, .int ((nI 121) * (mem 108 37))]) (S := []) hP d195_83 cr_12_245 (by decide +kernel) rfl (by simp [Value.category]) rfl ly_108 (by simp [Value.category]) ⟨Nat.zero_le _, Nat.zero_le _⟩ k
theorem b195_86 {d : Nat} {P : xPr} {Q : xQr} {r : Nat} {mem : Nat → Nat → Int32} (hP : Cl d none 195 P Q) {x1 : Int32} {v2 : Value} {v3 : Value} {v4 : Value} {v5 : Value}
    (k : P 96 [.ref 108, .int x1, v2, v3, v4, v5] [] (0, 0) (LAY, RFu r, xu2 mem 108 37 ((mem 108 37) + (nI 1)))) : P 86 [.ref 108, .int x1, v2, v3, v4, v5] [] (0, 0) (LAY, RFu r, mem) := by
  refine r_aload_n hP d195_86 rfl ?_
  refine r_dup hP d195_87 rfl ?_
  refine r_geti hP d195_88 fr_12_186 rfl ly_108 ?_
  refine r_iconst (v := nI 1) hP d195_91 rfl ?_
  refine r_iadd hP d195_92 ?_
  refine r_puti hP d195_93 fr_12_186 rfl (fun q => by cases q) ly_108 ?_
  exact k
theorem b195_96 {d : Nat} {P : xPr} {Q : xQr} {r : Nat} {mem : Nat → Nat → Int32} (hP : Cl d none 195 P Q) {x1 : Int32} {v2 : Value} {v3 : Value} {v4 : Value} {v5 : Value}
    (k : xCall d 194 [.ref 108] (LAY, RFu r, mem) (Bk P 97 [.ref 108, .int x1, v2, v3, v4, v5] [] (0, 0))) : P 96 [.ref 108, .int x1, v2, v3, v4, v5] [] (0, 0) (LAY, RFu r, mem) := by
  refine r_aload_n hP d195_96 rfl ?_
  exact r_callv (As := []) (S := []) hP d195_97 cr_12_249 (by decide +kernel) rfl (by simp) rfl ly_108 (by simp [Value.category]) ⟨Nat.zero_le _, Nat.zero_le _⟩ k
theorem b195_100 {d : Nat} {P : xPr} {Q : xQr} {r : Nat} {mem : Nat → Nat → Int32} (hP : Cl d none 195 P Q) {x1 : Int32} {v2 : Value} {v3 : Value} {v4 : Value} {v5 : Value} {y0 : Int32}
    (k : P 106 [.ref 108, .int x1, .int y0, .int (nI 0), .int (nI 0), v5] [] (0, 0) (LAY, RFu r, mem)) : P 100 [.ref 108, .int x1, v2, v3, v4, v5] [.int y0] (0, 0) (LAY, RFu r, mem) := by
  refine r_istore_n (L' := [.ref 108, .int x1, .int y0, v3, v4, v5]) hP d195_100 (Nat.le_of_ble_eq_true rfl) rfl ?_
  refine r_iconst (v := nI 0) hP d195_101 rfl ?_
  refine r_istore_n (L' := [.ref 108, .int x1, .int y0, .int (nI 0), v4, v5]) hP d195_102 (Nat.le_of_ble_eq_true rfl) rfl ?_
  refine r_iconst (v := nI 0) hP d195_103 rfl ?_
  refine r_istore (L' := [.ref 108, .int x1, .int y0, .int (nI 0), .int (nI 0), v5]) hP d195_104 (Nat.le_of_ble_eq_true rfl) rfl ?_
  exact k
theorem b195_106 {d : Nat} {P : xPr} {Q : xQr} {r : Nat} {mem : Nat → Nat → Int32} (hP : Cl d none 195 P Q) {x1 : Int32} {x2 : Int32} {x3 : Int32} {x4 : Int32} {v5 : Value}
    (kt : x1 ≤ x4 → P 125 [.ref 108, .int x1, .int x2, .int x3, .int x4, v5] [] (0, 0) (LAY, RFu r, mem)) (kf : ¬ x1 ≤ x4 → P 112 [.ref 108, .int x1, .int x2, .int x3, .int x4, v5] [] (0, 0) (LAY, RFu r, mem)) : P 106 [.ref 108, .int x1, .int x2, .int x3, .int x4, v5] [] (0, 0) (LAY, RFu r, mem) := by
  refine r_iload hP d195_106 rfl ?_
  refine r_iload_n hP d195_108 rfl ?_
  exact r_icmp (t := 125) hP d195_109 (by decide) kt kf
theorem b195_112 {d : Nat} {P : xPr} {Q : xQr} {r : Nat} {mem : Nat → Nat → Int32} (hP : Cl d none 195 P Q) {x1 : Int32} {x2 : Int32} {x3 : Int32} {x4 : Int32} {v5 : Value}
    (k : xCall d 190 [.ref 108] (LAY, RFu r, mem) (Bk P 114 [.ref 108, .int x1, .int x2, .int x3, .int x4, v5] [.int x3] (0, 0))) : P 112 [.ref 108, .int x1, .int x2, .int x3, .int x4, v5] [] (0, 0) (LAY, RFu r, mem) := by
  refine r_iload_n hP d195_112 rfl ?_
  refine r_aload_n hP d195_113 rfl ?_
  exact r_callv (As := []) (S := [.int x3]) hP d195_114 cr_12_252 (by decide +kernel) rfl (by simp) rfl ly_108 (by simp [Value.category]) ⟨Nat.zero_le _, Nat.zero_le _⟩ k
theorem b195_117 {d : Nat} {P : xPr} {Q : xQr} {r : Nat} {mem : Nat → Nat → Int32} (hP : Cl d none 195 P Q) {x1 : Int32} {x2 : Int32} {v3 : Value} {x4 : Int32} {v5 : Value} {y0 : Int32} {y1 : Int32}
    (k : P 106 [.ref 108, .int x1, .int x2, .int (y0 + y1), .int (x4 + nI 1), v5] [] (0, 0) (LAY, RFu r, mem)) : P 117 [.ref 108, .int x1, .int x2, v3, .int x4, v5] [.int y1, .int y0] (0, 0) (LAY, RFu r, mem) := by
  refine r_iadd hP d195_117 ?_
  refine r_istore_n (L' := [.ref 108, .int x1, .int x2, .int (y0 + y1), .int x4, v5]) hP d195_118 (Nat.le_of_ble_eq_true rfl) rfl ?_
  refine r_iinc (v := nI 1) (L' := [.ref 108, .int x1, .int x2, .int (y0 + y1), .int (x4 + nI 1), v5]) hP d195_119 rfl rfl rfl ?_
  refine r_goto (t := 106) hP d195_122 (by decide) ?_
  exact k
theorem b195_125 {d : Nat} {P : xPr} {Q : xQr} {r : Nat} {mem : Nat → Nat → Int32} (hP : Cl d none 195 P Q) {v1 : Value} {x2 : Int32} {x3 : Int32} {v4 : Value} {v5 : Value}
    (k : P 131 [.ref 108, v1, .int x2, .int x3, .int (nI 0), .int (nI 0)] [] (0, 0) (LAY, RFu r, mem)) : P 125 [.ref 108, v1, .int x2, .int x3, v4, v5] [] (0, 0) (LAY, RFu r, mem) := by
  refine r_iconst (v := nI 0) hP d195_125 rfl ?_
  refine r_istore (L' := [.ref 108, v1, .int x2, .int x3, .int (nI 0), v5]) hP d195_126 (Nat.le_of_ble_eq_true rfl) rfl ?_
  refine r_iconst (v := nI 0) hP d195_128 rfl ?_
  refine r_istore (L' := [.ref 108, v1, .int x2, .int x3, .int (nI 0), .int (nI 0)]) hP d195_129 (Nat.le_of_ble_eq_true rfl) rfl ?_
  exact k
theorem b195_131 {d : Nat} {P : xPr} {Q : xQr} {r : Nat} {mem : Nat → Nat → Int32} (hP : Cl d none 195 P Q) {v1 : Value} {x2 : Int32} {x3 : Int32} {x4 : Int32} {x5 : Int32}
    (kt : (mem 108 2) ≤ x5 → P 165 [.ref 108, v1, .int x2, .int x3, .int x4, .int x5] [] (0, 0) (LAY, RFu r, mem)) (kf : ¬ (mem 108 2) ≤ x5 → P 140 [.ref 108, v1, .int x2, .int x3, .int x4, .int x5] [] (0, 0) (LAY, RFu r, mem)) : P 131 [.ref 108, v1, .int x2, .int x3, .int x4, .int x5] [] (0, 0) (LAY, RFu r, mem) := by
  refine r_iload hP d195_131 rfl ?_
  refine r_aload_n hP d195_133 rfl ?_
  refine r_geti hP d195_134 fr_12_127 rfl ly_108 ?_
  exact r_icmp (t := 165) hP d195_137 (by decide) kt kf
theorem b195_140 {d : Nat} {P : xPr} {Q : xQr} {r : Nat} {mem : Nat → Nat → Int32} (hP : Cl d none 195 P Q) {v1 : Value} {x2 : Int32} {x3 : Int32} {x4 : Int32} {x5 : Int32}
    (k : xCall d 193 [.ref 108, .int x5] (LAY, RFu r, mem) (Bk P 145 [.ref 108, v1, .int x2, .int x3, .int x4, .int x5] [.int x4] (0, 0))) : P 140 [.ref 108, v1, .int x2, .int x3, .int x4, .int x5] [] (0, 0) (LAY, RFu r, mem) := by
  refine r_iload hP d195_140 rfl ?_
  refine r_aload_n hP d195_142 rfl ?_
  refine r_iload hP d195_143 rfl ?_
  exact r_callv (As := [.int x5]) (S := [.int x4]) hP d195_145 cr_12_255 (by decide +kernel) rfl (by simp [Value.category]) rfl ly_108 (by simp [Value.category]) ⟨Nat.zero_le _, Nat.zero_le _⟩ k
theorem b195_148 {d : Nat} {P : xPr} {Q : xQr} {r : Nat} {mem : Nat → Nat → Int32} (hP : Cl d none 195 P Q) {v1 : Value} {x2 : Int32} {x3 : Int32} {v4 : Value} {x5 : Int32} {y0 : Int32} {y1 : Int32}
    (kt : y1 = 0 → P 155 [.ref 108, v1, .int x2, .int x3, v4, .int x5] [.int y0] (0, 0) (LAY, RFu r, mem)) (kf : ¬ y1 = 0 → P 151 [.ref 108, v1, .int x2, .int x3, v4, .int x5] [.int y0] (0, 0) (LAY, RFu r, mem)) : P 148 [.ref 108, v1, .int x2, .int x3, v4, .int x5] [.int y1, .int y0] (0, 0) (LAY, RFu r, mem) := by
  exact r_if (t := 155) hP d195_148 (by decide) kt kf
theorem b195_151 {d : Nat} {P : xPr} {Q : xQr} {r : Nat} {mem : Nat → Nat → Int32} (hP : Cl d none 195 P Q) {v1 : Value} {x2 : Int32} {x3 : Int32} {v4 : Value} {x5 : Int32} {y0 : Int32}
    (k : P 156 [.ref 108, v1, .int x2, .int x3, v4, .int x5] [.int (nI 1), .int y0] (0, 0) (LAY, RFu r, mem)) : P 151 [.ref 108, v1, .int x2, .int x3, v4, .int x5] [.int y0] (0, 0) (LAY, RFu r, mem) := by
  refine r_iconst (v := nI 1) hP d195_151 rfl ?_
  refine r_goto (t := 156) hP d195_152 (by decide) ?_
  exact k
theorem b195_155 {d : Nat} {P : xPr} {Q : xQr} {r : Nat} {mem : Nat → Nat → Int32} (hP : Cl d none 195 P Q) {v1 : Value} {x2 : Int32} {x3 : Int32} {v4 : Value} {x5 : Int32} {y0 : Int32}
    (k : P 156 [.ref 108, v1, .int x2, .int x3, v4, .int x5] [.int (nI 0), .int y0] (0, 0) (LAY, RFu r, mem)) : P 155 [.ref 108, v1, .int x2, .int x3, v4, .int x5] [.int y0] (0, 0) (LAY, RFu r, mem) := by
  refine r_iconst (v := nI 0) hP d195_155 rfl ?_
  exact k
theorem b195_156 {d : Nat} {P : xPr} {Q : xQr} {r : Nat} {mem : Nat → Nat → Int32} (hP : Cl d none 195 P Q) {v1 : Value} {x2 : Int32} {x3 : Int32} {v4 : Value} {x5 : Int32} {y0 : Int32} {y1 : Int32}
    (k : P 131 [.ref 108, v1, .int x2, .int x3, .int (y0 + y1), .int (x5 + nI 1)] [] (0, 0) (LAY, RFu r, mem)) : P 156 [.ref 108, v1, .int x2, .int x3, v4, .int x5] [.int y1, .int y0] (0, 0) (LAY, RFu r, mem) := by
  refine r_iadd hP d195_156 ?_
  refine r_istore (L' := [.ref 108, v1, .int x2, .int x3, .int (y0 + y1), .int x5]) hP d195_157 (Nat.le_of_ble_eq_true rfl) rfl ?_
  refine r_iinc (v := nI 1) (L' := [.ref 108, v1, .int x2, .int x3, .int (y0 + y1), .int (x5 + nI 1)]) hP d195_159 rfl rfl rfl ?_
  refine r_goto (t := 131) hP d195_162 (by decide) ?_
  exact k
theorem b195_165 {d : Nat} {P : xPr} {Q : xQr} {r : Nat} {mem : Nat → Nat → Int32} (hP : Cl d none 195 P Q) {v1 : Value} {x2 : Int32} {x3 : Int32} {x4 : Int32} {v5 : Value}
    (k : xCall d 161 [.ref 108, .int x4] (LAY, RFu r, xu2 mem 108 19 (nI 0)) (Bk P 173 [.ref 108, v1, .int x2, .int x3, .int x4, v5] [] (0, 0))) : P 165 [.ref 108, v1, .int x2, .int x3, .int x4, v5] [] (0, 0) (LAY, RFu r, mem) := by
  refine r_aload_n hP d195_165 rfl ?_
  refine r_iconst (v := nI 0) hP d195_166 rfl ?_
  refine r_puti hP d195_167 fr_12_124 rfl (fun q => by cases q) ly_108 ?_
  refine r_aload_n hP d195_170 rfl ?_
  refine r_iload hP d195_171 rfl ?_
  exact r_callv (As := [.int x4]) (S := []) hP d195_173 cr_12_258 (by decide +kernel) rfl (by simp [Value.category]) rfl ly_108 (by simp [Value.category]) ⟨Nat.zero_le _, Nat.zero_le _⟩ k
theorem b195_176 {d : Nat} {P : xPr} {Q : xQr} {r : Nat} {mem : Nat → Nat → Int32} (hP : Cl d none 195 P Q) {v1 : Value} {x2 : Int32} {x3 : Int32} {v4 : Value} {v5 : Value}
    (k : xCall d 194 [.ref 108] (LAY, RFu r, mem) (Bk P 178 [.ref 108, v1, .int x2, .int x3, v4, v5] [.ref 108] (0, 0))) : P 176 [.ref 108, v1, .int x2, .int x3, v4, v5] [] (0, 0) (LAY, RFu r, mem) := by
  refine r_aload_n hP d195_176 rfl ?_
  refine r_aload_n hP d195_177 rfl ?_
  exact r_callv (As := []) (S := [.ref 108]) hP d195_178 cr_12_249 (by decide +kernel) rfl (by simp) rfl ly_108 (by simp [Value.category]) ⟨Nat.zero_le _, Nat.zero_le _⟩ k
theorem b195_181 {d : Nat} {P : xPr} {Q : xQr} {r : Nat} {mem : Nat → Nat → Int32} (hP : Cl d none 195 P Q) {v0 : Value} {v1 : Value} {x2 : Int32} {x3 : Int32} {v4 : Value} {v5 : Value} {y1 : Int32}
    (k : xCall d 161 [.ref 108, .int (y1 - x2)] (LAY, RFu r, mem) (Bk P 183 [v0, v1, .int x2, .int x3, v4, v5] [] (0, 0))) : P 181 [v0, v1, .int x2, .int x3, v4, v5] [.int y1, .ref 108] (0, 0) (LAY, RFu r, mem) := by
  refine r_iload_n hP d195_181 rfl ?_
  refine r_isub hP d195_182 ?_
  exact r_callv (As := [.int (y1 - x2)]) (S := []) hP d195_183 cr_12_258 (by decide +kernel) rfl (by simp [Value.category]) rfl ly_108 (by simp [Value.category]) ⟨Nat.zero_le _, Nat.zero_le _⟩ k
theorem b195_186 {d : Nat} {P : xPr} {Q : xQr} {r : Nat} {mem : Nat → Nat → Int32} (hP : Cl d none 195 P Q) {v0 : Value} {v1 : Value} {v2 : Value} {x3 : Int32} {v4 : Value} {v5 : Value}
    (k : Q (some (.int x3)) (LAY, RFu r, mem)) : P 186 [v0, v1, v2, .int x3, v4, v5] [] (0, 0) (LAY, RFu r, mem) := by
  refine r_iload_n hP d195_186 rfl ?_
  exact r_iret hP d195_187 rfl k
theorem d196_0 : decode (xB 196) 0 = .ok (.aload_n 0, 1) := by decide +kernel
theorem d196_1 : decode (xB 196) 1 = .ok (.iconst 0, 1) := by decide +kernel
theorem d196_2 : decode (xB 196) 2 = .ok (.putfield 121, 3) := by decide +kernel
theorem d196_5 : decode (xB 196) 5 = .ok (.aload_n 0, 1) := by decide +kernel
theorem d196_6 : decode (xB 196) 6 = .ok (.getfield 186, 3) := by decide +kernel
theorem d196_9 : decode (xB 196) 9 = .ok (.ifCond .ne 5, 3) := by decide +kernel
theorem d196_12 : decode (xB 196) 12 = .ok (.iconst (-1), 1) := by decide +kernel
theorem d196_13 : decode (xB 196) 13 = .ok (.ireturn, 1) := by decide +kernel
theorem d196_14 : decode (xB 196) 14 = .ok (.aload_n 0, 1) := by decide +kernel
theorem d196_15 : decode (xB 196) 15 = .ok (.dup, 1) := by decide +kernel
theorem d196_16 : decode (xB 196) 16 = .ok (.getfield 186, 3) := by decide +kernel
theorem d196_19 : decode (xB 196) 19 = .ok (.iconst 1, 1) := by decide +kernel
theorem d196_20 : decode (xB 196) 20 = .ok (.isub, 1) := by decide +kernel
theorem d196_21 : decode (xB 196) 21 = .ok (.putfield 186, 3) := by decide +kernel
theorem d196_24 : decode (xB 196) 24 = .ok (.aload_n 0, 1) := by decide +kernel
theorem d196_25 : decode (xB 196) 25 = .ok (.aload_n 0, 1) := by decide +kernel
theorem d196_26 : decode (xB 196) 26 = .ok (.getfield 84, 3) := by decide +kernel
theorem d196_29 : decode (xB 196) 29 = .ok (.bipush 121, 2) := by decide +kernel
theorem d196_31 : decode (xB 196) 31 = .ok (.aload_n 0, 1) := by decide +kernel
theorem d196_32 : decode (xB 196) 32 = .ok (.getfield 186, 3) := by decide +kernel
theorem d196_35 : decode (xB 196) 35 = .ok (.imul, 1) := by decide +kernel
theorem d196_36 : decode (xB 196) 36 = .ok (.invokevirtual 261, 3) := by decide +kernel
theorem d196_39 : decode (xB 196) 39 = .ok (.aload_n 0, 1) := by decide +kernel
theorem d196_40 : decode (xB 196) 40 = .ok (.getfield 186, 3) := by decide +kernel
theorem d196_43 : decode (xB 196) 43 = .ok (.ireturn, 1) := by decide +kernel
theorem b196_0 {d : Nat} {P : xPr} {Q : xQr} {r : Nat} {mem : Nat → Nat → Int32} (hP : Cl d none 196 P Q)
    (kt : ¬ ((xu2 mem 108 20 (nI 0)) 108 37) = 0 → P 14 [.ref 108] [] (0, 0) (LAY, RFu r, xu2 mem 108 20 (nI 0))) (kf : ((xu2 mem 108 20 (nI 0)) 108 37) = 0 → P 12 [.ref 108] [] (0, 0) (LAY, RFu r, xu2 mem 108 20 (nI 0))) : P 0 [.ref 108] [] (0, 0) (LAY, RFu r, mem) := by
  refine r_aload_n hP d196_0 rfl ?_
  refine r_iconst (v := nI 0) hP d196_1 rfl ?_
  refine r_puti hP d196_2 fr_12_121 rfl (fun q => by cases q) ly_108 ?_
  refine r_aload_n hP d196_5 rfl ?_
  refine r_geti hP d196_6 fr_12_186 rfl ly_108 ?_
  exact r_if (t := 14) hP d196_9 (by decide) kt (fun q => kf (Decidable.of_not_not q))
theorem b196_12 {d : Nat} {P : xPr} {Q : xQr} {r : Nat} {mem : Nat → Nat → Int32} (hP : Cl d none 196 P Q) {v0 : Value}
    (k : Q (some (.int (-1))) (LAY, RFu r, mem)) : P 12 [v0] [] (0, 0) (LAY, RFu r, mem) := by
  refine r_iconst (v := (-1)) hP d196_12 rfl ?_
  exact r_iret hP d196_13 rfl k
theorem b196_14 {d : Nat} {P : xPr} {Q : xQr} {r : Nat} {mem : Nat → Nat → Int32} (hP : Cl d none 196 P Q)
    (k : xCall d 192 [.ref 108, .ref 132, .int ((nI 121) * ((xu2 mem 108 37 ((mem 108 37) - (nI 1))) 108 37))] (LAY, RFu r, xu2 mem 108 37 ((mem 108 37) - (nI 1))) (Bk P 36 [.ref 108] [] (0, 0))) : P 14 [.ref 108] [] (0, 0) (LAY, RFu r, mem) := by
  refine r_aload_n hP d196_14 rfl ?_
  refine r_dup hP d196_15 rfl ?_
  refine r_geti hP d196_16 fr_12_186 rfl ly_108 ?_
  refine r_iconst (v := nI 1) hP d196_19 rfl ?_
  refine r_isub hP d196_20 ?_
  refine r_puti hP d196_21 fr_12_186 rfl (fun q => by cases q) ly_108 ?_
  refine r_aload_n hP d196_24 rfl ?_
  refine r_aload_n hP d196_25 rfl ?_
  refine r_getr (a := 132) hP d196_26 fr_12_84 rfl ly_108 rg_108_36 ?_
  refine r_bipush (v := nI 121) hP d196_29 rfl ?_
  refine r_aload_n hP d196_31 rfl ?_
  refine r_geti hP d196_32 fr_12_186 rfl ly_108 ?_
  refine r_imul hP d196_35 ?_
  exact r_callv (As := [.ref 132, .int ((nI 121) * ((xu2 mem 108 37 ((mem 108 37) - (nI 1))) 108 37))]) (S := []) hP d196_36 cr_12_261 (by decide +kernel) rfl (by simp [Value.category]) rfl ly_108 (by simp [Value.category]) ⟨Nat.zero_le _, Nat.zero_le _⟩ k
theorem b196_39 {d : Nat} {P : xPr} {Q : xQr} {r : Nat} {mem : Nat → Nat → Int32} (hP : Cl d none 196 P Q)
    (k : Q (some (.int (mem 108 37))) (LAY, RFu r, mem)) : P 39 [.ref 108] [] (0, 0) (LAY, RFu r, mem) := by
  refine r_aload_n hP d196_39 rfl ?_
  refine r_geti hP d196_40 fr_12_186 rfl ly_108 ?_
  exact r_iret hP d196_43 rfl k
theorem d197_0 : decode (xB 197) 0 = .ok (.aload_n 0, 1) := by decide +kernel
theorem d197_1 : decode (xB 197) 1 = .ok (.iconst 0, 1) := by decide +kernel
theorem d197_2 : decode (xB 197) 2 = .ok (.putfield 121, 3) := by decide +kernel
theorem d197_5 : decode (xB 197) 5 = .ok (.aload_n 0, 1) := by decide +kernel
theorem d197_6 : decode (xB 197) 6 = .ok (.iload_n 1, 1) := by decide +kernel
theorem d197_7 : decode (xB 197) 7 = .ok (.invokevirtual 214, 3) := by decide +kernel
theorem d197_10 : decode (xB 197) 10 = .ok (.ifCond .ne 5, 3) := by decide +kernel
theorem d197_13 : decode (xB 197) 13 = .ok (.iconst (-1), 1) := by decide +kernel
theorem d197_14 : decode (xB 197) 14 = .ok (.ireturn, 1) := by decide +kernel
theorem d197_15 : decode (xB 197) 15 = .ok (.iconst 0, 1) := by decide +kernel
theorem d197_16 : decode (xB 197) 16 = .ok (.istore_n 2, 1) := by decide +kernel
theorem d197_17 : decode (xB 197) 17 = .ok (.iconst 0, 1) := by decide +kernel
theorem d197_18 : decode (xB 197) 18 = .ok (.istore_n 3, 1) := by decide +kernel
theorem d197_19 : decode (xB 197) 19 = .ok (.iconst 0, 1) := by decide +kernel
theorem d197_20 : decode (xB 197) 20 = .ok (.istore 4, 2) := by decide +kernel
theorem d197_22 : decode (xB 197) 22 = .ok (.iload 4, 2) := by decide +kernel
theorem d197_24 : decode (xB 197) 24 = .ok (.aload_n 0, 1) := by decide +kernel
theorem d197_25 : decode (xB 197) 25 = .ok (.getfield 127, 3) := by decide +kernel
theorem d197_28 : decode (xB 197) 28 = .ok (.if_icmp .ge 43, 3) := by decide +kernel
theorem d197_31 : decode (xB 197) 31 = .ok (.aload_n 0, 1) := by decide +kernel
theorem d197_32 : decode (xB 197) 32 = .ok (.getfield 26, 3) := by decide +kernel
theorem d197_35 : decode (xB 197) 35 = .ok (.iload 4, 2) := by decide +kernel
theorem d197_37 : decode (xB 197) 37 = .ok (.iaload, 1) := by decide +kernel
theorem d197_38 : decode (xB 197) 38 = .ok (.iload_n 1, 1) := by decide +kernel
theorem d197_39 : decode (xB 197) 39 = .ok (.if_icmp .eq 6, 3) := by decide +kernel
theorem d197_42 : decode (xB 197) 42 = .ok (.goto 23, 3) := by decide +kernel
theorem d197_45 : decode (xB 197) 45 = .ok (.iload_n 2, 1) := by decide +kernel
theorem d197_46 : decode (xB 197) 46 = .ok (.iconst 1, 1) := by decide +kernel
theorem d197_47 : decode (xB 197) 47 = .ok (.iload 4, 2) := by decide +kernel
theorem d197_49 : decode (xB 197) 49 = .ok (.ishl, 1) := by decide +kernel
theorem d197_50 : decode (xB 197) 50 = .ok (.ior, 1) := by decide +kernel
theorem d197_51 : decode (xB 197) 51 = .ok (.istore_n 2, 1) := by decide +kernel
theorem d197_52 : decode (xB 197) 52 = .ok (.iload_n 3, 1) := by decide +kernel
theorem d197_53 : decode (xB 197) 53 = .ok (.aload_n 0, 1) := by decide +kernel
theorem d197_54 : decode (xB 197) 54 = .ok (.getfield 29, 3) := by decide +kernel
theorem d197_57 : decode (xB 197) 57 = .ok (.iload 4, 2) := by decide +kernel
theorem d197_59 : decode (xB 197) 59 = .ok (.iaload, 1) := by decide +kernel
theorem d197_60 : decode (xB 197) 60 = .ok (.iload 4, 2) := by decide +kernel
theorem d197_62 : decode (xB 197) 62 = .ok (.ishl, 1) := by decide +kernel
theorem d197_63 : decode (xB 197) 63 = .ok (.ior, 1) := by decide +kernel
theorem d197_64 : decode (xB 197) 64 = .ok (.istore_n 3, 1) := by decide +kernel
theorem d197_65 : decode (xB 197) 65 = .ok (.iinc 4 1, 3) := by decide +kernel
theorem d197_68 : decode (xB 197) 68 = .ok (.goto (-46), 3) := by decide +kernel
theorem d197_71 : decode (xB 197) 71 = .ok (.aload_n 0, 1) := by decide +kernel
theorem d197_72 : decode (xB 197) 72 = .ok (.iconst 0, 1) := by decide +kernel
theorem d197_73 : decode (xB 197) 73 = .ok (.putfield 124, 3) := by decide +kernel
theorem d197_76 : decode (xB 197) 76 = .ok (.aload_n 0, 1) := by decide +kernel
theorem d197_77 : decode (xB 197) 77 = .ok (.iload_n 3, 1) := by decide +kernel
theorem d197_78 : decode (xB 197) 78 = .ok (.invokevirtual 258, 3) := by decide +kernel
theorem d197_81 : decode (xB 197) 81 = .ok (.iload_n 2, 1) := by decide +kernel
theorem d197_82 : decode (xB 197) 82 = .ok (.ireturn, 1) := by decide +kernel
theorem b197_0 {d : Nat} {P : xPr} {Q : xQr} {r : Nat} {mem : Nat → Nat → Int32} (hP : Cl d none 197 P Q) {p0 : Int32}
    (k : xCall d 164 [.ref 108, .int p0] (LAY, RFu r, xu2 mem 108 20 (nI 0)) (Bk P 7 [.ref 108, .int p0, .null, .null, .null] [] (0, 0))) : P 0 [.ref 108, .int p0, .null, .null, .null] [] (0, 0) (LAY, RFu r, mem) := by
  refine r_aload_n hP d197_0 rfl ?_
  refine r_iconst (v := nI 0) hP d197_1 rfl ?_
  refine r_puti hP d197_2 fr_12_121 rfl (fun q => by cases q) ly_108 ?_
  refine r_aload_n hP d197_5 rfl ?_
  refine r_iload_n hP d197_6 rfl ?_
  exact r_callv (As := [.int p0]) (S := []) hP d197_7 cr_12_214 (by decide +kernel) rfl (by simp [Value.category]) rfl ly_108 (by simp [Value.category]) ⟨Nat.zero_le _, Nat.zero_le _⟩ k
theorem b197_10 {d : Nat} {P : xPr} {Q : xQr} {r : Nat} {mem : Nat → Nat → Int32} (hP : Cl d none 197 P Q) {x1 : Int32} {v2 : Value} {v3 : Value} {v4 : Value} {y0 : Int32}
    (kt : ¬ y0 = 0 → P 15 [.ref 108, .int x1, v2, v3, v4] [] (0, 0) (LAY, RFu r, mem)) (kf : y0 = 0 → P 13 [.ref 108, .int x1, v2, v3, v4] [] (0, 0) (LAY, RFu r, mem)) : P 10 [.ref 108, .int x1, v2, v3, v4] [.int y0] (0, 0) (LAY, RFu r, mem) := by
  exact r_if (t := 15) hP d197_10 (by decide) kt (fun q => kf (Decidable.of_not_not q))
theorem b197_13 {d : Nat} {P : xPr} {Q : xQr} {r : Nat} {mem : Nat → Nat → Int32} (hP : Cl d none 197 P Q) {v0 : Value} {v1 : Value} {v2 : Value} {v3 : Value} {v4 : Value}
    (k : Q (some (.int (-1))) (LAY, RFu r, mem)) : P 13 [v0, v1, v2, v3, v4] [] (0, 0) (LAY, RFu r, mem) := by
  refine r_iconst (v := (-1)) hP d197_13 rfl ?_
  exact r_iret hP d197_14 rfl k
theorem b197_15 {d : Nat} {P : xPr} {Q : xQr} {r : Nat} {mem : Nat → Nat → Int32} (hP : Cl d none 197 P Q) {x1 : Int32} {v2 : Value} {v3 : Value} {v4 : Value}
    (k : P 22 [.ref 108, .int x1, .int (nI 0), .int (nI 0), .int (nI 0)] [] (0, 0) (LAY, RFu r, mem)) : P 15 [.ref 108, .int x1, v2, v3, v4] [] (0, 0) (LAY, RFu r, mem) := by
  refine r_iconst (v := nI 0) hP d197_15 rfl ?_
  refine r_istore_n (L' := [.ref 108, .int x1, .int (nI 0), v3, v4]) hP d197_16 (Nat.le_of_ble_eq_true rfl) rfl ?_
  refine r_iconst (v := nI 0) hP d197_17 rfl ?_
  refine r_istore_n (L' := [.ref 108, .int x1, .int (nI 0), .int (nI 0), v4]) hP d197_18 (Nat.le_of_ble_eq_true rfl) rfl ?_
  refine r_iconst (v := nI 0) hP d197_19 rfl ?_
  refine r_istore (L' := [.ref 108, .int x1, .int (nI 0), .int (nI 0), .int (nI 0)]) hP d197_20 (Nat.le_of_ble_eq_true rfl) rfl ?_
  exact k
theorem b197_22 {d : Nat} {P : xPr} {Q : xQr} {r : Nat} {mem : Nat → Nat → Int32} (hP : Cl d none 197 P Q) {x1 : Int32} {x2 : Int32} {x3 : Int32} {x4 : Int32}
    (kt : (mem 108 2) ≤ x4 → P 71 [.ref 108, .int x1, .int x2, .int x3, .int x4] [] (0, 0) (LAY, RFu r, mem)) (kf : ¬ (mem 108 2) ≤ x4 → P 31 [.ref 108, .int x1, .int x2, .int x3, .int x4] [] (0, 0) (LAY, RFu r, mem)) : P 22 [.ref 108, .int x1, .int x2, .int x3, .int x4] [] (0, 0) (LAY, RFu r, mem) := by
  refine r_iload hP d197_22 rfl ?_
  refine r_aload_n hP d197_24 rfl ?_
  refine r_geti hP d197_25 fr_12_127 rfl ly_108 ?_
  exact r_icmp (t := 71) hP d197_28 (by decide) kt kf
theorem b197_31 {d : Nat} {P : xPr} {Q : xQr} {r : Nat} {mem : Nat → Nat → Int32} (hP : Cl d none 197 P Q) {x1 : Int32} {x2 : Int32} {x3 : Int32} {x4 : Int32} (hi37 : vp_in x4 8)
    (kt : (mem 114 x4.toNatClampNeg) = x1 → P 45 [.ref 108, .int x1, .int x2, .int x3, .int x4] [] (0, 0) (LAY, RFu r, mem)) (kf : ¬ (mem 114 x4.toNatClampNeg) = x1 → P 42 [.ref 108, .int x1, .int x2, .int x3, .int x4] [] (0, 0) (LAY, RFu r, mem)) : P 31 [.ref 108, .int x1, .int x2, .int x3, .int x4] [] (0, 0) (LAY, RFu r, mem) := by
  refine r_aload_n hP d197_31 rfl ?_
  refine r_getr (a := 114) hP d197_32 fr_12_26 rfl ly_108 rg_108_7 ?_
  refine r_iload hP d197_35 rfl ?_
  refine r_iaload hP d197_37 ly_114 hi37 ?_
  refine r_iload_n hP d197_38 rfl ?_
  exact r_icmp (t := 45) hP d197_39 (by decide) kt kf
theorem b197_42 {d : Nat} {P : xPr} {Q : xQr} {r : Nat} {mem : Nat → Nat → Int32} (hP : Cl d none 197 P Q) {x1 : Int32} {x2 : Int32} {x3 : Int32} {x4 : Int32}
    (k : P 65 [.ref 108, .int x1, .int x2, .int x3, .int x4] [] (0, 0) (LAY, RFu r, mem)) : P 42 [.ref 108, .int x1, .int x2, .int x3, .int x4] [] (0, 0) (LAY, RFu r, mem) := by
  refine r_goto (t := 65) hP d197_42 (by decide) ?_
  exact k
theorem b197_45 {d : Nat} {P : xPr} {Q : xQr} {r : Nat} {mem : Nat → Nat → Int32} (hP : Cl d none 197 P Q) {x1 : Int32} {x2 : Int32} {x3 : Int32} {x4 : Int32} (hi59 : vp_in x4 8)
    (k : P 65 [.ref 108, .int x1, .int (x2 ||| ((nI 1) <<< (x4 &&& 31))), .int (x3 ||| ((mem 115 x4.toNatClampNeg) <<< (x4 &&& 31))), .int x4] [] (0, 0) (LAY, RFu r, mem)) : P 45 [.ref 108, .int x1, .int x2, .int x3, .int x4] [] (0, 0) (LAY, RFu r, mem) := by
  refine r_iload_n hP d197_45 rfl ?_
  refine r_iconst (v := nI 1) hP d197_46 rfl ?_
  refine r_iload hP d197_47 rfl ?_
  refine r_ishl hP d197_49 ?_
  refine r_ior hP d197_50 ?_
  refine r_istore_n (L' := [.ref 108, .int x1, .int (x2 ||| ((nI 1) <<< (x4 &&& 31))), .int x3, .int x4]) hP d197_51 (Nat.le_of_ble_eq_true rfl) rfl ?_
  refine r_iload_n hP d197_52 rfl ?_
  refine r_aload_n hP d197_53 rfl ?_
  refine r_getr (a := 115) hP d197_54 fr_12_29 rfl ly_108 rg_108_8 ?_
  refine r_iload hP d197_57 rfl ?_
  refine r_iaload hP d197_59 ly_115 hi59 ?_
  refine r_iload hP d197_60 rfl ?_
  refine r_ishl hP d197_62 ?_
  refine r_ior hP d197_63 ?_
  refine r_istore_n (L' := [.ref 108, .int x1, .int (x2 ||| ((nI 1) <<< (x4 &&& 31))), .int (x3 ||| ((mem 115 x4.toNatClampNeg) <<< (x4 &&& 31))), .int x4]) hP d197_64 (Nat.le_of_ble_eq_true rfl) rfl ?_
  exact k
theorem b197_65 {d : Nat} {P : xPr} {Q : xQr} {r : Nat} {mem : Nat → Nat → Int32} (hP : Cl d none 197 P Q) {x1 : Int32} {x2 : Int32} {x3 : Int32} {x4 : Int32}
    (k : P 22 [.ref 108, .int x1, .int x2, .int x3, .int (x4 + nI 1)] [] (0, 0) (LAY, RFu r, mem)) : P 65 [.ref 108, .int x1, .int x2, .int x3, .int x4] [] (0, 0) (LAY, RFu r, mem) := by
  refine r_iinc (v := nI 1) (L' := [.ref 108, .int x1, .int x2, .int x3, .int (x4 + nI 1)]) hP d197_65 rfl rfl rfl ?_
  refine r_goto (t := 22) hP d197_68 (by decide) ?_
  exact k
theorem b197_71 {d : Nat} {P : xPr} {Q : xQr} {r : Nat} {mem : Nat → Nat → Int32} (hP : Cl d none 197 P Q) {v1 : Value} {x2 : Int32} {x3 : Int32} {v4 : Value}
    (k : xCall d 161 [.ref 108, .int x3] (LAY, RFu r, xu2 mem 108 19 (nI 0)) (Bk P 78 [.ref 108, v1, .int x2, .int x3, v4] [] (0, 0))) : P 71 [.ref 108, v1, .int x2, .int x3, v4] [] (0, 0) (LAY, RFu r, mem) := by
  refine r_aload_n hP d197_71 rfl ?_
  refine r_iconst (v := nI 0) hP d197_72 rfl ?_
  refine r_puti hP d197_73 fr_12_124 rfl (fun q => by cases q) ly_108 ?_
  refine r_aload_n hP d197_76 rfl ?_
  refine r_iload_n hP d197_77 rfl ?_
  exact r_callv (As := [.int x3]) (S := []) hP d197_78 cr_12_258 (by decide +kernel) rfl (by simp [Value.category]) rfl ly_108 (by simp [Value.category]) ⟨Nat.zero_le _, Nat.zero_le _⟩ k
theorem b197_81 {d : Nat} {P : xPr} {Q : xQr} {r : Nat} {mem : Nat → Nat → Int32} (hP : Cl d none 197 P Q) {v0 : Value} {v1 : Value} {x2 : Int32} {v3 : Value} {v4 : Value}
    (k : Q (some (.int x2)) (LAY, RFu r, mem)) : P 81 [v0, v1, .int x2, v3, v4] [] (0, 0) (LAY, RFu r, mem) := by
  refine r_iload_n hP d197_81 rfl ?_
  exact r_iret hP d197_82 rfl k
theorem d198_0 : decode (xB 198) 0 = .ok (.aload_n 0, 1) := by decide +kernel
theorem d198_1 : decode (xB 198) 1 = .ok (.iconst 0, 1) := by decide +kernel
theorem d198_2 : decode (xB 198) 2 = .ok (.putfield 121, 3) := by decide +kernel
theorem d198_5 : decode (xB 198) 5 = .ok (.aload_n 0, 1) := by decide +kernel
theorem d198_6 : decode (xB 198) 6 = .ok (.iload_n 1, 1) := by decide +kernel
theorem d198_7 : decode (xB 198) 7 = .ok (.invokevirtual 214, 3) := by decide +kernel
theorem d198_10 : decode (xB 198) 10 = .ok (.ifCond .ne 5, 3) := by decide +kernel
theorem d198_13 : decode (xB 198) 13 = .ok (.iconst (-1), 1) := by decide +kernel
theorem d198_14 : decode (xB 198) 14 = .ok (.ireturn, 1) := by decide +kernel
theorem d198_15 : decode (xB 198) 15 = .ok (.aload_n 0, 1) := by decide +kernel
theorem d198_16 : decode (xB 198) 16 = .ok (.aload_n 0, 1) := by decide +kernel
theorem d198_17 : decode (xB 198) 17 = .ok (.getfield 87, 3) := by decide +kernel
theorem d198_20 : decode (xB 198) 20 = .ok (.iconst 0, 1) := by decide +kernel
theorem d198_21 : decode (xB 198) 21 = .ok (.invokevirtual 245, 3) := by decide +kernel
theorem d198_24 : decode (xB 198) 24 = .ok (.aload_n 0, 1) := by decide +kernel
theorem d198_25 : decode (xB 198) 25 = .ok (.invokevirtual 252, 3) := by decide +kernel
theorem d198_28 : decode (xB 198) 28 = .ok (.pop, 1) := by decide +kernel
theorem d198_29 : decode (xB 198) 29 = .ok (.aload_n 0, 1) := by decide +kernel
theorem d198_30 : decode (xB 198) 30 = .ok (.aload_n 0, 1) := by decide +kernel
theorem d198_31 : decode (xB 198) 31 = .ok (.getfield 87, 3) := by decide +kernel
theorem d198_34 : decode (xB 198) 34 = .ok (.iconst 0, 1) := by decide +kernel
theorem d198_35 : decode (xB 198) 35 = .ok (.invokevirtual 261, 3) := by decide +kernel
theorem d198_38 : decode (xB 198) 38 = .ok (.aload_n 0, 1) := by decide +kernel
theorem d198_39 : decode (xB 198) 39 = .ok (.getfield 78, 3) := by decide +kernel
theorem d198_42 : decode (xB 198) 42 = .ok (.iload_n 1, 1) := by decide +kernel
theorem d198_43 : decode (xB 198) 43 = .ok (.iaload, 1) := by decide +kernel
theorem d198_44 : decode (xB 198) 44 = .ok (.iconst (-1), 1) := by decide +kernel
theorem d198_45 : decode (xB 198) 45 = .ok (.if_icmp .ne 6, 3) := by decide +kernel
theorem d198_48 : decode (xB 198) 48 = .ok (.bipush (-2), 2) := by decide +kernel
theorem d198_50 : decode (xB 198) 50 = .ok (.ireturn, 1) := by decide +kernel
theorem d198_51 : decode (xB 198) 51 = .ok (.aload_n 0, 1) := by decide +kernel
theorem d198_52 : decode (xB 198) 52 = .ok (.iconst 0, 1) := by decide +kernel
theorem d198_53 : decode (xB 198) 53 = .ok (.putfield 124, 3) := by decide +kernel
theorem d198_56 : decode (xB 198) 56 = .ok (.aload_n 0, 1) := by decide +kernel
theorem d198_57 : decode (xB 198) 57 = .ok (.aload_n 0, 1) := by decide +kernel
theorem d198_58 : decode (xB 198) 58 = .ok (.getfield 81, 3) := by decide +kernel
theorem d198_61 : decode (xB 198) 61 = .ok (.iload_n 1, 1) := by decide +kernel
theorem d198_62 : decode (xB 198) 62 = .ok (.iaload, 1) := by decide +kernel
theorem d198_63 : decode (xB 198) 63 = .ok (.invokevirtual 258, 3) := by decide +kernel
theorem d198_66 : decode (xB 198) 66 = .ok (.aload_n 0, 1) := by decide +kernel
theorem d198_67 : decode (xB 198) 67 = .ok (.getfield 78, 3) := by decide +kernel
theorem d198_70 : decode (xB 198) 70 = .ok (.iload_n 1, 1) := by decide +kernel
theorem d198_71 : decode (xB 198) 71 = .ok (.iaload, 1) := by decide +kernel
theorem d198_72 : decode (xB 198) 72 = .ok (.ireturn, 1) := by decide +kernel
theorem b198_0 {d : Nat} {P : xPr} {Q : xQr} {r : Nat} {mem : Nat → Nat → Int32} (hP : Cl d none 198 P Q) {p0 : Int32}
    (k : xCall d 164 [.ref 108, .int p0] (LAY, RFu r, xu2 mem 108 20 (nI 0)) (Bk P 7 [.ref 108, .int p0] [] (0, 0))) : P 0 [.ref 108, .int p0] [] (0, 0) (LAY, RFu r, mem) := by
  refine r_aload_n hP d198_0 rfl ?_
  refine r_iconst (v := nI 0) hP d198_1 rfl ?_
  refine r_puti hP d198_2 fr_12_121 rfl (fun q => by cases q) ly_108 ?_
  refine r_aload_n hP d198_5 rfl ?_
  refine r_iload_n hP d198_6 rfl ?_
  exact r_callv (As := [.int p0]) (S := []) hP d198_7 cr_12_214 (by decide +kernel) rfl (by simp [Value.category]) rfl ly_108 (by simp [Value.category]) ⟨Nat.zero_le _, Nat.zero_le _⟩ k
theorem b198_10 {d : Nat} {P : xPr} {Q : xQr} {r : Nat} {mem : Nat → Nat → Int32} (hP : Cl d none 198 P Q) {x1 : Int32} {y0 : Int32}
    (kt : ¬ y0 = 0 → P 15 [.ref 108, .int x1] [] (0, 0) (LAY, RFu r, mem)) (kf : y0 = 0 → P 13 [.ref 108, .int x1] [] (0, 0) (LAY, RFu r, mem)) : P 10 [.ref 108, .int x1] [.int y0] (0, 0) (LAY, RFu r, mem) := by
  exact r_if (t := 15) hP d198_10 (by decide) kt (fun q => kf (Decidable.of_not_not q))
theorem b198_13 {d : Nat} {P : xPr} {Q : xQr} {r : Nat} {mem : Nat → Nat → Int32} (hP : Cl d none 198 P Q) {v0 : Value} {v1 : Value}
    (k : Q (some (.int (-1))) (LAY, RFu r, mem)) : P 13 [v0, v1] [] (0, 0) (LAY, RFu r, mem) := by
  refine r_iconst (v := (-1)) hP d198_13 rfl ?_
  exact r_iret hP d198_14 rfl k
theorem b198_15 {d : Nat} {P : xPr} {Q : xQr} {r : Nat} {mem : Nat → Nat → Int32} (hP : Cl d none 198 P Q) {x1 : Int32}
    (k : xCall d 191 [.ref 108, .ref 133, .int (nI 0)] (LAY, RFu r, mem) (Bk P 21 [.ref 108, .int x1] [] (0, 0))) : P 15 [.ref 108, .int x1] [] (0, 0) (LAY, RFu r, mem) := by
  refine r_aload_n hP d198_15 rfl ?_
  refine r_aload_n hP d198_16 rfl ?_
  refine r_getr (a := 133) hP d198_17 fr_12_87 rfl ly_108 rg_108_38 ?_
  refine r_iconst (v := nI 0) hP d198_20 rfl ?_
  exact r_callv (As := [.ref 133, .int (nI 0)]) (S := []) hP d198_21 cr_12_245 (by decide +kernel) rfl (by simp [Value.category]) rfl ly_108 (by simp [Value.category]) ⟨Nat.zero_le _, Nat.zero_le _⟩ k
theorem b198_24 {d : Nat} {P : xPr} {Q : xQr} {r : Nat} {mem : Nat → Nat → Int32} (hP : Cl d none 198 P Q) {x1 : Int32}
    (k : xCall d 190 [.ref 108] (LAY, RFu r, mem) (Bk P 25 [.ref 108, .int x1] [] (0, 0))) : P 24 [.ref 108, .int x1] [] (0, 0) (LAY, RFu r, mem) := by
  refine r_aload_n hP d198_24 rfl ?_
  exact r_callv (As := []) (S := []) hP d198_25 cr_12_252 (by decide +kernel) rfl (by simp) rfl ly_108 (by simp [Value.category]) ⟨Nat.zero_le _, Nat.zero_le _⟩ k
theorem b198_28 {d : Nat} {P : xPr} {Q : xQr} {r : Nat} {mem : Nat → Nat → Int32} (hP : Cl d none 198 P Q) {x1 : Int32} {y0 : Int32}
    (k : xCall d 192 [.ref 108, .ref 133, .int (nI 0)] (LAY, RFu r, mem) (Bk P 35 [.ref 108, .int x1] [] (0, 0))) : P 28 [.ref 108, .int x1] [.int y0] (0, 0) (LAY, RFu r, mem) := by
  refine r_pop hP d198_28 rfl ?_
  refine r_aload_n hP d198_29 rfl ?_
  refine r_aload_n hP d198_30 rfl ?_
  refine r_getr (a := 133) hP d198_31 fr_12_87 rfl ly_108 rg_108_38 ?_
  refine r_iconst (v := nI 0) hP d198_34 rfl ?_
  exact r_callv (As := [.ref 133, .int (nI 0)]) (S := []) hP d198_35 cr_12_261 (by decide +kernel) rfl (by simp [Value.category]) rfl ly_108 (by simp [Value.category]) ⟨Nat.zero_le _, Nat.zero_le _⟩ k
theorem b198_38 {d : Nat} {P : xPr} {Q : xQr} {r : Nat} {mem : Nat → Nat → Int32} (hP : Cl d none 198 P Q) {x1 : Int32} (hi43 : vp_in x1 4)
    (kt : ¬ (mem 130 x1.toNatClampNeg) = (-1) → P 51 [.ref 108, .int x1] [] (0, 0) (LAY, RFu r, mem)) (kf : (mem 130 x1.toNatClampNeg) = (-1) → P 48 [.ref 108, .int x1] [] (0, 0) (LAY, RFu r, mem)) : P 38 [.ref 108, .int x1] [] (0, 0) (LAY, RFu r, mem) := by
  refine r_aload_n hP d198_38 rfl ?_
  refine r_getr (a := 130) hP d198_39 fr_12_78 rfl ly_108 rg_108_34 ?_
  refine r_iload_n hP d198_42 rfl ?_
  refine r_iaload hP d198_43 ly_130 hi43 ?_
  refine r_iconst (v := (-1)) hP d198_44 rfl ?_
  exact r_icmp (t := 51) hP d198_45 (by decide) kt (fun q => kf (Decidable.of_not_not q))
theorem b198_48 {d : Nat} {P : xPr} {Q : xQr} {r : Nat} {mem : Nat → Nat → Int32} (hP : Cl d none 198 P Q) {v0 : Value} {v1 : Value}
    (k : Q (some (.int (-2))) (LAY, RFu r, mem)) : P 48 [v0, v1] [] (0, 0) (LAY, RFu r, mem) := by
  refine r_bipush (v := (-2)) hP d198_48 rfl ?_
  exact r_iret hP d198_50 rfl k
theorem b198_51 {d : Nat} {P : xPr} {Q : xQr} {r : Nat} {mem : Nat → Nat → Int32} (hP : Cl d none 198 P Q) {x1 : Int32} (hi62 : vp_in x1 4)
    (k : xCall d 161 [.ref 108, .int ((xu2 mem 108 19 (nI 0)) 131 x1.toNatClampNeg)] (LAY, RFu r, xu2 mem 108 19 (nI 0)) (Bk P 63 [.ref 108, .int x1] [] (0, 0))) : P 51 [.ref 108, .int x1] [] (0, 0) (LAY, RFu r, mem) := by
  refine r_aload_n hP d198_51 rfl ?_
  refine r_iconst (v := nI 0) hP d198_52 rfl ?_
  refine r_puti hP d198_53 fr_12_124 rfl (fun q => by cases q) ly_108 ?_
  refine r_aload_n hP d198_56 rfl ?_
  refine r_aload_n hP d198_57 rfl ?_
  refine r_getr (a := 131) hP d198_58 fr_12_81 rfl ly_108 rg_108_35 ?_
  refine r_iload_n hP d198_61 rfl ?_
  refine r_iaload hP d198_62 ly_131 hi62 ?_
  exact r_callv (As := [.int ((xu2 mem 108 19 (nI 0)) 131 x1.toNatClampNeg)]) (S := []) hP d198_63 cr_12_258 (by decide +kernel) rfl (by simp [Value.category]) rfl ly_108 (by simp [Value.category]) ⟨Nat.zero_le _, Nat.zero_le _⟩ k
theorem b198_66 {d : Nat} {P : xPr} {Q : xQr} {r : Nat} {mem : Nat → Nat → Int32} (hP : Cl d none 198 P Q) {x1 : Int32} (hi71 : vp_in x1 4)
    (k : Q (some (.int (mem 130 x1.toNatClampNeg))) (LAY, RFu r, mem)) : P 66 [.ref 108, .int x1] [] (0, 0) (LAY, RFu r, mem) := by
  refine r_aload_n hP d198_66 rfl ?_
  refine r_getr (a := 130) hP d198_67 fr_12_78 rfl ly_108 rg_108_34 ?_
  refine r_iload_n hP d198_70 rfl ?_
  refine r_iaload hP d198_71 ly_130 hi71 ?_
  exact r_iret hP d198_72 rfl k
theorem d199_0 : decode (xB 199) 0 = .ok (.aload_n 0, 1) := by decide +kernel
theorem d199_1 : decode (xB 199) 1 = .ok (.iconst 0, 1) := by decide +kernel
theorem d199_2 : decode (xB 199) 2 = .ok (.putfield 121, 3) := by decide +kernel
theorem d199_5 : decode (xB 199) 5 = .ok (.aload_n 0, 1) := by decide +kernel
theorem d199_6 : decode (xB 199) 6 = .ok (.iload_n 1, 1) := by decide +kernel
theorem d199_7 : decode (xB 199) 7 = .ok (.invokevirtual 214, 3) := by decide +kernel
theorem d199_10 : decode (xB 199) 10 = .ok (.ifCond .ne 5, 3) := by decide +kernel
theorem d199_13 : decode (xB 199) 13 = .ok (.iconst (-1), 1) := by decide +kernel
theorem d199_14 : decode (xB 199) 14 = .ok (.ireturn, 1) := by decide +kernel
theorem d199_15 : decode (xB 199) 15 = .ok (.iconst 0, 1) := by decide +kernel
theorem d199_16 : decode (xB 199) 16 = .ok (.istore_n 2, 1) := by decide +kernel
theorem d199_17 : decode (xB 199) 17 = .ok (.aload_n 0, 1) := by decide +kernel
theorem d199_18 : decode (xB 199) 18 = .ok (.iconst 0, 1) := by decide +kernel
theorem d199_19 : decode (xB 199) 19 = .ok (.putfield 124, 3) := by decide +kernel
theorem d199_22 : decode (xB 199) 22 = .ok (.iconst 0, 1) := by decide +kernel
theorem d199_23 : decode (xB 199) 23 = .ok (.istore_n 3, 1) := by decide +kernel
theorem d199_24 : decode (xB 199) 24 = .ok (.iload_n 3, 1) := by decide +kernel
theorem d199_25 : decode (xB 199) 25 = .ok (.iconst 2, 1) := by decide +kernel
theorem d199_26 : decode (xB 199) 26 = .ok (.if_icmp .ge 131, 3) := by decide +kernel
theorem d199_29 : decode (xB 199) 29 = .ok (.iconst 0, 1) := by decide +kernel
theorem d199_30 : decode (xB 199) 30 = .ok (.istore 4, 2) := by decide +kernel
theorem d199_32 : decode (xB 199) 32 = .ok (.iconst 0, 1) := by decide +kernel
theorem d199_33 : decode (xB 199) 33 = .ok (.istore 5, 2) := by decide +kernel
theorem d199_35 : decode (xB 199) 35 = .ok (.iload 5, 2) := by decide +kernel
theorem d199_37 : decode (xB 199) 37 = .ok (.iconst (-1), 1) := by decide +kernel
theorem d199_38 : decode (xB 199) 38 = .ok (.if_icmp .eq 113, 3) := by decide +kernel
theorem d199_41 : decode (xB 199) 41 = .ok (.iconst (-1), 1) := by decide +kernel
theorem d199_42 : decode (xB 199) 42 = .ok (.istore 5, 2) := by decide +kernel
theorem d199_44 : decode (xB 199) 44 = .ok (.iconst 0, 1) := by decide +kernel
theorem d199_45 : decode (xB 199) 45 = .ok (.istore 6, 2) := by decide +kernel
theorem d199_47 : decode (xB 199) 47 = .ok (.iload 6, 2) := by decide +kernel
theorem d199_49 : decode (xB 199) 49 = .ok (.aload_n 0, 1) := by decide +kernel
theorem d199_50 : decode (xB 199) 50 = .ok (.getfield 127, 3) := by decide +kernel
theorem d199_53 : decode (xB 199) 53 = .ok (.if_icmp .ge 68, 3) := by decide +kernel
theorem d199_56 : decode (xB 199) 56 = .ok (.aload_n 0, 1) := by decide +kernel
theorem d199_57 : decode (xB 199) 57 = .ok (.getfield 26, 3) := by decide +kernel
theorem d199_60 : decode (xB 199) 60 = .ok (.iload 6, 2) := by decide +kernel
theorem d199_62 : decode (xB 199) 62 = .ok (.iaload, 1) := by decide +kernel
theorem d199_63 : decode (xB 199) 63 = .ok (.iload_n 1, 1) := by decide +kernel
theorem d199_64 : decode (xB 199) 64 = .ok (.if_icmp .ne 51, 3) := by decide +kernel
theorem d199_67 : decode (xB 199) 67 = .ok (.aload_n 0, 1) := by decide +kernel
theorem d199_68 : decode (xB 199) 68 = .ok (.getfield 29, 3) := by decide +kernel
theorem d199_71 : decode (xB 199) 71 = .ok (.iload 6, 2) := by decide +kernel
theorem d199_73 : decode (xB 199) 73 = .ok (.iaload, 1) := by decide +kernel
theorem d199_74 : decode (xB 199) 74 = .ok (.iload_n 3, 1) := by decide +kernel
theorem d199_75 : decode (xB 199) 75 = .ok (.if_icmp .ne 40, 3) := by decide +kernel
theorem d199_78 : decode (xB 199) 78 = .ok (.iload 4, 2) := by decide +kernel
theorem d199_80 : decode (xB 199) 80 = .ok (.iload 6, 2) := by decide +kernel
theorem d199_82 : decode (xB 199) 82 = .ok (.invokestatic 264, 3) := by decide +kernel
theorem d199_85 : decode (xB 199) 85 = .ok (.ifCond .ne 30, 3) := by decide +kernel
theorem d199_88 : decode (xB 199) 88 = .ok (.iload 5, 2) := by decide +kernel
theorem d199_90 : decode (xB 199) 90 = .ok (.iconst (-1), 1) := by decide +kernel
theorem d199_91 : decode (xB 199) 91 = .ok (.if_icmp .eq 20, 3) := by decide +kernel
theorem d199_94 : decode (xB 199) 94 = .ok (.aload_n 0, 1) := by decide +kernel
theorem d199_95 : decode (xB 199) 95 = .ok (.iload_n 3, 1) := by decide +kernel
theorem d199_96 : decode (xB 199) 96 = .ok (.iload 6, 2) := by decide +kernel
theorem d199_98 : decode (xB 199) 98 = .ok (.invokevirtual 211, 3) := by decide +kernel
theorem d199_101 : decode (xB 199) 101 = .ok (.aload_n 0, 1) := by decide +kernel
theorem d199_102 : decode (xB 199) 102 = .ok (.iload_n 3, 1) := by decide +kernel
theorem d199_103 : decode (xB 199) 103 = .ok (.iload 5, 2) := by decide +kernel
theorem d199_105 : decode (xB 199) 105 = .ok (.invokevirtual 211, 3) := by decide +kernel
theorem d199_108 : decode (xB 199) 108 = .ok (.if_icmp .le 7, 3) := by decide +kernel
theorem d199_111 : decode (xB 199) 111 = .ok (.iload 6, 2) := by decide +kernel
theorem d199_113 : decode (xB 199) 113 = .ok (.istore 5, 2) := by decide +kernel
theorem d199_115 : decode (xB 199) 115 = .ok (.iinc 6 1, 3) := by decide +kernel
theorem d199_118 : decode (xB 199) 118 = .ok (.goto (-71), 3) := by decide +kernel
theorem d199_121 : decode (xB 199) 121 = .ok (.iload 5, 2) := by decide +kernel
theorem d199_123 : decode (xB 199) 123 = .ok (.iconst (-1), 1) := by decide +kernel
theorem d199_124 : decode (xB 199) 124 = .ok (.if_icmp .ne 6, 3) := by decide +kernel
theorem d199_127 : decode (xB 199) 127 = .ok (.goto (-92), 3) := by decide +kernel
theorem d199_130 : decode (xB 199) 130 = .ok (.aload_n 0, 1) := by decide +kernel
theorem d199_131 : decode (xB 199) 131 = .ok (.iload 5, 2) := by decide +kernel
theorem d199_133 : decode (xB 199) 133 = .ok (.invokevirtual 258, 3) := by decide +kernel
theorem d199_136 : decode (xB 199) 136 = .ok (.iload 4, 2) := by decide +kernel
theorem d199_138 : decode (xB 199) 138 = .ok (.iconst 1, 1) := by decide +kernel
theorem d199_139 : decode (xB 199) 139 = .ok (.iload 5, 2) := by decide +kernel
theorem d199_141 : decode (xB 199) 141 = .ok (.ishl, 1) := by decide +kernel
theorem d199_142 : decode (xB 199) 142 = .ok (.ior, 1) := by decide +kernel
theorem d199_143 : decode (xB 199) 143 = .ok (.istore 4, 2) := by decide +kernel
theorem d199_145 : decode (xB 199) 145 = .ok (.iinc 2 1, 3) := by decide +kernel
theorem d199_148 : decode (xB 199) 148 = .ok (.goto (-113), 3) := by decide +kernel
theorem d199_151 : decode (xB 199) 151 = .ok (.iinc 3 1, 3) := by decide +kernel
theorem d199_154 : decode (xB 199) 154 = .ok (.goto (-130), 3) := by decide +kernel
theorem d199_157 : decode (xB 199) 157 = .ok (.iload_n 2, 1) := by decide +kernel
theorem d199_158 : decode (xB 199) 158 = .ok (.ireturn, 1) := by decide +kernel
theorem b199_0 {d : Nat} {P : xPr} {Q : xQr} {r : Nat} {mem : Nat → Nat → Int32} (hP : Cl d none 199 P Q) {p0 : Int32}
    (k : xCall d 164 [.ref 108, .int p0] (LAY, RFu r, xu2 mem 108 20 (nI 0)) (Bk P 7 [.ref 108, .int p0, .null, .null, .null, .null, .null] [] (0, 0))) : P 0 [.ref 108, .int p0, .null, .null, .null, .null, .null] [] (0, 0) (LAY, RFu r, mem) := by
  refine r_aload_n hP d199_0 rfl ?_
  refine r_iconst (v := nI 0) hP d199_1 rfl ?_
  refine r_puti hP d199_2 fr_12_121 rfl (fun q => by cases q) ly_108 ?_
  refine r_aload_n hP d199_5 rfl ?_
  refine r_iload_n hP d199_6 rfl ?_
  exact r_callv (As := [.int p0]) (S := []) hP d199_7 cr_12_214 (by decide +kernel) rfl (by simp [Value.category]) rfl ly_108 (by simp [Value.category]) ⟨Nat.zero_le _, Nat.zero_le _⟩ k
theorem b199_10 {d : Nat} {P : xPr} {Q : xQr} {r : Nat} {mem : Nat → Nat → Int32} (hP : Cl d none 199 P Q) {x1 : Int32} {v2 : Value} {v3 : Value} {v4 : Value} {v5 : Value} {v6 : Value} {y0 : Int32}
    (kt : ¬ y0 = 0 → P 15 [.ref 108, .int x1, v2, v3, v4, v5, v6] [] (0, 0) (LAY, RFu r, mem)) (kf : y0 = 0 → P 13 [.ref 108, .int x1, v2, v3, v4, v5, v6] [] (0, 0) (LAY, RFu r, mem)) : P 10 [.ref 108, .int x1, v2, v3, v4, v5, v6] [.int y0] (0, 0) (LAY, RFu r, mem) := by
  exact r_if (t := 15) hP d199_10 (by decide) kt (fun q => kf (Decidable.of_not_not q))
theorem b199_13 {d : Nat} {P : xPr} {Q : xQr} {r : Nat} {mem : Nat → Nat → Int32} (hP : Cl d none 199 P Q) {v0 : Value} {v1 : Value} {v2 : Value} {v3 : Value} {v4 : Value} {v5 : Value} {v6 : Value}
    (k : Q (some (.int (-1))) (LAY, RFu r, mem)) : P 13 [v0, v1, v2, v3, v4, v5, v6] [] (0, 0) (LAY, RFu r, mem) := by
  refine r_iconst (v := (-1)) hP d199_13 rfl ?_
  exact r_iret hP d199_14 rfl k
theorem b199_15 {d : Nat} {P : xPr} {Q : xQr} {r : Nat} {mem : Nat → Nat → Int32} (hP : Cl d none 199 P Q) {x1 : Int32} {v2 : Value} {v3 : Value} {v4 : Value} {v5 : Value} {v6 : Value}
    (k : P 24 [.ref 108, .int x1, .int (nI 0), .int (nI 0), v4, v5, v6] [] (0, 0) (LAY, RFu r, xu2 mem 108 19 (nI 0))) : P 15 [.ref 108, .int x1, v2, v3, v4, v5, v6] [] (0, 0) (LAY, RFu r, mem) := by
  refine r_iconst (v := nI 0) hP d199_15 rfl ?_
  refine r_istore_n (L' := [.ref 108, .int x1, .int (nI 0), v3, v4, v5, v6]) hP d199_16 (Nat.le_of_ble_eq_true rfl) rfl ?_
  refine r_aload_n hP d199_17 rfl ?_
  refine r_iconst (v := nI 0) hP d199_18 rfl ?_
  refine r_puti hP d199_19 fr_12_124 rfl (fun q => by cases q) ly_108 ?_
  refine r_iconst (v := nI 0) hP d199_22 rfl ?_
  refine r_istore_n (L' := [.ref 108, .int x1, .int (nI 0), .int (nI 0), v4, v5, v6]) hP d199_23 (Nat.le_of_ble_eq_true rfl) rfl ?_
  exact k
theorem b199_24 {d : Nat} {P : xPr} {Q : xQr} {r : Nat} {mem : Nat → Nat → Int32} (hP : Cl d none 199 P Q) {x1 : Int32} {x2 : Int32} {x3 : Int32} {v4 : Value} {v5 : Value} {v6 : Value}
    (kt : (nI 2) ≤ x3 → P 157 [.ref 108, .int x1, .int x2, .int x3, v4, v5, v6] [] (0, 0) (LAY, RFu r, mem)) (kf : ¬ (nI 2) ≤ x3 → P 29 [.ref 108, .int x1, .int x2, .int x3, v4, v5, v6] [] (0, 0) (LAY, RFu r, mem)) : P 24 [.ref 108, .int x1, .int x2, .int x3, v4, v5, v6] [] (0, 0) (LAY, RFu r, mem) := by
  refine r_iload_n hP d199_24 rfl ?_
  refine r_iconst (v := nI 2) hP d199_25 rfl ?_
  exact r_icmp (t := 157) hP d199_26 (by decide) kt kf
theorem b199_29 {d : Nat} {P : xPr} {Q : xQr} {r : Nat} {mem : Nat → Nat → Int32} (hP : Cl d none 199 P Q) {x1 : Int32} {x2 : Int32} {x3 : Int32} {v4 : Value} {v5 : Value} {v6 : Value}
    (k : P 35 [.ref 108, .int x1, .int x2, .int x3, .int (nI 0), .int (nI 0), v6] [] (0, 0) (LAY, RFu r, mem)) : P 29 [.ref 108, .int x1, .int x2, .int x3, v4, v5, v6] [] (0, 0) (LAY, RFu r, mem) := by
  refine r_iconst (v := nI 0) hP d199_29 rfl ?_
  refine r_istore (L' := [.ref 108, .int x1, .int x2, .int x3, .int (nI 0), v5, v6]) hP d199_30 (Nat.le_of_ble_eq_true rfl) rfl ?_
  refine r_iconst (v := nI 0) hP d199_32 rfl ?_
  refine r_istore (L' := [.ref 108, .int x1, .int x2, .int x3, .int (nI 0), .int (nI 0), v6]) hP d199_33 (Nat.le_of_ble_eq_true rfl) rfl ?_
  exact k
theorem b199_35 {d : Nat} {P : xPr} {Q : xQr} {r : Nat} {mem : Nat → Nat → Int32} (hP : Cl d none 199 P Q) {x1 : Int32} {x2 : Int32} {x3 : Int32} {x4 : Int32} {x5 : Int32} {v6 : Value}
    (kt : x5 = (-1) → P 151 [.ref 108, .int x1, .int x2, .int x3, .int x4, .int x5, v6] [] (0, 0) (LAY, RFu r, mem)) (kf : ¬ x5 = (-1) → P 41 [.ref 108, .int x1, .int x2, .int x3, .int x4, .int x5, v6] [] (0, 0) (LAY, RFu r, mem)) : P 35 [.ref 108, .int x1, .int x2, .int x3, .int x4, .int x5, v6] [] (0, 0) (LAY, RFu r, mem) := by
  refine r_iload hP d199_35 rfl ?_
  refine r_iconst (v := (-1)) hP d199_37 rfl ?_
  exact r_icmp (t := 151) hP d199_38 (by decide) kt kf
theorem b199_41 {d : Nat} {P : xPr} {Q : xQr} {r : Nat} {mem : Nat → Nat → Int32} (hP : Cl d none 199 P Q) {x1 : Int32} {x2 : Int32} {x3 : Int32} {x4 : Int32} {v5 : Value} {v6 : Value}
    (k : P 47 [.ref 108, .int x1, .int x2, .int x3, .int x4, .int (-1), .int (nI 0)] [] (0, 0) (LAY, RFu r, mem)) : P 41 [.ref 108, .int x1, .int x2, .int x3, .int x4, v5, v6] [] (0, 0) (LAY, RFu r, mem) := by
  refine r_iconst (v := (-1)) hP d199_41 rfl ?_
  refine r_istore (L' := [.ref 108, .int x1, .int x2, .int x3, .int x4, .int (-1), v6]) hP d199_42 (Nat.le_of_ble_eq_true rfl) rfl ?_
  refine r_iconst (v := nI 0) hP d199_44 rfl ?_
  refine r_istore (L' := [.ref 108, .int x1, .int x2, .int x3, .int x4, .int (-1), .int (nI 0)]) hP d199_45 (Nat.le_of_ble_eq_true rfl) rfl ?_
  exact k
theorem b199_47 {d : Nat} {P : xPr} {Q : xQr} {r : Nat} {mem : Nat → Nat → Int32} (hP : Cl d none 199 P Q) {x1 : Int32} {x2 : Int32} {x3 : Int32} {x4 : Int32} {x5 : Int32} {x6 : Int32}
    (kt : (mem 108 2) ≤ x6 → P 121 [.ref 108, .int x1, .int x2, .int x3, .int x4, .int x5, .int x6] [] (0, 0) (LAY, RFu r, mem)) (kf : ¬ (mem 108 2) ≤ x6 → P 56 [.ref 108, .int x1, .int x2, .int x3, .int x4, .int x5, .int x6] [] (0, 0) (LAY, RFu r, mem)) : P 47 [.ref 108, .int x1, .int x2, .int x3, .int x4, .int x5, .int x6] [] (0, 0) (LAY, RFu r, mem) := by
  refine r_iload hP d199_47 rfl ?_
  refine r_aload_n hP d199_49 rfl ?_
  refine r_geti hP d199_50 fr_12_127 rfl ly_108 ?_
  exact r_icmp (t := 121) hP d199_53 (by decide) kt kf
theorem b199_56 {d : Nat} {P : xPr} {Q : xQr} {r : Nat} {mem : Nat → Nat → Int32} (hP : Cl d none 199 P Q) {x1 : Int32} {x2 : Int32} {x3 : Int32} {x4 : Int32} {x5 : Int32} {x6 : Int32} (hi62 : vp_in x6 8)
    (kt : ¬ (mem 114 x6.toNatClampNeg) = x1 → P 115 [.ref 108, .int x1, .int x2, .int x3, .int x4, .int x5, .int x6] [] (0, 0) (LAY, RFu r, mem)) (kf : (mem 114 x6.toNatClampNeg) = x1 → P 67 [.ref 108, .int x1, .int x2, .int x3, .int x4, .int x5, .int x6] [] (0, 0) (LAY, RFu r, mem)) : P 56 [.ref 108, .int x1, .int x2, .int x3, .int x4, .int x5, .int x6] [] (0, 0) (LAY, RFu r, mem) := by
  refine r_aload_n hP d199_56 rfl ?_
  refine r_getr (a := 114) hP d199_57 fr_12_26 rfl ly_108 rg_108_7 ?_
  refine r_iload hP d199_60 rfl ?_
  refine r_iaload hP d199_62 ly_114 hi62 ?_
  refine r_iload_n hP d199_63 rfl ?_
  exact r_icmp (t := 115) hP d199_64 (by decide) kt (fun q => kf (Decidable.of_not_not q))
theorem b199_67 {d : Nat} {P : xPr} {Q : xQr} {r : Nat} {mem : Nat → Nat → Int32} (hP : Cl d none 199 P Q) {x1 : Int32} {x2 : Int32} {x3 : Int32} {x4 : Int32} {x5 : Int32} {x6 : Int32} (hi73 : vp_in x6 8)
    (kt : ¬ (mem 115 x6.toNatClampNeg) = x3 → P 115 [.ref 108, .int x1, .int x2, .int x3, .int x4, .int x5, .int x6] [] (0, 0) (LAY, RFu r, mem)) (kf : (mem 115 x6.toNatClampNeg) = x3 → P 78 [.ref 108, .int x1, .int x2, .int x3, .int x4, .int x5, .int x6] [] (0, 0) (LAY, RFu r, mem)) : P 67 [.ref 108, .int x1, .int x2, .int x3, .int x4, .int x5, .int x6] [] (0, 0) (LAY, RFu r, mem) := by
  refine r_aload_n hP d199_67 rfl ?_
  refine r_getr (a := 115) hP d199_68 fr_12_29 rfl ly_108 rg_108_8 ?_
  refine r_iload hP d199_71 rfl ?_
  refine r_iaload hP d199_73 ly_115 hi73 ?_
  refine r_iload_n hP d199_74 rfl ?_
  exact r_icmp (t := 115) hP d199_75 (by decide) kt (fun q => kf (Decidable.of_not_not q))
theorem b199_78 {d : Nat} {P : xPr} {Q : xQr} {r : Nat} {mem : Nat → Nat → Int32} (hP : Cl d none 199 P Q) {x1 : Int32} {x2 : Int32} {x3 : Int32} {x4 : Int32} {x5 : Int32} {x6 : Int32}
    (k : xCall d 159 [.int x4, .int x6] (LAY, RFu r, mem) (Bk P 82 [.ref 108, .int x1, .int x2, .int x3, .int x4, .int x5, .int x6] [] (0, 0))) : P 78 [.ref 108, .int x1, .int x2, .int x3, .int x4, .int x5, .int x6] [] (0, 0) (LAY, RFu r, mem) := by
  refine r_iload hP d199_78 rfl ?_
  refine r_iload hP d199_80 rfl ?_
  exact r_calls (As := [.int x4, .int x6]) (S := []) hP d199_82 cr_12_264 (by decide +kernel) rfl (by simp [Value.category]) rfl (by simp [Value.category]) ⟨Nat.zero_le _, Nat.zero_le _⟩ k
theorem b199_85 {d : Nat} {P : xPr} {Q : xQr} {r : Nat} {mem : Nat → Nat → Int32} (hP : Cl d none 199 P Q) {x1 : Int32} {x2 : Int32} {x3 : Int32} {x4 : Int32} {x5 : Int32} {x6 : Int32} {y0 : Int32}
    (kt : ¬ y0 = 0 → P 115 [.ref 108, .int x1, .int x2, .int x3, .int x4, .int x5, .int x6] [] (0, 0) (LAY, RFu r, mem)) (kf : y0 = 0 → P 88 [.ref 108, .int x1, .int x2, .int x3, .int x4, .int x5, .int x6] [] (0, 0) (LAY, RFu r, mem)) : P 85 [.ref 108, .int x1, .int x2, .int x3, .int x4, .int x5, .int x6] [.int y0] (0, 0) (LAY, RFu r, mem) := by
  exact r_if (t := 115) hP d199_85 (by decide) kt (fun q => kf (Decidable.of_not_not q))
theorem b199_88 {d : Nat} {P : xPr} {Q : xQr} {r : Nat} {mem : Nat → Nat → Int32} (hP : Cl d none 199 P Q) {x1 : Int32} {x2 : Int32} {x3 : Int32} {x4 : Int32} {x5 : Int32} {x6 : Int32}
    (kt : x5 = (-1) → P 111 [.ref 108, .int x1, .int x2, .int x3, .int x4, .int x5, .int x6] [] (0, 0) (LAY, RFu r, mem)) (kf : ¬ x5 = (-1) → P 94 [.ref 108, .int x1, .int x2, .int x3, .int x4, .int x5, .int x6] [] (0, 0) (LAY, RFu r, mem)) : P 88 [.ref 108, .int x1, .int x2, .int x3, .int x4, .int x5, .int x6] [] (0, 0) (LAY, RFu r, mem) := by
  refine r_iload hP d199_88 rfl ?_
  refine r_iconst (v := (-1)) hP d199_90 rfl ?_
  exact r_icmp (t := 111) hP d199_91 (by decide) kt kf
theorem b199_94 {d : Nat} {P : xPr} {Q : xQr} {r : Nat} {mem : Nat → Nat → Int32} (hP : Cl d none 199 P Q) {x1 : Int32} {x2 : Int32} {x3 : Int32} {x4 : Int32} {x5 : Int32} {x6 : Int32}
    (k : xCall d 181 [.ref 108, .int x3, .int x6] (LAY, RFu r, mem) (Bk P 98 [.ref 108, .int x1, .int x2, .int x3, .int x4, .int x5, .int x6] [] (0, 0))) : P 94 [.ref 108, .int x1, .int x2, .int x3, .int x4, .int x5, .int x6] [] (0, 0) (LAY, RFu r, mem) := by
  refine r_aload_n hP d199_94 rfl ?_
  refine r_iload_n hP d199_95 rfl ?_
  refine r_iload hP d199_96 rfl ?_
  exact r_callv (As := [.int x3, .int x6]) (S := []) hP d199_98 cr_12_211 (by decide +kernel) rfl (by simp [Value.category]) rfl ly_108 (by simp [Value.category]) ⟨Nat.zero_le _, Nat.zero_le _⟩ k
theorem b199_101 {d : Nat} {P : xPr} {Q : xQr} {r : Nat} {mem : Nat → Nat → Int32} (hP : Cl d none 199 P Q) {x1 : Int32} {x2 : Int32} {x3 : Int32} {x4 : Int32} {x5 : Int32} {x6 : Int32} {y0 : Int32}
    (k : xCall d 181 [.ref 108, .int x3, .int x5] (LAY, RFu r, mem) (Bk P 105 [.ref 108, .int x1, .int x2, .int x3, .int x4, .int x5, .int x6] [.int y0] (0, 0))) : P 101 [.ref 108, .int x1, .int x2, .int x3, .int x4, .int x5, .int x6] [.int y0] (0, 0) (LAY, RFu r, mem) := by
  refine r_aload_n hP d199_101 rfl ?_
  refine r_iload_n hP d199_102 rfl ?_
  refine r_iload hP d199_103 rfl ?_
  exact r_callv (As := [.int x3, .int x5]) (S := [.int y0]) hP d199_105 cr_12_211 (by decide +kernel) rfl (by simp [Value.category]) rfl ly_108 (by simp [Value.category]) ⟨Nat.zero_le _, Nat.zero_le _⟩ k
theorem b199_108 {d : Nat} {P : xPr} {Q : xQr} {r : Nat} {mem : Nat → Nat → Int32} (hP : Cl d none 199 P Q) {x1 : Int32} {x2 : Int32} {x3 : Int32} {x4 : Int32} {x5 : Int32} {x6 : Int32} {y0 : Int32} {y1 : Int32}
    (kt : y0 ≤ y1 → P 115 [.ref 108, .int x1, .int x2, .int x3, .int x4, .int x5, .int x6] [] (0, 0) (LAY, RFu r, mem)) (kf : ¬ y0 ≤ y1 → P 111 [.ref 108, .int x1, .int x2, .int x3, .int x4, .int x5, .int x6] [] (0, 0) (LAY, RFu r, mem)) : P 108 [.ref 108, .int x1, .int x2, .int x3, .int x4, .int x5, .int x6] [.int y1, .int y0] (0, 0) (LAY, RFu r, mem) := by
  exact r_icmp (t := 115) hP d199_108 (by decide) kt kf
theorem b199_111 {d : Nat} {P : xPr} {Q : xQr} {r : Nat} {mem : Nat → Nat → Int32} (hP : Cl d none 199 P Q) {x1 : Int32} {x2 : Int32} {x3 : Int32} {x4 : Int32} {v5 : Value} {x6 : Int32}
    (k : P 115 [.ref 108, .int x1, .int x2, .int x3, .int x4, .int x6, .int x6] [] (0, 0) (LAY, RFu r, mem)) : P 111 [.ref 108, .int x1, .int x2, .int x3, .int x4, v5, .int x6] [] (0, 0) (LAY, RFu r, mem) := by
  refine r_iload hP d199_111 rfl ?_
  refine r_istore (L' := [.ref 108, .int x1, .int x2, .int x3, .int x4, .int x6, .int x6]) hP d199_113 (Nat.le_of_ble_eq_true rfl) rfl ?_
  exact k
theorem b199_115 {d : Nat} {P : xPr} {Q : xQr} {r : Nat} {mem : Nat → Nat → Int32} (hP : Cl d none 199 P Q) {x1 : Int32} {x2 : Int32} {x3 : Int32} {x4 : Int32} {x5 : Int32} {x6 : Int32}
    (k : P 47 [.ref 108, .int x1, .int x2, .int x3, .int x4, .int x5, .int (x6 + nI 1)] [] (0, 0) (LAY, RFu r, mem)) : P 115 [.ref 108, .int x1, .int x2, .int x3, .int x4, .int x5, .int x6] [] (0, 0) (LAY, RFu r, mem) := by
  refine r_iinc (v := nI 1) (L' := [.ref 108, .int x1, .int x2, .int x3, .int x4, .int x5, .int (x6 + nI 1)]) hP d199_115 rfl rfl rfl ?_
  refine r_goto (t := 47) hP d199_118 (by decide) ?_
  exact k
theorem b199_121 {d : Nat} {P : xPr} {Q : xQr} {r : Nat} {mem : Nat → Nat → Int32} (hP : Cl d none 199 P Q) {x1 : Int32} {x2 : Int32} {x3 : Int32} {x4 : Int32} {x5 : Int32} {v6 : Value}
    (kt : ¬ x5 = (-1) → P 130 [.ref 108, .int x1, .int x2, .int x3, .int x4, .int x5, v6] [] (0, 0) (LAY, RFu r, mem)) (kf : x5 = (-1) → P 127 [.ref 108, .int x1, .int x2, .int x3, .int x4, .int x5, v6] [] (0, 0) (LAY, RFu r, mem)) : P 121 [.ref 108, .int x1, .int x2, .int x3, .int x4, .int x5, v6] [] (0, 0) (LAY, RFu r, mem) := by
  refine r_iload hP d199_121 rfl ?_
  refine r_iconst (v := (-1)) hP d199_123 rfl ?_
  exact r_icmp (t := 130) hP d199_124 (by decide) kt (fun q => kf (Decidable.of_not_not q))
theorem b199_127 {d : Nat} {P : xPr} {Q : xQr} {r : Nat} {mem : Nat → Nat → Int32} (hP : Cl d none 199 P Q) {x1 : Int32} {x2 : Int32} {x3 : Int32} {x4 : Int32} {x5 : Int32} {v6 : Value}
    (k : P 35 [.ref 108, .int x1, .int x2, .int x3, .int x4, .int x5, v6] [] (0, 0) (LAY, RFu r, mem)) : P 127 [.ref 108, .int x1, .int x2, .int x3, .int x4, .int x5, v6] [] (0, 0) (LAY, RFu r, mem) := by
  refine r_goto (t := 35) hP d199_127 (by decide) ?_
  exact k
theorem b199_130 {d : Nat} {P : xPr} {Q : xQr} {r : Nat} {mem : Nat → Nat → Int32} (hP : Cl d none 199 P Q) {x1 : Int32} {x2 : Int32} {x3 : Int32} {x4 : Int32} {x5 : Int32} {v6 : Value}
    (k : xCall d 161 [.ref 108, .int x5] (LAY, RFu r, mem) (Bk P 133 [.ref 108, .int x1, .int x2, .int x3, .int x4, .int x5, v6] [] (0, 0))) : P 130 [.ref 108, .int x1, .int x2, .int x3, .int x4, .int x5, v6] [] (0, 0) (LAY, RFu r, mem) := by
  refine r_aload_n hP d199_130 rfl ?_
  refine r_iload hP d199_131 rfl ?_
  exact r_callv (As := [.int x5]) (S := []) hP d199_133 cr_12_258 (by decide +kernel) rfl (by simp [Value.category]) rfl ly_108 (by simp [Value.category]) ⟨Nat.zero_le _, Nat.zero_le _⟩ k
theorem b199_136 {d : Nat} {P : xPr} {Q : xQr} {r : Nat} {mem : Nat → Nat → Int32} (hP : Cl d none 199 P Q) {x1 : Int32} {x2 : Int32} {x3 : Int32} {x4 : Int32} {x5 : Int32} {v6 : Value}
    (k : P 35 [.ref 108, .int x1, .int (x2 + nI 1), .int x3, .int (x4 ||| ((nI 1) <<< (x5 &&& 31))), .int x5, v6] [] (0, 0) (LAY, RFu r, mem)) : P 136 [.ref 108, .int x1, .int x2, .int x3, .int x4, .int x5, v6] [] (0, 0) (LAY, RFu r, mem) := by
  refine r_iload hP d199_136 rfl ?_
  refine r_iconst (v := nI 1) hP d199_138 rfl ?_
  refine r_iload hP d199_139 rfl ?_
  refine r_ishl hP d199_141 ?_
  refine r_ior hP d199_142 ?_
  refine r_istore (L' := [.ref 108, .int x1, .int x2, .int x3, .int (x4 ||| ((nI 1) <<< (x5 &&& 31))), .int x5, v6]) hP d199_143 (Nat.le_of_ble_eq_true rfl) rfl ?_
  refine r_iinc (v := nI 1) (L' := [.ref 108, .int x1, .int (x2 + nI 1), .int x3, .int (x4 ||| ((nI 1) <<< (x5 &&& 31))), .int x5, v6]) hP d199_145 rfl rfl rfl ?_
  refine r_goto (t := 35) hP d199_148 (by decide) ?_
  exact k
theorem b199_151 {d : Nat} {P : xPr} {Q : xQr} {r : Nat} {mem : Nat → Nat → Int32} (hP : Cl d none 199 P Q) {x1 : Int32} {x2 : Int32} {x3 : Int32} {v4 : Value} {v5 : Value} {v6 : Value}
    (k : P 24 [.ref 108, .int x1, .int x2, .int (x3 + nI 1), v4, v5, v6] [] (0, 0) (LAY, RFu r, mem)) : P 151 [.ref 108, .int x1, .int x2, .int x3, v4, v5, v6] [] (0, 0) (LAY, RFu r, mem) := by
  refine r_iinc (v := nI 1) (L' := [.ref 108, .int x1, .int x2, .int (x3 + nI 1), v4, v5, v6]) hP d199_151 rfl rfl rfl ?_
  refine r_goto (t := 24) hP d199_154 (by decide) ?_
  exact k
theorem b199_157 {d : Nat} {P : xPr} {Q : xQr} {r : Nat} {mem : Nat → Nat → Int32} (hP : Cl d none 199 P Q) {v0 : Value} {v1 : Value} {x2 : Int32} {v3 : Value} {v4 : Value} {v5 : Value} {v6 : Value}
    (k : Q (some (.int x2)) (LAY, RFu r, mem)) : P 157 [v0, v1, .int x2, v3, v4, v5, v6] [] (0, 0) (LAY, RFu r, mem) := by
  refine r_iload_n hP d199_157 rfl ?_
  exact r_iret hP d199_158 rfl k
theorem d200_0 : decode (xB 200) 0 = .ok (.aload_n 0, 1) := by decide +kernel
theorem d200_1 : decode (xB 200) 1 = .ok (.iconst 0, 1) := by decide +kernel
theorem d200_2 : decode (xB 200) 2 = .ok (.putfield 121, 3) := by decide +kernel
theorem d200_5 : decode (xB 200) 5 = .ok (.aload_n 0, 1) := by decide +kernel
theorem d200_6 : decode (xB 200) 6 = .ok (.aload_n 0, 1) := by decide +kernel
theorem d200_7 : decode (xB 200) 7 = .ok (.getfield 50, 3) := by decide +kernel
theorem d200_10 : decode (xB 200) 10 = .ok (.aload_n 0, 1) := by decide +kernel
theorem d200_11 : decode (xB 200) 11 = .ok (.getfield 141, 3) := by decide +kernel
theorem d200_14 : decode (xB 200) 14 = .ok (.bipush 60, 2) := by decide +kernel
theorem d200_16 : decode (xB 200) 16 = .ok (.invokevirtual 171, 3) := by decide +kernel
theorem d200_19 : decode (xB 200) 19 = .ok (.aload_n 0, 1) := by decide +kernel
theorem d200_20 : decode (xB 200) 20 = .ok (.iconst 0, 1) := by decide +kernel
theorem d200_21 : decode (xB 200) 21 = .ok (.putfield 141, 3) := by decide +kernel
theorem d200_24 : decode (xB 200) 24 = .ok (.iconst 0, 1) := by decide +kernel
theorem d200_25 : decode (xB 200) 25 = .ok (.istore_n 1, 1) := by decide +kernel
theorem d200_26 : decode (xB 200) 26 = .ok (.aload_n 0, 1) := by decide +kernel
theorem d200_27 : decode (xB 200) 27 = .ok (.getfield 147, 3) := by decide +kernel
theorem d200_30 : decode (xB 200) 30 = .ok (.ifCond .le 7, 3) := by decide +kernel
theorem d200_33 : decode (xB 200) 33 = .ok (.iconst 1, 1) := by decide +kernel
theorem d200_34 : decode (xB 200) 34 = .ok (.goto 4, 3) := by decide +kernel
theorem d200_37 : decode (xB 200) 37 = .ok (.iconst 0, 1) := by decide +kernel
theorem d200_38 : decode (xB 200) 38 = .ok (.istore_n 2, 1) := by decide +kernel
theorem d200_39 : decode (xB 200) 39 = .ok (.iload_n 2, 1) := by decide +kernel
theorem d200_40 : decode (xB 200) 40 = .ok (.ifCond .eq 30, 3) := by decide +kernel
theorem d200_43 : decode (xB 200) 43 = .ok (.aload_n 0, 1) := by decide +kernel
theorem d200_44 : decode (xB 200) 44 = .ok (.invokevirtual 159, 3) := by decide +kernel
theorem d200_47 : decode (xB 200) 47 = .ok (.ifCond .eq 23, 3) := by decide +kernel
theorem d200_50 : decode (xB 200) 50 = .ok (.aload_n 0, 1) := by decide +kernel
theorem d200_51 : decode (xB 200) 51 = .ok (.iconst 4, 1) := by decide +kernel
theorem d200_52 : decode (xB 200) 52 = .ok (.iload_n 1, 1) := by decide +kernel
theorem d200_53 : decode (xB 200) 53 = .ok (.imul, 1) := by decide +kernel
theorem d200_54 : decode (xB 200) 54 = .ok (.invokevirtual 267, 3) := by decide +kernel
theorem d200_57 : decode (xB 200) 57 = .ok (.iinc 1 1, 3) := by decide +kernel
theorem d200_60 : decode (xB 200) 60 = .ok (.aload_n 0, 1) := by decide +kernel
theorem d200_61 : decode (xB 200) 61 = .ok (.bipush 59, 2) := by decide +kernel
theorem d200_63 : decode (xB 200) 63 = .ok (.invokevirtual 179, 3) := by decide +kernel
theorem d200_66 : decode (xB 200) 66 = .ok (.istore_n 2, 1) := by decide +kernel
theorem d200_67 : decode (xB 200) 67 = .ok (.goto (-28), 3) := by decide +kernel
theorem d200_70 : decode (xB 200) 70 = .ok (.aload_n 0, 1) := by decide +kernel
theorem d200_71 : decode (xB 200) 71 = .ok (.getfield 153, 3) := by decide +kernel
theorem d200_74 : decode (xB 200) 74 = .ok (.aload_n 0, 1) := by decide +kernel
theorem d200_75 : decode (xB 200) 75 = .ok (.getfield 147, 3) := by decide +kernel
theorem d200_78 : decode (xB 200) 78 = .ok (.if_icmp .ge 11, 3) := by decide +kernel
theorem d200_81 : decode (xB 200) 81 = .ok (.aload_n 0, 1) := by decide +kernel
theorem d200_82 : decode (xB 200) 82 = .ok (.aload_n 0, 1) := by decide +kernel
theorem d200_83 : decode (xB 200) 83 = .ok (.getfield 153, 3) := by decide +kernel
theorem d200_86 : decode (xB 200) 86 = .ok (.invokevirtual 167, 3) := by decide +kernel
theorem d200_89 : decode (xB 200) 89 = .ok (.aload_n 0, 1) := by decide +kernel
theorem d200_90 : decode (xB 200) 90 = .ok (.invokevirtual 159, 3) := by decide +kernel
theorem d200_93 : decode (xB 200) 93 = .ok (.ifCond .ne 10, 3) := by decide +kernel
theorem d200_96 : decode (xB 200) 96 = .ok (.iconst (-1), 1) := by decide +kernel
theorem d200_97 : decode (xB 200) 97 = .ok (.aload_n 0, 1) := by decide +kernel
theorem d200_98 : decode (xB 200) 98 = .ok (.getfield 156, 3) := by decide +kernel
theorem d200_101 : decode (xB 200) 101 = .ok (.isub, 1) := by decide +kernel
theorem d200_102 : decode (xB 200) 102 = .ok (.ireturn, 1) := by decide +kernel
theorem d200_103 : decode (xB 200) 103 = .ok (.iconst 0, 1) := by decide +kernel
theorem d200_104 : decode (xB 200) 104 = .ok (.istore_n 3, 1) := by decide +kernel
theorem d200_105 : decode (xB 200) 105 = .ok (.iconst 0, 1) := by decide +kernel
theorem d200_106 : decode (xB 200) 106 = .ok (.istore 4, 2) := by decide +kernel
theorem d200_108 : decode (xB 200) 108 = .ok (.iconst 0, 1) := by decide +kernel
theorem d200_109 : decode (xB 200) 109 = .ok (.istore 5, 2) := by decide +kernel
theorem d200_111 : decode (xB 200) 111 = .ok (.iconst 0, 1) := by decide +kernel
theorem d200_112 : decode (xB 200) 112 = .ok (.istore 6, 2) := by decide +kernel
theorem d200_114 : decode (xB 200) 114 = .ok (.iload 5, 2) := by decide +kernel
theorem d200_116 : decode (xB 200) 116 = .ok (.iload_n 1, 1) := by decide +kernel
theorem d200_117 : decode (xB 200) 117 = .ok (.if_icmp .ge 210, 3) := by decide +kernel
theorem d200_120 : decode (xB 200) 120 = .ok (.iload 6, 2) := by decide +kernel
theorem d200_122 : decode (xB 200) 122 = .ok (.ifCond .ne 205, 3) := by decide +kernel
theorem d200_125 : decode (xB 200) 125 = .ok (.iconst 4, 1) := by decide +kernel
theorem d200_126 : decode (xB 200) 126 = .ok (.iload 5, 2) := by decide +kernel
theorem d200_128 : decode (xB 200) 128 = .ok (.imul, 1) := by decide +kernel
theorem d200_129 : decode (xB 200) 129 = .ok (.istore 7, 2) := by decide +kernel
theorem d200_131 : decode (xB 200) 131 = .ok (.aload_n 0, 1) := by decide +kernel
theorem d200_132 : decode (xB 200) 132 = .ok (.getfield 90, 3) := by decide +kernel
theorem d200_135 : decode (xB 200) 135 = .ok (.iload 7, 2) := by decide +kernel
theorem d200_137 : decode (xB 200) 137 = .ok (.iaload, 1) := by decide +kernel
theorem d200_138 : decode (xB 200) 138 = .ok (.istore 8, 2) := by decide +kernel
theorem d200_140 : decode (xB 200) 140 = .ok (.iload 8, 2) := by decide +kernel
theorem d200_142 : decode (xB 200) 142 = .ok (.bipush 113, 2) := by decide +kernel
theorem d200_144 : decode (xB 200) 144 = .ok (.if_icmp .ne 36, 3) := by decide +kernel
theorem d200_147 : decode (xB 200) 147 = .ok (.iload 4, 2) := by decide +kernel
theorem d200_149 : decode (xB 200) 149 = .ok (.aload_n 0, 1) := by decide +kernel
theorem d200_150 : decode (xB 200) 150 = .ok (.aload_n 0, 1) := by decide +kernel
theorem d200_151 : decode (xB 200) 151 = .ok (.getfield 90, 3) := by decide +kernel
theorem d200_154 : decode (xB 200) 154 = .ok (.iload 7, 2) := by decide +kernel
theorem d200_156 : decode (xB 200) 156 = .ok (.iconst 1, 1) := by decide +kernel
theorem d200_157 : decode (xB 200) 157 = .ok (.iadd, 1) := by decide +kernel
theorem d200_158 : decode (xB 200) 158 = .ok (.iaload, 1) := by decide +kernel
theorem d200_159 : decode (xB 200) 159 = .ok (.invokevirtual 270, 3) := by decide +kernel
theorem d200_162 : decode (xB 200) 162 = .ok (.iadd, 1) := by decide +kernel
theorem d200_163 : decode (xB 200) 163 = .ok (.istore 4, 2) := by decide +kernel
theorem d200_165 : decode (xB 200) 165 = .ok (.iload_n 3, 1) := by decide +kernel
theorem d200_166 : decode (xB 200) 166 = .ok (.aload_n 0, 1) := by decide +kernel
theorem d200_167 : decode (xB 200) 167 = .ok (.getfield 90, 3) := by decide +kernel
theorem d200_170 : decode (xB 200) 170 = .ok (.iload 7, 2) := by decide +kernel
theorem d200_172 : decode (xB 200) 172 = .ok (.iconst 1, 1) := by decide +kernel
theorem d200_173 : decode (xB 200) 173 = .ok (.iadd, 1) := by decide +kernel
theorem d200_174 : decode (xB 200) 174 = .ok (.iaload, 1) := by decide +kernel
theorem d200_175 : decode (xB 200) 175 = .ok (.iadd, 1) := by decide +kernel
theorem d200_176 : decode (xB 200) 176 = .ok (.istore_n 3, 1) := by decide +kernel
theorem d200_177 : decode (xB 200) 177 = .ok (.goto 132, 3) := by decide +kernel
theorem d200_180 : decode (xB 200) 180 = .ok (.iload 8, 2) := by decide +kernel
theorem d200_182 : decode (xB 200) 182 = .ok (.bipush 99, 2) := by decide +kernel
theorem d200_184 : decode (xB 200) 184 = .ok (.if_icmp .ne 39, 3) := by decide +kernel
theorem d200_187 : decode (xB 200) 187 = .ok (.aload_n 0, 1) := by decide +kernel
theorem d200_188 : decode (xB 200) 188 = .ok (.aload_n 0, 1) := by decide +kernel
theorem d200_189 : decode (xB 200) 189 = .ok (.getfield 90, 3) := by decide +kernel
theorem d200_192 : decode (xB 200) 192 = .ok (.iload 7, 2) := by decide +kernel
theorem d200_194 : decode (xB 200) 194 = .ok (.iconst 1, 1) := by decide +kernel
theorem d200_195 : decode (xB 200) 195 = .ok (.iadd, 1) := by decide +kernel
theorem d200_196 : decode (xB 200) 196 = .ok (.iaload, 1) := by decide +kernel
theorem d200_197 : decode (xB 200) 197 = .ok (.aload_n 0, 1) := by decide +kernel
theorem d200_198 : decode (xB 200) 198 = .ok (.getfield 90, 3) := by decide +kernel
theorem d200_201 : decode (xB 200) 201 = .ok (.iload 7, 2) := by decide +kernel
theorem d200_203 : decode (xB 200) 203 = .ok (.iconst 2, 1) := by decide +kernel
theorem d200_204 : decode (xB 200) 204 = .ok (.iadd, 1) := by decide +kernel
theorem d200_205 : decode (xB 200) 205 = .ok (.iaload, 1) := by decide +kernel
theorem d200_206 : decode (xB 200) 206 = .ok (.invokevirtual 273, 3) := by decide +kernel
theorem d200_209 : decode (xB 200) 209 = .ok (.iconst (-1), 1) := by decide +kernel
theorem d200_210 : decode (xB 200) 210 = .ok (.if_icmp .ne 7, 3) := by decide +kernel
theorem d200_213 : decode (xB 200) 213 = .ok (.iconst 1, 1) := by decide +kernel
theorem d200_214 : decode (xB 200) 214 = .ok (.goto 4, 3) := by decide +kernel
theorem d200_217 : decode (xB 200) 217 = .ok (.iconst 0, 1) := by decide +kernel
theorem d200_218 : decode (xB 200) 218 = .ok (.istore 6, 2) := by decide +kernel
theorem d200_220 : decode (xB 200) 220 = .ok (.goto 89, 3) := by decide +kernel
theorem d200_223 : decode (xB 200) 223 = .ok (.iload 8, 2) := by decide +kernel
theorem d200_225 : decode (xB 200) 225 = .ok (.bipush 108, 2) := by decide +kernel
theorem d200_227 : decode (xB 200) 227 = .ok (.if_icmp .ne 47, 3) := by decide +kernel
theorem d200_230 : decode (xB 200) 230 = .ok (.aload_n 0, 1) := by decide +kernel
theorem d200_231 : decode (xB 200) 231 = .ok (.aload_n 0, 1) := by decide +kernel
theorem d200_232 : decode (xB 200) 232 = .ok (.getfield 90, 3) := by decide +kernel
theorem d200_235 : decode (xB 200) 235 = .ok (.iload 7, 2) := by decide +kernel
theorem d200_237 : decode (xB 200) 237 = .ok (.iconst 1, 1) := by decide +kernel
theorem d200_238 : decode (xB 200) 238 = .ok (.iadd, 1) := by decide +kernel
theorem d200_239 : decode (xB 200) 239 = .ok (.iaload, 1) := by decide +kernel
theorem d200_240 : decode (xB 200) 240 = .ok (.aload_n 0, 1) := by decide +kernel
theorem d200_241 : decode (xB 200) 241 = .ok (.getfield 90, 3) := by decide +kernel
theorem d200_244 : decode (xB 200) 244 = .ok (.iload 7, 2) := by decide +kernel
theorem d200_246 : decode (xB 200) 246 = .ok (.iconst 2, 1) := by decide +kernel
theorem d200_247 : decode (xB 200) 247 = .ok (.iadd, 1) := by decide +kernel
theorem d200_248 : decode (xB 200) 248 = .ok (.iaload, 1) := by decide +kernel
theorem d200_249 : decode (xB 200) 249 = .ok (.aload_n 0, 1) := by decide +kernel
theorem d200_250 : decode (xB 200) 250 = .ok (.getfield 90, 3) := by decide +kernel
theorem d200_253 : decode (xB 200) 253 = .ok (.iload 7, 2) := by decide +kernel
theorem d200_255 : decode (xB 200) 255 = .ok (.iconst 3, 1) := by decide +kernel
theorem d200_256 : decode (xB 200) 256 = .ok (.iadd, 1) := by decide +kernel
theorem d200_257 : decode (xB 200) 257 = .ok (.iaload, 1) := by decide +kernel
theorem d200_258 : decode (xB 200) 258 = .ok (.invokevirtual 275, 3) := by decide +kernel
theorem d200_261 : decode (xB 200) 261 = .ok (.ifCond .ne 7, 3) := by decide +kernel
theorem d200_264 : decode (xB 200) 264 = .ok (.iconst 1, 1) := by decide +kernel
theorem d200_265 : decode (xB 200) 265 = .ok (.goto 4, 3) := by decide +kernel
theorem d200_268 : decode (xB 200) 268 = .ok (.iconst 0, 1) := by decide +kernel
theorem d200_269 : decode (xB 200) 269 = .ok (.istore 6, 2) := by decide +kernel
theorem d200_271 : decode (xB 200) 271 = .ok (.goto 38, 3) := by decide +kernel
theorem d200_274 : decode (xB 200) 274 = .ok (.aload_n 0, 1) := by decide +kernel
theorem d200_275 : decode (xB 200) 275 = .ok (.aload_n 0, 1) := by decide +kernel
theorem d200_276 : decode (xB 200) 276 = .ok (.getfield 90, 3) := by decide +kernel
theorem d200_279 : decode (xB 200) 279 = .ok (.iload 7, 2) := by decide +kernel
theorem d200_281 : decode (xB 200) 281 = .ok (.iconst 1, 1) := by decide +kernel
theorem d200_282 : decode (xB 200) 282 = .ok (.iadd, 1) := by decide +kernel
theorem d200_283 : decode (xB 200) 283 = .ok (.iaload, 1) := by decide +kernel
theorem d200_284 : decode (xB 200) 284 = .ok (.iload 8, 2) := by decide +kernel
theorem d200_286 : decode (xB 200) 286 = .ok (.bipush 115, 2) := by decide +kernel
theorem d200_288 : decode (xB 200) 288 = .ok (.if_icmp .ne 7, 3) := by decide +kernel
theorem d200_291 : decode (xB 200) 291 = .ok (.iconst 1, 1) := by decide +kernel
theorem d200_292 : decode (xB 200) 292 = .ok (.goto 4, 3) := by decide +kernel
theorem d200_295 : decode (xB 200) 295 = .ok (.iconst 0, 1) := by decide +kernel
theorem d200_296 : decode (xB 200) 296 = .ok (.invokevirtual 278, 3) := by decide +kernel
theorem d200_299 : decode (xB 200) 299 = .ok (.ifCond .ne 7, 3) := by decide +kernel
theorem d200_302 : decode (xB 200) 302 = .ok (.iconst 1, 1) := by decide +kernel
theorem d200_303 : decode (xB 200) 303 = .ok (.goto 4, 3) := by decide +kernel
theorem d200_306 : decode (xB 200) 306 = .ok (.iconst 0, 1) := by decide +kernel
theorem d200_307 : decode (xB 200) 307 = .ok (.istore 6, 2) := by decide +kernel
theorem d200_309 : decode (xB 200) 309 = .ok (.iload 5, 2) := by decide +kernel
theorem d200_311 : decode (xB 200) 311 = .ok (.iload 6, 2) := by decide +kernel
theorem d200_313 : decode (xB 200) 313 = .ok (.ifCond .eq 7, 3) := by decide +kernel
theorem d200_316 : decode (xB 200) 316 = .ok (.iconst 0, 1) := by decide +kernel
theorem d200_317 : decode (xB 200) 317 = .ok (.goto 4, 3) := by decide +kernel
theorem d200_320 : decode (xB 200) 320 = .ok (.iconst 1, 1) := by decide +kernel
theorem d200_321 : decode (xB 200) 321 = .ok (.iadd, 1) := by decide +kernel
theorem d200_322 : decode (xB 200) 322 = .ok (.istore 5, 2) := by decide +kernel
theorem d200_324 : decode (xB 200) 324 = .ok (.goto (-210), 3) := by decide +kernel
theorem d200_327 : decode (xB 200) 327 = .ok (.aload_n 0, 1) := by decide +kernel
theorem d200_328 : decode (xB 200) 328 = .ok (.iconst 0, 1) := by decide +kernel
theorem d200_329 : decode (xB 200) 329 = .ok (.putfield 124, 3) := by decide +kernel
theorem d200_332 : decode (xB 200) 332 = .ok (.aload_n 0, 1) := by decide +kernel
theorem d200_333 : decode (xB 200) 333 = .ok (.iload_n 3, 1) := by decide +kernel
theorem d200_334 : decode (xB 200) 334 = .ok (.invokevirtual 258, 3) := by decide +kernel
theorem d200_337 : decode (xB 200) 337 = .ok (.aload_n 0, 1) := by decide +kernel
theorem d200_338 : decode (xB 200) 338 = .ok (.iload 4, 2) := by decide +kernel
theorem d200_340 : decode (xB 200) 340 = .ok (.invokevirtual 258, 3) := by decide +kernel
theorem d200_343 : decode (xB 200) 343 = .ok (.aload_n 0, 1) := by decide +kernel
theorem d200_344 : decode (xB 200) 344 = .ok (.iload 6, 2) := by decide +kernel
theorem d200_346 : decode (xB 200) 346 = .ok (.ifCond .eq 7, 3) := by decide +kernel
theorem d200_349 : decode (xB 200) 349 = .ok (.iconst 1, 1) := by decide +kernel
theorem d200_350 : decode (xB 200) 350 = .ok (.goto 4, 3) := by decide +kernel
theorem d200_353 : decode (xB 200) 353 = .ok (.iconst 0, 1) := by decide +kernel
theorem d200_354 : decode (xB 200) 354 = .ok (.invokevirtual 258, 3) := by decide +kernel
theorem d200_357 : decode (xB 200) 357 = .ok (.iload 5, 2) := by decide +kernel
theorem d200_359 : decode (xB 200) 359 = .ok (.ireturn, 1) := by decide +kernel
theorem b200_0 {d : Nat} {P : xPr} {Q : xQr} {r : Nat} {mem : Nat → Nat → Int32} (hP : Cl d none 200 P Q)
    (k : xCall d 167 [.ref 108, .ref 122, .int ((xu2 mem 108 20 (nI 0)) 108 17), .int (nI 60)] (LAY, RFu r, xu2 mem 108 20 (nI 0)) (Bk P 16 [.ref 108, .null, .null, .null, .null, .null, .null, .null, .null] [] (0, 0))) : P 0 [.ref 108, .null, .null, .null, .null, .null, .null, .null, .null] [] (0, 0) (LAY, RFu r, mem) := by
  refine r_aload_n hP d200_0 rfl ?_
  refine r_iconst (v := nI 0) hP d200_1 rfl ?_
  refine r_puti hP d200_2 fr_12_121 rfl (fun q => by cases q) ly_108 ?_
  refine r_aload_n hP d200_5 rfl ?_
  refine r_aload_n hP d200_6 rfl ?_
  refine r_getr (a := 122) hP d200_7 fr_12_50 rfl ly_108 rg_108_16 ?_
  refine r_aload_n hP d200_10 rfl ?_
  refine r_geti hP d200_11 fr_12_141 rfl ly_108 ?_
  refine r_bipush (v := nI 60) hP d200_14 rfl ?_
  exact r_callv (As := [.ref 122, .int ((xu2 mem 108 20 (nI 0)) 108 17), .int (nI 60)]) (S := []) hP d200_16 cr_12_171 (by decide +kernel) rfl (by simp [Value.category]) rfl ly_108 (by simp [Value.category]) ⟨Nat.zero_le _, Nat.zero_le _⟩ k
theorem b200_19 {d : Nat} {P : xPr} {Q : xQr} {r : Nat} {mem : Nat → Nat → Int32} (hP : Cl d none 200 P Q) {v1 : Value} {v2 : Value} {v3 : Value} {v4 : Value} {v5 : Value} {v6 : Value} {v7 : Value} {v8 : Value}
    (kt : ((xu2 mem 108 17 (nI 0)) 108 22) ≤ 0 → P 37 [.ref 108, .int (nI 0), v2, v3, v4, v5, v6, v7, v8] [] (0, 0) (LAY, RFu r, xu2 mem 108 17 (nI 0))) (kf : ¬ ((xu2 mem 108 17 (nI 0)) 108 22) ≤ 0 → P 33 [.ref 108, .int (nI 0), v2, v3, v4, v5, v6, v7, v8] [] (0, 0) (LAY, RFu r, xu2 mem 108 17 (nI 0))) : P 19 [.ref 108, v1, v2, v3, v4, v5, v6, v7, v8] [] (0, 0) (LAY, RFu r, mem) := by
  refine r_aload_n hP d200_19 rfl ?_
  refine r_iconst (v := nI 0) hP d200_20 rfl ?_
  refine r_puti hP d200_21 fr_12_141 rfl (fun q => by cases q) ly_108 ?_
  refine r_iconst (v := nI 0) hP d200_24 rfl ?_
  refine r_istore_n (L' := [.ref 108, .int (nI 0), v2, v3, v4, v5, v6, v7, v8]) hP d200_25 (Nat.le_of_ble_eq_true rfl) rfl ?_
  refine r_aload_n hP d200_26 rfl ?_
  refine r_geti hP d200_27 fr_12_147 rfl ly_108 ?_
  exact r_if (t := 37) hP d200_30 (by decide) kt kf
theorem b200_33 {d : Nat} {P : xPr} {Q : xQr} {r : Nat} {mem : Nat → Nat → Int32} (hP : Cl d none 200 P Q) {x1 : Int32} {v2 : Value} {v3 : Value} {v4 : Value} {v5 : Value} {v6 : Value} {v7 : Value} {v8 : Value}
    (k : P 38 [.ref 108, .int x1, v2, v3, v4, v5, v6, v7, v8] [.int (nI 1)] (0, 0) (LAY, RFu r, mem)) : P 33 [.ref 108, .int x1, v2, v3, v4, v5, v6, v7, v8] [] (0, 0) (LAY, RFu r, mem) := by
  refine r_iconst (v := nI 1) hP d200_33 rfl ?_
  refine r_goto (t := 38) hP d200_34 (by decide) ?_
  exact k
theorem b200_37 {d : Nat} {P : xPr} {Q : xQr} {r : Nat} {mem : Nat → Nat → Int32} (hP : Cl d none 200 P Q) {x1 : Int32} {v2 : Value} {v3 : Value} {v4 : Value} {v5 : Value} {v6 : Value} {v7 : Value} {v8 : Value}
    (k : P 38 [.ref 108, .int x1, v2, v3, v4, v5, v6, v7, v8] [.int (nI 0)] (0, 0) (LAY, RFu r, mem)) : P 37 [.ref 108, .int x1, v2, v3, v4, v5, v6, v7, v8] [] (0, 0) (LAY, RFu r, mem) := by
  refine r_iconst (v := nI 0) hP d200_37 rfl ?_
  exact k
theorem b200_38 {d : Nat} {P : xPr} {Q : xQr} {r : Nat} {mem : Nat → Nat → Int32} (hP : Cl d none 200 P Q) {x1 : Int32} {v2 : Value} {v3 : Value} {v4 : Value} {v5 : Value} {v6 : Value} {v7 : Value} {v8 : Value} {y0 : Int32}
    (k : P 39 [.ref 108, .int x1, .int y0, v3, v4, v5, v6, v7, v8] [] (0, 0) (LAY, RFu r, mem)) : P 38 [.ref 108, .int x1, v2, v3, v4, v5, v6, v7, v8] [.int y0] (0, 0) (LAY, RFu r, mem) := by
  refine r_istore_n (L' := [.ref 108, .int x1, .int y0, v3, v4, v5, v6, v7, v8]) hP d200_38 (Nat.le_of_ble_eq_true rfl) rfl ?_
  exact k
theorem b200_39 {d : Nat} {P : xPr} {Q : xQr} {r : Nat} {mem : Nat → Nat → Int32} (hP : Cl d none 200 P Q) {x1 : Int32} {x2 : Int32} {v3 : Value} {v4 : Value} {v5 : Value} {v6 : Value} {v7 : Value} {v8 : Value}
    (kt : x2 = 0 → P 70 [.ref 108, .int x1, .int x2, v3, v4, v5, v6, v7, v8] [] (0, 0) (LAY, RFu r, mem)) (kf : ¬ x2 = 0 → P 43 [.ref 108, .int x1, .int x2, v3, v4, v5, v6, v7, v8] [] (0, 0) (LAY, RFu r, mem)) : P 39 [.ref 108, .int x1, .int x2, v3, v4, v5, v6, v7, v8] [] (0, 0) (LAY, RFu r, mem) := by
  refine r_iload_n hP d200_39 rfl ?_
  exact r_if (t := 70) hP d200_40 (by decide) kt kf
theorem b200_43 {d : Nat} {P : xPr} {Q : xQr} {r : Nat} {mem : Nat → Nat → Int32} (hP : Cl d none 200 P Q) {x1 : Int32} {v2 : Value} {v3 : Value} {v4 : Value} {v5 : Value} {v6 : Value} {v7 : Value} {v8 : Value}
    (k : xCall d 169 [.ref 108] (LAY, RFu r, mem) (Bk P 44 [.ref 108, .int x1, v2, v3, v4, v5, v6, v7, v8] [] (0, 0))) : P 43 [.ref 108, .int x1, v2, v3, v4, v5, v6, v7, v8] [] (0, 0) (LAY, RFu r, mem) := by
  refine r_aload_n hP d200_43 rfl ?_
  exact r_callv (As := []) (S := []) hP d200_44 cr_12_159 (by decide +kernel) rfl (by simp) rfl ly_108 (by simp [Value.category]) ⟨Nat.zero_le _, Nat.zero_le _⟩ k
theorem b200_47 {d : Nat} {P : xPr} {Q : xQr} {r : Nat} {mem : Nat → Nat → Int32} (hP : Cl d none 200 P Q) {x1 : Int32} {v2 : Value} {v3 : Value} {v4 : Value} {v5 : Value} {v6 : Value} {v7 : Value} {v8 : Value} {y0 : Int32}
    (kt : y0 = 0 → P 70 [.ref 108, .int x1, v2, v3, v4, v5, v6, v7, v8] [] (0, 0) (LAY, RFu r, mem)) (kf : ¬ y0 = 0 → P 50 [.ref 108, .int x1, v2, v3, v4, v5, v6, v7, v8] [] (0, 0) (LAY, RFu r, mem)) : P 47 [.ref 108, .int x1, v2, v3, v4, v5, v6, v7, v8] [.int y0] (0, 0) (LAY, RFu r, mem) := by
  exact r_if (t := 70) hP d200_47 (by decide) kt kf
theorem b200_50 {d : Nat} {P : xPr} {Q : xQr} {r : Nat} {mem : Nat → Nat → Int32} (hP : Cl d none 200 P Q) {x1 : Int32} {v2 : Value} {v3 : Value} {v4 : Value} {v5 : Value} {v6 : Value} {v7 : Value} {v8 : Value}
    (k : xCall d 202 [.ref 108, .int ((nI 4) * x1)] (LAY, RFu r, mem) (Bk P 54 [.ref 108, .int x1, v2, v3, v4, v5, v6, v7, v8] [] (0, 0))) : P 50 [.ref 108, .int x1, v2, v3, v4, v5, v6, v7, v8] [] (0, 0) (LAY, RFu r, mem) := by
  refine r_aload_n hP d200_50 rfl ?_
  refine r_iconst (v := nI 4) hP d200_51 rfl ?_
  refine r_iload_n hP d200_52 rfl ?_
  refine r_imul hP d200_53 ?_
  exact r_callv (As := [.int ((nI 4) * x1)]) (S := []) hP d200_54 cr_12_267 (by decide +kernel) rfl (by simp [Value.category]) rfl ly_108 (by simp [Value.category]) ⟨Nat.zero_le _, Nat.zero_le _⟩ k
theorem b200_57 {d : Nat} {P : xPr} {Q : xQr} {r : Nat} {mem : Nat → Nat → Int32} (hP : Cl d none 200 P Q) {x1 : Int32} {v2 : Value} {v3 : Value} {v4 : Value} {v5 : Value} {v6 : Value} {v7 : Value} {v8 : Value}
    (k : xCall d 171 [.ref 108, .int (nI 59)] (LAY, RFu r, mem) (Bk P 63 [.ref 108, .int (x1 + nI 1), v2, v3, v4, v5, v6, v7, v8] [] (0, 0))) : P 57 [.ref 108, .int x1, v2, v3, v4, v5, v6, v7, v8] [] (0, 0) (LAY, RFu r, mem) := by
  refine r_iinc (v := nI 1) (L' := [.ref 108, .int (x1 + nI 1), v2, v3, v4, v5, v6, v7, v8]) hP d200_57 rfl rfl rfl ?_
  refine r_aload_n hP d200_60 rfl ?_
  refine r_bipush (v := nI 59) hP d200_61 rfl ?_
  exact r_callv (As := [.int (nI 59)]) (S := []) hP d200_63 cr_12_179 (by decide +kernel) rfl (by simp [Value.category]) rfl ly_108 (by simp [Value.category]) ⟨Nat.zero_le _, Nat.zero_le _⟩ k
theorem b200_66 {d : Nat} {P : xPr} {Q : xQr} {r : Nat} {mem : Nat → Nat → Int32} (hP : Cl d none 200 P Q) {x1 : Int32} {v2 : Value} {v3 : Value} {v4 : Value} {v5 : Value} {v6 : Value} {v7 : Value} {v8 : Value} {y0 : Int32}
    (k : P 39 [.ref 108, .int x1, .int y0, v3, v4, v5, v6, v7, v8] [] (0, 0) (LAY, RFu r, mem)) : P 66 [.ref 108, .int x1, v2, v3, v4, v5, v6, v7, v8] [.int y0] (0, 0) (LAY, RFu r, mem) := by
  refine r_istore_n (L' := [.ref 108, .int x1, .int y0, v3, v4, v5, v6, v7, v8]) hP d200_66 (Nat.le_of_ble_eq_true rfl) rfl ?_
  refine r_goto (t := 39) hP d200_67 (by decide) ?_
  exact k
theorem b200_70 {d : Nat} {P : xPr} {Q : xQr} {r : Nat} {mem : Nat → Nat → Int32} (hP : Cl d none 200 P Q) {x1 : Int32} {v2 : Value} {v3 : Value} {v4 : Value} {v5 : Value} {v6 : Value} {v7 : Value} {v8 : Value}
    (kt : (mem 108 22) ≤ (mem 108 24) → P 89 [.ref 108, .int x1, v2, v3, v4, v5, v6, v7, v8] [] (0, 0) (LAY, RFu r, mem)) (kf : ¬ (mem 108 22) ≤ (mem 108 24) → P 81 [.ref 108, .int x1, v2, v3, v4, v5, v6, v7, v8] [] (0, 0) (LAY, RFu r, mem)) : P 70 [.ref 108, .int x1, v2, v3, v4, v5, v6, v7, v8] [] (0, 0) (LAY, RFu r, mem) := by
  refine r_aload_n hP d200_70 rfl ?_
  refine r_geti hP d200_71 fr_12_153 rfl ly_108 ?_
  refine r_aload_n hP d200_74 rfl ?_
  refine r_geti hP d200_75 fr_12_147 rfl ly_108 ?_
  exact r_icmp (t := 89) hP d200_78 (by decide) kt kf
theorem b200_81 {d : Nat} {P : xPr} {Q : xQr} {r : Nat} {mem : Nat → Nat → Int32} (hP : Cl d none 200 P Q) {x1 : Int32} {v2 : Value} {v3 : Value} {v4 : Value} {v5 : Value} {v6 : Value} {v7 : Value} {v8 : Value}
    (k : xCall d 170 [.ref 108, .int (mem 108 24)] (LAY, RFu r, mem) (Bk P 86 [.ref 108, .int x1, v2, v3, v4, v5, v6, v7, v8] [] (0, 0))) : P 81 [.ref 108, .int x1, v2, v3, v4, v5, v6, v7, v8] [] (0, 0) (LAY, RFu r, mem) := by
  refine r_aload_n hP d200_81 rfl ?_
  refine r_aload_n hP d200_82 rfl ?_
  refine r_geti hP d200_83 fr_12_153 rfl ly_108 ?_
  exact r_callv (As := [.int (mem 108 24)]) (S := []) hP d200_86 cr_12_167 (by decide +kernel) rfl (by simp [Value.category]) rfl ly_108 (by simp [Value.category]) ⟨Nat.zero_le _, Nat.zero_le _⟩ k
theorem b200_89 {d : Nat} {P : xPr} {Q : xQr} {r : Nat} {mem : Nat → Nat → Int32} (hP : Cl d none 200 P Q) {x1 : Int32} {v2 : Value} {v3 : Value} {v4 : Value} {v5 : Value} {v6 : Value} {v7 : Value} {v8 : Value}
    (k : xCall d 169 [.ref 108] (LAY, RFu r, mem) (Bk P 90 [.ref 108, .int x1, v2, v3, v4, v5, v6, v7, v8] [] (0, 0))) : P 89 [.ref 108, .int x1, v2, v3, v4, v5, v6, v7, v8] [] (0, 0) (LAY, RFu r, mem) := by
  refine r_aload_n hP d200_89 rfl ?_
  exact r_callv (As := []) (S := []) hP d200_90 cr_12_159 (by decide +kernel) rfl (by simp) rfl ly_108 (by simp [Value.category]) ⟨Nat.zero_le _, Nat.zero_le _⟩ k
theorem b200_93 {d : Nat} {P : xPr} {Q : xQr} {r : Nat} {mem : Nat → Nat → Int32} (hP : Cl d none 200 P Q) {x1 : Int32} {v2 : Value} {v3 : Value} {v4 : Value} {v5 : Value} {v6 : Value} {v7 : Value} {v8 : Value} {y0 : Int32}
    (kt : ¬ y0 = 0 → P 103 [.ref 108, .int x1, v2, v3, v4, v5, v6, v7, v8] [] (0, 0) (LAY, RFu r, mem)) (kf : y0 = 0 → P 96 [.ref 108, .int x1, v2, v3, v4, v5, v6, v7, v8] [] (0, 0) (LAY, RFu r, mem)) : P 93 [.ref 108, .int x1, v2, v3, v4, v5, v6, v7, v8] [.int y0] (0, 0) (LAY, RFu r, mem) := by
  exact r_if (t := 103) hP d200_93 (by decide) kt (fun q => kf (Decidable.of_not_not q))
theorem b200_96 {d : Nat} {P : xPr} {Q : xQr} {r : Nat} {mem : Nat → Nat → Int32} (hP : Cl d none 200 P Q) {v1 : Value} {v2 : Value} {v3 : Value} {v4 : Value} {v5 : Value} {v6 : Value} {v7 : Value} {v8 : Value}
    (k : Q (some (.int ((-1) - (mem 108 25)))) (LAY, RFu r, mem)) : P 96 [.ref 108, v1, v2, v3, v4, v5, v6, v7, v8] [] (0, 0) (LAY, RFu r, mem) := by
  refine r_iconst (v := (-1)) hP d200_96 rfl ?_
  refine r_aload_n hP d200_97 rfl ?_
  refine r_geti hP d200_98 fr_12_156 rfl ly_108 ?_
  refine r_isub hP d200_101 ?_
  exact r_iret hP d200_102 rfl k
theorem b200_103 {d : Nat} {P : xPr} {Q : xQr} {r : Nat} {mem : Nat → Nat → Int32} (hP : Cl d none 200 P Q) {x1 : Int32} {v2 : Value} {v3 : Value} {v4 : Value} {v5 : Value} {v6 : Value} {v7 : Value} {v8 : Value}
    (k : P 114 [.ref 108, .int x1, v2, .int (nI 0), .int (nI 0), .int (nI 0), .int (nI 0), v7, v8] [] (0, 0) (LAY, RFu r, mem)) : P 103 [.ref 108, .int x1, v2, v3, v4, v5, v6, v7, v8] [] (0, 0) (LAY, RFu r, mem) := by
  refine r_iconst (v := nI 0) hP d200_103 rfl ?_
  refine r_istore_n (L' := [.ref 108, .int x1, v2, .int (nI 0), v4, v5, v6, v7, v8]) hP d200_104 (Nat.le_of_ble_eq_true rfl) rfl ?_
  refine r_iconst (v := nI 0) hP d200_105 rfl ?_
  refine r_istore (L' := [.ref 108, .int x1, v2, .int (nI 0), .int (nI 0), v5, v6, v7, v8]) hP d200_106 (Nat.le_of_ble_eq_true rfl) rfl ?_
  refine r_iconst (v := nI 0) hP d200_108 rfl ?_
  refine r_istore (L' := [.ref 108, .int x1, v2, .int (nI 0), .int (nI 0), .int (nI 0), v6, v7, v8]) hP d200_109 (Nat.le_of_ble_eq_true rfl) rfl ?_
  refine r_iconst (v := nI 0) hP d200_111 rfl ?_
  refine r_istore (L' := [.ref 108, .int x1, v2, .int (nI 0), .int (nI 0), .int (nI 0), .int (nI 0), v7, v8]) hP d200_112 (Nat.le_of_ble_eq_true rfl) rfl ?_
  exact k
theorem b200_114 {d : Nat} {P : xPr} {Q : xQr} {r : Nat} {mem : Nat → Nat → Int32} (hP : Cl d none 200 P Q) {x1 : Int32} {v2 : Value} {x3 : Int32} {x4 : Int32} {x5 : Int32} {x6 : Int32} {v7 : Value} {v8 : Value}
    (kt : x1 ≤ x5 → P 327 [.ref 108, .int x1, v2, .int x3, .int x4, .int x5, .int x6, v7, v8] [] (0, 0) (LAY, RFu r, mem)) (kf : ¬ x1 ≤ x5 → P 120 [.ref 108, .int x1, v2, .int x3, .int x4, .int x5, .int x6, v7, v8] [] (0, 0) (LAY, RFu r, mem)) : P 114 [.ref 108, .int x1, v2, .int x3, .int x4, .int x5, .int x6, v7, v8] [] (0, 0) (LAY, RFu r, mem) := by
  refine r_iload hP d200_114 rfl ?_
  refine r_iload_n hP d200_116 rfl ?_
  exact r_icmp (t := 327) hP d200_117 (by decide) kt kf
theorem b200_120 {d : Nat} {P : xPr} {Q : xQr} {r : Nat} {mem : Nat → Nat → Int32} (hP : Cl d none 200 P Q) {x1 : Int32} {v2 : Value} {x3 : Int32} {x4 : Int32} {x5 : Int32} {x6 : Int32} {v7 : Value} {v8 : Value}
    (kt : ¬ x6 = 0 → P 327 [.ref 108, .int x1, v2, .int x3, .int x4, .int x5, .int x6, v7, v8] [] (0, 0) (LAY, RFu r, mem)) (kf : x6 = 0 → P 125 [.ref 108, .int x1, v2, .int x3, .int x4, .int x5, .int x6, v7, v8] [] (0, 0) (LAY, RFu r, mem)) : P 120 [.ref 108, .int x1, v2, .int x3, .int x4, .int x5, .int x6, v7, v8] [] (0, 0) (LAY, RFu r, mem) := by
  refine r_iload hP d200_120 rfl ?_
  exact r_if (t := 327) hP d200_122 (by decide) kt (fun q => kf (Decidable.of_not_not q))
theorem b200_125 {d : Nat} {P : xPr} {Q : xQr} {r : Nat} {mem : Nat → Nat → Int32} (hP : Cl d none 200 P Q) {x1 : Int32} {v2 : Value} {x3 : Int32} {x4 : Int32} {x5 : Int32} {x6 : Int32} {v7 : Value} {v8 : Value} (hi137 : vp_in ((nI 4) * x5) 320)
    (kt : ¬ (mem 134 ((nI 4) * x5).toNatClampNeg) = (nI 113) → P 180 [.ref 108, .int x1, v2, .int x3, .int x4, .int x5, .int x6, .int ((nI 4) * x5), .int (mem 134 ((nI 4) * x5).toNatClampNeg)] [] (0, 0) (LAY, RFu r, mem)) (kf : (mem 134 ((nI 4) * x5).toNatClampNeg) = (nI 113) → P 147 [.ref 108, .int x1, v2, .int x3, .int x4, .int x5, .int x6, .int ((nI 4) * x5), .int (mem 134 ((nI 4) * x5).toNatClampNeg)] [] (0, 0) (LAY, RFu r, mem)) : P 125 [.ref 108, .int x1, v2, .int x3, .int x4, .int x5, .int x6, v7, v8] [] (0, 0) (LAY, RFu r, mem) := by
  refine r_iconst (v := nI 4) hP d200_125 rfl ?_
  refine r_iload hP d200_126 rfl ?_
  refine r_imul hP d200_128 ?_
  refine r_istore (L' := [.ref 108, .int x1, v2, .int x3, .int x4, .int x5, .int x6, .int ((nI 4) * x5), v8]) hP d200_129 (Nat.le_of_ble_eq_true rfl) rfl ?_
  refine r_aload_n hP d200_131 rfl ?_
  refine r_getr (a := 134) hP d200_132 fr_12_90 rfl ly_108 rg_108_39 ?_
  refine r_iload hP d200_135 rfl ?_
  refine r_iaload hP d200_137 ly_134 hi137 ?_
  refine r_istore (L' := [.ref 108, .int x1, v2, .int x3, .int x4, .int x5, .int x6, .int ((nI 4) * x5), .int (mem 134 ((nI 4) * x5).toNatClampNeg)]) hP d200_138 (Nat.le_of_ble_eq_true rfl) rfl ?_
  refine r_iload hP d200_140 rfl ?_
  refine r_bipush (v := nI 113) hP d200_142 rfl ?_
  exact r_icmp (t := 180) hP d200_144 (by decide) kt (fun q => kf (Decidable.of_not_not q))
theorem b200_147 {d : Nat} {P : xPr} {Q : xQr} {r : Nat} {mem : Nat → Nat → Int32} (hP : Cl d none 200 P Q) {x1 : Int32} {v2 : Value} {x3 : Int32} {x4 : Int32} {x5 : Int32} {x6 : Int32} {x7 : Int32} {v8 : Value} (hi158 : vp_in (x7 + (nI 1)) 320)
    (k : xCall d 195 [.ref 108, .int (mem 134 (x7 + (nI 1)).toNatClampNeg)] (LAY, RFu r, mem) (Bk P 159 [.ref 108, .int x1, v2, .int x3, .int x4, .int x5, .int x6, .int x7, v8] [.int x4] (0, 0))) : P 147 [.ref 108, .int x1, v2, .int x3, .int x4, .int x5, .int x6, .int x7, v8] [] (0, 0) (LAY, RFu r, mem) := by
  refine r_iload hP d200_147 rfl ?_
  refine r_aload_n hP d200_149 rfl ?_
  refine r_aload_n hP d200_150 rfl ?_
  refine r_getr (a := 134) hP d200_151 fr_12_90 rfl ly_108 rg_108_39 ?_
  refine r_iload hP d200_154 rfl ?_
  refine r_iconst (v := nI 1) hP d200_156 rfl ?_
  refine r_iadd hP d200_157 ?_
  refine r_iaload hP d200_158 ly_134 hi158 ?_
  exact r_callv (As := [.int (mem 134 (x7 + (nI 1)).toNatClampNeg)]) (S := [.int x4]) hP d200_159 cr_12_270 (by decide +kernel) rfl (by simp [Value.category]) rfl ly_108 (by simp [Value.category]) ⟨Nat.zero_le _, Nat.zero_le _⟩ k
theorem b200_162 {d : Nat} {P : xPr} {Q : xQr} {r : Nat} {mem : Nat → Nat → Int32} (hP : Cl d none 200 P Q) {x1 : Int32} {v2 : Value} {x3 : Int32} {v4 : Value} {x5 : Int32} {x6 : Int32} {x7 : Int32} {v8 : Value} {y0 : Int32} {y1 : Int32} (hi174 : vp_in (x7 + (nI 1)) 320)
    (k : P 309 [.ref 108, .int x1, v2, .int (x3 + (mem 134 (x7 + (nI 1)).toNatClampNeg)), .int (y0 + y1), .int x5, .int x6, .int x7, v8] [] (0, 0) (LAY, RFu r, mem)) : P 162 [.ref 108, .int x1, v2, .int x3, v4, .int x5, .int x6, .int x7, v8] [.int y1, .int y0] (0, 0) (LAY, RFu r, mem) := by
  refine r_iadd hP d200_162 ?_
  refine r_istore (L' := [.ref 108, .int x1, v2, .int x3, .int (y0 + y1), .int x5, .int x6, .int x7, v8]) hP d200_163 (Nat.le_of_ble_eq_true rfl) rfl ?_
  refine r_iload_n hP d200_165 rfl ?_
  refine r_aload_n hP d200_166 rfl ?_
  refine r_getr (a := 134) hP d200_167 fr_12_90 rfl ly_108 rg_108_39 ?_
  refine r_iload hP d200_170 rfl ?_
  refine r_iconst (v := nI 1) hP d200_172 rfl ?_
  refine r_iadd hP d200_173 ?_
  refine r_iaload hP d200_174 ly_134 hi174 ?_
  refine r_iadd hP d200_175 ?_
  refine r_istore_n (L' := [.ref 108, .int x1, v2, .int (x3 + (mem 134 (x7 + (nI 1)).toNatClampNeg)), .int (y0 + y1), .int x5, .int x6, .int x7, v8]) hP d200_176 (Nat.le_of_ble_eq_true rfl) rfl ?_
  refine r_goto (t := 309) hP d200_177 (by decide) ?_
  exact k
theorem b200_180 {d : Nat} {P : xPr} {Q : xQr} {r : Nat} {mem : Nat → Nat → Int32} (hP : Cl d none 200 P Q) {x1 : Int32} {v2 : Value} {x3 : Int32} {x4 : Int32} {x5 : Int32} {v6 : Value} {x7 : Int32} {x8 : Int32}
    (kt : ¬ x8 = (nI 99) → P 223 [.ref 108, .int x1, v2, .int x3, .int x4, .int x5, v6, .int x7, .int x8] [] (0, 0) (LAY, RFu r, mem)) (kf : x8 = (nI 99) → P 187 [.ref 108, .int x1, v2, .int x3, .int x4, .int x5, v6, .int x7, .int x8] [] (0, 0) (LAY, RFu r, mem)) : P 180 [.ref 108, .int x1, v2, .int x3, .int x4, .int x5, v6, .int x7, .int x8] [] (0, 0) (LAY, RFu r, mem) := by
  refine r_iload hP d200_180 rfl ?_
  refine r_bipush (v := nI 99) hP d200_182 rfl ?_
  exact r_icmp (t := 223) hP d200_184 (by decide) kt (fun q => kf (Decidable.of_not_not q))
theorem b200_187 {d : Nat} {P : xPr} {Q : xQr} {r : Nat} {mem : Nat → Nat → Int32} (hP : Cl d none 200 P Q) {x1 : Int32} {v2 : Value} {x3 : Int32} {x4 : Int32} {x5 : Int32} {v6 : Value} {x7 : Int32} {v8 : Value} (hi196 : vp_in (x7 + (nI 1)) 320) (hi205 : vp_in (x7 + (nI 2)) 320)
    (k : xCall d 183 [.ref 108, .int (mem 134 (x7 + (nI 1)).toNatClampNeg), .int (mem 134 (x7 + (nI 2)).toNatClampNeg)] (LAY, RFu r, mem) (Bk P 206 [.ref 108, .int x1, v2, .int x3, .int x4, .int x5, v6, .int x7, v8] [] (0, 0))) : P 187 [.ref 108, .int x1, v2, .int x3, .int x4, .int x5, v6, .int x7, v8] [] (0, 0) (LAY, RFu r, mem) := by
  refine r_aload_n hP d200_187 rfl ?_
  refine r_aload_n hP d200_188 rfl ?_
  refine r_getr (a := 134) hP d200_189 fr_12_90 rfl ly_108 rg_108_39 ?_
  refine r_iload hP d200_192 rfl ?_
  refine r_iconst (v := nI 1) hP d200_194 rfl ?_
  refine r_iadd hP d200_195 ?_
  refine r_iaload hP d200_196 ly_134 hi196 ?_
  refine r_aload_n hP d200_197 rfl ?_
  refine r_getr (a := 134) hP d200_198 fr_12_90 rfl ly_108 rg_108_39 ?_
  refine r_iload hP d200_201 rfl ?_
  refine r_iconst (v := nI 2) hP d200_203 rfl ?_
  refine r_iadd hP d200_204 ?_
  refine r_iaload hP d200_205 ly_134 hi205 ?_
  exact r_callv (As := [.int (mem 134 (x7 + (nI 1)).toNatClampNeg), .int (mem 134 (x7 + (nI 2)).toNatClampNeg)]) (S := []) hP d200_206 cr_12_273 (by decide +kernel) rfl (by simp [Value.category]) rfl ly_108 (by simp [Value.category]) ⟨Nat.zero_le _, Nat.zero_le _⟩ k
theorem b200_209 {d : Nat} {P : xPr} {Q : xQr} {r : Nat} {mem : Nat → Nat → Int32} (hP : Cl d none 200 P Q) {x1 : Int32} {v2 : Value} {x3 : Int32} {x4 : Int32} {x5 : Int32} {v6 : Value} {v7 : Value} {v8 : Value} {y0 : Int32}
    (kt : ¬ y0 = (-1) → P 217 [.ref 108, .int x1, v2, .int x3, .int x4, .int x5, v6, v7, v8] [] (0, 0) (LAY, RFu r, mem)) (kf : y0 = (-1) → P 213 [.ref 108, .int x1, v2, .int x3, .int x4, .int x5, v6, v7, v8] [] (0, 0) (LAY, RFu r, mem)) : P 209 [.ref 108, .int x1, v2, .int x3, .int x4, .int x5, v6, v7, v8] [.int y0] (0, 0) (LAY, RFu r, mem) := by
  refine r_iconst (v := (-1)) hP d200_209 rfl ?_
  exact r_icmp (t := 217) hP d200_210 (by decide) kt (fun q => kf (Decidable.of_not_not q))
theorem b200_213 {d : Nat} {P : xPr} {Q : xQr} {r : Nat} {mem : Nat → Nat → Int32} (hP : Cl d none 200 P Q) {x1 : Int32} {v2 : Value} {x3 : Int32} {x4 : Int32} {x5 : Int32} {v6 : Value} {v7 : Value} {v8 : Value}
    (k : P 218 [.ref 108, .int x1, v2, .int x3, .int x4, .int x5, v6, v7, v8] [.int (nI 1)] (0, 0) (LAY, RFu r, mem)) : P 213 [.ref 108, .int x1, v2, .int x3, .int x4, .int x5, v6, v7, v8] [] (0, 0) (LAY, RFu r, mem) := by
  refine r_iconst (v := nI 1) hP d200_213 rfl ?_
  refine r_goto (t := 218) hP d200_214 (by decide) ?_
  exact k
theorem b200_217 {d : Nat} {P : xPr} {Q : xQr} {r : Nat} {mem : Nat → Nat → Int32} (hP : Cl d none 200 P Q) {x1 : Int32} {v2 : Value} {x3 : Int32} {x4 : Int32} {x5 : Int32} {v6 : Value} {v7 : Value} {v8 : Value}
    (k : P 218 [.ref 108, .int x1, v2, .int x3, .int x4, .int x5, v6, v7, v8] [.int (nI 0)] (0, 0) (LAY, RFu r, mem)) : P 217 [.ref 108, .int x1, v2, .int x3, .int x4, .int x5, v6, v7, v8] [] (0, 0) (LAY, RFu r, mem) := by
  refine r_iconst (v := nI 0) hP d200_217 rfl ?_
  exact k
theorem b200_218 {d : Nat} {P : xPr} {Q : xQr} {r : Nat} {mem : Nat → Nat → Int32} (hP : Cl d none 200 P Q) {x1 : Int32} {v2 : Value} {x3 : Int32} {x4 : Int32} {x5 : Int32} {v6 : Value} {v7 : Value} {v8 : Value} {y0 : Int32}
    (k : P 309 [.ref 108, .int x1, v2, .int x3, .int x4, .int x5, .int y0, v7, v8] [] (0, 0) (LAY, RFu r, mem)) : P 218 [.ref 108, .int x1, v2, .int x3, .int x4, .int x5, v6, v7, v8] [.int y0] (0, 0) (LAY, RFu r, mem) := by
  refine r_istore (L' := [.ref 108, .int x1, v2, .int x3, .int x4, .int x5, .int y0, v7, v8]) hP d200_218 (Nat.le_of_ble_eq_true rfl) rfl ?_
  refine r_goto (t := 309) hP d200_220 (by decide) ?_
  exact k
theorem b200_223 {d : Nat} {P : xPr} {Q : xQr} {r : Nat} {mem : Nat → Nat → Int32} (hP : Cl d none 200 P Q) {x1 : Int32} {v2 : Value} {x3 : Int32} {x4 : Int32} {x5 : Int32} {v6 : Value} {x7 : Int32} {x8 : Int32}
    (kt : ¬ x8 = (nI 108) → P 274 [.ref 108, .int x1, v2, .int x3, .int x4, .int x5, v6, .int x7, .int x8] [] (0, 0) (LAY, RFu r, mem)) (kf : x8 = (nI 108) → P 230 [.ref 108, .int x1, v2, .int x3, .int x4, .int x5, v6, .int x7, .int x8] [] (0, 0) (LAY, RFu r, mem)) : P 223 [.ref 108, .int x1, v2, .int x3, .int x4, .int x5, v6, .int x7, .int x8] [] (0, 0) (LAY, RFu r, mem) := by
  refine r_iload hP d200_223 rfl ?_
  refine r_bipush (v := nI 108) hP d200_225 rfl ?_
  exact r_icmp (t := 274) hP d200_227 (by decide) kt (fun q => kf (Decidable.of_not_not q))
theorem b200_230 {d : Nat} {P : xPr} {Q : xQr} {r : Nat} {mem : Nat → Nat → Int32} (hP : Cl d none 200 P Q) {x1 : Int32} {v2 : Value} {x3 : Int32} {x4 : Int32} {x5 : Int32} {v6 : Value} {x7 : Int32} {v8 : Value} (hi239 : vp_in (x7 + (nI 1)) 320) (hi248 : vp_in (x7 + (nI 2)) 320) (hi257 : vp_in (x7 + (nI 3)) 320)
    (k : xCall d 207 [.ref 108, .int (mem 134 (x7 + (nI 1)).toNatClampNeg), .int (mem 134 (x7 + (nI 2)).toNatClampNeg), .int (mem 134 (x7 + (nI 3)).toNatClampNeg)] (LAY, RFu r, mem) (Bk P 258 [.ref 108, .int x1, v2, .int x3, .int x4, .int x5, v6, .int x7, v8] [] (0, 0))) : P 230 [.ref 108, .int x1, v2, .int x3, .int x4, .int x5, v6, .int x7, v8] [] (0, 0) (LAY, RFu r, mem) := by
  refine r_aload_n hP d200_230 rfl ?_
  refine r_aload_n hP d200_231 rfl ?_
  refine r_getr (a := 134) hP d200_232 fr_12_90 rfl ly_108 rg_108_39 ?_
  refine r_iload hP d200_235 rfl ?_
  refine r_iconst (v := nI 1) hP d200_237 rfl ?_
  refine r_iadd hP d200_238 ?_
  refine r_iaload hP d200_239 ly_134 hi239 ?_
  refine r_aload_n hP d200_240 rfl ?_
  refine r_getr (a := 134) hP d200_241 fr_12_90 rfl ly_108 rg_108_39 ?_
  refine r_iload hP d200_244 rfl ?_
  refine r_iconst (v := nI 2) hP d200_246 rfl ?_
  refine r_iadd hP d200_247 ?_
  refine r_iaload hP d200_248 ly_134 hi248 ?_
  refine r_aload_n hP d200_249 rfl ?_
  refine r_getr (a := 134) hP d200_250 fr_12_90 rfl ly_108 rg_108_39 ?_
  refine r_iload hP d200_253 rfl ?_
  refine r_iconst (v := nI 3) hP d200_255 rfl ?_
  refine r_iadd hP d200_256 ?_
  refine r_iaload hP d200_257 ly_134 hi257 ?_
  exact r_callv (As := [.int (mem 134 (x7 + (nI 1)).toNatClampNeg), .int (mem 134 (x7 + (nI 2)).toNatClampNeg), .int (mem 134 (x7 + (nI 3)).toNatClampNeg)]) (S := []) hP d200_258 cr_12_275 (by decide +kernel) rfl (by simp [Value.category]) rfl ly_108 (by simp [Value.category]) ⟨Nat.zero_le _, Nat.zero_le _⟩ k
theorem b200_261 {d : Nat} {P : xPr} {Q : xQr} {r : Nat} {mem : Nat → Nat → Int32} (hP : Cl d none 200 P Q) {x1 : Int32} {v2 : Value} {x3 : Int32} {x4 : Int32} {x5 : Int32} {v6 : Value} {v7 : Value} {v8 : Value} {y0 : Int32}
    (kt : ¬ y0 = 0 → P 268 [.ref 108, .int x1, v2, .int x3, .int x4, .int x5, v6, v7, v8] [] (0, 0) (LAY, RFu r, mem)) (kf : y0 = 0 → P 264 [.ref 108, .int x1, v2, .int x3, .int x4, .int x5, v6, v7, v8] [] (0, 0) (LAY, RFu r, mem)) : P 261 [.ref 108, .int x1, v2, .int x3, .int x4, .int x5, v6, v7, v8] [.int y0] (0, 0) (LAY, RFu r, mem) := by
  exact r_if (t := 268) hP d200_261 (by decide) kt (fun q => kf (Decidable.of_not_not q))
theorem b200_264 {d : Nat} {P : xPr} {Q : xQr} {r : Nat} {mem : Nat → Nat → Int32} (hP : Cl d none 200 P Q) {x1 : Int32} {v2 : Value} {x3 : Int32} {x4 : Int32} {x5 : Int32} {v6 : Value} {v7 : Value} {v8 : Value}
    (k : P 269 [.ref 108, .int x1, v2, .int x3, .int x4, .int x5, v6, v7, v8] [.int (nI 1)] (0, 0) (LAY, RFu r, mem)) : P 264 [.ref 108, .int x1, v2, .int x3, .int x4, .int x5, v6, v7, v8] [] (0, 0) (LAY, RFu r, mem) := by
  refine r_iconst (v := nI 1) hP d200_264 rfl ?_
  refine r_goto (t := 269) hP d200_265 (by decide) ?_
  exact k
theorem b200_268 {d : Nat} {P : xPr} {Q : xQr} {r : Nat} {mem : Nat → Nat → Int32} (hP : Cl d none 200 P Q) {x1 : Int32} {v2 : Value} {x3 : Int32} {x4 : Int32} {x5 : Int32} {v6 : Value} {v7 : Value} {v8 : Value}
    (k : P 269 [.ref 108, .int x1, v2, .int x3, .int x4, .int x5, v6, v7, v8] [.int (nI 0)] (0, 0) (LAY, RFu r, mem)) : P 268 [.ref 108, .int x1, v2, .int x3, .int x4, .int x5, v6, v7, v8] [] (0, 0) (LAY, RFu r, mem) := by
  refine r_iconst (v := nI 0) hP d200_268 rfl ?_
  exact k
theorem b200_269 {d : Nat} {P : xPr} {Q : xQr} {r : Nat} {mem : Nat → Nat → Int32} (hP : Cl d none 200 P Q) {x1 : Int32} {v2 : Value} {x3 : Int32} {x4 : Int32} {x5 : Int32} {v6 : Value} {v7 : Value} {v8 : Value} {y0 : Int32}
    (k : P 309 [.ref 108, .int x1, v2, .int x3, .int x4, .int x5, .int y0, v7, v8] [] (0, 0) (LAY, RFu r, mem)) : P 269 [.ref 108, .int x1, v2, .int x3, .int x4, .int x5, v6, v7, v8] [.int y0] (0, 0) (LAY, RFu r, mem) := by
  refine r_istore (L' := [.ref 108, .int x1, v2, .int x3, .int x4, .int x5, .int y0, v7, v8]) hP d200_269 (Nat.le_of_ble_eq_true rfl) rfl ?_
  refine r_goto (t := 309) hP d200_271 (by decide) ?_
  exact k
theorem b200_274 {d : Nat} {P : xPr} {Q : xQr} {r : Nat} {mem : Nat → Nat → Int32} (hP : Cl d none 200 P Q) {x1 : Int32} {v2 : Value} {x3 : Int32} {x4 : Int32} {x5 : Int32} {v6 : Value} {x7 : Int32} {x8 : Int32} (hi283 : vp_in (x7 + (nI 1)) 320)
    (kt : ¬ x8 = (nI 115) → P 295 [.ref 108, .int x1, v2, .int x3, .int x4, .int x5, v6, .int x7, .int x8] [.int (mem 134 (x7 + (nI 1)).toNatClampNeg), .ref 108] (0, 0) (LAY, RFu r, mem)) (kf : x8 = (nI 115) → P 291 [.ref 108, .int x1, v2, .int x3, .int x4, .int x5, v6, .int x7, .int x8] [.int (mem 134 (x7 + (nI 1)).toNatClampNeg), .ref 108] (0, 0) (LAY, RFu r, mem)) : P 274 [.ref 108, .int x1, v2, .int x3, .int x4, .int x5, v6, .int x7, .int x8] [] (0, 0) (LAY, RFu r, mem) := by
  refine r_aload_n hP d200_274 rfl ?_
  refine r_aload_n hP d200_275 rfl ?_
  refine r_getr (a := 134) hP d200_276 fr_12_90 rfl ly_108 rg_108_39 ?_
  refine r_iload hP d200_279 rfl ?_
  refine r_iconst (v := nI 1) hP d200_281 rfl ?_
  refine r_iadd hP d200_282 ?_
  refine r_iaload hP d200_283 ly_134 hi283 ?_
  refine r_iload hP d200_284 rfl ?_
  refine r_bipush (v := nI 115) hP d200_286 rfl ?_
  exact r_icmp (t := 295) hP d200_288 (by decide) kt (fun q => kf (Decidable.of_not_not q))
theorem b200_291 {d : Nat} {P : xPr} {Q : xQr} {r : Nat} {mem : Nat → Nat → Int32} (hP : Cl d none 200 P Q) {x1 : Int32} {v2 : Value} {x3 : Int32} {x4 : Int32} {x5 : Int32} {v6 : Value} {v7 : Value} {v8 : Value} {y1 : Int32}
    (k : P 296 [.ref 108, .int x1, v2, .int x3, .int x4, .int x5, v6, v7, v8] [.int (nI 1), .int y1, .ref 108] (0, 0) (LAY, RFu r, mem)) : P 291 [.ref 108, .int x1, v2, .int x3, .int x4, .int x5, v6, v7, v8] [.int y1, .ref 108] (0, 0) (LAY, RFu r, mem) := by
  refine r_iconst (v := nI 1) hP d200_291 rfl ?_
  refine r_goto (t := 296) hP d200_292 (by decide) ?_
  exact k
theorem b200_295 {d : Nat} {P : xPr} {Q : xQr} {r : Nat} {mem : Nat → Nat → Int32} (hP : Cl d none 200 P Q) {x1 : Int32} {v2 : Value} {x3 : Int32} {x4 : Int32} {x5 : Int32} {v6 : Value} {v7 : Value} {v8 : Value} {y1 : Int32}
    (k : P 296 [.ref 108, .int x1, v2, .int x3, .int x4, .int x5, v6, v7, v8] [.int (nI 0), .int y1, .ref 108] (0, 0) (LAY, RFu r, mem)) : P 295 [.ref 108, .int x1, v2, .int x3, .int x4, .int x5, v6, v7, v8] [.int y1, .ref 108] (0, 0) (LAY, RFu r, mem) := by
  refine r_iconst (v := nI 0) hP d200_295 rfl ?_
  exact k
theorem b200_296 {d : Nat} {P : xPr} {Q : xQr} {r : Nat} {mem : Nat → Nat → Int32} (hP : Cl d none 200 P Q) {x1 : Int32} {v2 : Value} {x3 : Int32} {x4 : Int32} {x5 : Int32} {v6 : Value} {v7 : Value} {v8 : Value} {y1 : Int32} {y2 : Int32}
    (k : xCall d 184 [.ref 108, .int y1, .int y2] (LAY, RFu r, mem) (Bk P 296 [.ref 108, .int x1, v2, .int x3, .int x4, .int x5, v6, v7, v8] [] (0, 0))) : P 296 [.ref 108, .int x1, v2, .int x3, .int x4, .int x5, v6, v7, v8] [.int y2, .int y1, .ref 108] (0, 0) (LAY, RFu r, mem) := by
  exact r_callv (As := [.int y1, .int y2]) (S := []) hP d200_296 cr_12_278 (by decide +kernel) rfl (by simp [Value.category]) rfl ly_108 (by simp [Value.category]) ⟨Nat.zero_le _, Nat.zero_le _⟩ k
theorem b200_299 {d : Nat} {P : xPr} {Q : xQr} {r : Nat} {mem : Nat → Nat → Int32} (hP : Cl d none 200 P Q) {x1 : Int32} {v2 : Value} {x3 : Int32} {x4 : Int32} {x5 : Int32} {v6 : Value} {v7 : Value} {v8 : Value} {y0 : Int32}
    (kt : ¬ y0 = 0 → P 306 [.ref 108, .int x1, v2, .int x3, .int x4, .int x5, v6, v7, v8] [] (0, 0) (LAY, RFu r, mem)) (kf : y0 = 0 → P 302 [.ref 108, .int x1, v2, .int x3, .int x4, .int x5, v6, v7, v8] [] (0, 0) (LAY, RFu r, mem)) : P 299 [.ref 108, .int x1, v2, .int x3, .int x4, .int x5, v6, v7, v8] [.int y0] (0, 0) (LAY, RFu r, mem) := by
  exact r_if (t := 306) hP d200_299 (by decide) kt (fun q => kf (Decidable.of_not_not q))
theorem b200_302 {d : Nat} {P : xPr} {Q : xQr} {r : Nat} {mem : Nat → Nat → Int32} (hP : Cl d none 200 P Q) {x1 : Int32} {v2 : Value} {x3 : Int32} {x4 : Int32} {x5 : Int32} {v6 : Value} {v7 : Value} {v8 : Value}
    (k : P 307 [.ref 108, .int x1, v2, .int x3, .int x4, .int x5, v6, v7, v8] [.int (nI 1)] (0, 0) (LAY, RFu r, mem)) : P 302 [.ref 108, .int x1, v2, .int x3, .int x4, .int x5, v6, v7, v8] [] (0, 0) (LAY, RFu r, mem) := by
  refine r_iconst (v := nI 1) hP d200_302 rfl ?_
  refine r_goto (t := 307) hP d200_303 (by decide) ?_
  exact k
theorem b200_306 {d : Nat} {P : xPr} {Q : xQr} {r : Nat} {mem : Nat → Nat → Int32} (hP : Cl d none 200 P Q) {x1 : Int32} {v2 : Value} {x3 : Int32} {x4 : Int32} {x5 : Int32} {v6 : Value} {v7 : Value} {v8 : Value}
    (k : P 307 [.ref 108, .int x1, v2, .int x3, .int x4, .int x5, v6, v7, v8] [.int (nI 0)] (0, 0) (LAY, RFu r, mem)) : P 306 [.ref 108, .int x1, v2, .int x3, .int x4, .int x5, v6, v7, v8] [] (0, 0) (LAY, RFu r, mem) := by
  refine r_iconst (v := nI 0) hP d200_306 rfl ?_
  exact k
theorem b200_307 {d : Nat} {P : xPr} {Q : xQr} {r : Nat} {mem : Nat → Nat → Int32} (hP : Cl d none 200 P Q) {x1 : Int32} {v2 : Value} {x3 : Int32} {x4 : Int32} {x5 : Int32} {v6 : Value} {v7 : Value} {v8 : Value} {y0 : Int32}
    (k : P 309 [.ref 108, .int x1, v2, .int x3, .int x4, .int x5, .int y0, v7, v8] [] (0, 0) (LAY, RFu r, mem)) : P 307 [.ref 108, .int x1, v2, .int x3, .int x4, .int x5, v6, v7, v8] [.int y0] (0, 0) (LAY, RFu r, mem) := by
  refine r_istore (L' := [.ref 108, .int x1, v2, .int x3, .int x4, .int x5, .int y0, v7, v8]) hP d200_307 (Nat.le_of_ble_eq_true rfl) rfl ?_
  exact k
theorem b200_309 {d : Nat} {P : xPr} {Q : xQr} {r : Nat} {mem : Nat → Nat → Int32} (hP : Cl d none 200 P Q) {x1 : Int32} {v2 : Value} {x3 : Int32} {x4 : Int32} {x5 : Int32} {x6 : Int32} {v7 : Value} {v8 : Value}
    (kt : x6 = 0 → P 320 [.ref 108, .int x1, v2, .int x3, .int x4, .int x5, .int x6, v7, v8] [.int x5] (0, 0) (LAY, RFu r, mem)) (kf : ¬ x6 = 0 → P 316 [.ref 108, .int x1, v2, .int x3, .int x4, .int x5, .int x6, v7, v8] [.int x5] (0, 0) (LAY, RFu r, mem)) : P 309 [.ref 108, .int x1, v2, .int x3, .int x4, .int x5, .int x6, v7, v8] [] (0, 0) (LAY, RFu r, mem) := by
  refine r_iload hP d200_309 rfl ?_
  refine r_iload hP d200_311 rfl ?_
  exact r_if (t := 320) hP d200_313 (by decide) kt kf
theorem b200_316 {d : Nat} {P : xPr} {Q : xQr} {r : Nat} {mem : Nat → Nat → Int32} (hP : Cl d none 200 P Q) {x1 : Int32} {v2 : Value} {x3 : Int32} {x4 : Int32} {v5 : Value} {x6 : Int32} {v7 : Value} {v8 : Value} {y0 : Int32}
    (k : P 321 [.ref 108, .int x1, v2, .int x3, .int x4, v5, .int x6, v7, v8] [.int (nI 0), .int y0] (0, 0) (LAY, RFu r, mem)) : P 316 [.ref 108, .int x1, v2, .int x3, .int x4, v5, .int x6, v7, v8] [.int y0] (0, 0) (LAY, RFu r, mem) := by
  refine r_iconst (v := nI 0) hP d200_316 rfl ?_
  refine r_goto (t := 321) hP d200_317 (by decide) ?_
  exact k
theorem b200_320 {d : Nat} {P : xPr} {Q : xQr} {r : Nat} {mem : Nat → Nat → Int32} (hP : Cl d none 200 P Q) {x1 : Int32} {v2 : Value} {x3 : Int32} {x4 : Int32} {v5 : Value} {x6 : Int32} {v7 : Value} {v8 : Value} {y0 : Int32}
    (k : P 321 [.ref 108, .int x1, v2, .int x3, .int x4, v5, .int x6, v7, v8] [.int (nI 1), .int y0] (0, 0) (LAY, RFu r, mem)) : P 320 [.ref 108, .int x1, v2, .int x3, .int x4, v5, .int x6, v7, v8] [.int y0] (0, 0) (LAY, RFu r, mem) := by
  refine r_iconst (v := nI 1) hP d200_320 rfl ?_
  exact k
theorem b200_321 {d : Nat} {P : xPr} {Q : xQr} {r : Nat} {mem : Nat → Nat → Int32} (hP : Cl d none 200 P Q) {x1 : Int32} {v2 : Value} {x3 : Int32} {x4 : Int32} {v5 : Value} {x6 : Int32} {v7 : Value} {v8 : Value} {y0 : Int32} {y1 : Int32}
    (k : P 114 [.ref 108, .int x1, v2, .int x3, .int x4, .int (y0 + y1), .int x6, v7, v8] [] (0, 0) (LAY, RFu r, mem)) : P 321 [.ref 108, .int x1, v2, .int x3, .int x4, v5, .int x6, v7, v8] [.int y1, .int y0] (0, 0) (LAY, RFu r, mem) := by
  refine r_iadd hP d200_321 ?_
  refine r_istore (L' := [.ref 108, .int x1, v2, .int x3, .int x4, .int (y0 + y1), .int x6, v7, v8]) hP d200_322 (Nat.le_of_ble_eq_true rfl) rfl ?_
  refine r_goto (t := 114) hP d200_324 (by decide) ?_
  exact k
theorem b200_327 {d : Nat} {P : xPr} {Q : xQr} {r : Nat} {mem : Nat → Nat → Int32} (hP : Cl d none 200 P Q) {v1 : Value} {v2 : Value} {x3 : Int32} {x4 : Int32} {x5 : Int32} {x6 : Int32} {v7 : Value} {v8 : Value}
    (k : xCall d 161 [.ref 108, .int x3] (LAY, RFu r, xu2 mem 108 19 (nI 0)) (Bk P 334 [.ref 108, v1, v2, .int x3, .int x4, .int x5, .int x6, v7, v8] [] (0, 0))) : P 327 [.ref 108, v1, v2, .int x3, .int x4, .int x5, .int x6, v7, v8] [] (0, 0) (LAY, RFu r, mem) := by
  refine r_aload_n hP d200_327 rfl ?_
  refine r_iconst (v := nI 0) hP d200_328 rfl ?_
  refine r_puti hP d200_329 fr_12_124 rfl (fun q => by cases q) ly_108 ?_
  refine r_aload_n hP d200_332 rfl ?_
  refine r_iload_n hP d200_333 rfl ?_
  exact r_callv (As := [.int x3]) (S := []) hP d200_334 cr_12_258 (by decide +kernel) rfl (by simp [Value.category]) rfl ly_108 (by simp [Value.category]) ⟨Nat.zero_le _, Nat.zero_le _⟩ k
theorem b200_337 {d : Nat} {P : xPr} {Q : xQr} {r : Nat} {mem : Nat → Nat → Int32} (hP : Cl d none 200 P Q) {v1 : Value} {v2 : Value} {v3 : Value} {x4 : Int32} {x5 : Int32} {x6 : Int32} {v7 : Value} {v8 : Value}
    (k : xCall d 161 [.ref 108, .int x4] (LAY, RFu r, mem) (Bk P 340 [.ref 108, v1, v2, v3, .int x4, .int x5, .int x6, v7, v8] [] (0, 0))) : P 337 [.ref 108, v1, v2, v3, .int x4, .int x5, .int x6, v7, v8] [] (0, 0) (LAY, RFu r, mem) := by
  refine r_aload_n hP d200_337 rfl ?_
  refine r_iload hP d200_338 rfl ?_
  exact r_callv (As := [.int x4]) (S := []) hP d200_340 cr_12_258 (by decide +kernel) rfl (by simp [Value.category]) rfl ly_108 (by simp [Value.category]) ⟨Nat.zero_le _, Nat.zero_le _⟩ k
theorem b200_343 {d : Nat} {P : xPr} {Q : xQr} {r : Nat} {mem : Nat → Nat → Int32} (hP : Cl d none 200 P Q) {v1 : Value} {v2 : Value} {v3 : Value} {v4 : Value} {x5 : Int32} {x6 : Int32} {v7 : Value} {v8 : Value}
    (kt : x6 = 0 → P 353 [.ref 108, v1, v2, v3, v4, .int x5, .int x6, v7, v8] [.ref 108] (0, 0) (LAY, RFu r, mem)) (kf : ¬ x6 = 0 → P 349 [.ref 108, v1, v2, v3, v4, .int x5, .int x6, v7, v8] [.ref 108] (0, 0) (LAY, RFu r, mem)) : P 343 [.ref 108, v1, v2, v3, v4, .int x5, .int x6, v7, v8] [] (0, 0) (LAY, RFu r, mem) := by
  refine r_aload_n hP d200_343 rfl ?_
  refine r_iload hP d200_344 rfl ?_
  exact r_if (t := 353) hP d200_346 (by decide) kt kf
theorem b200_349 {d : Nat} {P : xPr} {Q : xQr} {r : Nat} {mem : Nat → Nat → Int32} (hP : Cl d none 200 P Q) {v0 : Value} {v1 : Value} {v2 : Value} {v3 : Value} {v4 : Value} {x5 : Int32} {v6 : Value} {v7 : Value} {v8 : Value}
    (k : P 354 [v0, v1, v2, v3, v4, .int x5, v6, v7, v8] [.int (nI 1), .ref 108] (0, 0) (LAY, RFu r, mem)) : P 349 [v0, v1, v2, v3, v4, .int x5, v6, v7, v8] [.ref 108] (0, 0) (LAY, RFu r, mem) := by
  refine r_iconst (v := nI 1) hP d200_349 rfl ?_
  refine r_goto (t := 354) hP d200_350 (by decide) ?_
  exact k
theorem b200_353 {d : Nat} {P : xPr} {Q : xQr} {r : Nat} {mem : Nat → Nat → Int32} (hP : Cl d none 200 P Q) {v0 : Value} {v1 : Value} {v2 : Value} {v3 : Value} {v4 : Value} {x5 : Int32} {v6 : Value} {v7 : Value} {v8 : Value}
    (k : P 354 [v0, v1, v2, v3, v4, .int x5, v6, v7, v8] [.int (nI 0), .ref 108] (0, 0) (LAY, RFu r, mem)) : P 353 [v0, v1, v2, v3, v4, .int x5, v6, v7, v8] [.ref 108] (0, 0) (LAY, RFu r, mem) := by
  refine r_iconst (v := nI 0) hP d200_353 rfl ?_
  exact k
theorem b200_354 {d : Nat} {P : xPr} {Q : xQr} {r : Nat} {mem : Nat → Nat → Int32} (hP : Cl d none 200 P Q) {v0 : Value} {v1 : Value} {v2 : Value} {v3 : Value} {v4 : Value} {x5 : Int32} {v6 : Value} {v7 : Value} {v8 : Value} {y1 : Int32}
    (k : xCall d 161 [.ref 108, .int y1] (LAY, RFu r, mem) (Bk P 354 [v0, v1, v2, v3, v4, .int x5, v6, v7, v8] [] (0, 0))) : P 354 [v0, v1, v2, v3, v4, .int x5, v6, v7, v8] [.int y1, .ref 108] (0, 0) (LAY, RFu r, mem) := by
  exact r_callv (As := [.int y1]) (S := []) hP d200_354 cr_12_258 (by decide +kernel) rfl (by simp [Value.category]) rfl ly_108 (by simp [Value.category]) ⟨Nat.zero_le _, Nat.zero_le _⟩ k
theorem b200_357 {d : Nat} {P : xPr} {Q : xQr} {r : Nat} {mem : Nat → Nat → Int32} (hP : Cl d none 200 P Q) {v0 : Value} {v1 : Value} {v2 : Value} {v3 : Value} {v4 : Value} {x5 : Int32} {v6 : Value} {v7 : Value} {v8 : Value}
    (k : Q (some (.int x5)) (LAY, RFu r, mem)) : P 357 [v0, v1, v2, v3, v4, .int x5, v6, v7, v8] [] (0, 0) (LAY, RFu r, mem) := by
  refine r_iload hP d200_357 rfl ?_
  exact r_iret hP d200_359 rfl k
theorem d201_0 : decode (xB 201) 0 = .ok (.aload_n 0, 1) := by decide +kernel
theorem d201_1 : decode (xB 201) 1 = .ok (.iload_n 1, 1) := by decide +kernel
theorem d201_2 : decode (xB 201) 2 = .ok (.invokevirtual 179, 3) := by decide +kernel
theorem d201_5 : decode (xB 201) 5 = .ok (.ifCond .ne 11, 3) := by decide +kernel
theorem d201_8 : decode (xB 201) 8 = .ok (.aload_n 0, 1) := by decide +kernel
theorem d201_9 : decode (xB 201) 9 = .ok (.aload_n 0, 1) := by decide +kernel
theorem d201_10 : decode (xB 201) 10 = .ok (.getfield 153, 3) := by decide +kernel
theorem d201_13 : decode (xB 201) 13 = .ok (.invokevirtual 167, 3) := by decide +kernel
theorem d201_16 : decode (xB 201) 16 = .ok (.return_, 1) := by decide +kernel
theorem b201_0 {d : Nat} {P : xPr} {Q : xQr} {r : Nat} {mem : Nat → Nat → Int32} (hP : Cl d none 201 P Q) {p0 : Int32}
    (k : xCall d 171 [.ref 108, .int p0] (LAY, RFu r, mem) (Bk P 2 [.ref 108, .int p0] [] (0, 0))) : P 0 [.ref 108, .int p0] [] (0, 0) (LAY, RFu r, mem) := by
  refine r_aload_n hP d201_0 rfl ?_
  refine r_iload_n hP d201_1 rfl ?_
  exact r_callv (As := [.int p0]) (S := []) hP d201_2 cr_12_179 (by decide +kernel) rfl (by simp [Value.category]) rfl ly_108 (by simp [Value.category]) ⟨Nat.zero_le _, Nat.zero_le _⟩ k
theorem b201_5 {d : Nat} {P : xPr} {Q : xQr} {r : Nat} {mem : Nat → Nat → Int32} (hP : Cl d none 201 P Q) {v1 : Value} {y0 : Int32}
    (kt : ¬ y0 = 0 → P 16 [.ref 108, v1] [] (0, 0) (LAY, RFu r, mem)) (kf : y0 = 0 → P 8 [.ref 108, v1] [] (0, 0) (LAY, RFu r, mem)) : P 5 [.ref 108, v1] [.int y0] (0, 0) (LAY, RFu r, mem) := by
  exact r_if (t := 16) hP d201_5 (by decide) kt (fun q => kf (Decidable.of_not_not q))
theorem b201_8 {d : Nat} {P : xPr} {Q : xQr} {r : Nat} {mem : Nat → Nat → Int32} (hP : Cl d none 201 P Q) {v1 : Value}
    (k : xCall d 170 [.ref 108, .int (mem 108 24)] (LAY, RFu r, mem) (Bk P 13 [.ref 108, v1] [] (0, 0))) : P 8 [.ref 108, v1] [] (0, 0) (LAY, RFu r, mem) := by
  refine r_aload_n hP d201_8 rfl ?_
  refine r_aload_n hP d201_9 rfl ?_
  refine r_geti hP d201_10 fr_12_153 rfl ly_108 ?_
  exact r_callv (As := [.int (mem 108 24)]) (S := []) hP d201_13 cr_12_167 (by decide +kernel) rfl (by simp [Value.category]) rfl ly_108 (by simp [Value.category]) ⟨Nat.zero_le _, Nat.zero_le _⟩ k
theorem b201_16 {d : Nat} {P : xPr} {Q : xQr} {r : Nat} {mem : Nat → Nat → Int32} (hP : Cl d none 201 P Q) {v0 : Value} {v1 : Value}
    (k : Q none (LAY, RFu r, mem)) : P 16 [v0, v1] [] (0, 0) (LAY, RFu r, mem) := by
  exact r_vret hP d201_16 rfl k
theorem d202_0 : decode (xB 202) 0 = .ok (.aload_n 0, 1) := by decide +kernel
theorem d202_1 : decode (xB 202) 1 = .ok (.invokevirtual 163, 3) := by decide +kernel
theorem d202_4 : decode (xB 202) 4 = .ok (.istore_n 2, 1) := by decide +kernel
theorem d202_5 : decode (xB 202) 5 = .ok (.iload_n 2, 1) := by decide +kernel
theorem d202_6 : decode (xB 202) 6 = .ok (.bipush 113, 2) := by decide +kernel
theorem d202_8 : decode (xB 202) 8 = .ok (.if_icmp .eq 35, 3) := by decide +kernel
theorem d202_11 : decode (xB 202) 11 = .ok (.iload_n 2, 1) := by decide +kernel
theorem d202_12 : decode (xB 202) 12 = .ok (.bipush 99, 2) := by decide +kernel
theorem d202_14 : decode (xB 202) 14 = .ok (.if_icmp .eq 29, 3) := by decide +kernel
theorem d202_17 : decode (xB 202) 17 = .ok (.iload_n 2, 1) := by decide +kernel
theorem d202_18 : decode (xB 202) 18 = .ok (.bipush 115, 2) := by decide +kernel
theorem d202_20 : decode (xB 202) 20 = .ok (.if_icmp .eq 23, 3) := by decide +kernel
theorem d202_23 : decode (xB 202) 23 = .ok (.iload_n 2, 1) := by decide +kernel
theorem d202_24 : decode (xB 202) 24 = .ok (.bipush 119, 2) := by decide +kernel
theorem d202_26 : decode (xB 202) 26 = .ok (.if_icmp .eq 17, 3) := by decide +kernel
theorem d202_29 : decode (xB 202) 29 = .ok (.iload_n 2, 1) := by decide +kernel
theorem d202_30 : decode (xB 202) 30 = .ok (.bipush 108, 2) := by decide +kernel
theorem d202_32 : decode (xB 202) 32 = .ok (.if_icmp .eq 11, 3) := by decide +kernel
theorem d202_35 : decode (xB 202) 35 = .ok (.aload_n 0, 1) := by decide +kernel
theorem d202_36 : decode (xB 202) 36 = .ok (.aload_n 0, 1) := by decide +kernel
theorem d202_37 : decode (xB 202) 37 = .ok (.getfield 153, 3) := by decide +kernel
theorem d202_40 : decode (xB 202) 40 = .ok (.invokevirtual 167, 3) := by decide +kernel
theorem d202_43 : decode (xB 202) 43 = .ok (.aload_n 0, 1) := by decide +kernel
theorem d202_44 : decode (xB 202) 44 = .ok (.dup, 1) := by decide +kernel
theorem d202_45 : decode (xB 202) 45 = .ok (.getfield 153, 3) := by decide +kernel
theorem d202_48 : decode (xB 202) 48 = .ok (.iconst 1, 1) := by decide +kernel
theorem d202_49 : decode (xB 202) 49 = .ok (.iadd, 1) := by decide +kernel
theorem d202_50 : decode (xB 202) 50 = .ok (.putfield 153, 3) := by decide +kernel
theorem d202_53 : decode (xB 202) 53 = .ok (.aload_n 0, 1) := by decide +kernel
theorem d202_54 : decode (xB 202) 54 = .ok (.getfield 90, 3) := by decide +kernel
theorem d202_57 : decode (xB 202) 57 = .ok (.iload_n 1, 1) := by decide +kernel
theorem d202_58 : decode (xB 202) 58 = .ok (.iload_n 2, 1) := by decide +kernel
theorem d202_59 : decode (xB 202) 59 = .ok (.iastore, 1) := by decide +kernel
theorem d202_60 : decode (xB 202) 60 = .ok (.aload_n 0, 1) := by decide +kernel
theorem d202_61 : decode (xB 202) 61 = .ok (.getfield 90, 3) := by decide +kernel
theorem d202_64 : decode (xB 202) 64 = .ok (.iload_n 1, 1) := by decide +kernel
theorem d202_65 : decode (xB 202) 65 = .ok (.iconst 1, 1) := by decide +kernel
theorem d202_66 : decode (xB 202) 66 = .ok (.iadd, 1) := by decide +kernel
theorem d202_67 : decode (xB 202) 67 = .ok (.aload_n 0, 1) := by decide +kernel
theorem d202_68 : decode (xB 202) 68 = .ok (.iload_n 2, 1) := by decide +kernel
theorem d202_69 : decode (xB 202) 69 = .ok (.bipush 113, 2) := by decide +kernel
theorem d202_71 : decode (xB 202) 71 = .ok (.if_icmp .ne 7, 3) := by decide +kernel
theorem d202_74 : decode (xB 202) 74 = .ok (.iconst 2, 1) := by decide +kernel
theorem d202_75 : decode (xB 202) 75 = .ok (.goto 4, 3) := by decide +kernel
theorem d202_78 : decode (xB 202) 78 = .ok (.iconst 1, 1) := by decide +kernel
theorem d202_79 : decode (xB 202) 79 = .ok (.invokevirtual 175, 3) := by decide +kernel
theorem d202_82 : decode (xB 202) 82 = .ok (.iastore, 1) := by decide +kernel
theorem d202_83 : decode (xB 202) 83 = .ok (.iload_n 2, 1) := by decide +kernel
theorem d202_84 : decode (xB 202) 84 = .ok (.bipush 99, 2) := by decide +kernel
theorem d202_86 : decode (xB 202) 86 = .ok (.if_icmp .ne 44, 3) := by decide +kernel
theorem d202_89 : decode (xB 202) 89 = .ok (.aload_n 0, 1) := by decide +kernel
theorem d202_90 : decode (xB 202) 90 = .ok (.bipush 61, 2) := by decide +kernel
theorem d202_92 : decode (xB 202) 92 = .ok (.invokevirtual 282, 3) := by decide +kernel
theorem d202_95 : decode (xB 202) 95 = .ok (.aload_n 0, 1) := by decide +kernel
theorem d202_96 : decode (xB 202) 96 = .ok (.invokevirtual 163, 3) := by decide +kernel
theorem d202_99 : decode (xB 202) 99 = .ok (.bipush 48, 2) := by decide +kernel
theorem d202_101 : decode (xB 202) 101 = .ok (.bipush 56, 2) := by decide +kernel
theorem d202_103 : decode (xB 202) 103 = .ok (.invokestatic 130, 3) := by decide +kernel
theorem d202_106 : decode (xB 202) 106 = .ok (.ifCond .ne 11, 3) := by decide +kernel
theorem d202_109 : decode (xB 202) 109 = .ok (.aload_n 0, 1) := by decide +kernel
theorem d202_110 : decode (xB 202) 110 = .ok (.aload_n 0, 1) := by decide +kernel
theorem d202_111 : decode (xB 202) 111 = .ok (.getfield 153, 3) := by decide +kernel
theorem d202_114 : decode (xB 202) 114 = .ok (.invokevirtual 167, 3) := by decide +kernel
theorem d202_117 : decode (xB 202) 117 = .ok (.aload_n 0, 1) := by decide +kernel
theorem d202_118 : decode (xB 202) 118 = .ok (.getfield 90, 3) := by decide +kernel
theorem d202_121 : decode (xB 202) 121 = .ok (.iload_n 1, 1) := by decide +kernel
theorem d202_122 : decode (xB 202) 122 = .ok (.iconst 2, 1) := by decide +kernel
theorem d202_123 : decode (xB 202) 123 = .ok (.iadd, 1) := by decide +kernel
theorem d202_124 : decode (xB 202) 124 = .ok (.aload_n 0, 1) := by decide +kernel
theorem d202_125 : decode (xB 202) 125 = .ok (.iconst 1, 1) := by decide +kernel
theorem d202_126 : decode (xB 202) 126 = .ok (.invokevirtual 175, 3) := by decide +kernel
theorem d202_129 : decode (xB 202) 129 = .ok (.iastore, 1) := by decide +kernel
theorem d202_130 : decode (xB 202) 130 = .ok (.iload_n 2, 1) := by decide +kernel
theorem d202_131 : decode (xB 202) 131 = .ok (.bipush 108, 2) := by decide +kernel
theorem d202_133 : decode (xB 202) 133 = .ok (.if_icmp .ne 41, 3) := by decide +kernel
theorem d202_136 : decode (xB 202) 136 = .ok (.aload_n 0, 1) := by decide +kernel
theorem d202_137 : decode (xB 202) 137 = .ok (.bipush 62, 2) := by decide +kernel
theorem d202_139 : decode (xB 202) 139 = .ok (.invokevirtual 282, 3) := by decide +kernel
theorem d202_142 : decode (xB 202) 142 = .ok (.aload_n 0, 1) := by decide +kernel
theorem d202_143 : decode (xB 202) 143 = .ok (.getfield 90, 3) := by decide +kernel
theorem d202_146 : decode (xB 202) 146 = .ok (.iload_n 1, 1) := by decide +kernel
theorem d202_147 : decode (xB 202) 147 = .ok (.iconst 2, 1) := by decide +kernel
theorem d202_148 : decode (xB 202) 148 = .ok (.iadd, 1) := by decide +kernel
theorem d202_149 : decode (xB 202) 149 = .ok (.aload_n 0, 1) := by decide +kernel
theorem d202_150 : decode (xB 202) 150 = .ok (.iconst 1, 1) := by decide +kernel
theorem d202_151 : decode (xB 202) 151 = .ok (.invokevirtual 175, 3) := by decide +kernel
theorem d202_154 : decode (xB 202) 154 = .ok (.iastore, 1) := by decide +kernel
theorem d202_155 : decode (xB 202) 155 = .ok (.aload_n 0, 1) := by decide +kernel
theorem d202_156 : decode (xB 202) 156 = .ok (.bipush 42, 2) := by decide +kernel
theorem d202_158 : decode (xB 202) 158 = .ok (.invokevirtual 282, 3) := by decide +kernel
theorem d202_161 : decode (xB 202) 161 = .ok (.aload_n 0, 1) := by decide +kernel
theorem d202_162 : decode (xB 202) 162 = .ok (.getfield 90, 3) := by decide +kernel
theorem d202_165 : decode (xB 202) 165 = .ok (.iload_n 1, 1) := by decide +kernel
theorem d202_166 : decode (xB 202) 166 = .ok (.iconst 3, 1) := by decide +kernel
theorem d202_167 : decode (xB 202) 167 = .ok (.iadd, 1) := by decide +kernel
theorem d202_168 : decode (xB 202) 168 = .ok (.aload_n 0, 1) := by decide +kernel
theorem d202_169 : decode (xB 202) 169 = .ok (.iconst 2, 1) := by decide +kernel
theorem d202_170 : decode (xB 202) 170 = .ok (.invokevirtual 175, 3) := by decide +kernel
theorem d202_173 : decode (xB 202) 173 = .ok (.iastore, 1) := by decide +kernel
theorem d202_174 : decode (xB 202) 174 = .ok (.return_, 1) := by decide +kernel
theorem b202_0 {d : Nat} {P : xPr} {Q : xQr} {r : Nat} {mem : Nat → Nat → Int32} (hP : Cl d none 202 P Q) {p0 : Int32}
    (k : xCall d 168 [.ref 108] (LAY, RFu r, mem) (Bk P 1 [.ref 108, .int p0, .null] [] (0, 0))) : P 0 [.ref 108, .int p0, .null] [] (0, 0) (LAY, RFu r, mem) := by
  refine r_aload_n hP d202_0 rfl ?_
  exact r_callv (As := []) (S := []) hP d202_1 cr_12_163 (by decide +kernel) rfl (by simp) rfl ly_108 (by simp [Value.category]) ⟨Nat.zero_le _, Nat.zero_le _⟩ k
theorem b202_4 {d : Nat} {P : xPr} {Q : xQr} {r : Nat} {mem : Nat → Nat → Int32} (hP : Cl d none 202 P Q) {x1 : Int32} {v2 : Value} {y0 : Int32}
    (kt : y0 = (nI 113) → P 43 [.ref 108, .int x1, .int y0] [] (0, 0) (LAY, RFu r, mem)) (kf : ¬ y0 = (nI 113) → P 11 [.ref 108, .int x1, .int y0] [] (0, 0) (LAY, RFu r, mem)) : P 4 [.ref 108, .int x1, v2] [.int y0] (0, 0) (LAY, RFu r, mem) := by
  refine r_istore_n (L' := [.ref 108, .int x1, .int y0]) hP d202_4 (Nat.le_of_ble_eq_true rfl) rfl ?_
  refine r_iload_n hP d202_5 rfl ?_
  refine r_bipush (v := nI 113) hP d202_6 rfl ?_
  exact r_icmp (t := 43) hP d202_8 (by decide) kt kf
theorem b202_11 {d : Nat} {P : xPr} {Q : xQr} {r : Nat} {mem : Nat → Nat → Int32} (hP : Cl d none 202 P Q) {x1 : Int32} {x2 : Int32}
    (kt : x2 = (nI 99) → P 43 [.ref 108, .int x1, .int x2] [] (0, 0) (LAY, RFu r, mem)) (kf : ¬ x2 = (nI 99) → P 17 [.ref 108, .int x1, .int x2] [] (0, 0) (LAY, RFu r, mem)) : P 11 [.ref 108, .int x1, .int x2] [] (0, 0) (LAY, RFu r, mem) := by
  refine r_iload_n hP d202_11 rfl ?_
  refine r_bipush (v := nI 99) hP d202_12 rfl ?_
  exact r_icmp (t := 43) hP d202_14 (by decide) kt kf
theorem b202_17 {d : Nat} {P : xPr} {Q : xQr} {r : Nat} {mem : Nat → Nat → Int32} (hP : Cl d none 202 P Q) {x1 : Int32} {x2 : Int32}
    (kt : x2 = (nI 115) → P 43 [.ref 108, .int x1, .int x2] [] (0, 0) (LAY, RFu r, mem)) (kf : ¬ x2 = (nI 115) → P 23 [.ref 108, .int x1, .int x2] [] (0, 0) (LAY, RFu r, mem)) : P 17 [.ref 108, .int x1, .int x2] [] (0, 0) (LAY, RFu r, mem) := by
  refine r_iload_n hP d202_17 rfl ?_
  refine r_bipush (v := nI 115) hP d202_18 rfl ?_
  exact r_icmp (t := 43) hP d202_20 (by decide) kt kf
theorem b202_23 {d : Nat} {P : xPr} {Q : xQr} {r : Nat} {mem : Nat → Nat → Int32} (hP : Cl d none 202 P Q) {x1 : Int32} {x2 : Int32}
    (kt : x2 = (nI 119) → P 43 [.ref 108, .int x1, .int x2] [] (0, 0) (LAY, RFu r, mem)) (kf : ¬ x2 = (nI 119) → P 29 [.ref 108, .int x1, .int x2] [] (0, 0) (LAY, RFu r, mem)) : P 23 [.ref 108, .int x1, .int x2] [] (0, 0) (LAY, RFu r, mem) := by
  refine r_iload_n hP d202_23 rfl ?_
  refine r_bipush (v := nI 119) hP d202_24 rfl ?_
  exact r_icmp (t := 43) hP d202_26 (by decide) kt kf
theorem b202_29 {d : Nat} {P : xPr} {Q : xQr} {r : Nat} {mem : Nat → Nat → Int32} (hP : Cl d none 202 P Q) {x1 : Int32} {x2 : Int32}
    (kt : x2 = (nI 108) → P 43 [.ref 108, .int x1, .int x2] [] (0, 0) (LAY, RFu r, mem)) (kf : ¬ x2 = (nI 108) → P 35 [.ref 108, .int x1, .int x2] [] (0, 0) (LAY, RFu r, mem)) : P 29 [.ref 108, .int x1, .int x2] [] (0, 0) (LAY, RFu r, mem) := by
  refine r_iload_n hP d202_29 rfl ?_
  refine r_bipush (v := nI 108) hP d202_30 rfl ?_
  exact r_icmp (t := 43) hP d202_32 (by decide) kt kf
theorem b202_35 {d : Nat} {P : xPr} {Q : xQr} {r : Nat} {mem : Nat → Nat → Int32} (hP : Cl d none 202 P Q) {x1 : Int32} {x2 : Int32}
    (k : xCall d 170 [.ref 108, .int (mem 108 24)] (LAY, RFu r, mem) (Bk P 40 [.ref 108, .int x1, .int x2] [] (0, 0))) : P 35 [.ref 108, .int x1, .int x2] [] (0, 0) (LAY, RFu r, mem) := by
  refine r_aload_n hP d202_35 rfl ?_
  refine r_aload_n hP d202_36 rfl ?_
  refine r_geti hP d202_37 fr_12_153 rfl ly_108 ?_
  exact r_callv (As := [.int (mem 108 24)]) (S := []) hP d202_40 cr_12_167 (by decide +kernel) rfl (by simp [Value.category]) rfl ly_108 (by simp [Value.category]) ⟨Nat.zero_le _, Nat.zero_le _⟩ k
theorem b202_43 {d : Nat} {P : xPr} {Q : xQr} {r : Nat} {mem : Nat → Nat → Int32} (hP : Cl d none 202 P Q) {x1 : Int32} {x2 : Int32} (hi59 : vp_in x1 320)
    (kt : ¬ x2 = (nI 113) → P 78 [.ref 108, .int x1, .int x2] [.ref 108, .int (x1 + (nI 1)), .ref 134] (0, 0) (LAY, RFu r, xu2 (xu2 mem 108 24 ((mem 108 24) + (nI 1))) 134 x1.toNatClampNeg x2)) (kf : x2 = (nI 113) → P 74 [.ref 108, .int x1, .int x2] [.ref 108, .int (x1 + (nI 1)), .ref 134] (0, 0) (LAY, RFu r, xu2 (xu2 mem 108 24 ((mem 108 24) + (nI 1))) 134 x1.toNatClampNeg x2)) : P 43 [.ref 108, .int x1, .int x2] [] (0, 0) (LAY, RFu r, mem) := by
  refine r_aload_n hP d202_43 rfl ?_
  refine r_dup hP d202_44 rfl ?_
  refine r_geti hP d202_45 fr_12_153 rfl ly_108 ?_
  refine r_iconst (v := nI 1) hP d202_48 rfl ?_
  refine r_iadd hP d202_49 ?_
  refine r_puti hP d202_50 fr_12_153 rfl (fun q => by cases q) ly_108 ?_
  refine r_aload_n hP d202_53 rfl ?_
  refine r_getr (a := 134) hP d202_54 fr_12_90 rfl ly_108 rg_108_39 ?_
  refine r_iload_n hP d202_57 rfl ?_
  refine r_iload_n hP d202_58 rfl ?_
  refine r_iastore hP d202_59 ly_134 hi59 ?_
  refine r_aload_n hP d202_60 rfl ?_
  refine r_getr (a := 134) hP d202_61 fr_12_90 rfl ly_108 rg_108_39 ?_
  refine r_iload_n hP d202_64 rfl ?_
  refine r_iconst (v := nI 1) hP d202_65 rfl ?_
  refine r_iadd hP d202_66 ?_
  refine r_aload_n hP d202_67 rfl ?_
  refine r_iload_n hP d202_68 rfl ?_
  refine r_bipush (v := nI 113) hP d202_69 rfl ?_
  exact r_icmp (t := 78) hP d202_71 (by decide) kt (fun q => kf (Decidable.of_not_not q))
theorem b202_74 {d : Nat} {P : xPr} {Q : xQr} {r : Nat} {mem : Nat → Nat → Int32} (hP : Cl d none 202 P Q) {x1 : Int32} {x2 : Int32} {y1 : Int32}
    (k : P 79 [.ref 108, .int x1, .int x2] [.int (nI 2), .ref 108, .int y1, .ref 134] (0, 0) (LAY, RFu r, mem)) : P 74 [.ref 108, .int x1, .int x2] [.ref 108, .int y1, .ref 134] (0, 0) (LAY, RFu r, mem) := by
  refine r_iconst (v := nI 2) hP d202_74 rfl ?_
  refine r_goto (t := 79) hP d202_75 (by decide) ?_
  exact k
theorem b202_78 {d : Nat} {P : xPr} {Q : xQr} {r : Nat} {mem : Nat → Nat → Int32} (hP : Cl d none 202 P Q) {x1 : Int32} {x2 : Int32} {y1 : Int32}
    (k : P 79 [.ref 108, .int x1, .int x2] [.int (nI 1), .ref 108, .int y1, .ref 134] (0, 0) (LAY, RFu r, mem)) : P 78 [.ref 108, .int x1, .int x2] [.ref 108, .int y1, .ref 134] (0, 0) (LAY, RFu r, mem) := by
  refine r_iconst (v := nI 1) hP d202_78 rfl ?_
  exact k
theorem b202_79 {d : Nat} {P : xPr} {Q : xQr} {r : Nat} {mem : Nat → Nat → Int32} (hP : Cl d none 202 P Q) {x1 : Int32} {x2 : Int32} {y1 : Int32} {y3 : Int32}
    (k : xCall d 172 [.ref 108, .int y3] (LAY, RFu r, mem) (Bk P 79 [.ref 108, .int x1, .int x2] [.int y1, .ref 134] (0, 0))) : P 79 [.ref 108, .int x1, .int x2] [.int y3, .ref 108, .int y1, .ref 134] (0, 0) (LAY, RFu r, mem) := by
  exact r_callv (As := [.int y3]) (S := [.int y1, .ref 134]) hP d202_79 cr_12_175 (by decide +kernel) rfl (by simp [Value.category]) rfl ly_108 (by simp [Value.category]) ⟨Nat.zero_le _, Nat.zero_le _⟩ k
theorem b202_82 {d : Nat} {P : xPr} {Q : xQr} {r : Nat} {mem : Nat → Nat → Int32} (hP : Cl d none 202 P Q) {x1 : Int32} {x2 : Int32} {y1 : Int32} {y2 : Int32} (hi82 : vp_in y1 320)
    (kt : ¬ x2 = (nI 99) → P 130 [.ref 108, .int x1, .int x2] [] (0, 0) (LAY, RFu r, xu2 mem 134 y1.toNatClampNeg y2)) (kf : x2 = (nI 99) → P 89 [.ref 108, .int x1, .int x2] [] (0, 0) (LAY, RFu r, xu2 mem 134 y1.toNatClampNeg y2)) : P 82 [.ref 108, .int x1, .int x2] [.int y2, .int y1, .ref 134] (0, 0) (LAY, RFu r, mem) := by
  refine r_iastore hP d202_82 ly_134 hi82 ?_
  refine r_iload_n hP d202_83 rfl ?_
  refine r_bipush (v := nI 99) hP d202_84 rfl ?_
  exact r_icmp (t := 130) hP d202_86 (by decide) kt (fun q => kf (Decidable.of_not_not q))
theorem b202_89 {d : Nat} {P : xPr} {Q : xQr} {r : Nat} {mem : Nat → Nat → Int32} (hP : Cl d none 202 P Q) {x1 : Int32} {x2 : Int32}
    (k : xCall d 201 [.ref 108, .int (nI 61)] (LAY, RFu r, mem) (Bk P 92 [.ref 108, .int x1, .int x2] [] (0, 0))) : P 89 [.ref 108, .int x1, .int x2] [] (0, 0) (LAY, RFu r, mem) := by
  refine r_aload_n hP d202_89 rfl ?_
  refine r_bipush (v := nI 61) hP d202_90 rfl ?_
  exact r_callv (As := [.int (nI 61)]) (S := []) hP d202_92 cr_12_282 (by decide +kernel) rfl (by simp [Value.category]) rfl ly_108 (by simp [Value.category]) ⟨Nat.zero_le _, Nat.zero_le _⟩ k
theorem b202_95 {d : Nat} {P : xPr} {Q : xQr} {r : Nat} {mem : Nat → Nat → Int32} (hP : Cl d none 202 P Q) {x1 : Int32} {x2 : Int32}
    (k : xCall d 168 [.ref 108] (LAY, RFu r, mem) (Bk P 96 [.ref 108, .int x1, .int x2] [] (0, 0))) : P 95 [.ref 108, .int x1, .int x2] [] (0, 0) (LAY, RFu r, mem) := by
  refine r_aload_n hP d202_95 rfl ?_
  exact r_callv (As := []) (S := []) hP d202_96 cr_12_163 (by decide +kernel) rfl (by simp) rfl ly_108 (by simp [Value.category]) ⟨Nat.zero_le _, Nat.zero_le _⟩ k
theorem b202_99 {d : Nat} {P : xPr} {Q : xQr} {r : Nat} {mem : Nat → Nat → Int32} (hP : Cl d none 202 P Q) {x1 : Int32} {x2 : Int32} {y0 : Int32}
    (k : xCall d 158 [.int y0, .int (nI 48), .int (nI 56)] (LAY, RFu r, mem) (Bk P 103 [.ref 108, .int x1, .int x2] [] (0, 0))) : P 99 [.ref 108, .int x1, .int x2] [.int y0] (0, 0) (LAY, RFu r, mem) := by
  refine r_bipush (v := nI 48) hP d202_99 rfl ?_
  refine r_bipush (v := nI 56) hP d202_101 rfl ?_
  exact r_calls (As := [.int y0, .int (nI 48), .int (nI 56)]) (S := []) hP d202_103 cr_12_130 (by decide +kernel) rfl (by simp [Value.category]) rfl (by simp [Value.category]) ⟨Nat.zero_le _, Nat.zero_le _⟩ k
theorem b202_106 {d : Nat} {P : xPr} {Q : xQr} {r : Nat} {mem : Nat → Nat → Int32} (hP : Cl d none 202 P Q) {x1 : Int32} {x2 : Int32} {y0 : Int32}
    (kt : ¬ y0 = 0 → P 117 [.ref 108, .int x1, .int x2] [] (0, 0) (LAY, RFu r, mem)) (kf : y0 = 0 → P 109 [.ref 108, .int x1, .int x2] [] (0, 0) (LAY, RFu r, mem)) : P 106 [.ref 108, .int x1, .int x2] [.int y0] (0, 0) (LAY, RFu r, mem) := by
  exact r_if (t := 117) hP d202_106 (by decide) kt (fun q => kf (Decidable.of_not_not q))
theorem b202_109 {d : Nat} {P : xPr} {Q : xQr} {r : Nat} {mem : Nat → Nat → Int32} (hP : Cl d none 202 P Q) {x1 : Int32} {x2 : Int32}
    (k : xCall d 170 [.ref 108, .int (mem 108 24)] (LAY, RFu r, mem) (Bk P 114 [.ref 108, .int x1, .int x2] [] (0, 0))) : P 109 [.ref 108, .int x1, .int x2] [] (0, 0) (LAY, RFu r, mem) := by
  refine r_aload_n hP d202_109 rfl ?_
  refine r_aload_n hP d202_110 rfl ?_
  refine r_geti hP d202_111 fr_12_153 rfl ly_108 ?_
  exact r_callv (As := [.int (mem 108 24)]) (S := []) hP d202_114 cr_12_167 (by decide +kernel) rfl (by simp [Value.category]) rfl ly_108 (by simp [Value.category]) ⟨Nat.zero_le _, Nat.zero_le _⟩ k
theorem b202_117 {d : Nat} {P : xPr} {Q : xQr} {r : Nat} {mem : Nat → Nat → Int32} (hP : Cl d none 202 P Q) {x1 : Int32} {x2 : Int32}
    (k : xCall d 172 [.ref 108, .int (nI 1)] (LAY, RFu r, mem) (Bk P 126 [.ref 108, .int x1, .int x2] [.int (x1 + (nI 2)), .ref 134] (0, 0))) : P 117 [.ref 108, .int x1, .int x2] [] (0, 0) (LAY, RFu r, mem) := by
  refine r_aload_n hP d202_117 rfl ?_
  refine r_getr (a := 134) hP d202_118 fr_12_90 rfl ly_108 rg_108_39 ?_
  refine r_iload_n hP d202_121 rfl ?_
  refine r_iconst (v := nI 2) hP d202_122 rfl ?_
  refine r_iadd hP d202_123 ?_
  refine r_aload_n hP d202_124 rfl ?_
  refine r_iconst (v := nI 1) hP d202_125 rfl ?_
  exact r_callv (As := [.int (nI 1)]) (S := [.int (x1 + (nI 2)), .ref 134]) hP d202_126 cr_12_175 (by decide +kernel) rfl (by simp [Value.category]) rfl ly_108 (by simp [Value.category]) ⟨Nat.zero_le _, Nat.zero_le _⟩ k
theorem b202_129 {d : Nat} {P : xPr} {Q : xQr} {r : Nat} {mem : Nat → Nat → Int32} (hP : Cl d none 202 P Q) {x1 : Int32} {x2 : Int32} {y1 : Int32} {y2 : Int32} (hi129 : vp_in y1 320)
    (k : P 130 [.ref 108, .int x1, .int x2] [] (0, 0) (LAY, RFu r, xu2 mem 134 y1.toNatClampNeg y2)) : P 129 [.ref 108, .int x1, .int x2] [.int y2, .int y1, .ref 134] (0, 0) (LAY, RFu r, mem) := by
  refine r_iastore hP d202_129 ly_134 hi129 ?_
  exact k
theorem b202_130 {d : Nat} {P : xPr} {Q : xQr} {r : Nat} {mem : Nat → Nat → Int32} (hP : Cl d none 202 P Q) {x1 : Int32} {x2 : Int32}
    (kt : ¬ x2 = (nI 108) → P 174 [.ref 108, .int x1, .int x2] [] (0, 0) (LAY, RFu r, mem)) (kf : x2 = (nI 108) → P 136 [.ref 108, .int x1, .int x2] [] (0, 0) (LAY, RFu r, mem)) : P 130 [.ref 108, .int x1, .int x2] [] (0, 0) (LAY, RFu r, mem) := by
  refine r_iload_n hP d202_130 rfl ?_
  refine r_bipush (v := nI 108) hP d202_131 rfl ?_
  exact r_icmp (t := 174) hP d202_133 (by decide) kt (fun q => kf (Decidable.of_not_not q))
theorem b202_136 {d : Nat} {P : xPr} {Q : xQr} {r : Nat} {mem : Nat → Nat → Int32} (hP : Cl d none 202 P Q) {x1 : Int32} {v2 : Value}
    (k : xCall d 201 [.ref 108, .int (nI 62)] (LAY, RFu r, mem) (Bk P 139 [.ref 108, .int x1, v2] [] (0, 0))) : P 136 [.ref 108, .int x1, v2] [] (0, 0) (LAY, RFu r, mem) := by
  refine r_aload_n hP d202_136 rfl ?_
  refine r_bipush (v := nI 62) hP d202_137 rfl ?_
  exact r_callv (As := [.int (nI 62)]) (S := []) hP d202_139 cr_12_282 (by decide +kernel) rfl (by simp [Value.category]) rfl ly_108 (by simp [Value.category]) ⟨Nat.zero_le _, Nat.zero_le _⟩ k
theorem b202_142 {d : Nat} {P : xPr} {Q : xQr} {r : Nat} {mem : Nat → Nat → Int32} (hP : Cl d none 202 P Q) {x1 : Int32} {v2 : Value}
    (k : xCall d 172 [.ref 108, .int (nI 1)] (LAY, RFu r, mem) (Bk P 151 [.ref 108, .int x1, v2] [.int (x1 + (nI 2)), .ref 134] (0, 0))) : P 142 [.ref 108, .int x1, v2] [] (0, 0) (LAY, RFu r, mem) := by
  refine r_aload_n hP d202_142 rfl ?_
  refine r_getr (a := 134) hP d202_143 fr_12_90 rfl ly_108 rg_108_39 ?_
  refine r_iload_n hP d202_146 rfl ?_
  refine r_iconst (v := nI 2) hP d202_147 rfl ?_
  refine r_iadd hP d202_148 ?_
  refine r_aload_n hP d202_149 rfl ?_
  refine r_iconst (v := nI 1) hP d202_150 rfl ?_
  exact r_callv (As := [.int (nI 1)]) (S := [.int (x1 + (nI 2)), .ref 134]) hP d202_151 cr_12_175 (by decide +kernel) rfl (by simp [Value.category]) rfl ly_108 (by simp [Value.category]) ⟨Nat.zero_le _, Nat.zero_le _⟩ k
theorem b202_154 {d : Nat} {P : xPr} {Q : xQr} {r : Nat} {mem : Nat → Nat → Int32} (hP : Cl d none 202 P Q) {x1 : Int32} {v2 : Value} {y1 : Int32} {y2 : Int32} (hi154 : vp_in y1 320)
    (k : xCall d 201 [.ref 108, .int (nI 42)] (LAY, RFu r, xu2 mem 134 y1.toNatClampNeg y2) (Bk P 158 [.ref 108, .int x1, v2] [] (0, 0))) : P 154 [.ref 108, .int x1, v2] [.int y2, .int y1, .ref 134] (0, 0) (LAY, RFu r, mem) := by
  refine r_iastore hP d202_154 ly_134 hi154 ?_
  refine r_aload_n hP d202_155 rfl ?_
  refine r_bipush (v := nI 42) hP d202_156 rfl ?_
  exact r_callv (As := [.int (nI 42)]) (S := []) hP d202_158 cr_12_282 (by decide +kernel) rfl (by simp [Value.category]) rfl ly_108 (by simp [Value.category]) ⟨Nat.zero_le _, Nat.zero_le _⟩ k
theorem b202_161 {d : Nat} {P : xPr} {Q : xQr} {r : Nat} {mem : Nat → Nat → Int32} (hP : Cl d none 202 P Q) {x1 : Int32} {v2 : Value}
    (k : xCall d 172 [.ref 108, .int (nI 2)] (LAY, RFu r, mem) (Bk P 170 [.ref 108, .int x1, v2] [.int (x1 + (nI 3)), .ref 134] (0, 0))) : P 161 [.ref 108, .int x1, v2] [] (0, 0) (LAY, RFu r, mem) := by
  refine r_aload_n hP d202_161 rfl ?_
  refine r_getr (a := 134) hP d202_162 fr_12_90 rfl ly_108 rg_108_39 ?_
  refine r_iload_n hP d202_165 rfl ?_
  refine r_iconst (v := nI 3) hP d202_166 rfl ?_
  refine r_iadd hP d202_167 ?_
  refine r_aload_n hP d202_168 rfl ?_
  refine r_iconst (v := nI 2) hP d202_169 rfl ?_
  exact r_callv (As := [.int (nI 2)]) (S := [.int (x1 + (nI 3)), .ref 134]) hP d202_170 cr_12_175 (by decide +kernel) rfl (by simp [Value.category]) rfl ly_108 (by simp [Value.category]) ⟨Nat.zero_le _, Nat.zero_le _⟩ k
theorem b202_173 {d : Nat} {P : xPr} {Q : xQr} {r : Nat} {mem : Nat → Nat → Int32} (hP : Cl d none 202 P Q) {v0 : Value} {v1 : Value} {v2 : Value} {y1 : Int32} {y2 : Int32} (hi173 : vp_in y1 320)
    (k : P 174 [v0, v1, v2] [] (0, 0) (LAY, RFu r, xu2 mem 134 y1.toNatClampNeg y2)) : P 173 [v0, v1, v2] [.int y2, .int y1, .ref 134] (0, 0) (LAY, RFu r, mem) := by
  refine r_iastore hP d202_173 ly_134 hi173 ?_
  exact k
theorem b202_174 {d : Nat} {P : xPr} {Q : xQr} {r : Nat} {mem : Nat → Nat → Int32} (hP : Cl d none 202 P Q) {v0 : Value} {v1 : Value} {v2 : Value}
    (k : Q none (LAY, RFu r, mem)) : P 174 [v0, v1, v2] [] (0, 0) (LAY, RFu r, mem) := by
  exact r_vret hP d202_174 rfl k
theorem d203_0 : decode (xB 203) 0 = .ok (.aload_n 0, 1) := by decide +kernel
theorem d203_1 : decode (xB 203) 1 = .ok (.iconst 0, 1) := by decide +kernel
theorem d203_2 : decode (xB 203) 2 = .ok (.putfield 121, 3) := by decide +kernel
theorem d203_5 : decode (xB 203) 5 = .ok (.aload_n 0, 1) := by decide +kernel
theorem d203_6 : decode (xB 203) 6 = .ok (.iload_n 1, 1) := by decide +kernel
theorem d203_7 : decode (xB 203) 7 = .ok (.invokevirtual 134, 3) := by decide +kernel
theorem d203_10 : decode (xB 203) 10 = .ok (.ifCond .eq 13, 3) := by decide +kernel
theorem d203_13 : decode (xB 203) 13 = .ok (.iload_n 2, 1) := by decide +kernel
theorem d203_14 : decode (xB 203) 14 = .ok (.iconst 0, 1) := by decide +kernel
theorem d203_15 : decode (xB 203) 15 = .ok (.bipush 30, 2) := by decide +kernel
theorem d203_17 : decode (xB 203) 17 = .ok (.invokestatic 130, 3) := by decide +kernel
theorem d203_20 : decode (xB 203) 20 = .ok (.ifCond .ne 8, 3) := by decide +kernel
theorem d203_23 : decode (xB 203) 23 = .ok (.aload_n 0, 1) := by decide +kernel
theorem d203_24 : decode (xB 203) 24 = .ok (.invokevirtual 208, 3) := by decide +kernel
theorem d203_27 : decode (xB 203) 27 = .ok (.ireturn, 1) := by decide +kernel
theorem d203_28 : decode (xB 203) 28 = .ok (.aload_n 0, 1) := by decide +kernel
theorem d203_29 : decode (xB 203) 29 = .ok (.aload_n 0, 1) := by decide +kernel
theorem d203_30 : decode (xB 203) 30 = .ok (.getfield 87, 3) := by decide +kernel
theorem d203_33 : decode (xB 203) 33 = .ok (.iconst 0, 1) := by decide +kernel
theorem d203_34 : decode (xB 203) 34 = .ok (.invokevirtual 245, 3) := by decide +kernel
theorem d203_37 : decode (xB 203) 37 = .ok (.iconst 0, 1) := by decide +kernel
theorem d203_38 : decode (xB 203) 38 = .ok (.istore_n 3, 1) := by decide +kernel
theorem d203_39 : decode (xB 203) 39 = .ok (.iconst 0, 1) := by decide +kernel
theorem d203_40 : decode (xB 203) 40 = .ok (.istore 4, 2) := by decide +kernel
theorem d203_42 : decode (xB 203) 42 = .ok (.iload 4, 2) := by decide +kernel
theorem d203_44 : decode (xB 203) 44 = .ok (.iload_n 2, 1) := by decide +kernel
theorem d203_45 : decode (xB 203) 45 = .ok (.if_icmp .ge 33, 3) := by decide +kernel
theorem d203_48 : decode (xB 203) 48 = .ok (.aload_n 0, 1) := by decide +kernel
theorem d203_49 : decode (xB 203) 49 = .ok (.invokevirtual 252, 3) := by decide +kernel
theorem d203_52 : decode (xB 203) 52 = .ok (.pop, 1) := by decide +kernel
theorem d203_53 : decode (xB 203) 53 = .ok (.iload_n 3, 1) := by decide +kernel
theorem d203_54 : decode (xB 203) 54 = .ok (.aload_n 0, 1) := by decide +kernel
theorem d203_55 : decode (xB 203) 55 = .ok (.iload_n 1, 1) := by decide +kernel
theorem d203_56 : decode (xB 203) 56 = .ok (.invokevirtual 255, 3) := by decide +kernel
theorem d203_59 : decode (xB 203) 59 = .ok (.ifCond .eq 10, 3) := by decide +kernel
theorem d203_62 : decode (xB 203) 62 = .ok (.iconst 1, 1) := by decide +kernel
theorem d203_63 : decode (xB 203) 63 = .ok (.iload 4, 2) := by decide +kernel
theorem d203_65 : decode (xB 203) 65 = .ok (.ishl, 1) := by decide +kernel
theorem d203_66 : decode (xB 203) 66 = .ok (.goto 4, 3) := by decide +kernel
theorem d203_69 : decode (xB 203) 69 = .ok (.iconst 0, 1) := by decide +kernel
theorem d203_70 : decode (xB 203) 70 = .ok (.ior, 1) := by decide +kernel
theorem d203_71 : decode (xB 203) 71 = .ok (.istore_n 3, 1) := by decide +kernel
theorem d203_72 : decode (xB 203) 72 = .ok (.iinc 4 1, 3) := by decide +kernel
theorem d203_75 : decode (xB 203) 75 = .ok (.goto (-33), 3) := by decide +kernel
theorem d203_78 : decode (xB 203) 78 = .ok (.aload_n 0, 1) := by decide +kernel
theorem d203_79 : decode (xB 203) 79 = .ok (.aload_n 0, 1) := by decide +kernel
theorem d203_80 : decode (xB 203) 80 = .ok (.getfield 87, 3) := by decide +kernel
theorem d203_83 : decode (xB 203) 83 = .ok (.iconst 0, 1) := by decide +kernel
theorem d203_84 : decode (xB 203) 84 = .ok (.invokevirtual 261, 3) := by decide +kernel
theorem d203_87 : decode (xB 203) 87 = .ok (.iload_n 3, 1) := by decide +kernel
theorem d203_88 : decode (xB 203) 88 = .ok (.ireturn, 1) := by decide +kernel
theorem b203_0 {d : Nat} {P : xPr} {Q : xQr} {r : Nat} {mem : Nat → Nat → Int32} (hP : Cl d none 203 P Q) {p0 : Int32} {p1 : Int32}
    (k : xCall d 162 [.ref 108, .int p0] (LAY, RFu r, xu2 mem 108 20 (nI 0)) (Bk P 7 [.ref 108, .int p0, .int p1, .null, .null] [] (0, 0))) : P 0 [.ref 108, .int p0, .int p1, .null, .null] [] (0, 0) (LAY, RFu r, mem) := by
  refine r_aload_n hP d203_0 rfl ?_
  refine r_iconst (v := nI 0) hP d203_1 rfl ?_
  refine r_puti hP d203_2 fr_12_121 rfl (fun q => by cases q) ly_108 ?_
  refine r_aload_n hP d203_5 rfl ?_
  refine r_iload_n hP d203_6 rfl ?_
  exact r_callv (As := [.int p0]) (S := []) hP d203_7 cr_12_134 (by decide +kernel) rfl (by simp [Value.category]) rfl ly_108 (by simp [Value.category]) ⟨Nat.zero_le _, Nat.zero_le _⟩ k
theorem b203_10 {d : Nat} {P : xPr} {Q : xQr} {r : Nat} {mem : Nat → Nat → Int32} (hP : Cl d none 203 P Q) {x1 : Int32} {x2 : Int32} {v3 : Value} {v4 : Value} {y0 : Int32}
    (kt : y0 = 0 → P 23 [.ref 108, .int x1, .int x2, v3, v4] [] (0, 0) (LAY, RFu r, mem)) (kf : ¬ y0 = 0 → P 13 [.ref 108, .int x1, .int x2, v3, v4] [] (0, 0) (LAY, RFu r, mem)) : P 10 [.ref 108, .int x1, .int x2, v3, v4] [.int y0] (0, 0) (LAY, RFu r, mem) := by
  exact r_if (t := 23) hP d203_10 (by decide) kt kf
theorem b203_13 {d : Nat} {P : xPr} {Q : xQr} {r : Nat} {mem : Nat → Nat → Int32} (hP : Cl d none 203 P Q) {x1 : Int32} {x2 : Int32} {v3 : Value} {v4 : Value}
    (k : xCall d 158 [.int x2, .int (nI 0), .int (nI 30)] (LAY, RFu r, mem) (Bk P 17 [.ref 108, .int x1, .int x2, v3, v4] [] (0, 0))) : P 13 [.ref 108, .int x1, .int x2, v3, v4] [] (0, 0) (LAY, RFu r, mem) := by
  refine r_iload_n hP d203_13 rfl ?_
  refine r_iconst (v := nI 0) hP d203_14 rfl ?_
  refine r_bipush (v := nI 30) hP d203_15 rfl ?_
  exact r_calls (As := [.int x2, .int (nI 0), .int (nI 30)]) (S := []) hP d203_17 cr_12_130 (by decide +kernel) rfl (by simp [Value.category]) rfl (by simp [Value.category]) ⟨Nat.zero_le _, Nat.zero_le _⟩ k
theorem b203_20 {d : Nat} {P : xPr} {Q : xQr} {r : Nat} {mem : Nat → Nat → Int32} (hP : Cl d none 203 P Q) {x1 : Int32} {x2 : Int32} {v3 : Value} {v4 : Value} {y0 : Int32}
    (kt : ¬ y0 = 0 → P 28 [.ref 108, .int x1, .int x2, v3, v4] [] (0, 0) (LAY, RFu r, mem)) (kf : y0 = 0 → P 23 [.ref 108, .int x1, .int x2, v3, v4] [] (0, 0) (LAY, RFu r, mem)) : P 20 [.ref 108, .int x1, .int x2, v3, v4] [.int y0] (0, 0) (LAY, RFu r, mem) := by
  exact r_if (t := 28) hP d203_20 (by decide) kt (fun q => kf (Decidable.of_not_not q))
theorem b203_23 {d : Nat} {P : xPr} {Q : xQr} {r : Nat} {mem : Nat → Nat → Int32} (hP : Cl d none 203 P Q) {v1 : Value} {v2 : Value} {v3 : Value} {v4 : Value}
    (k : xCall d 160 [.ref 108] (LAY, RFu r, mem) (Bk P 24 [.ref 108, v1, v2, v3, v4] [] (0, 0))) : P 23 [.ref 108, v1, v2, v3, v4] [] (0, 0) (LAY, RFu r, mem) := by
  refine r_aload_n hP d203_23 rfl ?_
  exact r_callv (As := []) (S := []) hP d203_24 cr_12_208 (by decide +kernel) rfl (by simp) rfl ly_108 (by simp [Value.category]) ⟨Nat.zero_le _, Nat.zero_le _⟩ k
theorem b203_27 {d : Nat} {P : xPr} {Q : xQr} {r : Nat} {mem : Nat → Nat → Int32} (hP : Cl d none 203 P Q) {v0 : Value} {v1 : Value} {v2 : Value} {v3 : Value} {v4 : Value} {y0 : Int32}
    (k : Q (some (.int y0)) (LAY, RFu r, mem)) : P 27 [v0, v1, v2, v3, v4] [.int y0] (0, 0) (LAY, RFu r, mem) := by
  exact r_iret hP d203_27 rfl k
theorem b203_28 {d : Nat} {P : xPr} {Q : xQr} {r : Nat} {mem : Nat → Nat → Int32} (hP : Cl d none 203 P Q) {x1 : Int32} {x2 : Int32} {v3 : Value} {v4 : Value}
    (k : xCall d 191 [.ref 108, .ref 133, .int (nI 0)] (LAY, RFu r, mem) (Bk P 34 [.ref 108, .int x1, .int x2, v3, v4] [] (0, 0))) : P 28 [.ref 108, .int x1, .int x2, v3, v4] [] (0, 0) (LAY, RFu r, mem) := by
  refine r_aload_n hP d203_28 rfl ?_
  refine r_aload_n hP d203_29 rfl ?_
  refine r_getr (a := 133) hP d203_30 fr_12_87 rfl ly_108 rg_108_38 ?_
  refine r_iconst (v := nI 0) hP d203_33 rfl ?_
  exact r_callv (As := [.ref 133, .int (nI 0)]) (S := []) hP d203_34 cr_12_245 (by decide +kernel) rfl (by simp [Value.category]) rfl ly_108 (by simp [Value.category]) ⟨Nat.zero_le _, Nat.zero_le _⟩ k
theorem b203_37 {d : Nat} {P : xPr} {Q : xQr} {r : Nat} {mem : Nat → Nat → Int32} (hP : Cl d none 203 P Q) {x1 : Int32} {x2 : Int32} {v3 : Value} {v4 : Value}
    (k : P 42 [.ref 108, .int x1, .int x2, .int (nI 0), .int (nI 0)] [] (0, 0) (LAY, RFu r, mem)) : P 37 [.ref 108, .int x1, .int x2, v3, v4] [] (0, 0) (LAY, RFu r, mem) := by
  refine r_iconst (v := nI 0) hP d203_37 rfl ?_
  refine r_istore_n (L' := [.ref 108, .int x1, .int x2, .int (nI 0), v4]) hP d203_38 (Nat.le_of_ble_eq_true rfl) rfl ?_
  refine r_iconst (v := nI 0) hP d203_39 rfl ?_
  refine r_istore (L' := [.ref 108, .int x1, .int x2, .int (nI 0), .int (nI 0)]) hP d203_40 (Nat.le_of_ble_eq_true rfl) rfl ?_
  exact k
theorem b203_42 {d : Nat} {P : xPr} {Q : xQr} {r : Nat} {mem : Nat → Nat → Int32} (hP : Cl d none 203 P Q) {x1 : Int32} {x2 : Int32} {x3 : Int32} {x4 : Int32}
    (kt : x2 ≤ x4 → P 78 [.ref 108, .int x1, .int x2, .int x3, .int x4] [] (0, 0) (LAY, RFu r, mem)) (kf : ¬ x2 ≤ x4 → P 48 [.ref 108, .int x1, .int x2, .int x3, .int x4] [] (0, 0) (LAY, RFu r, mem)) : P 42 [.ref 108, .int x1, .int x2, .int x3, .int x4] [] (0, 0) (LAY, RFu r, mem) := by
  refine r_iload hP d203_42 rfl ?_
  refine r_iload_n hP d203_44 rfl ?_
  exact r_icmp (t := 78) hP d203_45 (by decide) kt kf
theorem b203_48 {d : Nat} {P : xPr} {Q : xQr} {r : Nat} {mem : Nat → Nat → Int32} (hP : Cl d none 203 P Q) {x1 : Int32} {x2 : Int32} {x3 : Int32} {x4 : Int32}
    (k : xCall d 190 [.ref 108] (LAY, RFu r, mem) (Bk P 49 [.ref 108, .int x1, .int x2, .int x3, .int x4] [] (0, 0))) : P 48 [.ref 108, .int x1, .int x2, .int x3, .int x4] [] (0, 0) (LAY, RFu r, mem) := by
  refine r_aload_n hP d203_48 rfl ?_
  exact r_callv (As := []) (S := []) hP d203_49 cr_12_252 (by decide +kernel) rfl (by simp) rfl ly_108 (by simp [Value.category]) ⟨Nat.zero_le _, Nat.zero_le _⟩ k
theorem b203_52 {d : Nat} {P : xPr} {Q : xQr} {r : Nat} {mem : Nat → Nat → Int32} (hP : Cl d none 203 P Q) {x1 : Int32} {x2 : Int32} {x3 : Int32} {x4 : Int32} {y0 : Int32}
    (k : xCall d 193 [.ref 108, .int x1] (LAY, RFu r, mem) (Bk P 56 [.ref 108, .int x1, .int x2, .int x3, .int x4] [.int x3] (0, 0))) : P 52 [.ref 108, .int x1, .int x2, .int x3, .int x4] [.int y0] (0, 0) (LAY, RFu r, mem) := by
  refine r_pop hP d203_52 rfl ?_
  refine r_iload_n hP d203_53 rfl ?_
  refine r_aload_n hP d203_54 rfl ?_
  refine r_iload_n hP d203_55 rfl ?_
  exact r_callv (As := [.int x1]) (S := [.int x3]) hP d203_56 cr_12_255 (by decide +kernel) rfl (by simp [Value.category]) rfl ly_108 (by simp [Value.category]) ⟨Nat.zero_le _, Nat.zero_le _⟩ k
theorem b203_59 {d : Nat} {P : xPr} {Q : xQr} {r : Nat} {mem : Nat → Nat → Int32} (hP : Cl d none 203 P Q) {x1 : Int32} {x2 : Int32} {v3 : Value} {x4 : Int32} {y0 : Int32} {y1 : Int32}
    (kt : y1 = 0 → P 69 [.ref 108, .int x1, .int x2, v3, .int x4] [.int y0] (0, 0) (LAY, RFu r, mem)) (kf : ¬ y1 = 0 → P 62 [.ref 108, .int x1, .int x2, v3, .int x4] [.int y0] (0, 0) (LAY, RFu r, mem)) : P 59 [.ref 108, .int x1, .int x2, v3, .int x4] [.int y1, .int y0] (0, 0) (LAY, RFu r, mem) := by
  exact r_if (t := 69) hP d203_59 (by decide) kt kf
theorem b203_62 {d : Nat} {P : xPr} {Q : xQr} {r : Nat} {mem : Nat → Nat → Int32} (hP : Cl d none 203 P Q) {x1 : Int32} {x2 : Int32} {v3 : Value} {x4 : Int32} {y0 : Int32}
    (k : P 70 [.ref 108, .int x1, .int x2, v3, .int x4] [.int ((nI 1) <<< (x4 &&& 31)), .int y0] (0, 0) (LAY, RFu r, mem)) : P 62 [.ref 108, .int x1, .int x2, v3, .int x4] [.int y0] (0, 0) (LAY, RFu r, mem) := by
  refine r_iconst (v := nI 1) hP d203_62 rfl ?_
  refine r_iload hP d203_63 rfl ?_
  refine r_ishl hP d203_65 ?_
  refine r_goto (t := 70) hP d203_66 (by decide) ?_
  exact k
theorem b203_69 {d : Nat} {P : xPr} {Q : xQr} {r : Nat} {mem : Nat → Nat → Int32} (hP : Cl d none 203 P Q) {x1 : Int32} {x2 : Int32} {v3 : Value} {x4 : Int32} {y0 : Int32}
    (k : P 70 [.ref 108, .int x1, .int x2, v3, .int x4] [.int (nI 0), .int y0] (0, 0) (LAY, RFu r, mem)) : P 69 [.ref 108, .int x1, .int x2, v3, .int x4] [.int y0] (0, 0) (LAY, RFu r, mem) := by
  refine r_iconst (v := nI 0) hP d203_69 rfl ?_
  exact k
theorem b203_70 {d : Nat} {P : xPr} {Q : xQr} {r : Nat} {mem : Nat → Nat → Int32} (hP : Cl d none 203 P Q) {x1 : Int32} {x2 : Int32} {v3 : Value} {x4 : Int32} {y0 : Int32} {y1 : Int32}
    (k : P 42 [.ref 108, .int x1, .int x2, .int (y0 ||| y1), .int (x4 + nI 1)] [] (0, 0) (LAY, RFu r, mem)) : P 70 [.ref 108, .int x1, .int x2, v3, .int x4] [.int y1, .int y0] (0, 0) (LAY, RFu r, mem) := by
  refine r_ior hP d203_70 ?_
  refine r_istore_n (L' := [.ref 108, .int x1, .int x2, .int (y0 ||| y1), .int x4]) hP d203_71 (Nat.le_of_ble_eq_true rfl) rfl ?_
  refine r_iinc (v := nI 1) (L' := [.ref 108, .int x1, .int x2, .int (y0 ||| y1), .int (x4 + nI 1)]) hP d203_72 rfl rfl rfl ?_
  refine r_goto (t := 42) hP d203_75 (by decide) ?_
  exact k
theorem b203_78 {d : Nat} {P : xPr} {Q : xQr} {r : Nat} {mem : Nat → Nat → Int32} (hP : Cl d none 203 P Q) {v1 : Value} {v2 : Value} {x3 : Int32} {v4 : Value}
    (k : xCall d 192 [.ref 108, .ref 133, .int (nI 0)] (LAY, RFu r, mem) (Bk P 84 [.ref 108, v1, v2, .int x3, v4] [] (0, 0))) : P 78 [.ref 108, v1, v2, .int x3, v4] [] (0, 0) (LAY, RFu r, mem) := by
  refine r_aload_n hP d203_78 rfl ?_
  refine r_aload_n hP d203_79 rfl ?_
  refine r_getr (a := 133) hP d203_80 fr_12_87 rfl ly_108 rg_108_38 ?_
  refine r_iconst (v := nI 0) hP d203_83 rfl ?_
  exact r_callv (As := [.ref 133, .int (nI 0)]) (S := []) hP d203_84 cr_12_261 (by decide +kernel) rfl (by simp [Value.category]) rfl ly_108 (by simp [Value.category]) ⟨Nat.zero_le _, Nat.zero_le _⟩ k
theorem b203_87 {d : Nat} {P : xPr} {Q : xQr} {r : Nat} {mem : Nat → Nat → Int32} (hP : Cl d none 203 P Q) {v0 : Value} {v1 : Value} {v2 : Value} {x3 : Int32} {v4 : Value}
    (k : Q (some (.int x3)) (LAY, RFu r, mem)) : P 87 [v0, v1, v2, .int x3, v4] [] (0, 0) (LAY, RFu r, mem) := by
  refine r_iload_n hP d203_87 rfl ?_
  exact r_iret hP d203_88 rfl k
theorem d204_0 : decode (xB 204) 0 = .ok (.aload_n 0, 1) := by decide +kernel
theorem d204_1 : decode (xB 204) 1 = .ok (.iconst 0, 1) := by decide +kernel
theorem d204_2 : decode (xB 204) 2 = .ok (.putfield 121, 3) := by decide +kernel
theorem d204_5 : decode (xB 204) 5 = .ok (.aload_n 0, 1) := by decide +kernel
theorem d204_6 : decode (xB 204) 6 = .ok (.iload_n 1, 1) := by decide +kernel
theorem d204_7 : decode (xB 204) 7 = .ok (.invokevirtual 134, 3) := by decide +kernel
theorem d204_10 : decode (xB 204) 10 = .ok (.ifCond .eq 14, 3) := by decide +kernel
theorem d204_13 : decode (xB 204) 13 = .ok (.iload_n 2, 1) := by decide +kernel
theorem d204_14 : decode (xB 204) 14 = .ok (.iconst 0, 1) := by decide +kernel
theorem d204_15 : decode (xB 204) 15 = .ok (.sipush 200, 3) := by decide +kernel
theorem d204_18 : decode (xB 204) 18 = .ok (.invokestatic 130, 3) := by decide +kernel
theorem d204_21 : decode (xB 204) 21 = .ok (.ifCond .ne 5, 3) := by decide +kernel
theorem d204_24 : decode (xB 204) 24 = .ok (.iconst (-1), 1) := by decide +kernel
theorem d204_25 : decode (xB 204) 25 = .ok (.ireturn, 1) := by decide +kernel
theorem d204_26 : decode (xB 204) 26 = .ok (.aload_n 0, 1) := by decide +kernel
theorem d204_27 : decode (xB 204) 27 = .ok (.aload_n 0, 1) := by decide +kernel
theorem d204_28 : decode (xB 204) 28 = .ok (.getfield 87, 3) := by decide +kernel
theorem d204_31 : decode (xB 204) 31 = .ok (.iconst 0, 1) := by decide +kernel
theorem d204_32 : decode (xB 204) 32 = .ok (.invokevirtual 245, 3) := by decide +kernel
theorem d204_35 : decode (xB 204) 35 = .ok (.aload_n 0, 1) := by decide +kernel
theorem d204_36 : decode (xB 204) 36 = .ok (.getfield 35, 3) := by decide +kernel
theorem d204_39 : decode (xB 204) 39 = .ok (.iload_n 1, 1) := by decide +kernel
theorem d204_40 : decode (xB 204) 40 = .ok (.iaload, 1) := by decide +kernel
theorem d204_41 : decode (xB 204) 41 = .ok (.istore_n 3, 1) := by decide +kernel
theorem d204_42 : decode (xB 204) 42 = .ok (.iconst 0, 1) := by decide +kernel
theorem d204_43 : decode (xB 204) 43 = .ok (.istore 4, 2) := by decide +kernel
theorem d204_45 : decode (xB 204) 45 = .ok (.iconst 1, 1) := by decide +kernel
theorem d204_46 : decode (xB 204) 46 = .ok (.istore 5, 2) := by decide +kernel
theorem d204_48 : decode (xB 204) 48 = .ok (.iload 5, 2) := by decide +kernel
theorem d204_50 : decode (xB 204) 50 = .ok (.iload_n 2, 1) := by decide +kernel
theorem d204_51 : decode (xB 204) 51 = .ok (.if_icmp .gt 38, 3) := by decide +kernel
theorem d204_54 : decode (xB 204) 54 = .ok (.aload_n 0, 1) := by decide +kernel
theorem d204_55 : decode (xB 204) 55 = .ok (.invokevirtual 252, 3) := by decide +kernel
theorem d204_58 : decode (xB 204) 58 = .ok (.pop, 1) := by decide +kernel
theorem d204_59 : decode (xB 204) 59 = .ok (.aload_n 0, 1) := by decide +kernel
theorem d204_60 : decode (xB 204) 60 = .ok (.getfield 35, 3) := by decide +kernel
theorem d204_63 : decode (xB 204) 63 = .ok (.iload_n 1, 1) := by decide +kernel
theorem d204_64 : decode (xB 204) 64 = .ok (.iaload, 1) := by decide +kernel
theorem d204_65 : decode (xB 204) 65 = .ok (.iload_n 3, 1) := by decide +kernel
theorem d204_66 : decode (xB 204) 66 = .ok (.if_icmp .gt 6, 3) := by decide +kernel
theorem d204_69 : decode (xB 204) 69 = .ok (.goto 14, 3) := by decide +kernel
theorem d204_72 : decode (xB 204) 72 = .ok (.aload_n 0, 1) := by decide +kernel
theorem d204_73 : decode (xB 204) 73 = .ok (.getfield 35, 3) := by decide +kernel
theorem d204_76 : decode (xB 204) 76 = .ok (.iload_n 1, 1) := by decide +kernel
theorem d204_77 : decode (xB 204) 77 = .ok (.iaload, 1) := by decide +kernel
theorem d204_78 : decode (xB 204) 78 = .ok (.istore_n 3, 1) := by decide +kernel
theorem d204_79 : decode (xB 204) 79 = .ok (.iload 5, 2) := by decide +kernel
theorem d204_81 : decode (xB 204) 81 = .ok (.istore 4, 2) := by decide +kernel
theorem d204_83 : decode (xB 204) 83 = .ok (.iinc 5 1, 3) := by decide +kernel
theorem d204_86 : decode (xB 204) 86 = .ok (.goto (-38), 3) := by decide +kernel
theorem d204_89 : decode (xB 204) 89 = .ok (.aload_n 0, 1) := by decide +kernel
theorem d204_90 : decode (xB 204) 90 = .ok (.aload_n 0, 1) := by decide +kernel
theorem d204_91 : decode (xB 204) 91 = .ok (.getfield 87, 3) := by decide +kernel
theorem d204_94 : decode (xB 204) 94 = .ok (.iconst 0, 1) := by decide +kernel
theorem d204_95 : decode (xB 204) 95 = .ok (.invokevirtual 261, 3) := by decide +kernel
theorem d204_98 : decode (xB 204) 98 = .ok (.aload_n 0, 1) := by decide +kernel
theorem d204_99 : decode (xB 204) 99 = .ok (.iconst 0, 1) := by decide +kernel
theorem d204_100 : decode (xB 204) 100 = .ok (.putfield 124, 3) := by decide +kernel
theorem d204_103 : decode (xB 204) 103 = .ok (.aload_n 0, 1) := by decide +kernel
theorem d204_104 : decode (xB 204) 104 = .ok (.iload 4, 2) := by decide +kernel
theorem d204_106 : decode (xB 204) 106 = .ok (.invokevirtual 258, 3) := by decide +kernel
theorem d204_109 : decode (xB 204) 109 = .ok (.iload_n 3, 1) := by decide +kernel
theorem d204_110 : decode (xB 204) 110 = .ok (.ireturn, 1) := by decide +kernel
theorem b204_0 {d : Nat} {P : xPr} {Q : xQr} {r : Nat} {mem : Nat → Nat → Int32} (hP : Cl d none 204 P Q) {p0 : Int32} {p1 : Int32}
    (k : xCall d 162 [.ref 108, .int p0] (LAY, RFu r, xu2 mem 108 20 (nI 0)) (Bk P 7 [.ref 108, .int p0, .int p1, .null, .null, .null] [] (0, 0))) : P 0 [.ref 108, .int p0, .int p1, .null, .null, .null] [] (0, 0) (LAY, RFu r, mem) := by
  refine r_aload_n hP d204_0 rfl ?_
  refine r_iconst (v := nI 0) hP d204_1 rfl ?_
  refine r_puti hP d204_2 fr_12_121 rfl (fun q => by cases q) ly_108 ?_
  refine r_aload_n hP d204_5 rfl ?_
  refine r_iload_n hP d204_6 rfl ?_
  exact r_callv (As := [.int p0]) (S := []) hP d204_7 cr_12_134 (by decide +kernel) rfl (by simp [Value.category]) rfl ly_108 (by simp [Value.category]) ⟨Nat.zero_le _, Nat.zero_le _⟩ k
theorem b204_10 {d : Nat} {P : xPr} {Q : xQr} {r : Nat} {mem : Nat → Nat → Int32} (hP : Cl d none 204 P Q) {x1 : Int32} {x2 : Int32} {v3 : Value} {v4 : Value} {v5 : Value} {y0 : Int32}
    (kt : y0 = 0 → P 24 [.ref 108, .int x1, .int x2, v3, v4, v5] [] (0, 0) (LAY, RFu r, mem)) (kf : ¬ y0 = 0 → P 13 [.ref 108, .int x1, .int x2, v3, v4, v5] [] (0, 0) (LAY, RFu r, mem)) : P 10 [.ref 108, .int x1, .int x2, v3, v4, v5] [.int y0] (0, 0) (LAY, RFu r, mem) := by
  exact r_if (t := 24) hP d204_10 (by decide) kt kf
theorem b204_13 {d : Nat} {P : xPr} {Q : xQr} {r : Nat} {mem : Nat → Nat → Int32} (hP : Cl d none 204 P Q) {x1 : Int32} {x2 : Int32} {v3 : Value} {v4 : Value} {v5 : Value}
    (k : xCall d 158 [.int x2, .int (nI 0), .int (nI 200)] (LAY, RFu r, mem) (Bk P 18 [.ref 108, .int x1, .int x2, v3, v4, v5] [] (0, 0))) : P 13 [.ref 108, .int x1, .int x2, v3, v4, v5] [] (0, 0) (LAY, RFu r, mem) := by
  refine r_iload_n hP d204_13 rfl ?_
  refine r_iconst (v := nI 0) hP d204_14 rfl ?_
  refine r_sipush (v := nI 200) hP d204_15 rfl ?_
  exact r_calls (As := [.int x2, .int (nI 0), .int (nI 200)]) (S := []) hP d204_18 cr_12_130 (by decide +kernel) rfl (by simp [Value.category]) rfl (by simp [Value.category]) ⟨Nat.zero_le _, Nat.zero_le _⟩ k
theorem b204_21 {d : Nat} {P : xPr} {Q : xQr} {r : Nat} {mem : Nat → Nat → Int32} (hP : Cl d none 204 P Q) {x1 : Int32} {x2 : Int32} {v3 : Value} {v4 : Value} {v5 : Value} {y0 : Int32}
    (kt : ¬ y0 = 0 → P 26 [.ref 108, .int x1, .int x2, v3, v4, v5] [] (0, 0) (LAY, RFu r, mem)) (kf : y0 = 0 → P 24 [.ref 108, .int x1, .int x2, v3, v4, v5] [] (0, 0) (LAY, RFu r, mem)) : P 21 [.ref 108, .int x1, .int x2, v3, v4, v5] [.int y0] (0, 0) (LAY, RFu r, mem) := by
  exact r_if (t := 26) hP d204_21 (by decide) kt (fun q => kf (Decidable.of_not_not q))
theorem b204_24 {d : Nat} {P : xPr} {Q : xQr} {r : Nat} {mem : Nat → Nat → Int32} (hP : Cl d none 204 P Q) {v0 : Value} {v1 : Value} {v2 : Value} {v3 : Value} {v4 : Value} {v5 : Value}
    (k : Q (some (.int (-1))) (LAY, RFu r, mem)) : P 24 [v0, v1, v2, v3, v4, v5] [] (0, 0) (LAY, RFu r, mem) := by
  refine r_iconst (v := (-1)) hP d204_24 rfl ?_
  exact r_iret hP d204_25 rfl k
theorem b204_26 {d : Nat} {P : xPr} {Q : xQr} {r : Nat} {mem : Nat → Nat → Int32} (hP : Cl d none 204 P Q) {x1 : Int32} {x2 : Int32} {v3 : Value} {v4 : Value} {v5 : Value}
    (k : xCall d 191 [.ref 108, .ref 133, .int (nI 0)] (LAY, RFu r, mem) (Bk P 32 [.ref 108, .int x1, .int x2, v3, v4, v5] [] (0, 0))) : P 26 [.ref 108, .int x1, .int x2, v3, v4, v5] [] (0, 0) (LAY, RFu r, mem) := by
  refine r_aload_n hP d204_26 rfl ?_
  refine r_aload_n hP d204_27 rfl ?_
  refine r_getr (a := 133) hP d204_28 fr_12_87 rfl ly_108 rg_108_38 ?_
  refine r_iconst (v := nI 0) hP d204_31 rfl ?_
  exact r_callv (As := [.ref 133, .int (nI 0)]) (S := []) hP d204_32 cr_12_245 (by decide +kernel) rfl (by simp [Value.category]) rfl ly_108 (by simp [Value.category]) ⟨Nat.zero_le _, Nat.zero_le _⟩ k
theorem b204_35 {d : Nat} {P : xPr} {Q : xQr} {r : Nat} {mem : Nat → Nat → Int32} (hP : Cl d none 204 P Q) {x1 : Int32} {x2 : Int32} {v3 : Value} {v4 : Value} {v5 : Value} (hi40 : vp_in x1 8)
    (k : P 48 [.ref 108, .int x1, .int x2, .int (mem 117 x1.toNatClampNeg), .int (nI 0), .int (nI 1)] [] (0, 0) (LAY, RFu r, mem)) : P 35 [.ref 108, .int x1, .int x2, v3, v4, v5] [] (0, 0) (LAY, RFu r, mem) := by
  refine r_aload_n hP d204_35 rfl ?_
  refine r_getr (a := 117) hP d204_36 fr_12_35 rfl ly_108 rg_108_10 ?_
  refine r_iload_n hP d204_39 rfl ?_
  refine r_iaload hP d204_40 ly_117 hi40 ?_
  refine r_istore_n (L' := [.ref 108, .int x1, .int x2, .int (mem 117 x1.toNatClampNeg), v4, v5]) hP d204_41 (Nat.le_of_ble_eq_true rfl) rfl ?_
  refine r_iconst (v := nI 0) hP d204_42 rfl ?_
  refine r_istore (L' := [.ref 108, .int x1, .int x2, .int (mem 117 x1.toNatClampNeg), .int (nI 0), v5]) hP d204_43 (Nat.le_of_ble_eq_true rfl) rfl ?_
  refine r_iconst (v := nI 1) hP d204_45 rfl ?_
  refine r_istore (L' := [.ref 108, .int x1, .int x2, .int (mem 117 x1.toNatClampNeg), .int (nI 0), .int (nI 1)]) hP d204_46 (Nat.le_of_ble_eq_true rfl) rfl ?_
  exact k
theorem b204_48 {d : Nat} {P : xPr} {Q : xQr} {r : Nat} {mem : Nat → Nat → Int32} (hP : Cl d none 204 P Q) {x1 : Int32} {x2 : Int32} {x3 : Int32} {x4 : Int32} {x5 : Int32}
    (kt : x2 < x5 → P 89 [.ref 108, .int x1, .int x2, .int x3, .int x4, .int x5] [] (0, 0) (LAY, RFu r, mem)) (kf : ¬ x2 < x5 → P 54 [.ref 108, .int x1, .int x2, .int x3, .int x4, .int x5] [] (0, 0) (LAY, RFu r, mem)) : P 48 [.ref 108, .int x1, .int x2, .int x3, .int x4, .int x5] [] (0, 0) (LAY, RFu r, mem) := by
  refine r_iload hP d204_48 rfl ?_
  refine r_iload_n hP d204_50 rfl ?_
  exact r_icmp (t := 89) hP d204_51 (by decide) kt kf
theorem b204_54 {d : Nat} {P : xPr} {Q : xQr} {r : Nat} {mem : Nat → Nat → Int32} (hP : Cl d none 204 P Q) {x1 : Int32} {x2 : Int32} {x3 : Int32} {x4 : Int32} {x5 : Int32}
    (k : xCall d 190 [.ref 108] (LAY, RFu r, mem) (Bk P 55 [.ref 108, .int x1, .int x2, .int x3, .int x4, .int x5] [] (0, 0))) : P 54 [.ref 108, .int x1, .int x2, .int x3, .int x4, .int x5] [] (0, 0) (LAY, RFu r, mem) := by
  refine r_aload_n hP d204_54 rfl ?_
  exact r_callv (As := []) (S := []) hP d204_55 cr_12_252 (by decide +kernel) rfl (by simp) rfl ly_108 (by simp [Value.category]) ⟨Nat.zero_le _, Nat.zero_le _⟩ k
theorem b204_58 {d : Nat} {P : xPr} {Q : xQr} {r : Nat} {mem : Nat → Nat → Int32} (hP : Cl d none 204 P Q) {x1 : Int32} {x2 : Int32} {x3 : Int32} {x4 : Int32} {x5 : Int32} {y0 : Int32} (hi64 : vp_in x1 8)
    (kt : x3 < (mem 117 x1.toNatClampNeg) → P 72 [.ref 108, .int x1, .int x2, .int x3, .int x4, .int x5] [] (0, 0) (LAY, RFu r, mem)) (kf : ¬ x3 < (mem 117 x1.toNatClampNeg) → P 69 [.ref 108, .int x1, .int x2, .int x3, .int x4, .int x5] [] (0, 0) (LAY, RFu r, mem)) : P 58 [.ref 108, .int x1, .int x2, .int x3, .int x4, .int x5] [.int y0] (0, 0) (LAY, RFu r, mem) := by
  refine r_pop hP d204_58 rfl ?_
  refine r_aload_n hP d204_59 rfl ?_
  refine r_getr (a := 117) hP d204_60 fr_12_35 rfl ly_108 rg_108_10 ?_
  refine r_iload_n hP d204_63 rfl ?_
  refine r_iaload hP d204_64 ly_117 hi64 ?_
  refine r_iload_n hP d204_65 rfl ?_
  exact r_icmp (t := 72) hP d204_66 (by decide) kt kf
theorem b204_69 {d : Nat} {P : xPr} {Q : xQr} {r : Nat} {mem : Nat → Nat → Int32} (hP : Cl d none 204 P Q) {x1 : Int32} {x2 : Int32} {x3 : Int32} {x4 : Int32} {x5 : Int32}
    (k : P 83 [.ref 108, .int x1, .int x2, .int x3, .int x4, .int x5] [] (0, 0) (LAY, RFu r, mem)) : P 69 [.ref 108, .int x1, .int x2, .int x3, .int x4, .int x5] [] (0, 0) (LAY, RFu r, mem) := by
  refine r_goto (t := 83) hP d204_69 (by decide) ?_
  exact k
theorem b204_72 {d : Nat} {P : xPr} {Q : xQr} {r : Nat} {mem : Nat → Nat → Int32} (hP : Cl d none 204 P Q) {x1 : Int32} {x2 : Int32} {v3 : Value} {v4 : Value} {x5 : Int32} (hi77 : vp_in x1 8)
    (k : P 83 [.ref 108, .int x1, .int x2, .int (mem 117 x1.toNatClampNeg), .int x5, .int x5] [] (0, 0) (LAY, RFu r, mem)) : P 72 [.ref 108, .int x1, .int x2, v3, v4, .int x5] [] (0, 0) (LAY, RFu r, mem) := by
  refine r_aload_n hP d204_72 rfl ?_
  refine r_getr (a := 117) hP d204_73 fr_12_35 rfl ly_108 rg_108_10 ?_
  refine r_iload_n hP d204_76 rfl ?_
  refine r_iaload hP d204_77 ly_117 hi77 ?_
  refine r_istore_n (L' := [.ref 108, .int x1, .int x2, .int (mem 117 x1.toNatClampNeg), v4, .int x5]) hP d204_78 (Nat.le_of_ble_eq_true rfl) rfl ?_
  refine r_iload hP d204_79 rfl ?_
  refine r_istore (L' := [.ref 108, .int x1, .int x2, .int (mem 117 x1.toNatClampNeg), .int x5, .int x5]) hP d204_81 (Nat.le_of_ble_eq_true rfl) rfl ?_
  exact k
theorem b204_83 {d : Nat} {P : xPr} {Q : xQr} {r : Nat} {mem : Nat → Nat → Int32} (hP : Cl d none 204 P Q) {x1 : Int32} {x2 : Int32} {x3 : Int32} {x4 : Int32} {x5 : Int32}
    (k : P 48 [.ref 108, .int x1, .int x2, .int x3, .int x4, .int (x5 + nI 1)] [] (0, 0) (LAY, RFu r, mem)) : P 83 [.ref 108, .int x1, .int x2, .int x3, .int x4, .int x5] [] (0, 0) (LAY, RFu r, mem) := by
  refine r_iinc (v := nI 1) (L' := [.ref 108, .int x1, .int x2, .int x3, .int x4, .int (x5 + nI 1)]) hP d204_83 rfl rfl rfl ?_
  refine r_goto (t := 48) hP d204_86 (by decide) ?_
  exact k
theorem b204_89 {d : Nat} {P : xPr} {Q : xQr} {r : Nat} {mem : Nat → Nat → Int32} (hP : Cl d none 204 P Q) {v1 : Value} {v2 : Value} {x3 : Int32} {x4 : Int32} {v5 : Value}
    (k : xCall d 192 [.ref 108, .ref 133, .int (nI 0)] (LAY, RFu r, mem) (Bk P 95 [.ref 108, v1, v2, .int x3, .int x4, v5] [] (0, 0))) : P 89 [.ref 108, v1, v2, .int x3, .int x4, v5] [] (0, 0) (LAY, RFu r, mem) := by
  refine r_aload_n hP d204_89 rfl ?_
  refine r_aload_n hP d204_90 rfl ?_
  refine r_getr (a := 133) hP d204_91 fr_12_87 rfl ly_108 rg_108_38 ?_
  refine r_iconst (v := nI 0) hP d204_94 rfl ?_
  exact r_callv (As := [.ref 133, .int (nI 0)]) (S := []) hP d204_95 cr_12_261 (by decide +kernel) rfl (by simp [Value.category]) rfl ly_108 (by simp [Value.category]) ⟨Nat.zero_le _, Nat.zero_le _⟩ k
theorem b204_98 {d : Nat} {P : xPr} {Q : xQr} {r : Nat} {mem : Nat → Nat → Int32} (hP : Cl d none 204 P Q) {v1 : Value} {v2 : Value} {x3 : Int32} {x4 : Int32} {v5 : Value}
    (k : xCall d 161 [.ref 108, .int x4] (LAY, RFu r, xu2 mem 108 19 (nI 0)) (Bk P 106 [.ref 108, v1, v2, .int x3, .int x4, v5] [] (0, 0))) : P 98 [.ref 108, v1, v2, .int x3, .int x4, v5] [] (0, 0) (LAY, RFu r, mem) := by
  refine r_aload_n hP d204_98 rfl ?_
  refine r_iconst (v := nI 0) hP d204_99 rfl ?_
  refine r_puti hP d204_100 fr_12_124 rfl (fun q => by cases q) ly_108 ?_
  refine r_aload_n hP d204_103 rfl ?_
  refine r_iload hP d204_104 rfl ?_
  exact r_callv (As := [.int x4]) (S := []) hP d204_106 cr_12_258 (by decide +kernel) rfl (by simp [Value.category]) rfl ly_108 (by simp [Value.category]) ⟨Nat.zero_le _, Nat.zero_le _⟩ k
theorem b204_109 {d : Nat} {P : xPr} {Q : xQr} {r : Nat} {mem : Nat → Nat → Int32} (hP : Cl d none 204 P Q) {v0 : Value} {v1 : Value} {v2 : Value} {x3 : Int32} {v4 : Value} {v5 : Value}
    (k : Q (some (.int x3)) (LAY, RFu r, mem)) : P 109 [v0, v1, v2, .int x3, v4, v5] [] (0, 0) (LAY, RFu r, mem) := by
  refine r_iload_n hP d204_109 rfl ?_
  exact r_iret hP d204_110 rfl k
theorem d205_0 : decode (xB 205) 0 = .ok (.aload_n 0, 1) := by decide +kernel
theorem d205_1 : decode (xB 205) 1 = .ok (.iconst 0, 1) := by decide +kernel
theorem d205_2 : decode (xB 205) 2 = .ok (.putfield 121, 3) := by decide +kernel
theorem d205_5 : decode (xB 205) 5 = .ok (.aload_n 0, 1) := by decide +kernel
theorem d205_6 : decode (xB 205) 6 = .ok (.iload_n 1, 1) := by decide +kernel
theorem d205_7 : decode (xB 205) 7 = .ok (.iload_n 2, 1) := by decide +kernel
theorem d205_8 : decode (xB 205) 8 = .ok (.invokevirtual 286, 3) := by decide +kernel
theorem d205_11 : decode (xB 205) 11 = .ok (.ifCond .eq 17, 3) := by decide +kernel
theorem d205_14 : decode (xB 205) 14 = .ok (.aload_n 0, 1) := by decide +kernel
theorem d205_15 : decode (xB 205) 15 = .ok (.getfield 47, 3) := by decide +kernel
theorem d205_18 : decode (xB 205) 18 = .ok (.bipush 8, 2) := by decide +kernel
theorem d205_20 : decode (xB 205) 20 = .ok (.iload_n 1, 1) := by decide +kernel
theorem d205_21 : decode (xB 205) 21 = .ok (.imul, 1) := by decide +kernel
theorem d205_22 : decode (xB 205) 22 = .ok (.iload_n 2, 1) := by decide +kernel
theorem d205_23 : decode (xB 205) 23 = .ok (.iadd, 1) := by decide +kernel
theorem d205_24 : decode (xB 205) 24 = .ok (.iaload, 1) := by decide +kernel
theorem d205_25 : decode (xB 205) 25 = .ok (.goto 4, 3) := by decide +kernel
theorem d205_28 : decode (xB 205) 28 = .ok (.iconst (-1), 1) := by decide +kernel
theorem d205_29 : decode (xB 205) 29 = .ok (.ireturn, 1) := by decide +kernel
theorem b205_0 {d : Nat} {P : xPr} {Q : xQr} {r : Nat} {mem : Nat → Nat → Int32} (hP : Cl d none 205 P Q) {p0 : Int32} {p1 : Int32}
    (k : xCall d 163 [.ref 108, .int p0, .int p1] (LAY, RFu r, xu2 mem 108 20 (nI 0)) (Bk P 8 [.ref 108, .int p0, .int p1] [] (0, 0))) : P 0 [.ref 108, .int p0, .int p1] [] (0, 0) (LAY, RFu r, mem) := by
  refine r_aload_n hP d205_0 rfl ?_
  refine r_iconst (v := nI 0) hP d205_1 rfl ?_
  refine r_puti hP d205_2 fr_12_121 rfl (fun q => by cases q) ly_108 ?_
  refine r_aload_n hP d205_5 rfl ?_
  refine r_iload_n hP d205_6 rfl ?_
  refine r_iload_n hP d205_7 rfl ?_
  exact r_callv (As := [.int p0, .int p1]) (S := []) hP d205_8 cr_12_286 (by decide +kernel) rfl (by simp [Value.category]) rfl ly_108 (by simp [Value.category]) ⟨Nat.zero_le _, Nat.zero_le _⟩ k
theorem b205_11 {d : Nat} {P : xPr} {Q : xQr} {r : Nat} {mem : Nat → Nat → Int32} (hP : Cl d none 205 P Q) {x1 : Int32} {x2 : Int32} {y0 : Int32}
    (kt : y0 = 0 → P 28 [.ref 108, .int x1, .int x2] [] (0, 0) (LAY, RFu r, mem)) (kf : ¬ y0 = 0 → P 14 [.ref 108, .int x1, .int x2] [] (0, 0) (LAY, RFu r, mem)) : P 11 [.ref 108, .int x1, .int x2] [.int y0] (0, 0) (LAY, RFu r, mem) := by
  exact r_if (t := 28) hP d205_11 (by decide) kt kf
theorem b205_14 {d : Nat} {P : xPr} {Q : xQr} {r : Nat} {mem : Nat → Nat → Int32} (hP : Cl d none 205 P Q) {x1 : Int32} {x2 : Int32} (hi24 : vp_in (((nI 8) * x1) + x2) 64)
    (k : P 29 [.ref 108, .int x1, .int x2] [.int (mem 121 (((nI 8) * x1) + x2).toNatClampNeg)] (0, 0) (LAY, RFu r, mem)) : P 14 [.ref 108, .int x1, .int x2] [] (0, 0) (LAY, RFu r, mem) := by
  refine r_aload_n hP d205_14 rfl ?_
  refine r_getr (a := 121) hP d205_15 fr_12_47 rfl ly_108 rg_108_14 ?_
  refine r_bipush (v := nI 8) hP d205_18 rfl ?_
  refine r_iload_n hP d205_20 rfl ?_
  refine r_imul hP d205_21 ?_
  refine r_iload_n hP d205_22 rfl ?_
  refine r_iadd hP d205_23 ?_
  refine r_iaload hP d205_24 ly_121 hi24 ?_
  refine r_goto (t := 29) hP d205_25 (by decide) ?_
  exact k
theorem b205_28 {d : Nat} {P : xPr} {Q : xQr} {r : Nat} {mem : Nat → Nat → Int32} (hP : Cl d none 205 P Q) {v0 : Value} {v1 : Value} {v2 : Value}
    (k : P 29 [v0, v1, v2] [.int (-1)] (0, 0) (LAY, RFu r, mem)) : P 28 [v0, v1, v2] [] (0, 0) (LAY, RFu r, mem) := by
  refine r_iconst (v := (-1)) hP d205_28 rfl ?_
  exact k
theorem b205_29 {d : Nat} {P : xPr} {Q : xQr} {r : Nat} {mem : Nat → Nat → Int32} (hP : Cl d none 205 P Q) {v0 : Value} {v1 : Value} {v2 : Value} {y0 : Int32}
    (k : Q (some (.int y0)) (LAY, RFu r, mem)) : P 29 [v0, v1, v2] [.int y0] (0, 0) (LAY, RFu r, mem) := by
  exact r_iret hP d205_29 rfl k
theorem d206_0 : decode (xB 206) 0 = .ok (.aload_n 0, 1) := by decide +kernel
theorem d206_1 : decode (xB 206) 1 = .ok (.iconst 0, 1) := by decide +kernel
theorem d206_2 : decode (xB 206) 2 = .ok (.putfield 121, 3) := by decide +kernel
theorem d206_5 : decode (xB 206) 5 = .ok (.iconst 0, 1) := by decide +kernel
theorem d206_6 : decode (xB 206) 6 = .ok (.istore_n 1, 1) := by decide +kernel
theorem d206_7 : decode (xB 206) 7 = .ok (.iconst 0, 1) := by decide +kernel
theorem d206_8 : decode (xB 206) 8 = .ok (.istore_n 2, 1) := by decide +kernel
theorem d206_9 : decode (xB 206) 9 = .ok (.iconst 0, 1) := by decide +kernel
theorem d206_10 : decode (xB 206) 10 = .ok (.istore_n 3, 1) := by decide +kernel
theorem d206_11 : decode (xB 206) 11 = .ok (.iconst 0, 1) := by decide +kernel
theorem d206_12 : decode (xB 206) 12 = .ok (.istore 4, 2) := by decide +kernel
theorem d206_14 : decode (xB 206) 14 = .ok (.iload 4, 2) := by decide +kernel
theorem d206_16 : decode (xB 206) 16 = .ok (.aload_n 0, 1) := by decide +kernel
theorem d206_17 : decode (xB 206) 17 = .ok (.getfield 127, 3) := by decide +kernel
theorem d206_20 : decode (xB 206) 20 = .ok (.if_icmp .ge 77, 3) := by decide +kernel
theorem d206_23 : decode (xB 206) 23 = .ok (.iload 4, 2) := by decide +kernel
theorem d206_25 : decode (xB 206) 25 = .ok (.iconst 1, 1) := by decide +kernel
theorem d206_26 : decode (xB 206) 26 = .ok (.iadd, 1) := by decide +kernel
theorem d206_27 : decode (xB 206) 27 = .ok (.istore 5, 2) := by decide +kernel
theorem d206_29 : decode (xB 206) 29 = .ok (.iload 5, 2) := by decide +kernel
theorem d206_31 : decode (xB 206) 31 = .ok (.aload_n 0, 1) := by decide +kernel
theorem d206_32 : decode (xB 206) 32 = .ok (.getfield 127, 3) := by decide +kernel
theorem d206_35 : decode (xB 206) 35 = .ok (.if_icmp .ge 56, 3) := by decide +kernel
theorem d206_38 : decode (xB 206) 38 = .ok (.aload_n 0, 1) := by decide +kernel
theorem d206_39 : decode (xB 206) 39 = .ok (.getfield 47, 3) := by decide +kernel
theorem d206_42 : decode (xB 206) 42 = .ok (.bipush 8, 2) := by decide +kernel
theorem d206_44 : decode (xB 206) 44 = .ok (.iload 4, 2) := by decide +kernel
theorem d206_46 : decode (xB 206) 46 = .ok (.imul, 1) := by decide +kernel
theorem d206_47 : decode (xB 206) 47 = .ok (.iload 5, 2) := by decide +kernel
theorem d206_49 : decode (xB 206) 49 = .ok (.iadd, 1) := by decide +kernel
theorem d206_50 : decode (xB 206) 50 = .ok (.iaload, 1) := by decide +kernel
theorem d206_51 : decode (xB 206) 51 = .ok (.aload_n 0, 1) := by decide +kernel
theorem d206_52 : decode (xB 206) 52 = .ok (.getfield 47, 3) := by decide +kernel
theorem d206_55 : decode (xB 206) 55 = .ok (.bipush 8, 2) := by decide +kernel
theorem d206_57 : decode (xB 206) 57 = .ok (.iload 5, 2) := by decide +kernel
theorem d206_59 : decode (xB 206) 59 = .ok (.imul, 1) := by decide +kernel
theorem d206_60 : decode (xB 206) 60 = .ok (.iload 4, 2) := by decide +kernel
theorem d206_62 : decode (xB 206) 62 = .ok (.iadd, 1) := by decide +kernel
theorem d206_63 : decode (xB 206) 63 = .ok (.iaload, 1) := by decide +kernel
theorem d206_64 : decode (xB 206) 64 = .ok (.iadd, 1) := by decide +kernel
theorem d206_65 : decode (xB 206) 65 = .ok (.istore 6, 2) := by decide +kernel
theorem d206_67 : decode (xB 206) 67 = .ok (.iload 6, 2) := by decide +kernel
theorem d206_69 : decode (xB 206) 69 = .ok (.iload_n 1, 1) := by decide +kernel
theorem d206_70 : decode (xB 206) 70 = .ok (.if_icmp .gt 6, 3) := by decide +kernel
theorem d206_73 : decode (xB 206) 73 = .ok (.goto 12, 3) := by decide +kernel
theorem d206_76 : decode (xB 206) 76 = .ok (.iload 6, 2) := by decide +kernel
theorem d206_78 : decode (xB 206) 78 = .ok (.istore_n 1, 1) := by decide +kernel
theorem d206_79 : decode (xB 206) 79 = .ok (.iload 4, 2) := by decide +kernel
theorem d206_81 : decode (xB 206) 81 = .ok (.istore_n 2, 1) := by decide +kernel
theorem d206_82 : decode (xB 206) 82 = .ok (.iload 5, 2) := by decide +kernel
theorem d206_84 : decode (xB 206) 84 = .ok (.istore_n 3, 1) := by decide +kernel
theorem d206_85 : decode (xB 206) 85 = .ok (.iinc 5 1, 3) := by decide +kernel
theorem d206_88 : decode (xB 206) 88 = .ok (.goto (-59), 3) := by decide +kernel
theorem d206_91 : decode (xB 206) 91 = .ok (.iinc 4 1, 3) := by decide +kernel
theorem d206_94 : decode (xB 206) 94 = .ok (.goto (-80), 3) := by decide +kernel
theorem d206_97 : decode (xB 206) 97 = .ok (.aload_n 0, 1) := by decide +kernel
theorem d206_98 : decode (xB 206) 98 = .ok (.iconst 0, 1) := by decide +kernel
theorem d206_99 : decode (xB 206) 99 = .ok (.putfield 124, 3) := by decide +kernel
theorem d206_102 : decode (xB 206) 102 = .ok (.iload_n 1, 1) := by decide +kernel
theorem d206_103 : decode (xB 206) 103 = .ok (.ifCond .le 13, 3) := by decide +kernel
theorem d206_106 : decode (xB 206) 106 = .ok (.aload_n 0, 1) := by decide +kernel
theorem d206_107 : decode (xB 206) 107 = .ok (.iload_n 2, 1) := by decide +kernel
theorem d206_108 : decode (xB 206) 108 = .ok (.invokevirtual 258, 3) := by decide +kernel
theorem d206_111 : decode (xB 206) 111 = .ok (.aload_n 0, 1) := by decide +kernel
theorem d206_112 : decode (xB 206) 112 = .ok (.iload_n 3, 1) := by decide +kernel
theorem d206_113 : decode (xB 206) 113 = .ok (.invokevirtual 258, 3) := by decide +kernel
theorem d206_116 : decode (xB 206) 116 = .ok (.iload_n 1, 1) := by decide +kernel
theorem d206_117 : decode (xB 206) 117 = .ok (.ireturn, 1) := by decide +kernel
theorem b206_0 {d : Nat} {P : xPr} {Q : xQr} {r : Nat} {mem : Nat → Nat → Int32} (hP : Cl d none 206 P Q)
    (k : P 14 [.ref 108, .int (nI 0), .int (nI 0), .int (nI 0), .int (nI 0), .null, .null] [] (0, 0) (LAY, RFu r, xu2 mem 108 20 (nI 0))) : P 0 [.ref 108, .null, .null, .null, .null, .null, .null] [] (0, 0) (LAY, RFu r, mem) := by
  refine r_aload_n hP d206_0 rfl ?_
  refine r_iconst (v := nI 0) hP d206_1 rfl ?_
  refine r_puti hP d206_2 fr_12_121 rfl (fun q => by cases q) ly_108 ?_
  refine r_iconst (v := nI 0) hP d206_5 rfl ?_
  refine r_istore_n (L' := [.ref 108, .int (nI 0), .null, .null, .null, .null, .null]) hP d206_6 (Nat.le_of_ble_eq_true rfl) rfl ?_
  refine r_iconst (v := nI 0) hP d206_7 rfl ?_
  refine r_istore_n (L' := [.ref 108, .int (nI 0), .int (nI 0), .null, .null, .null, .null]) hP d206_8 (Nat.le_of_ble_eq_true rfl) rfl ?_
  refine r_iconst (v := nI 0) hP d206_9 rfl ?_
  refine r_istore_n (L' := [.ref 108, .int (nI 0), .int (nI 0), .int (nI 0), .null, .null, .null]) hP d206_10 (Nat.le_of_ble_eq_true rfl) rfl ?_
  refine r_iconst (v := nI 0) hP d206_11 rfl ?_
  refine r_istore (L' := [.ref 108, .int (nI 0), .int (nI 0), .int (nI 0), .int (nI 0), .null, .null]) hP d206_12 (Nat.le_of_ble_eq_true rfl) rfl ?_
  exact k
theorem b206_14 {d : Nat} {P : xPr} {Q : xQr} {r : Nat} {mem : Nat → Nat → Int32} (hP : Cl d none 206 P Q) {x1 : Int32} {x2 : Int32} {x3 : Int32} {x4 : Int32} {v5 : Value} {v6 : Value}
    (kt : (mem 108 2) ≤ x4 → P 97 [.ref 108, .int x1, .int x2, .int x3, .int x4, v5, v6] [] (0, 0) (LAY, RFu r, mem)) (kf : ¬ (mem 108 2) ≤ x4 → P 23 [.ref 108, .int x1, .int x2, .int x3, .int x4, v5, v6] [] (0, 0) (LAY, RFu r, mem)) : P 14 [.ref 108, .int x1, .int x2, .int x3, .int x4, v5, v6] [] (0, 0) (LAY, RFu r, mem) := by
  refine r_iload hP d206_14 rfl ?_
  refine r_aload_n hP d206_16 rfl ?_
  refine r_geti hP d206_17 fr_12_127 rfl ly_108 ?_
  exact r_icmp (t := 97) hP d206_20 (by decide) kt kf
theorem b206_23 {d : Nat} {P : xPr} {Q : xQr} {r : Nat} {mem : Nat → Nat → Int32} (hP : Cl d none 206 P Q) {x1 : Int32} {x2 : Int32} {x3 : Int32} {x4 : Int32} {v5 : Value} {v6 : Value}
    (k : P 29 [.ref 108, .int x1, .int x2, .int x3, .int x4, .int (x4 + (nI 1)), v6] [] (0, 0) (LAY, RFu r, mem)) : P 23 [.ref 108, .int x1, .int x2, .int x3, .int x4, v5, v6] [] (0, 0) (LAY, RFu r, mem) := by
  refine r_iload hP d206_23 rfl ?_
  refine r_iconst (v := nI 1) hP d206_25 rfl ?_
  refine r_iadd hP d206_26 ?_
  refine r_istore (L' := [.ref 108, .int x1, .int x2, .int x3, .int x4, .int (x4 + (nI 1)), v6]) hP d206_27 (Nat.le_of_ble_eq_true rfl) rfl ?_
  exact k
theorem b206_29 {d : Nat} {P : xPr} {Q : xQr} {r : Nat} {mem : Nat → Nat → Int32} (hP : Cl d none 206 P Q) {x1 : Int32} {x2 : Int32} {x3 : Int32} {x4 : Int32} {x5 : Int32} {v6 : Value}
    (kt : (mem 108 2) ≤ x5 → P 91 [.ref 108, .int x1, .int x2, .int x3, .int x4, .int x5, v6] [] (0, 0) (LAY, RFu r, mem)) (kf : ¬ (mem 108 2) ≤ x5 → P 38 [.ref 108, .int x1, .int x2, .int x3, .int x4, .int x5, v6] [] (0, 0) (LAY, RFu r, mem)) : P 29 [.ref 108, .int x1, .int x2, .int x3, .int x4, .int x5, v6] [] (0, 0) (LAY, RFu r, mem) := by
  refine r_iload hP d206_29 rfl ?_
  refine r_aload_n hP d206_31 rfl ?_
  refine r_geti hP d206_32 fr_12_127 rfl ly_108 ?_
  exact r_icmp (t := 91) hP d206_35 (by decide) kt kf
theorem b206_38 {d : Nat} {P : xPr} {Q : xQr} {r : Nat} {mem : Nat → Nat → Int32} (hP : Cl d none 206 P Q) {x1 : Int32} {x2 : Int32} {x3 : Int32} {x4 : Int32} {x5 : Int32} {v6 : Value} (hi50 : vp_in (((nI 8) * x4) + x5) 64) (hi63 : vp_in (((nI 8) * x5) + x4) 64)
    (kt : x1 < ((mem 121 (((nI 8) * x4) + x5).toNatClampNeg) + (mem 121 (((nI 8) * x5) + x4).toNatClampNeg)) → P 76 [.ref 108, .int x1, .int x2, .int x3, .int x4, .int x5, .int ((mem 121 (((nI 8) * x4) + x5).toNatClampNeg) + (mem 121 (((nI 8) * x5) + x4).toNatClampNeg))] [] (0, 0) (LAY, RFu r, mem)) (kf : ¬ x1 < ((mem 121 (((nI 8) * x4) + x5).toNatClampNeg) + (mem 121 (((nI 8) * x5) + x4).toNatClampNeg)) → P 73 [.ref 108, .int x1, .int x2, .int x3, .int x4, .int x5, .int ((mem 121 (((nI 8) * x4) + x5).toNatClampNeg) + (mem 121 (((nI 8) * x5) + x4).toNatClampNeg))] [] (0, 0) (LAY, RFu r, mem)) : P 38 [.ref 108, .int x1, .int x2, .int x3, .int x4, .int x5, v6] [] (0, 0) (LAY, RFu r, mem) := by
  refine r_aload_n hP d206_38 rfl ?_
  refine r_getr (a := 121) hP d206_39 fr_12_47 rfl ly_108 rg_108_14 ?_
  refine r_bipush (v := nI 8) hP d206_42 rfl ?_
  refine r_iload hP d206_44 rfl ?_
  refine r_imul hP d206_46 ?_
  refine r_iload hP d206_47 rfl ?_
  refine r_iadd hP d206_49 ?_
  refine r_iaload hP d206_50 ly_121 hi50 ?_
  refine r_aload_n hP d206_51 rfl ?_
  refine r_getr (a := 121) hP d206_52 fr_12_47 rfl ly_108 rg_108_14 ?_
  refine r_bipush (v := nI 8) hP d206_55 rfl ?_
  refine r_iload hP d206_57 rfl ?_
  refine r_imul hP d206_59 ?_
  refine r_iload hP d206_60 rfl ?_
  refine r_iadd hP d206_62 ?_
  refine r_iaload hP d206_63 ly_121 hi63 ?_
  refine r_iadd hP d206_64 ?_
  refine r_istore (L' := [.ref 108, .int x1, .int x2, .int x3, .int x4, .int x5, .int ((mem 121 (((nI 8) * x4) + x5).toNatClampNeg) + (mem 121 (((nI 8) * x5) + x4).toNatClampNeg))]) hP d206_65 (Nat.le_of_ble_eq_true rfl) rfl ?_
  refine r_iload hP d206_67 rfl ?_
  refine r_iload_n hP d206_69 rfl ?_
  exact r_icmp (t := 76) hP d206_70 (by decide) kt kf
theorem b206_73 {d : Nat} {P : xPr} {Q : xQr} {r : Nat} {mem : Nat → Nat → Int32} (hP : Cl d none 206 P Q) {x1 : Int32} {x2 : Int32} {x3 : Int32} {x4 : Int32} {x5 : Int32} {v6 : Value}
    (k : P 85 [.ref 108, .int x1, .int x2, .int x3, .int x4, .int x5, v6] [] (0, 0) (LAY, RFu r, mem)) : P 73 [.ref 108, .int x1, .int x2, .int x3, .int x4, .int x5, v6] [] (0, 0) (LAY, RFu r, mem) := by
  refine r_goto (t := 85) hP d206_73 (by decide) ?_
  exact k
theorem b206_76 {d : Nat} {P : xPr} {Q : xQr} {r : Nat} {mem : Nat → Nat → Int32} (hP : Cl d none 206 P Q) {v1 : Value} {v2 : Value} {v3 : Value} {x4 : Int32} {x5 : Int32} {x6 : Int32}
    (k : P 85 [.ref 108, .int x6, .int x4, .int x5, .int x4, .int x5, .int x6] [] (0, 0) (LAY, RFu r, mem)) : P 76 [.ref 108, v1, v2, v3, .int x4, .int x5, .int x6] [] (0, 0) (LAY, RFu r, mem) := by
  refine r_iload hP d206_76 rfl ?_
  refine r_istore_n (L' := [.ref 108, .int x6, v2, v3, .int x4, .int x5, .int x6]) hP d206_78 (Nat.le_of_ble_eq_true rfl) rfl ?_
  refine r_iload hP d206_79 rfl ?_
  refine r_istore_n (L' := [.ref 108, .int x6, .int x4, v3, .int x4, .int x5, .int x6]) hP d206_81 (Nat.le_of_ble_eq_true rfl) rfl ?_
  refine r_iload hP d206_82 rfl ?_
  refine r_istore_n (L' := [.ref 108, .int x6, .int x4, .int x5, .int x4, .int x5, .int x6]) hP d206_84 (Nat.le_of_ble_eq_true rfl) rfl ?_
  exact k
theorem b206_85 {d : Nat} {P : xPr} {Q : xQr} {r : Nat} {mem : Nat → Nat → Int32} (hP : Cl d none 206 P Q) {x1 : Int32} {x2 : Int32} {x3 : Int32} {x4 : Int32} {x5 : Int32} {v6 : Value}
    (k : P 29 [.ref 108, .int x1, .int x2, .int x3, .int x4, .int (x5 + nI 1), v6] [] (0, 0) (LAY, RFu r, mem)) : P 85 [.ref 108, .int x1, .int x2, .int x3, .int x4, .int x5, v6] [] (0, 0) (LAY, RFu r, mem) := by
  refine r_iinc (v := nI 1) (L' := [.ref 108, .int x1, .int x2, .int x3, .int x4, .int (x5 + nI 1), v6]) hP d206_85 rfl rfl rfl ?_
  refine r_goto (t := 29) hP d206_88 (by decide) ?_
  exact k
theorem b206_91 {d : Nat} {P : xPr} {Q : xQr} {r : Nat} {mem : Nat → Nat → Int32} (hP : Cl d none 206 P Q) {x1 : Int32} {x2 : Int32} {x3 : Int32} {x4 : Int32} {v5 : Value} {v6 : Value}
    (k : P 14 [.ref 108, .int x1, .int x2, .int x3, .int (x4 + nI 1), v5, v6] [] (0, 0) (LAY, RFu r, mem)) : P 91 [.ref 108, .int x1, .int x2, .int x3, .int x4, v5, v6] [] (0, 0) (LAY, RFu r, mem) := by
  refine r_iinc (v := nI 1) (L' := [.ref 108, .int x1, .int x2, .int x3, .int (x4 + nI 1), v5, v6]) hP d206_91 rfl rfl rfl ?_
  refine r_goto (t := 14) hP d206_94 (by decide) ?_
  exact k
theorem b206_97 {d : Nat} {P : xPr} {Q : xQr} {r : Nat} {mem : Nat → Nat → Int32} (hP : Cl d none 206 P Q) {x1 : Int32} {x2 : Int32} {x3 : Int32} {v4 : Value} {v5 : Value} {v6 : Value}
    (kt : x1 ≤ 0 → P 116 [.ref 108, .int x1, .int x2, .int x3, v4, v5, v6] [] (0, 0) (LAY, RFu r, xu2 mem 108 19 (nI 0))) (kf : ¬ x1 ≤ 0 → P 106 [.ref 108, .int x1, .int x2, .int x3, v4, v5, v6] [] (0, 0) (LAY, RFu r, xu2 mem 108 19 (nI 0))) : P 97 [.ref 108, .int x1, .int x2, .int x3, v4, v5, v6] [] (0, 0) (LAY, RFu r, mem) := by
  refine r_aload_n hP d206_97 rfl ?_
  refine r_iconst (v := nI 0) hP d206_98 rfl ?_
  refine r_puti hP d206_99 fr_12_124 rfl (fun q => by cases q) ly_108 ?_
  refine r_iload_n hP d206_102 rfl ?_
  exact r_if (t := 116) hP d206_103 (by decide) kt kf
theorem b206_106 {d : Nat} {P : xPr} {Q : xQr} {r : Nat} {mem : Nat → Nat → Int32} (hP : Cl d none 206 P Q) {x1 : Int32} {x2 : Int32} {x3 : Int32} {v4 : Value} {v5 : Value} {v6 : Value}
    (k : xCall d 161 [.ref 108, .int x2] (LAY, RFu r, mem) (Bk P 108 [.ref 108, .int x1, .int x2, .int x3, v4, v5, v6] [] (0, 0))) : P 106 [.ref 108, .int x1, .int x2, .int x3, v4, v5, v6] [] (0, 0) (LAY, RFu r, mem) := by
  refine r_aload_n hP d206_106 rfl ?_
  refine r_iload_n hP d206_107 rfl ?_
  exact r_callv (As := [.int x2]) (S := []) hP d206_108 cr_12_258 (by decide +kernel) rfl (by simp [Value.category]) rfl ly_108 (by simp [Value.category]) ⟨Nat.zero_le _, Nat.zero_le _⟩ k
theorem b206_111 {d : Nat} {P : xPr} {Q : xQr} {r : Nat} {mem : Nat → Nat → Int32} (hP : Cl d none 206 P Q) {x1 : Int32} {v2 : Value} {x3 : Int32} {v4 : Value} {v5 : Value} {v6 : Value}
    (k : xCall d 161 [.ref 108, .int x3] (LAY, RFu r, mem) (Bk P 113 [.ref 108, .int x1, v2, .int x3, v4, v5, v6] [] (0, 0))) : P 111 [.ref 108, .int x1, v2, .int x3, v4, v5, v6] [] (0, 0) (LAY, RFu r, mem) := by
  refine r_aload_n hP d206_111 rfl ?_
  refine r_iload_n hP d206_112 rfl ?_
  exact r_callv (As := [.int x3]) (S := []) hP d206_113 cr_12_258 (by decide +kernel) rfl (by simp [Value.category]) rfl ly_108 (by simp [Value.category]) ⟨Nat.zero_le _, Nat.zero_le _⟩ k
theorem b206_116 {d : Nat} {P : xPr} {Q : xQr} {r : Nat} {mem : Nat → Nat → Int32} (hP : Cl d none 206 P Q) {v0 : Value} {x1 : Int32} {v2 : Value} {v3 : Value} {v4 : Value} {v5 : Value} {v6 : Value}
    (k : Q (some (.int x1)) (LAY, RFu r, mem)) : P 116 [v0, .int x1, v2, v3, v4, v5, v6] [] (0, 0) (LAY, RFu r, mem) := by
  refine r_iload_n hP d206_116 rfl ?_
  exact r_iret hP d206_117 rfl k
theorem d207_0 : decode (xB 207) 0 = .ok (.aload_n 0, 1) := by decide +kernel
theorem d207_1 : decode (xB 207) 1 = .ok (.iconst 0, 1) := by decide +kernel
theorem d207_2 : decode (xB 207) 2 = .ok (.putfield 121, 3) := by decide +kernel
theorem d207_5 : decode (xB 207) 5 = .ok (.aload_n 0, 1) := by decide +kernel
theorem d207_6 : decode (xB 207) 6 = .ok (.iload_n 1, 1) := by decide +kernel
theorem d207_7 : decode (xB 207) 7 = .ok (.iload_n 2, 1) := by decide +kernel
theorem d207_8 : decode (xB 207) 8 = .ok (.invokevirtual 286, 3) := by decide +kernel
theorem d207_11 : decode (xB 207) 11 = .ok (.ifCond .eq 14, 3) := by decide +kernel
theorem d207_14 : decode (xB 207) 14 = .ok (.iload_n 3, 1) := by decide +kernel
theorem d207_15 : decode (xB 207) 15 = .ok (.iconst 1, 1) := by decide +kernel
theorem d207_16 : decode (xB 207) 16 = .ok (.sipush 999, 3) := by decide +kernel
theorem d207_19 : decode (xB 207) 19 = .ok (.invokestatic 130, 3) := by decide +kernel
theorem d207_22 : decode (xB 207) 22 = .ok (.ifCond .ne 5, 3) := by decide +kernel
theorem d207_25 : decode (xB 207) 25 = .ok (.iconst 0, 1) := by decide +kernel
theorem d207_26 : decode (xB 207) 26 = .ok (.ireturn, 1) := by decide +kernel
theorem d207_27 : decode (xB 207) 27 = .ok (.aload_n 0, 1) := by decide +kernel
theorem d207_28 : decode (xB 207) 28 = .ok (.getfield 44, 3) := by decide +kernel
theorem d207_31 : decode (xB 207) 31 = .ok (.iload_n 1, 1) := by decide +kernel
theorem d207_32 : decode (xB 207) 32 = .ok (.dup2, 1) := by decide +kernel
theorem d207_33 : decode (xB 207) 33 = .ok (.iaload, 1) := by decide +kernel
theorem d207_34 : decode (xB 207) 34 = .ok (.iload_n 3, 1) := by decide +kernel
theorem d207_35 : decode (xB 207) 35 = .ok (.iadd, 1) := by decide +kernel
theorem d207_36 : decode (xB 207) 36 = .ok (.iastore, 1) := by decide +kernel
theorem d207_37 : decode (xB 207) 37 = .ok (.aload_n 0, 1) := by decide +kernel
theorem d207_38 : decode (xB 207) 38 = .ok (.getfield 44, 3) := by decide +kernel
theorem d207_41 : decode (xB 207) 41 = .ok (.iload_n 2, 1) := by decide +kernel
theorem d207_42 : decode (xB 207) 42 = .ok (.dup2, 1) := by decide +kernel
theorem d207_43 : decode (xB 207) 43 = .ok (.iaload, 1) := by decide +kernel
theorem d207_44 : decode (xB 207) 44 = .ok (.iload_n 3, 1) := by decide +kernel
theorem d207_45 : decode (xB 207) 45 = .ok (.isub, 1) := by decide +kernel
theorem d207_46 : decode (xB 207) 46 = .ok (.iastore, 1) := by decide +kernel
theorem d207_47 : decode (xB 207) 47 = .ok (.aload_n 0, 1) := by decide +kernel
theorem d207_48 : decode (xB 207) 48 = .ok (.iconst 0, 1) := by decide +kernel
theorem d207_49 : decode (xB 207) 49 = .ok (.putfield 186, 3) := by decide +kernel
theorem d207_52 : decode (xB 207) 52 = .ok (.iconst 1, 1) := by decide +kernel
theorem d207_53 : decode (xB 207) 53 = .ok (.ireturn, 1) := by decide +kernel
theorem b207_0 {d : Nat} {P : xPr} {Q : xQr} {r : Nat} {mem : Nat → Nat → Int32} (hP : Cl d none 207 P Q) {p0 : Int32} {p1 : Int32} {p2 : Int32}
    (k : xCall d 163 [.ref 108, .int p0, .int p1] (LAY, RFu r, xu2 mem 108 20 (nI 0)) (Bk P 8 [.ref 108, .int p0, .int p1, .int p2] [] (0, 0))) : P 0 [.ref 108, .int p0, .int p1, .int p2] [] (0, 0) (LAY, RFu r, mem) := by
  refine r_aload_n hP d207_0 rfl ?_
  refine r_iconst (v := nI 0) hP d207_1 rfl ?_
  refine r_puti hP d207_2 fr_12_121 rfl (fun q => by cases q) ly_108 ?_
  refine r_aload_n hP d207_5 rfl ?_
  refine r_iload_n hP d207_6 rfl ?_
  refine r_iload_n hP d207_7 rfl ?_
  exact r_callv (As := [.int p0, .int p1]) (S := []) hP d207_8 cr_12_286 (by decide +kernel) rfl (by simp [Value.category]) rfl ly_108 (by simp [Value.category]) ⟨Nat.zero_le _, Nat.zero_le _⟩ k
theorem b207_11 {d : Nat} {P : xPr} {Q : xQr} {r : Nat} {mem : Nat → Nat → Int32} (hP : Cl d none 207 P Q) {x1 : Int32} {x2 : Int32} {x3 : Int32} {y0 : Int32}
    (kt : y0 = 0 → P 25 [.ref 108, .int x1, .int x2, .int x3] [] (0, 0) (LAY, RFu r, mem)) (kf : ¬ y0 = 0 → P 14 [.ref 108, .int x1, .int x2, .int x3] [] (0, 0) (LAY, RFu r, mem)) : P 11 [.ref 108, .int x1, .int x2, .int x3] [.int y0] (0, 0) (LAY, RFu r, mem) := by
  exact r_if (t := 25) hP d207_11 (by decide) kt kf
theorem b207_14 {d : Nat} {P : xPr} {Q : xQr} {r : Nat} {mem : Nat → Nat → Int32} (hP : Cl d none 207 P Q) {x1 : Int32} {x2 : Int32} {x3 : Int32}
    (k : xCall d 158 [.int x3, .int (nI 1), .int (nI 999)] (LAY, RFu r, mem) (Bk P 19 [.ref 108, .int x1, .int x2, .int x3] [] (0, 0))) : P 14 [.ref 108, .int x1, .int x2, .int x3] [] (0, 0) (LAY, RFu r, mem) := by
  refine r_iload_n hP d207_14 rfl ?_
  refine r_iconst (v := nI 1) hP d207_15 rfl ?_
  refine r_sipush (v := nI 999) hP d207_16 rfl ?_
  exact r_calls (As := [.int x3, .int (nI 1), .int (nI 999)]) (S := []) hP d207_19 cr_12_130 (by decide +kernel) rfl (by simp [Value.category]) rfl (by simp [Value.category]) ⟨Nat.zero_le _, Nat.zero_le _⟩ k
theorem b207_22 {d : Nat} {P : xPr} {Q : xQr} {r : Nat} {mem : Nat → Nat → Int32} (hP : Cl d none 207 P Q) {x1 : Int32} {x2 : Int32} {x3 : Int32} {y0 : Int32}
    (kt : ¬ y0 = 0 → P 27 [.ref 108, .int x1, .int x2, .int x3] [] (0, 0) (LAY, RFu r, mem)) (kf : y0 = 0 → P 25 [.ref 108, .int x1, .int x2, .int x3] [] (0, 0) (LAY, RFu r, mem)) : P 22 [.ref 108, .int x1, .int x2, .int x3] [.int y0] (0, 0) (LAY, RFu r, mem) := by
  exact r_if (t := 27) hP d207_22 (by decide) kt (fun q => kf (Decidable.of_not_not q))
theorem b207_25 {d : Nat} {P : xPr} {Q : xQr} {r : Nat} {mem : Nat → Nat → Int32} (hP : Cl d none 207 P Q) {v0 : Value} {v1 : Value} {v2 : Value} {v3 : Value} (hzr : nI 0 = 0 ∨ nI 0 = 1)
    (k : Q (some (.int (nI 0))) (LAY, RFu r, mem)) : P 25 [v0, v1, v2, v3] [] (0, 0) (LAY, RFu r, mem) := by
  refine r_iconst (v := nI 0) hP d207_25 rfl ?_
  exact r_zret hP d207_26 rfl hzr k
theorem b207_27 {d : Nat} {P : xPr} {Q : xQr} {r : Nat} {mem : Nat → Nat → Int32} (hP : Cl d none 207 P Q) {x1 : Int32} {x2 : Int32} {x3 : Int32} (hi33 : vp_in x1 8) (hi36 : vp_in x1 8) (hi43 : vp_in x2 8) (hi46 : vp_in x2 8) (hzr : nI 1 = 0 ∨ nI 1 = 1)
    (k : Q (some (.int (nI 1))) (LAY, RFu r, xu2 (xu2 (xu2 mem 120 x1.toNatClampNeg ((mem 120 x1.toNatClampNeg) + x3)) 120 x2.toNatClampNeg (((xu2 mem 120 x1.toNatClampNeg ((mem 120 x1.toNatClampNeg) + x3)) 120 x2.toNatClampNeg) - x3)) 108 37 (nI 0))) : P 27 [.ref 108, .int x1, .int x2, .int x3] [] (0, 0) (LAY, RFu r, mem) := by
  refine r_aload_n hP d207_27 rfl ?_
  refine r_getr (a := 120) hP d207_28 fr_12_44 rfl ly_108 rg_108_13 ?_
  refine r_iload_n hP d207_31 rfl ?_
  refine r_dup2 hP d207_32 rfl rfl ?_
  refine r_iaload hP d207_33 ly_120 hi33 ?_
  refine r_iload_n hP d207_34 rfl ?_
  refine r_iadd hP d207_35 ?_
  refine r_iastore hP d207_36 ly_120 hi36 ?_
  refine r_aload_n hP d207_37 rfl ?_
  refine r_getr (a := 120) hP d207_38 fr_12_44 rfl ly_108 rg_108_13 ?_
  refine r_iload_n hP d207_41 rfl ?_
  refine r_dup2 hP d207_42 rfl rfl ?_
  refine r_iaload hP d207_43 ly_120 hi43 ?_
  refine r_iload_n hP d207_44 rfl ?_
  refine r_isub hP d207_45 ?_
  refine r_iastore hP d207_46 ly_120 hi46 ?_
  refine r_aload_n hP d207_47 rfl ?_
  refine r_iconst (v := nI 0) hP d207_48 rfl ?_
  refine r_puti hP d207_49 fr_12_186 rfl (fun q => by cases q) ly_108 ?_
  refine r_iconst (v := nI 1) hP d207_52 rfl ?_
  exact r_zret hP d207_53 rfl hzr k
theorem d208_0 : decode (xB 208) 0 = .ok (.iconst 0, 1) := by decide +kernel
theorem d208_1 : decode (xB 208) 1 = .ok (.istore_n 2, 1) := by decide +kernel
theorem d208_2 : decode (xB 208) 2 = .ok (.iconst 0, 1) := by decide +kernel
theorem d208_3 : decode (xB 208) 3 = .ok (.istore_n 3, 1) := by decide +kernel
theorem d208_4 : decode (xB 208) 4 = .ok (.iload_n 3, 1) := by decide +kernel
theorem d208_5 : decode (xB 208) 5 = .ok (.aload_n 0, 1) := by decide +kernel
theorem d208_6 : decode (xB 208) 6 = .ok (.getfield 127, 3) := by decide +kernel
theorem d208_9 : decode (xB 208) 9 = .ok (.if_icmp .ge 30, 3) := by decide +kernel
theorem d208_12 : decode (xB 208) 12 = .ok (.iload_n 2, 1) := by decide +kernel
theorem d208_13 : decode (xB 208) 13 = .ok (.iload_n 1, 1) := by decide +kernel
theorem d208_14 : decode (xB 208) 14 = .ok (.iload_n 3, 1) := by decide +kernel
theorem d208_15 : decode (xB 208) 15 = .ok (.invokestatic 264, 3) := by decide +kernel
theorem d208_18 : decode (xB 208) 18 = .ok (.ifCond .eq 12, 3) := by decide +kernel
theorem d208_21 : decode (xB 208) 21 = .ok (.aload_n 0, 1) := by decide +kernel
theorem d208_22 : decode (xB 208) 22 = .ok (.getfield 44, 3) := by decide +kernel
theorem d208_25 : decode (xB 208) 25 = .ok (.iload_n 3, 1) := by decide +kernel
theorem d208_26 : decode (xB 208) 26 = .ok (.iaload, 1) := by decide +kernel
theorem d208_27 : decode (xB 208) 27 = .ok (.goto 4, 3) := by decide +kernel
theorem d208_30 : decode (xB 208) 30 = .ok (.iconst 0, 1) := by decide +kernel
theorem d208_31 : decode (xB 208) 31 = .ok (.iadd, 1) := by decide +kernel
theorem d208_32 : decode (xB 208) 32 = .ok (.istore_n 2, 1) := by decide +kernel
theorem d208_33 : decode (xB 208) 33 = .ok (.iinc 3 1, 3) := by decide +kernel
theorem d208_36 : decode (xB 208) 36 = .ok (.goto (-32), 3) := by decide +kernel
theorem d208_39 : decode (xB 208) 39 = .ok (.iload_n 2, 1) := by decide +kernel
theorem d208_40 : decode (xB 208) 40 = .ok (.ireturn, 1) := by decide +kernel
theorem b208_0 {d : Nat} {P : xPr} {Q : xQr} {r : Nat} {mem : Nat → Nat → Int32} (hP : Cl d none 208 P Q) {p0 : Int32}
    (k : P 4 [.ref 108, .int p0, .int (nI 0), .int (nI 0)] [] (0, 0) (LAY, RFu r, mem)) : P 0 [.ref 108, .int p0, .null, .null] [] (0, 0) (LAY, RFu r, mem) := by
  refine r_iconst (v := nI 0) hP d208_0 rfl ?_
  refine r_istore_n (L' := [.ref 108, .int p0, .int (nI 0), .null]) hP d208_1 (Nat.le_of_ble_eq_true rfl) rfl ?_
  refine r_iconst (v := nI 0) hP d208_2 rfl ?_
  refine r_istore_n (L' := [.ref 108, .int p0, .int (nI 0), .int (nI 0)]) hP d208_3 (Nat.le_of_ble_eq_true rfl) rfl ?_
  exact k
theorem b208_4 {d : Nat} {P : xPr} {Q : xQr} {r : Nat} {mem : Nat → Nat → Int32} (hP : Cl d none 208 P Q) {x1 : Int32} {x2 : Int32} {x3 : Int32}
    (kt : (mem 108 2) ≤ x3 → P 39 [.ref 108, .int x1, .int x2, .int x3] [] (0, 0) (LAY, RFu r, mem)) (kf : ¬ (mem 108 2) ≤ x3 → P 12 [.ref 108, .int x1, .int x2, .int x3] [] (0, 0) (LAY, RFu r, mem)) : P 4 [.ref 108, .int x1, .int x2, .int x3] [] (0, 0) (LAY, RFu r, mem) := by
  refine r_iload_n hP d208_4 rfl ?_
  refine r_aload_n hP d208_5 rfl ?_
  refine r_geti hP d208_6 fr_12_127 rfl ly_108 ?_
  exact r_icmp (t := 39) hP d208_9 (by decide) kt kf
theorem b208_12 {d : Nat} {P : xPr} {Q : xQr} {r : Nat} {mem : Nat → Nat → Int32} (hP : Cl d none 208 P Q) {x1 : Int32} {x2 : Int32} {x3 : Int32}
    (k : xCall d 159 [.int x1, .int x3] (LAY, RFu r, mem) (Bk P 15 [.ref 108, .int x1, .int x2, .int x3] [.int x2] (0, 0))) : P 12 [.ref 108, .int x1, .int x2, .int x3] [] (0, 0) (LAY, RFu r, mem) := by
  refine r_iload_n hP d208_12 rfl ?_
  refine r_iload_n hP d208_13 rfl ?_
  refine r_iload_n hP d208_14 rfl ?_
  exact r_calls (As := [.int x1, .int x3]) (S := [.int x2]) hP d208_15 cr_12_264 (by decide +kernel) rfl (by simp [Value.category]) rfl (by simp [Value.category]) ⟨Nat.zero_le _, Nat.zero_le _⟩ k
theorem b208_18 {d : Nat} {P : xPr} {Q : xQr} {r : Nat} {mem : Nat → Nat → Int32} (hP : Cl d none 208 P Q) {x1 : Int32} {v2 : Value} {x3 : Int32} {y0 : Int32} {y1 : Int32}
    (kt : y1 = 0 → P 30 [.ref 108, .int x1, v2, .int x3] [.int y0] (0, 0) (LAY, RFu r, mem)) (kf : ¬ y1 = 0 → P 21 [.ref 108, .int x1, v2, .int x3] [.int y0] (0, 0) (LAY, RFu r, mem)) : P 18 [.ref 108, .int x1, v2, .int x3] [.int y1, .int y0] (0, 0) (LAY, RFu r, mem) := by
  exact r_if (t := 30) hP d208_18 (by decide) kt kf
theorem b208_21 {d : Nat} {P : xPr} {Q : xQr} {r : Nat} {mem : Nat → Nat → Int32} (hP : Cl d none 208 P Q) {x1 : Int32} {v2 : Value} {x3 : Int32} {y0 : Int32} (hi26 : vp_in x3 8)
    (k : P 31 [.ref 108, .int x1, v2, .int x3] [.int (mem 120 x3.toNatClampNeg), .int y0] (0, 0) (LAY, RFu r, mem)) : P 21 [.ref 108, .int x1, v2, .int x3] [.int y0] (0, 0) (LAY, RFu r, mem) := by
  refine r_aload_n hP d208_21 rfl ?_
  refine r_getr (a := 120) hP d208_22 fr_12_44 rfl ly_108 rg_108_13 ?_
  refine r_iload_n hP d208_25 rfl ?_
  refine r_iaload hP d208_26 ly_120 hi26 ?_
  refine r_goto (t := 31) hP d208_27 (by decide) ?_
  exact k
theorem b208_30 {d : Nat} {P : xPr} {Q : xQr} {r : Nat} {mem : Nat → Nat → Int32} (hP : Cl d none 208 P Q) {x1 : Int32} {v2 : Value} {x3 : Int32} {y0 : Int32}
    (k : P 31 [.ref 108, .int x1, v2, .int x3] [.int (nI 0), .int y0] (0, 0) (LAY, RFu r, mem)) : P 30 [.ref 108, .int x1, v2, .int x3] [.int y0] (0, 0) (LAY, RFu r, mem) := by
  refine r_iconst (v := nI 0) hP d208_30 rfl ?_
  exact k
theorem b208_31 {d : Nat} {P : xPr} {Q : xQr} {r : Nat} {mem : Nat → Nat → Int32} (hP : Cl d none 208 P Q) {x1 : Int32} {v2 : Value} {x3 : Int32} {y0 : Int32} {y1 : Int32}
    (k : P 4 [.ref 108, .int x1, .int (y0 + y1), .int (x3 + nI 1)] [] (0, 0) (LAY, RFu r, mem)) : P 31 [.ref 108, .int x1, v2, .int x3] [.int y1, .int y0] (0, 0) (LAY, RFu r, mem) := by
  refine r_iadd hP d208_31 ?_
  refine r_istore_n (L' := [.ref 108, .int x1, .int (y0 + y1), .int x3]) hP d208_32 (Nat.le_of_ble_eq_true rfl) rfl ?_
  refine r_iinc (v := nI 1) (L' := [.ref 108, .int x1, .int (y0 + y1), .int (x3 + nI 1)]) hP d208_33 rfl rfl rfl ?_
  refine r_goto (t := 4) hP d208_36 (by decide) ?_
  exact k
theorem b208_39 {d : Nat} {P : xPr} {Q : xQr} {r : Nat} {mem : Nat → Nat → Int32} (hP : Cl d none 208 P Q) {v0 : Value} {v1 : Value} {x2 : Int32} {v3 : Value}
    (k : Q (some (.int x2)) (LAY, RFu r, mem)) : P 39 [v0, v1, .int x2, v3] [] (0, 0) (LAY, RFu r, mem) := by
  refine r_iload_n hP d208_39 rfl ?_
  exact r_iret hP d208_40 rfl k
theorem d209_0 : decode (xB 209) 0 = .ok (.aload_n 0, 1) := by decide +kernel
theorem d209_1 : decode (xB 209) 1 = .ok (.iconst 0, 1) := by decide +kernel
theorem d209_2 : decode (xB 209) 2 = .ok (.putfield 121, 3) := by decide +kernel
theorem d209_5 : decode (xB 209) 5 = .ok (.iconst 0, 1) := by decide +kernel
theorem d209_6 : decode (xB 209) 6 = .ok (.istore_n 1, 1) := by decide +kernel
theorem d209_7 : decode (xB 209) 7 = .ok (.iconst 0, 1) := by decide +kernel
theorem d209_8 : decode (xB 209) 8 = .ok (.istore_n 2, 1) := by decide +kernel
theorem d209_9 : decode (xB 209) 9 = .ok (.iload_n 2, 1) := by decide +kernel
theorem d209_10 : decode (xB 209) 10 = .ok (.aload_n 0, 1) := by decide +kernel
theorem d209_11 : decode (xB 209) 11 = .ok (.getfield 127, 3) := by decide +kernel
theorem d209_14 : decode (xB 209) 14 = .ok (.if_icmp .ge 28, 3) := by decide +kernel
theorem d209_17 : decode (xB 209) 17 = .ok (.iload_n 1, 1) := by decide +kernel
theorem d209_18 : decode (xB 209) 18 = .ok (.aload_n 0, 1) := by decide +kernel
theorem d209_19 : decode (xB 209) 19 = .ok (.getfield 44, 3) := by decide +kernel
theorem d209_22 : decode (xB 209) 22 = .ok (.iload_n 2, 1) := by decide +kernel
theorem d209_23 : decode (xB 209) 23 = .ok (.iaload, 1) := by decide +kernel
theorem d209_24 : decode (xB 209) 24 = .ok (.ifCond .eq 9, 3) := by decide +kernel
theorem d209_27 : decode (xB 209) 27 = .ok (.iconst 1, 1) := by decide +kernel
theorem d209_28 : decode (xB 209) 28 = .ok (.iload_n 2, 1) := by decide +kernel
theorem d209_29 : decode (xB 209) 29 = .ok (.ishl, 1) := by decide +kernel
theorem d209_30 : decode (xB 209) 30 = .ok (.goto 4, 3) := by decide +kernel
theorem d209_33 : decode (xB 209) 33 = .ok (.iconst 0, 1) := by decide +kernel
theorem d209_34 : decode (xB 209) 34 = .ok (.ior, 1) := by decide +kernel
theorem d209_35 : decode (xB 209) 35 = .ok (.istore_n 1, 1) := by decide +kernel
theorem d209_36 : decode (xB 209) 36 = .ok (.iinc 2 1, 3) := by decide +kernel
theorem d209_39 : decode (xB 209) 39 = .ok (.goto (-30), 3) := by decide +kernel
theorem d209_42 : decode (xB 209) 42 = .ok (.iconst 0, 1) := by decide +kernel
theorem d209_43 : decode (xB 209) 43 = .ok (.istore_n 2, 1) := by decide +kernel
theorem d209_44 : decode (xB 209) 44 = .ok (.iload_n 2, 1) := by decide +kernel
theorem d209_45 : decode (xB 209) 45 = .ok (.iload_n 1, 1) := by decide +kernel
theorem d209_46 : decode (xB 209) 46 = .ok (.if_icmp .gt 129, 3) := by decide +kernel
theorem d209_49 : decode (xB 209) 49 = .ok (.aload_n 0, 1) := by decide +kernel
theorem d209_50 : decode (xB 209) 50 = .ok (.getfield 93, 3) := by decide +kernel
theorem d209_53 : decode (xB 209) 53 = .ok (.iload_n 2, 1) := by decide +kernel
theorem d209_54 : decode (xB 209) 54 = .ok (.iload_n 2, 1) := by decide +kernel
theorem d209_55 : decode (xB 209) 55 = .ok (.ifCond .ne 7, 3) := by decide +kernel
theorem d209_58 : decode (xB 209) 58 = .ok (.iconst 0, 1) := by decide +kernel
theorem d209_59 : decode (xB 209) 59 = .ok (.goto 4, 3) := by decide +kernel
theorem d209_62 : decode (xB 209) 62 = .ok (.iconst (-1), 1) := by decide +kernel
theorem d209_63 : decode (xB 209) 63 = .ok (.iastore, 1) := by decide +kernel
theorem d209_64 : decode (xB 209) 64 = .ok (.iload_n 2, 1) := by decide +kernel
theorem d209_65 : decode (xB 209) 65 = .ok (.iload_n 1, 1) := by decide +kernel
theorem d209_66 : decode (xB 209) 66 = .ok (.iconst (-1), 1) := by decide +kernel
theorem d209_67 : decode (xB 209) 67 = .ok (.ixor, 1) := by decide +kernel
theorem d209_68 : decode (xB 209) 68 = .ok (.iand, 1) := by decide +kernel
theorem d209_69 : decode (xB 209) 69 = .ok (.ifCond .ne 100, 3) := by decide +kernel
theorem d209_72 : decode (xB 209) 72 = .ok (.iload_n 2, 1) := by decide +kernel
theorem d209_73 : decode (xB 209) 73 = .ok (.ifCond .eq 96, 3) := by decide +kernel
theorem d209_76 : decode (xB 209) 76 = .ok (.aload_n 0, 1) := by decide +kernel
theorem d209_77 : decode (xB 209) 77 = .ok (.iload_n 2, 1) := by decide +kernel
theorem d209_78 : decode (xB 209) 78 = .ok (.invokevirtual 289, 3) := by decide +kernel
theorem d209_81 : decode (xB 209) 81 = .ok (.ifCond .eq 6, 3) := by decide +kernel
theorem d209_84 : decode (xB 209) 84 = .ok (.goto 85, 3) := by decide +kernel
theorem d209_87 : decode (xB 209) 87 = .ok (.iload_n 2, 1) := by decide +kernel
theorem d209_88 : decode (xB 209) 88 = .ok (.iload_n 2, 1) := by decide +kernel
theorem d209_89 : decode (xB 209) 89 = .ok (.ineg, 1) := by decide +kernel
theorem d209_90 : decode (xB 209) 90 = .ok (.iand, 1) := by decide +kernel
theorem d209_91 : decode (xB 209) 91 = .ok (.istore_n 3, 1) := by decide +kernel
theorem d209_92 : decode (xB 209) 92 = .ok (.iload_n 2, 1) := by decide +kernel
theorem d209_93 : decode (xB 209) 93 = .ok (.istore 4, 2) := by decide +kernel
theorem d209_95 : decode (xB 209) 95 = .ok (.iload 4, 2) := by decide +kernel
theorem d209_97 : decode (xB 209) 97 = .ok (.ifCond .le 72, 3) := by decide +kernel
theorem d209_100 : decode (xB 209) 100 = .ok (.iload 4, 2) := by decide +kernel
theorem d209_102 : decode (xB 209) 102 = .ok (.iload_n 3, 1) := by decide +kernel
theorem d209_103 : decode (xB 209) 103 = .ok (.iand, 1) := by decide +kernel
theorem d209_104 : decode (xB 209) 104 = .ok (.ifCond .eq 54, 3) := by decide +kernel
theorem d209_107 : decode (xB 209) 107 = .ok (.aload_n 0, 1) := by decide +kernel
theorem d209_108 : decode (xB 209) 108 = .ok (.iload 4, 2) := by decide +kernel
theorem d209_110 : decode (xB 209) 110 = .ok (.invokevirtual 289, 3) := by decide +kernel
theorem d209_113 : decode (xB 209) 113 = .ok (.ifCond .ne 45, 3) := by decide +kernel
theorem d209_116 : decode (xB 209) 116 = .ok (.aload_n 0, 1) := by decide +kernel
theorem d209_117 : decode (xB 209) 117 = .ok (.getfield 93, 3) := by decide +kernel
theorem d209_120 : decode (xB 209) 120 = .ok (.iload_n 2, 1) := by decide +kernel
theorem d209_121 : decode (xB 209) 121 = .ok (.iload 4, 2) := by decide +kernel
theorem d209_123 : decode (xB 209) 123 = .ok (.iconst (-1), 1) := by decide +kernel
theorem d209_124 : decode (xB 209) 124 = .ok (.ixor, 1) := by decide +kernel
theorem d209_125 : decode (xB 209) 125 = .ok (.iand, 1) := by decide +kernel
theorem d209_126 : decode (xB 209) 126 = .ok (.iaload, 1) := by decide +kernel
theorem d209_127 : decode (xB 209) 127 = .ok (.ifCond .lt 31, 3) := by decide +kernel
theorem d209_130 : decode (xB 209) 130 = .ok (.aload_n 0, 1) := by decide +kernel
theorem d209_131 : decode (xB 209) 131 = .ok (.getfield 93, 3) := by decide +kernel
theorem d209_134 : decode (xB 209) 134 = .ok (.iload_n 2, 1) := by decide +kernel
theorem d209_135 : decode (xB 209) 135 = .ok (.aload_n 0, 1) := by decide +kernel
theorem d209_136 : decode (xB 209) 136 = .ok (.getfield 93, 3) := by decide +kernel
theorem d209_139 : decode (xB 209) 139 = .ok (.iload_n 2, 1) := by decide +kernel
theorem d209_140 : decode (xB 209) 140 = .ok (.iaload, 1) := by decide +kernel
theorem d209_141 : decode (xB 209) 141 = .ok (.aload_n 0, 1) := by decide +kernel
theorem d209_142 : decode (xB 209) 142 = .ok (.getfield 93, 3) := by decide +kernel
theorem d209_145 : decode (xB 209) 145 = .ok (.iload_n 2, 1) := by decide +kernel
theorem d209_146 : decode (xB 209) 146 = .ok (.iload 4, 2) := by decide +kernel
theorem d209_148 : decode (xB 209) 148 = .ok (.iconst (-1), 1) := by decide +kernel
theorem d209_149 : decode (xB 209) 149 = .ok (.ixor, 1) := by decide +kernel
theorem d209_150 : decode (xB 209) 150 = .ok (.iand, 1) := by decide +kernel
theorem d209_151 : decode (xB 209) 151 = .ok (.iaload, 1) := by decide +kernel
theorem d209_152 : decode (xB 209) 152 = .ok (.iconst 1, 1) := by decide +kernel
theorem d209_153 : decode (xB 209) 153 = .ok (.iadd, 1) := by decide +kernel
theorem d209_154 : decode (xB 209) 154 = .ok (.invokestatic 222, 3) := by decide +kernel
theorem d209_157 : decode (xB 209) 157 = .ok (.iastore, 1) := by decide +kernel
theorem d209_158 : decode (xB 209) 158 = .ok (.iload 4, 2) := by decide +kernel
theorem d209_160 : decode (xB 209) 160 = .ok (.iconst 1, 1) := by decide +kernel
theorem d209_161 : decode (xB 209) 161 = .ok (.isub, 1) := by decide +kernel
theorem d209_162 : decode (xB 209) 162 = .ok (.iload_n 2, 1) := by decide +kernel
theorem d209_163 : decode (xB 209) 163 = .ok (.iand, 1) := by decide +kernel
theorem d209_164 : decode (xB 209) 164 = .ok (.istore 4, 2) := by decide +kernel
theorem d209_166 : decode (xB 209) 166 = .ok (.goto (-71), 3) := by decide +kernel
theorem d209_169 : decode (xB 209) 169 = .ok (.iinc 2 1, 3) := by decide +kernel
theorem d209_172 : decode (xB 209) 172 = .ok (.goto (-128), 3) := by decide +kernel
theorem d209_175 : decode (xB 209) 175 = .ok (.aload_n 0, 1) := by decide +kernel
theorem d209_176 : decode (xB 209) 176 = .ok (.iconst 0, 1) := by decide +kernel
theorem d209_177 : decode (xB 209) 177 = .ok (.putfield 124, 3) := by decide +kernel
theorem d209_180 : decode (xB 209) 180 = .ok (.iload_n 1, 1) := by decide +kernel
theorem d209_181 : decode (xB 209) 181 = .ok (.istore_n 2, 1) := by decide +kernel
theorem d209_182 : decode (xB 209) 182 = .ok (.iload_n 2, 1) := by decide +kernel
theorem d209_183 : decode (xB 209) 183 = .ok (.ifCond .eq 80, 3) := by decide +kernel
theorem d209_186 : decode (xB 209) 186 = .ok (.iload_n 2, 1) := by decide +kernel
theorem d209_187 : decode (xB 209) 187 = .ok (.iload_n 2, 1) := by decide +kernel
theorem d209_188 : decode (xB 209) 188 = .ok (.ineg, 1) := by decide +kernel
theorem d209_189 : decode (xB 209) 189 = .ok (.iand, 1) := by decide +kernel
theorem d209_190 : decode (xB 209) 190 = .ok (.istore_n 3, 1) := by decide +kernel
theorem d209_191 : decode (xB 209) 191 = .ok (.iconst 1, 1) := by decide +kernel
theorem d209_192 : decode (xB 209) 192 = .ok (.istore 4, 2) := by decide +kernel
theorem d209_194 : decode (xB 209) 194 = .ok (.iload 4, 2) := by decide +kernel
theorem d209_196 : decode (xB 209) 196 = .ok (.iload_n 2, 1) := by decide +kernel
theorem d209_197 : decode (xB 209) 197 = .ok (.iconst (-1), 1) := by decide +kernel
theorem d209_198 : decode (xB 209) 198 = .ok (.ixor, 1) := by decide +kernel
theorem d209_199 : decode (xB 209) 199 = .ok (.iand, 1) := by decide +kernel
theorem d209_200 : decode (xB 209) 200 = .ok (.ifCond .ne 41, 3) := by decide +kernel
theorem d209_203 : decode (xB 209) 203 = .ok (.iload 4, 2) := by decide +kernel
theorem d209_205 : decode (xB 209) 205 = .ok (.iload_n 3, 1) := by decide +kernel
theorem d209_206 : decode (xB 209) 206 = .ok (.iand, 1) := by decide +kernel
theorem d209_207 : decode (xB 209) 207 = .ok (.ifCond .eq 34, 3) := by decide +kernel
theorem d209_210 : decode (xB 209) 210 = .ok (.aload_n 0, 1) := by decide +kernel
theorem d209_211 : decode (xB 209) 211 = .ok (.iload 4, 2) := by decide +kernel
theorem d209_213 : decode (xB 209) 213 = .ok (.invokevirtual 289, 3) := by decide +kernel
theorem d209_216 : decode (xB 209) 216 = .ok (.ifCond .ne 25, 3) := by decide +kernel
theorem d209_219 : decode (xB 209) 219 = .ok (.aload_n 0, 1) := by decide +kernel
theorem d209_220 : decode (xB 209) 220 = .ok (.getfield 93, 3) := by decide +kernel
theorem d209_223 : decode (xB 209) 223 = .ok (.iload_n 2, 1) := by decide +kernel
theorem d209_224 : decode (xB 209) 224 = .ok (.iload 4, 2) := by decide +kernel
theorem d209_226 : decode (xB 209) 226 = .ok (.iconst (-1), 1) := by decide +kernel
theorem d209_227 : decode (xB 209) 227 = .ok (.ixor, 1) := by decide +kernel
theorem d209_228 : decode (xB 209) 228 = .ok (.iand, 1) := by decide +kernel
theorem d209_229 : decode (xB 209) 229 = .ok (.iaload, 1) := by decide +kernel
theorem d209_230 : decode (xB 209) 230 = .ok (.aload_n 0, 1) := by decide +kernel
theorem d209_231 : decode (xB 209) 231 = .ok (.getfield 93, 3) := by decide +kernel
theorem d209_234 : decode (xB 209) 234 = .ok (.iload_n 2, 1) := by decide +kernel
theorem d209_235 : decode (xB 209) 235 = .ok (.iaload, 1) := by decide +kernel
theorem d209_236 : decode (xB 209) 236 = .ok (.iconst 1, 1) := by decide +kernel
theorem d209_237 : decode (xB 209) 237 = .ok (.isub, 1) := by decide +kernel
theorem d209_238 : decode (xB 209) 238 = .ok (.if_icmp .eq 9, 3) := by decide +kernel
theorem d209_241 : decode (xB 209) 241 = .ok (.iinc 4 1, 3) := by decide +kernel
theorem d209_244 : decode (xB 209) 244 = .ok (.goto (-50), 3) := by decide +kernel
theorem d209_247 : decode (xB 209) 247 = .ok (.aload_n 0, 1) := by decide +kernel
theorem d209_248 : decode (xB 209) 248 = .ok (.iload 4, 2) := by decide +kernel
theorem d209_250 : decode (xB 209) 250 = .ok (.invokevirtual 258, 3) := by decide +kernel
theorem d209_253 : decode (xB 209) 253 = .ok (.iload_n 2, 1) := by decide +kernel
theorem d209_254 : decode (xB 209) 254 = .ok (.iload 4, 2) := by decide +kernel
theorem d209_256 : decode (xB 209) 256 = .ok (.iconst (-1), 1) := by decide +kernel
theorem d209_257 : decode (xB 209) 257 = .ok (.ixor, 1) := by decide +kernel
theorem d209_258 : decode (xB 209) 258 = .ok (.iand, 1) := by decide +kernel
theorem d209_259 : decode (xB 209) 259 = .ok (.istore_n 2, 1) := by decide +kernel
theorem d209_260 : decode (xB 209) 260 = .ok (.goto (-78), 3) := by decide +kernel
theorem d209_263 : decode (xB 209) 263 = .ok (.iload_n 1, 1) := by decide +kernel
theorem d209_264 : decode (xB 209) 264 = .ok (.invokestatic 292, 3) := by decide +kernel
theorem d209_267 : decode (xB 209) 267 = .ok (.aload_n 0, 1) := by decide +kernel
theorem d209_268 : decode (xB 209) 268 = .ok (.getfield 93, 3) := by decide +kernel
theorem d209_271 : decode (xB 209) 271 = .ok (.iload_n 1, 1) := by decide +kernel
theorem d209_272 : decode (xB 209) 272 = .ok (.iaload, 1) := by decide +kernel
theorem d209_273 : decode (xB 209) 273 = .ok (.isub, 1) := by decide +kernel
theorem d209_274 : decode (xB 209) 274 = .ok (.ireturn, 1) := by decide +kernel
theorem b209_0 {d : Nat} {P : xPr} {Q : xQr} {r : Nat} {mem : Nat → Nat → Int32} (hP : Cl d none 209 P Q)
    (k : P 9 [.ref 108, .int (nI 0), .int (nI 0), .null, .null] [] (0, 0) (LAY, RFu r, xu2 mem 108 20 (nI 0))) : P 0 [.ref 108, .null, .null, .null, .null] [] (0, 0) (LAY, RFu r, mem) := by
  refine r_aload_n hP d209_0 rfl ?_
  refine r_iconst (v := nI 0) hP d209_1 rfl ?_
  refine r_puti hP d209_2 fr_12_121 rfl (fun q => by cases q) ly_108 ?_
  refine r_iconst (v := nI 0) hP d209_5 rfl ?_
  refine r_istore_n (L' := [.ref 108, .int (nI 0), .null, .null, .null]) hP d209_6 (Nat.le_of_ble_eq_true rfl) rfl ?_
  refine r_iconst (v := nI 0) hP d209_7 rfl ?_
  refine r_istore_n (L' := [.ref 108, .int (nI 0), .int (nI 0), .null, .null]) hP d209_8 (Nat.le_of_ble_eq_true rfl) rfl ?_
  exact k
theorem b209_9 {d : Nat} {P : xPr} {Q : xQr} {r : Nat} {mem : Nat → Nat → Int32} (hP : Cl d none 209 P Q) {x1 : Int32} {x2 : Int32} {v3 : Value} {v4 : Value}
    (kt : (mem 108 2) ≤ x2 → P 42 [.ref 108, .int x1, .int x2, v3, v4] [] (0, 0) (LAY, RFu r, mem)) (kf : ¬ (mem 108 2) ≤ x2 → P 17 [.ref 108, .int x1, .int x2, v3, v4] [] (0, 0) (LAY, RFu r, mem)) : P 9 [.ref 108, .int x1, .int x2, v3, v4] [] (0, 0) (LAY, RFu r, mem) := by
  refine r_iload_n hP d209_9 rfl ?_
  refine r_aload_n hP d209_10 rfl ?_
  refine r_geti hP d209_11 fr_12_127 rfl ly_108 ?_
  exact r_icmp (t := 42) hP d209_14 (by decide) kt kf
theorem b209_17 {d : Nat} {P : xPr} {Q : xQr} {r : Nat} {mem : Nat → Nat → Int32} (hP : Cl d none 209 P Q) {x1 : Int32} {x2 : Int32} {v3 : Value} {v4 : Value} (hi23 : vp_in x2 8)
    (kt : (mem 120 x2.toNatClampNeg) = 0 → P 33 [.ref 108, .int x1, .int x2, v3, v4] [.int x1] (0, 0) (LAY, RFu r, mem)) (kf : ¬ (mem 120 x2.toNatClampNeg) = 0 → P 27 [.ref 108, .int x1, .int x2, v3, v4] [.int x1] (0, 0) (LAY, RFu r, mem)) : P 17 [.ref 108, .int x1, .int x2, v3, v4] [] (0, 0) (LAY, RFu r, mem) := by
  refine r_iload_n hP d209_17 rfl ?_
  refine r_aload_n hP d209_18 rfl ?_
  refine r_getr (a := 120) hP d209_19 fr_12_44 rfl ly_108 rg_108_13 ?_
  refine r_iload_n hP d209_22 rfl ?_
  refine r_iaload hP d209_23 ly_120 hi23 ?_
  exact r_if (t := 33) hP d209_24 (by decide) kt kf
theorem b209_27 {d : Nat} {P : xPr} {Q : xQr} {r : Nat} {mem : Nat → Nat → Int32} (hP : Cl d none 209 P Q) {v1 : Value} {x2 : Int32} {v3 : Value} {v4 : Value} {y0 : Int32}
    (k : P 34 [.ref 108, v1, .int x2, v3, v4] [.int ((nI 1) <<< (x2 &&& 31)), .int y0] (0, 0) (LAY, RFu r, mem)) : P 27 [.ref 108, v1, .int x2, v3, v4] [.int y0] (0, 0) (LAY, RFu r, mem) := by
  refine r_iconst (v := nI 1) hP d209_27 rfl ?_
  refine r_iload_n hP d209_28 rfl ?_
  refine r_ishl hP d209_29 ?_
  refine r_goto (t := 34) hP d209_30 (by decide) ?_
  exact k
theorem b209_33 {d : Nat} {P : xPr} {Q : xQr} {r : Nat} {mem : Nat → Nat → Int32} (hP : Cl d none 209 P Q) {v1 : Value} {x2 : Int32} {v3 : Value} {v4 : Value} {y0 : Int32}
    (k : P 34 [.ref 108, v1, .int x2, v3, v4] [.int (nI 0), .int y0] (0, 0) (LAY, RFu r, mem)) : P 33 [.ref 108, v1, .int x2, v3, v4] [.int y0] (0, 0) (LAY, RFu r, mem) := by
  refine r_iconst (v := nI 0) hP d209_33 rfl ?_
  exact k
theorem b209_34 {d : Nat} {P : xPr} {Q : xQr} {r : Nat} {mem : Nat → Nat → Int32} (hP : Cl d none 209 P Q) {v1 : Value} {x2 : Int32} {v3 : Value} {v4 : Value} {y0 : Int32} {y1 : Int32}
    (k : P 9 [.ref 108, .int (y0 ||| y1), .int (x2 + nI 1), v3, v4] [] (0, 0) (LAY, RFu r, mem)) : P 34 [.ref 108, v1, .int x2, v3, v4] [.int y1, .int y0] (0, 0) (LAY, RFu r, mem) := by
  refine r_ior hP d209_34 ?_
  refine r_istore_n (L' := [.ref 108, .int (y0 ||| y1), .int x2, v3, v4]) hP d209_35 (Nat.le_of_ble_eq_true rfl) rfl ?_
  refine r_iinc (v := nI 1) (L' := [.ref 108, .int (y0 ||| y1), .int (x2 + nI 1), v3, v4]) hP d209_36 rfl rfl rfl ?_
  refine r_goto (t := 9) hP d209_39 (by decide) ?_
  exact k
theorem b209_42 {d : Nat} {P : xPr} {Q : xQr} {r : Nat} {mem : Nat → Nat → Int32} (hP : Cl d none 209 P Q) {x1 : Int32} {v2 : Value} {v3 : Value} {v4 : Value}
    (k : P 44 [.ref 108, .int x1, .int (nI 0), v3, v4] [] (0, 0) (LAY, RFu r, mem)) : P 42 [.ref 108, .int x1, v2, v3, v4] [] (0, 0) (LAY, RFu r, mem) := by
  refine r_iconst (v := nI 0) hP d209_42 rfl ?_
  refine r_istore_n (L' := [.ref 108, .int x1, .int (nI 0), v3, v4]) hP d209_43 (Nat.le_of_ble_eq_true rfl) rfl ?_
  exact k
theorem b209_44 {d : Nat} {P : xPr} {Q : xQr} {r : Nat} {mem : Nat → Nat → Int32} (hP : Cl d none 209 P Q) {x1 : Int32} {x2 : Int32} {v3 : Value} {v4 : Value}
    (kt : x1 < x2 → P 175 [.ref 108, .int x1, .int x2, v3, v4] [] (0, 0) (LAY, RFu r, mem)) (kf : ¬ x1 < x2 → P 49 [.ref 108, .int x1, .int x2, v3, v4] [] (0, 0) (LAY, RFu r, mem)) : P 44 [.ref 108, .int x1, .int x2, v3, v4] [] (0, 0) (LAY, RFu r, mem) := by
  refine r_iload_n hP d209_44 rfl ?_
  refine r_iload_n hP d209_45 rfl ?_
  exact r_icmp (t := 175) hP d209_46 (by decide) kt kf
theorem b209_49 {d : Nat} {P : xPr} {Q : xQr} {r : Nat} {mem : Nat → Nat → Int32} (hP : Cl d none 209 P Q) {x1 : Int32} {x2 : Int32} {v3 : Value} {v4 : Value}
    (kt : ¬ x2 = 0 → P 62 [.ref 108, .int x1, .int x2, v3, v4] [.int x2, .ref 135] (0, 0) (LAY, RFu r, mem)) (kf : x2 = 0 → P 58 [.ref 108, .int x1, .int x2, v3, v4] [.int x2, .ref 135] (0, 0) (LAY, RFu r, mem)) : P 49 [.ref 108, .int x1, .int x2, v3, v4] [] (0, 0) (LAY, RFu r, mem) := by
  refine r_aload_n hP d209_49 rfl ?_
  refine r_getr (a := 135) hP d209_50 fr_12_93 rfl ly_108 rg_108_40 ?_
  refine r_iload_n hP d209_53 rfl ?_
  refine r_iload_n hP d209_54 rfl ?_
  exact r_if (t := 62) hP d209_55 (by decide) kt (fun q => kf (Decidable.of_not_not q))
theorem b209_58 {d : Nat} {P : xPr} {Q : xQr} {r : Nat} {mem : Nat → Nat → Int32} (hP : Cl d none 209 P Q) {x1 : Int32} {x2 : Int32} {v3 : Value} {v4 : Value} {y1 : Int32}
    (k : P 63 [.ref 108, .int x1, .int x2, v3, v4] [.int (nI 0), .int y1, .ref 135] (0, 0) (LAY, RFu r, mem)) : P 58 [.ref 108, .int x1, .int x2, v3, v4] [.int y1, .ref 135] (0, 0) (LAY, RFu r, mem) := by
  refine r_iconst (v := nI 0) hP d209_58 rfl ?_
  refine r_goto (t := 63) hP d209_59 (by decide) ?_
  exact k
theorem b209_62 {d : Nat} {P : xPr} {Q : xQr} {r : Nat} {mem : Nat → Nat → Int32} (hP : Cl d none 209 P Q) {x1 : Int32} {x2 : Int32} {v3 : Value} {v4 : Value} {y1 : Int32}
    (k : P 63 [.ref 108, .int x1, .int x2, v3, v4] [.int (-1), .int y1, .ref 135] (0, 0) (LAY, RFu r, mem)) : P 62 [.ref 108, .int x1, .int x2, v3, v4] [.int y1, .ref 135] (0, 0) (LAY, RFu r, mem) := by
  refine r_iconst (v := (-1)) hP d209_62 rfl ?_
  exact k
theorem b209_63 {d : Nat} {P : xPr} {Q : xQr} {r : Nat} {mem : Nat → Nat → Int32} (hP : Cl d none 209 P Q) {x1 : Int32} {x2 : Int32} {v3 : Value} {v4 : Value} {y1 : Int32} {y2 : Int32} (hi63 : vp_in y1 256)
    (kt : ¬ (x2 &&& (x1 ^^^ (-1))) = 0 → P 169 [.ref 108, .int x1, .int x2, v3, v4] [] (0, 0) (LAY, RFu r, xu2 mem 135 y1.toNatClampNeg y2)) (kf : (x2 &&& (x1 ^^^ (-1))) = 0 → P 72 [.ref 108, .int x1, .int x2, v3, v4] [] (0, 0) (LAY, RFu r, xu2 mem 135 y1.toNatClampNeg y2)) : P 63 [.ref 108, .int x1, .int x2, v3, v4] [.int y2, .int y1, .ref 135] (0, 0) (LAY, RFu r, mem) := by
  refine r_iastore hP d209_63 ly_135 hi63 ?_
  refine r_iload_n hP d209_64 rfl ?_
  refine r_iload_n hP d209_65 rfl ?_
  refine r_iconst (v := (-1)) hP d209_66 rfl ?_
  refine r_ixor hP d209_67 ?_
  refine r_iand hP d209_68 ?_
  exact r_if (t := 169) hP d209_69 (by decide) kt (fun q => kf (Decidable.of_not_not q))
theorem b209_72 {d : Nat} {P : xPr} {Q : xQr} {r : Nat} {mem : Nat → Nat → Int32} (hP : Cl d none 209 P Q) {x1 : Int32} {x2 : Int32} {v3 : Value} {v4 : Value}
    (kt : x2 = 0 → P 169 [.ref 108, .int x1, .int x2, v3, v4] [] (0, 0) (LAY, RFu r, mem)) (kf : ¬ x2 = 0 → P 76 [.ref 108, .int x1, .int x2, v3, v4] [] (0, 0) (LAY, RFu r, mem)) : P 72 [.ref 108, .int x1, .int x2, v3, v4] [] (0, 0) (LAY, RFu r, mem) := by
  refine r_iload_n hP d209_72 rfl ?_
  exact r_if (t := 169) hP d209_73 (by decide) kt kf
theorem b209_76 {d : Nat} {P : xPr} {Q : xQr} {r : Nat} {mem : Nat → Nat → Int32} (hP : Cl d none 209 P Q) {x1 : Int32} {x2 : Int32} {v3 : Value} {v4 : Value}
    (k : xCall d 208 [.ref 108, .int x2] (LAY, RFu r, mem) (Bk P 78 [.ref 108, .int x1, .int x2, v3, v4] [] (0, 0))) : P 76 [.ref 108, .int x1, .int x2, v3, v4] [] (0, 0) (LAY, RFu r, mem) := by
  refine r_aload_n hP d209_76 rfl ?_
  refine r_iload_n hP d209_77 rfl ?_
  exact r_callv (As := [.int x2]) (S := []) hP d209_78 cr_12_289 (by decide +kernel) rfl (by simp [Value.category]) rfl ly_108 (by simp [Value.category]) ⟨Nat.zero_le _, Nat.zero_le _⟩ k
theorem b209_81 {d : Nat} {P : xPr} {Q : xQr} {r : Nat} {mem : Nat → Nat → Int32} (hP : Cl d none 209 P Q) {x1 : Int32} {x2 : Int32} {v3 : Value} {v4 : Value} {y0 : Int32}
    (kt : y0 = 0 → P 87 [.ref 108, .int x1, .int x2, v3, v4] [] (0, 0) (LAY, RFu r, mem)) (kf : ¬ y0 = 0 → P 84 [.ref 108, .int x1, .int x2, v3, v4] [] (0, 0) (LAY, RFu r, mem)) : P 81 [.ref 108, .int x1, .int x2, v3, v4] [.int y0] (0, 0) (LAY, RFu r, mem) := by
  exact r_if (t := 87) hP d209_81 (by decide) kt kf
theorem b209_84 {d : Nat} {P : xPr} {Q : xQr} {r : Nat} {mem : Nat → Nat → Int32} (hP : Cl d none 209 P Q) {x1 : Int32} {x2 : Int32} {v3 : Value} {v4 : Value}
    (k : P 169 [.ref 108, .int x1, .int x2, v3, v4] [] (0, 0) (LAY, RFu r, mem)) : P 84 [.ref 108, .int x1, .int x2, v3, v4] [] (0, 0) (LAY, RFu r, mem) := by
  refine r_goto (t := 169) hP d209_84 (by decide) ?_
  exact k
theorem b209_87 {d : Nat} {P : xPr} {Q : xQr} {r : Nat} {mem : Nat → Nat → Int32} (hP : Cl d none 209 P Q) {x1 : Int32} {x2 : Int32} {v3 : Value} {v4 : Value}
    (k : P 95 [.ref 108, .int x1, .int x2, .int (x2 &&& (-x2)), .int x2] [] (0, 0) (LAY, RFu r, mem)) : P 87 [.ref 108, .int x1, .int x2, v3, v4] [] (0, 0) (LAY, RFu r, mem) := by
  refine r_iload_n hP d209_87 rfl ?_
  refine r_iload_n hP d209_88 rfl ?_
  refine r_ineg hP d209_89 ?_
  refine r_iand hP d209_90 ?_
  refine r_istore_n (L' := [.ref 108, .int x1, .int x2, .int (x2 &&& (-x2)), v4]) hP d209_91 (Nat.le_of_ble_eq_true rfl) rfl ?_
  refine r_iload_n hP d209_92 rfl ?_
  refine r_istore (L' := [.ref 108, .int x1, .int x2, .int (x2 &&& (-x2)), .int x2]) hP d209_93 (Nat.le_of_ble_eq_true rfl) rfl ?_
  exact k
theorem b209_95 {d : Nat} {P : xPr} {Q : xQr} {r : Nat} {mem : Nat → Nat → Int32} (hP : Cl d none 209 P Q) {x1 : Int32} {x2 : Int32} {x3 : Int32} {x4 : Int32}
    (kt : x4 ≤ 0 → P 169 [.ref 108, .int x1, .int x2, .int x3, .int x4] [] (0, 0) (LAY, RFu r, mem)) (kf : ¬ x4 ≤ 0 → P 100 [.ref 108, .int x1, .int x2, .int x3, .int x4] [] (0, 0) (LAY, RFu r, mem)) : P 95 [.ref 108, .int x1, .int x2, .int x3, .int x4] [] (0, 0) (LAY, RFu r, mem) := by
  refine r_iload hP d209_95 rfl ?_
  exact r_if (t := 169) hP d209_97 (by decide) kt kf
theorem b209_100 {d : Nat} {P : xPr} {Q : xQr} {r : Nat} {mem : Nat → Nat → Int32} (hP : Cl d none 209 P Q) {x1 : Int32} {x2 : Int32} {x3 : Int32} {x4 : Int32}
    (kt : (x4 &&& x3) = 0 → P 158 [.ref 108, .int x1, .int x2, .int x3, .int x4] [] (0, 0) (LAY, RFu r, mem)) (kf : ¬ (x4 &&& x3) = 0 → P 107 [.ref 108, .int x1, .int x2, .int x3, .int x4] [] (0, 0) (LAY, RFu r, mem)) : P 100 [.ref 108, .int x1, .int x2, .int x3, .int x4] [] (0, 0) (LAY, RFu r, mem) := by
  refine r_iload hP d209_100 rfl ?_
  refine r_iload_n hP d209_102 rfl ?_
  refine r_iand hP d209_103 ?_
  exact r_if (t := 158) hP d209_104 (by decide) kt kf
theorem b209_107 {d : Nat} {P : xPr} {Q : xQr} {r : Nat} {mem : Nat → Nat → Int32} (hP : Cl d none 209 P Q) {x1 : Int32} {x2 : Int32} {x3 : Int32} {x4 : Int32}
    (k : xCall d 208 [.ref 108, .int x4] (LAY, RFu r, mem) (Bk P 110 [.ref 108, .int x1, .int x2, .int x3, .int x4] [] (0, 0))) : P 107 [.ref 108, .int x1, .int x2, .int x3, .int x4] [] (0, 0) (LAY, RFu r, mem) := by
  refine r_aload_n hP d209_107 rfl ?_
  refine r_iload hP d209_108 rfl ?_
  exact r_callv (As := [.int x4]) (S := []) hP d209_110 cr_12_289 (by decide +kernel) rfl (by simp [Value.category]) rfl ly_108 (by simp [Value.category]) ⟨Nat.zero_le _, Nat.zero_le _⟩ k
theorem b209_113 {d : Nat} {P : xPr} {Q : xQr} {r : Nat} {mem : Nat → Nat → Int32} (hP : Cl d none 209 P Q) {x1 : Int32} {x2 : Int32} {x3 : Int32} {x4 : Int32} {y0 : Int32}
    (kt : ¬ y0 = 0 → P 158 [.ref 108, .int x1, .int x2, .int x3, .int x4] [] (0, 0) (LAY, RFu r, mem)) (kf : y0 = 0 → P 116 [.ref 108, .int x1, .int x2, .int x3, .int x4] [] (0, 0) (LAY, RFu r, mem)) : P 113 [.ref 108, .int x1, .int x2, .int x3, .int x4] [.int y0] (0, 0) (LAY, RFu r, mem) := by
  exact r_if (t := 158) hP d209_113 (by decide) kt (fun q => kf (Decidable.of_not_not q))
theorem b209_116 {d : Nat} {P : xPr} {Q : xQr} {r : Nat} {mem : Nat → Nat → Int32} (hP : Cl d none 209 P Q) {x1 : Int32} {x2 : Int32} {x3 : Int32} {x4 : Int32} (hi126 : vp_in (x2 &&& (x4 ^^^ (-1))) 256)
    (kt : (mem 135 (x2 &&& (x4 ^^^ (-1))).toNatClampNeg) < 0 → P 158 [.ref 108, .int x1, .int x2, .int x3, .int x4] [] (0, 0) (LAY, RFu r, mem)) (kf : ¬ (mem 135 (x2 &&& (x4 ^^^ (-1))).toNatClampNeg) < 0 → P 130 [.ref 108, .int x1, .int x2, .int x3, .int x4] [] (0, 0) (LAY, RFu r, mem)) : P 116 [.ref 108, .int x1, .int x2, .int x3, .int x4] [] (0, 0) (LAY, RFu r, mem) := by
  refine r_aload_n hP d209_116 rfl ?_
  refine r_getr (a := 135) hP d209_117 fr_12_93 rfl ly_108 rg_108_40 ?_
  refine r_iload_n hP d209_120 rfl ?_
  refine r_iload hP d209_121 rfl ?_
  refine r_iconst (v := (-1)) hP d209_123 rfl ?_
  refine r_ixor hP d209_124 ?_
  refine r_iand hP d209_125 ?_
  refine r_iaload hP d209_126 ly_135 hi126 ?_
  exact r_if (t := 158) hP d209_127 (by decide) kt kf
theorem b209_130 {d : Nat} {P : xPr} {Q : xQr} {r : Nat} {mem : Nat → Nat → Int32} (hP : Cl d none 209 P Q) {x1 : Int32} {x2 : Int32} {x3 : Int32} {x4 : Int32} (hi140 : vp_in x2 256) (hi151 : vp_in (x2 &&& (x4 ^^^ (-1))) 256) (hi157 : vp_in x2 256)
    (k : P 158 [.ref 108, .int x1, .int x2, .int x3, .int x4] [] (0, 0) (LAY, RFu r, xu2 mem 135 x2.toNatClampNeg (if mem 135 x2.toNatClampNeg < (mem 135 (x2 &&& (x4 ^^^ (-1))).toNatClampNeg) + (nI 1) then (mem 135 (x2 &&& (x4 ^^^ (-1))).toNatClampNeg) + (nI 1) else mem 135 x2.toNatClampNeg))) : P 130 [.ref 108, .int x1, .int x2, .int x3, .int x4] [] (0, 0) (LAY, RFu r, mem) := by
  refine r_aload_n hP d209_130 rfl ?_
  refine r_getr (a := 135) hP d209_131 fr_12_93 rfl ly_108 rg_108_40 ?_
  refine r_iload_n hP d209_134 rfl ?_
  refine r_aload_n hP d209_135 rfl ?_
  refine r_getr (a := 135) hP d209_136 fr_12_93 rfl ly_108 rg_108_40 ?_
  refine r_iload_n hP d209_139 rfl ?_
  refine r_iaload hP d209_140 ly_135 hi140 ?_
  refine r_aload_n hP d209_141 rfl ?_
  refine r_getr (a := 135) hP d209_142 fr_12_93 rfl ly_108 rg_108_40 ?_
  refine r_iload_n hP d209_145 rfl ?_
  refine r_iload hP d209_146 rfl ?_
  refine r_iconst (v := (-1)) hP d209_148 rfl ?_
  refine r_ixor hP d209_149 ?_
  refine r_iand hP d209_150 ?_
  refine r_iaload hP d209_151 ly_135 hi151 ?_
  refine r_iconst (v := nI 1) hP d209_152 rfl ?_
  refine r_iadd hP d209_153 ?_
  refine r_max hP d209_154 cr_12_222 (by simp [Value.category]) ?_
  refine r_iastore hP d209_157 ly_135 hi157 ?_
  exact k
theorem b209_158 {d : Nat} {P : xPr} {Q : xQr} {r : Nat} {mem : Nat → Nat → Int32} (hP : Cl d none 209 P Q) {x1 : Int32} {x2 : Int32} {x3 : Int32} {x4 : Int32}
    (k : P 95 [.ref 108, .int x1, .int x2, .int x3, .int ((x4 - (nI 1)) &&& x2)] [] (0, 0) (LAY, RFu r, mem)) : P 158 [.ref 108, .int x1, .int x2, .int x3, .int x4] [] (0, 0) (LAY, RFu r, mem) := by
  refine r_iload hP d209_158 rfl ?_
  refine r_iconst (v := nI 1) hP d209_160 rfl ?_
  refine r_isub hP d209_161 ?_
  refine r_iload_n hP d209_162 rfl ?_
  refine r_iand hP d209_163 ?_
  refine r_istore (L' := [.ref 108, .int x1, .int x2, .int x3, .int ((x4 - (nI 1)) &&& x2)]) hP d209_164 (Nat.le_of_ble_eq_true rfl) rfl ?_
  refine r_goto (t := 95) hP d209_166 (by decide) ?_
  exact k
theorem b209_169 {d : Nat} {P : xPr} {Q : xQr} {r : Nat} {mem : Nat → Nat → Int32} (hP : Cl d none 209 P Q) {x1 : Int32} {x2 : Int32} {v3 : Value} {v4 : Value}
    (k : P 44 [.ref 108, .int x1, .int (x2 + nI 1), v3, v4] [] (0, 0) (LAY, RFu r, mem)) : P 169 [.ref 108, .int x1, .int x2, v3, v4] [] (0, 0) (LAY, RFu r, mem) := by
  refine r_iinc (v := nI 1) (L' := [.ref 108, .int x1, .int (x2 + nI 1), v3, v4]) hP d209_169 rfl rfl rfl ?_
  refine r_goto (t := 44) hP d209_172 (by decide) ?_
  exact k
theorem b209_175 {d : Nat} {P : xPr} {Q : xQr} {r : Nat} {mem : Nat → Nat → Int32} (hP : Cl d none 209 P Q) {x1 : Int32} {v2 : Value} {v3 : Value} {v4 : Value}
    (k : P 182 [.ref 108, .int x1, .int x1, v3, v4] [] (0, 0) (LAY, RFu r, xu2 mem 108 19 (nI 0))) : P 175 [.ref 108, .int x1, v2, v3, v4] [] (0, 0) (LAY, RFu r, mem) := by
  refine r_aload_n hP d209_175 rfl ?_
  refine r_iconst (v := nI 0) hP d209_176 rfl ?_
  refine r_puti hP d209_177 fr_12_124 rfl (fun q => by cases q) ly_108 ?_
  refine r_iload_n hP d209_180 rfl ?_
  refine r_istore_n (L' := [.ref 108, .int x1, .int x1, v3, v4]) hP d209_181 (Nat.le_of_ble_eq_true rfl) rfl ?_
  exact k
theorem b209_182 {d : Nat} {P : xPr} {Q : xQr} {r : Nat} {mem : Nat → Nat → Int32} (hP : Cl d none 209 P Q) {x1 : Int32} {x2 : Int32} {v3 : Value} {v4 : Value}
    (kt : x2 = 0 → P 263 [.ref 108, .int x1, .int x2, v3, v4] [] (0, 0) (LAY, RFu r, mem)) (kf : ¬ x2 = 0 → P 186 [.ref 108, .int x1, .int x2, v3, v4] [] (0, 0) (LAY, RFu r, mem)) : P 182 [.ref 108, .int x1, .int x2, v3, v4] [] (0, 0) (LAY, RFu r, mem) := by
  refine r_iload_n hP d209_182 rfl ?_
  exact r_if (t := 263) hP d209_183 (by decide) kt kf
theorem b209_186 {d : Nat} {P : xPr} {Q : xQr} {r : Nat} {mem : Nat → Nat → Int32} (hP : Cl d none 209 P Q) {x1 : Int32} {x2 : Int32} {v3 : Value} {v4 : Value}
    (k : P 194 [.ref 108, .int x1, .int x2, .int (x2 &&& (-x2)), .int (nI 1)] [] (0, 0) (LAY, RFu r, mem)) : P 186 [.ref 108, .int x1, .int x2, v3, v4] [] (0, 0) (LAY, RFu r, mem) := by
  refine r_iload_n hP d209_186 rfl ?_
  refine r_iload_n hP d209_187 rfl ?_
  refine r_ineg hP d209_188 ?_
  refine r_iand hP d209_189 ?_
  refine r_istore_n (L' := [.ref 108, .int x1, .int x2, .int (x2 &&& (-x2)), v4]) hP d209_190 (Nat.le_of_ble_eq_true rfl) rfl ?_
  refine r_iconst (v := nI 1) hP d209_191 rfl ?_
  refine r_istore (L' := [.ref 108, .int x1, .int x2, .int (x2 &&& (-x2)), .int (nI 1)]) hP d209_192 (Nat.le_of_ble_eq_true rfl) rfl ?_
  exact k
theorem b209_194 {d : Nat} {P : xPr} {Q : xQr} {r : Nat} {mem : Nat → Nat → Int32} (hP : Cl d none 209 P Q) {x1 : Int32} {x2 : Int32} {x3 : Int32} {x4 : Int32}
    (kt : ¬ (x4 &&& (x2 ^^^ (-1))) = 0 → P 241 [.ref 108, .int x1, .int x2, .int x3, .int x4] [] (0, 0) (LAY, RFu r, mem)) (kf : (x4 &&& (x2 ^^^ (-1))) = 0 → P 203 [.ref 108, .int x1, .int x2, .int x3, .int x4] [] (0, 0) (LAY, RFu r, mem)) : P 194 [.ref 108, .int x1, .int x2, .int x3, .int x4] [] (0, 0) (LAY, RFu r, mem) := by
  refine r_iload hP d209_194 rfl ?_
  refine r_iload_n hP d209_196 rfl ?_
  refine r_iconst (v := (-1)) hP d209_197 rfl ?_
  refine r_ixor hP d209_198 ?_
  refine r_iand hP d209_199 ?_
  exact r_if (t := 241) hP d209_200 (by decide) kt (fun q => kf (Decidable.of_not_not q))
theorem b209_203 {d : Nat} {P : xPr} {Q : xQr} {r : Nat} {mem : Nat → Nat → Int32} (hP : Cl d none 209 P Q) {x1 : Int32} {x2 : Int32} {x3 : Int32} {x4 : Int32}
    (kt : (x4 &&& x3) = 0 → P 241 [.ref 108, .int x1, .int x2, .int x3, .int x4] [] (0, 0) (LAY, RFu r, mem)) (kf : ¬ (x4 &&& x3) = 0 → P 210 [.ref 108, .int x1, .int x2, .int x3, .int x4] [] (0, 0) (LAY, RFu r, mem)) : P 203 [.ref 108, .int x1, .int x2, .int x3, .int x4] [] (0, 0) (LAY, RFu r, mem) := by
  refine r_iload hP d209_203 rfl ?_
  refine r_iload_n hP d209_205 rfl ?_
  refine r_iand hP d209_206 ?_
  exact r_if (t := 241) hP d209_207 (by decide) kt kf
theorem b209_210 {d : Nat} {P : xPr} {Q : xQr} {r : Nat} {mem : Nat → Nat → Int32} (hP : Cl d none 209 P Q) {x1 : Int32} {x2 : Int32} {x3 : Int32} {x4 : Int32}
    (k : xCall d 208 [.ref 108, .int x4] (LAY, RFu r, mem) (Bk P 213 [.ref 108, .int x1, .int x2, .int x3, .int x4] [] (0, 0))) : P 210 [.ref 108, .int x1, .int x2, .int x3, .int x4] [] (0, 0) (LAY, RFu r, mem) := by
  refine r_aload_n hP d209_210 rfl ?_
  refine r_iload hP d209_211 rfl ?_
  exact r_callv (As := [.int x4]) (S := []) hP d209_213 cr_12_289 (by decide +kernel) rfl (by simp [Value.category]) rfl ly_108 (by simp [Value.category]) ⟨Nat.zero_le _, Nat.zero_le _⟩ k
theorem b209_216 {d : Nat} {P : xPr} {Q : xQr} {r : Nat} {mem : Nat → Nat → Int32} (hP : Cl d none 209 P Q) {x1 : Int32} {x2 : Int32} {x3 : Int32} {x4 : Int32} {y0 : Int32}
    (kt : ¬ y0 = 0 → P 241 [.ref 108, .int x1, .int x2, .int x3, .int x4] [] (0, 0) (LAY, RFu r, mem)) (kf : y0 = 0 → P 219 [.ref 108, .int x1, .int x2, .int x3, .int x4] [] (0, 0) (LAY, RFu r, mem)) : P 216 [.ref 108, .int x1, .int x2, .int x3, .int x4] [.int y0] (0, 0) (LAY, RFu r, mem) := by
  exact r_if (t := 241) hP d209_216 (by decide) kt (fun q => kf (Decidable.of_not_not q))
theorem b209_219 {d : Nat} {P : xPr} {Q : xQr} {r : Nat} {mem : Nat → Nat → Int32} (hP : Cl d none 209 P Q) {x1 : Int32} {x2 : Int32} {x3 : Int32} {x4 : Int32} (hi229 : vp_in (x2 &&& (x4 ^^^ (-1))) 256) (hi235 : vp_in x2 256)
    (kt : (mem 135 (x2 &&& (x4 ^^^ (-1))).toNatClampNeg) = ((mem 135 x2.toNatClampNeg) - (nI 1)) → P 247 [.ref 108, .int x1, .int x2, .int x3, .int x4] [] (0, 0) (LAY, RFu r, mem)) (kf : ¬ (mem 135 (x2 &&& (x4 ^^^ (-1))).toNatClampNeg) = ((mem 135 x2.toNatClampNeg) - (nI 1)) → P 241 [.ref 108, .int x1, .int x2, .int x3, .int x4] [] (0, 0) (LAY, RFu r, mem)) : P 219 [.ref 108, .int x1, .int x2, .int x3, .int x4] [] (0, 0) (LAY, RFu r, mem) := by
  refine r_aload_n hP d209_219 rfl ?_
  refine r_getr (a := 135) hP d209_220 fr_12_93 rfl ly_108 rg_108_40 ?_
  refine r_iload_n hP d209_223 rfl ?_
  refine r_iload hP d209_224 rfl ?_
  refine r_iconst (v := (-1)) hP d209_226 rfl ?_
  refine r_ixor hP d209_227 ?_
  refine r_iand hP d209_228 ?_
  refine r_iaload hP d209_229 ly_135 hi229 ?_
  refine r_aload_n hP d209_230 rfl ?_
  refine r_getr (a := 135) hP d209_231 fr_12_93 rfl ly_108 rg_108_40 ?_
  refine r_iload_n hP d209_234 rfl ?_
  refine r_iaload hP d209_235 ly_135 hi235 ?_
  refine r_iconst (v := nI 1) hP d209_236 rfl ?_
  refine r_isub hP d209_237 ?_
  exact r_icmp (t := 247) hP d209_238 (by decide) kt kf
theorem b209_241 {d : Nat} {P : xPr} {Q : xQr} {r : Nat} {mem : Nat → Nat → Int32} (hP : Cl d none 209 P Q) {x1 : Int32} {x2 : Int32} {x3 : Int32} {x4 : Int32}
    (k : P 194 [.ref 108, .int x1, .int x2, .int x3, .int (x4 + nI 1)] [] (0, 0) (LAY, RFu r, mem)) : P 241 [.ref 108, .int x1, .int x2, .int x3, .int x4] [] (0, 0) (LAY, RFu r, mem) := by
  refine r_iinc (v := nI 1) (L' := [.ref 108, .int x1, .int x2, .int x3, .int (x4 + nI 1)]) hP d209_241 rfl rfl rfl ?_
  refine r_goto (t := 194) hP d209_244 (by decide) ?_
  exact k
theorem b209_247 {d : Nat} {P : xPr} {Q : xQr} {r : Nat} {mem : Nat → Nat → Int32} (hP : Cl d none 209 P Q) {x1 : Int32} {x2 : Int32} {v3 : Value} {x4 : Int32}
    (k : xCall d 161 [.ref 108, .int x4] (LAY, RFu r, mem) (Bk P 250 [.ref 108, .int x1, .int x2, v3, .int x4] [] (0, 0))) : P 247 [.ref 108, .int x1, .int x2, v3, .int x4] [] (0, 0) (LAY, RFu r, mem) := by
  refine r_aload_n hP d209_247 rfl ?_
  refine r_iload hP d209_248 rfl ?_
  exact r_callv (As := [.int x4]) (S := []) hP d209_250 cr_12_258 (by decide +kernel) rfl (by simp [Value.category]) rfl ly_108 (by simp [Value.category]) ⟨Nat.zero_le _, Nat.zero_le _⟩ k
theorem b209_253 {d : Nat} {P : xPr} {Q : xQr} {r : Nat} {mem : Nat → Nat → Int32} (hP : Cl d none 209 P Q) {x1 : Int32} {x2 : Int32} {v3 : Value} {x4 : Int32}
    (k : P 182 [.ref 108, .int x1, .int (x2 &&& (x4 ^^^ (-1))), v3, .int x4] [] (0, 0) (LAY, RFu r, mem)) : P 253 [.ref 108, .int x1, .int x2, v3, .int x4] [] (0, 0) (LAY, RFu r, mem) := by
  refine r_iload_n hP d209_253 rfl ?_
  refine r_iload hP d209_254 rfl ?_
  refine r_iconst (v := (-1)) hP d209_256 rfl ?_
  refine r_ixor hP d209_257 ?_
  refine r_iand hP d209_258 ?_
  refine r_istore_n (L' := [.ref 108, .int x1, .int (x2 &&& (x4 ^^^ (-1))), v3, .int x4]) hP d209_259 (Nat.le_of_ble_eq_true rfl) rfl ?_
  refine r_goto (t := 182) hP d209_260 (by decide) ?_
  exact k
theorem b209_263 {d : Nat} {P : xPr} {Q : xQr} {r : Nat} {mem : Nat → Nat → Int32} (hP : Cl d none 209 P Q) {x1 : Int32} {v2 : Value} {v3 : Value} {v4 : Value}
    (k : xCall d 237 [.int x1] (LAY, RFu r, mem) (Bk P 264 [.ref 108, .int x1, v2, v3, v4] [] (0, 0))) : P 263 [.ref 108, .int x1, v2, v3, v4] [] (0, 0) (LAY, RFu r, mem) := by
  refine r_iload_n hP d209_263 rfl ?_
  exact r_calls (As := [.int x1]) (S := []) hP d209_264 cr_12_292 (by decide +kernel) rfl (by simp [Value.category]) rfl (by simp [Value.category]) ⟨Nat.zero_le _, Nat.zero_le _⟩ k
theorem b209_267 {d : Nat} {P : xPr} {Q : xQr} {r : Nat} {mem : Nat → Nat → Int32} (hP : Cl d none 209 P Q) {x1 : Int32} {v2 : Value} {v3 : Value} {v4 : Value} {y0 : Int32} (hi272 : vp_in x1 256)
    (k : Q (some (.int (y0 - (mem 135 x1.toNatClampNeg)))) (LAY, RFu r, mem)) : P 267 [.ref 108, .int x1, v2, v3, v4] [.int y0] (0, 0) (LAY, RFu r, mem) := by
  refine r_aload_n hP d209_267 rfl ?_
  refine r_getr (a := 135) hP d209_268 fr_12_93 rfl ly_108 rg_108_40 ?_
  refine r_iload_n hP d209_271 rfl ?_
  refine r_iaload hP d209_272 ly_135 hi272 ?_
  refine r_isub hP d209_273 ?_
  exact r_iret hP d209_274 rfl k
theorem d210_0 : decode (xB 210) 0 = .ok (.aload_n 0, 1) := by decide +kernel
theorem d210_1 : decode (xB 210) 1 = .ok (.iconst 0, 1) := by decide +kernel
theorem d210_2 : decode (xB 210) 2 = .ok (.putfield 121, 3) := by decide +kernel
theorem d210_5 : decode (xB 210) 5 = .ok (.iconst 0, 1) := by decide +kernel
theorem d210_6 : decode (xB 210) 6 = .ok (.istore_n 1, 1) := by decide +kernel
theorem d210_7 : decode (xB 210) 7 = .ok (.iconst 0, 1) := by decide +kernel
theorem d210_8 : decode (xB 210) 8 = .ok (.istore_n 2, 1) := by decide +kernel
theorem d210_9 : decode (xB 210) 9 = .ok (.iconst 1, 1) := by decide +kernel
theorem d210_10 : decode (xB 210) 10 = .ok (.istore_n 3, 1) := by decide +kernel
theorem d210_11 : decode (xB 210) 11 = .ok (.iload_n 3, 1) := by decide +kernel
theorem d210_12 : decode (xB 210) 12 = .ok (.ifCond .eq 154, 3) := by decide +kernel
theorem d210_15 : decode (xB 210) 15 = .ok (.iconst 0, 1) := by decide +kernel
theorem d210_16 : decode (xB 210) 16 = .ok (.istore 4, 2) := by decide +kernel
theorem d210_18 : decode (xB 210) 18 = .ok (.iconst 0, 1) := by decide +kernel
theorem d210_19 : decode (xB 210) 19 = .ok (.istore 5, 2) := by decide +kernel
theorem d210_21 : decode (xB 210) 21 = .ok (.iconst 0, 1) := by decide +kernel
theorem d210_22 : decode (xB 210) 22 = .ok (.istore 6, 2) := by decide +kernel
theorem d210_24 : decode (xB 210) 24 = .ok (.iload 6, 2) := by decide +kernel
theorem d210_26 : decode (xB 210) 26 = .ok (.aload_n 0, 1) := by decide +kernel
theorem d210_27 : decode (xB 210) 27 = .ok (.getfield 127, 3) := by decide +kernel
theorem d210_30 : decode (xB 210) 30 = .ok (.if_icmp .ge 51, 3) := by decide +kernel
theorem d210_33 : decode (xB 210) 33 = .ok (.aload_n 0, 1) := by decide +kernel
theorem d210_34 : decode (xB 210) 34 = .ok (.getfield 44, 3) := by decide +kernel
theorem d210_37 : decode (xB 210) 37 = .ok (.iload 6, 2) := by decide +kernel
theorem d210_39 : decode (xB 210) 39 = .ok (.iaload, 1) := by decide +kernel
theorem d210_40 : decode (xB 210) 40 = .ok (.aload_n 0, 1) := by decide +kernel
theorem d210_41 : decode (xB 210) 41 = .ok (.getfield 44, 3) := by decide +kernel
theorem d210_44 : decode (xB 210) 44 = .ok (.iload 4, 2) := by decide +kernel
theorem d210_46 : decode (xB 210) 46 = .ok (.iaload, 1) := by decide +kernel
theorem d210_47 : decode (xB 210) 47 = .ok (.if_icmp .ge 7, 3) := by decide +kernel
theorem d210_50 : decode (xB 210) 50 = .ok (.iload 6, 2) := by decide +kernel
theorem d210_52 : decode (xB 210) 52 = .ok (.istore 4, 2) := by decide +kernel
theorem d210_54 : decode (xB 210) 54 = .ok (.aload_n 0, 1) := by decide +kernel
theorem d210_55 : decode (xB 210) 55 = .ok (.getfield 44, 3) := by decide +kernel
theorem d210_58 : decode (xB 210) 58 = .ok (.iload 6, 2) := by decide +kernel
theorem d210_60 : decode (xB 210) 60 = .ok (.iaload, 1) := by decide +kernel
theorem d210_61 : decode (xB 210) 61 = .ok (.aload_n 0, 1) := by decide +kernel
theorem d210_62 : decode (xB 210) 62 = .ok (.getfield 44, 3) := by decide +kernel
theorem d210_65 : decode (xB 210) 65 = .ok (.iload 5, 2) := by decide +kernel
theorem d210_67 : decode (xB 210) 67 = .ok (.iaload, 1) := by decide +kernel
theorem d210_68 : decode (xB 210) 68 = .ok (.if_icmp .le 7, 3) := by decide +kernel
theorem d210_71 : decode (xB 210) 71 = .ok (.iload 6, 2) := by decide +kernel
theorem d210_73 : decode (xB 210) 73 = .ok (.istore 5, 2) := by decide +kernel
theorem d210_75 : decode (xB 210) 75 = .ok (.iinc 6 1, 3) := by decide +kernel
theorem d210_78 : decode (xB 210) 78 = .ok (.goto (-54), 3) := by decide +kernel
theorem d210_81 : decode (xB 210) 81 = .ok (.aload_n 0, 1) := by decide +kernel
theorem d210_82 : decode (xB 210) 82 = .ok (.getfield 127, 3) := by decide +kernel
theorem d210_85 : decode (xB 210) 85 = .ok (.ifCond .le 17, 3) := by decide +kernel
theorem d210_88 : decode (xB 210) 88 = .ok (.aload_n 0, 1) := by decide +kernel
theorem d210_89 : decode (xB 210) 89 = .ok (.getfield 44, 3) := by decide +kernel
theorem d210_92 : decode (xB 210) 92 = .ok (.iload 4, 2) := by decide +kernel
theorem d210_94 : decode (xB 210) 94 = .ok (.iaload, 1) := by decide +kernel
theorem d210_95 : decode (xB 210) 95 = .ok (.ifCond .ge 7, 3) := by decide +kernel
theorem d210_98 : decode (xB 210) 98 = .ok (.iconst 1, 1) := by decide +kernel
theorem d210_99 : decode (xB 210) 99 = .ok (.goto 4, 3) := by decide +kernel
theorem d210_102 : decode (xB 210) 102 = .ok (.iconst 0, 1) := by decide +kernel
theorem d210_103 : decode (xB 210) 103 = .ok (.istore_n 3, 1) := by decide +kernel
theorem d210_104 : decode (xB 210) 104 = .ok (.iload_n 3, 1) := by decide +kernel
theorem d210_105 : decode (xB 210) 105 = .ok (.ifCond .ne 6, 3) := by decide +kernel
theorem d210_108 : decode (xB 210) 108 = .ok (.goto (-97), 3) := by decide +kernel
theorem d210_111 : decode (xB 210) 111 = .ok (.aload_n 0, 1) := by decide +kernel
theorem d210_112 : decode (xB 210) 112 = .ok (.getfield 44, 3) := by decide +kernel
theorem d210_115 : decode (xB 210) 115 = .ok (.iload 4, 2) := by decide +kernel
theorem d210_117 : decode (xB 210) 117 = .ok (.iaload, 1) := by decide +kernel
theorem d210_118 : decode (xB 210) 118 = .ok (.ineg, 1) := by decide +kernel
theorem d210_119 : decode (xB 210) 119 = .ok (.aload_n 0, 1) := by decide +kernel
theorem d210_120 : decode (xB 210) 120 = .ok (.getfield 44, 3) := by decide +kernel
theorem d210_123 : decode (xB 210) 123 = .ok (.iload 5, 2) := by decide +kernel
theorem d210_125 : decode (xB 210) 125 = .ok (.iaload, 1) := by decide +kernel
theorem d210_126 : decode (xB 210) 126 = .ok (.invokestatic 217, 3) := by decide +kernel
theorem d210_129 : decode (xB 210) 129 = .ok (.istore 6, 2) := by decide +kernel
theorem d210_131 : decode (xB 210) 131 = .ok (.aload_n 0, 1) := by decide +kernel
theorem d210_132 : decode (xB 210) 132 = .ok (.getfield 44, 3) := by decide +kernel
theorem d210_135 : decode (xB 210) 135 = .ok (.iload 4, 2) := by decide +kernel
theorem d210_137 : decode (xB 210) 137 = .ok (.dup2, 1) := by decide +kernel
theorem d210_138 : decode (xB 210) 138 = .ok (.iaload, 1) := by decide +kernel
theorem d210_139 : decode (xB 210) 139 = .ok (.iload 6, 2) := by decide +kernel
theorem d210_141 : decode (xB 210) 141 = .ok (.iadd, 1) := by decide +kernel
theorem d210_142 : decode (xB 210) 142 = .ok (.iastore, 1) := by decide +kernel
theorem d210_143 : decode (xB 210) 143 = .ok (.aload_n 0, 1) := by decide +kernel
theorem d210_144 : decode (xB 210) 144 = .ok (.getfield 44, 3) := by decide +kernel
theorem d210_147 : decode (xB 210) 147 = .ok (.iload 5, 2) := by decide +kernel
theorem d210_149 : decode (xB 210) 149 = .ok (.dup2, 1) := by decide +kernel
theorem d210_150 : decode (xB 210) 150 = .ok (.iaload, 1) := by decide +kernel
theorem d210_151 : decode (xB 210) 151 = .ok (.iload 6, 2) := by decide +kernel
theorem d210_153 : decode (xB 210) 153 = .ok (.isub, 1) := by decide +kernel
theorem d210_154 : decode (xB 210) 154 = .ok (.iastore, 1) := by decide +kernel
theorem d210_155 : decode (xB 210) 155 = .ok (.iload_n 2, 1) := by decide +kernel
theorem d210_156 : decode (xB 210) 156 = .ok (.iload 6, 2) := by decide +kernel
theorem d210_158 : decode (xB 210) 158 = .ok (.iadd, 1) := by decide +kernel
theorem d210_159 : decode (xB 210) 159 = .ok (.istore_n 2, 1) := by decide +kernel
theorem d210_160 : decode (xB 210) 160 = .ok (.iinc 1 1, 3) := by decide +kernel
theorem d210_163 : decode (xB 210) 163 = .ok (.goto (-152), 3) := by decide +kernel
theorem d210_166 : decode (xB 210) 166 = .ok (.aload_n 0, 1) := by decide +kernel
theorem d210_167 : decode (xB 210) 167 = .ok (.iconst 0, 1) := by decide +kernel
theorem d210_168 : decode (xB 210) 168 = .ok (.putfield 186, 3) := by decide +kernel
theorem d210_171 : decode (xB 210) 171 = .ok (.aload_n 0, 1) := by decide +kernel
theorem d210_172 : decode (xB 210) 172 = .ok (.iconst 0, 1) := by decide +kernel
theorem d210_173 : decode (xB 210) 173 = .ok (.putfield 124, 3) := by decide +kernel
theorem d210_176 : decode (xB 210) 176 = .ok (.aload_n 0, 1) := by decide +kernel
theorem d210_177 : decode (xB 210) 177 = .ok (.iload_n 2, 1) := by decide +kernel
theorem d210_178 : decode (xB 210) 178 = .ok (.invokevirtual 258, 3) := by decide +kernel
theorem d210_181 : decode (xB 210) 181 = .ok (.iload_n 1, 1) := by decide +kernel
theorem d210_182 : decode (xB 210) 182 = .ok (.ireturn, 1) := by decide +kernel
theorem b210_0 {d : Nat} {P : xPr} {Q : xQr} {r : Nat} {mem : Nat → Nat → Int32} (hP : Cl d none 210 P Q)
    (k : P 11 [.ref 108, .int (nI 0), .int (nI 0), .int (nI 1), .null, .null, .null] [] (0, 0) (LAY, RFu r, xu2 mem 108 20 (nI 0))) : P 0 [.ref 108, .null, .null, .null, .null, .null, .null] [] (0, 0) (LAY, RFu r, mem) := by
  refine r_aload_n hP d210_0 rfl ?_
  refine r_iconst (v := nI 0) hP d210_1 rfl ?_
  refine r_puti hP d210_2 fr_12_121 rfl (fun q => by cases q) ly_108 ?_
  refine r_iconst (v := nI 0) hP d210_5 rfl ?_
  refine r_istore_n (L' := [.ref 108, .int (nI 0), .null, .null, .null, .null, .null]) hP d210_6 (Nat.le_of_ble_eq_true rfl) rfl ?_
  refine r_iconst (v := nI 0) hP d210_7 rfl ?_
  refine r_istore_n (L' := [.ref 108, .int (nI 0), .int (nI 0), .null, .null, .null, .null]) hP d210_8 (Nat.le_of_ble_eq_true rfl) rfl ?_
  refine r_iconst (v := nI 1) hP d210_9 rfl ?_
  refine r_istore_n (L' := [.ref 108, .int (nI 0), .int (nI 0), .int (nI 1), .null, .null, .null]) hP d210_10 (Nat.le_of_ble_eq_true rfl) rfl ?_
  exact k
theorem b210_11 {d : Nat} {P : xPr} {Q : xQr} {r : Nat} {mem : Nat → Nat → Int32} (hP : Cl d none 210 P Q) {x1 : Int32} {x2 : Int32} {x3 : Int32} {v4 : Value} {v5 : Value} {v6 : Value}
    (kt : x3 = 0 → P 166 [.ref 108, .int x1, .int x2, .int x3, v4, v5, v6] [] (0, 0) (LAY, RFu r, mem)) (kf : ¬ x3 = 0 → P 15 [.ref 108, .int x1, .int x2, .int x3, v4, v5, v6] [] (0, 0) (LAY, RFu r, mem)) : P 11 [.ref 108, .int x1, .int x2, .int x3, v4, v5, v6] [] (0, 0) (LAY, RFu r, mem) := by
  refine r_iload_n hP d210_11 rfl ?_
  exact r_if (t := 166) hP d210_12 (by decide) kt kf
theorem b210_15 {d : Nat} {P : xPr} {Q : xQr} {r : Nat} {mem : Nat → Nat → Int32} (hP : Cl d none 210 P Q) {x1 : Int32} {x2 : Int32} {v3 : Value} {v4 : Value} {v5 : Value} {v6 : Value}
    (k : P 24 [.ref 108, .int x1, .int x2, v3, .int (nI 0), .int (nI 0), .int (nI 0)] [] (0, 0) (LAY, RFu r, mem)) : P 15 [.ref 108, .int x1, .int x2, v3, v4, v5, v6] [] (0, 0) (LAY, RFu r, mem) := by
  refine r_iconst (v := nI 0) hP d210_15 rfl ?_
  refine r_istore (L' := [.ref 108, .int x1, .int x2, v3, .int (nI 0), v5, v6]) hP d210_16 (Nat.le_of_ble_eq_true rfl) rfl ?_
  refine r_iconst (v := nI 0) hP d210_18 rfl ?_
  refine r_istore (L' := [.ref 108, .int x1, .int x2, v3, .int (nI 0), .int (nI 0), v6]) hP d210_19 (Nat.le_of_ble_eq_true rfl) rfl ?_
  refine r_iconst (v := nI 0) hP d210_21 rfl ?_
  refine r_istore (L' := [.ref 108, .int x1, .int x2, v3, .int (nI 0), .int (nI 0), .int (nI 0)]) hP d210_22 (Nat.le_of_ble_eq_true rfl) rfl ?_
  exact k
theorem b210_24 {d : Nat} {P : xPr} {Q : xQr} {r : Nat} {mem : Nat → Nat → Int32} (hP : Cl d none 210 P Q) {x1 : Int32} {x2 : Int32} {v3 : Value} {x4 : Int32} {x5 : Int32} {x6 : Int32}
    (kt : (mem 108 2) ≤ x6 → P 81 [.ref 108, .int x1, .int x2, v3, .int x4, .int x5, .int x6] [] (0, 0) (LAY, RFu r, mem)) (kf : ¬ (mem 108 2) ≤ x6 → P 33 [.ref 108, .int x1, .int x2, v3, .int x4, .int x5, .int x6] [] (0, 0) (LAY, RFu r, mem)) : P 24 [.ref 108, .int x1, .int x2, v3, .int x4, .int x5, .int x6] [] (0, 0) (LAY, RFu r, mem) := by
  refine r_iload hP d210_24 rfl ?_
  refine r_aload_n hP d210_26 rfl ?_
  refine r_geti hP d210_27 fr_12_127 rfl ly_108 ?_
  exact r_icmp (t := 81) hP d210_30 (by decide) kt kf
theorem b210_33 {d : Nat} {P : xPr} {Q : xQr} {r : Nat} {mem : Nat → Nat → Int32} (hP : Cl d none 210 P Q) {x1 : Int32} {x2 : Int32} {v3 : Value} {x4 : Int32} {x5 : Int32} {x6 : Int32} (hi39 : vp_in x6 8) (hi46 : vp_in x4 8)
    (kt : (mem 120 x4.toNatClampNeg) ≤ (mem 120 x6.toNatClampNeg) → P 54 [.ref 108, .int x1, .int x2, v3, .int x4, .int x5, .int x6] [] (0, 0) (LAY, RFu r, mem)) (kf : ¬ (mem 120 x4.toNatClampNeg) ≤ (mem 120 x6.toNatClampNeg) → P 50 [.ref 108, .int x1, .int x2, v3, .int x4, .int x5, .int x6] [] (0, 0) (LAY, RFu r, mem)) : P 33 [.ref 108, .int x1, .int x2, v3, .int x4, .int x5, .int x6] [] (0, 0) (LAY, RFu r, mem) := by
  refine r_aload_n hP d210_33 rfl ?_
  refine r_getr (a := 120) hP d210_34 fr_12_44 rfl ly_108 rg_108_13 ?_
  refine r_iload hP d210_37 rfl ?_
  refine r_iaload hP d210_39 ly_120 hi39 ?_
  refine r_aload_n hP d210_40 rfl ?_
  refine r_getr (a := 120) hP d210_41 fr_12_44 rfl ly_108 rg_108_13 ?_
  refine r_iload hP d210_44 rfl ?_
  refine r_iaload hP d210_46 ly_120 hi46 ?_
  exact r_icmp (t := 54) hP d210_47 (by decide) kt kf
theorem b210_50 {d : Nat} {P : xPr} {Q : xQr} {r : Nat} {mem : Nat → Nat → Int32} (hP : Cl d none 210 P Q) {x1 : Int32} {x2 : Int32} {v3 : Value} {v4 : Value} {x5 : Int32} {x6 : Int32}
    (k : P 54 [.ref 108, .int x1, .int x2, v3, .int x6, .int x5, .int x6] [] (0, 0) (LAY, RFu r, mem)) : P 50 [.ref 108, .int x1, .int x2, v3, v4, .int x5, .int x6] [] (0, 0) (LAY, RFu r, mem) := by
  refine r_iload hP d210_50 rfl ?_
  refine r_istore (L' := [.ref 108, .int x1, .int x2, v3, .int x6, .int x5, .int x6]) hP d210_52 (Nat.le_of_ble_eq_true rfl) rfl ?_
  exact k
theorem b210_54 {d : Nat} {P : xPr} {Q : xQr} {r : Nat} {mem : Nat → Nat → Int32} (hP : Cl d none 210 P Q) {x1 : Int32} {x2 : Int32} {v3 : Value} {x4 : Int32} {x5 : Int32} {x6 : Int32} (hi60 : vp_in x6 8) (hi67 : vp_in x5 8)
    (kt : (mem 120 x6.toNatClampNeg) ≤ (mem 120 x5.toNatClampNeg) → P 75 [.ref 108, .int x1, .int x2, v3, .int x4, .int x5, .int x6] [] (0, 0) (LAY, RFu r, mem)) (kf : ¬ (mem 120 x6.toNatClampNeg) ≤ (mem 120 x5.toNatClampNeg) → P 71 [.ref 108, .int x1, .int x2, v3, .int x4, .int x5, .int x6] [] (0, 0) (LAY, RFu r, mem)) : P 54 [.ref 108, .int x1, .int x2, v3, .int x4, .int x5, .int x6] [] (0, 0) (LAY, RFu r, mem) := by
  refine r_aload_n hP d210_54 rfl ?_
  refine r_getr (a := 120) hP d210_55 fr_12_44 rfl ly_108 rg_108_13 ?_
  refine r_iload hP d210_58 rfl ?_
  refine r_iaload hP d210_60 ly_120 hi60 ?_
  refine r_aload_n hP d210_61 rfl ?_
  refine r_getr (a := 120) hP d210_62 fr_12_44 rfl ly_108 rg_108_13 ?_
  refine r_iload hP d210_65 rfl ?_
  refine r_iaload hP d210_67 ly_120 hi67 ?_
  exact r_icmp (t := 75) hP d210_68 (by decide) kt kf
theorem b210_71 {d : Nat} {P : xPr} {Q : xQr} {r : Nat} {mem : Nat → Nat → Int32} (hP : Cl d none 210 P Q) {x1 : Int32} {x2 : Int32} {v3 : Value} {x4 : Int32} {v5 : Value} {x6 : Int32}
    (k : P 75 [.ref 108, .int x1, .int x2, v3, .int x4, .int x6, .int x6] [] (0, 0) (LAY, RFu r, mem)) : P 71 [.ref 108, .int x1, .int x2, v3, .int x4, v5, .int x6] [] (0, 0) (LAY, RFu r, mem) := by
  refine r_iload hP d210_71 rfl ?_
  refine r_istore (L' := [.ref 108, .int x1, .int x2, v3, .int x4, .int x6, .int x6]) hP d210_73 (Nat.le_of_ble_eq_true rfl) rfl ?_
  exact k
theorem b210_75 {d : Nat} {P : xPr} {Q : xQr} {r : Nat} {mem : Nat → Nat → Int32} (hP : Cl d none 210 P Q) {x1 : Int32} {x2 : Int32} {v3 : Value} {x4 : Int32} {x5 : Int32} {x6 : Int32}
    (k : P 24 [.ref 108, .int x1, .int x2, v3, .int x4, .int x5, .int (x6 + nI 1)] [] (0, 0) (LAY, RFu r, mem)) : P 75 [.ref 108, .int x1, .int x2, v3, .int x4, .int x5, .int x6] [] (0, 0) (LAY, RFu r, mem) := by
  refine r_iinc (v := nI 1) (L' := [.ref 108, .int x1, .int x2, v3, .int x4, .int x5, .int (x6 + nI 1)]) hP d210_75 rfl rfl rfl ?_
  refine r_goto (t := 24) hP d210_78 (by decide) ?_
  exact k
theorem b210_81 {d : Nat} {P : xPr} {Q : xQr} {r : Nat} {mem : Nat → Nat → Int32} (hP : Cl d none 210 P Q) {x1 : Int32} {x2 : Int32} {v3 : Value} {x4 : Int32} {x5 : Int32} {v6 : Value}
    (kt : (mem 108 2) ≤ 0 → P 102 [.ref 108, .int x1, .int x2, v3, .int x4, .int x5, v6] [] (0, 0) (LAY, RFu r, mem)) (kf : ¬ (mem 108 2) ≤ 0 → P 88 [.ref 108, .int x1, .int x2, v3, .int x4, .int x5, v6] [] (0, 0) (LAY, RFu r, mem)) : P 81 [.ref 108, .int x1, .int x2, v3, .int x4, .int x5, v6] [] (0, 0) (LAY, RFu r, mem) := by
  refine r_aload_n hP d210_81 rfl ?_
  refine r_geti hP d210_82 fr_12_127 rfl ly_108 ?_
  exact r_if (t := 102) hP d210_85 (by decide) kt kf
theorem b210_88 {d : Nat} {P : xPr} {Q : xQr} {r : Nat} {mem : Nat → Nat → Int32} (hP : Cl d none 210 P Q) {x1 : Int32} {x2 : Int32} {v3 : Value} {x4 : Int32} {x5 : Int32} {v6 : Value} (hi94 : vp_in x4 8)
    (kt : 0 ≤ (mem 120 x4.toNatClampNeg) → P 102 [.ref 108, .int x1, .int x2, v3, .int x4, .int x5, v6] [] (0, 0) (LAY, RFu r, mem)) (kf : ¬ 0 ≤ (mem 120 x4.toNatClampNeg) → P 98 [.ref 108, .int x1, .int x2, v3, .int x4, .int x5, v6] [] (0, 0) (LAY, RFu r, mem)) : P 88 [.ref 108, .int x1, .int x2, v3, .int x4, .int x5, v6] [] (0, 0) (LAY, RFu r, mem) := by
  refine r_aload_n hP d210_88 rfl ?_
  refine r_getr (a := 120) hP d210_89 fr_12_44 rfl ly_108 rg_108_13 ?_
  refine r_iload hP d210_92 rfl ?_
  refine r_iaload hP d210_94 ly_120 hi94 ?_
  exact r_if (t := 102) hP d210_95 (by decide) kt kf
theorem b210_98 {d : Nat} {P : xPr} {Q : xQr} {r : Nat} {mem : Nat → Nat → Int32} (hP : Cl d none 210 P Q) {x1 : Int32} {x2 : Int32} {v3 : Value} {x4 : Int32} {x5 : Int32} {v6 : Value}
    (k : P 103 [.ref 108, .int x1, .int x2, v3, .int x4, .int x5, v6] [.int (nI 1)] (0, 0) (LAY, RFu r, mem)) : P 98 [.ref 108, .int x1, .int x2, v3, .int x4, .int x5, v6] [] (0, 0) (LAY, RFu r, mem) := by
  refine r_iconst (v := nI 1) hP d210_98 rfl ?_
  refine r_goto (t := 103) hP d210_99 (by decide) ?_
  exact k
theorem b210_102 {d : Nat} {P : xPr} {Q : xQr} {r : Nat} {mem : Nat → Nat → Int32} (hP : Cl d none 210 P Q) {x1 : Int32} {x2 : Int32} {v3 : Value} {x4 : Int32} {x5 : Int32} {v6 : Value}
    (k : P 103 [.ref 108, .int x1, .int x2, v3, .int x4, .int x5, v6] [.int (nI 0)] (0, 0) (LAY, RFu r, mem)) : P 102 [.ref 108, .int x1, .int x2, v3, .int x4, .int x5, v6] [] (0, 0) (LAY, RFu r, mem) := by
  refine r_iconst (v := nI 0) hP d210_102 rfl ?_
  exact k
theorem b210_103 {d : Nat} {P : xPr} {Q : xQr} {r : Nat} {mem : Nat → Nat → Int32} (hP : Cl d none 210 P Q) {x1 : Int32} {x2 : Int32} {v3 : Value} {x4 : Int32} {x5 : Int32} {v6 : Value} {y0 : Int32}
    (kt : ¬ y0 = 0 → P 111 [.ref 108, .int x1, .int x2, .int y0, .int x4, .int x5, v6] [] (0, 0) (LAY, RFu r, mem)) (kf : y0 = 0 → P 108 [.ref 108, .int x1, .int x2, .int y0, .int x4, .int x5, v6] [] (0, 0) (LAY, RFu r, mem)) : P 103 [.ref 108, .int x1, .int x2, v3, .int x4, .int x5, v6] [.int y0] (0, 0) (LAY, RFu r, mem) := by
  refine r_istore_n (L' := [.ref 108, .int x1, .int x2, .int y0, .int x4, .int x5, v6]) hP d210_103 (Nat.le_of_ble_eq_true rfl) rfl ?_
  refine r_iload_n hP d210_104 rfl ?_
  exact r_if (t := 111) hP d210_105 (by decide) kt (fun q => kf (Decidable.of_not_not q))
theorem b210_108 {d : Nat} {P : xPr} {Q : xQr} {r : Nat} {mem : Nat → Nat → Int32} (hP : Cl d none 210 P Q) {x1 : Int32} {x2 : Int32} {x3 : Int32} {v4 : Value} {v5 : Value} {v6 : Value}
    (k : P 11 [.ref 108, .int x1, .int x2, .int x3, v4, v5, v6] [] (0, 0) (LAY, RFu r, mem)) : P 108 [.ref 108, .int x1, .int x2, .int x3, v4, v5, v6] [] (0, 0) (LAY, RFu r, mem) := by
  refine r_goto (t := 11) hP d210_108 (by decide) ?_
  exact k
theorem b210_111 {d : Nat} {P : xPr} {Q : xQr} {r : Nat} {mem : Nat → Nat → Int32} (hP : Cl d none 210 P Q) {x1 : Int32} {x2 : Int32} {x3 : Int32} {x4 : Int32} {x5 : Int32} {v6 : Value} (hi117 : vp_in x4 8) (hi125 : vp_in x5 8) (hi138 : vp_in x4 8) (hi142 : vp_in x4 8) (hi150 : vp_in x5 8) (hi154 : vp_in x5 8)
    (k : P 11 [.ref 108, .int (x1 + nI 1), .int (x2 + (if mem 120 x5.toNatClampNeg < -(mem 120 x4.toNatClampNeg) then mem 120 x5.toNatClampNeg else -(mem 120 x4.toNatClampNeg))), .int x3, .int x4, .int x5, .int (if mem 120 x5.toNatClampNeg < -(mem 120 x4.toNatClampNeg) then mem 120 x5.toNatClampNeg else -(mem 120 x4.toNatClampNeg))] [] (0, 0) (LAY, RFu r, xu2 (xu2 mem 120 x4.toNatClampNeg ((mem 120 x4.toNatClampNeg) + (if mem 120 x5.toNatClampNeg < -(mem 120 x4.toNatClampNeg) then mem 120 x5.toNatClampNeg else -(mem 120 x4.toNatClampNeg)))) 120 x5.toNatClampNeg (((xu2 mem 120 x4.toNatClampNeg ((mem 120 x4.toNatClampNeg) + (if mem 120 x5.toNatClampNeg < -(mem 120 x4.toNatClampNeg) then mem 120 x5.toNatClampNeg else -(mem 120 x4.toNatClampNeg)))) 120 x5.toNatClampNeg) - (if mem 120 x5.toNatClampNeg < -(mem 120 x4.toNatClampNeg) then mem 120 x5.toNatClampNeg else -(mem 120 x4.toNatClampNeg))))) : P 111 [.ref 108, .int x1, .int x2, .int x3, .int x4, .int x5, v6] [] (0, 0) (LAY, RFu r, mem) := by
  refine r_aload_n hP d210_111 rfl ?_
  refine r_getr (a := 120) hP d210_112 fr_12_44 rfl ly_108 rg_108_13 ?_
  refine r_iload hP d210_115 rfl ?_
  refine r_iaload hP d210_117 ly_120 hi117 ?_
  refine r_ineg hP d210_118 ?_
  refine r_aload_n hP d210_119 rfl ?_
  refine r_getr (a := 120) hP d210_120 fr_12_44 rfl ly_108 rg_108_13 ?_
  refine r_iload hP d210_123 rfl ?_
  refine r_iaload hP d210_125 ly_120 hi125 ?_
  refine r_min hP d210_126 cr_12_217 (by decide) ?_
  refine r_istore (L' := [.ref 108, .int x1, .int x2, .int x3, .int x4, .int x5, .int (if mem 120 x5.toNatClampNeg < -(mem 120 x4.toNatClampNeg) then mem 120 x5.toNatClampNeg else -(mem 120 x4.toNatClampNeg))]) hP d210_129 (Nat.le_of_ble_eq_true rfl) rfl ?_
  refine r_aload_n hP d210_131 rfl ?_
  refine r_getr (a := 120) hP d210_132 fr_12_44 rfl ly_108 rg_108_13 ?_
  refine r_iload hP d210_135 rfl ?_
  refine r_dup2 hP d210_137 rfl rfl ?_
  refine r_iaload hP d210_138 ly_120 hi138 ?_
  refine r_iload hP d210_139 rfl ?_
  refine r_iadd hP d210_141 ?_
  refine r_iastore hP d210_142 ly_120 hi142 ?_
  refine r_aload_n hP d210_143 rfl ?_
  refine r_getr (a := 120) hP d210_144 fr_12_44 rfl ly_108 rg_108_13 ?_
  refine r_iload hP d210_147 rfl ?_
  refine r_dup2 hP d210_149 rfl rfl ?_
  refine r_iaload hP d210_150 ly_120 hi150 ?_
  refine r_iload hP d210_151 rfl ?_
  refine r_isub hP d210_153 ?_
  refine r_iastore hP d210_154 ly_120 hi154 ?_
  refine r_iload_n hP d210_155 rfl ?_
  refine r_iload hP d210_156 rfl ?_
  refine r_iadd hP d210_158 ?_
  refine r_istore_n (L' := [.ref 108, .int x1, .int (x2 + (if mem 120 x5.toNatClampNeg < -(mem 120 x4.toNatClampNeg) then mem 120 x5.toNatClampNeg else -(mem 120 x4.toNatClampNeg))), .int x3, .int x4, .int x5, .int (if mem 120 x5.toNatClampNeg < -(mem 120 x4.toNatClampNeg) then mem 120 x5.toNatClampNeg else -(mem 120 x4.toNatClampNeg))]) hP d210_159 (Nat.le_of_ble_eq_true rfl) rfl ?_
  refine r_iinc (v := nI 1) (L' := [.ref 108, .int (x1 + nI 1), .int (x2 + (if mem 120 x5.toNatClampNeg < -(mem 120 x4.toNatClampNeg) then mem 120 x5.toNatClampNeg else -(mem 120 x4.toNatClampNeg))), .int x3, .int x4, .int x5, .int (if mem 120 x5.toNatClampNeg < -(mem 120 x4.toNatClampNeg) then mem 120 x5.toNatClampNeg else -(mem 120 x4.toNatClampNeg))]) hP d210_160 rfl rfl rfl ?_
  refine r_goto (t := 11) hP d210_163 (by decide) ?_
  exact k
theorem b210_166 {d : Nat} {P : xPr} {Q : xQr} {r : Nat} {mem : Nat → Nat → Int32} (hP : Cl d none 210 P Q) {x1 : Int32} {x2 : Int32} {v3 : Value} {v4 : Value} {v5 : Value} {v6 : Value}
    (k : xCall d 161 [.ref 108, .int x2] (LAY, RFu r, xu2 (xu2 mem 108 37 (nI 0)) 108 19 (nI 0)) (Bk P 178 [.ref 108, .int x1, .int x2, v3, v4, v5, v6] [] (0, 0))) : P 166 [.ref 108, .int x1, .int x2, v3, v4, v5, v6] [] (0, 0) (LAY, RFu r, mem) := by
  refine r_aload_n hP d210_166 rfl ?_
  refine r_iconst (v := nI 0) hP d210_167 rfl ?_
  refine r_puti hP d210_168 fr_12_186 rfl (fun q => by cases q) ly_108 ?_
  refine r_aload_n hP d210_171 rfl ?_
  refine r_iconst (v := nI 0) hP d210_172 rfl ?_
  refine r_puti hP d210_173 fr_12_124 rfl (fun q => by cases q) ly_108 ?_
  refine r_aload_n hP d210_176 rfl ?_
  refine r_iload_n hP d210_177 rfl ?_
  exact r_callv (As := [.int x2]) (S := []) hP d210_178 cr_12_258 (by decide +kernel) rfl (by simp [Value.category]) rfl ly_108 (by simp [Value.category]) ⟨Nat.zero_le _, Nat.zero_le _⟩ k
theorem b210_181 {d : Nat} {P : xPr} {Q : xQr} {r : Nat} {mem : Nat → Nat → Int32} (hP : Cl d none 210 P Q) {v0 : Value} {x1 : Int32} {v2 : Value} {v3 : Value} {v4 : Value} {v5 : Value} {v6 : Value}
    (k : Q (some (.int x1)) (LAY, RFu r, mem)) : P 181 [v0, .int x1, v2, v3, v4, v5, v6] [] (0, 0) (LAY, RFu r, mem) := by
  refine r_iload_n hP d210_181 rfl ?_
  exact r_iret hP d210_182 rfl k
theorem d211_0 : decode (xB 211) 0 = .ok (.aload_n 0, 1) := by decide +kernel
theorem d211_1 : decode (xB 211) 1 = .ok (.iconst 0, 1) := by decide +kernel
theorem d211_2 : decode (xB 211) 2 = .ok (.putfield 121, 3) := by decide +kernel
theorem d211_5 : decode (xB 211) 5 = .ok (.aload_n 0, 1) := by decide +kernel
theorem d211_6 : decode (xB 211) 6 = .ok (.iload_n 1, 1) := by decide +kernel
theorem d211_7 : decode (xB 211) 7 = .ok (.invokevirtual 134, 3) := by decide +kernel
theorem d211_10 : decode (xB 211) 10 = .ok (.ifCond .eq 12, 3) := by decide +kernel
theorem d211_13 : decode (xB 211) 13 = .ok (.iload_n 2, 1) := by decide +kernel
theorem d211_14 : decode (xB 211) 14 = .ok (.iconst 0, 1) := by decide +kernel
theorem d211_15 : decode (xB 211) 15 = .ok (.iconst 5, 1) := by decide +kernel
theorem d211_16 : decode (xB 211) 16 = .ok (.invokestatic 130, 3) := by decide +kernel
theorem d211_19 : decode (xB 211) 19 = .ok (.ifCond .ne 5, 3) := by decide +kernel
theorem d211_22 : decode (xB 211) 22 = .ok (.iconst (-1), 1) := by decide +kernel
theorem d211_23 : decode (xB 211) 23 = .ok (.ireturn, 1) := by decide +kernel
theorem d211_24 : decode (xB 211) 24 = .ok (.aload_n 0, 1) := by decide +kernel
theorem d211_25 : decode (xB 211) 25 = .ok (.getfield 138, 3) := by decide +kernel
theorem d211_28 : decode (xB 211) 28 = .ok (.ifCond .ne 6, 3) := by decide +kernel
theorem d211_31 : decode (xB 211) 31 = .ok (.bipush (-2), 2) := by decide +kernel
theorem d211_33 : decode (xB 211) 33 = .ok (.ireturn, 1) := by decide +kernel
theorem d211_34 : decode (xB 211) 34 = .ok (.aload_n 0, 1) := by decide +kernel
theorem d211_35 : decode (xB 211) 35 = .ok (.aload_n 0, 1) := by decide +kernel
theorem d211_36 : decode (xB 211) 36 = .ok (.getfield 87, 3) := by decide +kernel
theorem d211_39 : decode (xB 211) 39 = .ok (.iconst 0, 1) := by decide +kernel
theorem d211_40 : decode (xB 211) 40 = .ok (.invokevirtual 245, 3) := by decide +kernel
theorem d211_43 : decode (xB 211) 43 = .ok (.iconst 1, 1) := by decide +kernel
theorem d211_44 : decode (xB 211) 44 = .ok (.istore_n 3, 1) := by decide +kernel
theorem d211_45 : decode (xB 211) 45 = .ok (.iconst 0, 1) := by decide +kernel
theorem d211_46 : decode (xB 211) 46 = .ok (.istore 4, 2) := by decide +kernel
theorem d211_48 : decode (xB 211) 48 = .ok (.iload 4, 2) := by decide +kernel
theorem d211_50 : decode (xB 211) 50 = .ok (.iload_n 2, 1) := by decide +kernel
theorem d211_51 : decode (xB 211) 51 = .ok (.if_icmp .ge 16, 3) := by decide +kernel
theorem d211_54 : decode (xB 211) 54 = .ok (.iload_n 3, 1) := by decide +kernel
theorem d211_55 : decode (xB 211) 55 = .ok (.aload_n 0, 1) := by decide +kernel
theorem d211_56 : decode (xB 211) 56 = .ok (.getfield 138, 3) := by decide +kernel
theorem d211_59 : decode (xB 211) 59 = .ok (.imul, 1) := by decide +kernel
theorem d211_60 : decode (xB 211) 60 = .ok (.istore_n 3, 1) := by decide +kernel
theorem d211_61 : decode (xB 211) 61 = .ok (.iinc 4 1, 3) := by decide +kernel
theorem d211_64 : decode (xB 211) 64 = .ok (.goto (-16), 3) := by decide +kernel
theorem d211_67 : decode (xB 211) 67 = .ok (.iconst 0, 1) := by decide +kernel
theorem d211_68 : decode (xB 211) 68 = .ok (.istore 4, 2) := by decide +kernel
theorem d211_70 : decode (xB 211) 70 = .ok (.sipush 500, 3) := by decide +kernel
theorem d211_73 : decode (xB 211) 73 = .ok (.istore 5, 2) := by decide +kernel
theorem d211_75 : decode (xB 211) 75 = .ok (.iconst 0, 1) := by decide +kernel
theorem d211_76 : decode (xB 211) 76 = .ok (.istore 6, 2) := by decide +kernel
theorem d211_78 : decode (xB 211) 78 = .ok (.iload 6, 2) := by decide +kernel
theorem d211_80 : decode (xB 211) 80 = .ok (.iload_n 3, 1) := by decide +kernel
theorem d211_81 : decode (xB 211) 81 = .ok (.if_icmp .ge 105, 3) := by decide +kernel
theorem d211_84 : decode (xB 211) 84 = .ok (.iconst 0, 1) := by decide +kernel
theorem d211_85 : decode (xB 211) 85 = .ok (.istore 7, 2) := by decide +kernel
theorem d211_87 : decode (xB 211) 87 = .ok (.iload_n 3, 1) := by decide +kernel
theorem d211_88 : decode (xB 211) 88 = .ok (.istore 8, 2) := by decide +kernel
theorem d211_90 : decode (xB 211) 90 = .ok (.iconst 0, 1) := by decide +kernel
theorem d211_91 : decode (xB 211) 91 = .ok (.istore 9, 2) := by decide +kernel
theorem d211_93 : decode (xB 211) 93 = .ok (.iload 9, 2) := by decide +kernel
theorem d211_95 : decode (xB 211) 95 = .ok (.iload_n 2, 1) := by decide +kernel
theorem d211_96 : decode (xB 211) 96 = .ok (.if_icmp .ge 57, 3) := by decide +kernel
theorem d211_99 : decode (xB 211) 99 = .ok (.iload 8, 2) := by decide +kernel
theorem d211_101 : decode (xB 211) 101 = .ok (.aload_n 0, 1) := by decide +kernel
theorem d211_102 : decode (xB 211) 102 = .ok (.getfield 138, 3) := by decide +kernel
theorem d211_105 : decode (xB 211) 105 = .ok (.idiv, 1) := by decide +kernel
theorem d211_106 : decode (xB 211) 106 = .ok (.istore 8, 2) := by decide +kernel
theorem d211_108 : decode (xB 211) 108 = .ok (.aload_n 0, 1) := by decide +kernel
theorem d211_109 : decode (xB 211) 109 = .ok (.getfield 69, 3) := by decide +kernel
theorem d211_112 : decode (xB 211) 112 = .ok (.iload_n 1, 1) := by decide +kernel
theorem d211_113 : decode (xB 211) 113 = .ok (.iload 6, 2) := by decide +kernel
theorem d211_115 : decode (xB 211) 115 = .ok (.iload 8, 2) := by decide +kernel
theorem d211_117 : decode (xB 211) 117 = .ok (.idiv, 1) := by decide +kernel
theorem d211_118 : decode (xB 211) 118 = .ok (.aload_n 0, 1) := by decide +kernel
theorem d211_119 : decode (xB 211) 119 = .ok (.getfield 138, 3) := by decide +kernel
theorem d211_122 : decode (xB 211) 122 = .ok (.irem, 1) := by decide +kernel
theorem d211_123 : decode (xB 211) 123 = .ok (.iastore, 1) := by decide +kernel
theorem d211_124 : decode (xB 211) 124 = .ok (.aload_n 0, 1) := by decide +kernel
theorem d211_125 : decode (xB 211) 125 = .ok (.invokevirtual 252, 3) := by decide +kernel
theorem d211_128 : decode (xB 211) 128 = .ok (.pop, 1) := by decide +kernel
theorem d211_129 : decode (xB 211) 129 = .ok (.iload 7, 2) := by decide +kernel
theorem d211_131 : decode (xB 211) 131 = .ok (.aload_n 0, 1) := by decide +kernel
theorem d211_132 : decode (xB 211) 132 = .ok (.iload_n 1, 1) := by decide +kernel
theorem d211_133 : decode (xB 211) 133 = .ok (.invokevirtual 255, 3) := by decide +kernel
theorem d211_136 : decode (xB 211) 136 = .ok (.ifCond .eq 7, 3) := by decide +kernel
theorem d211_139 : decode (xB 211) 139 = .ok (.iconst 1, 1) := by decide +kernel
theorem d211_140 : decode (xB 211) 140 = .ok (.goto 4, 3) := by decide +kernel
theorem d211_143 : decode (xB 211) 143 = .ok (.iconst 0, 1) := by decide +kernel
theorem d211_144 : decode (xB 211) 144 = .ok (.iadd, 1) := by decide +kernel
theorem d211_145 : decode (xB 211) 145 = .ok (.istore 7, 2) := by decide +kernel
theorem d211_147 : decode (xB 211) 147 = .ok (.iinc 9 1, 3) := by decide +kernel
theorem d211_150 : decode (xB 211) 150 = .ok (.goto (-57), 3) := by decide +kernel
theorem d211_153 : decode (xB 211) 153 = .ok (.aload_n 0, 1) := by decide +kernel
theorem d211_154 : decode (xB 211) 154 = .ok (.aload_n 0, 1) := by decide +kernel
theorem d211_155 : decode (xB 211) 155 = .ok (.getfield 87, 3) := by decide +kernel
theorem d211_158 : decode (xB 211) 158 = .ok (.iconst 0, 1) := by decide +kernel
theorem d211_159 : decode (xB 211) 159 = .ok (.invokevirtual 261, 3) := by decide +kernel
theorem d211_162 : decode (xB 211) 162 = .ok (.iload 7, 2) := by decide +kernel
theorem d211_164 : decode (xB 211) 164 = .ok (.iload 5, 2) := by decide +kernel
theorem d211_166 : decode (xB 211) 166 = .ok (.if_icmp .lt 6, 3) := by decide +kernel
theorem d211_169 : decode (xB 211) 169 = .ok (.goto 11, 3) := by decide +kernel
theorem d211_172 : decode (xB 211) 172 = .ok (.iload 6, 2) := by decide +kernel
theorem d211_174 : decode (xB 211) 174 = .ok (.istore 4, 2) := by decide +kernel
theorem d211_176 : decode (xB 211) 176 = .ok (.iload 7, 2) := by decide +kernel
theorem d211_178 : decode (xB 211) 178 = .ok (.istore 5, 2) := by decide +kernel
theorem d211_180 : decode (xB 211) 180 = .ok (.iinc 6 1, 3) := by decide +kernel
theorem d211_183 : decode (xB 211) 183 = .ok (.goto (-105), 3) := by decide +kernel
theorem d211_186 : decode (xB 211) 186 = .ok (.aload_n 0, 1) := by decide +kernel
theorem d211_187 : decode (xB 211) 187 = .ok (.getfield 69, 3) := by decide +kernel
theorem d211_190 : decode (xB 211) 190 = .ok (.iload_n 1, 1) := by decide +kernel
theorem d211_191 : decode (xB 211) 191 = .ok (.bipush 99, 2) := by decide +kernel
theorem d211_193 : decode (xB 211) 193 = .ok (.iastore, 1) := by decide +kernel
theorem d211_194 : decode (xB 211) 194 = .ok (.aload_n 0, 1) := by decide +kernel
theorem d211_195 : decode (xB 211) 195 = .ok (.iconst 0, 1) := by decide +kernel
theorem d211_196 : decode (xB 211) 196 = .ok (.putfield 124, 3) := by decide +kernel
theorem d211_199 : decode (xB 211) 199 = .ok (.iload_n 3, 1) := by decide +kernel
theorem d211_200 : decode (xB 211) 200 = .ok (.istore 6, 2) := by decide +kernel
theorem d211_202 : decode (xB 211) 202 = .ok (.iconst 0, 1) := by decide +kernel
theorem d211_203 : decode (xB 211) 203 = .ok (.istore 7, 2) := by decide +kernel
theorem d211_205 : decode (xB 211) 205 = .ok (.iload 7, 2) := by decide +kernel
theorem d211_207 : decode (xB 211) 207 = .ok (.iload_n 2, 1) := by decide +kernel
theorem d211_208 : decode (xB 211) 208 = .ok (.if_icmp .ge 32, 3) := by decide +kernel
theorem d211_211 : decode (xB 211) 211 = .ok (.iload 6, 2) := by decide +kernel
theorem d211_213 : decode (xB 211) 213 = .ok (.aload_n 0, 1) := by decide +kernel
theorem d211_214 : decode (xB 211) 214 = .ok (.getfield 138, 3) := by decide +kernel
theorem d211_217 : decode (xB 211) 217 = .ok (.idiv, 1) := by decide +kernel
theorem d211_218 : decode (xB 211) 218 = .ok (.istore 6, 2) := by decide +kernel
theorem d211_220 : decode (xB 211) 220 = .ok (.aload_n 0, 1) := by decide +kernel
theorem d211_221 : decode (xB 211) 221 = .ok (.iload 4, 2) := by decide +kernel
theorem d211_223 : decode (xB 211) 223 = .ok (.iload 6, 2) := by decide +kernel
theorem d211_225 : decode (xB 211) 225 = .ok (.idiv, 1) := by decide +kernel
theorem d211_226 : decode (xB 211) 226 = .ok (.aload_n 0, 1) := by decide +kernel
theorem d211_227 : decode (xB 211) 227 = .ok (.getfield 138, 3) := by decide +kernel
theorem d211_230 : decode (xB 211) 230 = .ok (.irem, 1) := by decide +kernel
theorem d211_231 : decode (xB 211) 231 = .ok (.invokevirtual 258, 3) := by decide +kernel
theorem d211_234 : decode (xB 211) 234 = .ok (.iinc 7 1, 3) := by decide +kernel
theorem d211_237 : decode (xB 211) 237 = .ok (.goto (-32), 3) := by decide +kernel
theorem d211_240 : decode (xB 211) 240 = .ok (.iload 5, 2) := by decide +kernel
theorem d211_242 : decode (xB 211) 242 = .ok (.ireturn, 1) := by decide +kernel
theorem b211_0 {d : Nat} {P : xPr} {Q : xQr} {r : Nat} {mem : Nat → Nat → Int32} (hP : Cl d none 211 P Q) {p0 : Int32} {p1 : Int32}
    (k : xCall d 162 [.ref 108, .int p0] (LAY, RFu r, xu2 mem 108 20 (nI 0)) (Bk P 7 [.ref 108, .int p0, .int p1, .null, .null, .null, .null, .null, .null, .null] [] (0, 0))) : P 0 [.ref 108, .int p0, .int p1, .null, .null, .null, .null, .null, .null, .null] [] (0, 0) (LAY, RFu r, mem) := by
  refine r_aload_n hP d211_0 rfl ?_
  refine r_iconst (v := nI 0) hP d211_1 rfl ?_
  refine r_puti hP d211_2 fr_12_121 rfl (fun q => by cases q) ly_108 ?_
  refine r_aload_n hP d211_5 rfl ?_
  refine r_iload_n hP d211_6 rfl ?_
  exact r_callv (As := [.int p0]) (S := []) hP d211_7 cr_12_134 (by decide +kernel) rfl (by simp [Value.category]) rfl ly_108 (by simp [Value.category]) ⟨Nat.zero_le _, Nat.zero_le _⟩ k
theorem b211_10 {d : Nat} {P : xPr} {Q : xQr} {r : Nat} {mem : Nat → Nat → Int32} (hP : Cl d none 211 P Q) {x1 : Int32} {x2 : Int32} {v3 : Value} {v4 : Value} {v5 : Value} {v6 : Value} {v7 : Value} {v8 : Value} {v9 : Value} {y0 : Int32}
    (kt : y0 = 0 → P 22 [.ref 108, .int x1, .int x2, v3, v4, v5, v6, v7, v8, v9] [] (0, 0) (LAY, RFu r, mem)) (kf : ¬ y0 = 0 → P 13 [.ref 108, .int x1, .int x2, v3, v4, v5, v6, v7, v8, v9] [] (0, 0) (LAY, RFu r, mem)) : P 10 [.ref 108, .int x1, .int x2, v3, v4, v5, v6, v7, v8, v9] [.int y0] (0, 0) (LAY, RFu r, mem) := by
  exact r_if (t := 22) hP d211_10 (by decide) kt kf
theorem b211_13 {d : Nat} {P : xPr} {Q : xQr} {r : Nat} {mem : Nat → Nat → Int32} (hP : Cl d none 211 P Q) {x1 : Int32} {x2 : Int32} {v3 : Value} {v4 : Value} {v5 : Value} {v6 : Value} {v7 : Value} {v8 : Value} {v9 : Value}
    (k : xCall d 158 [.int x2, .int (nI 0), .int (nI 5)] (LAY, RFu r, mem) (Bk P 16 [.ref 108, .int x1, .int x2, v3, v4, v5, v6, v7, v8, v9] [] (0, 0))) : P 13 [.ref 108, .int x1, .int x2, v3, v4, v5, v6, v7, v8, v9] [] (0, 0) (LAY, RFu r, mem) := by
  refine r_iload_n hP d211_13 rfl ?_
  refine r_iconst (v := nI 0) hP d211_14 rfl ?_
  refine r_iconst (v := nI 5) hP d211_15 rfl ?_
  exact r_calls (As := [.int x2, .int (nI 0), .int (nI 5)]) (S := []) hP d211_16 cr_12_130 (by decide +kernel) rfl (by simp [Value.category]) rfl (by simp [Value.category]) ⟨Nat.zero_le _, Nat.zero_le _⟩ k
theorem b211_19 {d : Nat} {P : xPr} {Q : xQr} {r : Nat} {mem : Nat → Nat → Int32} (hP : Cl d none 211 P Q) {x1 : Int32} {x2 : Int32} {v3 : Value} {v4 : Value} {v5 : Value} {v6 : Value} {v7 : Value} {v8 : Value} {v9 : Value} {y0 : Int32}
    (kt : ¬ y0 = 0 → P 24 [.ref 108, .int x1, .int x2, v3, v4, v5, v6, v7, v8, v9] [] (0, 0) (LAY, RFu r, mem)) (kf : y0 = 0 → P 22 [.ref 108, .int x1, .int x2, v3, v4, v5, v6, v7, v8, v9] [] (0, 0) (LAY, RFu r, mem)) : P 19 [.ref 108, .int x1, .int x2, v3, v4, v5, v6, v7, v8, v9] [.int y0] (0, 0) (LAY, RFu r, mem) := by
  exact r_if (t := 24) hP d211_19 (by decide) kt (fun q => kf (Decidable.of_not_not q))
theorem b211_22 {d : Nat} {P : xPr} {Q : xQr} {r : Nat} {mem : Nat → Nat → Int32} (hP : Cl d none 211 P Q) {v0 : Value} {v1 : Value} {v2 : Value} {v3 : Value} {v4 : Value} {v5 : Value} {v6 : Value} {v7 : Value} {v8 : Value} {v9 : Value}
    (k : Q (some (.int (-1))) (LAY, RFu r, mem)) : P 22 [v0, v1, v2, v3, v4, v5, v6, v7, v8, v9] [] (0, 0) (LAY, RFu r, mem) := by
  refine r_iconst (v := (-1)) hP d211_22 rfl ?_
  exact r_iret hP d211_23 rfl k
theorem b211_24 {d : Nat} {P : xPr} {Q : xQr} {r : Nat} {mem : Nat → Nat → Int32} (hP : Cl d none 211 P Q) {x1 : Int32} {x2 : Int32} {v3 : Value} {v4 : Value} {v5 : Value} {v6 : Value} {v7 : Value} {v8 : Value} {v9 : Value}
    (kt : ¬ (mem 108 0) = 0 → P 34 [.ref 108, .int x1, .int x2, v3, v4, v5, v6, v7, v8, v9] [] (0, 0) (LAY, RFu r, mem)) (kf : (mem 108 0) = 0 → P 31 [.ref 108, .int x1, .int x2, v3, v4, v5, v6, v7, v8, v9] [] (0, 0) (LAY, RFu r, mem)) : P 24 [.ref 108, .int x1, .int x2, v3, v4, v5, v6, v7, v8, v9] [] (0, 0) (LAY, RFu r, mem) := by
  refine r_aload_n hP d211_24 rfl ?_
  refine r_geti hP d211_25 fr_12_138 rfl ly_108 ?_
  exact r_if (t := 34) hP d211_28 (by decide) kt (fun q => kf (Decidable.of_not_not q))
theorem b211_31 {d : Nat} {P : xPr} {Q : xQr} {r : Nat} {mem : Nat → Nat → Int32} (hP : Cl d none 211 P Q) {v0 : Value} {v1 : Value} {v2 : Value} {v3 : Value} {v4 : Value} {v5 : Value} {v6 : Value} {v7 : Value} {v8 : Value} {v9 : Value}
    (k : Q (some (.int (-2))) (LAY, RFu r, mem)) : P 31 [v0, v1, v2, v3, v4, v5, v6, v7, v8, v9] [] (0, 0) (LAY, RFu r, mem) := by
  refine r_bipush (v := (-2)) hP d211_31 rfl ?_
  exact r_iret hP d211_33 rfl k
theorem b211_34 {d : Nat} {P : xPr} {Q : xQr} {r : Nat} {mem : Nat → Nat → Int32} (hP : Cl d none 211 P Q) {x1 : Int32} {x2 : Int32} {v3 : Value} {v4 : Value} {v5 : Value} {v6 : Value} {v7 : Value} {v8 : Value} {v9 : Value}
    (k : xCall d 191 [.ref 108, .ref 133, .int (nI 0)] (LAY, RFu r, mem) (Bk P 40 [.ref 108, .int x1, .int x2, v3, v4, v5, v6, v7, v8, v9] [] (0, 0))) : P 34 [.ref 108, .int x1, .int x2, v3, v4, v5, v6, v7, v8, v9] [] (0, 0) (LAY, RFu r, mem) := by
  refine r_aload_n hP d211_34 rfl ?_
  refine r_aload_n hP d211_35 rfl ?_
  refine r_getr (a := 133) hP d211_36 fr_12_87 rfl ly_108 rg_108_38 ?_
  refine r_iconst (v := nI 0) hP d211_39 rfl ?_
  exact r_callv (As := [.ref 133, .int (nI 0)]) (S := []) hP d211_40 cr_12_245 (by decide +kernel) rfl (by simp [Value.category]) rfl ly_108 (by simp [Value.category]) ⟨Nat.zero_le _, Nat.zero_le _⟩ k
theorem b211_43 {d : Nat} {P : xPr} {Q : xQr} {r : Nat} {mem : Nat → Nat → Int32} (hP : Cl d none 211 P Q) {x1 : Int32} {x2 : Int32} {v3 : Value} {v4 : Value} {v5 : Value} {v6 : Value} {v7 : Value} {v8 : Value} {v9 : Value}
    (k : P 48 [.ref 108, .int x1, .int x2, .int (nI 1), .int (nI 0), v5, v6, v7, v8, v9] [] (0, 0) (LAY, RFu r, mem)) : P 43 [.ref 108, .int x1, .int x2, v3, v4, v5, v6, v7, v8, v9] [] (0, 0) (LAY, RFu r, mem) := by
  refine r_iconst (v := nI 1) hP d211_43 rfl ?_
  refine r_istore_n (L' := [.ref 108, .int x1, .int x2, .int (nI 1), v4, v5, v6, v7, v8, v9]) hP d211_44 (Nat.le_of_ble_eq_true rfl) rfl ?_
  refine r_iconst (v := nI 0) hP d211_45 rfl ?_
  refine r_istore (L' := [.ref 108, .int x1, .int x2, .int (nI 1), .int (nI 0), v5, v6, v7, v8, v9]) hP d211_46 (Nat.le_of_ble_eq_true rfl) rfl ?_
  exact k
theorem b211_48 {d : Nat} {P : xPr} {Q : xQr} {r : Nat} {mem : Nat → Nat → Int32} (hP : Cl d none 211 P Q) {x1 : Int32} {x2 : Int32} {x3 : Int32} {x4 : Int32} {v5 : Value} {v6 : Value} {v7 : Value} {v8 : Value} {v9 : Value}
    (kt : x2 ≤ x4 → P 67 [.ref 108, .int x1, .int x2, .int x3, .int x4, v5, v6, v7, v8, v9] [] (0, 0) (LAY, RFu r, mem)) (kf : ¬ x2 ≤ x4 → P 54 [.ref 108, .int x1, .int x2, .int x3, .int x4, v5, v6, v7, v8, v9] [] (0, 0) (LAY, RFu r, mem)) : P 48 [.ref 108, .int x1, .int x2, .int x3, .int x4, v5, v6, v7, v8, v9] [] (0, 0) (LAY, RFu r, mem) := by
  refine r_iload hP d211_48 rfl ?_
  refine r_iload_n hP d211_50 rfl ?_
  exact r_icmp (t := 67) hP d211_51 (by decide) kt kf
theorem b211_54 {d : Nat} {P : xPr} {Q : xQr} {r : Nat} {mem : Nat → Nat → Int32} (hP : Cl d none 211 P Q) {x1 : Int32} {x2 : Int32} {x3 : Int32} {x4 : Int32} {v5 : Value} {v6 : Value} {v7 : Value} {v8 : Value} {v9 : Value}
    (k : P 48 [.ref 108, .int x1, .int x2, .int (x3 * (mem 108 0)), .int (x4 + nI 1), v5, v6, v7, v8, v9] [] (0, 0) (LAY, RFu r, mem)) : P 54 [.ref 108, .int x1, .int x2, .int x3, .int x4, v5, v6, v7, v8, v9] [] (0, 0) (LAY, RFu r, mem) := by
  refine r_iload_n hP d211_54 rfl ?_
  refine r_aload_n hP d211_55 rfl ?_
  refine r_geti hP d211_56 fr_12_138 rfl ly_108 ?_
  refine r_imul hP d211_59 ?_
  refine r_istore_n (L' := [.ref 108, .int x1, .int x2, .int (x3 * (mem 108 0)), .int x4, v5, v6, v7, v8, v9]) hP d211_60 (Nat.le_of_ble_eq_true rfl) rfl ?_
  refine r_iinc (v := nI 1) (L' := [.ref 108, .int x1, .int x2, .int (x3 * (mem 108 0)), .int (x4 + nI 1), v5, v6, v7, v8, v9]) hP d211_61 rfl rfl rfl ?_
  refine r_goto (t := 48) hP d211_64 (by decide) ?_
  exact k
theorem b211_67 {d : Nat} {P : xPr} {Q : xQr} {r : Nat} {mem : Nat → Nat → Int32} (hP : Cl d none 211 P Q) {x1 : Int32} {x2 : Int32} {x3 : Int32} {v4 : Value} {v5 : Value} {v6 : Value} {v7 : Value} {v8 : Value} {v9 : Value}
    (k : P 78 [.ref 108, .int x1, .int x2, .int x3, .int (nI 0), .int (nI 500), .int (nI 0), v7, v8, v9] [] (0, 0) (LAY, RFu r, mem)) : P 67 [.ref 108, .int x1, .int x2, .int x3, v4, v5, v6, v7, v8, v9] [] (0, 0) (LAY, RFu r, mem) := by
  refine r_iconst (v := nI 0) hP d211_67 rfl ?_
  refine r_istore (L' := [.ref 108, .int x1, .int x2, .int x3, .int (nI 0), v5, v6, v7, v8, v9]) hP d211_68 (Nat.le_of_ble_eq_true rfl) rfl ?_
  refine r_sipush (v := nI 500) hP d211_70 rfl ?_
  refine r_istore (L' := [.ref 108, .int x1, .int x2, .int x3, .int (nI 0), .int (nI 500), v6, v7, v8, v9]) hP d211_73 (Nat.le_of_ble_eq_true rfl) rfl ?_
  refine r_iconst (v := nI 0) hP d211_75 rfl ?_
  refine r_istore (L' := [.ref 108, .int x1, .int x2, .int x3, .int (nI 0), .int (nI 500), .int (nI 0), v7, v8, v9]) hP d211_76 (Nat.le_of_ble_eq_true rfl) rfl ?_
  exact k
theorem b211_78 {d : Nat} {P : xPr} {Q : xQr} {r : Nat} {mem : Nat → Nat → Int32} (hP : Cl d none 211 P Q) {x1 : Int32} {x2 : Int32} {x3 : Int32} {x4 : Int32} {x5 : Int32} {x6 : Int32} {v7 : Value} {v8 : Value} {v9 : Value}
    (kt : x3 ≤ x6 → P 186 [.ref 108, .int x1, .int x2, .int x3, .int x4, .int x5, .int x6, v7, v8, v9] [] (0, 0) (LAY, RFu r, mem)) (kf : ¬ x3 ≤ x6 → P 84 [.ref 108, .int x1, .int x2, .int x3, .int x4, .int x5, .int x6, v7, v8, v9] [] (0, 0) (LAY, RFu r, mem)) : P 78 [.ref 108, .int x1, .int x2, .int x3, .int x4, .int x5, .int x6, v7, v8, v9] [] (0, 0) (LAY, RFu r, mem) := by
  refine r_iload hP d211_78 rfl ?_
  refine r_iload_n hP d211_80 rfl ?_
  exact r_icmp (t := 186) hP d211_81 (by decide) kt kf
theorem b211_84 {d : Nat} {P : xPr} {Q : xQr} {r : Nat} {mem : Nat → Nat → Int32} (hP : Cl d none 211 P Q) {x1 : Int32} {x2 : Int32} {x3 : Int32} {x4 : Int32} {x5 : Int32} {x6 : Int32} {v7 : Value} {v8 : Value} {v9 : Value}
    (k : P 93 [.ref 108, .int x1, .int x2, .int x3, .int x4, .int x5, .int x6, .int (nI 0), .int x3, .int (nI 0)] [] (0, 0) (LAY, RFu r, mem)) : P 84 [.ref 108, .int x1, .int x2, .int x3, .int x4, .int x5, .int x6, v7, v8, v9] [] (0, 0) (LAY, RFu r, mem) := by
  refine r_iconst (v := nI 0) hP d211_84 rfl ?_
  refine r_istore (L' := [.ref 108, .int x1, .int x2, .int x3, .int x4, .int x5, .int x6, .int (nI 0), v8, v9]) hP d211_85 (Nat.le_of_ble_eq_true rfl) rfl ?_
  refine r_iload_n hP d211_87 rfl ?_
  refine r_istore (L' := [.ref 108, .int x1, .int x2, .int x3, .int x4, .int x5, .int x6, .int (nI 0), .int x3, v9]) hP d211_88 (Nat.le_of_ble_eq_true rfl) rfl ?_
  refine r_iconst (v := nI 0) hP d211_90 rfl ?_
  refine r_istore (L' := [.ref 108, .int x1, .int x2, .int x3, .int x4, .int x5, .int x6, .int (nI 0), .int x3, .int (nI 0)]) hP d211_91 (Nat.le_of_ble_eq_true rfl) rfl ?_
  exact k
theorem b211_93 {d : Nat} {P : xPr} {Q : xQr} {r : Nat} {mem : Nat → Nat → Int32} (hP : Cl d none 211 P Q) {x1 : Int32} {x2 : Int32} {x3 : Int32} {x4 : Int32} {x5 : Int32} {x6 : Int32} {x7 : Int32} {x8 : Int32} {x9 : Int32}
    (kt : x2 ≤ x9 → P 153 [.ref 108, .int x1, .int x2, .int x3, .int x4, .int x5, .int x6, .int x7, .int x8, .int x9] [] (0, 0) (LAY, RFu r, mem)) (kf : ¬ x2 ≤ x9 → P 99 [.ref 108, .int x1, .int x2, .int x3, .int x4, .int x5, .int x6, .int x7, .int x8, .int x9] [] (0, 0) (LAY, RFu r, mem)) : P 93 [.ref 108, .int x1, .int x2, .int x3, .int x4, .int x5, .int x6, .int x7, .int x8, .int x9] [] (0, 0) (LAY, RFu r, mem) := by
  refine r_iload hP d211_93 rfl ?_
  refine r_iload_n hP d211_95 rfl ?_
  exact r_icmp (t := 153) hP d211_96 (by decide) kt kf
theorem b211_99 {d : Nat} {P : xPr} {Q : xQr} {r : Nat} {mem : Nat → Nat → Int32} (hP : Cl d none 211 P Q) {x1 : Int32} {x2 : Int32} {x3 : Int32} {x4 : Int32} {x5 : Int32} {x6 : Int32} {x7 : Int32} {x8 : Int32} {x9 : Int32} (hz105 : ¬ (mem 108 0) = 0) (hz117 : ¬ (x8 / (mem 108 0)) = 0) (hz122 : ¬ (mem 108 0) = 0) (hi123 : vp_in x1 8)
    (k : xCall d 190 [.ref 108] (LAY, RFu r, xu2 mem 128 x1.toNatClampNeg ((x6 / (x8 / (mem 108 0))) - (x6 / (x8 / (mem 108 0))) / (mem 108 0) * (mem 108 0))) (Bk P 125 [.ref 108, .int x1, .int x2, .int x3, .int x4, .int x5, .int x6, .int x7, .int (x8 / (mem 108 0)), .int x9] [] (0, 0))) : P 99 [.ref 108, .int x1, .int x2, .int x3, .int x4, .int x5, .int x6, .int x7, .int x8, .int x9] [] (0, 0) (LAY, RFu r, mem) := by
  refine r_iload hP d211_99 rfl ?_
  refine r_aload_n hP d211_101 rfl ?_
  refine r_geti hP d211_102 fr_12_138 rfl ly_108 ?_
  refine r_idiv hP d211_105 hz105 ?_
  refine r_istore (L' := [.ref 108, .int x1, .int x2, .int x3, .int x4, .int x5, .int x6, .int x7, .int (x8 / (mem 108 0)), .int x9]) hP d211_106 (Nat.le_of_ble_eq_true rfl) rfl ?_
  refine r_aload_n hP d211_108 rfl ?_
  refine r_getr (a := 128) hP d211_109 fr_12_69 rfl ly_108 rg_108_30 ?_
  refine r_iload_n hP d211_112 rfl ?_
  refine r_iload hP d211_113 rfl ?_
  refine r_iload hP d211_115 rfl ?_
  refine r_idiv hP d211_117 hz117 ?_
  refine r_aload_n hP d211_118 rfl ?_
  refine r_geti hP d211_119 fr_12_138 rfl ly_108 ?_
  refine r_irem hP d211_122 hz122 ?_
  refine r_iastore hP d211_123 ly_128 hi123 ?_
  refine r_aload_n hP d211_124 rfl ?_
  exact r_callv (As := []) (S := []) hP d211_125 cr_12_252 (by decide +kernel) rfl (by simp) rfl ly_108 (by simp [Value.category]) ⟨Nat.zero_le _, Nat.zero_le _⟩ k
theorem b211_128 {d : Nat} {P : xPr} {Q : xQr} {r : Nat} {mem : Nat → Nat → Int32} (hP : Cl d none 211 P Q) {x1 : Int32} {x2 : Int32} {x3 : Int32} {x4 : Int32} {x5 : Int32} {x6 : Int32} {x7 : Int32} {x8 : Int32} {x9 : Int32} {y0 : Int32}
    (k : xCall d 193 [.ref 108, .int x1] (LAY, RFu r, mem) (Bk P 133 [.ref 108, .int x1, .int x2, .int x3, .int x4, .int x5, .int x6, .int x7, .int x8, .int x9] [.int x7] (0, 0))) : P 128 [.ref 108, .int x1, .int x2, .int x3, .int x4, .int x5, .int x6, .int x7, .int x8, .int x9] [.int y0] (0, 0) (LAY, RFu r, mem) := by
  refine r_pop hP d211_128 rfl ?_
  refine r_iload hP d211_129 rfl ?_
  refine r_aload_n hP d211_131 rfl ?_
  refine r_iload_n hP d211_132 rfl ?_
  exact r_callv (As := [.int x1]) (S := [.int x7]) hP d211_133 cr_12_255 (by decide +kernel) rfl (by simp [Value.category]) rfl ly_108 (by simp [Value.category]) ⟨Nat.zero_le _, Nat.zero_le _⟩ k
theorem b211_136 {d : Nat} {P : xPr} {Q : xQr} {r : Nat} {mem : Nat → Nat → Int32} (hP : Cl d none 211 P Q) {x1 : Int32} {x2 : Int32} {x3 : Int32} {x4 : Int32} {x5 : Int32} {x6 : Int32} {v7 : Value} {x8 : Int32} {x9 : Int32} {y0 : Int32} {y1 : Int32}
    (kt : y1 = 0 → P 143 [.ref 108, .int x1, .int x2, .int x3, .int x4, .int x5, .int x6, v7, .int x8, .int x9] [.int y0] (0, 0) (LAY, RFu r, mem)) (kf : ¬ y1 = 0 → P 139 [.ref 108, .int x1, .int x2, .int x3, .int x4, .int x5, .int x6, v7, .int x8, .int x9] [.int y0] (0, 0) (LAY, RFu r, mem)) : P 136 [.ref 108, .int x1, .int x2, .int x3, .int x4, .int x5, .int x6, v7, .int x8, .int x9] [.int y1, .int y0] (0, 0) (LAY, RFu r, mem) := by
  exact r_if (t := 143) hP d211_136 (by decide) kt kf
theorem b211_139 {d : Nat} {P : xPr} {Q : xQr} {r : Nat} {mem : Nat → Nat → Int32} (hP : Cl d none 211 P Q) {x1 : Int32} {x2 : Int32} {x3 : Int32} {x4 : Int32} {x5 : Int32} {x6 : Int32} {v7 : Value} {x8 : Int32} {x9 : Int32} {y0 : Int32}
    (k : P 144 [.ref 108, .int x1, .int x2, .int x3, .int x4, .int x5, .int x6, v7, .int x8, .int x9] [.int (nI 1), .int y0] (0, 0) (LAY, RFu r, mem)) : P 139 [.ref 108, .int x1, .int x2, .int x3, .int x4, .int x5, .int x6, v7, .int x8, .int x9] [.int y0] (0, 0) (LAY, RFu r, mem) := by
  refine r_iconst (v := nI 1) hP d211_139 rfl ?_
  refine r_goto (t := 144) hP d211_140 (by decide) ?_
  exact k
theorem b211_143 {d : Nat} {P : xPr} {Q : xQr} {r : Nat} {mem : Nat → Nat → Int32} (hP : Cl d none 211 P Q) {x1 : Int32} {x2 : Int32} {x3 : Int32} {x4 : Int32} {x5 : Int32} {x6 : Int32} {v7 : Value} {x8 : Int32} {x9 : Int32} {y0 : Int32}
    (k : P 144 [.ref 108, .int x1, .int x2, .int x3, .int x4, .int x5, .int x6, v7, .int x8, .int x9] [.int (nI 0), .int y0] (0, 0) (LAY, RFu r, mem)) : P 143 [.ref 108, .int x1, .int x2, .int x3, .int x4, .int x5, .int x6, v7, .int x8, .int x9] [.int y0] (0, 0) (LAY, RFu r, mem) := by
  refine r_iconst (v := nI 0) hP d211_143 rfl ?_
  exact k
theorem b211_144 {d : Nat} {P : xPr} {Q : xQr} {r : Nat} {mem : Nat → Nat → Int32} (hP : Cl d none 211 P Q) {x1 : Int32} {x2 : Int32} {x3 : Int32} {x4 : Int32} {x5 : Int32} {x6 : Int32} {v7 : Value} {x8 : Int32} {x9 : Int32} {y0 : Int32} {y1 : Int32}
    (k : P 93 [.ref 108, .int x1, .int x2, .int x3, .int x4, .int x5, .int x6, .int (y0 + y1), .int x8, .int (x9 + nI 1)] [] (0, 0) (LAY, RFu r, mem)) : P 144 [.ref 108, .int x1, .int x2, .int x3, .int x4, .int x5, .int x6, v7, .int x8, .int x9] [.int y1, .int y0] (0, 0) (LAY, RFu r, mem) := by
  refine r_iadd hP d211_144 ?_
  refine r_istore (L' := [.ref 108, .int x1, .int x2, .int x3, .int x4, .int x5, .int x6, .int (y0 + y1), .int x8, .int x9]) hP d211_145 (Nat.le_of_ble_eq_true rfl) rfl ?_
  refine r_iinc (v := nI 1) (L' := [.ref 108, .int x1, .int x2, .int x3, .int x4, .int x5, .int x6, .int (y0 + y1), .int x8, .int (x9 + nI 1)]) hP d211_147 rfl rfl rfl ?_
  refine r_goto (t := 93) hP d211_150 (by decide) ?_
  exact k
theorem b211_153 {d : Nat} {P : xPr} {Q : xQr} {r : Nat} {mem : Nat → Nat → Int32} (hP : Cl d none 211 P Q) {x1 : Int32} {x2 : Int32} {x3 : Int32} {x4 : Int32} {x5 : Int32} {x6 : Int32} {x7 : Int32} {v8 : Value} {v9 : Value}
    (k : xCall d 192 [.ref 108, .ref 133, .int (nI 0)] (LAY, RFu r, mem) (Bk P 159 [.ref 108, .int x1, .int x2, .int x3, .int x4, .int x5, .int x6, .int x7, v8, v9] [] (0, 0))) : P 153 [.ref 108, .int x1, .int x2, .int x3, .int x4, .int x5, .int x6, .int x7, v8, v9] [] (0, 0) (LAY, RFu r, mem) := by
  refine r_aload_n hP d211_153 rfl ?_
  refine r_aload_n hP d211_154 rfl ?_
  refine r_getr (a := 133) hP d211_155 fr_12_87 rfl ly_108 rg_108_38 ?_
  refine r_iconst (v := nI 0) hP d211_158 rfl ?_
  exact r_callv (As := [.ref 133, .int (nI 0)]) (S := []) hP d211_159 cr_12_261 (by decide +kernel) rfl (by simp [Value.category]) rfl ly_108 (by simp [Value.category]) ⟨Nat.zero_le _, Nat.zero_le _⟩ k
theorem b211_162 {d : Nat} {P : xPr} {Q : xQr} {r : Nat} {mem : Nat → Nat → Int32} (hP : Cl d none 211 P Q) {x1 : Int32} {x2 : Int32} {x3 : Int32} {x4 : Int32} {x5 : Int32} {x6 : Int32} {x7 : Int32} {v8 : Value} {v9 : Value}
    (kt : x7 < x5 → P 172 [.ref 108, .int x1, .int x2, .int x3, .int x4, .int x5, .int x6, .int x7, v8, v9] [] (0, 0) (LAY, RFu r, mem)) (kf : ¬ x7 < x5 → P 169 [.ref 108, .int x1, .int x2, .int x3, .int x4, .int x5, .int x6, .int x7, v8, v9] [] (0, 0) (LAY, RFu r, mem)) : P 162 [.ref 108, .int x1, .int x2, .int x3, .int x4, .int x5, .int x6, .int x7, v8, v9] [] (0, 0) (LAY, RFu r, mem) := by
  refine r_iload hP d211_162 rfl ?_
  refine r_iload hP d211_164 rfl ?_
  exact r_icmp (t := 172) hP d211_166 (by decide) kt kf
theorem b211_169 {d : Nat} {P : xPr} {Q : xQr} {r : Nat} {mem : Nat → Nat → Int32} (hP : Cl d none 211 P Q) {x1 : Int32} {x2 : Int32} {x3 : Int32} {x4 : Int32} {x5 : Int32} {x6 : Int32} {v7 : Value} {v8 : Value} {v9 : Value}
    (k : P 180 [.ref 108, .int x1, .int x2, .int x3, .int x4, .int x5, .int x6, v7, v8, v9] [] (0, 0) (LAY, RFu r, mem)) : P 169 [.ref 108, .int x1, .int x2, .int x3, .int x4, .int x5, .int x6, v7, v8, v9] [] (0, 0) (LAY, RFu r, mem) := by
  refine r_goto (t := 180) hP d211_169 (by decide) ?_
  exact k
theorem b211_172 {d : Nat} {P : xPr} {Q : xQr} {r : Nat} {mem : Nat → Nat → Int32} (hP : Cl d none 211 P Q) {x1 : Int32} {x2 : Int32} {x3 : Int32} {v4 : Value} {v5 : Value} {x6 : Int32} {x7 : Int32} {v8 : Value} {v9 : Value}
    (k : P 180 [.ref 108, .int x1, .int x2, .int x3, .int x6, .int x7, .int x6, .int x7, v8, v9] [] (0, 0) (LAY, RFu r, mem)) : P 172 [.ref 108, .int x1, .int x2, .int x3, v4, v5, .int x6, .int x7, v8, v9] [] (0, 0) (LAY, RFu r, mem) := by
  refine r_iload hP d211_172 rfl ?_
  refine r_istore (L' := [.ref 108, .int x1, .int x2, .int x3, .int x6, v5, .int x6, .int x7, v8, v9]) hP d211_174 (Nat.le_of_ble_eq_true rfl) rfl ?_
  refine r_iload hP d211_176 rfl ?_
  refine r_istore (L' := [.ref 108, .int x1, .int x2, .int x3, .int x6, .int x7, .int x6, .int x7, v8, v9]) hP d211_178 (Nat.le_of_ble_eq_true rfl) rfl ?_
  exact k
theorem b211_180 {d : Nat} {P : xPr} {Q : xQr} {r : Nat} {mem : Nat → Nat → Int32} (hP : Cl d none 211 P Q) {x1 : Int32} {x2 : Int32} {x3 : Int32} {x4 : Int32} {x5 : Int32} {x6 : Int32} {v7 : Value} {v8 : Value} {v9 : Value}
    (k : P 78 [.ref 108, .int x1, .int x2, .int x3, .int x4, .int x5, .int (x6 + nI 1), v7, v8, v9] [] (0, 0) (LAY, RFu r, mem)) : P 180 [.ref 108, .int x1, .int x2, .int x3, .int x4, .int x5, .int x6, v7, v8, v9] [] (0, 0) (LAY, RFu r, mem) := by
  refine r_iinc (v := nI 1) (L' := [.ref 108, .int x1, .int x2, .int x3, .int x4, .int x5, .int (x6 + nI 1), v7, v8, v9]) hP d211_180 rfl rfl rfl ?_
  refine r_goto (t := 78) hP d211_183 (by decide) ?_
  exact k
theorem b211_186 {d : Nat} {P : xPr} {Q : xQr} {r : Nat} {mem : Nat → Nat → Int32} (hP : Cl d none 211 P Q) {x1 : Int32} {x2 : Int32} {x3 : Int32} {x4 : Int32} {x5 : Int32} {v6 : Value} {v7 : Value} {v8 : Value} {v9 : Value} (hi193 : vp_in x1 8)
    (k : P 205 [.ref 108, .int x1, .int x2, .int x3, .int x4, .int x5, .int x3, .int (nI 0), v8, v9] [] (0, 0) (LAY, RFu r, xu2 (xu2 mem 128 x1.toNatClampNeg (nI 99)) 108 19 (nI 0))) : P 186 [.ref 108, .int x1, .int x2, .int x3, .int x4, .int x5, v6, v7, v8, v9] [] (0, 0) (LAY, RFu r, mem) := by
  refine r_aload_n hP d211_186 rfl ?_
  refine r_getr (a := 128) hP d211_187 fr_12_69 rfl ly_108 rg_108_30 ?_
  refine r_iload_n hP d211_190 rfl ?_
  refine r_bipush (v := nI 99) hP d211_191 rfl ?_
  refine r_iastore hP d211_193 ly_128 hi193 ?_
  refine r_aload_n hP d211_194 rfl ?_
  refine r_iconst (v := nI 0) hP d211_195 rfl ?_
  refine r_puti hP d211_196 fr_12_124 rfl (fun q => by cases q) ly_108 ?_
  refine r_iload_n hP d211_199 rfl ?_
  refine r_istore (L' := [.ref 108, .int x1, .int x2, .int x3, .int x4, .int x5, .int x3, v7, v8, v9]) hP d211_200 (Nat.le_of_ble_eq_true rfl) rfl ?_
  refine r_iconst (v := nI 0) hP d211_202 rfl ?_
  refine r_istore (L' := [.ref 108, .int x1, .int x2, .int x3, .int x4, .int x5, .int x3, .int (nI 0), v8, v9]) hP d211_203 (Nat.le_of_ble_eq_true rfl) rfl ?_
  exact k
theorem b211_205 {d : Nat} {P : xPr} {Q : xQr} {r : Nat} {mem : Nat → Nat → Int32} (hP : Cl d none 211 P Q) {v1 : Value} {x2 : Int32} {v3 : Value} {x4 : Int32} {x5 : Int32} {x6 : Int32} {x7 : Int32} {v8 : Value} {v9 : Value}
    (kt : x2 ≤ x7 → P 240 [.ref 108, v1, .int x2, v3, .int x4, .int x5, .int x6, .int x7, v8, v9] [] (0, 0) (LAY, RFu r, mem)) (kf : ¬ x2 ≤ x7 → P 211 [.ref 108, v1, .int x2, v3, .int x4, .int x5, .int x6, .int x7, v8, v9] [] (0, 0) (LAY, RFu r, mem)) : P 205 [.ref 108, v1, .int x2, v3, .int x4, .int x5, .int x6, .int x7, v8, v9] [] (0, 0) (LAY, RFu r, mem) := by
  refine r_iload hP d211_205 rfl ?_
  refine r_iload_n hP d211_207 rfl ?_
  exact r_icmp (t := 240) hP d211_208 (by decide) kt kf
theorem b211_211 {d : Nat} {P : xPr} {Q : xQr} {r : Nat} {mem : Nat → Nat → Int32} (hP : Cl d none 211 P Q) {v1 : Value} {x2 : Int32} {v3 : Value} {x4 : Int32} {x5 : Int32} {x6 : Int32} {x7 : Int32} {v8 : Value} {v9 : Value} (hz217 : ¬ (mem 108 0) = 0) (hz225 : ¬ (x6 / (mem 108 0)) = 0) (hz230 : ¬ (mem 108 0) = 0)
    (k : xCall d 161 [.ref 108, .int ((x4 / (x6 / (mem 108 0))) - (x4 / (x6 / (mem 108 0))) / (mem 108 0) * (mem 108 0))] (LAY, RFu r, mem) (Bk P 231 [.ref 108, v1, .int x2, v3, .int x4, .int x5, .int (x6 / (mem 108 0)), .int x7, v8, v9] [] (0, 0))) : P 211 [.ref 108, v1, .int x2, v3, .int x4, .int x5, .int x6, .int x7, v8, v9] [] (0, 0) (LAY, RFu r, mem) := by
  refine r_iload hP d211_211 rfl ?_
  refine r_aload_n hP d211_213 rfl ?_
  refine r_geti hP d211_214 fr_12_138 rfl ly_108 ?_
  refine r_idiv hP d211_217 hz217 ?_
  refine r_istore (L' := [.ref 108, v1, .int x2, v3, .int x4, .int x5, .int (x6 / (mem 108 0)), .int x7, v8, v9]) hP d211_218 (Nat.le_of_ble_eq_true rfl) rfl ?_
  refine r_aload_n hP d211_220 rfl ?_
  refine r_iload hP d211_221 rfl ?_
  refine r_iload hP d211_223 rfl ?_
  refine r_idiv hP d211_225 hz225 ?_
  refine r_aload_n hP d211_226 rfl ?_
  refine r_geti hP d211_227 fr_12_138 rfl ly_108 ?_
  refine r_irem hP d211_230 hz230 ?_
  exact r_callv (As := [.int ((x4 / (x6 / (mem 108 0))) - (x4 / (x6 / (mem 108 0))) / (mem 108 0) * (mem 108 0))]) (S := []) hP d211_231 cr_12_258 (by decide +kernel) rfl (by simp [Value.category]) rfl ly_108 (by simp [Value.category]) ⟨Nat.zero_le _, Nat.zero_le _⟩ k
theorem b211_234 {d : Nat} {P : xPr} {Q : xQr} {r : Nat} {mem : Nat → Nat → Int32} (hP : Cl d none 211 P Q) {v1 : Value} {x2 : Int32} {v3 : Value} {x4 : Int32} {x5 : Int32} {x6 : Int32} {x7 : Int32} {v8 : Value} {v9 : Value}
    (k : P 205 [.ref 108, v1, .int x2, v3, .int x4, .int x5, .int x6, .int (x7 + nI 1), v8, v9] [] (0, 0) (LAY, RFu r, mem)) : P 234 [.ref 108, v1, .int x2, v3, .int x4, .int x5, .int x6, .int x7, v8, v9] [] (0, 0) (LAY, RFu r, mem) := by
  refine r_iinc (v := nI 1) (L' := [.ref 108, v1, .int x2, v3, .int x4, .int x5, .int x6, .int (x7 + nI 1), v8, v9]) hP d211_234 rfl rfl rfl ?_
  refine r_goto (t := 205) hP d211_237 (by decide) ?_
  exact k
theorem b211_240 {d : Nat} {P : xPr} {Q : xQr} {r : Nat} {mem : Nat → Nat → Int32} (hP : Cl d none 211 P Q) {v0 : Value} {v1 : Value} {v2 : Value} {v3 : Value} {v4 : Value} {x5 : Int32} {v6 : Value} {v7 : Value} {v8 : Value} {v9 : Value}
    (k : Q (some (.int x5)) (LAY, RFu r, mem)) : P 240 [v0, v1, v2, v3, v4, .int x5, v6, v7, v8, v9] [] (0, 0) (LAY, RFu r, mem) := by
  refine r_iload hP d211_240 rfl ?_
  exact r_iret hP d211_242 rfl k
theorem d212_0 : decode (xB 212) 0 = .ok (.aload_n 0, 1) := by decide +kernel
theorem d212_1 : decode (xB 212) 1 = .ok (.getfield 26, 3) := by decide +kernel
theorem d212_4 : decode (xB 212) 4 = .ok (.iload_n 1, 1) := by decide +kernel
theorem d212_5 : decode (xB 212) 5 = .ok (.iaload, 1) := by decide +kernel
theorem d212_6 : decode (xB 212) 6 = .ok (.iconst (-1), 1) := by decide +kernel
theorem d212_7 : decode (xB 212) 7 = .ok (.if_icmp .eq 42, 3) := by decide +kernel
theorem d212_10 : decode (xB 212) 10 = .ok (.aload_n 0, 1) := by decide +kernel
theorem d212_11 : decode (xB 212) 11 = .ok (.getfield 26, 3) := by decide +kernel
theorem d212_14 : decode (xB 212) 14 = .ok (.iload_n 1, 1) := by decide +kernel
theorem d212_15 : decode (xB 212) 15 = .ok (.iaload, 1) := by decide +kernel
theorem d212_16 : decode (xB 212) 16 = .ok (.aload_n 0, 1) := by decide +kernel
theorem d212_17 : decode (xB 212) 17 = .ok (.getfield 26, 3) := by decide +kernel
theorem d212_20 : decode (xB 212) 20 = .ok (.iload_n 2, 1) := by decide +kernel
theorem d212_21 : decode (xB 212) 21 = .ok (.iaload, 1) := by decide +kernel
theorem d212_22 : decode (xB 212) 22 = .ok (.if_icmp .ne 27, 3) := by decide +kernel
theorem d212_25 : decode (xB 212) 25 = .ok (.aload_n 0, 1) := by decide +kernel
theorem d212_26 : decode (xB 212) 26 = .ok (.getfield 29, 3) := by decide +kernel
theorem d212_29 : decode (xB 212) 29 = .ok (.iload_n 1, 1) := by decide +kernel
theorem d212_30 : decode (xB 212) 30 = .ok (.iaload, 1) := by decide +kernel
theorem d212_31 : decode (xB 212) 31 = .ok (.iconst 1, 1) := by decide +kernel
theorem d212_32 : decode (xB 212) 32 = .ok (.if_icmp .ne 17, 3) := by decide +kernel
theorem d212_35 : decode (xB 212) 35 = .ok (.aload_n 0, 1) := by decide +kernel
theorem d212_36 : decode (xB 212) 36 = .ok (.getfield 29, 3) := by decide +kernel
theorem d212_39 : decode (xB 212) 39 = .ok (.iload_n 2, 1) := by decide +kernel
theorem d212_40 : decode (xB 212) 40 = .ok (.iaload, 1) := by decide +kernel
theorem d212_41 : decode (xB 212) 41 = .ok (.iconst 1, 1) := by decide +kernel
theorem d212_42 : decode (xB 212) 42 = .ok (.if_icmp .ne 7, 3) := by decide +kernel
theorem d212_45 : decode (xB 212) 45 = .ok (.iconst 1, 1) := by decide +kernel
theorem d212_46 : decode (xB 212) 46 = .ok (.goto 4, 3) := by decide +kernel
theorem d212_49 : decode (xB 212) 49 = .ok (.iconst 0, 1) := by decide +kernel
theorem d212_50 : decode (xB 212) 50 = .ok (.ireturn, 1) := by decide +kernel
theorem b212_0 {d : Nat} {P : xPr} {Q : xQr} {r : Nat} {mem : Nat → Nat → Int32} (hP : Cl d none 212 P Q) {p0 : Int32} {p1 : Int32} (hi5 : vp_in p0 8)
    (kt : (mem 114 p0.toNatClampNeg) = (-1) → P 49 [.ref 108, .int p0, .int p1] [] (0, 0) (LAY, RFu r, mem)) (kf : ¬ (mem 114 p0.toNatClampNeg) = (-1) → P 10 [.ref 108, .int p0, .int p1] [] (0, 0) (LAY, RFu r, mem)) : P 0 [.ref 108, .int p0, .int p1] [] (0, 0) (LAY, RFu r, mem) := by
  refine r_aload_n hP d212_0 rfl ?_
  refine r_getr (a := 114) hP d212_1 fr_12_26 rfl ly_108 rg_108_7 ?_
  refine r_iload_n hP d212_4 rfl ?_
  refine r_iaload hP d212_5 ly_114 hi5 ?_
  refine r_iconst (v := (-1)) hP d212_6 rfl ?_
  exact r_icmp (t := 49) hP d212_7 (by decide) kt kf
theorem b212_10 {d : Nat} {P : xPr} {Q : xQr} {r : Nat} {mem : Nat → Nat → Int32} (hP : Cl d none 212 P Q) {x1 : Int32} {x2 : Int32} (hi15 : vp_in x1 8) (hi21 : vp_in x2 8)
    (kt : ¬ (mem 114 x1.toNatClampNeg) = (mem 114 x2.toNatClampNeg) → P 49 [.ref 108, .int x1, .int x2] [] (0, 0) (LAY, RFu r, mem)) (kf : (mem 114 x1.toNatClampNeg) = (mem 114 x2.toNatClampNeg) → P 25 [.ref 108, .int x1, .int x2] [] (0, 0) (LAY, RFu r, mem)) : P 10 [.ref 108, .int x1, .int x2] [] (0, 0) (LAY, RFu r, mem) := by
  refine r_aload_n hP d212_10 rfl ?_
  refine r_getr (a := 114) hP d212_11 fr_12_26 rfl ly_108 rg_108_7 ?_
  refine r_iload_n hP d212_14 rfl ?_
  refine r_iaload hP d212_15 ly_114 hi15 ?_
  refine r_aload_n hP d212_16 rfl ?_
  refine r_getr (a := 114) hP d212_17 fr_12_26 rfl ly_108 rg_108_7 ?_
  refine r_iload_n hP d212_20 rfl ?_
  refine r_iaload hP d212_21 ly_114 hi21 ?_
  exact r_icmp (t := 49) hP d212_22 (by decide) kt (fun q => kf (Decidable.of_not_not q))
theorem b212_25 {d : Nat} {P : xPr} {Q : xQr} {r : Nat} {mem : Nat → Nat → Int32} (hP : Cl d none 212 P Q) {x1 : Int32} {x2 : Int32} (hi30 : vp_in x1 8)
    (kt : ¬ (mem 115 x1.toNatClampNeg) = (nI 1) → P 49 [.ref 108, .int x1, .int x2] [] (0, 0) (LAY, RFu r, mem)) (kf : (mem 115 x1.toNatClampNeg) = (nI 1) → P 35 [.ref 108, .int x1, .int x2] [] (0, 0) (LAY, RFu r, mem)) : P 25 [.ref 108, .int x1, .int x2] [] (0, 0) (LAY, RFu r, mem) := by
  refine r_aload_n hP d212_25 rfl ?_
  refine r_getr (a := 115) hP d212_26 fr_12_29 rfl ly_108 rg_108_8 ?_
  refine r_iload_n hP d212_29 rfl ?_
  refine r_iaload hP d212_30 ly_115 hi30 ?_
  refine r_iconst (v := nI 1) hP d212_31 rfl ?_
  exact r_icmp (t := 49) hP d212_32 (by decide) kt (fun q => kf (Decidable.of_not_not q))
theorem b212_35 {d : Nat} {P : xPr} {Q : xQr} {r : Nat} {mem : Nat → Nat → Int32} (hP : Cl d none 212 P Q) {v1 : Value} {x2 : Int32} (hi40 : vp_in x2 8)
    (kt : ¬ (mem 115 x2.toNatClampNeg) = (nI 1) → P 49 [.ref 108, v1, .int x2] [] (0, 0) (LAY, RFu r, mem)) (kf : (mem 115 x2.toNatClampNeg) = (nI 1) → P 45 [.ref 108, v1, .int x2] [] (0, 0) (LAY, RFu r, mem)) : P 35 [.ref 108, v1, .int x2] [] (0, 0) (LAY, RFu r, mem) := by
  refine r_aload_n hP d212_35 rfl ?_
  refine r_getr (a := 115) hP d212_36 fr_12_29 rfl ly_108 rg_108_8 ?_
  refine r_iload_n hP d212_39 rfl ?_
  refine r_iaload hP d212_40 ly_115 hi40 ?_
  refine r_iconst (v := nI 1) hP d212_41 rfl ?_
  exact r_icmp (t := 49) hP d212_42 (by decide) kt (fun q => kf (Decidable.of_not_not q))
theorem b212_45 {d : Nat} {P : xPr} {Q : xQr} {r : Nat} {mem : Nat → Nat → Int32} (hP : Cl d none 212 P Q) {v0 : Value} {v1 : Value} {v2 : Value}
    (k : P 50 [v0, v1, v2] [.int (nI 1)] (0, 0) (LAY, RFu r, mem)) : P 45 [v0, v1, v2] [] (0, 0) (LAY, RFu r, mem) := by
  refine r_iconst (v := nI 1) hP d212_45 rfl ?_
  refine r_goto (t := 50) hP d212_46 (by decide) ?_
  exact k
theorem b212_49 {d : Nat} {P : xPr} {Q : xQr} {r : Nat} {mem : Nat → Nat → Int32} (hP : Cl d none 212 P Q) {v0 : Value} {v1 : Value} {v2 : Value}
    (k : P 50 [v0, v1, v2] [.int (nI 0)] (0, 0) (LAY, RFu r, mem)) : P 49 [v0, v1, v2] [] (0, 0) (LAY, RFu r, mem) := by
  refine r_iconst (v := nI 0) hP d212_49 rfl ?_
  exact k
theorem b212_50 {d : Nat} {P : xPr} {Q : xQr} {r : Nat} {mem : Nat → Nat → Int32} (hP : Cl d none 212 P Q) {v0 : Value} {v1 : Value} {v2 : Value} {y0 : Int32} (hzr : y0 = 0 ∨ y0 = 1)
    (k : Q (some (.int y0)) (LAY, RFu r, mem)) : P 50 [v0, v1, v2] [.int y0] (0, 0) (LAY, RFu r, mem) := by
  exact r_zret hP d212_50 rfl hzr k
theorem d213_0 : decode (xB 213) 0 = .ok (.aload_n 0, 1) := by decide +kernel
theorem d213_1 : decode (xB 213) 1 = .ok (.iconst 0, 1) := by decide +kernel
theorem d213_2 : decode (xB 213) 2 = .ok (.putfield 121, 3) := by decide +kernel
theorem d213_5 : decode (xB 213) 5 = .ok (.aload_n 0, 1) := by decide +kernel
theorem d213_6 : decode (xB 213) 6 = .ok (.iload_n 1, 1) := by decide +kernel
theorem d213_7 : decode (xB 213) 7 = .ok (.iload_n 2, 1) := by decide +kernel
theorem d213_8 : decode (xB 213) 8 = .ok (.invokevirtual 286, 3) := by decide +kernel
theorem d213_11 : decode (xB 213) 11 = .ok (.ifCond .eq 12, 3) := by decide +kernel
theorem d213_14 : decode (xB 213) 14 = .ok (.iload_n 3, 1) := by decide +kernel
theorem d213_15 : decode (xB 213) 15 = .ok (.iconst 0, 1) := by decide +kernel
theorem d213_16 : decode (xB 213) 16 = .ok (.iconst 3, 1) := by decide +kernel
theorem d213_17 : decode (xB 213) 17 = .ok (.invokestatic 130, 3) := by decide +kernel
theorem d213_20 : decode (xB 213) 20 = .ok (.ifCond .ne 5, 3) := by decide +kernel
theorem d213_23 : decode (xB 213) 23 = .ok (.iconst (-1), 1) := by decide +kernel
theorem d213_24 : decode (xB 213) 24 = .ok (.ireturn, 1) := by decide +kernel
theorem d213_25 : decode (xB 213) 25 = .ok (.aload_n 0, 1) := by decide +kernel
theorem d213_26 : decode (xB 213) 26 = .ok (.getfield 138, 3) := by decide +kernel
theorem d213_29 : decode (xB 213) 29 = .ok (.ifCond .ne 6, 3) := by decide +kernel
theorem d213_32 : decode (xB 213) 32 = .ok (.bipush (-2), 2) := by decide +kernel
theorem d213_34 : decode (xB 213) 34 = .ok (.ireturn, 1) := by decide +kernel
theorem d213_35 : decode (xB 213) 35 = .ok (.aload_n 0, 1) := by decide +kernel
theorem d213_36 : decode (xB 213) 36 = .ok (.aload_n 0, 1) := by decide +kernel
theorem d213_37 : decode (xB 213) 37 = .ok (.getfield 87, 3) := by decide +kernel
theorem d213_40 : decode (xB 213) 40 = .ok (.iconst 0, 1) := by decide +kernel
theorem d213_41 : decode (xB 213) 41 = .ok (.invokevirtual 245, 3) := by decide +kernel
theorem d213_44 : decode (xB 213) 44 = .ok (.iconst 1, 1) := by decide +kernel
theorem d213_45 : decode (xB 213) 45 = .ok (.istore 4, 2) := by decide +kernel
theorem d213_47 : decode (xB 213) 47 = .ok (.iconst 0, 1) := by decide +kernel
theorem d213_48 : decode (xB 213) 48 = .ok (.istore 5, 2) := by decide +kernel
theorem d213_50 : decode (xB 213) 50 = .ok (.iload 5, 2) := by decide +kernel
theorem d213_52 : decode (xB 213) 52 = .ok (.iconst 2, 1) := by decide +kernel
theorem d213_53 : decode (xB 213) 53 = .ok (.iload_n 3, 1) := by decide +kernel
theorem d213_54 : decode (xB 213) 54 = .ok (.imul, 1) := by decide +kernel
theorem d213_55 : decode (xB 213) 55 = .ok (.if_icmp .ge 18, 3) := by decide +kernel
theorem d213_58 : decode (xB 213) 58 = .ok (.iload 4, 2) := by decide +kernel
theorem d213_60 : decode (xB 213) 60 = .ok (.aload_n 0, 1) := by decide +kernel
theorem d213_61 : decode (xB 213) 61 = .ok (.getfield 138, 3) := by decide +kernel
theorem d213_64 : decode (xB 213) 64 = .ok (.imul, 1) := by decide +kernel
theorem d213_65 : decode (xB 213) 65 = .ok (.istore 4, 2) := by decide +kernel
theorem d213_67 : decode (xB 213) 67 = .ok (.iinc 5 1, 3) := by decide +kernel
theorem d213_70 : decode (xB 213) 70 = .ok (.goto (-20), 3) := by decide +kernel
theorem d213_73 : decode (xB 213) 73 = .ok (.iconst 0, 1) := by decide +kernel
theorem d213_74 : decode (xB 213) 74 = .ok (.istore 5, 2) := by decide +kernel
theorem d213_76 : decode (xB 213) 76 = .ok (.iconst (-1), 1) := by decide +kernel
theorem d213_77 : decode (xB 213) 77 = .ok (.istore 6, 2) := by decide +kernel
theorem d213_79 : decode (xB 213) 79 = .ok (.iconst 0, 1) := by decide +kernel
theorem d213_80 : decode (xB 213) 80 = .ok (.istore 7, 2) := by decide +kernel
theorem d213_82 : decode (xB 213) 82 = .ok (.iload 7, 2) := by decide +kernel
theorem d213_84 : decode (xB 213) 84 = .ok (.iload 4, 2) := by decide +kernel
theorem d213_86 : decode (xB 213) 86 = .ok (.if_icmp .ge 132, 3) := by decide +kernel
theorem d213_89 : decode (xB 213) 89 = .ok (.iconst 0, 1) := by decide +kernel
theorem d213_90 : decode (xB 213) 90 = .ok (.istore 8, 2) := by decide +kernel
theorem d213_92 : decode (xB 213) 92 = .ok (.iload 4, 2) := by decide +kernel
theorem d213_94 : decode (xB 213) 94 = .ok (.istore 9, 2) := by decide +kernel
theorem d213_96 : decode (xB 213) 96 = .ok (.iconst 0, 1) := by decide +kernel
theorem d213_97 : decode (xB 213) 97 = .ok (.istore 10, 2) := by decide +kernel
theorem d213_99 : decode (xB 213) 99 = .ok (.iload 10, 2) := by decide +kernel
theorem d213_101 : decode (xB 213) 101 = .ok (.iload_n 3, 1) := by decide +kernel
theorem d213_102 : decode (xB 213) 102 = .ok (.if_icmp .ge 83, 3) := by decide +kernel
theorem d213_105 : decode (xB 213) 105 = .ok (.iload 9, 2) := by decide +kernel
theorem d213_107 : decode (xB 213) 107 = .ok (.aload_n 0, 1) := by decide +kernel
theorem d213_108 : decode (xB 213) 108 = .ok (.getfield 138, 3) := by decide +kernel
theorem d213_111 : decode (xB 213) 111 = .ok (.idiv, 1) := by decide +kernel
theorem d213_112 : decode (xB 213) 112 = .ok (.istore 9, 2) := by decide +kernel
theorem d213_114 : decode (xB 213) 114 = .ok (.aload_n 0, 1) := by decide +kernel
theorem d213_115 : decode (xB 213) 115 = .ok (.getfield 69, 3) := by decide +kernel
theorem d213_118 : decode (xB 213) 118 = .ok (.iload_n 1, 1) := by decide +kernel
theorem d213_119 : decode (xB 213) 119 = .ok (.iload 7, 2) := by decide +kernel
theorem d213_121 : decode (xB 213) 121 = .ok (.iload 9, 2) := by decide +kernel
theorem d213_123 : decode (xB 213) 123 = .ok (.idiv, 1) := by decide +kernel
theorem d213_124 : decode (xB 213) 124 = .ok (.aload_n 0, 1) := by decide +kernel
theorem d213_125 : decode (xB 213) 125 = .ok (.getfield 138, 3) := by decide +kernel
theorem d213_128 : decode (xB 213) 128 = .ok (.irem, 1) := by decide +kernel
theorem d213_129 : decode (xB 213) 129 = .ok (.iastore, 1) := by decide +kernel
theorem d213_130 : decode (xB 213) 130 = .ok (.iload 9, 2) := by decide +kernel
theorem d213_132 : decode (xB 213) 132 = .ok (.aload_n 0, 1) := by decide +kernel
theorem d213_133 : decode (xB 213) 133 = .ok (.getfield 138, 3) := by decide +kernel
theorem d213_136 : decode (xB 213) 136 = .ok (.idiv, 1) := by decide +kernel
theorem d213_137 : decode (xB 213) 137 = .ok (.istore 9, 2) := by decide +kernel
theorem d213_139 : decode (xB 213) 139 = .ok (.aload_n 0, 1) := by decide +kernel
theorem d213_140 : decode (xB 213) 140 = .ok (.getfield 69, 3) := by decide +kernel
theorem d213_143 : decode (xB 213) 143 = .ok (.iload_n 2, 1) := by decide +kernel
theorem d213_144 : decode (xB 213) 144 = .ok (.iload 7, 2) := by decide +kernel
theorem d213_146 : decode (xB 213) 146 = .ok (.iload 9, 2) := by decide +kernel
theorem d213_148 : decode (xB 213) 148 = .ok (.idiv, 1) := by decide +kernel
theorem d213_149 : decode (xB 213) 149 = .ok (.aload_n 0, 1) := by decide +kernel
theorem d213_150 : decode (xB 213) 150 = .ok (.getfield 138, 3) := by decide +kernel
theorem d213_153 : decode (xB 213) 153 = .ok (.irem, 1) := by decide +kernel
theorem d213_154 : decode (xB 213) 154 = .ok (.iastore, 1) := by decide +kernel
theorem d213_155 : decode (xB 213) 155 = .ok (.aload_n 0, 1) := by decide +kernel
theorem d213_156 : decode (xB 213) 156 = .ok (.invokevirtual 252, 3) := by decide +kernel
theorem d213_159 : decode (xB 213) 159 = .ok (.pop, 1) := by decide +kernel
theorem d213_160 : decode (xB 213) 160 = .ok (.iload 8, 2) := by decide +kernel
theorem d213_162 : decode (xB 213) 162 = .ok (.aload_n 0, 1) := by decide +kernel
theorem d213_163 : decode (xB 213) 163 = .ok (.iload_n 1, 1) := by decide +kernel
theorem d213_164 : decode (xB 213) 164 = .ok (.iload_n 2, 1) := by decide +kernel
theorem d213_165 : decode (xB 213) 165 = .ok (.invokevirtual 297, 3) := by decide +kernel
theorem d213_168 : decode (xB 213) 168 = .ok (.ifCond .eq 7, 3) := by decide +kernel
theorem d213_171 : decode (xB 213) 171 = .ok (.iconst 1, 1) := by decide +kernel
theorem d213_172 : decode (xB 213) 172 = .ok (.goto 4, 3) := by decide +kernel
theorem d213_175 : decode (xB 213) 175 = .ok (.iconst 0, 1) := by decide +kernel
theorem d213_176 : decode (xB 213) 176 = .ok (.iadd, 1) := by decide +kernel
theorem d213_177 : decode (xB 213) 177 = .ok (.istore 8, 2) := by decide +kernel
theorem d213_179 : decode (xB 213) 179 = .ok (.iinc 10 1, 3) := by decide +kernel
theorem d213_182 : decode (xB 213) 182 = .ok (.goto (-83), 3) := by decide +kernel
theorem d213_185 : decode (xB 213) 185 = .ok (.aload_n 0, 1) := by decide +kernel
theorem d213_186 : decode (xB 213) 186 = .ok (.aload_n 0, 1) := by decide +kernel
theorem d213_187 : decode (xB 213) 187 = .ok (.getfield 87, 3) := by decide +kernel
theorem d213_190 : decode (xB 213) 190 = .ok (.iconst 0, 1) := by decide +kernel
theorem d213_191 : decode (xB 213) 191 = .ok (.invokevirtual 261, 3) := by decide +kernel
theorem d213_194 : decode (xB 213) 194 = .ok (.iload 8, 2) := by decide +kernel
theorem d213_196 : decode (xB 213) 196 = .ok (.iload 6, 2) := by decide +kernel
theorem d213_198 : decode (xB 213) 198 = .ok (.if_icmp .gt 6, 3) := by decide +kernel
theorem d213_201 : decode (xB 213) 201 = .ok (.goto 11, 3) := by decide +kernel
theorem d213_204 : decode (xB 213) 204 = .ok (.iload 7, 2) := by decide +kernel
theorem d213_206 : decode (xB 213) 206 = .ok (.istore 5, 2) := by decide +kernel
theorem d213_208 : decode (xB 213) 208 = .ok (.iload 8, 2) := by decide +kernel
theorem d213_210 : decode (xB 213) 210 = .ok (.istore 6, 2) := by decide +kernel
theorem d213_212 : decode (xB 213) 212 = .ok (.iinc 7 1, 3) := by decide +kernel
theorem d213_215 : decode (xB 213) 215 = .ok (.goto (-133), 3) := by decide +kernel
theorem d213_218 : decode (xB 213) 218 = .ok (.aload_n 0, 1) := by decide +kernel
theorem d213_219 : decode (xB 213) 219 = .ok (.getfield 69, 3) := by decide +kernel
theorem d213_222 : decode (xB 213) 222 = .ok (.iload_n 1, 1) := by decide +kernel
theorem d213_223 : decode (xB 213) 223 = .ok (.bipush 99, 2) := by decide +kernel
theorem d213_225 : decode (xB 213) 225 = .ok (.iastore, 1) := by decide +kernel
theorem d213_226 : decode (xB 213) 226 = .ok (.aload_n 0, 1) := by decide +kernel
theorem d213_227 : decode (xB 213) 227 = .ok (.getfield 69, 3) := by decide +kernel
theorem d213_230 : decode (xB 213) 230 = .ok (.iload_n 2, 1) := by decide +kernel
theorem d213_231 : decode (xB 213) 231 = .ok (.bipush 99, 2) := by decide +kernel
theorem d213_233 : decode (xB 213) 233 = .ok (.iastore, 1) := by decide +kernel
theorem d213_234 : decode (xB 213) 234 = .ok (.aload_n 0, 1) := by decide +kernel
theorem d213_235 : decode (xB 213) 235 = .ok (.iconst 0, 1) := by decide +kernel
theorem d213_236 : decode (xB 213) 236 = .ok (.putfield 124, 3) := by decide +kernel
theorem d213_239 : decode (xB 213) 239 = .ok (.iload 4, 2) := by decide +kernel
theorem d213_241 : decode (xB 213) 241 = .ok (.istore 7, 2) := by decide +kernel
theorem d213_243 : decode (xB 213) 243 = .ok (.iconst 0, 1) := by decide +kernel
theorem d213_244 : decode (xB 213) 244 = .ok (.istore 8, 2) := by decide +kernel
theorem d213_246 : decode (xB 213) 246 = .ok (.iload 8, 2) := by decide +kernel
theorem d213_248 : decode (xB 213) 248 = .ok (.iconst 2, 1) := by decide +kernel
theorem d213_249 : decode (xB 213) 249 = .ok (.iload_n 3, 1) := by decide +kernel
theorem d213_250 : decode (xB 213) 250 = .ok (.imul, 1) := by decide +kernel
theorem d213_251 : decode (xB 213) 251 = .ok (.if_icmp .ge 32, 3) := by decide +kernel
theorem d213_254 : decode (xB 213) 254 = .ok (.iload 7, 2) := by decide +kernel
theorem d213_256 : decode (xB 213) 256 = .ok (.aload_n 0, 1) := by decide +kernel
theorem d213_257 : decode (xB 213) 257 = .ok (.getfield 138, 3) := by decide +kernel
theorem d213_260 : decode (xB 213) 260 = .ok (.idiv, 1) := by decide +kernel
theorem d213_261 : decode (xB 213) 261 = .ok (.istore 7, 2) := by decide +kernel
theorem d213_263 : decode (xB 213) 263 = .ok (.aload_n 0, 1) := by decide +kernel
theorem d213_264 : decode (xB 213) 264 = .ok (.iload 5, 2) := by decide +kernel
theorem d213_266 : decode (xB 213) 266 = .ok (.iload 7, 2) := by decide +kernel
theorem d213_268 : decode (xB 213) 268 = .ok (.idiv, 1) := by decide +kernel
theorem d213_269 : decode (xB 213) 269 = .ok (.aload_n 0, 1) := by decide +kernel
theorem d213_270 : decode (xB 213) 270 = .ok (.getfield 138, 3) := by decide +kernel
theorem d213_273 : decode (xB 213) 273 = .ok (.irem, 1) := by decide +kernel
theorem d213_274 : decode (xB 213) 274 = .ok (.invokevirtual 258, 3) := by decide +kernel
theorem d213_277 : decode (xB 213) 277 = .ok (.iinc 8 1, 3) := by decide +kernel
theorem d213_280 : decode (xB 213) 280 = .ok (.goto (-34), 3) := by decide +kernel
theorem d213_283 : decode (xB 213) 283 = .ok (.iload 6, 2) := by decide +kernel
theorem d213_285 : decode (xB 213) 285 = .ok (.ireturn, 1) := by decide +kernel
theorem b213_0 {d : Nat} {P : xPr} {Q : xQr} {r : Nat} {mem : Nat → Nat → Int32} (hP : Cl d none 213 P Q) {p0 : Int32} {p1 : Int32} {p2 : Int32}
    (k : xCall d 163 [.ref 108, .int p0, .int p1] (LAY, RFu r, xu2 mem 108 20 (nI 0)) (Bk P 8 [.ref 108, .int p0, .int p1, .int p2, .null, .null, .null, .null, .null, .null, .null] [] (0, 0))) : P 0 [.ref 108, .int p0, .int p1, .int p2, .null, .null, .null, .null, .null, .null, .null] [] (0, 0) (LAY, RFu r, mem) := by
  refine r_aload_n hP d213_0 rfl ?_
  refine r_iconst (v := nI 0) hP d213_1 rfl ?_
  refine r_puti hP d213_2 fr_12_121 rfl (fun q => by cases q) ly_108 ?_
  refine r_aload_n hP d213_5 rfl ?_
  refine r_iload_n hP d213_6 rfl ?_
  refine r_iload_n hP d213_7 rfl ?_
  exact r_callv (As := [.int p0, .int p1]) (S := []) hP d213_8 cr_12_286 (by decide +kernel) rfl (by simp [Value.category]) rfl ly_108 (by simp [Value.category]) ⟨Nat.zero_le _, Nat.zero_le _⟩ k
theorem b213_11 {d : Nat} {P : xPr} {Q : xQr} {r : Nat} {mem : Nat → Nat → Int32} (hP : Cl d none 213 P Q) {x1 : Int32} {x2 : Int32} {x3 : Int32} {v4 : Value} {v5 : Value} {v6 : Value} {v7 : Value} {v8 : Value} {v9 : Value} {v10 : Value} {y0 : Int32}
    (kt : y0 = 0 → P 23 [.ref 108, .int x1, .int x2, .int x3, v4, v5, v6, v7, v8, v9, v10] [] (0, 0) (LAY, RFu r, mem)) (kf : ¬ y0 = 0 → P 14 [.ref 108, .int x1, .int x2, .int x3, v4, v5, v6, v7, v8, v9, v10] [] (0, 0) (LAY, RFu r, mem)) : P 11 [.ref 108, .int x1, .int x2, .int x3, v4, v5, v6, v7, v8, v9, v10] [.int y0] (0, 0) (LAY, RFu r, mem) := by
  exact r_if (t := 23) hP d213_11 (by decide) kt kf
theorem b213_14 {d : Nat} {P : xPr} {Q : xQr} {r : Nat} {mem : Nat → Nat → Int32} (hP : Cl d none 213 P Q) {x1 : Int32} {x2 : Int32} {x3 : Int32} {v4 : Value} {v5 : Value} {v6 : Value} {v7 : Value} {v8 : Value} {v9 : Value} {v10 : Value}
    (k : xCall d 158 [.int x3, .int (nI 0), .int (nI 3)] (LAY, RFu r, mem) (Bk P 17 [.ref 108, .int x1, .int x2, .int x3, v4, v5, v6, v7, v8, v9, v10] [] (0, 0))) : P 14 [.ref 108, .int x1, .int x2, .int x3, v4, v5, v6, v7, v8, v9, v10] [] (0, 0) (LAY, RFu r, mem) := by
  refine r_iload_n hP d213_14 rfl ?_
  refine r_iconst (v := nI 0) hP d213_15 rfl ?_
  refine r_iconst (v := nI 3) hP d213_16 rfl ?_
  exact r_calls (As := [.int x3, .int (nI 0), .int (nI 3)]) (S := []) hP d213_17 cr_12_130 (by decide +kernel) rfl (by simp [Value.category]) rfl (by simp [Value.category]) ⟨Nat.zero_le _, Nat.zero_le _⟩ k
theorem b213_20 {d : Nat} {P : xPr} {Q : xQr} {r : Nat} {mem : Nat → Nat → Int32} (hP : Cl d none 213 P Q) {x1 : Int32} {x2 : Int32} {x3 : Int32} {v4 : Value} {v5 : Value} {v6 : Value} {v7 : Value} {v8 : Value} {v9 : Value} {v10 : Value} {y0 : Int32}
    (kt : ¬ y0 = 0 → P 25 [.ref 108, .int x1, .int x2, .int x3, v4, v5, v6, v7, v8, v9, v10] [] (0, 0) (LAY, RFu r, mem)) (kf : y0 = 0 → P 23 [.ref 108, .int x1, .int x2, .int x3, v4, v5, v6, v7, v8, v9, v10] [] (0, 0) (LAY, RFu r, mem)) : P 20 [.ref 108, .int x1, .int x2, .int x3, v4, v5, v6, v7, v8, v9, v10] [.int y0] (0, 0) (LAY, RFu r, mem) := by
  exact r_if (t := 25) hP d213_20 (by decide) kt (fun q => kf (Decidable.of_not_not q))
theorem b213_23 {d : Nat} {P : xPr} {Q : xQr} {r : Nat} {mem : Nat → Nat → Int32} (hP : Cl d none 213 P Q) {v0 : Value} {v1 : Value} {v2 : Value} {v3 : Value} {v4 : Value} {v5 : Value} {v6 : Value} {v7 : Value} {v8 : Value} {v9 : Value} {v10 : Value}
    (k : Q (some (.int (-1))) (LAY, RFu r, mem)) : P 23 [v0, v1, v2, v3, v4, v5, v6, v7, v8, v9, v10] [] (0, 0) (LAY, RFu r, mem) := by
  refine r_iconst (v := (-1)) hP d213_23 rfl ?_
  exact r_iret hP d213_24 rfl k
theorem b213_25 {d : Nat} {P : xPr} {Q : xQr} {r : Nat} {mem : Nat → Nat → Int32} (hP : Cl d none 213 P Q) {x1 : Int32} {x2 : Int32} {x3 : Int32} {v4 : Value} {v5 : Value} {v6 : Value} {v7 : Value} {v8 : Value} {v9 : Value} {v10 : Value}
    (kt : ¬ (mem 108 0) = 0 → P 35 [.ref 108, .int x1, .int x2, .int x3, v4, v5, v6, v7, v8, v9, v10] [] (0, 0) (LAY, RFu r, mem)) (kf : (mem 108 0) = 0 → P 32 [.ref 108, .int x1, .int x2, .int x3, v4, v5, v6, v7, v8, v9, v10] [] (0, 0) (LAY, RFu r, mem)) : P 25 [.ref 108, .int x1, .int x2, .int x3, v4, v5, v6, v7, v8, v9, v10] [] (0, 0) (LAY, RFu r, mem) := by
  refine r_aload_n hP d213_25 rfl ?_
  refine r_geti hP d213_26 fr_12_138 rfl ly_108 ?_
  exact r_if (t := 35) hP d213_29 (by decide) kt (fun q => kf (Decidable.of_not_not q))
theorem b213_32 {d : Nat} {P : xPr} {Q : xQr} {r : Nat} {mem : Nat → Nat → Int32} (hP : Cl d none 213 P Q) {v0 : Value} {v1 : Value} {v2 : Value} {v3 : Value} {v4 : Value} {v5 : Value} {v6 : Value} {v7 : Value} {v8 : Value} {v9 : Value} {v10 : Value}
    (k : Q (some (.int (-2))) (LAY, RFu r, mem)) : P 32 [v0, v1, v2, v3, v4, v5, v6, v7, v8, v9, v10] [] (0, 0) (LAY, RFu r, mem) := by
  refine r_bipush (v := (-2)) hP d213_32 rfl ?_
  exact r_iret hP d213_34 rfl k
theorem b213_35 {d : Nat} {P : xPr} {Q : xQr} {r : Nat} {mem : Nat → Nat → Int32} (hP : Cl d none 213 P Q) {x1 : Int32} {x2 : Int32} {x3 : Int32} {v4 : Value} {v5 : Value} {v6 : Value} {v7 : Value} {v8 : Value} {v9 : Value} {v10 : Value}
    (k : xCall d 191 [.ref 108, .ref 133, .int (nI 0)] (LAY, RFu r, mem) (Bk P 41 [.ref 108, .int x1, .int x2, .int x3, v4, v5, v6, v7, v8, v9, v10] [] (0, 0))) : P 35 [.ref 108, .int x1, .int x2, .int x3, v4, v5, v6, v7, v8, v9, v10] [] (0, 0) (LAY, RFu r, mem) := by
  refine r_aload_n hP d213_35 rfl ?_
  refine r_aload_n hP d213_36 rfl ?_
  refine r_getr (a := 133) hP d213_37 fr_12_87 rfl ly_108 rg_108_38 ?_
  refine r_iconst (v := nI 0) hP d213_40 rfl ?_
  exact r_callv (As := [.ref 133, .int (nI 0)]) (S := []) hP d213_41 cr_12_245 (by decide +kernel) rfl (by simp [Value.category]) rfl ly_108 (by simp [Value.category]) ⟨Nat.zero_le _, Nat.zero_le _⟩ k
theorem b213_44 {d : Nat} {P : xPr} {Q : xQr} {r : Nat} {mem : Nat → Nat → Int32} (hP : Cl d none 213 P Q) {x1 : Int32} {x2 : Int32} {x3 : Int32} {v4 : Value} {v5 : Value} {v6 : Value} {v7 : Value} {v8 : Value} {v9 : Value} {v10 : Value}
    (k : P 50 [.ref 108, .int x1, .int x2, .int x3, .int (nI 1), .int (nI 0), v6, v7, v8, v9, v10] [] (0, 0) (LAY, RFu r, mem)) : P 44 [.ref 108, .int x1, .int x2, .int x3, v4, v5, v6, v7, v8, v9, v10] [] (0, 0) (LAY, RFu r, mem) := by
  refine r_iconst (v := nI 1) hP d213_44 rfl ?_
  refine r_istore (L' := [.ref 108, .int x1, .int x2, .int x3, .int (nI 1), v5, v6, v7, v8, v9, v10]) hP d213_45 (Nat.le_of_ble_eq_true rfl) rfl ?_
  refine r_iconst (v := nI 0) hP d213_47 rfl ?_
  refine r_istore (L' := [.ref 108, .int x1, .int x2, .int x3, .int (nI 1), .int (nI 0), v6, v7, v8, v9, v10]) hP d213_48 (Nat.le_of_ble_eq_true rfl) rfl ?_
  exact k
theorem b213_50 {d : Nat} {P : xPr} {Q : xQr} {r : Nat} {mem : Nat → Nat → Int32} (hP : Cl d none 213 P Q) {x1 : Int32} {x2 : Int32} {x3 : Int32} {x4 : Int32} {x5 : Int32} {v6 : Value} {v7 : Value} {v8 : Value} {v9 : Value} {v10 : Value}
    (kt : ((nI 2) * x3) ≤ x5 → P 73 [.ref 108, .int x1, .int x2, .int x3, .int x4, .int x5, v6, v7, v8, v9, v10] [] (0, 0) (LAY, RFu r, mem)) (kf : ¬ ((nI 2) * x3) ≤ x5 → P 58 [.ref 108, .int x1, .int x2, .int x3, .int x4, .int x5, v6, v7, v8, v9, v10] [] (0, 0) (LAY, RFu r, mem)) : P 50 [.ref 108, .int x1, .int x2, .int x3, .int x4, .int x5, v6, v7, v8, v9, v10] [] (0, 0) (LAY, RFu r, mem) := by
  refine r_iload hP d213_50 rfl ?_
  refine r_iconst (v := nI 2) hP d213_52 rfl ?_
  refine r_iload_n hP d213_53 rfl ?_
  refine r_imul hP d213_54 ?_
  exact r_icmp (t := 73) hP d213_55 (by decide) kt kf
theorem b213_58 {d : Nat} {P : xPr} {Q : xQr} {r : Nat} {mem : Nat → Nat → Int32} (hP : Cl d none 213 P Q) {x1 : Int32} {x2 : Int32} {x3 : Int32} {x4 : Int32} {x5 : Int32} {v6 : Value} {v7 : Value} {v8 : Value} {v9 : Value} {v10 : Value}
    (k : P 50 [.ref 108, .int x1, .int x2, .int x3, .int (x4 * (mem 108 0)), .int (x5 + nI 1), v6, v7, v8, v9, v10] [] (0, 0) (LAY, RFu r, mem)) : P 58 [.ref 108, .int x1, .int x2, .int x3, .int x4, .int x5, v6, v7, v8, v9, v10] [] (0, 0) (LAY, RFu r, mem) := by
  refine r_iload hP d213_58 rfl ?_
  refine r_aload_n hP d213_60 rfl ?_
  refine r_geti hP d213_61 fr_12_138 rfl ly_108 ?_
  refine r_imul hP d213_64 ?_
  refine r_istore (L' := [.ref 108, .int x1, .int x2, .int x3, .int (x4 * (mem 108 0)), .int x5, v6, v7, v8, v9, v10]) hP d213_65 (Nat.le_of_ble_eq_true rfl) rfl ?_
  refine r_iinc (v := nI 1) (L' := [.ref 108, .int x1, .int x2, .int x3, .int (x4 * (mem 108 0)), .int (x5 + nI 1), v6, v7, v8, v9, v10]) hP d213_67 rfl rfl rfl ?_
  refine r_goto (t := 50) hP d213_70 (by decide) ?_
  exact k
theorem b213_73 {d : Nat} {P : xPr} {Q : xQr} {r : Nat} {mem : Nat → Nat → Int32} (hP : Cl d none 213 P Q) {x1 : Int32} {x2 : Int32} {x3 : Int32} {x4 : Int32} {v5 : Value} {v6 : Value} {v7 : Value} {v8 : Value} {v9 : Value} {v10 : Value}
    (k : P 82 [.ref 108, .int x1, .int x2, .int x3, .int x4, .int (nI 0), .int (-1), .int (nI 0), v8, v9, v10] [] (0, 0) (LAY, RFu r, mem)) : P 73 [.ref 108, .int x1, .int x2, .int x3, .int x4, v5, v6, v7, v8, v9, v10] [] (0, 0) (LAY, RFu r, mem) := by
  refine r_iconst (v := nI 0) hP d213_73 rfl ?_
  refine r_istore (L' := [.ref 108, .int x1, .int x2, .int x3, .int x4, .int (nI 0), v6, v7, v8, v9, v10]) hP d213_74 (Nat.le_of_ble_eq_true rfl) rfl ?_
  refine r_iconst (v := (-1)) hP d213_76 rfl ?_
  refine r_istore (L' := [.ref 108, .int x1, .int x2, .int x3, .int x4, .int (nI 0), .int (-1), v7, v8, v9, v10]) hP d213_77 (Nat.le_of_ble_eq_true rfl) rfl ?_
  refine r_iconst (v := nI 0) hP d213_79 rfl ?_
  refine r_istore (L' := [.ref 108, .int x1, .int x2, .int x3, .int x4, .int (nI 0), .int (-1), .int (nI 0), v8, v9, v10]) hP d213_80 (Nat.le_of_ble_eq_true rfl) rfl ?_
  exact k
theorem b213_82 {d : Nat} {P : xPr} {Q : xQr} {r : Nat} {mem : Nat → Nat → Int32} (hP : Cl d none 213 P Q) {x1 : Int32} {x2 : Int32} {x3 : Int32} {x4 : Int32} {x5 : Int32} {x6 : Int32} {x7 : Int32} {v8 : Value} {v9 : Value} {v10 : Value}
    (kt : x4 ≤ x7 → P 218 [.ref 108, .int x1, .int x2, .int x3, .int x4, .int x5, .int x6, .int x7, v8, v9, v10] [] (0, 0) (LAY, RFu r, mem)) (kf : ¬ x4 ≤ x7 → P 89 [.ref 108, .int x1, .int x2, .int x3, .int x4, .int x5, .int x6, .int x7, v8, v9, v10] [] (0, 0) (LAY, RFu r, mem)) : P 82 [.ref 108, .int x1, .int x2, .int x3, .int x4, .int x5, .int x6, .int x7, v8, v9, v10] [] (0, 0) (LAY, RFu r, mem) := by
  refine r_iload hP d213_82 rfl ?_
  refine r_iload hP d213_84 rfl ?_
  exact r_icmp (t := 218) hP d213_86 (by decide) kt kf
theorem b213_89 {d : Nat} {P : xPr} {Q : xQr} {r : Nat} {mem : Nat → Nat → Int32} (hP : Cl d none 213 P Q) {x1 : Int32} {x2 : Int32} {x3 : Int32} {x4 : Int32} {x5 : Int32} {x6 : Int32} {x7 : Int32} {v8 : Value} {v9 : Value} {v10 : Value}
    (k : P 99 [.ref 108, .int x1, .int x2, .int x3, .int x4, .int x5, .int x6, .int x7, .int (nI 0), .int x4, .int (nI 0)] [] (0, 0) (LAY, RFu r, mem)) : P 89 [.ref 108, .int x1, .int x2, .int x3, .int x4, .int x5, .int x6, .int x7, v8, v9, v10] [] (0, 0) (LAY, RFu r, mem) := by
  refine r_iconst (v := nI 0) hP d213_89 rfl ?_
  refine r_istore (L' := [.ref 108, .int x1, .int x2, .int x3, .int x4, .int x5, .int x6, .int x7, .int (nI 0), v9, v10]) hP d213_90 (Nat.le_of_ble_eq_true rfl) rfl ?_
  refine r_iload hP d213_92 rfl ?_
  refine r_istore (L' := [.ref 108, .int x1, .int x2, .int x3, .int x4, .int x5, .int x6, .int x7, .int (nI 0), .int x4, v10]) hP d213_94 (Nat.le_of_ble_eq_true rfl) rfl ?_
  refine r_iconst (v := nI 0) hP d213_96 rfl ?_
  refine r_istore (L' := [.ref 108, .int x1, .int x2, .int x3, .int x4, .int x5, .int x6, .int x7, .int (nI 0), .int x4, .int (nI 0)]) hP d213_97 (Nat.le_of_ble_eq_true rfl) rfl ?_
  exact k
theorem b213_99 {d : Nat} {P : xPr} {Q : xQr} {r : Nat} {mem : Nat → Nat → Int32} (hP : Cl d none 213 P Q) {x1 : Int32} {x2 : Int32} {x3 : Int32} {x4 : Int32} {x5 : Int32} {x6 : Int32} {x7 : Int32} {x8 : Int32} {x9 : Int32} {x10 : Int32}
    (kt : x3 ≤ x10 → P 185 [.ref 108, .int x1, .int x2, .int x3, .int x4, .int x5, .int x6, .int x7, .int x8, .int x9, .int x10] [] (0, 0) (LAY, RFu r, mem)) (kf : ¬ x3 ≤ x10 → P 105 [.ref 108, .int x1, .int x2, .int x3, .int x4, .int x5, .int x6, .int x7, .int x8, .int x9, .int x10] [] (0, 0) (LAY, RFu r, mem)) : P 99 [.ref 108, .int x1, .int x2, .int x3, .int x4, .int x5, .int x6, .int x7, .int x8, .int x9, .int x10] [] (0, 0) (LAY, RFu r, mem) := by
  refine r_iload hP d213_99 rfl ?_
  refine r_iload_n hP d213_101 rfl ?_
  exact r_icmp (t := 185) hP d213_102 (by decide) kt kf
theorem b213_105 {d : Nat} {P : xPr} {Q : xQr} {r : Nat} {mem : Nat → Nat → Int32} (hP : Cl d none 213 P Q) {x1 : Int32} {x2 : Int32} {x3 : Int32} {x4 : Int32} {x5 : Int32} {x6 : Int32} {x7 : Int32} {x8 : Int32} {x9 : Int32} {x10 : Int32} (hz111 : ¬ (mem 108 0) = 0) (hz123 : ¬ (x9 / (mem 108 0)) = 0) (hz128 : ¬ (mem 108 0) = 0) (hi129 : vp_in x1 8) (hz136 : ¬ ((xu2 mem 128 x1.toNatClampNeg ((x7 / (x9 / (mem 108 0))) - (x7 / (x9 / (mem 108 0))) / (mem 108 0) * (mem 108 0))) 108 0) = 0) (hz148 : ¬ ((x9 / (mem 108 0)) / ((xu2 mem 128 x1.toNatClampNeg ((x7 / (x9 / (mem 108 0))) - (x7 / (x9 / (mem 108 0))) / (mem 108 0) * (mem 108 0))) 108 0)) = 0) (hz153 : ¬ ((xu2 mem 128 x1.toNatClampNeg ((x7 / (x9 / (mem 108 0))) - (x7 / (x9 / (mem 108 0))) / (mem 108 0) * (mem 108 0))) 108 0) = 0) (hi154 : vp_in x2 8)
    (k : xCall d 190 [.ref 108] (LAY, RFu r, xu2 (xu2 mem 128 x1.toNatClampNeg ((x7 / (x9 / (mem 108 0))) - (x7 / (x9 / (mem 108 0))) / (mem 108 0) * (mem 108 0))) 128 x2.toNatClampNeg ((x7 / ((x9 / (mem 108 0)) / ((xu2 mem 128 x1.toNatClampNeg ((x7 / (x9 / (mem 108 0))) - (x7 / (x9 / (mem 108 0))) / (mem 108 0) * (mem 108 0))) 108 0))) - (x7 / ((x9 / (mem 108 0)) / ((xu2 mem 128 x1.toNatClampNeg ((x7 / (x9 / (mem 108 0))) - (x7 / (x9 / (mem 108 0))) / (mem 108 0) * (mem 108 0))) 108 0))) / ((xu2 mem 128 x1.toNatClampNeg ((x7 / (x9 / (mem 108 0))) - (x7 / (x9 / (mem 108 0))) / (mem 108 0) * (mem 108 0))) 108 0) * ((xu2 mem 128 x1.toNatClampNeg ((x7 / (x9 / (mem 108 0))) - (x7 / (x9 / (mem 108 0))) / (mem 108 0) * (mem 108 0))) 108 0))) (Bk P 156 [.ref 108, .int x1, .int x2, .int x3, .int x4, .int x5, .int x6, .int x7, .int x8, .int ((x9 / (mem 108 0)) / ((xu2 mem 128 x1.toNatClampNeg ((x7 / (x9 / (mem 108 0))) - (x7 / (x9 / (mem 108 0))) / (mem 108 0) * (mem 108 0))) 108 0)), .int x10] [] (0, 0))) : P 105 [.ref 108, .int x1, .int x2, .int x3, .int x4, .int x5, .int x6, .int x7, .int x8, .int x9, .int x10] [] (0, 0) (LAY, RFu r, mem) := by
  refine r_iload hP d213_105 rfl ?_
  refine r_aload_n hP d213_107 rfl ?_
  refine r_geti hP d213_108 fr_12_138 rfl ly_108 ?_
  refine r_idiv hP d213_111 hz111 ?_
  refine r_istore (L' := [.ref 108, .int x1, .int x2, .int x3, .int x4, .int x5, .int x6, .int x7, .int x8, .int (x9 / (mem 108 0)), .int x10]) hP d213_112 (Nat.le_of_ble_eq_true rfl) rfl ?_
  refine r_aload_n hP d213_114 rfl ?_
  refine r_getr (a := 128) hP d213_115 fr_12_69 rfl ly_108 rg_108_30 ?_
  refine r_iload_n hP d213_118 rfl ?_
  refine r_iload hP d213_119 rfl ?_
  refine r_iload hP d213_121 rfl ?_
  refine r_idiv hP d213_123 hz123 ?_
  refine r_aload_n hP d213_124 rfl ?_
  refine r_geti hP d213_125 fr_12_138 rfl ly_108 ?_
  refine r_irem hP d213_128 hz128 ?_
  refine r_iastore hP d213_129 ly_128 hi129 ?_
  refine r_iload hP d213_130 rfl ?_
  refine r_aload_n hP d213_132 rfl ?_
  refine r_geti hP d213_133 fr_12_138 rfl ly_108 ?_
  refine r_idiv hP d213_136 hz136 ?_
  refine r_istore (L' := [.ref 108, .int x1, .int x2, .int x3, .int x4, .int x5, .int x6, .int x7, .int x8, .int ((x9 / (mem 108 0)) / ((xu2 mem 128 x1.toNatClampNeg ((x7 / (x9 / (mem 108 0))) - (x7 / (x9 / (mem 108 0))) / (mem 108 0) * (mem 108 0))) 108 0)), .int x10]) hP d213_137 (Nat.le_of_ble_eq_true rfl) rfl ?_
  refine r_aload_n hP d213_139 rfl ?_
  refine r_getr (a := 128) hP d213_140 fr_12_69 rfl ly_108 rg_108_30 ?_
  refine r_iload_n hP d213_143 rfl ?_
  refine r_iload hP d213_144 rfl ?_
  refine r_iload hP d213_146 rfl ?_
  refine r_idiv hP d213_148 hz148 ?_
  refine r_aload_n hP d213_149 rfl ?_
  refine r_geti hP d213_150 fr_12_138 rfl ly_108 ?_
  refine r_irem hP d213_153 hz153 ?_
  refine r_iastore hP d213_154 ly_128 hi154 ?_
  refine r_aload_n hP d213_155 rfl ?_
  exact r_callv (As := []) (S := []) hP d213_156 cr_12_252 (by decide +kernel) rfl (by simp) rfl ly_108 (by simp [Value.category]) ⟨Nat.zero_le _, Nat.zero_le _⟩ k
theorem b213_159 {d : Nat} {P : xPr} {Q : xQr} {r : Nat} {mem : Nat → Nat → Int32} (hP : Cl d none 213 P Q) {x1 : Int32} {x2 : Int32} {x3 : Int32} {x4 : Int32} {x5 : Int32} {x6 : Int32} {x7 : Int32} {x8 : Int32} {x9 : Int32} {x10 : Int32} {y0 : Int32}
    (k : xCall d 212 [.ref 108, .int x1, .int x2] (LAY, RFu r, mem) (Bk P 165 [.ref 108, .int x1, .int x2, .int x3, .int x4, .int x5, .int x6, .int x7, .int x8, .int x9, .int x10] [.int x8] (0, 0))) : P 159 [.ref 108, .int x1, .int x2, .int x3, .int x4, .int x5, .int x6, .int x7, .int x8, .int x9, .int x10] [.int y0] (0, 0) (LAY, RFu r, mem) := by
  refine r_pop hP d213_159 rfl ?_
  refine r_iload hP d213_160 rfl ?_
  refine r_aload_n hP d213_162 rfl ?_
  refine r_iload_n hP d213_163 rfl ?_
  refine r_iload_n hP d213_164 rfl ?_
  exact r_callv (As := [.int x1, .int x2]) (S := [.int x8]) hP d213_165 cr_12_297 (by decide +kernel) rfl (by simp [Value.category]) rfl ly_108 (by simp [Value.category]) ⟨Nat.zero_le _, Nat.zero_le _⟩ k
theorem b213_168 {d : Nat} {P : xPr} {Q : xQr} {r : Nat} {mem : Nat → Nat → Int32} (hP : Cl d none 213 P Q) {x1 : Int32} {x2 : Int32} {x3 : Int32} {x4 : Int32} {x5 : Int32} {x6 : Int32} {x7 : Int32} {v8 : Value} {x9 : Int32} {x10 : Int32} {y0 : Int32} {y1 : Int32}
    (kt : y1 = 0 → P 175 [.ref 108, .int x1, .int x2, .int x3, .int x4, .int x5, .int x6, .int x7, v8, .int x9, .int x10] [.int y0] (0, 0) (LAY, RFu r, mem)) (kf : ¬ y1 = 0 → P 171 [.ref 108, .int x1, .int x2, .int x3, .int x4, .int x5, .int x6, .int x7, v8, .int x9, .int x10] [.int y0] (0, 0) (LAY, RFu r, mem)) : P 168 [.ref 108, .int x1, .int x2, .int x3, .int x4, .int x5, .int x6, .int x7, v8, .int x9, .int x10] [.int y1, .int y0] (0, 0) (LAY, RFu r, mem) := by
  exact r_if (t := 175) hP d213_168 (by decide) kt kf
theorem b213_171 {d : Nat} {P : xPr} {Q : xQr} {r : Nat} {mem : Nat → Nat → Int32} (hP : Cl d none 213 P Q) {x1 : Int32} {x2 : Int32} {x3 : Int32} {x4 : Int32} {x5 : Int32} {x6 : Int32} {x7 : Int32} {v8 : Value} {x9 : Int32} {x10 : Int32} {y0 : Int32}
    (k : P 176 [.ref 108, .int x1, .int x2, .int x3, .int x4, .int x5, .int x6, .int x7, v8, .int x9, .int x10] [.int (nI 1), .int y0] (0, 0) (LAY, RFu r, mem)) : P 171 [.ref 108, .int x1, .int x2, .int x3, .int x4, .int x5, .int x6, .int x7, v8, .int x9, .int x10] [.int y0] (0, 0) (LAY, RFu r, mem) := by
  refine r_iconst (v := nI 1) hP d213_171 rfl ?_
  refine r_goto (t := 176) hP d213_172 (by decide) ?_
  exact k
theorem b213_175 {d : Nat} {P : xPr} {Q : xQr} {r : Nat} {mem : Nat → Nat → Int32} (hP : Cl d none 213 P Q) {x1 : Int32} {x2 : Int32} {x3 : Int32} {x4 : Int32} {x5 : Int32} {x6 : Int32} {x7 : Int32} {v8 : Value} {x9 : Int32} {x10 : Int32} {y0 : Int32}
    (k : P 176 [.ref 108, .int x1, .int x2, .int x3, .int x4, .int x5, .int x6, .int x7, v8, .int x9, .int x10] [.int (nI 0), .int y0] (0, 0) (LAY, RFu r, mem)) : P 175 [.ref 108, .int x1, .int x2, .int x3, .int x4, .int x5, .int x6, .int x7, v8, .int x9, .int x10] [.int y0] (0, 0) (LAY, RFu r, mem) := by
  refine r_iconst (v := nI 0) hP d213_175 rfl ?_
  exact k
theorem b213_176 {d : Nat} {P : xPr} {Q : xQr} {r : Nat} {mem : Nat → Nat → Int32} (hP : Cl d none 213 P Q) {x1 : Int32} {x2 : Int32} {x3 : Int32} {x4 : Int32} {x5 : Int32} {x6 : Int32} {x7 : Int32} {v8 : Value} {x9 : Int32} {x10 : Int32} {y0 : Int32} {y1 : Int32}
    (k : P 99 [.ref 108, .int x1, .int x2, .int x3, .int x4, .int x5, .int x6, .int x7, .int (y0 + y1), .int x9, .int (x10 + nI 1)] [] (0, 0) (LAY, RFu r, mem)) : P 176 [.ref 108, .int x1, .int x2, .int x3, .int x4, .int x5, .int x6, .int x7, v8, .int x9, .int x10] [.int y1, .int y0] (0, 0) (LAY, RFu r, mem) := by
  refine r_iadd hP d213_176 ?_
  refine r_istore (L' := [.ref 108, .int x1, .int x2, .int x3, .int x4, .int x5, .int x6, .int x7, .int (y0 + y1), .int x9, .int x10]) hP d213_177 (Nat.le_of_ble_eq_true rfl) rfl ?_
  refine r_iinc (v := nI 1) (L' := [.ref 108, .int x1, .int x2, .int x3, .int x4, .int x5, .int x6, .int x7, .int (y0 + y1), .int x9, .int (x10 + nI 1)]) hP d213_179 rfl rfl rfl ?_
  refine r_goto (t := 99) hP d213_182 (by decide) ?_
  exact k
theorem b213_185 {d : Nat} {P : xPr} {Q : xQr} {r : Nat} {mem : Nat → Nat → Int32} (hP : Cl d none 213 P Q) {x1 : Int32} {x2 : Int32} {x3 : Int32} {x4 : Int32} {x5 : Int32} {x6 : Int32} {x7 : Int32} {x8 : Int32} {v9 : Value} {v10 : Value}
    (k : xCall d 192 [.ref 108, .ref 133, .int (nI 0)] (LAY, RFu r, mem) (Bk P 191 [.ref 108, .int x1, .int x2, .int x3, .int x4, .int x5, .int x6, .int x7, .int x8, v9, v10] [] (0, 0))) : P 185 [.ref 108, .int x1, .int x2, .int x3, .int x4, .int x5, .int x6, .int x7, .int x8, v9, v10] [] (0, 0) (LAY, RFu r, mem) := by
  refine r_aload_n hP d213_185 rfl ?_
  refine r_aload_n hP d213_186 rfl ?_
  refine r_getr (a := 133) hP d213_187 fr_12_87 rfl ly_108 rg_108_38 ?_
  refine r_iconst (v := nI 0) hP d213_190 rfl ?_
  exact r_callv (As := [.ref 133, .int (nI 0)]) (S := []) hP d213_191 cr_12_261 (by decide +kernel) rfl (by simp [Value.category]) rfl ly_108 (by simp [Value.category]) ⟨Nat.zero_le _, Nat.zero_le _⟩ k
theorem b213_194 {d : Nat} {P : xPr} {Q : xQr} {r : Nat} {mem : Nat → Nat → Int32} (hP : Cl d none 213 P Q) {x1 : Int32} {x2 : Int32} {x3 : Int32} {x4 : Int32} {x5 : Int32} {x6 : Int32} {x7 : Int32} {x8 : Int32} {v9 : Value} {v10 : Value}
    (kt : x6 < x8 → P 204 [.ref 108, .int x1, .int x2, .int x3, .int x4, .int x5, .int x6, .int x7, .int x8, v9, v10] [] (0, 0) (LAY, RFu r, mem)) (kf : ¬ x6 < x8 → P 201 [.ref 108, .int x1, .int x2, .int x3, .int x4, .int x5, .int x6, .int x7, .int x8, v9, v10] [] (0, 0) (LAY, RFu r, mem)) : P 194 [.ref 108, .int x1, .int x2, .int x3, .int x4, .int x5, .int x6, .int x7, .int x8, v9, v10] [] (0, 0) (LAY, RFu r, mem) := by
  refine r_iload hP d213_194 rfl ?_
  refine r_iload hP d213_196 rfl ?_
  exact r_icmp (t := 204) hP d213_198 (by decide) kt kf
theorem b213_201 {d : Nat} {P : xPr} {Q : xQr} {r : Nat} {mem : Nat → Nat → Int32} (hP : Cl d none 213 P Q) {x1 : Int32} {x2 : Int32} {x3 : Int32} {x4 : Int32} {x5 : Int32} {x6 : Int32} {x7 : Int32} {v8 : Value} {v9 : Value} {v10 : Value}
    (k : P 212 [.ref 108, .int x1, .int x2, .int x3, .int x4, .int x5, .int x6, .int x7, v8, v9, v10] [] (0, 0) (LAY, RFu r, mem)) : P 201 [.ref 108, .int x1, .int x2, .int x3, .int x4, .int x5, .int x6, .int x7, v8, v9, v10] [] (0, 0) (LAY, RFu r, mem) := by
  refine r_goto (t := 212) hP d213_201 (by decide) ?_
  exact k
theorem b213_204 {d : Nat} {P : xPr} {Q : xQr} {r : Nat} {mem : Nat → Nat → Int32} (hP : Cl d none 213 P Q) {x1 : Int32} {x2 : Int32} {x3 : Int32} {x4 : Int32} {v5 : Value} {v6 : Value} {x7 : Int32} {x8 : Int32} {v9 : Value} {v10 : Value}
    (k : P 212 [.ref 108, .int x1, .int x2, .int x3, .int x4, .int x7, .int x8, .int x7, .int x8, v9, v10] [] (0, 0) (LAY, RFu r, mem)) : P 204 [.ref 108, .int x1, .int x2, .int x3, .int x4, v5, v6, .int x7, .int x8, v9, v10] [] (0, 0) (LAY, RFu r, mem) := by
  refine r_iload hP d213_204 rfl ?_
  refine r_istore (L' := [.ref 108, .int x1, .int x2, .int x3, .int x4, .int x7, v6, .int x7, .int x8, v9, v10]) hP d213_206 (Nat.le_of_ble_eq_true rfl) rfl ?_
  refine r_iload hP d213_208 rfl ?_
  refine r_istore (L' := [.ref 108, .int x1, .int x2, .int x3, .int x4, .int x7, .int x8, .int x7, .int x8, v9, v10]) hP d213_210 (Nat.le_of_ble_eq_true rfl) rfl ?_
  exact k
theorem b213_212 {d : Nat} {P : xPr} {Q : xQr} {r : Nat} {mem : Nat → Nat → Int32} (hP : Cl d none 213 P Q) {x1 : Int32} {x2 : Int32} {x3 : Int32} {x4 : Int32} {x5 : Int32} {x6 : Int32} {x7 : Int32} {v8 : Value} {v9 : Value} {v10 : Value}
    (k : P 82 [.ref 108, .int x1, .int x2, .int x3, .int x4, .int x5, .int x6, .int (x7 + nI 1), v8, v9, v10] [] (0, 0) (LAY, RFu r, mem)) : P 212 [.ref 108, .int x1, .int x2, .int x3, .int x4, .int x5, .int x6, .int x7, v8, v9, v10] [] (0, 0) (LAY, RFu r, mem) := by
  refine r_iinc (v := nI 1) (L' := [.ref 108, .int x1, .int x2, .int x3, .int x4, .int x5, .int x6, .int (x7 + nI 1), v8, v9, v10]) hP d213_212 rfl rfl rfl ?_
  refine r_goto (t := 82) hP d213_215 (by decide) ?_
  exact k
theorem b213_218 {d : Nat} {P : xPr} {Q : xQr} {r : Nat} {mem : Nat → Nat → Int32} (hP : Cl d none 213 P Q) {x1 : Int32} {x2 : Int32} {x3 : Int32} {x4 : Int32} {x5 : Int32} {x6 : Int32} {v7 : Value} {v8 : Value} {v9 : Value} {v10 : Value} (hi225 : vp_in x1 8) (hi233 : vp_in x2 8)
    (k : P 246 [.ref 108, .int x1, .int x2, .int x3, .int x4, .int x5, .int x6, .int x4, .int (nI 0), v9, v10] [] (0, 0) (LAY, RFu r, xu2 (xu2 (xu2 mem 128 x1.toNatClampNeg (nI 99)) 128 x2.toNatClampNeg (nI 99)) 108 19 (nI 0))) : P 218 [.ref 108, .int x1, .int x2, .int x3, .int x4, .int x5, .int x6, v7, v8, v9, v10] [] (0, 0) (LAY, RFu r, mem) := by
  refine r_aload_n hP d213_218 rfl ?_
  refine r_getr (a := 128) hP d213_219 fr_12_69 rfl ly_108 rg_108_30 ?_
  refine r_iload_n hP d213_222 rfl ?_
  refine r_bipush (v := nI 99) hP d213_223 rfl ?_
  refine r_iastore hP d213_225 ly_128 hi225 ?_
  refine r_aload_n hP d213_226 rfl ?_
  refine r_getr (a := 128) hP d213_227 fr_12_69 rfl ly_108 rg_108_30 ?_
  refine r_iload_n hP d213_230 rfl ?_
  refine r_bipush (v := nI 99) hP d213_231 rfl ?_
  refine r_iastore hP d213_233 ly_128 hi233 ?_
  refine r_aload_n hP d213_234 rfl ?_
  refine r_iconst (v := nI 0) hP d213_235 rfl ?_
  refine r_puti hP d213_236 fr_12_124 rfl (fun q => by cases q) ly_108 ?_
  refine r_iload hP d213_239 rfl ?_
  refine r_istore (L' := [.ref 108, .int x1, .int x2, .int x3, .int x4, .int x5, .int x6, .int x4, v8, v9, v10]) hP d213_241 (Nat.le_of_ble_eq_true rfl) rfl ?_
  refine r_iconst (v := nI 0) hP d213_243 rfl ?_
  refine r_istore (L' := [.ref 108, .int x1, .int x2, .int x3, .int x4, .int x5, .int x6, .int x4, .int (nI 0), v9, v10]) hP d213_244 (Nat.le_of_ble_eq_true rfl) rfl ?_
  exact k
theorem b213_246 {d : Nat} {P : xPr} {Q : xQr} {r : Nat} {mem : Nat → Nat → Int32} (hP : Cl d none 213 P Q) {v1 : Value} {v2 : Value} {x3 : Int32} {v4 : Value} {x5 : Int32} {x6 : Int32} {x7 : Int32} {x8 : Int32} {v9 : Value} {v10 : Value}
    (kt : ((nI 2) * x3) ≤ x8 → P 283 [.ref 108, v1, v2, .int x3, v4, .int x5, .int x6, .int x7, .int x8, v9, v10] [] (0, 0) (LAY, RFu r, mem)) (kf : ¬ ((nI 2) * x3) ≤ x8 → P 254 [.ref 108, v1, v2, .int x3, v4, .int x5, .int x6, .int x7, .int x8, v9, v10] [] (0, 0) (LAY, RFu r, mem)) : P 246 [.ref 108, v1, v2, .int x3, v4, .int x5, .int x6, .int x7, .int x8, v9, v10] [] (0, 0) (LAY, RFu r, mem) := by
  refine r_iload hP d213_246 rfl ?_
  refine r_iconst (v := nI 2) hP d213_248 rfl ?_
  refine r_iload_n hP d213_249 rfl ?_
  refine r_imul hP d213_250 ?_
  exact r_icmp (t := 283) hP d213_251 (by decide) kt kf
theorem b213_254 {d : Nat} {P : xPr} {Q : xQr} {r : Nat} {mem : Nat → Nat → Int32} (hP : Cl d none 213 P Q) {v1 : Value} {v2 : Value} {x3 : Int32} {v4 : Value} {x5 : Int32} {x6 : Int32} {x7 : Int32} {x8 : Int32} {v9 : Value} {v10 : Value} (hz260 : ¬ (mem 108 0) = 0) (hz268 : ¬ (x7 / (mem 108 0)) = 0) (hz273 : ¬ (mem 108 0) = 0)
    (k : xCall d 161 [.ref 108, .int ((x5 / (x7 / (mem 108 0))) - (x5 / (x7 / (mem 108 0))) / (mem 108 0) * (mem 108 0))] (LAY, RFu r, mem) (Bk P 274 [.ref 108, v1, v2, .int x3, v4, .int x5, .int x6, .int (x7 / (mem 108 0)), .int x8, v9, v10] [] (0, 0))) : P 254 [.ref 108, v1, v2, .int x3, v4, .int x5, .int x6, .int x7, .int x8, v9, v10] [] (0, 0) (LAY, RFu r, mem) := by
  refine r_iload hP d213_254 rfl ?_
  refine r_aload_n hP d213_256 rfl ?_
  refine r_geti hP d213_257 fr_12_138 rfl ly_108 ?_
  refine r_idiv hP d213_260 hz260 ?_
  refine r_istore (L' := [.ref 108, v1, v2, .int x3, v4, .int x5, .int x6, .int (x7 / (mem 108 0)), .int x8, v9, v10]) hP d213_261 (Nat.le_of_ble_eq_true rfl) rfl ?_
  refine r_aload_n hP d213_263 rfl ?_
  refine r_iload hP d213_264 rfl ?_
  refine r_iload hP d213_266 rfl ?_
  refine r_idiv hP d213_268 hz268 ?_
  refine r_aload_n hP d213_269 rfl ?_
  refine r_geti hP d213_270 fr_12_138 rfl ly_108 ?_
  refine r_irem hP d213_273 hz273 ?_
  exact r_callv (As := [.int ((x5 / (x7 / (mem 108 0))) - (x5 / (x7 / (mem 108 0))) / (mem 108 0) * (mem 108 0))]) (S := []) hP d213_274 cr_12_258 (by decide +kernel) rfl (by simp [Value.category]) rfl ly_108 (by simp [Value.category]) ⟨Nat.zero_le _, Nat.zero_le _⟩ k
theorem b213_277 {d : Nat} {P : xPr} {Q : xQr} {r : Nat} {mem : Nat → Nat → Int32} (hP : Cl d none 213 P Q) {v1 : Value} {v2 : Value} {x3 : Int32} {v4 : Value} {x5 : Int32} {x6 : Int32} {x7 : Int32} {x8 : Int32} {v9 : Value} {v10 : Value}
    (k : P 246 [.ref 108, v1, v2, .int x3, v4, .int x5, .int x6, .int x7, .int (x8 + nI 1), v9, v10] [] (0, 0) (LAY, RFu r, mem)) : P 277 [.ref 108, v1, v2, .int x3, v4, .int x5, .int x6, .int x7, .int x8, v9, v10] [] (0, 0) (LAY, RFu r, mem) := by
  refine r_iinc (v := nI 1) (L' := [.ref 108, v1, v2, .int x3, v4, .int x5, .int x6, .int x7, .int (x8 + nI 1), v9, v10]) hP d213_277 rfl rfl rfl ?_
  refine r_goto (t := 246) hP d213_280 (by decide) ?_
  exact k
theorem b213_283 {d : Nat} {P : xPr} {Q : xQr} {r : Nat} {mem : Nat → Nat → Int32} (hP : Cl d none 213 P Q) {v0 : Value} {v1 : Value} {v2 : Value} {v3 : Value} {v4 : Value} {v5 : Value} {x6 : Int32} {v7 : Value} {v8 : Value} {v9 : Value} {v10 : Value}
    (k : Q (some (.int x6)) (LAY, RFu r, mem)) : P 283 [v0, v1, v2, v3, v4, v5, .int x6, v7, v8, v9, v10] [] (0, 0) (LAY, RFu r, mem) := by
  refine r_iload hP d213_283 rfl ?_
  exact r_iret hP d213_285 rfl k
theorem d214_0 : decode (xB 214) 0 = .ok (.aload_n 0, 1) := by decide +kernel
theorem d214_1 : decode (xB 214) 1 = .ok (.iconst 0, 1) := by decide +kernel
theorem d214_2 : decode (xB 214) 2 = .ok (.putfield 121, 3) := by decide +kernel
theorem d214_5 : decode (xB 214) 5 = .ok (.aload_n 0, 1) := by decide +kernel
theorem d214_6 : decode (xB 214) 6 = .ok (.iload_n 1, 1) := by decide +kernel
theorem d214_7 : decode (xB 214) 7 = .ok (.iload_n 2, 1) := by decide +kernel
theorem d214_8 : decode (xB 214) 8 = .ok (.invokevirtual 286, 3) := by decide +kernel
theorem d214_11 : decode (xB 214) 11 = .ok (.ifCond .ne 5, 3) := by decide +kernel
theorem d214_14 : decode (xB 214) 14 = .ok (.iconst (-1), 1) := by decide +kernel
theorem d214_15 : decode (xB 214) 15 = .ok (.ireturn, 1) := by decide +kernel
theorem d214_16 : decode (xB 214) 16 = .ok (.aload_n 0, 1) := by decide +kernel
theorem d214_17 : decode (xB 214) 17 = .ok (.aload_n 0, 1) := by decide +kernel
theorem d214_18 : decode (xB 214) 18 = .ok (.getfield 87, 3) := by decide +kernel
theorem d214_21 : decode (xB 214) 21 = .ok (.iconst 0, 1) := by decide +kernel
theorem d214_22 : decode (xB 214) 22 = .ok (.invokevirtual 245, 3) := by decide +kernel
theorem d214_25 : decode (xB 214) 25 = .ok (.bipush (-2), 2) := by decide +kernel
theorem d214_27 : decode (xB 214) 27 = .ok (.istore_n 3, 1) := by decide +kernel
theorem d214_28 : decode (xB 214) 28 = .ok (.iconst 1, 1) := by decide +kernel
theorem d214_29 : decode (xB 214) 29 = .ok (.istore 4, 2) := by decide +kernel
theorem d214_31 : decode (xB 214) 31 = .ok (.iload 4, 2) := by decide +kernel
theorem d214_33 : decode (xB 214) 33 = .ok (.sipush 200, 3) := by decide +kernel
theorem d214_36 : decode (xB 214) 36 = .ok (.if_icmp .gt 35, 3) := by decide +kernel
theorem d214_39 : decode (xB 214) 39 = .ok (.iload_n 3, 1) := by decide +kernel
theorem d214_40 : decode (xB 214) 40 = .ok (.ifCond .ge 31, 3) := by decide +kernel
theorem d214_43 : decode (xB 214) 43 = .ok (.aload_n 0, 1) := by decide +kernel
theorem d214_44 : decode (xB 214) 44 = .ok (.invokevirtual 252, 3) := by decide +kernel
theorem d214_47 : decode (xB 214) 47 = .ok (.pop, 1) := by decide +kernel
theorem d214_48 : decode (xB 214) 48 = .ok (.aload_n 0, 1) := by decide +kernel
theorem d214_49 : decode (xB 214) 49 = .ok (.iload_n 1, 1) := by decide +kernel
theorem d214_50 : decode (xB 214) 50 = .ok (.iload_n 2, 1) := by decide +kernel
theorem d214_51 : decode (xB 214) 51 = .ok (.invokevirtual 297, 3) := by decide +kernel
theorem d214_54 : decode (xB 214) 54 = .ok (.ifCond .eq 8, 3) := by decide +kernel
theorem d214_57 : decode (xB 214) 57 = .ok (.iload 4, 2) := by decide +kernel
theorem d214_59 : decode (xB 214) 59 = .ok (.goto 5, 3) := by decide +kernel
theorem d214_62 : decode (xB 214) 62 = .ok (.bipush (-2), 2) := by decide +kernel
theorem d214_64 : decode (xB 214) 64 = .ok (.istore_n 3, 1) := by decide +kernel
theorem d214_65 : decode (xB 214) 65 = .ok (.iinc 4 1, 3) := by decide +kernel
theorem d214_68 : decode (xB 214) 68 = .ok (.goto (-37), 3) := by decide +kernel
theorem d214_71 : decode (xB 214) 71 = .ok (.aload_n 0, 1) := by decide +kernel
theorem d214_72 : decode (xB 214) 72 = .ok (.aload_n 0, 1) := by decide +kernel
theorem d214_73 : decode (xB 214) 73 = .ok (.getfield 87, 3) := by decide +kernel
theorem d214_76 : decode (xB 214) 76 = .ok (.iconst 0, 1) := by decide +kernel
theorem d214_77 : decode (xB 214) 77 = .ok (.invokevirtual 261, 3) := by decide +kernel
theorem d214_80 : decode (xB 214) 80 = .ok (.iload_n 3, 1) := by decide +kernel
theorem d214_81 : decode (xB 214) 81 = .ok (.ireturn, 1) := by decide +kernel
theorem b214_0 {d : Nat} {P : xPr} {Q : xQr} {r : Nat} {mem : Nat → Nat → Int32} (hP : Cl d none 214 P Q) {p0 : Int32} {p1 : Int32}
    (k : xCall d 163 [.ref 108, .int p0, .int p1] (LAY, RFu r, xu2 mem 108 20 (nI 0)) (Bk P 8 [.ref 108, .int p0, .int p1, .null, .null] [] (0, 0))) : P 0 [.ref 108, .int p0, .int p1, .null, .null] [] (0, 0) (LAY, RFu r, mem) := by
  refine r_aload_n hP d214_0 rfl ?_
  refine r_iconst (v := nI 0) hP d214_1 rfl ?_
  refine r_puti hP d214_2 fr_12_121 rfl (fun q => by cases q) ly_108 ?_
  refine r_aload_n hP d214_5 rfl ?_
  refine r_iload_n hP d214_6 rfl ?_
  refine r_iload_n hP d214_7 rfl ?_
  exact r_callv (As := [.int p0, .int p1]) (S := []) hP d214_8 cr_12_286 (by decide +kernel) rfl (by simp [Value.category]) rfl ly_108 (by simp [Value.category]) ⟨Nat.zero_le _, Nat.zero_le _⟩ k
theorem b214_11 {d : Nat} {P : xPr} {Q : xQr} {r : Nat} {mem : Nat → Nat → Int32} (hP : Cl d none 214 P Q) {x1 : Int32} {x2 : Int32} {v3 : Value} {v4 : Value} {y0 : Int32}
    (kt : ¬ y0 = 0 → P 16 [.ref 108, .int x1, .int x2, v3, v4] [] (0, 0) (LAY, RFu r, mem)) (kf : y0 = 0 → P 14 [.ref 108, .int x1, .int x2, v3, v4] [] (0, 0) (LAY, RFu r, mem)) : P 11 [.ref 108, .int x1, .int x2, v3, v4] [.int y0] (0, 0) (LAY, RFu r, mem) := by
  exact r_if (t := 16) hP d214_11 (by decide) kt (fun q => kf (Decidable.of_not_not q))
theorem b214_14 {d : Nat} {P : xPr} {Q : xQr} {r : Nat} {mem : Nat → Nat → Int32} (hP : Cl d none 214 P Q) {v0 : Value} {v1 : Value} {v2 : Value} {v3 : Value} {v4 : Value}
    (k : Q (some (.int (-1))) (LAY, RFu r, mem)) : P 14 [v0, v1, v2, v3, v4] [] (0, 0) (LAY, RFu r, mem) := by
  refine r_iconst (v := (-1)) hP d214_14 rfl ?_
  exact r_iret hP d214_15 rfl k
theorem b214_16 {d : Nat} {P : xPr} {Q : xQr} {r : Nat} {mem : Nat → Nat → Int32} (hP : Cl d none 214 P Q) {x1 : Int32} {x2 : Int32} {v3 : Value} {v4 : Value}
    (k : xCall d 191 [.ref 108, .ref 133, .int (nI 0)] (LAY, RFu r, mem) (Bk P 22 [.ref 108, .int x1, .int x2, v3, v4] [] (0, 0))) : P 16 [.ref 108, .int x1, .int x2, v3, v4] [] (0, 0) (LAY, RFu r, mem) := by
  refine r_aload_n hP d214_16 rfl ?_
  refine r_aload_n hP d214_17 rfl ?_
  refine r_getr (a := 133) hP d214_18 fr_12_87 rfl ly_108 rg_108_38 ?_
  refine r_iconst (v := nI 0) hP d214_21 rfl ?_
  exact r_callv (As := [.ref 133, .int (nI 0)]) (S := []) hP d214_22 cr_12_245 (by decide +kernel) rfl (by simp [Value.category]) rfl ly_108 (by simp [Value.category]) ⟨Nat.zero_le _, Nat.zero_le _⟩ k
theorem b214_25 {d : Nat} {P : xPr} {Q : xQr} {r : Nat} {mem : Nat → Nat → Int32} (hP : Cl d none 214 P Q) {x1 : Int32} {x2 : Int32} {v3 : Value} {v4 : Value}
    (k : P 31 [.ref 108, .int x1, .int x2, .int (-2), .int (nI 1)] [] (0, 0) (LAY, RFu r, mem)) : P 25 [.ref 108, .int x1, .int x2, v3, v4] [] (0, 0) (LAY, RFu r, mem) := by
  refine r_bipush (v := (-2)) hP d214_25 rfl ?_
  refine r_istore_n (L' := [.ref 108, .int x1, .int x2, .int (-2), v4]) hP d214_27 (Nat.le_of_ble_eq_true rfl) rfl ?_
  refine r_iconst (v := nI 1) hP d214_28 rfl ?_
  refine r_istore (L' := [.ref 108, .int x1, .int x2, .int (-2), .int (nI 1)]) hP d214_29 (Nat.le_of_ble_eq_true rfl) rfl ?_
  exact k
theorem b214_31 {d : Nat} {P : xPr} {Q : xQr} {r : Nat} {mem : Nat → Nat → Int32} (hP : Cl d none 214 P Q) {x1 : Int32} {x2 : Int32} {x3 : Int32} {x4 : Int32}
    (kt : (nI 200) < x4 → P 71 [.ref 108, .int x1, .int x2, .int x3, .int x4] [] (0, 0) (LAY, RFu r, mem)) (kf : ¬ (nI 200) < x4 → P 39 [.ref 108, .int x1, .int x2, .int x3, .int x4] [] (0, 0) (LAY, RFu r, mem)) : P 31 [.ref 108, .int x1, .int x2, .int x3, .int x4] [] (0, 0) (LAY, RFu r, mem) := by
  refine r_iload hP d214_31 rfl ?_
  refine r_sipush (v := nI 200) hP d214_33 rfl ?_
  exact r_icmp (t := 71) hP d214_36 (by decide) kt kf
theorem b214_39 {d : Nat} {P : xPr} {Q : xQr} {r : Nat} {mem : Nat → Nat → Int32} (hP : Cl d none 214 P Q) {x1 : Int32} {x2 : Int32} {x3 : Int32} {x4 : Int32}
    (kt : 0 ≤ x3 → P 71 [.ref 108, .int x1, .int x2, .int x3, .int x4] [] (0, 0) (LAY, RFu r, mem)) (kf : ¬ 0 ≤ x3 → P 43 [.ref 108, .int x1, .int x2, .int x3, .int x4] [] (0, 0) (LAY, RFu r, mem)) : P 39 [.ref 108, .int x1, .int x2, .int x3, .int x4] [] (0, 0) (LAY, RFu r, mem) := by
  refine r_iload_n hP d214_39 rfl ?_
  exact r_if (t := 71) hP d214_40 (by decide) kt kf
theorem b214_43 {d : Nat} {P : xPr} {Q : xQr} {r : Nat} {mem : Nat → Nat → Int32} (hP : Cl d none 214 P Q) {x1 : Int32} {x2 : Int32} {v3 : Value} {x4 : Int32}
    (k : xCall d 190 [.ref 108] (LAY, RFu r, mem) (Bk P 44 [.ref 108, .int x1, .int x2, v3, .int x4] [] (0, 0))) : P 43 [.ref 108, .int x1, .int x2, v3, .int x4] [] (0, 0) (LAY, RFu r, mem) := by
  refine r_aload_n hP d214_43 rfl ?_
  exact r_callv (As := []) (S := []) hP d214_44 cr_12_252 (by decide +kernel) rfl (by simp) rfl ly_108 (by simp [Value.category]) ⟨Nat.zero_le _, Nat.zero_le _⟩ k
theorem b214_47 {d : Nat} {P : xPr} {Q : xQr} {r : Nat} {mem : Nat → Nat → Int32} (hP : Cl d none 214 P Q) {x1 : Int32} {x2 : Int32} {v3 : Value} {x4 : Int32} {y0 : Int32}
    (k : xCall d 212 [.ref 108, .int x1, .int x2] (LAY, RFu r, mem) (Bk P 51 [.ref 108, .int x1, .int x2, v3, .int x4] [] (0, 0))) : P 47 [.ref 108, .int x1, .int x2, v3, .int x4] [.int y0] (0, 0) (LAY, RFu r, mem) := by
  refine r_pop hP d214_47 rfl ?_
  refine r_aload_n hP d214_48 rfl ?_
  refine r_iload_n hP d214_49 rfl ?_
  refine r_iload_n hP d214_50 rfl ?_
  exact r_callv (As := [.int x1, .int x2]) (S := []) hP d214_51 cr_12_297 (by decide +kernel) rfl (by simp [Value.category]) rfl ly_108 (by simp [Value.category]) ⟨Nat.zero_le _, Nat.zero_le _⟩ k
theorem b214_54 {d : Nat} {P : xPr} {Q : xQr} {r : Nat} {mem : Nat → Nat → Int32} (hP : Cl d none 214 P Q) {x1 : Int32} {x2 : Int32} {v3 : Value} {x4 : Int32} {y0 : Int32}
    (kt : y0 = 0 → P 62 [.ref 108, .int x1, .int x2, v3, .int x4] [] (0, 0) (LAY, RFu r, mem)) (kf : ¬ y0 = 0 → P 57 [.ref 108, .int x1, .int x2, v3, .int x4] [] (0, 0) (LAY, RFu r, mem)) : P 54 [.ref 108, .int x1, .int x2, v3, .int x4] [.int y0] (0, 0) (LAY, RFu r, mem) := by
  exact r_if (t := 62) hP d214_54 (by decide) kt kf
theorem b214_57 {d : Nat} {P : xPr} {Q : xQr} {r : Nat} {mem : Nat → Nat → Int32} (hP : Cl d none 214 P Q) {x1 : Int32} {x2 : Int32} {v3 : Value} {x4 : Int32}
    (k : P 64 [.ref 108, .int x1, .int x2, v3, .int x4] [.int x4] (0, 0) (LAY, RFu r, mem)) : P 57 [.ref 108, .int x1, .int x2, v3, .int x4] [] (0, 0) (LAY, RFu r, mem) := by
  refine r_iload hP d214_57 rfl ?_
  refine r_goto (t := 64) hP d214_59 (by decide) ?_
  exact k
theorem b214_62 {d : Nat} {P : xPr} {Q : xQr} {r : Nat} {mem : Nat → Nat → Int32} (hP : Cl d none 214 P Q) {x1 : Int32} {x2 : Int32} {v3 : Value} {x4 : Int32}
    (k : P 64 [.ref 108, .int x1, .int x2, v3, .int x4] [.int (-2)] (0, 0) (LAY, RFu r, mem)) : P 62 [.ref 108, .int x1, .int x2, v3, .int x4] [] (0, 0) (LAY, RFu r, mem) := by
  refine r_bipush (v := (-2)) hP d214_62 rfl ?_
  exact k
theorem b214_64 {d : Nat} {P : xPr} {Q : xQr} {r : Nat} {mem : Nat → Nat → Int32} (hP : Cl d none 214 P Q) {x1 : Int32} {x2 : Int32} {v3 : Value} {x4 : Int32} {y0 : Int32}
    (k : P 31 [.ref 108, .int x1, .int x2, .int y0, .int (x4 + nI 1)] [] (0, 0) (LAY, RFu r, mem)) : P 64 [.ref 108, .int x1, .int x2, v3, .int x4] [.int y0] (0, 0) (LAY, RFu r, mem) := by
  refine r_istore_n (L' := [.ref 108, .int x1, .int x2, .int y0, .int x4]) hP d214_64 (Nat.le_of_ble_eq_true rfl) rfl ?_
  refine r_iinc (v := nI 1) (L' := [.ref 108, .int x1, .int x2, .int y0, .int (x4 + nI 1)]) hP d214_65 rfl rfl rfl ?_
  refine r_goto (t := 31) hP d214_68 (by decide) ?_
  exact k
theorem b214_71 {d : Nat} {P : xPr} {Q : xQr} {r : Nat} {mem : Nat → Nat → Int32} (hP : Cl d none 214 P Q) {v1 : Value} {v2 : Value} {x3 : Int32} {v4 : Value}
    (k : xCall d 192 [.ref 108, .ref 133, .int (nI 0)] (LAY, RFu r, mem) (Bk P 77 [.ref 108, v1, v2, .int x3, v4] [] (0, 0))) : P 71 [.ref 108, v1, v2, .int x3, v4] [] (0, 0) (LAY, RFu r, mem) := by
  refine r_aload_n hP d214_71 rfl ?_
  refine r_aload_n hP d214_72 rfl ?_
  refine r_getr (a := 133) hP d214_73 fr_12_87 rfl ly_108 rg_108_38 ?_
  refine r_iconst (v := nI 0) hP d214_76 rfl ?_
  exact r_callv (As := [.ref 133, .int (nI 0)]) (S := []) hP d214_77 cr_12_261 (by decide +kernel) rfl (by simp [Value.category]) rfl ly_108 (by simp [Value.category]) ⟨Nat.zero_le _, Nat.zero_le _⟩ k
theorem b214_80 {d : Nat} {P : xPr} {Q : xQr} {r : Nat} {mem : Nat → Nat → Int32} (hP : Cl d none 214 P Q) {v0 : Value} {v1 : Value} {v2 : Value} {x3 : Int32} {v4 : Value}
    (k : Q (some (.int x3)) (LAY, RFu r, mem)) : P 80 [v0, v1, v2, .int x3, v4] [] (0, 0) (LAY, RFu r, mem) := by
  refine r_iload_n hP d214_80 rfl ?_
  exact r_iret hP d214_81 rfl k
theorem d215_0 : decode (xB 215) 0 = .ok (.aload_n 0, 1) := by decide +kernel
theorem d215_1 : decode (xB 215) 1 = .ok (.iconst 0, 1) := by decide +kernel
theorem d215_2 : decode (xB 215) 2 = .ok (.putfield 121, 3) := by decide +kernel
theorem d215_5 : decode (xB 215) 5 = .ok (.aload_n 0, 1) := by decide +kernel
theorem d215_6 : decode (xB 215) 6 = .ok (.iload_n 1, 1) := by decide +kernel
theorem d215_7 : decode (xB 215) 7 = .ok (.iload_n 2, 1) := by decide +kernel
theorem d215_8 : decode (xB 215) 8 = .ok (.invokevirtual 286, 3) := by decide +kernel
theorem d215_11 : decode (xB 215) 11 = .ok (.ifCond .eq 14, 3) := by decide +kernel
theorem d215_14 : decode (xB 215) 14 = .ok (.iload_n 3, 1) := by decide +kernel
theorem d215_15 : decode (xB 215) 15 = .ok (.iconst 0, 1) := by decide +kernel
theorem d215_16 : decode (xB 215) 16 = .ok (.sipush 200, 3) := by decide +kernel
theorem d215_19 : decode (xB 215) 19 = .ok (.invokestatic 130, 3) := by decide +kernel
theorem d215_22 : decode (xB 215) 22 = .ok (.ifCond .ne 5, 3) := by decide +kernel
theorem d215_25 : decode (xB 215) 25 = .ok (.iconst (-1), 1) := by decide +kernel
theorem d215_26 : decode (xB 215) 26 = .ok (.ireturn, 1) := by decide +kernel
theorem d215_27 : decode (xB 215) 27 = .ok (.aload_n 0, 1) := by decide +kernel
theorem d215_28 : decode (xB 215) 28 = .ok (.aload_n 0, 1) := by decide +kernel
theorem d215_29 : decode (xB 215) 29 = .ok (.getfield 87, 3) := by decide +kernel
theorem d215_32 : decode (xB 215) 32 = .ok (.iconst 0, 1) := by decide +kernel
theorem d215_33 : decode (xB 215) 33 = .ok (.invokevirtual 245, 3) := by decide +kernel
theorem d215_36 : decode (xB 215) 36 = .ok (.iconst 0, 1) := by decide +kernel
theorem d215_37 : decode (xB 215) 37 = .ok (.istore 4, 2) := by decide +kernel
theorem d215_39 : decode (xB 215) 39 = .ok (.iconst 0, 1) := by decide +kernel
theorem d215_40 : decode (xB 215) 40 = .ok (.istore 5, 2) := by decide +kernel
theorem d215_42 : decode (xB 215) 42 = .ok (.iload 5, 2) := by decide +kernel
theorem d215_44 : decode (xB 215) 44 = .ok (.iload_n 3, 1) := by decide +kernel
theorem d215_45 : decode (xB 215) 45 = .ok (.if_icmp .ge 33, 3) := by decide +kernel
theorem d215_48 : decode (xB 215) 48 = .ok (.aload_n 0, 1) := by decide +kernel
theorem d215_49 : decode (xB 215) 49 = .ok (.invokevirtual 252, 3) := by decide +kernel
theorem d215_52 : decode (xB 215) 52 = .ok (.pop, 1) := by decide +kernel
theorem d215_53 : decode (xB 215) 53 = .ok (.iload 4, 2) := by decide +kernel
theorem d215_55 : decode (xB 215) 55 = .ok (.aload_n 0, 1) := by decide +kernel
theorem d215_56 : decode (xB 215) 56 = .ok (.iload_n 1, 1) := by decide +kernel
theorem d215_57 : decode (xB 215) 57 = .ok (.iload_n 2, 1) := by decide +kernel
theorem d215_58 : decode (xB 215) 58 = .ok (.invokevirtual 297, 3) := by decide +kernel
theorem d215_61 : decode (xB 215) 61 = .ok (.ifCond .eq 7, 3) := by decide +kernel
theorem d215_64 : decode (xB 215) 64 = .ok (.iconst 1, 1) := by decide +kernel
theorem d215_65 : decode (xB 215) 65 = .ok (.goto 4, 3) := by decide +kernel
theorem d215_68 : decode (xB 215) 68 = .ok (.iconst 0, 1) := by decide +kernel
theorem d215_69 : decode (xB 215) 69 = .ok (.iadd, 1) := by decide +kernel
theorem d215_70 : decode (xB 215) 70 = .ok (.istore 4, 2) := by decide +kernel
theorem d215_72 : decode (xB 215) 72 = .ok (.iinc 5 1, 3) := by decide +kernel
theorem d215_75 : decode (xB 215) 75 = .ok (.goto (-33), 3) := by decide +kernel
theorem d215_78 : decode (xB 215) 78 = .ok (.aload_n 0, 1) := by decide +kernel
theorem d215_79 : decode (xB 215) 79 = .ok (.aload_n 0, 1) := by decide +kernel
theorem d215_80 : decode (xB 215) 80 = .ok (.getfield 87, 3) := by decide +kernel
theorem d215_83 : decode (xB 215) 83 = .ok (.iconst 0, 1) := by decide +kernel
theorem d215_84 : decode (xB 215) 84 = .ok (.invokevirtual 261, 3) := by decide +kernel
theorem d215_87 : decode (xB 215) 87 = .ok (.iload 4, 2) := by decide +kernel
theorem d215_89 : decode (xB 215) 89 = .ok (.ireturn, 1) := by decide +kernel
theorem b215_0 {d : Nat} {P : xPr} {Q : xQr} {r : Nat} {mem : Nat → Nat → Int32} (hP : Cl d none 215 P Q) {p0 : Int32} {p1 : Int32} {p2 : Int32}
    (k : xCall d 163 [.ref 108, .int p0, .int p1] (LAY, RFu r, xu2 mem 108 20 (nI 0)) (Bk P 8 [.ref 108, .int p0, .int p1, .int p2, .null, .null] [] (0, 0))) : P 0 [.ref 108, .int p0, .int p1, .int p2, .null, .null] [] (0, 0) (LAY, RFu r, mem) := by
  refine r_aload_n hP d215_0 rfl ?_
  refine r_iconst (v := nI 0) hP d215_1 rfl ?_
  refine r_puti hP d215_2 fr_12_121 rfl (fun q => by cases q) ly_108 ?_
  refine r_aload_n hP d215_5 rfl ?_
  refine r_iload_n hP d215_6 rfl ?_
  refine r_iload_n hP d215_7 rfl ?_
  exact r_callv (As := [.int p0, .int p1]) (S := []) hP d215_8 cr_12_286 (by decide +kernel) rfl (by simp [Value.category]) rfl ly_108 (by simp [Value.category]) ⟨Nat.zero_le _, Nat.zero_le _⟩ k
theorem b215_11 {d : Nat} {P : xPr} {Q : xQr} {r : Nat} {mem : Nat → Nat → Int32} (hP : Cl d none 215 P Q) {x1 : Int32} {x2 : Int32} {x3 : Int32} {v4 : Value} {v5 : Value} {y0 : Int32}
    (kt : y0 = 0 → P 25 [.ref 108, .int x1, .int x2, .int x3, v4, v5] [] (0, 0) (LAY, RFu r, mem)) (kf : ¬ y0 = 0 → P 14 [.ref 108, .int x1, .int x2, .int x3, v4, v5] [] (0, 0) (LAY, RFu r, mem)) : P 11 [.ref 108, .int x1, .int x2, .int x3, v4, v5] [.int y0] (0, 0) (LAY, RFu r, mem) := by
  exact r_if (t := 25) hP d215_11 (by decide) kt kf
theorem b215_14 {d : Nat} {P : xPr} {Q : xQr} {r : Nat} {mem : Nat → Nat → Int32} (hP : Cl d none 215 P Q) {x1 : Int32} {x2 : Int32} {x3 : Int32} {v4 : Value} {v5 : Value}
    (k : xCall d 158 [.int x3, .int (nI 0), .int (nI 200)] (LAY, RFu r, mem) (Bk P 19 [.ref 108, .int x1, .int x2, .int x3, v4, v5] [] (0, 0))) : P 14 [.ref 108, .int x1, .int x2, .int x3, v4, v5] [] (0, 0) (LAY, RFu r, mem) := by
  refine r_iload_n hP d215_14 rfl ?_
  refine r_iconst (v := nI 0) hP d215_15 rfl ?_
  refine r_sipush (v := nI 200) hP d215_16 rfl ?_
  exact r_calls (As := [.int x3, .int (nI 0), .int (nI 200)]) (S := []) hP d215_19 cr_12_130 (by decide +kernel) rfl (by simp [Value.category]) rfl (by simp [Value.category]) ⟨Nat.zero_le _, Nat.zero_le _⟩ k
theorem b215_22 {d : Nat} {P : xPr} {Q : xQr} {r : Nat} {mem : Nat → Nat → Int32} (hP : Cl d none 215 P Q) {x1 : Int32} {x2 : Int32} {x3 : Int32} {v4 : Value} {v5 : Value} {y0 : Int32}
    (kt : ¬ y0 = 0 → P 27 [.ref 108, .int x1, .int x2, .int x3, v4, v5] [] (0, 0) (LAY, RFu r, mem)) (kf : y0 = 0 → P 25 [.ref 108, .int x1, .int x2, .int x3, v4, v5] [] (0, 0) (LAY, RFu r, mem)) : P 22 [.ref 108, .int x1, .int x2, .int x3, v4, v5] [.int y0] (0, 0) (LAY, RFu r, mem) := by
  exact r_if (t := 27) hP d215_22 (by decide) kt (fun q => kf (Decidable.of_not_not q))
theorem b215_25 {d : Nat} {P : xPr} {Q : xQr} {r : Nat} {mem : Nat → Nat → Int32} (hP : Cl d none 215 P Q) {v0 : Value} {v1 : Value} {v2 : Value} {v3 : Value} {v4 : Value} {v5 : Value}
    (k : Q (some (.int (-1))) (LAY, RFu r, mem)) : P 25 [v0, v1, v2, v3, v4, v5] [] (0, 0) (LAY, RFu r, mem) := by
  refine r_iconst (v := (-1)) hP d215_25 rfl ?_
  exact r_iret hP d215_26 rfl k
theorem b215_27 {d : Nat} {P : xPr} {Q : xQr} {r : Nat} {mem : Nat → Nat → Int32} (hP : Cl d none 215 P Q) {x1 : Int32} {x2 : Int32} {x3 : Int32} {v4 : Value} {v5 : Value}
    (k : xCall d 191 [.ref 108, .ref 133, .int (nI 0)] (LAY, RFu r, mem) (Bk P 33 [.ref 108, .int x1, .int x2, .int x3, v4, v5] [] (0, 0))) : P 27 [.ref 108, .int x1, .int x2, .int x3, v4, v5] [] (0, 0) (LAY, RFu r, mem) := by
  refine r_aload_n hP d215_27 rfl ?_
  refine r_aload_n hP d215_28 rfl ?_
  refine r_getr (a := 133) hP d215_29 fr_12_87 rfl ly_108 rg_108_38 ?_
  refine r_iconst (v := nI 0) hP d215_32 rfl ?_
  exact r_callv (As := [.ref 133, .int (nI 0)]) (S := []) hP d215_33 cr_12_245 (by decide +kernel) rfl (by simp [Value.category]) rfl ly_108 (by simp [Value.category]) ⟨Nat.zero_le _, Nat.zero_le _⟩ k
theorem b215_36 {d : Nat} {P : xPr} {Q : xQr} {r : Nat} {mem : Nat → Nat → Int32} (hP : Cl d none 215 P Q) {x1 : Int32} {x2 : Int32} {x3 : Int32} {v4 : Value} {v5 : Value}
    (k : P 42 [.ref 108, .int x1, .int x2, .int x3, .int (nI 0), .int (nI 0)] [] (0, 0) (LAY, RFu r, mem)) : P 36 [.ref 108, .int x1, .int x2, .int x3, v4, v5] [] (0, 0) (LAY, RFu r, mem) := by
  refine r_iconst (v := nI 0) hP d215_36 rfl ?_
  refine r_istore (L' := [.ref 108, .int x1, .int x2, .int x3, .int (nI 0), v5]) hP d215_37 (Nat.le_of_ble_eq_true rfl) rfl ?_
  refine r_iconst (v := nI 0) hP d215_39 rfl ?_
  refine r_istore (L' := [.ref 108, .int x1, .int x2, .int x3, .int (nI 0), .int (nI 0)]) hP d215_40 (Nat.le_of_ble_eq_true rfl) rfl ?_
  exact k
theorem b215_42 {d : Nat} {P : xPr} {Q : xQr} {r : Nat} {mem : Nat → Nat → Int32} (hP : Cl d none 215 P Q) {x1 : Int32} {x2 : Int32} {x3 : Int32} {x4 : Int32} {x5 : Int32}
    (kt : x3 ≤ x5 → P 78 [.ref 108, .int x1, .int x2, .int x3, .int x4, .int x5] [] (0, 0) (LAY, RFu r, mem)) (kf : ¬ x3 ≤ x5 → P 48 [.ref 108, .int x1, .int x2, .int x3, .int x4, .int x5] [] (0, 0) (LAY, RFu r, mem)) : P 42 [.ref 108, .int x1, .int x2, .int x3, .int x4, .int x5] [] (0, 0) (LAY, RFu r, mem) := by
  refine r_iload hP d215_42 rfl ?_
  refine r_iload_n hP d215_44 rfl ?_
  exact r_icmp (t := 78) hP d215_45 (by decide) kt kf
theorem b215_48 {d : Nat} {P : xPr} {Q : xQr} {r : Nat} {mem : Nat → Nat → Int32} (hP : Cl d none 215 P Q) {x1 : Int32} {x2 : Int32} {x3 : Int32} {x4 : Int32} {x5 : Int32}
    (k : xCall d 190 [.ref 108] (LAY, RFu r, mem) (Bk P 49 [.ref 108, .int x1, .int x2, .int x3, .int x4, .int x5] [] (0, 0))) : P 48 [.ref 108, .int x1, .int x2, .int x3, .int x4, .int x5] [] (0, 0) (LAY, RFu r, mem) := by
  refine r_aload_n hP d215_48 rfl ?_
  exact r_callv (As := []) (S := []) hP d215_49 cr_12_252 (by decide +kernel) rfl (by simp) rfl ly_108 (by simp [Value.category]) ⟨Nat.zero_le _, Nat.zero_le _⟩ k
theorem b215_52 {d : Nat} {P : xPr} {Q : xQr} {r : Nat} {mem : Nat → Nat → Int32} (hP : Cl d none 215 P Q) {x1 : Int32} {x2 : Int32} {x3 : Int32} {x4 : Int32} {x5 : Int32} {y0 : Int32}
    (k : xCall d 212 [.ref 108, .int x1, .int x2] (LAY, RFu r, mem) (Bk P 58 [.ref 108, .int x1, .int x2, .int x3, .int x4, .int x5] [.int x4] (0, 0))) : P 52 [.ref 108, .int x1, .int x2, .int x3, .int x4, .int x5] [.int y0] (0, 0) (LAY, RFu r, mem) := by
  refine r_pop hP d215_52 rfl ?_
  refine r_iload hP d215_53 rfl ?_
  refine r_aload_n hP d215_55 rfl ?_
  refine r_iload_n hP d215_56 rfl ?_
  refine r_iload_n hP d215_57 rfl ?_
  exact r_callv (As := [.int x1, .int x2]) (S := [.int x4]) hP d215_58 cr_12_297 (by decide +kernel) rfl (by simp [Value.category]) rfl ly_108 (by simp [Value.category]) ⟨Nat.zero_le _, Nat.zero_le _⟩ k
theorem b215_61 {d : Nat} {P : xPr} {Q : xQr} {r : Nat} {mem : Nat → Nat → Int32} (hP : Cl d none 215 P Q) {x1 : Int32} {x2 : Int32} {x3 : Int32} {v4 : Value} {x5 : Int32} {y0 : Int32} {y1 : Int32}
    (kt : y1 = 0 → P 68 [.ref 108, .int x1, .int x2, .int x3, v4, .int x5] [.int y0] (0, 0) (LAY, RFu r, mem)) (kf : ¬ y1 = 0 → P 64 [.ref 108, .int x1, .int x2, .int x3, v4, .int x5] [.int y0] (0, 0) (LAY, RFu r, mem)) : P 61 [.ref 108, .int x1, .int x2, .int x3, v4, .int x5] [.int y1, .int y0] (0, 0) (LAY, RFu r, mem) := by
  exact r_if (t := 68) hP d215_61 (by decide) kt kf
theorem b215_64 {d : Nat} {P : xPr} {Q : xQr} {r : Nat} {mem : Nat → Nat → Int32} (hP : Cl d none 215 P Q) {x1 : Int32} {x2 : Int32} {x3 : Int32} {v4 : Value} {x5 : Int32} {y0 : Int32}
    (k : P 69 [.ref 108, .int x1, .int x2, .int x3, v4, .int x5] [.int (nI 1), .int y0] (0, 0) (LAY, RFu r, mem)) : P 64 [.ref 108, .int x1, .int x2, .int x3, v4, .int x5] [.int y0] (0, 0) (LAY, RFu r, mem) := by
  refine r_iconst (v := nI 1) hP d215_64 rfl ?_
  refine r_goto (t := 69) hP d215_65 (by decide) ?_
  exact k
theorem b215_68 {d : Nat} {P : xPr} {Q : xQr} {r : Nat} {mem : Nat → Nat → Int32} (hP : Cl d none 215 P Q) {x1 : Int32} {x2 : Int32} {x3 : Int32} {v4 : Value} {x5 : Int32} {y0 : Int32}
    (k : P 69 [.ref 108, .int x1, .int x2, .int x3, v4, .int x5] [.int (nI 0), .int y0] (0, 0) (LAY, RFu r, mem)) : P 68 [.ref 108, .int x1, .int x2, .int x3, v4, .int x5] [.int y0] (0, 0) (LAY, RFu r, mem) := by
  refine r_iconst (v := nI 0) hP d215_68 rfl ?_
  exact k
theorem b215_69 {d : Nat} {P : xPr} {Q : xQr} {r : Nat} {mem : Nat → Nat → Int32} (hP : Cl d none 215 P Q) {x1 : Int32} {x2 : Int32} {x3 : Int32} {v4 : Value} {x5 : Int32} {y0 : Int32} {y1 : Int32}
    (k : P 42 [.ref 108, .int x1, .int x2, .int x3, .int (y0 + y1), .int (x5 + nI 1)] [] (0, 0) (LAY, RFu r, mem)) : P 69 [.ref 108, .int x1, .int x2, .int x3, v4, .int x5] [.int y1, .int y0] (0, 0) (LAY, RFu r, mem) := by
  refine r_iadd hP d215_69 ?_
  refine r_istore (L' := [.ref 108, .int x1, .int x2, .int x3, .int (y0 + y1), .int x5]) hP d215_70 (Nat.le_of_ble_eq_true rfl) rfl ?_
  refine r_iinc (v := nI 1) (L' := [.ref 108, .int x1, .int x2, .int x3, .int (y0 + y1), .int (x5 + nI 1)]) hP d215_72 rfl rfl rfl ?_
  refine r_goto (t := 42) hP d215_75 (by decide) ?_
  exact k
theorem b215_78 {d : Nat} {P : xPr} {Q : xQr} {r : Nat} {mem : Nat → Nat → Int32} (hP : Cl d none 215 P Q) {v1 : Value} {v2 : Value} {v3 : Value} {x4 : Int32} {v5 : Value}
    (k : xCall d 192 [.ref 108, .ref 133, .int (nI 0)] (LAY, RFu r, mem) (Bk P 84 [.ref 108, v1, v2, v3, .int x4, v5] [] (0, 0))) : P 78 [.ref 108, v1, v2, v3, .int x4, v5] [] (0, 0) (LAY, RFu r, mem) := by
  refine r_aload_n hP d215_78 rfl ?_
  refine r_aload_n hP d215_79 rfl ?_
  refine r_getr (a := 133) hP d215_80 fr_12_87 rfl ly_108 rg_108_38 ?_
  refine r_iconst (v := nI 0) hP d215_83 rfl ?_
  exact r_callv (As := [.ref 133, .int (nI 0)]) (S := []) hP d215_84 cr_12_261 (by decide +kernel) rfl (by simp [Value.category]) rfl ly_108 (by simp [Value.category]) ⟨Nat.zero_le _, Nat.zero_le _⟩ k
theorem b215_87 {d : Nat} {P : xPr} {Q : xQr} {r : Nat} {mem : Nat → Nat → Int32} (hP : Cl d none 215 P Q) {v0 : Value} {v1 : Value} {v2 : Value} {v3 : Value} {x4 : Int32} {v5 : Value}
    (k : Q (some (.int x4)) (LAY, RFu r, mem)) : P 87 [v0, v1, v2, v3, .int x4, v5] [] (0, 0) (LAY, RFu r, mem) := by
  refine r_iload hP d215_87 rfl ?_
  exact r_iret hP d215_89 rfl k
theorem d216_0 : decode (xB 216) 0 = .ok (.iconst 0, 1) := by decide +kernel
theorem d216_1 : decode (xB 216) 1 = .ok (.istore_n 3, 1) := by decide +kernel
theorem d216_2 : decode (xB 216) 2 = .ok (.iload_n 3, 1) := by decide +kernel
theorem d216_3 : decode (xB 216) 3 = .ok (.bipush 24, 2) := by decide +kernel
theorem d216_5 : decode (xB 216) 5 = .ok (.if_icmp .ge 57, 3) := by decide +kernel
theorem d216_8 : decode (xB 216) 8 = .ok (.aload_n 0, 1) := by decide +kernel
theorem d216_9 : decode (xB 216) 9 = .ok (.getfield 20, 3) := by decide +kernel
theorem d216_12 : decode (xB 216) 12 = .ok (.bipush 24, 2) := by decide +kernel
theorem d216_14 : decode (xB 216) 14 = .ok (.iload_n 1, 1) := by decide +kernel
theorem d216_15 : decode (xB 216) 15 = .ok (.imul, 1) := by decide +kernel
theorem d216_16 : decode (xB 216) 16 = .ok (.iload_n 3, 1) := by decide +kernel
theorem d216_17 : decode (xB 216) 17 = .ok (.iadd, 1) := by decide +kernel
theorem d216_18 : decode (xB 216) 18 = .ok (.iaload, 1) := by decide +kernel
theorem d216_19 : decode (xB 216) 19 = .ok (.istore 4, 2) := by decide +kernel
theorem d216_21 : decode (xB 216) 21 = .ok (.aload_n 0, 1) := by decide +kernel
theorem d216_22 : decode (xB 216) 22 = .ok (.getfield 20, 3) := by decide +kernel
theorem d216_25 : decode (xB 216) 25 = .ok (.bipush 24, 2) := by decide +kernel
theorem d216_27 : decode (xB 216) 27 = .ok (.iload_n 1, 1) := by decide +kernel
theorem d216_28 : decode (xB 216) 28 = .ok (.imul, 1) := by decide +kernel
theorem d216_29 : decode (xB 216) 29 = .ok (.iload_n 3, 1) := by decide +kernel
theorem d216_30 : decode (xB 216) 30 = .ok (.iadd, 1) := by decide +kernel
theorem d216_31 : decode (xB 216) 31 = .ok (.aload_n 0, 1) := by decide +kernel
theorem d216_32 : decode (xB 216) 32 = .ok (.getfield 20, 3) := by decide +kernel
theorem d216_35 : decode (xB 216) 35 = .ok (.bipush 24, 2) := by decide +kernel
theorem d216_37 : decode (xB 216) 37 = .ok (.iload_n 2, 1) := by decide +kernel
theorem d216_38 : decode (xB 216) 38 = .ok (.imul, 1) := by decide +kernel
theorem d216_39 : decode (xB 216) 39 = .ok (.iload_n 3, 1) := by decide +kernel
theorem d216_40 : decode (xB 216) 40 = .ok (.iadd, 1) := by decide +kernel
theorem d216_41 : decode (xB 216) 41 = .ok (.iaload, 1) := by decide +kernel
theorem d216_42 : decode (xB 216) 42 = .ok (.iastore, 1) := by decide +kernel
theorem d216_43 : decode (xB 216) 43 = .ok (.aload_n 0, 1) := by decide +kernel
theorem d216_44 : decode (xB 216) 44 = .ok (.getfield 20, 3) := by decide +kernel
theorem d216_47 : decode (xB 216) 47 = .ok (.bipush 24, 2) := by decide +kernel
theorem d216_49 : decode (xB 216) 49 = .ok (.iload_n 2, 1) := by decide +kernel
theorem d216_50 : decode (xB 216) 50 = .ok (.imul, 1) := by decide +kernel
theorem d216_51 : decode (xB 216) 51 = .ok (.iload_n 3, 1) := by decide +kernel
theorem d216_52 : decode (xB 216) 52 = .ok (.iadd, 1) := by decide +kernel
theorem d216_53 : decode (xB 216) 53 = .ok (.iload 4, 2) := by decide +kernel
theorem d216_55 : decode (xB 216) 55 = .ok (.iastore, 1) := by decide +kernel
theorem d216_56 : decode (xB 216) 56 = .ok (.iinc 3 1, 3) := by decide +kernel
theorem d216_59 : decode (xB 216) 59 = .ok (.goto (-57), 3) := by decide +kernel
theorem d216_62 : decode (xB 216) 62 = .ok (.aload_n 0, 1) := by decide +kernel
theorem d216_63 : decode (xB 216) 63 = .ok (.getfield 23, 3) := by decide +kernel
theorem d216_66 : decode (xB 216) 66 = .ok (.iload_n 1, 1) := by decide +kernel
theorem d216_67 : decode (xB 216) 67 = .ok (.iaload, 1) := by decide +kernel
theorem d216_68 : decode (xB 216) 68 = .ok (.istore_n 3, 1) := by decide +kernel
theorem d216_69 : decode (xB 216) 69 = .ok (.aload_n 0, 1) := by decide +kernel
theorem d216_70 : decode (xB 216) 70 = .ok (.getfield 23, 3) := by decide +kernel
theorem d216_73 : decode (xB 216) 73 = .ok (.iload_n 1, 1) := by decide +kernel
theorem d216_74 : decode (xB 216) 74 = .ok (.aload_n 0, 1) := by decide +kernel
theorem d216_75 : decode (xB 216) 75 = .ok (.getfield 23, 3) := by decide +kernel
theorem d216_78 : decode (xB 216) 78 = .ok (.iload_n 2, 1) := by decide +kernel
theorem d216_79 : decode (xB 216) 79 = .ok (.iaload, 1) := by decide +kernel
theorem d216_80 : decode (xB 216) 80 = .ok (.iastore, 1) := by decide +kernel
theorem d216_81 : decode (xB 216) 81 = .ok (.aload_n 0, 1) := by decide +kernel
theorem d216_82 : decode (xB 216) 82 = .ok (.getfield 23, 3) := by decide +kernel
theorem d216_85 : decode (xB 216) 85 = .ok (.iload_n 2, 1) := by decide +kernel
theorem d216_86 : decode (xB 216) 86 = .ok (.iload_n 3, 1) := by decide +kernel
theorem d216_87 : decode (xB 216) 87 = .ok (.iastore, 1) := by decide +kernel
theorem d216_88 : decode (xB 216) 88 = .ok (.return_, 1) := by decide +kernel
theorem b216_0 {d : Nat} {P : xPr} {Q : xQr} {r : Nat} {mem : Nat → Nat → Int32} (hP : Cl d none 216 P Q) {p0 : Int32} {p1 : Int32}
    (k : P 2 [.ref 108, .int p0, .int p1, .int (nI 0), .null] [] (0, 0) (LAY, RFu r, mem)) : P 0 [.ref 108, .int p0, .int p1, .null, .null] [] (0, 0) (LAY, RFu r, mem) := by
  refine r_iconst (v := nI 0) hP d216_0 rfl ?_
  refine r_istore_n (L' := [.ref 108, .int p0, .int p1, .int (nI 0), .null]) hP d216_1 (Nat.le_of_ble_eq_true rfl) rfl ?_
  exact k
theorem b216_2 {d : Nat} {P : xPr} {Q : xQr} {r : Nat} {mem : Nat → Nat → Int32} (hP : Cl d none 216 P Q) {x1 : Int32} {x2 : Int32} {x3 : Int32} {v4 : Value}
    (kt : (nI 24) ≤ x3 → P 62 [.ref 108, .int x1, .int x2, .int x3, v4] [] (0, 0) (LAY, RFu r, mem)) (kf : ¬ (nI 24) ≤ x3 → P 8 [.ref 108, .int x1, .int x2, .int x3, v4] [] (0, 0) (LAY, RFu r, mem)) : P 2 [.ref 108, .int x1, .int x2, .int x3, v4] [] (0, 0) (LAY, RFu r, mem) := by
  refine r_iload_n hP d216_2 rfl ?_
  refine r_bipush (v := nI 24) hP d216_3 rfl ?_
  exact r_icmp (t := 62) hP d216_5 (by decide) kt kf
theorem b216_8 {d : Nat} {P : xPr} {Q : xQr} {r : Nat} {mem : Nat → Nat → Int32} (hP : Cl d none 216 P Q) {x1 : Int32} {x2 : Int32} {x3 : Int32} {v4 : Value} (hi18 : vp_in (((nI 24) * x1) + x3) 192) (hi41 : vp_in (((nI 24) * x2) + x3) 192) (hi42 : vp_in (((nI 24) * x1) + x3) 192) (hi55 : vp_in (((nI 24) * x2) + x3) 192)
    (k : P 2 [.ref 108, .int x1, .int x2, .int (x3 + nI 1), .int (mem 112 (((nI 24) * x1) + x3).toNatClampNeg)] [] (0, 0) (LAY, RFu r, xu2 (xu2 mem 112 (((nI 24) * x1) + x3).toNatClampNeg (mem 112 (((nI 24) * x2) + x3).toNatClampNeg)) 112 (((nI 24) * x2) + x3).toNatClampNeg (mem 112 (((nI 24) * x1) + x3).toNatClampNeg))) : P 8 [.ref 108, .int x1, .int x2, .int x3, v4] [] (0, 0) (LAY, RFu r, mem) := by
  refine r_aload_n hP d216_8 rfl ?_
  refine r_getr (a := 112) hP d216_9 fr_12_20 rfl ly_108 rg_108_5 ?_
  refine r_bipush (v := nI 24) hP d216_12 rfl ?_
  refine r_iload_n hP d216_14 rfl ?_
  refine r_imul hP d216_15 ?_
  refine r_iload_n hP d216_16 rfl ?_
  refine r_iadd hP d216_17 ?_
  refine r_iaload hP d216_18 ly_112 hi18 ?_
  refine r_istore (L' := [.ref 108, .int x1, .int x2, .int x3, .int (mem 112 (((nI 24) * x1) + x3).toNatClampNeg)]) hP d216_19 (Nat.le_of_ble_eq_true rfl) rfl ?_
  refine r_aload_n hP d216_21 rfl ?_
  refine r_getr (a := 112) hP d216_22 fr_12_20 rfl ly_108 rg_108_5 ?_
  refine r_bipush (v := nI 24) hP d216_25 rfl ?_
  refine r_iload_n hP d216_27 rfl ?_
  refine r_imul hP d216_28 ?_
  refine r_iload_n hP d216_29 rfl ?_
  refine r_iadd hP d216_30 ?_
  refine r_aload_n hP d216_31 rfl ?_
  refine r_getr (a := 112) hP d216_32 fr_12_20 rfl ly_108 rg_108_5 ?_
  refine r_bipush (v := nI 24) hP d216_35 rfl ?_
  refine r_iload_n hP d216_37 rfl ?_
  refine r_imul hP d216_38 ?_
  refine r_iload_n hP d216_39 rfl ?_
  refine r_iadd hP d216_40 ?_
  refine r_iaload hP d216_41 ly_112 hi41 ?_
  refine r_iastore hP d216_42 ly_112 hi42 ?_
  refine r_aload_n hP d216_43 rfl ?_
  refine r_getr (a := 112) hP d216_44 fr_12_20 rfl ly_108 rg_108_5 ?_
  refine r_bipush (v := nI 24) hP d216_47 rfl ?_
  refine r_iload_n hP d216_49 rfl ?_
  refine r_imul hP d216_50 ?_
  refine r_iload_n hP d216_51 rfl ?_
  refine r_iadd hP d216_52 ?_
  refine r_iload hP d216_53 rfl ?_
  refine r_iastore hP d216_55 ly_112 hi55 ?_
  refine r_iinc (v := nI 1) (L' := [.ref 108, .int x1, .int x2, .int (x3 + nI 1), .int (mem 112 (((nI 24) * x1) + x3).toNatClampNeg)]) hP d216_56 rfl rfl rfl ?_
  refine r_goto (t := 2) hP d216_59 (by decide) ?_
  exact k
theorem b216_62 {d : Nat} {P : xPr} {Q : xQr} {r : Nat} {mem : Nat → Nat → Int32} (hP : Cl d none 216 P Q) {x1 : Int32} {x2 : Int32} {v3 : Value} {v4 : Value} (hi67 : vp_in x1 8) (hi79 : vp_in x2 8) (hi80 : vp_in x1 8) (hi87 : vp_in x2 8)
    (k : Q none (LAY, RFu r, xu2 (xu2 mem 113 x1.toNatClampNeg (mem 113 x2.toNatClampNeg)) 113 x2.toNatClampNeg (mem 113 x1.toNatClampNeg))) : P 62 [.ref 108, .int x1, .int x2, v3, v4] [] (0, 0) (LAY, RFu r, mem) := by
  refine r_aload_n hP d216_62 rfl ?_
  refine r_getr (a := 113) hP d216_63 fr_12_23 rfl ly_108 rg_108_6 ?_
  refine r_iload_n hP d216_66 rfl ?_
  refine r_iaload hP d216_67 ly_113 hi67 ?_
  refine r_istore_n (L' := [.ref 108, .int x1, .int x2, .int (mem 113 x1.toNatClampNeg), v4]) hP d216_68 (Nat.le_of_ble_eq_true rfl) rfl ?_
  refine r_aload_n hP d216_69 rfl ?_
  refine r_getr (a := 113) hP d216_70 fr_12_23 rfl ly_108 rg_108_6 ?_
  refine r_iload_n hP d216_73 rfl ?_
  refine r_aload_n hP d216_74 rfl ?_
  refine r_getr (a := 113) hP d216_75 fr_12_23 rfl ly_108 rg_108_6 ?_
  refine r_iload_n hP d216_78 rfl ?_
  refine r_iaload hP d216_79 ly_113 hi79 ?_
  refine r_iastore hP d216_80 ly_113 hi80 ?_
  refine r_aload_n hP d216_81 rfl ?_
  refine r_getr (a := 113) hP d216_82 fr_12_23 rfl ly_108 rg_108_6 ?_
  refine r_iload_n hP d216_85 rfl ?_
  refine r_iload_n hP d216_86 rfl ?_
  refine r_iastore hP d216_87 ly_113 hi87 ?_
  exact r_vret hP d216_88 rfl k
theorem d217_0 : decode (xB 217) 0 = .ok (.aload_n 0, 1) := by decide +kernel
theorem d217_1 : decode (xB 217) 1 = .ok (.iconst 0, 1) := by decide +kernel
theorem d217_2 : decode (xB 217) 2 = .ok (.putfield 121, 3) := by decide +kernel
theorem d217_5 : decode (xB 217) 5 = .ok (.aload_n 0, 1) := by decide +kernel
theorem d217_6 : decode (xB 217) 6 = .ok (.iload_n 1, 1) := by decide +kernel
theorem d217_7 : decode (xB 217) 7 = .ok (.iload_n 2, 1) := by decide +kernel
theorem d217_8 : decode (xB 217) 8 = .ok (.invokevirtual 286, 3) := by decide +kernel
theorem d217_11 : decode (xB 217) 11 = .ok (.ifCond .ne 5, 3) := by decide +kernel
theorem d217_14 : decode (xB 217) 14 = .ok (.iconst 0, 1) := by decide +kernel
theorem d217_15 : decode (xB 217) 15 = .ok (.ireturn, 1) := by decide +kernel
theorem d217_16 : decode (xB 217) 16 = .ok (.aload_n 0, 1) := by decide +kernel
theorem d217_17 : decode (xB 217) 17 = .ok (.iload_n 1, 1) := by decide +kernel
theorem d217_18 : decode (xB 217) 18 = .ok (.iload_n 2, 1) := by decide +kernel
theorem d217_19 : decode (xB 217) 19 = .ok (.invokevirtual 300, 3) := by decide +kernel
theorem d217_22 : decode (xB 217) 22 = .ok (.iconst 1, 1) := by decide +kernel
theorem d217_23 : decode (xB 217) 23 = .ok (.ireturn, 1) := by decide +kernel
theorem b217_0 {d : Nat} {P : xPr} {Q : xQr} {r : Nat} {mem : Nat → Nat → Int32} (hP : Cl d none 217 P Q) {p0 : Int32} {p1 : Int32}
    (k : xCall d 163 [.ref 108, .int p0, .int p1] (LAY, RFu r, xu2 mem 108 20 (nI 0)) (Bk P 8 [.ref 108, .int p0, .int p1] [] (0, 0))) : P 0 [.ref 108, .int p0, .int p1] [] (0, 0) (LAY, RFu r, mem) := by
  refine r_aload_n hP d217_0 rfl ?_
  refine r_iconst (v := nI 0) hP d217_1 rfl ?_
  refine r_puti hP d217_2 fr_12_121 rfl (fun q => by cases q) ly_108 ?_
  refine r_aload_n hP d217_5 rfl ?_
  refine r_iload_n hP d217_6 rfl ?_
  refine r_iload_n hP d217_7 rfl ?_
  exact r_callv (As := [.int p0, .int p1]) (S := []) hP d217_8 cr_12_286 (by decide +kernel) rfl (by simp [Value.category]) rfl ly_108 (by simp [Value.category]) ⟨Nat.zero_le _, Nat.zero_le _⟩ k
theorem b217_11 {d : Nat} {P : xPr} {Q : xQr} {r : Nat} {mem : Nat → Nat → Int32} (hP : Cl d none 217 P Q) {x1 : Int32} {x2 : Int32} {y0 : Int32}
    (kt : ¬ y0 = 0 → P 16 [.ref 108, .int x1, .int x2] [] (0, 0) (LAY, RFu r, mem)) (kf : y0 = 0 → P 14 [.ref 108, .int x1, .int x2] [] (0, 0) (LAY, RFu r, mem)) : P 11 [.ref 108, .int x1, .int x2] [.int y0] (0, 0) (LAY, RFu r, mem) := by
  exact r_if (t := 16) hP d217_11 (by decide) kt (fun q => kf (Decidable.of_not_not q))
theorem b217_14 {d : Nat} {P : xPr} {Q : xQr} {r : Nat} {mem : Nat → Nat → Int32} (hP : Cl d none 217 P Q) {v0 : Value} {v1 : Value} {v2 : Value} (hzr : nI 0 = 0 ∨ nI 0 = 1)
    (k : Q (some (.int (nI 0))) (LAY, RFu r, mem)) : P 14 [v0, v1, v2] [] (0, 0) (LAY, RFu r, mem) := by
  refine r_iconst (v := nI 0) hP d217_14 rfl ?_
  exact r_zret hP d217_15 rfl hzr k
theorem b217_16 {d : Nat} {P : xPr} {Q : xQr} {r : Nat} {mem : Nat → Nat → Int32} (hP : Cl d none 217 P Q) {x1 : Int32} {x2 : Int32}
    (k : xCall d 216 [.ref 108, .int x1, .int x2] (LAY, RFu r, mem) (Bk P 19 [.ref 108, .int x1, .int x2] [] (0, 0))) : P 16 [.ref 108, .int x1, .int x2] [] (0, 0) (LAY, RFu r, mem) := by
  refine r_aload_n hP d217_16 rfl ?_
  refine r_iload_n hP d217_17 rfl ?_
  refine r_iload_n hP d217_18 rfl ?_
  exact r_callv (As := [.int x1, .int x2]) (S := []) hP d217_19 cr_12_300 (by decide +kernel) rfl (by simp [Value.category]) rfl ly_108 (by simp [Value.category]) ⟨Nat.zero_le _, Nat.zero_le _⟩ k
theorem b217_22 {d : Nat} {P : xPr} {Q : xQr} {r : Nat} {mem : Nat → Nat → Int32} (hP : Cl d none 217 P Q) {v0 : Value} {v1 : Value} {v2 : Value} (hzr : nI 1 = 0 ∨ nI 1 = 1)
    (k : Q (some (.int (nI 1))) (LAY, RFu r, mem)) : P 22 [v0, v1, v2] [] (0, 0) (LAY, RFu r, mem) := by
  refine r_iconst (v := nI 1) hP d217_22 rfl ?_
  exact r_zret hP d217_23 rfl hzr k
theorem d218_0 : decode (xB 218) 0 = .ok (.aload_n 0, 1) := by decide +kernel
theorem d218_1 : decode (xB 218) 1 = .ok (.iconst 0, 1) := by decide +kernel
theorem d218_2 : decode (xB 218) 2 = .ok (.putfield 121, 3) := by decide +kernel
theorem d218_5 : decode (xB 218) 5 = .ok (.iload_n 1, 1) := by decide +kernel
theorem d218_6 : decode (xB 218) 6 = .ok (.iconst 0, 1) := by decide +kernel
theorem d218_7 : decode (xB 218) 7 = .ok (.bipush 100, 2) := by decide +kernel
theorem d218_9 : decode (xB 218) 9 = .ok (.invokestatic 130, 3) := by decide +kernel
theorem d218_12 : decode (xB 218) 12 = .ok (.ifCond .ne 5, 3) := by decide +kernel
theorem d218_15 : decode (xB 218) 15 = .ok (.iconst (-1), 1) := by decide +kernel
theorem d218_16 : decode (xB 218) 16 = .ok (.ireturn, 1) := by decide +kernel
theorem d218_17 : decode (xB 218) 17 = .ok (.aload_n 0, 1) := by decide +kernel
theorem d218_18 : decode (xB 218) 18 = .ok (.getfield 127, 3) := by decide +kernel
theorem d218_21 : decode (xB 218) 21 = .ok (.iconst 2, 1) := by decide +kernel
theorem d218_22 : decode (xB 218) 22 = .ok (.if_icmp .ge 6, 3) := by decide +kernel
theorem d218_25 : decode (xB 218) 25 = .ok (.bipush (-2), 2) := by decide +kernel
theorem d218_27 : decode (xB 218) 27 = .ok (.ireturn, 1) := by decide +kernel
theorem d218_28 : decode (xB 218) 28 = .ok (.aload_n 0, 1) := by decide +kernel
theorem d218_29 : decode (xB 218) 29 = .ok (.iload_n 1, 1) := by decide +kernel
theorem d218_30 : decode (xB 218) 30 = .ok (.aload_n 0, 1) := by decide +kernel
theorem d218_31 : decode (xB 218) 31 = .ok (.getfield 99, 3) := by decide +kernel
theorem d218_34 : decode (xB 218) 34 = .ok (.invokevirtual 304, 3) := by decide +kernel
theorem d218_37 : decode (xB 218) 37 = .ok (.istore_n 2, 1) := by decide +kernel
theorem d218_38 : decode (xB 218) 38 = .ok (.iconst (-1), 1) := by decide +kernel
theorem d218_39 : decode (xB 218) 39 = .ok (.istore_n 3, 1) := by decide +kernel
theorem d218_40 : decode (xB 218) 40 = .ok (.iconst (-1), 1) := by decide +kernel
theorem d218_41 : decode (xB 218) 41 = .ok (.istore 4, 2) := by decide +kernel
theorem d218_43 : decode (xB 218) 43 = .ok (.iconst 0, 1) := by decide +kernel
theorem d218_44 : decode (xB 218) 44 = .ok (.istore 5, 2) := by decide +kernel
theorem d218_46 : decode (xB 218) 46 = .ok (.iconst 0, 1) := by decide +kernel
theorem d218_47 : decode (xB 218) 47 = .ok (.istore 6, 2) := by decide +kernel
theorem d218_49 : decode (xB 218) 49 = .ok (.iload 6, 2) := by decide +kernel
theorem d218_51 : decode (xB 218) 51 = .ok (.aload_n 0, 1) := by decide +kernel
theorem d218_52 : decode (xB 218) 52 = .ok (.getfield 127, 3) := by decide +kernel
theorem d218_55 : decode (xB 218) 55 = .ok (.if_icmp .ge 83, 3) := by decide +kernel
theorem d218_58 : decode (xB 218) 58 = .ok (.iload 6, 2) := by decide +kernel
theorem d218_60 : decode (xB 218) 60 = .ok (.iconst 1, 1) := by decide +kernel
theorem d218_61 : decode (xB 218) 61 = .ok (.iadd, 1) := by decide +kernel
theorem d218_62 : decode (xB 218) 62 = .ok (.istore 7, 2) := by decide +kernel
theorem d218_64 : decode (xB 218) 64 = .ok (.iload 7, 2) := by decide +kernel
theorem d218_66 : decode (xB 218) 66 = .ok (.aload_n 0, 1) := by decide +kernel
theorem d218_67 : decode (xB 218) 67 = .ok (.getfield 127, 3) := by decide +kernel
theorem d218_70 : decode (xB 218) 70 = .ok (.if_icmp .ge 62, 3) := by decide +kernel
theorem d218_73 : decode (xB 218) 73 = .ok (.aload_n 0, 1) := by decide +kernel
theorem d218_74 : decode (xB 218) 74 = .ok (.iload 6, 2) := by decide +kernel
theorem d218_76 : decode (xB 218) 76 = .ok (.iload 7, 2) := by decide +kernel
theorem d218_78 : decode (xB 218) 78 = .ok (.invokevirtual 300, 3) := by decide +kernel
theorem d218_81 : decode (xB 218) 81 = .ok (.aload_n 0, 1) := by decide +kernel
theorem d218_82 : decode (xB 218) 82 = .ok (.iload_n 1, 1) := by decide +kernel
theorem d218_83 : decode (xB 218) 83 = .ok (.aload_n 0, 1) := by decide +kernel
theorem d218_84 : decode (xB 218) 84 = .ok (.getfield 99, 3) := by decide +kernel
theorem d218_87 : decode (xB 218) 87 = .ok (.invokevirtual 304, 3) := by decide +kernel
theorem d218_90 : decode (xB 218) 90 = .ok (.istore 8, 2) := by decide +kernel
theorem d218_92 : decode (xB 218) 92 = .ok (.aload_n 0, 1) := by decide +kernel
theorem d218_93 : decode (xB 218) 93 = .ok (.iload 6, 2) := by decide +kernel
theorem d218_95 : decode (xB 218) 95 = .ok (.iload 7, 2) := by decide +kernel
theorem d218_97 : decode (xB 218) 97 = .ok (.invokevirtual 300, 3) := by decide +kernel
theorem d218_100 : decode (xB 218) 100 = .ok (.iload_n 3, 1) := by decide +kernel
theorem d218_101 : decode (xB 218) 101 = .ok (.iconst (-1), 1) := by decide +kernel
theorem d218_102 : decode (xB 218) 102 = .ok (.if_icmp .eq 13, 3) := by decide +kernel
theorem d218_105 : decode (xB 218) 105 = .ok (.iload 8, 2) := by decide +kernel
theorem d218_107 : decode (xB 218) 107 = .ok (.iload 5, 2) := by decide +kernel
theorem d218_109 : decode (xB 218) 109 = .ok (.if_icmp .lt 6, 3) := by decide +kernel
theorem d218_112 : decode (xB 218) 112 = .ok (.goto 14, 3) := by decide +kernel
theorem d218_115 : decode (xB 218) 115 = .ok (.iload 6, 2) := by decide +kernel
theorem d218_117 : decode (xB 218) 117 = .ok (.istore_n 3, 1) := by decide +kernel
theorem d218_118 : decode (xB 218) 118 = .ok (.iload 7, 2) := by decide +kernel
theorem d218_120 : decode (xB 218) 120 = .ok (.istore 4, 2) := by decide +kernel
theorem d218_122 : decode (xB 218) 122 = .ok (.iload 8, 2) := by decide +kernel
theorem d218_124 : decode (xB 218) 124 = .ok (.istore 5, 2) := by decide +kernel
theorem d218_126 : decode (xB 218) 126 = .ok (.iinc 7 1, 3) := by decide +kernel
theorem d218_129 : decode (xB 218) 129 = .ok (.goto (-65), 3) := by decide +kernel
theorem d218_132 : decode (xB 218) 132 = .ok (.iinc 6 1, 3) := by decide +kernel
theorem d218_135 : decode (xB 218) 135 = .ok (.goto (-86), 3) := by decide +kernel
theorem d218_138 : decode (xB 218) 138 = .ok (.aload_n 0, 1) := by decide +kernel
theorem d218_139 : decode (xB 218) 139 = .ok (.iconst 0, 1) := by decide +kernel
theorem d218_140 : decode (xB 218) 140 = .ok (.putfield 124, 3) := by decide +kernel
theorem d218_143 : decode (xB 218) 143 = .ok (.aload_n 0, 1) := by decide +kernel
theorem d218_144 : decode (xB 218) 144 = .ok (.iload_n 3, 1) := by decide +kernel
theorem d218_145 : decode (xB 218) 145 = .ok (.invokevirtual 258, 3) := by decide +kernel
theorem d218_148 : decode (xB 218) 148 = .ok (.aload_n 0, 1) := by decide +kernel
theorem d218_149 : decode (xB 218) 149 = .ok (.iload 4, 2) := by decide +kernel
theorem d218_151 : decode (xB 218) 151 = .ok (.invokevirtual 258, 3) := by decide +kernel
theorem d218_154 : decode (xB 218) 154 = .ok (.aload_n 0, 1) := by decide +kernel
theorem d218_155 : decode (xB 218) 155 = .ok (.iload_n 2, 1) := by decide +kernel
theorem d218_156 : decode (xB 218) 156 = .ok (.iload 5, 2) := by decide +kernel
theorem d218_158 : decode (xB 218) 158 = .ok (.isub, 1) := by decide +kernel
theorem d218_159 : decode (xB 218) 159 = .ok (.invokevirtual 258, 3) := by decide +kernel
theorem d218_162 : decode (xB 218) 162 = .ok (.iload 5, 2) := by decide +kernel
theorem d218_164 : decode (xB 218) 164 = .ok (.ireturn, 1) := by decide +kernel
theorem b218_0 {d : Nat} {P : xPr} {Q : xQr} {r : Nat} {mem : Nat → Nat → Int32} (hP : Cl d none 218 P Q) {p0 : Int32}
    (k : xCall d 158 [.int p0, .int (nI 0), .int (nI 100)] (LAY, RFu r, xu2 mem 108 20 (nI 0)) (Bk P 9 [.ref 108, .int p0, .null, .null, .null, .null, .null, .null, .null] [] (0, 0))) : P 0 [.ref 108, .int p0, .null, .null, .null, .null, .null, .null, .null] [] (0, 0) (LAY, RFu r, mem) := by
  refine r_aload_n hP d218_0 rfl ?_
  refine r_iconst (v := nI 0) hP d218_1 rfl ?_
  refine r_puti hP d218_2 fr_12_121 rfl (fun q => by cases q) ly_108 ?_
  refine r_iload_n hP d218_5 rfl ?_
  refine r_iconst (v := nI 0) hP d218_6 rfl ?_
  refine r_bipush (v := nI 100) hP d218_7 rfl ?_
  exact r_calls (As := [.int p0, .int (nI 0), .int (nI 100)]) (S := []) hP d218_9 cr_12_130 (by decide +kernel) rfl (by simp [Value.category]) rfl (by simp [Value.category]) ⟨Nat.zero_le _, Nat.zero_le _⟩ k
theorem b218_12 {d : Nat} {P : xPr} {Q : xQr} {r : Nat} {mem : Nat → Nat → Int32} (hP : Cl d none 218 P Q) {x1 : Int32} {v2 : Value} {v3 : Value} {v4 : Value} {v5 : Value} {v6 : Value} {v7 : Value} {v8 : Value} {y0 : Int32}
    (kt : ¬ y0 = 0 → P 17 [.ref 108, .int x1, v2, v3, v4, v5, v6, v7, v8] [] (0, 0) (LAY, RFu r, mem)) (kf : y0 = 0 → P 15 [.ref 108, .int x1, v2, v3, v4, v5, v6, v7, v8] [] (0, 0) (LAY, RFu r, mem)) : P 12 [.ref 108, .int x1, v2, v3, v4, v5, v6, v7, v8] [.int y0] (0, 0) (LAY, RFu r, mem) := by
  exact r_if (t := 17) hP d218_12 (by decide) kt (fun q => kf (Decidable.of_not_not q))
theorem b218_15 {d : Nat} {P : xPr} {Q : xQr} {r : Nat} {mem : Nat → Nat → Int32} (hP : Cl d none 218 P Q) {v0 : Value} {v1 : Value} {v2 : Value} {v3 : Value} {v4 : Value} {v5 : Value} {v6 : Value} {v7 : Value} {v8 : Value}
    (k : Q (some (.int (-1))) (LAY, RFu r, mem)) : P 15 [v0, v1, v2, v3, v4, v5, v6, v7, v8] [] (0, 0) (LAY, RFu r, mem) := by
  refine r_iconst (v := (-1)) hP d218_15 rfl ?_
  exact r_iret hP d218_16 rfl k
theorem b218_17 {d : Nat} {P : xPr} {Q : xQr} {r : Nat} {mem : Nat → Nat → Int32} (hP : Cl d none 218 P Q) {x1 : Int32} {v2 : Value} {v3 : Value} {v4 : Value} {v5 : Value} {v6 : Value} {v7 : Value} {v8 : Value}
    (kt : (nI 2) ≤ (mem 108 2) → P 28 [.ref 108, .int x1, v2, v3, v4, v5, v6, v7, v8] [] (0, 0) (LAY, RFu r, mem)) (kf : ¬ (nI 2) ≤ (mem 108 2) → P 25 [.ref 108, .int x1, v2, v3, v4, v5, v6, v7, v8] [] (0, 0) (LAY, RFu r, mem)) : P 17 [.ref 108, .int x1, v2, v3, v4, v5, v6, v7, v8] [] (0, 0) (LAY, RFu r, mem) := by
  refine r_aload_n hP d218_17 rfl ?_
  refine r_geti hP d218_18 fr_12_127 rfl ly_108 ?_
  refine r_iconst (v := nI 2) hP d218_21 rfl ?_
  exact r_icmp (t := 28) hP d218_22 (by decide) kt kf
theorem b218_25 {d : Nat} {P : xPr} {Q : xQr} {r : Nat} {mem : Nat → Nat → Int32} (hP : Cl d none 218 P Q) {v0 : Value} {v1 : Value} {v2 : Value} {v3 : Value} {v4 : Value} {v5 : Value} {v6 : Value} {v7 : Value} {v8 : Value}
    (k : Q (some (.int (-2))) (LAY, RFu r, mem)) : P 25 [v0, v1, v2, v3, v4, v5, v6, v7, v8] [] (0, 0) (LAY, RFu r, mem) := by
  refine r_bipush (v := (-2)) hP d218_25 rfl ?_
  exact r_iret hP d218_27 rfl k
theorem b218_28 {d : Nat} {P : xPr} {Q : xQr} {r : Nat} {mem : Nat → Nat → Int32} (hP : Cl d none 218 P Q) {x1 : Int32} {v2 : Value} {v3 : Value} {v4 : Value} {v5 : Value} {v6 : Value} {v7 : Value} {v8 : Value}
    (k : xCall d 222 [.ref 108, .int x1, .ref 137] (LAY, RFu r, mem) (Bk P 34 [.ref 108, .int x1, v2, v3, v4, v5, v6, v7, v8] [] (0, 0))) : P 28 [.ref 108, .int x1, v2, v3, v4, v5, v6, v7, v8] [] (0, 0) (LAY, RFu r, mem) := by
  refine r_aload_n hP d218_28 rfl ?_
  refine r_iload_n hP d218_29 rfl ?_
  refine r_aload_n hP d218_30 rfl ?_
  refine r_getr (a := 137) hP d218_31 fr_12_99 rfl ly_108 rg_108_42 ?_
  exact r_callv (As := [.int x1, .ref 137]) (S := []) hP d218_34 cr_12_304 (by decide +kernel) rfl (by simp [Value.category]) rfl ly_108 (by simp [Value.category]) ⟨Nat.zero_le _, Nat.zero_le _⟩ k
theorem b218_37 {d : Nat} {P : xPr} {Q : xQr} {r : Nat} {mem : Nat → Nat → Int32} (hP : Cl d none 218 P Q) {x1 : Int32} {v2 : Value} {v3 : Value} {v4 : Value} {v5 : Value} {v6 : Value} {v7 : Value} {v8 : Value} {y0 : Int32}
    (k : P 49 [.ref 108, .int x1, .int y0, .int (-1), .int (-1), .int (nI 0), .int (nI 0), v7, v8] [] (0, 0) (LAY, RFu r, mem)) : P 37 [.ref 108, .int x1, v2, v3, v4, v5, v6, v7, v8] [.int y0] (0, 0) (LAY, RFu r, mem) := by
  refine r_istore_n (L' := [.ref 108, .int x1, .int y0, v3, v4, v5, v6, v7, v8]) hP d218_37 (Nat.le_of_ble_eq_true rfl) rfl ?_
  refine r_iconst (v := (-1)) hP d218_38 rfl ?_
  refine r_istore_n (L' := [.ref 108, .int x1, .int y0, .int (-1), v4, v5, v6, v7, v8]) hP d218_39 (Nat.le_of_ble_eq_true rfl) rfl ?_
  refine r_iconst (v := (-1)) hP d218_40 rfl ?_
  refine r_istore (L' := [.ref 108, .int x1, .int y0, .int (-1), .int (-1), v5, v6, v7, v8]) hP d218_41 (Nat.le_of_ble_eq_true rfl) rfl ?_
  refine r_iconst (v := nI 0) hP d218_43 rfl ?_
  refine r_istore (L' := [.ref 108, .int x1, .int y0, .int (-1), .int (-1), .int (nI 0), v6, v7, v8]) hP d218_44 (Nat.le_of_ble_eq_true rfl) rfl ?_
  refine r_iconst (v := nI 0) hP d218_46 rfl ?_
  refine r_istore (L' := [.ref 108, .int x1, .int y0, .int (-1), .int (-1), .int (nI 0), .int (nI 0), v7, v8]) hP d218_47 (Nat.le_of_ble_eq_true rfl) rfl ?_
  exact k
theorem b218_49 {d : Nat} {P : xPr} {Q : xQr} {r : Nat} {mem : Nat → Nat → Int32} (hP : Cl d none 218 P Q) {x1 : Int32} {x2 : Int32} {x3 : Int32} {x4 : Int32} {x5 : Int32} {x6 : Int32} {v7 : Value} {v8 : Value}
    (kt : (mem 108 2) ≤ x6 → P 138 [.ref 108, .int x1, .int x2, .int x3, .int x4, .int x5, .int x6, v7, v8] [] (0, 0) (LAY, RFu r, mem)) (kf : ¬ (mem 108 2) ≤ x6 → P 58 [.ref 108, .int x1, .int x2, .int x3, .int x4, .int x5, .int x6, v7, v8] [] (0, 0) (LAY, RFu r, mem)) : P 49 [.ref 108, .int x1, .int x2, .int x3, .int x4, .int x5, .int x6, v7, v8] [] (0, 0) (LAY, RFu r, mem) := by
  refine r_iload hP d218_49 rfl ?_
  refine r_aload_n hP d218_51 rfl ?_
  refine r_geti hP d218_52 fr_12_127 rfl ly_108 ?_
  exact r_icmp (t := 138) hP d218_55 (by decide) kt kf
theorem b218_58 {d : Nat} {P : xPr} {Q : xQr} {r : Nat} {mem : Nat → Nat → Int32} (hP : Cl d none 218 P Q) {x1 : Int32} {x2 : Int32} {x3 : Int32} {x4 : Int32} {x5 : Int32} {x6 : Int32} {v7 : Value} {v8 : Value}
    (k : P 64 [.ref 108, .int x1, .int x2, .int x3, .int x4, .int x5, .int x6, .int (x6 + (nI 1)), v8] [] (0, 0) (LAY, RFu r, mem)) : P 58 [.ref 108, .int x1, .int x2, .int x3, .int x4, .int x5, .int x6, v7, v8] [] (0, 0) (LAY, RFu r, mem) := by
  refine r_iload hP d218_58 rfl ?_
  refine r_iconst (v := nI 1) hP d218_60 rfl ?_
  refine r_iadd hP d218_61 ?_
  refine r_istore (L' := [.ref 108, .int x1, .int x2, .int x3, .int x4, .int x5, .int x6, .int (x6 + (nI 1)), v8]) hP d218_62 (Nat.le_of_ble_eq_true rfl) rfl ?_
  exact k
theorem b218_64 {d : Nat} {P : xPr} {Q : xQr} {r : Nat} {mem : Nat → Nat → Int32} (hP : Cl d none 218 P Q) {x1 : Int32} {x2 : Int32} {x3 : Int32} {x4 : Int32} {x5 : Int32} {x6 : Int32} {x7 : Int32} {v8 : Value}
    (kt : (mem 108 2) ≤ x7 → P 132 [.ref 108, .int x1, .int x2, .int x3, .int x4, .int x5, .int x6, .int x7, v8] [] (0, 0) (LAY, RFu r, mem)) (kf : ¬ (mem 108 2) ≤ x7 → P 73 [.ref 108, .int x1, .int x2, .int x3, .int x4, .int x5, .int x6, .int x7, v8] [] (0, 0) (LAY, RFu r, mem)) : P 64 [.ref 108, .int x1, .int x2, .int x3, .int x4, .int x5, .int x6, .int x7, v8] [] (0, 0) (LAY, RFu r, mem) := by
  refine r_iload hP d218_64 rfl ?_
  refine r_aload_n hP d218_66 rfl ?_
  refine r_geti hP d218_67 fr_12_127 rfl ly_108 ?_
  exact r_icmp (t := 132) hP d218_70 (by decide) kt kf
theorem b218_73 {d : Nat} {P : xPr} {Q : xQr} {r : Nat} {mem : Nat → Nat → Int32} (hP : Cl d none 218 P Q) {x1 : Int32} {x2 : Int32} {x3 : Int32} {x4 : Int32} {x5 : Int32} {x6 : Int32} {x7 : Int32} {v8 : Value}
    (k : xCall d 216 [.ref 108, .int x6, .int x7] (LAY, RFu r, mem) (Bk P 78 [.ref 108, .int x1, .int x2, .int x3, .int x4, .int x5, .int x6, .int x7, v8] [] (0, 0))) : P 73 [.ref 108, .int x1, .int x2, .int x3, .int x4, .int x5, .int x6, .int x7, v8] [] (0, 0) (LAY, RFu r, mem) := by
  refine r_aload_n hP d218_73 rfl ?_
  refine r_iload hP d218_74 rfl ?_
  refine r_iload hP d218_76 rfl ?_
  exact r_callv (As := [.int x6, .int x7]) (S := []) hP d218_78 cr_12_300 (by decide +kernel) rfl (by simp [Value.category]) rfl ly_108 (by simp [Value.category]) ⟨Nat.zero_le _, Nat.zero_le _⟩ k
theorem b218_81 {d : Nat} {P : xPr} {Q : xQr} {r : Nat} {mem : Nat → Nat → Int32} (hP : Cl d none 218 P Q) {x1 : Int32} {x2 : Int32} {x3 : Int32} {x4 : Int32} {x5 : Int32} {x6 : Int32} {x7 : Int32} {v8 : Value}
    (k : xCall d 222 [.ref 108, .int x1, .ref 137] (LAY, RFu r, mem) (Bk P 87 [.ref 108, .int x1, .int x2, .int x3, .int x4, .int x5, .int x6, .int x7, v8] [] (0, 0))) : P 81 [.ref 108, .int x1, .int x2, .int x3, .int x4, .int x5, .int x6, .int x7, v8] [] (0, 0) (LAY, RFu r, mem) := by
  refine r_aload_n hP d218_81 rfl ?_
  refine r_iload_n hP d218_82 rfl ?_
  refine r_aload_n hP d218_83 rfl ?_
  refine r_getr (a := 137) hP d218_84 fr_12_99 rfl ly_108 rg_108_42 ?_
  exact r_callv (As := [.int x1, .ref 137]) (S := []) hP d218_87 cr_12_304 (by decide +kernel) rfl (by simp [Value.category]) rfl ly_108 (by simp [Value.category]) ⟨Nat.zero_le _, Nat.zero_le _⟩ k
theorem b218_90 {d : Nat} {P : xPr} {Q : xQr} {r : Nat} {mem : Nat → Nat → Int32} (hP : Cl d none 218 P Q) {x1 : Int32} {x2 : Int32} {x3 : Int32} {x4 : Int32} {x5 : Int32} {x6 : Int32} {x7 : Int32} {v8 : Value} {y0 : Int32}
    (k : xCall d 216 [.ref 108, .int x6, .int x7] (LAY, RFu r, mem) (Bk P 97 [.ref 108, .int x1, .int x2, .int x3, .int x4, .int x5, .int x6, .int x7, .int y0] [] (0, 0))) : P 90 [.ref 108, .int x1, .int x2, .int x3, .int x4, .int x5, .int x6, .int x7, v8] [.int y0] (0, 0) (LAY, RFu r, mem) := by
  refine r_istore (L' := [.ref 108, .int x1, .int x2, .int x3, .int x4, .int x5, .int x6, .int x7, .int y0]) hP d218_90 (Nat.le_of_ble_eq_true rfl) rfl ?_
  refine r_aload_n hP d218_92 rfl ?_
  refine r_iload hP d218_93 rfl ?_
  refine r_iload hP d218_95 rfl ?_
  exact r_callv (As := [.int x6, .int x7]) (S := []) hP d218_97 cr_12_300 (by decide +kernel) rfl (by simp [Value.category]) rfl ly_108 (by simp [Value.category]) ⟨Nat.zero_le _, Nat.zero_le _⟩ k
theorem b218_100 {d : Nat} {P : xPr} {Q : xQr} {r : Nat} {mem : Nat → Nat → Int32} (hP : Cl d none 218 P Q) {x1 : Int32} {x2 : Int32} {x3 : Int32} {x4 : Int32} {x5 : Int32} {x6 : Int32} {x7 : Int32} {x8 : Int32}
    (kt : x3 = (-1) → P 115 [.ref 108, .int x1, .int x2, .int x3, .int x4, .int x5, .int x6, .int x7, .int x8] [] (0, 0) (LAY, RFu r, mem)) (kf : ¬ x3 = (-1) → P 105 [.ref 108, .int x1, .int x2, .int x3, .int x4, .int x5, .int x6, .int x7, .int x8] [] (0, 0) (LAY, RFu r, mem)) : P 100 [.ref 108, .int x1, .int x2, .int x3, .int x4, .int x5, .int x6, .int x7, .int x8] [] (0, 0) (LAY, RFu r, mem) := by
  refine r_iload_n hP d218_100 rfl ?_
  refine r_iconst (v := (-1)) hP d218_101 rfl ?_
  exact r_icmp (t := 115) hP d218_102 (by decide) kt kf
theorem b218_105 {d : Nat} {P : xPr} {Q : xQr} {r : Nat} {mem : Nat → Nat → Int32} (hP : Cl d none 218 P Q) {x1 : Int32} {x2 : Int32} {x3 : Int32} {x4 : Int32} {x5 : Int32} {x6 : Int32} {x7 : Int32} {x8 : Int32}
    (kt : x8 < x5 → P 115 [.ref 108, .int x1, .int x2, .int x3, .int x4, .int x5, .int x6, .int x7, .int x8] [] (0, 0) (LAY, RFu r, mem)) (kf : ¬ x8 < x5 → P 112 [.ref 108, .int x1, .int x2, .int x3, .int x4, .int x5, .int x6, .int x7, .int x8] [] (0, 0) (LAY, RFu r, mem)) : P 105 [.ref 108, .int x1, .int x2, .int x3, .int x4, .int x5, .int x6, .int x7, .int x8] [] (0, 0) (LAY, RFu r, mem) := by
  refine r_iload hP d218_105 rfl ?_
  refine r_iload hP d218_107 rfl ?_
  exact r_icmp (t := 115) hP d218_109 (by decide) kt kf
theorem b218_112 {d : Nat} {P : xPr} {Q : xQr} {r : Nat} {mem : Nat → Nat → Int32} (hP : Cl d none 218 P Q) {x1 : Int32} {x2 : Int32} {x3 : Int32} {x4 : Int32} {x5 : Int32} {x6 : Int32} {x7 : Int32} {v8 : Value}
    (k : P 126 [.ref 108, .int x1, .int x2, .int x3, .int x4, .int x5, .int x6, .int x7, v8] [] (0, 0) (LAY, RFu r, mem)) : P 112 [.ref 108, .int x1, .int x2, .int x3, .int x4, .int x5, .int x6, .int x7, v8] [] (0, 0) (LAY, RFu r, mem) := by
  refine r_goto (t := 126) hP d218_112 (by decide) ?_
  exact k
theorem b218_115 {d : Nat} {P : xPr} {Q : xQr} {r : Nat} {mem : Nat → Nat → Int32} (hP : Cl d none 218 P Q) {x1 : Int32} {x2 : Int32} {v3 : Value} {v4 : Value} {v5 : Value} {x6 : Int32} {x7 : Int32} {x8 : Int32}
    (k : P 126 [.ref 108, .int x1, .int x2, .int x6, .int x7, .int x8, .int x6, .int x7, .int x8] [] (0, 0) (LAY, RFu r, mem)) : P 115 [.ref 108, .int x1, .int x2, v3, v4, v5, .int x6, .int x7, .int x8] [] (0, 0) (LAY, RFu r, mem) := by
  refine r_iload hP d218_115 rfl ?_
  refine r_istore_n (L' := [.ref 108, .int x1, .int x2, .int x6, v4, v5, .int x6, .int x7, .int x8]) hP d218_117 (Nat.le_of_ble_eq_true rfl) rfl ?_
  refine r_iload hP d218_118 rfl ?_
  refine r_istore (L' := [.ref 108, .int x1, .int x2, .int x6, .int x7, v5, .int x6, .int x7, .int x8]) hP d218_120 (Nat.le_of_ble_eq_true rfl) rfl ?_
  refine r_iload hP d218_122 rfl ?_
  refine r_istore (L' := [.ref 108, .int x1, .int x2, .int x6, .int x7, .int x8, .int x6, .int x7, .int x8]) hP d218_124 (Nat.le_of_ble_eq_true rfl) rfl ?_
  exact k
theorem b218_126 {d : Nat} {P : xPr} {Q : xQr} {r : Nat} {mem : Nat → Nat → Int32} (hP : Cl d none 218 P Q) {x1 : Int32} {x2 : Int32} {x3 : Int32} {x4 : Int32} {x5 : Int32} {x6 : Int32} {x7 : Int32} {v8 : Value}
    (k : P 64 [.ref 108, .int x1, .int x2, .int x3, .int x4, .int x5, .int x6, .int (x7 + nI 1), v8] [] (0, 0) (LAY, RFu r, mem)) : P 126 [.ref 108, .int x1, .int x2, .int x3, .int x4, .int x5, .int x6, .int x7, v8] [] (0, 0) (LAY, RFu r, mem) := by
  refine r_iinc (v := nI 1) (L' := [.ref 108, .int x1, .int x2, .int x3, .int x4, .int x5, .int x6, .int (x7 + nI 1), v8]) hP d218_126 rfl rfl rfl ?_
  refine r_goto (t := 64) hP d218_129 (by decide) ?_
  exact k
theorem b218_132 {d : Nat} {P : xPr} {Q : xQr} {r : Nat} {mem : Nat → Nat → Int32} (hP : Cl d none 218 P Q) {x1 : Int32} {x2 : Int32} {x3 : Int32} {x4 : Int32} {x5 : Int32} {x6 : Int32} {v7 : Value} {v8 : Value}
    (k : P 49 [.ref 108, .int x1, .int x2, .int x3, .int x4, .int x5, .int (x6 + nI 1), v7, v8] [] (0, 0) (LAY, RFu r, mem)) : P 132 [.ref 108, .int x1, .int x2, .int x3, .int x4, .int x5, .int x6, v7, v8] [] (0, 0) (LAY, RFu r, mem) := by
  refine r_iinc (v := nI 1) (L' := [.ref 108, .int x1, .int x2, .int x3, .int x4, .int x5, .int (x6 + nI 1), v7, v8]) hP d218_132 rfl rfl rfl ?_
  refine r_goto (t := 49) hP d218_135 (by decide) ?_
  exact k
theorem b218_138 {d : Nat} {P : xPr} {Q : xQr} {r : Nat} {mem : Nat → Nat → Int32} (hP : Cl d none 218 P Q) {v1 : Value} {x2 : Int32} {x3 : Int32} {x4 : Int32} {x5 : Int32} {v6 : Value} {v7 : Value} {v8 : Value}
    (k : xCall d 161 [.ref 108, .int x3] (LAY, RFu r, xu2 mem 108 19 (nI 0)) (Bk P 145 [.ref 108, v1, .int x2, .int x3, .int x4, .int x5, v6, v7, v8] [] (0, 0))) : P 138 [.ref 108, v1, .int x2, .int x3, .int x4, .int x5, v6, v7, v8] [] (0, 0) (LAY, RFu r, mem) := by
  refine r_aload_n hP d218_138 rfl ?_
  refine r_iconst (v := nI 0) hP d218_139 rfl ?_
  refine r_puti hP d218_140 fr_12_124 rfl (fun q => by cases q) ly_108 ?_
  refine r_aload_n hP d218_143 rfl ?_
  refine r_iload_n hP d218_144 rfl ?_
  exact r_callv (As := [.int x3]) (S := []) hP d218_145 cr_12_258 (by decide +kernel) rfl (by simp [Value.category]) rfl ly_108 (by simp [Value.category]) ⟨Nat.zero_le _, Nat.zero_le _⟩ k
theorem b218_148 {d : Nat} {P : xPr} {Q : xQr} {r : Nat} {mem : Nat → Nat → Int32} (hP : Cl d none 218 P Q) {v1 : Value} {x2 : Int32} {v3 : Value} {x4 : Int32} {x5 : Int32} {v6 : Value} {v7 : Value} {v8 : Value}
    (k : xCall d 161 [.ref 108, .int x4] (LAY, RFu r, mem) (Bk P 151 [.ref 108, v1, .int x2, v3, .int x4, .int x5, v6, v7, v8] [] (0, 0))) : P 148 [.ref 108, v1, .int x2, v3, .int x4, .int x5, v6, v7, v8] [] (0, 0) (LAY, RFu r, mem) := by
  refine r_aload_n hP d218_148 rfl ?_
  refine r_iload hP d218_149 rfl ?_
  exact r_callv (As := [.int x4]) (S := []) hP d218_151 cr_12_258 (by decide +kernel) rfl (by simp [Value.category]) rfl ly_108 (by simp [Value.category]) ⟨Nat.zero_le _, Nat.zero_le _⟩ k
theorem b218_154 {d : Nat} {P : xPr} {Q : xQr} {r : Nat} {mem : Nat → Nat → Int32} (hP : Cl d none 218 P Q) {v1 : Value} {x2 : Int32} {v3 : Value} {v4 : Value} {x5 : Int32} {v6 : Value} {v7 : Value} {v8 : Value}
    (k : xCall d 161 [.ref 108, .int (x2 - x5)] (LAY, RFu r, mem) (Bk P 159 [.ref 108, v1, .int x2, v3, v4, .int x5, v6, v7, v8] [] (0, 0))) : P 154 [.ref 108, v1, .int x2, v3, v4, .int x5, v6, v7, v8] [] (0, 0) (LAY, RFu r, mem) := by
  refine r_aload_n hP d218_154 rfl ?_
  refine r_iload_n hP d218_155 rfl ?_
  refine r_iload hP d218_156 rfl ?_
  refine r_isub hP d218_158 ?_
  exact r_callv (As := [.int (x2 - x5)]) (S := []) hP d218_159 cr_12_258 (by decide +kernel) rfl (by simp [Value.category]) rfl ly_108 (by simp [Value.category]) ⟨Nat.zero_le _, Nat.zero_le _⟩ k
theorem b218_162 {d : Nat} {P : xPr} {Q : xQr} {r : Nat} {mem : Nat → Nat → Int32} (hP : Cl d none 218 P Q) {v0 : Value} {v1 : Value} {v2 : Value} {v3 : Value} {v4 : Value} {x5 : Int32} {v6 : Value} {v7 : Value} {v8 : Value}
    (k : Q (some (.int x5)) (LAY, RFu r, mem)) : P 162 [v0, v1, v2, v3, v4, .int x5, v6, v7, v8] [] (0, 0) (LAY, RFu r, mem) := by
  refine r_iload hP d218_162 rfl ?_
  exact r_iret hP d218_164 rfl k
theorem d219_0 : decode (xB 219) 0 = .ok (.aload_n 0, 1) := by decide +kernel
theorem d219_1 : decode (xB 219) 1 = .ok (.iconst 0, 1) := by decide +kernel
theorem d219_2 : decode (xB 219) 2 = .ok (.putfield 121, 3) := by decide +kernel
theorem d219_5 : decode (xB 219) 5 = .ok (.aload_n 0, 1) := by decide +kernel
theorem d219_6 : decode (xB 219) 6 = .ok (.iload_n 1, 1) := by decide +kernel
theorem d219_7 : decode (xB 219) 7 = .ok (.invokevirtual 134, 3) := by decide +kernel
theorem d219_10 : decode (xB 219) 10 = .ok (.ifCond .eq 13, 3) := by decide +kernel
theorem d219_13 : decode (xB 219) 13 = .ok (.iload_n 2, 1) := by decide +kernel
theorem d219_14 : decode (xB 219) 14 = .ok (.iconst 0, 1) := by decide +kernel
theorem d219_15 : decode (xB 219) 15 = .ok (.bipush 100, 2) := by decide +kernel
theorem d219_17 : decode (xB 219) 17 = .ok (.invokestatic 130, 3) := by decide +kernel
theorem d219_20 : decode (xB 219) 20 = .ok (.ifCond .ne 5, 3) := by decide +kernel
theorem d219_23 : decode (xB 219) 23 = .ok (.iconst (-1), 1) := by decide +kernel
theorem d219_24 : decode (xB 219) 24 = .ok (.ireturn, 1) := by decide +kernel
theorem d219_25 : decode (xB 219) 25 = .ok (.aload_n 0, 1) := by decide +kernel
theorem d219_26 : decode (xB 219) 26 = .ok (.getfield 23, 3) := by decide +kernel
theorem d219_29 : decode (xB 219) 29 = .ok (.iload_n 1, 1) := by decide +kernel
theorem d219_30 : decode (xB 219) 30 = .ok (.iaload, 1) := by decide +kernel
theorem d219_31 : decode (xB 219) 31 = .ok (.ifCond .ne 6, 3) := by decide +kernel
theorem d219_34 : decode (xB 219) 34 = .ok (.bipush (-2), 2) := by decide +kernel
theorem d219_36 : decode (xB 219) 36 = .ok (.ireturn, 1) := by decide +kernel
theorem d219_37 : decode (xB 219) 37 = .ok (.iconst 0, 1) := by decide +kernel
theorem d219_38 : decode (xB 219) 38 = .ok (.istore_n 3, 1) := by decide +kernel
theorem d219_39 : decode (xB 219) 39 = .ok (.sipush 500, 3) := by decide +kernel
theorem d219_42 : decode (xB 219) 42 = .ok (.istore 4, 2) := by decide +kernel
theorem d219_44 : decode (xB 219) 44 = .ok (.iconst 0, 1) := by decide +kernel
theorem d219_45 : decode (xB 219) 45 = .ok (.istore 5, 2) := by decide +kernel
theorem d219_47 : decode (xB 219) 47 = .ok (.iload 5, 2) := by decide +kernel
theorem d219_49 : decode (xB 219) 49 = .ok (.aload_n 0, 1) := by decide +kernel
theorem d219_50 : decode (xB 219) 50 = .ok (.getfield 23, 3) := by decide +kernel
theorem d219_53 : decode (xB 219) 53 = .ok (.iload_n 1, 1) := by decide +kernel
theorem d219_54 : decode (xB 219) 54 = .ok (.iaload, 1) := by decide +kernel
theorem d219_55 : decode (xB 219) 55 = .ok (.if_icmp .ge 52, 3) := by decide +kernel
theorem d219_58 : decode (xB 219) 58 = .ok (.aload_n 0, 1) := by decide +kernel
theorem d219_59 : decode (xB 219) 59 = .ok (.getfield 72, 3) := by decide +kernel
theorem d219_62 : decode (xB 219) 62 = .ok (.iload_n 1, 1) := by decide +kernel
theorem d219_63 : decode (xB 219) 63 = .ok (.iload 5, 2) := by decide +kernel
theorem d219_65 : decode (xB 219) 65 = .ok (.iastore, 1) := by decide +kernel
theorem d219_66 : decode (xB 219) 66 = .ok (.aload_n 0, 1) := by decide +kernel
theorem d219_67 : decode (xB 219) 67 = .ok (.iload_n 2, 1) := by decide +kernel
theorem d219_68 : decode (xB 219) 68 = .ok (.aload_n 0, 1) := by decide +kernel
theorem d219_69 : decode (xB 219) 69 = .ok (.getfield 99, 3) := by decide +kernel
theorem d219_72 : decode (xB 219) 72 = .ok (.invokevirtual 304, 3) := by decide +kernel
theorem d219_75 : decode (xB 219) 75 = .ok (.pop, 1) := by decide +kernel
theorem d219_76 : decode (xB 219) 76 = .ok (.aload_n 0, 1) := by decide +kernel
theorem d219_77 : decode (xB 219) 77 = .ok (.getfield 99, 3) := by decide +kernel
theorem d219_80 : decode (xB 219) 80 = .ok (.iload_n 1, 1) := by decide +kernel
theorem d219_81 : decode (xB 219) 81 = .ok (.iaload, 1) := by decide +kernel
theorem d219_82 : decode (xB 219) 82 = .ok (.iload 4, 2) := by decide +kernel
theorem d219_84 : decode (xB 219) 84 = .ok (.if_icmp .lt 6, 3) := by decide +kernel
theorem d219_87 : decode (xB 219) 87 = .ok (.goto 14, 3) := by decide +kernel
theorem d219_90 : decode (xB 219) 90 = .ok (.iload 5, 2) := by decide +kernel
theorem d219_92 : decode (xB 219) 92 = .ok (.istore_n 3, 1) := by decide +kernel
theorem d219_93 : decode (xB 219) 93 = .ok (.aload_n 0, 1) := by decide +kernel
theorem d219_94 : decode (xB 219) 94 = .ok (.getfield 99, 3) := by decide +kernel
theorem d219_97 : decode (xB 219) 97 = .ok (.iload_n 1, 1) := by decide +kernel
theorem d219_98 : decode (xB 219) 98 = .ok (.iaload, 1) := by decide +kernel
theorem d219_99 : decode (xB 219) 99 = .ok (.istore 4, 2) := by decide +kernel
theorem d219_101 : decode (xB 219) 101 = .ok (.iinc 5 1, 3) := by decide +kernel
theorem d219_104 : decode (xB 219) 104 = .ok (.goto (-57), 3) := by decide +kernel
theorem d219_107 : decode (xB 219) 107 = .ok (.aload_n 0, 1) := by decide +kernel
theorem d219_108 : decode (xB 219) 108 = .ok (.getfield 72, 3) := by decide +kernel
theorem d219_111 : decode (xB 219) 111 = .ok (.iload_n 1, 1) := by decide +kernel
theorem d219_112 : decode (xB 219) 112 = .ok (.iconst 0, 1) := by decide +kernel
theorem d219_113 : decode (xB 219) 113 = .ok (.iastore, 1) := by decide +kernel
theorem d219_114 : decode (xB 219) 114 = .ok (.aload_n 0, 1) := by decide +kernel
theorem d219_115 : decode (xB 219) 115 = .ok (.iconst 0, 1) := by decide +kernel
theorem d219_116 : decode (xB 219) 116 = .ok (.putfield 124, 3) := by decide +kernel
theorem d219_119 : decode (xB 219) 119 = .ok (.aload_n 0, 1) := by decide +kernel
theorem d219_120 : decode (xB 219) 120 = .ok (.iload_n 3, 1) := by decide +kernel
theorem d219_121 : decode (xB 219) 121 = .ok (.invokevirtual 258, 3) := by decide +kernel
theorem d219_124 : decode (xB 219) 124 = .ok (.iload 4, 2) := by decide +kernel
theorem d219_126 : decode (xB 219) 126 = .ok (.ireturn, 1) := by decide +kernel
theorem b219_0 {d : Nat} {P : xPr} {Q : xQr} {r : Nat} {mem : Nat → Nat → Int32} (hP : Cl d none 219 P Q) {p0 : Int32} {p1 : Int32}
    (k : xCall d 162 [.ref 108, .int p0] (LAY, RFu r, xu2 mem 108 20 (nI 0)) (Bk P 7 [.ref 108, .int p0, .int p1, .null, .null, .null] [] (0, 0))) : P 0 [.ref 108, .int p0, .int p1, .null, .null, .null] [] (0, 0) (LAY, RFu r, mem) := by
  refine r_aload_n hP d219_0 rfl ?_
  refine r_iconst (v := nI 0) hP d219_1 rfl ?_
  refine r_puti hP d219_2 fr_12_121 rfl (fun q => by cases q) ly_108 ?_
  refine r_aload_n hP d219_5 rfl ?_
  refine r_iload_n hP d219_6 rfl ?_
  exact r_callv (As := [.int p0]) (S := []) hP d219_7 cr_12_134 (by decide +kernel) rfl (by simp [Value.category]) rfl ly_108 (by simp [Value.category]) ⟨Nat.zero_le _, Nat.zero_le _⟩ k
theorem b219_10 {d : Nat} {P : xPr} {Q : xQr} {r : Nat} {mem : Nat → Nat → Int32} (hP : Cl d none 219 P Q) {x1 : Int32} {x2 : Int32} {v3 : Value} {v4 : Value} {v5 : Value} {y0 : Int32}
    (kt : y0 = 0 → P 23 [.ref 108, .int x1, .int x2, v3, v4, v5] [] (0, 0) (LAY, RFu r, mem)) (kf : ¬ y0 = 0 → P 13 [.ref 108, .int x1, .int x2, v3, v4, v5] [] (0, 0) (LAY, RFu r, mem)) : P 10 [.ref 108, .int x1, .int x2, v3, v4, v5] [.int y0] (0, 0) (LAY, RFu r, mem) := by
  exact r_if (t := 23) hP d219_10 (by decide) kt kf
theorem b219_13 {d : Nat} {P : xPr} {Q : xQr} {r : Nat} {mem : Nat → Nat → Int32} (hP : Cl d none 219 P Q) {x1 : Int32} {x2 : Int32} {v3 : Value} {v4 : Value} {v5 : Value}
    (k : xCall d 158 [.int x2, .int (nI 0), .int (nI 100)] (LAY, RFu r, mem) (Bk P 17 [.ref 108, .int x1, .int x2, v3, v4, v5] [] (0, 0))) : P 13 [.ref 108, .int x1, .int x2, v3, v4, v5] [] (0, 0) (LAY, RFu r, mem) := by
  refine r_iload_n hP d219_13 rfl ?_
  refine r_iconst (v := nI 0) hP d219_14 rfl ?_
  refine r_bipush (v := nI 100) hP d219_15 rfl ?_
  exact r_calls (As := [.int x2, .int (nI 0), .int (nI 100)]) (S := []) hP d219_17 cr_12_130 (by decide +kernel) rfl (by simp [Value.category]) rfl (by simp [Value.category]) ⟨Nat.zero_le _, Nat.zero_le _⟩ k
theorem b219_20 {d : Nat} {P : xPr} {Q : xQr} {r : Nat} {mem : Nat → Nat → Int32} (hP : Cl d none 219 P Q) {x1 : Int32} {x2 : Int32} {v3 : Value} {v4 : Value} {v5 : Value} {y0 : Int32}
    (kt : ¬ y0 = 0 → P 25 [.ref 108, .int x1, .int x2, v3, v4, v5] [] (0, 0) (LAY, RFu r, mem)) (kf : y0 = 0 → P 23 [.ref 108, .int x1, .int x2, v3, v4, v5] [] (0, 0) (LAY, RFu r, mem)) : P 20 [.ref 108, .int x1, .int x2, v3, v4, v5] [.int y0] (0, 0) (LAY, RFu r, mem) := by
  exact r_if (t := 25) hP d219_20 (by decide) kt (fun q => kf (Decidable.of_not_not q))
theorem b219_23 {d : Nat} {P : xPr} {Q : xQr} {r : Nat} {mem : Nat → Nat → Int32} (hP : Cl d none 219 P Q) {v0 : Value} {v1 : Value} {v2 : Value} {v3 : Value} {v4 : Value} {v5 : Value}
    (k : Q (some (.int (-1))) (LAY, RFu r, mem)) : P 23 [v0, v1, v2, v3, v4, v5] [] (0, 0) (LAY, RFu r, mem) := by
  refine r_iconst (v := (-1)) hP d219_23 rfl ?_
  exact r_iret hP d219_24 rfl k
theorem b219_25 {d : Nat} {P : xPr} {Q : xQr} {r : Nat} {mem : Nat → Nat → Int32} (hP : Cl d none 219 P Q) {x1 : Int32} {x2 : Int32} {v3 : Value} {v4 : Value} {v5 : Value} (hi30 : vp_in x1 8)
    (kt : ¬ (mem 113 x1.toNatClampNeg) = 0 → P 37 [.ref 108, .int x1, .int x2, v3, v4, v5] [] (0, 0) (LAY, RFu r, mem)) (kf : (mem 113 x1.toNatClampNeg) = 0 → P 34 [.ref 108, .int x1, .int x2, v3, v4, v5] [] (0, 0) (LAY, RFu r, mem)) : P 25 [.ref 108, .int x1, .int x2, v3, v4, v5] [] (0, 0) (LAY, RFu r, mem) := by
  refine r_aload_n hP d219_25 rfl ?_
  refine r_getr (a := 113) hP d219_26 fr_12_23 rfl ly_108 rg_108_6 ?_
  refine r_iload_n hP d219_29 rfl ?_
  refine r_iaload hP d219_30 ly_113 hi30 ?_
  exact r_if (t := 37) hP d219_31 (by decide) kt (fun q => kf (Decidable.of_not_not q))
theorem b219_34 {d : Nat} {P : xPr} {Q : xQr} {r : Nat} {mem : Nat → Nat → Int32} (hP : Cl d none 219 P Q) {v0 : Value} {v1 : Value} {v2 : Value} {v3 : Value} {v4 : Value} {v5 : Value}
    (k : Q (some (.int (-2))) (LAY, RFu r, mem)) : P 34 [v0, v1, v2, v3, v4, v5] [] (0, 0) (LAY, RFu r, mem) := by
  refine r_bipush (v := (-2)) hP d219_34 rfl ?_
  exact r_iret hP d219_36 rfl k
theorem b219_37 {d : Nat} {P : xPr} {Q : xQr} {r : Nat} {mem : Nat → Nat → Int32} (hP : Cl d none 219 P Q) {x1 : Int32} {x2 : Int32} {v3 : Value} {v4 : Value} {v5 : Value}
    (k : P 47 [.ref 108, .int x1, .int x2, .int (nI 0), .int (nI 500), .int (nI 0)] [] (0, 0) (LAY, RFu r, mem)) : P 37 [.ref 108, .int x1, .int x2, v3, v4, v5] [] (0, 0) (LAY, RFu r, mem) := by
  refine r_iconst (v := nI 0) hP d219_37 rfl ?_
  refine r_istore_n (L' := [.ref 108, .int x1, .int x2, .int (nI 0), v4, v5]) hP d219_38 (Nat.le_of_ble_eq_true rfl) rfl ?_
  refine r_sipush (v := nI 500) hP d219_39 rfl ?_
  refine r_istore (L' := [.ref 108, .int x1, .int x2, .int (nI 0), .int (nI 500), v5]) hP d219_42 (Nat.le_of_ble_eq_true rfl) rfl ?_
  refine r_iconst (v := nI 0) hP d219_44 rfl ?_
  refine r_istore (L' := [.ref 108, .int x1, .int x2, .int (nI 0), .int (nI 500), .int (nI 0)]) hP d219_45 (Nat.le_of_ble_eq_true rfl) rfl ?_
  exact k
theorem b219_47 {d : Nat} {P : xPr} {Q : xQr} {r : Nat} {mem : Nat → Nat → Int32} (hP : Cl d none 219 P Q) {x1 : Int32} {x2 : Int32} {x3 : Int32} {x4 : Int32} {x5 : Int32} (hi54 : vp_in x1 8)
    (kt : (mem 113 x1.toNatClampNeg) ≤ x5 → P 107 [.ref 108, .int x1, .int x2, .int x3, .int x4, .int x5] [] (0, 0) (LAY, RFu r, mem)) (kf : ¬ (mem 113 x1.toNatClampNeg) ≤ x5 → P 58 [.ref 108, .int x1, .int x2, .int x3, .int x4, .int x5] [] (0, 0) (LAY, RFu r, mem)) : P 47 [.ref 108, .int x1, .int x2, .int x3, .int x4, .int x5] [] (0, 0) (LAY, RFu r, mem) := by
  refine r_iload hP d219_47 rfl ?_
  refine r_aload_n hP d219_49 rfl ?_
  refine r_getr (a := 113) hP d219_50 fr_12_23 rfl ly_108 rg_108_6 ?_
  refine r_iload_n hP d219_53 rfl ?_
  refine r_iaload hP d219_54 ly_113 hi54 ?_
  exact r_icmp (t := 107) hP d219_55 (by decide) kt kf
theorem b219_58 {d : Nat} {P : xPr} {Q : xQr} {r : Nat} {mem : Nat → Nat → Int32} (hP : Cl d none 219 P Q) {x1 : Int32} {x2 : Int32} {x3 : Int32} {x4 : Int32} {x5 : Int32} (hi65 : vp_in x1 8)
    (k : xCall d 222 [.ref 108, .int x2, .ref 137] (LAY, RFu r, xu2 mem 129 x1.toNatClampNeg x5) (Bk P 72 [.ref 108, .int x1, .int x2, .int x3, .int x4, .int x5] [] (0, 0))) : P 58 [.ref 108, .int x1, .int x2, .int x3, .int x4, .int x5] [] (0, 0) (LAY, RFu r, mem) := by
  refine r_aload_n hP d219_58 rfl ?_
  refine r_getr (a := 129) hP d219_59 fr_12_72 rfl ly_108 rg_108_31 ?_
  refine r_iload_n hP d219_62 rfl ?_
  refine r_iload hP d219_63 rfl ?_
  refine r_iastore hP d219_65 ly_129 hi65 ?_
  refine r_aload_n hP d219_66 rfl ?_
  refine r_iload_n hP d219_67 rfl ?_
  refine r_aload_n hP d219_68 rfl ?_
  refine r_getr (a := 137) hP d219_69 fr_12_99 rfl ly_108 rg_108_42 ?_
  exact r_callv (As := [.int x2, .ref 137]) (S := []) hP d219_72 cr_12_304 (by decide +kernel) rfl (by simp [Value.category]) rfl ly_108 (by simp [Value.category]) ⟨Nat.zero_le _, Nat.zero_le _⟩ k
theorem b219_75 {d : Nat} {P : xPr} {Q : xQr} {r : Nat} {mem : Nat → Nat → Int32} (hP : Cl d none 219 P Q) {x1 : Int32} {x2 : Int32} {x3 : Int32} {x4 : Int32} {x5 : Int32} {y0 : Int32} (hi81 : vp_in x1 8)
    (kt : (mem 137 x1.toNatClampNeg) < x4 → P 90 [.ref 108, .int x1, .int x2, .int x3, .int x4, .int x5] [] (0, 0) (LAY, RFu r, mem)) (kf : ¬ (mem 137 x1.toNatClampNeg) < x4 → P 87 [.ref 108, .int x1, .int x2, .int x3, .int x4, .int x5] [] (0, 0) (LAY, RFu r, mem)) : P 75 [.ref 108, .int x1, .int x2, .int x3, .int x4, .int x5] [.int y0] (0, 0) (LAY, RFu r, mem) := by
  refine r_pop hP d219_75 rfl ?_
  refine r_aload_n hP d219_76 rfl ?_
  refine r_getr (a := 137) hP d219_77 fr_12_99 rfl ly_108 rg_108_42 ?_
  refine r_iload_n hP d219_80 rfl ?_
  refine r_iaload hP d219_81 ly_137 hi81 ?_
  refine r_iload hP d219_82 rfl ?_
  exact r_icmp (t := 90) hP d219_84 (by decide) kt kf
theorem b219_87 {d : Nat} {P : xPr} {Q : xQr} {r : Nat} {mem : Nat → Nat → Int32} (hP : Cl d none 219 P Q) {x1 : Int32} {x2 : Int32} {x3 : Int32} {x4 : Int32} {x5 : Int32}
    (k : P 101 [.ref 108, .int x1, .int x2, .int x3, .int x4, .int x5] [] (0, 0) (LAY, RFu r, mem)) : P 87 [.ref 108, .int x1, .int x2, .int x3, .int x4, .int x5] [] (0, 0) (LAY, RFu r, mem) := by
  refine r_goto (t := 101) hP d219_87 (by decide) ?_
  exact k
theorem b219_90 {d : Nat} {P : xPr} {Q : xQr} {r : Nat} {mem : Nat → Nat → Int32} (hP : Cl d none 219 P Q) {x1 : Int32} {x2 : Int32} {v3 : Value} {v4 : Value} {x5 : Int32} (hi98 : vp_in x1 8)
    (k : P 101 [.ref 108, .int x1, .int x2, .int x5, .int (mem 137 x1.toNatClampNeg), .int x5] [] (0, 0) (LAY, RFu r, mem)) : P 90 [.ref 108, .int x1, .int x2, v3, v4, .int x5] [] (0, 0) (LAY, RFu r, mem) := by
  refine r_iload hP d219_90 rfl ?_
  refine r_istore_n (L' := [.ref 108, .int x1, .int x2, .int x5, v4, .int x5]) hP d219_92 (Nat.le_of_ble_eq_true rfl) rfl ?_
  refine r_aload_n hP d219_93 rfl ?_
  refine r_getr (a := 137) hP d219_94 fr_12_99 rfl ly_108 rg_108_42 ?_
  refine r_iload_n hP d219_97 rfl ?_
  refine r_iaload hP d219_98 ly_137 hi98 ?_
  refine r_istore (L' := [.ref 108, .int x1, .int x2, .int x5, .int (mem 137 x1.toNatClampNeg), .int x5]) hP d219_99 (Nat.le_of_ble_eq_true rfl) rfl ?_
  exact k
theorem b219_101 {d : Nat} {P : xPr} {Q : xQr} {r : Nat} {mem : Nat → Nat → Int32} (hP : Cl d none 219 P Q) {x1 : Int32} {x2 : Int32} {x3 : Int32} {x4 : Int32} {x5 : Int32}
    (k : P 47 [.ref 108, .int x1, .int x2, .int x3, .int x4, .int (x5 + nI 1)] [] (0, 0) (LAY, RFu r, mem)) : P 101 [.ref 108, .int x1, .int x2, .int x3, .int x4, .int x5] [] (0, 0) (LAY, RFu r, mem) := by
  refine r_iinc (v := nI 1) (L' := [.ref 108, .int x1, .int x2, .int x3, .int x4, .int (x5 + nI 1)]) hP d219_101 rfl rfl rfl ?_
  refine r_goto (t := 47) hP d219_104 (by decide) ?_
  exact k
theorem b219_107 {d : Nat} {P : xPr} {Q : xQr} {r : Nat} {mem : Nat → Nat → Int32} (hP : Cl d none 219 P Q) {x1 : Int32} {v2 : Value} {x3 : Int32} {x4 : Int32} {v5 : Value} (hi113 : vp_in x1 8)
    (k : xCall d 161 [.ref 108, .int x3] (LAY, RFu r, xu2 (xu2 mem 129 x1.toNatClampNeg (nI 0)) 108 19 (nI 0)) (Bk P 121 [.ref 108, .int x1, v2, .int x3, .int x4, v5] [] (0, 0))) : P 107 [.ref 108, .int x1, v2, .int x3, .int x4, v5] [] (0, 0) (LAY, RFu r, mem) := by
  refine r_aload_n hP d219_107 rfl ?_
  refine r_getr (a := 129) hP d219_108 fr_12_72 rfl ly_108 rg_108_31 ?_
  refine r_iload_n hP d219_111 rfl ?_
  refine r_iconst (v := nI 0) hP d219_112 rfl ?_
  refine r_iastore hP d219_113 ly_129 hi113 ?_
  refine r_aload_n hP d219_114 rfl ?_
  refine r_iconst (v := nI 0) hP d219_115 rfl ?_
  refine r_puti hP d219_116 fr_12_124 rfl (fun q => by cases q) ly_108 ?_
  refine r_aload_n hP d219_119 rfl ?_
  refine r_iload_n hP d219_120 rfl ?_
  exact r_callv (As := [.int x3]) (S := []) hP d219_121 cr_12_258 (by decide +kernel) rfl (by simp [Value.category]) rfl ly_108 (by simp [Value.category]) ⟨Nat.zero_le _, Nat.zero_le _⟩ k
theorem b219_124 {d : Nat} {P : xPr} {Q : xQr} {r : Nat} {mem : Nat → Nat → Int32} (hP : Cl d none 219 P Q) {v0 : Value} {v1 : Value} {v2 : Value} {v3 : Value} {x4 : Int32} {v5 : Value}
    (k : Q (some (.int x4)) (LAY, RFu r, mem)) : P 124 [v0, v1, v2, v3, .int x4, v5] [] (0, 0) (LAY, RFu r, mem) := by
  refine r_iload hP d219_124 rfl ?_
  exact r_iret hP d219_126 rfl k
theorem d220_0 : decode (xB 220) 0 = .ok (.aload_n 0, 1) := by decide +kernel
theorem d220_1 : decode (xB 220) 1 = .ok (.iconst 0, 1) := by decide +kernel
theorem d220_2 : decode (xB 220) 2 = .ok (.putfield 121, 3) := by decide +kernel
theorem d220_5 : decode (xB 220) 5 = .ok (.iload_n 1, 1) := by decide +kernel
theorem d220_6 : decode (xB 220) 6 = .ok (.iconst 1, 1) := by decide +kernel
theorem d220_7 : decode (xB 220) 7 = .ok (.bipush 100, 2) := by decide +kernel
theorem d220_9 : decode (xB 220) 9 = .ok (.invokestatic 130, 3) := by decide +kernel
theorem d220_12 : decode (xB 220) 12 = .ok (.ifCond .ne 5, 3) := by decide +kernel
theorem d220_15 : decode (xB 220) 15 = .ok (.iconst (-1), 1) := by decide +kernel
theorem d220_16 : decode (xB 220) 16 = .ok (.ireturn, 1) := by decide +kernel
theorem d220_17 : decode (xB 220) 17 = .ok (.aload_n 0, 1) := by decide +kernel
theorem d220_18 : decode (xB 220) 18 = .ok (.getfield 138, 3) := by decide +kernel
theorem d220_21 : decode (xB 220) 21 = .ok (.ifCond .ne 6, 3) := by decide +kernel
theorem d220_24 : decode (xB 220) 24 = .ok (.bipush (-2), 2) := by decide +kernel
theorem d220_26 : decode (xB 220) 26 = .ok (.ireturn, 1) := by decide +kernel
theorem d220_27 : decode (xB 220) 27 = .ok (.aload_n 0, 1) := by decide +kernel
theorem d220_28 : decode (xB 220) 28 = .ok (.aload_n 0, 1) := by decide +kernel
theorem d220_29 : decode (xB 220) 29 = .ok (.getfield 87, 3) := by decide +kernel
theorem d220_32 : decode (xB 220) 32 = .ok (.iconst 0, 1) := by decide +kernel
theorem d220_33 : decode (xB 220) 33 = .ok (.invokevirtual 245, 3) := by decide +kernel
theorem d220_36 : decode (xB 220) 36 = .ok (.iconst (-1), 1) := by decide +kernel
theorem d220_37 : decode (xB 220) 37 = .ok (.istore_n 2, 1) := by decide +kernel
theorem d220_38 : decode (xB 220) 38 = .ok (.iconst 0, 1) := by decide +kernel
theorem d220_39 : decode (xB 220) 39 = .ok (.istore_n 3, 1) := by decide +kernel
theorem d220_40 : decode (xB 220) 40 = .ok (.iconst 0, 1) := by decide +kernel
theorem d220_41 : decode (xB 220) 41 = .ok (.istore 4, 2) := by decide +kernel
theorem d220_43 : decode (xB 220) 43 = .ok (.iconst 1, 1) := by decide +kernel
theorem d220_44 : decode (xB 220) 44 = .ok (.istore 5, 2) := by decide +kernel
theorem d220_46 : decode (xB 220) 46 = .ok (.iload 5, 2) := by decide +kernel
theorem d220_48 : decode (xB 220) 48 = .ok (.iload_n 1, 1) := by decide +kernel
theorem d220_49 : decode (xB 220) 49 = .ok (.if_icmp .gt 94, 3) := by decide +kernel
theorem d220_52 : decode (xB 220) 52 = .ok (.aload_n 0, 1) := by decide +kernel
theorem d220_53 : decode (xB 220) 53 = .ok (.invokevirtual 252, 3) := by decide +kernel
theorem d220_56 : decode (xB 220) 56 = .ok (.pop, 1) := by decide +kernel
theorem d220_57 : decode (xB 220) 57 = .ok (.iconst 0, 1) := by decide +kernel
theorem d220_58 : decode (xB 220) 58 = .ok (.istore 6, 2) := by decide +kernel
theorem d220_60 : decode (xB 220) 60 = .ok (.iload 6, 2) := by decide +kernel
theorem d220_62 : decode (xB 220) 62 = .ok (.aload_n 0, 1) := by decide +kernel
theorem d220_63 : decode (xB 220) 63 = .ok (.getfield 138, 3) := by decide +kernel
theorem d220_66 : decode (xB 220) 66 = .ok (.if_icmp .ge 71, 3) := by decide +kernel
theorem d220_69 : decode (xB 220) 69 = .ok (.iconst 0, 1) := by decide +kernel
theorem d220_70 : decode (xB 220) 70 = .ok (.istore 7, 2) := by decide +kernel
theorem d220_72 : decode (xB 220) 72 = .ok (.iconst 0, 1) := by decide +kernel
theorem d220_73 : decode (xB 220) 73 = .ok (.istore 8, 2) := by decide +kernel
theorem d220_75 : decode (xB 220) 75 = .ok (.iload 8, 2) := by decide +kernel
theorem d220_77 : decode (xB 220) 77 = .ok (.aload_n 0, 1) := by decide +kernel
theorem d220_78 : decode (xB 220) 78 = .ok (.getfield 127, 3) := by decide +kernel
theorem d220_81 : decode (xB 220) 81 = .ok (.if_icmp .ge 31, 3) := by decide +kernel
theorem d220_84 : decode (xB 220) 84 = .ok (.iload 7, 2) := by decide +kernel
theorem d220_86 : decode (xB 220) 86 = .ok (.aload_n 0, 1) := by decide +kernel
theorem d220_87 : decode (xB 220) 87 = .ok (.getfield 26, 3) := by decide +kernel
theorem d220_90 : decode (xB 220) 90 = .ok (.iload 8, 2) := by decide +kernel
theorem d220_92 : decode (xB 220) 92 = .ok (.iaload, 1) := by decide +kernel
theorem d220_93 : decode (xB 220) 93 = .ok (.iload 6, 2) := by decide +kernel
theorem d220_95 : decode (xB 220) 95 = .ok (.if_icmp .ne 7, 3) := by decide +kernel
theorem d220_98 : decode (xB 220) 98 = .ok (.iconst 1, 1) := by decide +kernel
theorem d220_99 : decode (xB 220) 99 = .ok (.goto 4, 3) := by decide +kernel
theorem d220_102 : decode (xB 220) 102 = .ok (.iconst 0, 1) := by decide +kernel
theorem d220_103 : decode (xB 220) 103 = .ok (.iadd, 1) := by decide +kernel
theorem d220_104 : decode (xB 220) 104 = .ok (.istore 7, 2) := by decide +kernel
theorem d220_106 : decode (xB 220) 106 = .ok (.iinc 8 1, 3) := by decide +kernel
theorem d220_109 : decode (xB 220) 109 = .ok (.goto (-34), 3) := by decide +kernel
theorem d220_112 : decode (xB 220) 112 = .ok (.iload 7, 2) := by decide +kernel
theorem d220_114 : decode (xB 220) 114 = .ok (.iload_n 2, 1) := by decide +kernel
theorem d220_115 : decode (xB 220) 115 = .ok (.if_icmp .gt 6, 3) := by decide +kernel
theorem d220_118 : decode (xB 220) 118 = .ok (.goto 13, 3) := by decide +kernel
theorem d220_121 : decode (xB 220) 121 = .ok (.iload 7, 2) := by decide +kernel
theorem d220_123 : decode (xB 220) 123 = .ok (.istore_n 2, 1) := by decide +kernel
theorem d220_124 : decode (xB 220) 124 = .ok (.iload 5, 2) := by decide +kernel
theorem d220_126 : decode (xB 220) 126 = .ok (.istore_n 3, 1) := by decide +kernel
theorem d220_127 : decode (xB 220) 127 = .ok (.iload 6, 2) := by decide +kernel
theorem d220_129 : decode (xB 220) 129 = .ok (.istore 4, 2) := by decide +kernel
theorem d220_131 : decode (xB 220) 131 = .ok (.iinc 6 1, 3) := by decide +kernel
theorem d220_134 : decode (xB 220) 134 = .ok (.goto (-74), 3) := by decide +kernel
theorem d220_137 : decode (xB 220) 137 = .ok (.iinc 5 1, 3) := by decide +kernel
theorem d220_140 : decode (xB 220) 140 = .ok (.goto (-94), 3) := by decide +kernel
theorem d220_143 : decode (xB 220) 143 = .ok (.aload_n 0, 1) := by decide +kernel
theorem d220_144 : decode (xB 220) 144 = .ok (.aload_n 0, 1) := by decide +kernel
theorem d220_145 : decode (xB 220) 145 = .ok (.getfield 87, 3) := by decide +kernel
theorem d220_148 : decode (xB 220) 148 = .ok (.iconst 0, 1) := by decide +kernel
theorem d220_149 : decode (xB 220) 149 = .ok (.invokevirtual 261, 3) := by decide +kernel
theorem d220_152 : decode (xB 220) 152 = .ok (.aload_n 0, 1) := by decide +kernel
theorem d220_153 : decode (xB 220) 153 = .ok (.iconst 0, 1) := by decide +kernel
theorem d220_154 : decode (xB 220) 154 = .ok (.putfield 124, 3) := by decide +kernel
theorem d220_157 : decode (xB 220) 157 = .ok (.aload_n 0, 1) := by decide +kernel
theorem d220_158 : decode (xB 220) 158 = .ok (.iload_n 3, 1) := by decide +kernel
theorem d220_159 : decode (xB 220) 159 = .ok (.invokevirtual 258, 3) := by decide +kernel
theorem d220_162 : decode (xB 220) 162 = .ok (.aload_n 0, 1) := by decide +kernel
theorem d220_163 : decode (xB 220) 163 = .ok (.iload 4, 2) := by decide +kernel
theorem d220_165 : decode (xB 220) 165 = .ok (.invokevirtual 258, 3) := by decide +kernel
theorem d220_168 : decode (xB 220) 168 = .ok (.iload_n 2, 1) := by decide +kernel
theorem d220_169 : decode (xB 220) 169 = .ok (.ireturn, 1) := by decide +kernel
theorem b220_0 {d : Nat} {P : xPr} {Q : xQr} {r : Nat} {mem : Nat → Nat → Int32} (hP : Cl d none 220 P Q) {p0 : Int32}
    (k : xCall d 158 [.int p0, .int (nI 1), .int (nI 100)] (LAY, RFu r, xu2 mem 108 20 (nI 0)) (Bk P 9 [.ref 108, .int p0, .null, .null, .null, .null, .null, .null, .null] [] (0, 0))) : P 0 [.ref 108, .int p0, .null, .null, .null, .null, .null, .null, .null] [] (0, 0) (LAY, RFu r, mem) := by
  refine r_aload_n hP d220_0 rfl ?_
  refine r_iconst (v := nI 0) hP d220_1 rfl ?_
  refine r_puti hP d220_2 fr_12_121 rfl (fun q => by cases q) ly_108 ?_
  refine r_iload_n hP d220_5 rfl ?_
  refine r_iconst (v := nI 1) hP d220_6 rfl ?_
  refine r_bipush (v := nI 100) hP d220_7 rfl ?_
  exact r_calls (As := [.int p0, .int (nI 1), .int (nI 100)]) (S := []) hP d220_9 cr_12_130 (by decide +kernel) rfl (by simp [Value.category]) rfl (by simp [Value.category]) ⟨Nat.zero_le _, Nat.zero_le _⟩ k
theorem b220_12 {d : Nat} {P : xPr} {Q : xQr} {r : Nat} {mem : Nat → Nat → Int32} (hP : Cl d none 220 P Q) {x1 : Int32} {v2 : Value} {v3 : Value} {v4 : Value} {v5 : Value} {v6 : Value} {v7 : Value} {v8 : Value} {y0 : Int32}
    (kt : ¬ y0 = 0 → P 17 [.ref 108, .int x1, v2, v3, v4, v5, v6, v7, v8] [] (0, 0) (LAY, RFu r, mem)) (kf : y0 = 0 → P 15 [.ref 108, .int x1, v2, v3, v4, v5, v6, v7, v8] [] (0, 0) (LAY, RFu r, mem)) : P 12 [.ref 108, .int x1, v2, v3, v4, v5, v6, v7, v8] [.int y0] (0, 0) (LAY, RFu r, mem) := by
  exact r_if (t := 17) hP d220_12 (by decide) kt (fun q => kf (Decidable.of_not_not q))
theorem b220_15 {d : Nat} {P : xPr} {Q : xQr} {r : Nat} {mem : Nat → Nat → Int32} (hP : Cl d none 220 P Q) {v0 : Value} {v1 : Value} {v2 : Value} {v3 : Value} {v4 : Value} {v5 : Value} {v6 : Value} {v7 : Value} {v8 : Value}
    (k : Q (some (.int (-1))) (LAY, RFu r, mem)) : P 15 [v0, v1, v2, v3, v4, v5, v6, v7, v8] [] (0, 0) (LAY, RFu r, mem) := by
  refine r_iconst (v := (-1)) hP d220_15 rfl ?_
  exact r_iret hP d220_16 rfl k
theorem b220_17 {d : Nat} {P : xPr} {Q : xQr} {r : Nat} {mem : Nat → Nat → Int32} (hP : Cl d none 220 P Q) {x1 : Int32} {v2 : Value} {v3 : Value} {v4 : Value} {v5 : Value} {v6 : Value} {v7 : Value} {v8 : Value}
    (kt : ¬ (mem 108 0) = 0 → P 27 [.ref 108, .int x1, v2, v3, v4, v5, v6, v7, v8] [] (0, 0) (LAY, RFu r, mem)) (kf : (mem 108 0) = 0 → P 24 [.ref 108, .int x1, v2, v3, v4, v5, v6, v7, v8] [] (0, 0) (LAY, RFu r, mem)) : P 17 [.ref 108, .int x1, v2, v3, v4, v5, v6, v7, v8] [] (0, 0) (LAY, RFu r, mem) := by
  refine r_aload_n hP d220_17 rfl ?_
  refine r_geti hP d220_18 fr_12_138 rfl ly_108 ?_
  exact r_if (t := 27) hP d220_21 (by decide) kt (fun q => kf (Decidable.of_not_not q))
theorem b220_24 {d : Nat} {P : xPr} {Q : xQr} {r : Nat} {mem : Nat → Nat → Int32} (hP : Cl d none 220 P Q) {v0 : Value} {v1 : Value} {v2 : Value} {v3 : Value} {v4 : Value} {v5 : Value} {v6 : Value} {v7 : Value} {v8 : Value}
    (k : Q (some (.int (-2))) (LAY, RFu r, mem)) : P 24 [v0, v1, v2, v3, v4, v5, v6, v7, v8] [] (0, 0) (LAY, RFu r, mem) := by
  refine r_bipush (v := (-2)) hP d220_24 rfl ?_
  exact r_iret hP d220_26 rfl k
theorem b220_27 {d : Nat} {P : xPr} {Q : xQr} {r : Nat} {mem : Nat → Nat → Int32} (hP : Cl d none 220 P Q) {x1 : Int32} {v2 : Value} {v3 : Value} {v4 : Value} {v5 : Value} {v6 : Value} {v7 : Value} {v8 : Value}
    (k : xCall d 191 [.ref 108, .ref 133, .int (nI 0)] (LAY, RFu r, mem) (Bk P 33 [.ref 108, .int x1, v2, v3, v4, v5, v6, v7, v8] [] (0, 0))) : P 27 [.ref 108, .int x1, v2, v3, v4, v5, v6, v7, v8] [] (0, 0) (LAY, RFu r, mem) := by
  refine r_aload_n hP d220_27 rfl ?_
  refine r_aload_n hP d220_28 rfl ?_
  refine r_getr (a := 133) hP d220_29 fr_12_87 rfl ly_108 rg_108_38 ?_
  refine r_iconst (v := nI 0) hP d220_32 rfl ?_
  exact r_callv (As := [.ref 133, .int (nI 0)]) (S := []) hP d220_33 cr_12_245 (by decide +kernel) rfl (by simp [Value.category]) rfl ly_108 (by simp [Value.category]) ⟨Nat.zero_le _, Nat.zero_le _⟩ k
theorem b220_36 {d : Nat} {P : xPr} {Q : xQr} {r : Nat} {mem : Nat → Nat → Int32} (hP : Cl d none 220 P Q) {x1 : Int32} {v2 : Value} {v3 : Value} {v4 : Value} {v5 : Value} {v6 : Value} {v7 : Value} {v8 : Value}
    (k : P 46 [.ref 108, .int x1, .int (-1), .int (nI 0), .int (nI 0), .int (nI 1), v6, v7, v8] [] (0, 0) (LAY, RFu r, mem)) : P 36 [.ref 108, .int x1, v2, v3, v4, v5, v6, v7, v8] [] (0, 0) (LAY, RFu r, mem) := by
  refine r_iconst (v := (-1)) hP d220_36 rfl ?_
  refine r_istore_n (L' := [.ref 108, .int x1, .int (-1), v3, v4, v5, v6, v7, v8]) hP d220_37 (Nat.le_of_ble_eq_true rfl) rfl ?_
  refine r_iconst (v := nI 0) hP d220_38 rfl ?_
  refine r_istore_n (L' := [.ref 108, .int x1, .int (-1), .int (nI 0), v4, v5, v6, v7, v8]) hP d220_39 (Nat.le_of_ble_eq_true rfl) rfl ?_
  refine r_iconst (v := nI 0) hP d220_40 rfl ?_
  refine r_istore (L' := [.ref 108, .int x1, .int (-1), .int (nI 0), .int (nI 0), v5, v6, v7, v8]) hP d220_41 (Nat.le_of_ble_eq_true rfl) rfl ?_
  refine r_iconst (v := nI 1) hP d220_43 rfl ?_
  refine r_istore (L' := [.ref 108, .int x1, .int (-1), .int (nI 0), .int (nI 0), .int (nI 1), v6, v7, v8]) hP d220_44 (Nat.le_of_ble_eq_true rfl) rfl ?_
  exact k
theorem b220_46 {d : Nat} {P : xPr} {Q : xQr} {r : Nat} {mem : Nat → Nat → Int32} (hP : Cl d none 220 P Q) {x1 : Int32} {x2 : Int32} {x3 : Int32} {x4 : Int32} {x5 : Int32} {v6 : Value} {v7 : Value} {v8 : Value}
    (kt : x1 < x5 → P 143 [.ref 108, .int x1, .int x2, .int x3, .int x4, .int x5, v6, v7, v8] [] (0, 0) (LAY, RFu r, mem)) (kf : ¬ x1 < x5 → P 52 [.ref 108, .int x1, .int x2, .int x3, .int x4, .int x5, v6, v7, v8] [] (0, 0) (LAY, RFu r, mem)) : P 46 [.ref 108, .int x1, .int x2, .int x3, .int x4, .int x5, v6, v7, v8] [] (0, 0) (LAY, RFu r, mem) := by
  refine r_iload hP d220_46 rfl ?_
  refine r_iload_n hP d220_48 rfl ?_
  exact r_icmp (t := 143) hP d220_49 (by decide) kt kf
theorem b220_52 {d : Nat} {P : xPr} {Q : xQr} {r : Nat} {mem : Nat → Nat → Int32} (hP : Cl d none 220 P Q) {x1 : Int32} {x2 : Int32} {x3 : Int32} {x4 : Int32} {x5 : Int32} {v6 : Value} {v7 : Value} {v8 : Value}
    (k : xCall d 190 [.ref 108] (LAY, RFu r, mem) (Bk P 53 [.ref 108, .int x1, .int x2, .int x3, .int x4, .int x5, v6, v7, v8] [] (0, 0))) : P 52 [.ref 108, .int x1, .int x2, .int x3, .int x4, .int x5, v6, v7, v8] [] (0, 0) (LAY, RFu r, mem) := by
  refine r_aload_n hP d220_52 rfl ?_
  exact r_callv (As := []) (S := []) hP d220_53 cr_12_252 (by decide +kernel) rfl (by simp) rfl ly_108 (by simp [Value.category]) ⟨Nat.zero_le _, Nat.zero_le _⟩ k
theorem b220_56 {d : Nat} {P : xPr} {Q : xQr} {r : Nat} {mem : Nat → Nat → Int32} (hP : Cl d none 220 P Q) {x1 : Int32} {x2 : Int32} {x3 : Int32} {x4 : Int32} {x5 : Int32} {v6 : Value} {v7 : Value} {v8 : Value} {y0 : Int32}
    (k : P 60 [.ref 108, .int x1, .int x2, .int x3, .int x4, .int x5, .int (nI 0), v7, v8] [] (0, 0) (LAY, RFu r, mem)) : P 56 [.ref 108, .int x1, .int x2, .int x3, .int x4, .int x5, v6, v7, v8] [.int y0] (0, 0) (LAY, RFu r, mem) := by
  refine r_pop hP d220_56 rfl ?_
  refine r_iconst (v := nI 0) hP d220_57 rfl ?_
  refine r_istore (L' := [.ref 108, .int x1, .int x2, .int x3, .int x4, .int x5, .int (nI 0), v7, v8]) hP d220_58 (Nat.le_of_ble_eq_true rfl) rfl ?_
  exact k
theorem b220_60 {d : Nat} {P : xPr} {Q : xQr} {r : Nat} {mem : Nat → Nat → Int32} (hP : Cl d none 220 P Q) {x1 : Int32} {x2 : Int32} {x3 : Int32} {x4 : Int32} {x5 : Int32} {x6 : Int32} {v7 : Value} {v8 : Value}
    (kt : (mem 108 0) ≤ x6 → P 137 [.ref 108, .int x1, .int x2, .int x3, .int x4, .int x5, .int x6, v7, v8] [] (0, 0) (LAY, RFu r, mem)) (kf : ¬ (mem 108 0) ≤ x6 → P 69 [.ref 108, .int x1, .int x2, .int x3, .int x4, .int x5, .int x6, v7, v8] [] (0, 0) (LAY, RFu r, mem)) : P 60 [.ref 108, .int x1, .int x2, .int x3, .int x4, .int x5, .int x6, v7, v8] [] (0, 0) (LAY, RFu r, mem) := by
  refine r_iload hP d220_60 rfl ?_
  refine r_aload_n hP d220_62 rfl ?_
  refine r_geti hP d220_63 fr_12_138 rfl ly_108 ?_
  exact r_icmp (t := 137) hP d220_66 (by decide) kt kf
theorem b220_69 {d : Nat} {P : xPr} {Q : xQr} {r : Nat} {mem : Nat → Nat → Int32} (hP : Cl d none 220 P Q) {x1 : Int32} {x2 : Int32} {x3 : Int32} {x4 : Int32} {x5 : Int32} {x6 : Int32} {v7 : Value} {v8 : Value}
    (k : P 75 [.ref 108, .int x1, .int x2, .int x3, .int x4, .int x5, .int x6, .int (nI 0), .int (nI 0)] [] (0, 0) (LAY, RFu r, mem)) : P 69 [.ref 108, .int x1, .int x2, .int x3, .int x4, .int x5, .int x6, v7, v8] [] (0, 0) (LAY, RFu r, mem) := by
  refine r_iconst (v := nI 0) hP d220_69 rfl ?_
  refine r_istore (L' := [.ref 108, .int x1, .int x2, .int x3, .int x4, .int x5, .int x6, .int (nI 0), v8]) hP d220_70 (Nat.le_of_ble_eq_true rfl) rfl ?_
  refine r_iconst (v := nI 0) hP d220_72 rfl ?_
  refine r_istore (L' := [.ref 108, .int x1, .int x2, .int x3, .int x4, .int x5, .int x6, .int (nI 0), .int (nI 0)]) hP d220_73 (Nat.le_of_ble_eq_true rfl) rfl ?_
  exact k
theorem b220_75 {d : Nat} {P : xPr} {Q : xQr} {r : Nat} {mem : Nat → Nat → Int32} (hP : Cl d none 220 P Q) {x1 : Int32} {x2 : Int32} {x3 : Int32} {x4 : Int32} {x5 : Int32} {x6 : Int32} {x7 : Int32} {x8 : Int32}
    (kt : (mem 108 2) ≤ x8 → P 112 [.ref 108, .int x1, .int x2, .int x3, .int x4, .int x5, .int x6, .int x7, .int x8] [] (0, 0) (LAY, RFu r, mem)) (kf : ¬ (mem 108 2) ≤ x8 → P 84 [.ref 108, .int x1, .int x2, .int x3, .int x4, .int x5, .int x6, .int x7, .int x8] [] (0, 0) (LAY, RFu r, mem)) : P 75 [.ref 108, .int x1, .int x2, .int x3, .int x4, .int x5, .int x6, .int x7, .int x8] [] (0, 0) (LAY, RFu r, mem) := by
  refine r_iload hP d220_75 rfl ?_
  refine r_aload_n hP d220_77 rfl ?_
  refine r_geti hP d220_78 fr_12_127 rfl ly_108 ?_
  exact r_icmp (t := 112) hP d220_81 (by decide) kt kf
theorem b220_84 {d : Nat} {P : xPr} {Q : xQr} {r : Nat} {mem : Nat → Nat → Int32} (hP : Cl d none 220 P Q) {x1 : Int32} {x2 : Int32} {x3 : Int32} {x4 : Int32} {x5 : Int32} {x6 : Int32} {x7 : Int32} {x8 : Int32} (hi92 : vp_in x8 8)
    (kt : ¬ (mem 114 x8.toNatClampNeg) = x6 → P 102 [.ref 108, .int x1, .int x2, .int x3, .int x4, .int x5, .int x6, .int x7, .int x8] [.int x7] (0, 0) (LAY, RFu r, mem)) (kf : (mem 114 x8.toNatClampNeg) = x6 → P 98 [.ref 108, .int x1, .int x2, .int x3, .int x4, .int x5, .int x6, .int x7, .int x8] [.int x7] (0, 0) (LAY, RFu r, mem)) : P 84 [.ref 108, .int x1, .int x2, .int x3, .int x4, .int x5, .int x6, .int x7, .int x8] [] (0, 0) (LAY, RFu r, mem) := by
  refine r_iload hP d220_84 rfl ?_
  refine r_aload_n hP d220_86 rfl ?_
  refine r_getr (a := 114) hP d220_87 fr_12_26 rfl ly_108 rg_108_7 ?_
  refine r_iload hP d220_90 rfl ?_
  refine r_iaload hP d220_92 ly_114 hi92 ?_
  refine r_iload hP d220_93 rfl ?_
  exact r_icmp (t := 102) hP d220_95 (by decide) kt (fun q => kf (Decidable.of_not_not q))
theorem b220_98 {d : Nat} {P : xPr} {Q : xQr} {r : Nat} {mem : Nat → Nat → Int32} (hP : Cl d none 220 P Q) {x1 : Int32} {x2 : Int32} {x3 : Int32} {x4 : Int32} {x5 : Int32} {x6 : Int32} {v7 : Value} {x8 : Int32} {y0 : Int32}
    (k : P 103 [.ref 108, .int x1, .int x2, .int x3, .int x4, .int x5, .int x6, v7, .int x8] [.int (nI 1), .int y0] (0, 0) (LAY, RFu r, mem)) : P 98 [.ref 108, .int x1, .int x2, .int x3, .int x4, .int x5, .int x6, v7, .int x8] [.int y0] (0, 0) (LAY, RFu r, mem) := by
  refine r_iconst (v := nI 1) hP d220_98 rfl ?_
  refine r_goto (t := 103) hP d220_99 (by decide) ?_
  exact k
theorem b220_102 {d : Nat} {P : xPr} {Q : xQr} {r : Nat} {mem : Nat → Nat → Int32} (hP : Cl d none 220 P Q) {x1 : Int32} {x2 : Int32} {x3 : Int32} {x4 : Int32} {x5 : Int32} {x6 : Int32} {v7 : Value} {x8 : Int32} {y0 : Int32}
    (k : P 103 [.ref 108, .int x1, .int x2, .int x3, .int x4, .int x5, .int x6, v7, .int x8] [.int (nI 0), .int y0] (0, 0) (LAY, RFu r, mem)) : P 102 [.ref 108, .int x1, .int x2, .int x3, .int x4, .int x5, .int x6, v7, .int x8] [.int y0] (0, 0) (LAY, RFu r, mem) := by
  refine r_iconst (v := nI 0) hP d220_102 rfl ?_
  exact k
theorem b220_103 {d : Nat} {P : xPr} {Q : xQr} {r : Nat} {mem : Nat → Nat → Int32} (hP : Cl d none 220 P Q) {x1 : Int32} {x2 : Int32} {x3 : Int32} {x4 : Int32} {x5 : Int32} {x6 : Int32} {v7 : Value} {x8 : Int32} {y0 : Int32} {y1 : Int32}
    (k : P 75 [.ref 108, .int x1, .int x2, .int x3, .int x4, .int x5, .int x6, .int (y0 + y1), .int (x8 + nI 1)] [] (0, 0) (LAY, RFu r, mem)) : P 103 [.ref 108, .int x1, .int x2, .int x3, .int x4, .int x5, .int x6, v7, .int x8] [.int y1, .int y0] (0, 0) (LAY, RFu r, mem) := by
  refine r_iadd hP d220_103 ?_
  refine r_istore (L' := [.ref 108, .int x1, .int x2, .int x3, .int x4, .int x5, .int x6, .int (y0 + y1), .int x8]) hP d220_104 (Nat.le_of_ble_eq_true rfl) rfl ?_
  refine r_iinc (v := nI 1) (L' := [.ref 108, .int x1, .int x2, .int x3, .int x4, .int x5, .int x6, .int (y0 + y1), .int (x8 + nI 1)]) hP d220_106 rfl rfl rfl ?_
  refine r_goto (t := 75) hP d220_109 (by decide) ?_
  exact k
theorem b220_112 {d : Nat} {P : xPr} {Q : xQr} {r : Nat} {mem : Nat → Nat → Int32} (hP : Cl d none 220 P Q) {x1 : Int32} {x2 : Int32} {x3 : Int32} {x4 : Int32} {x5 : Int32} {x6 : Int32} {x7 : Int32} {v8 : Value}
    (kt : x2 < x7 → P 121 [.ref 108, .int x1, .int x2, .int x3, .int x4, .int x5, .int x6, .int x7, v8] [] (0, 0) (LAY, RFu r, mem)) (kf : ¬ x2 < x7 → P 118 [.ref 108, .int x1, .int x2, .int x3, .int x4, .int x5, .int x6, .int x7, v8] [] (0, 0) (LAY, RFu r, mem)) : P 112 [.ref 108, .int x1, .int x2, .int x3, .int x4, .int x5, .int x6, .int x7, v8] [] (0, 0) (LAY, RFu r, mem) := by
  refine r_iload hP d220_112 rfl ?_
  refine r_iload_n hP d220_114 rfl ?_
  exact r_icmp (t := 121) hP d220_115 (by decide) kt kf
theorem b220_118 {d : Nat} {P : xPr} {Q : xQr} {r : Nat} {mem : Nat → Nat → Int32} (hP : Cl d none 220 P Q) {x1 : Int32} {x2 : Int32} {x3 : Int32} {x4 : Int32} {x5 : Int32} {x6 : Int32} {v7 : Value} {v8 : Value}
    (k : P 131 [.ref 108, .int x1, .int x2, .int x3, .int x4, .int x5, .int x6, v7, v8] [] (0, 0) (LAY, RFu r, mem)) : P 118 [.ref 108, .int x1, .int x2, .int x3, .int x4, .int x5, .int x6, v7, v8] [] (0, 0) (LAY, RFu r, mem) := by
  refine r_goto (t := 131) hP d220_118 (by decide) ?_
  exact k
theorem b220_121 {d : Nat} {P : xPr} {Q : xQr} {r : Nat} {mem : Nat → Nat → Int32} (hP : Cl d none 220 P Q) {x1 : Int32} {v2 : Value} {v3 : Value} {v4 : Value} {x5 : Int32} {x6 : Int32} {x7 : Int32} {v8 : Value}
    (k : P 131 [.ref 108, .int x1, .int x7, .int x5, .int x6, .int x5, .int x6, .int x7, v8] [] (0, 0) (LAY, RFu r, mem)) : P 121 [.ref 108, .int x1, v2, v3, v4, .int x5, .int x6, .int x7, v8] [] (0, 0) (LAY, RFu r, mem) := by
  refine r_iload hP d220_121 rfl ?_
  refine r_istore_n (L' := [.ref 108, .int x1, .int x7, v3, v4, .int x5, .int x6, .int x7, v8]) hP d220_123 (Nat.le_of_ble_eq_true rfl) rfl ?_
  refine r_iload hP d220_124 rfl ?_
  refine r_istore_n (L' := [.ref 108, .int x1, .int x7, .int x5, v4, .int x5, .int x6, .int x7, v8]) hP d220_126 (Nat.le_of_ble_eq_true rfl) rfl ?_
  refine r_iload hP d220_127 rfl ?_
  refine r_istore (L' := [.ref 108, .int x1, .int x7, .int x5, .int x6, .int x5, .int x6, .int x7, v8]) hP d220_129 (Nat.le_of_ble_eq_true rfl) rfl ?_
  exact k
theorem b220_131 {d : Nat} {P : xPr} {Q : xQr} {r : Nat} {mem : Nat → Nat → Int32} (hP : Cl d none 220 P Q) {x1 : Int32} {x2 : Int32} {x3 : Int32} {x4 : Int32} {x5 : Int32} {x6 : Int32} {v7 : Value} {v8 : Value}
    (k : P 60 [.ref 108, .int x1, .int x2, .int x3, .int x4, .int x5, .int (x6 + nI 1), v7, v8] [] (0, 0) (LAY, RFu r, mem)) : P 131 [.ref 108, .int x1, .int x2, .int x3, .int x4, .int x5, .int x6, v7, v8] [] (0, 0) (LAY, RFu r, mem) := by
  refine r_iinc (v := nI 1) (L' := [.ref 108, .int x1, .int x2, .int x3, .int x4, .int x5, .int (x6 + nI 1), v7, v8]) hP d220_131 rfl rfl rfl ?_
  refine r_goto (t := 60) hP d220_134 (by decide) ?_
  exact k
theorem b220_137 {d : Nat} {P : xPr} {Q : xQr} {r : Nat} {mem : Nat → Nat → Int32} (hP : Cl d none 220 P Q) {x1 : Int32} {x2 : Int32} {x3 : Int32} {x4 : Int32} {x5 : Int32} {v6 : Value} {v7 : Value} {v8 : Value}
    (k : P 46 [.ref 108, .int x1, .int x2, .int x3, .int x4, .int (x5 + nI 1), v6, v7, v8] [] (0, 0) (LAY, RFu r, mem)) : P 137 [.ref 108, .int x1, .int x2, .int x3, .int x4, .int x5, v6, v7, v8] [] (0, 0) (LAY, RFu r, mem) := by
  refine r_iinc (v := nI 1) (L' := [.ref 108, .int x1, .int x2, .int x3, .int x4, .int (x5 + nI 1), v6, v7, v8]) hP d220_137 rfl rfl rfl ?_
  refine r_goto (t := 46) hP d220_140 (by decide) ?_
  exact k
theorem b220_143 {d : Nat} {P : xPr} {Q : xQr} {r : Nat} {mem : Nat → Nat → Int32} (hP : Cl d none 220 P Q) {v1 : Value} {x2 : Int32} {x3 : Int32} {x4 : Int32} {v5 : Value} {v6 : Value} {v7 : Value} {v8 : Value}
    (k : xCall d 192 [.ref 108, .ref 133, .int (nI 0)] (LAY, RFu r, mem) (Bk P 149 [.ref 108, v1, .int x2, .int x3, .int x4, v5, v6, v7, v8] [] (0, 0))) : P 143 [.ref 108, v1, .int x2, .int x3, .int x4, v5, v6, v7, v8] [] (0, 0) (LAY, RFu r, mem) := by
  refine r_aload_n hP d220_143 rfl ?_
  refine r_aload_n hP d220_144 rfl ?_
  refine r_getr (a := 133) hP d220_145 fr_12_87 rfl ly_108 rg_108_38 ?_
  refine r_iconst (v := nI 0) hP d220_148 rfl ?_
  exact r_callv (As := [.ref 133, .int (nI 0)]) (S := []) hP d220_149 cr_12_261 (by decide +kernel) rfl (by simp [Value.category]) rfl ly_108 (by simp [Value.category]) ⟨Nat.zero_le _, Nat.zero_le _⟩ k
theorem b220_152 {d : Nat} {P : xPr} {Q : xQr} {r : Nat} {mem : Nat → Nat → Int32} (hP : Cl d none 220 P Q) {v1 : Value} {x2 : Int32} {x3 : Int32} {x4 : Int32} {v5 : Value} {v6 : Value} {v7 : Value} {v8 : Value}
    (k : xCall d 161 [.ref 108, .int x3] (LAY, RFu r, xu2 mem 108 19 (nI 0)) (Bk P 159 [.ref 108, v1, .int x2, .int x3, .int x4, v5, v6, v7, v8] [] (0, 0))) : P 152 [.ref 108, v1, .int x2, .int x3, .int x4, v5, v6, v7, v8] [] (0, 0) (LAY, RFu r, mem) := by
  refine r_aload_n hP d220_152 rfl ?_
  refine r_iconst (v := nI 0) hP d220_153 rfl ?_
  refine r_puti hP d220_154 fr_12_124 rfl (fun q => by cases q) ly_108 ?_
  refine r_aload_n hP d220_157 rfl ?_
  refine r_iload_n hP d220_158 rfl ?_
  exact r_callv (As := [.int x3]) (S := []) hP d220_159 cr_12_258 (by decide +kernel) rfl (by simp [Value.category]) rfl ly_108 (by simp [Value.category]) ⟨Nat.zero_le _, Nat.zero_le _⟩ k
theorem b220_162 {d : Nat} {P : xPr} {Q : xQr} {r : Nat} {mem : Nat → Nat → Int32} (hP : Cl d none 220 P Q) {v1 : Value} {x2 : Int32} {v3 : Value} {x4 : Int32} {v5 : Value} {v6 : Value} {v7 : Value} {v8 : Value}
    (k : xCall d 161 [.ref 108, .int x4] (LAY, RFu r, mem) (Bk P 165 [.ref 108, v1, .int x2, v3, .int x4, v5, v6, v7, v8] [] (0, 0))) : P 162 [.ref 108, v1, .int x2, v3, .int x4, v5, v6, v7, v8] [] (0, 0) (LAY, RFu r, mem) := by
  refine r_aload_n hP d220_162 rfl ?_
  refine r_iload hP d220_163 rfl ?_
  exact r_callv (As := [.int x4]) (S := []) hP d220_165 cr_12_258 (by decide +kernel) rfl (by simp [Value.category]) rfl ly_108 (by simp [Value.category]) ⟨Nat.zero_le _, Nat.zero_le _⟩ k
theorem b220_168 {d : Nat} {P : xPr} {Q : xQr} {r : Nat} {mem : Nat → Nat → Int32} (hP : Cl d none 220 P Q) {v0 : Value} {v1 : Value} {x2 : Int32} {v3 : Value} {v4 : Value} {v5 : Value} {v6 : Value} {v7 : Value} {v8 : Value}
    (k : Q (some (.int x2)) (LAY, RFu r, mem)) : P 168 [v0, v1, .int x2, v3, v4, v5, v6, v7, v8] [] (0, 0) (LAY, RFu r, mem) := by
  refine r_iload_n hP d220_168 rfl ?_
  exact r_iret hP d220_169 rfl k
theorem d221_0 : decode (xB 221) 0 = .ok (.aload_n 0, 1) := by decide +kernel
theorem d221_1 : decode (xB 221) 1 = .ok (.iconst 0, 1) := by decide +kernel
theorem d221_2 : decode (xB 221) 2 = .ok (.putfield 121, 3) := by decide +kernel
theorem d221_5 : decode (xB 221) 5 = .ok (.iload_n 1, 1) := by decide +kernel
theorem d221_6 : decode (xB 221) 6 = .ok (.iconst 0, 1) := by decide +kernel
theorem d221_7 : decode (xB 221) 7 = .ok (.sipush 200, 3) := by decide +kernel
theorem d221_10 : decode (xB 221) 10 = .ok (.invokestatic 130, 3) := by decide +kernel
theorem d221_13 : decode (xB 221) 13 = .ok (.ifCond .ne 5, 3) := by decide +kernel
theorem d221_16 : decode (xB 221) 16 = .ok (.iconst (-1), 1) := by decide +kernel
theorem d221_17 : decode (xB 221) 17 = .ok (.ireturn, 1) := by decide +kernel
theorem d221_18 : decode (xB 221) 18 = .ok (.aload_n 0, 1) := by decide +kernel
theorem d221_19 : decode (xB 221) 19 = .ok (.aload_n 0, 1) := by decide +kernel
theorem d221_20 : decode (xB 221) 20 = .ok (.getfield 87, 3) := by decide +kernel
theorem d221_23 : decode (xB 221) 23 = .ok (.iconst 0, 1) := by decide +kernel
theorem d221_24 : decode (xB 221) 24 = .ok (.invokevirtual 245, 3) := by decide +kernel
theorem d221_27 : decode (xB 221) 27 = .ok (.iconst 0, 1) := by decide +kernel
theorem d221_28 : decode (xB 221) 28 = .ok (.istore_n 2, 1) := by decide +kernel
theorem d221_29 : decode (xB 221) 29 = .ok (.iconst (-1), 1) := by decide +kernel
theorem d221_30 : decode (xB 221) 30 = .ok (.istore_n 3, 1) := by decide +kernel
theorem d221_31 : decode (xB 221) 31 = .ok (.iconst 1, 1) := by decide +kernel
theorem d221_32 : decode (xB 221) 32 = .ok (.istore 4, 2) := by decide +kernel
theorem d221_34 : decode (xB 221) 34 = .ok (.iload 4, 2) := by decide +kernel
theorem d221_36 : decode (xB 221) 36 = .ok (.iload_n 1, 1) := by decide +kernel
theorem d221_37 : decode (xB 221) 37 = .ok (.if_icmp .gt 78, 3) := by decide +kernel
theorem d221_40 : decode (xB 221) 40 = .ok (.aload_n 0, 1) := by decide +kernel
theorem d221_41 : decode (xB 221) 41 = .ok (.invokevirtual 252, 3) := by decide +kernel
theorem d221_44 : decode (xB 221) 44 = .ok (.pop, 1) := by decide +kernel
theorem d221_45 : decode (xB 221) 45 = .ok (.iconst 0, 1) := by decide +kernel
theorem d221_46 : decode (xB 221) 46 = .ok (.istore 5, 2) := by decide +kernel
theorem d221_48 : decode (xB 221) 48 = .ok (.iconst 0, 1) := by decide +kernel
theorem d221_49 : decode (xB 221) 49 = .ok (.istore 6, 2) := by decide +kernel
theorem d221_51 : decode (xB 221) 51 = .ok (.iload 6, 2) := by decide +kernel
theorem d221_53 : decode (xB 221) 53 = .ok (.aload_n 0, 1) := by decide +kernel
theorem d221_54 : decode (xB 221) 54 = .ok (.getfield 127, 3) := by decide +kernel
theorem d221_57 : decode (xB 221) 57 = .ok (.if_icmp .ge 30, 3) := by decide +kernel
theorem d221_60 : decode (xB 221) 60 = .ok (.iload 5, 2) := by decide +kernel
theorem d221_62 : decode (xB 221) 62 = .ok (.ifCond .ne 12, 3) := by decide +kernel
theorem d221_65 : decode (xB 221) 65 = .ok (.aload_n 0, 1) := by decide +kernel
theorem d221_66 : decode (xB 221) 66 = .ok (.iload 6, 2) := by decide +kernel
theorem d221_68 : decode (xB 221) 68 = .ok (.invokevirtual 255, 3) := by decide +kernel
theorem d221_71 : decode (xB 221) 71 = .ok (.ifCond .eq 7, 3) := by decide +kernel
theorem d221_74 : decode (xB 221) 74 = .ok (.iconst 1, 1) := by decide +kernel
theorem d221_75 : decode (xB 221) 75 = .ok (.goto 4, 3) := by decide +kernel
theorem d221_78 : decode (xB 221) 78 = .ok (.iconst 0, 1) := by decide +kernel
theorem d221_79 : decode (xB 221) 79 = .ok (.istore 5, 2) := by decide +kernel
theorem d221_81 : decode (xB 221) 81 = .ok (.iinc 6 1, 3) := by decide +kernel
theorem d221_84 : decode (xB 221) 84 = .ok (.goto (-33), 3) := by decide +kernel
theorem d221_87 : decode (xB 221) 87 = .ok (.iload 5, 2) := by decide +kernel
theorem d221_89 : decode (xB 221) 89 = .ok (.ifCond .eq 6, 3) := by decide +kernel
theorem d221_92 : decode (xB 221) 92 = .ok (.goto 17, 3) := by decide +kernel
theorem d221_95 : decode (xB 221) 95 = .ok (.iload_n 2, 1) := by decide +kernel
theorem d221_96 : decode (xB 221) 96 = .ok (.ifCond .ne 8, 3) := by decide +kernel
theorem d221_99 : decode (xB 221) 99 = .ok (.iload 4, 2) := by decide +kernel
theorem d221_101 : decode (xB 221) 101 = .ok (.goto 4, 3) := by decide +kernel
theorem d221_104 : decode (xB 221) 104 = .ok (.iload_n 3, 1) := by decide +kernel
theorem d221_105 : decode (xB 221) 105 = .ok (.istore_n 3, 1) := by decide +kernel
theorem d221_106 : decode (xB 221) 106 = .ok (.iinc 2 1, 3) := by decide +kernel
theorem d221_109 : decode (xB 221) 109 = .ok (.iinc 4 1, 3) := by decide +kernel
theorem d221_112 : decode (xB 221) 112 = .ok (.goto (-78), 3) := by decide +kernel
theorem d221_115 : decode (xB 221) 115 = .ok (.aload_n 0, 1) := by decide +kernel
theorem d221_116 : decode (xB 221) 116 = .ok (.aload_n 0, 1) := by decide +kernel
theorem d221_117 : decode (xB 221) 117 = .ok (.getfield 87, 3) := by decide +kernel
theorem d221_120 : decode (xB 221) 120 = .ok (.iconst 0, 1) := by decide +kernel
theorem d221_121 : decode (xB 221) 121 = .ok (.invokevirtual 261, 3) := by decide +kernel
theorem d221_124 : decode (xB 221) 124 = .ok (.aload_n 0, 1) := by decide +kernel
theorem d221_125 : decode (xB 221) 125 = .ok (.iconst 0, 1) := by decide +kernel
theorem d221_126 : decode (xB 221) 126 = .ok (.putfield 124, 3) := by decide +kernel
theorem d221_129 : decode (xB 221) 129 = .ok (.aload_n 0, 1) := by decide +kernel
theorem d221_130 : decode (xB 221) 130 = .ok (.iload_n 3, 1) := by decide +kernel
theorem d221_131 : decode (xB 221) 131 = .ok (.invokevirtual 258, 3) := by decide +kernel
theorem d221_134 : decode (xB 221) 134 = .ok (.iload_n 2, 1) := by decide +kernel
theorem d221_135 : decode (xB 221) 135 = .ok (.ireturn, 1) := by decide +kernel
theorem b221_0 {d : Nat} {P : xPr} {Q : xQr} {r : Nat} {mem : Nat → Nat → Int32} (hP : Cl d none 221 P Q) {p0 : Int32}
    (k : xCall d 158 [.int p0, .int (nI 0), .int (nI 200)] (LAY, RFu r, xu2 mem 108 20 (nI 0)) (Bk P 10 [.ref 108, .int p0, .null, .null, .null, .null, .null] [] (0, 0))) : P 0 [.ref 108, .int p0, .null, .null, .null, .null, .null] [] (0, 0) (LAY, RFu r, mem) := by
  refine r_aload_n hP d221_0 rfl ?_
  refine r_iconst (v := nI 0) hP d221_1 rfl ?_
  refine r_puti hP d221_2 fr_12_121 rfl (fun q => by cases q) ly_108 ?_
  refine r_iload_n hP d221_5 rfl ?_
  refine r_iconst (v := nI 0) hP d221_6 rfl ?_
  refine r_sipush (v := nI 200) hP d221_7 rfl ?_
  exact r_calls (As := [.int p0, .int (nI 0), .int (nI 200)]) (S := []) hP d221_10 cr_12_130 (by decide +kernel) rfl (by simp [Value.category]) rfl (by simp [Value.category]) ⟨Nat.zero_le _, Nat.zero_le _⟩ k
theorem b221_13 {d : Nat} {P : xPr} {Q : xQr} {r : Nat} {mem : Nat → Nat → Int32} (hP : Cl d none 221 P Q) {x1 : Int32} {v2 : Value} {v3 : Value} {v4 : Value} {v5 : Value} {v6 : Value} {y0 : Int32}
    (kt : ¬ y0 = 0 → P 18 [.ref 108, .int x1, v2, v3, v4, v5, v6] [] (0, 0) (LAY, RFu r, mem)) (kf : y0 = 0 → P 16 [.ref 108, .int x1, v2, v3, v4, v5, v6] [] (0, 0) (LAY, RFu r, mem)) : P 13 [.ref 108, .int x1, v2, v3, v4, v5, v6] [.int y0] (0, 0) (LAY, RFu r, mem) := by
  exact r_if (t := 18) hP d221_13 (by decide) kt (fun q => kf (Decidable.of_not_not q))
theorem b221_16 {d : Nat} {P : xPr} {Q : xQr} {r : Nat} {mem : Nat → Nat → Int32} (hP : Cl d none 221 P Q) {v0 : Value} {v1 : Value} {v2 : Value} {v3 : Value} {v4 : Value} {v5 : Value} {v6 : Value}
    (k : Q (some (.int (-1))) (LAY, RFu r, mem)) : P 16 [v0, v1, v2, v3, v4, v5, v6] [] (0, 0) (LAY, RFu r, mem) := by
  refine r_iconst (v := (-1)) hP d221_16 rfl ?_
  exact r_iret hP d221_17 rfl k
theorem b221_18 {d : Nat} {P : xPr} {Q : xQr} {r : Nat} {mem : Nat → Nat → Int32} (hP : Cl d none 221 P Q) {x1 : Int32} {v2 : Value} {v3 : Value} {v4 : Value} {v5 : Value} {v6 : Value}
    (k : xCall d 191 [.ref 108, .ref 133, .int (nI 0)] (LAY, RFu r, mem) (Bk P 24 [.ref 108, .int x1, v2, v3, v4, v5, v6] [] (0, 0))) : P 18 [.ref 108, .int x1, v2, v3, v4, v5, v6] [] (0, 0) (LAY, RFu r, mem) := by
  refine r_aload_n hP d221_18 rfl ?_
  refine r_aload_n hP d221_19 rfl ?_
  refine r_getr (a := 133) hP d221_20 fr_12_87 rfl ly_108 rg_108_38 ?_
  refine r_iconst (v := nI 0) hP d221_23 rfl ?_
  exact r_callv (As := [.ref 133, .int (nI 0)]) (S := []) hP d221_24 cr_12_245 (by decide +kernel) rfl (by simp [Value.category]) rfl ly_108 (by simp [Value.category]) ⟨Nat.zero_le _, Nat.zero_le _⟩ k
theorem b221_27 {d : Nat} {P : xPr} {Q : xQr} {r : Nat} {mem : Nat → Nat → Int32} (hP : Cl d none 221 P Q) {x1 : Int32} {v2 : Value} {v3 : Value} {v4 : Value} {v5 : Value} {v6 : Value}
    (k : P 34 [.ref 108, .int x1, .int (nI 0), .int (-1), .int (nI 1), v5, v6] [] (0, 0) (LAY, RFu r, mem)) : P 27 [.ref 108, .int x1, v2, v3, v4, v5, v6] [] (0, 0) (LAY, RFu r, mem) := by
  refine r_iconst (v := nI 0) hP d221_27 rfl ?_
  refine r_istore_n (L' := [.ref 108, .int x1, .int (nI 0), v3, v4, v5, v6]) hP d221_28 (Nat.le_of_ble_eq_true rfl) rfl ?_
  refine r_iconst (v := (-1)) hP d221_29 rfl ?_
  refine r_istore_n (L' := [.ref 108, .int x1, .int (nI 0), .int (-1), v4, v5, v6]) hP d221_30 (Nat.le_of_ble_eq_true rfl) rfl ?_
  refine r_iconst (v := nI 1) hP d221_31 rfl ?_
  refine r_istore (L' := [.ref 108, .int x1, .int (nI 0), .int (-1), .int (nI 1), v5, v6]) hP d221_32 (Nat.le_of_ble_eq_true rfl) rfl ?_
  exact k
theorem b221_34 {d : Nat} {P : xPr} {Q : xQr} {r : Nat} {mem : Nat → Nat → Int32} (hP : Cl d none 221 P Q) {x1 : Int32} {x2 : Int32} {x3 : Int32} {x4 : Int32} {v5 : Value} {v6 : Value}
    (kt : x1 < x4 → P 115 [.ref 108, .int x1, .int x2, .int x3, .int x4, v5, v6] [] (0, 0) (LAY, RFu r, mem)) (kf : ¬ x1 < x4 → P 40 [.ref 108, .int x1, .int x2, .int x3, .int x4, v5, v6] [] (0, 0) (LAY, RFu r, mem)) : P 34 [.ref 108, .int x1, .int x2, .int x3, .int x4, v5, v6] [] (0, 0) (LAY, RFu r, mem) := by
  refine r_iload hP d221_34 rfl ?_
  refine r_iload_n hP d221_36 rfl ?_
  exact r_icmp (t := 115) hP d221_37 (by decide) kt kf
theorem b221_40 {d : Nat} {P : xPr} {Q : xQr} {r : Nat} {mem : Nat → Nat → Int32} (hP : Cl d none 221 P Q) {x1 : Int32} {x2 : Int32} {x3 : Int32} {x4 : Int32} {v5 : Value} {v6 : Value}
    (k : xCall d 190 [.ref 108] (LAY, RFu r, mem) (Bk P 41 [.ref 108, .int x1, .int x2, .int x3, .int x4, v5, v6] [] (0, 0))) : P 40 [.ref 108, .int x1, .int x2, .int x3, .int x4, v5, v6] [] (0, 0) (LAY, RFu r, mem) := by
  refine r_aload_n hP d221_40 rfl ?_
  exact r_callv (As := []) (S := []) hP d221_41 cr_12_252 (by decide +kernel) rfl (by simp) rfl ly_108 (by simp [Value.category]) ⟨Nat.zero_le _, Nat.zero_le _⟩ k
theorem b221_44 {d : Nat} {P : xPr} {Q : xQr} {r : Nat} {mem : Nat → Nat → Int32} (hP : Cl d none 221 P Q) {x1 : Int32} {x2 : Int32} {x3 : Int32} {x4 : Int32} {v5 : Value} {v6 : Value} {y0 : Int32}
    (k : P 51 [.ref 108, .int x1, .int x2, .int x3, .int x4, .int (nI 0), .int (nI 0)] [] (0, 0) (LAY, RFu r, mem)) : P 44 [.ref 108, .int x1, .int x2, .int x3, .int x4, v5, v6] [.int y0] (0, 0) (LAY, RFu r, mem) := by
  refine r_pop hP d221_44 rfl ?_
  refine r_iconst (v := nI 0) hP d221_45 rfl ?_
  refine r_istore (L' := [.ref 108, .int x1, .int x2, .int x3, .int x4, .int (nI 0), v6]) hP d221_46 (Nat.le_of_ble_eq_true rfl) rfl ?_
  refine r_iconst (v := nI 0) hP d221_48 rfl ?_
  refine r_istore (L' := [.ref 108, .int x1, .int x2, .int x3, .int x4, .int (nI 0), .int (nI 0)]) hP d221_49 (Nat.le_of_ble_eq_true rfl) rfl ?_
  exact k
theorem b221_51 {d : Nat} {P : xPr} {Q : xQr} {r : Nat} {mem : Nat → Nat → Int32} (hP : Cl d none 221 P Q) {x1 : Int32} {x2 : Int32} {x3 : Int32} {x4 : Int32} {x5 : Int32} {x6 : Int32}
    (kt : (mem 108 2) ≤ x6 → P 87 [.ref 108, .int x1, .int x2, .int x3, .int x4, .int x5, .int x6] [] (0, 0) (LAY, RFu r, mem)) (kf : ¬ (mem 108 2) ≤ x6 → P 60 [.ref 108, .int x1, .int x2, .int x3, .int x4, .int x5, .int x6] [] (0, 0) (LAY, RFu r, mem)) : P 51 [.ref 108, .int x1, .int x2, .int x3, .int x4, .int x5, .int x6] [] (0, 0) (LAY, RFu r, mem) := by
  refine r_iload hP d221_51 rfl ?_
  refine r_aload_n hP d221_53 rfl ?_
  refine r_geti hP d221_54 fr_12_127 rfl ly_108 ?_
  exact r_icmp (t := 87) hP d221_57 (by decide) kt kf
theorem b221_60 {d : Nat} {P : xPr} {Q : xQr} {r : Nat} {mem : Nat → Nat → Int32} (hP : Cl d none 221 P Q) {x1 : Int32} {x2 : Int32} {x3 : Int32} {x4 : Int32} {x5 : Int32} {x6 : Int32}
    (kt : ¬ x5 = 0 → P 74 [.ref 108, .int x1, .int x2, .int x3, .int x4, .int x5, .int x6] [] (0, 0) (LAY, RFu r, mem)) (kf : x5 = 0 → P 65 [.ref 108, .int x1, .int x2, .int x3, .int x4, .int x5, .int x6] [] (0, 0) (LAY, RFu r, mem)) : P 60 [.ref 108, .int x1, .int x2, .int x3, .int x4, .int x5, .int x6] [] (0, 0) (LAY, RFu r, mem) := by
  refine r_iload hP d221_60 rfl ?_
  exact r_if (t := 74) hP d221_62 (by decide) kt (fun q => kf (Decidable.of_not_not q))
theorem b221_65 {d : Nat} {P : xPr} {Q : xQr} {r : Nat} {mem : Nat → Nat → Int32} (hP : Cl d none 221 P Q) {x1 : Int32} {x2 : Int32} {x3 : Int32} {x4 : Int32} {v5 : Value} {x6 : Int32}
    (k : xCall d 193 [.ref 108, .int x6] (LAY, RFu r, mem) (Bk P 68 [.ref 108, .int x1, .int x2, .int x3, .int x4, v5, .int x6] [] (0, 0))) : P 65 [.ref 108, .int x1, .int x2, .int x3, .int x4, v5, .int x6] [] (0, 0) (LAY, RFu r, mem) := by
  refine r_aload_n hP d221_65 rfl ?_
  refine r_iload hP d221_66 rfl ?_
  exact r_callv (As := [.int x6]) (S := []) hP d221_68 cr_12_255 (by decide +kernel) rfl (by simp [Value.category]) rfl ly_108 (by simp [Value.category]) ⟨Nat.zero_le _, Nat.zero_le _⟩ k
theorem b221_71 {d : Nat} {P : xPr} {Q : xQr} {r : Nat} {mem : Nat → Nat → Int32} (hP : Cl d none 221 P Q) {x1 : Int32} {x2 : Int32} {x3 : Int32} {x4 : Int32} {v5 : Value} {x6 : Int32} {y0 : Int32}
    (kt : y0 = 0 → P 78 [.ref 108, .int x1, .int x2, .int x3, .int x4, v5, .int x6] [] (0, 0) (LAY, RFu r, mem)) (kf : ¬ y0 = 0 → P 74 [.ref 108, .int x1, .int x2, .int x3, .int x4, v5, .int x6] [] (0, 0) (LAY, RFu r, mem)) : P 71 [.ref 108, .int x1, .int x2, .int x3, .int x4, v5, .int x6] [.int y0] (0, 0) (LAY, RFu r, mem) := by
  exact r_if (t := 78) hP d221_71 (by decide) kt kf
theorem b221_74 {d : Nat} {P : xPr} {Q : xQr} {r : Nat} {mem : Nat → Nat → Int32} (hP : Cl d none 221 P Q) {x1 : Int32} {x2 : Int32} {x3 : Int32} {x4 : Int32} {v5 : Value} {x6 : Int32}
    (k : P 79 [.ref 108, .int x1, .int x2, .int x3, .int x4, v5, .int x6] [.int (nI 1)] (0, 0) (LAY, RFu r, mem)) : P 74 [.ref 108, .int x1, .int x2, .int x3, .int x4, v5, .int x6] [] (0, 0) (LAY, RFu r, mem) := by
  refine r_iconst (v := nI 1) hP d221_74 rfl ?_
  refine r_goto (t := 79) hP d221_75 (by decide) ?_
  exact k
theorem b221_78 {d : Nat} {P : xPr} {Q : xQr} {r : Nat} {mem : Nat → Nat → Int32} (hP : Cl d none 221 P Q) {x1 : Int32} {x2 : Int32} {x3 : Int32} {x4 : Int32} {v5 : Value} {x6 : Int32}
    (k : P 79 [.ref 108, .int x1, .int x2, .int x3, .int x4, v5, .int x6] [.int (nI 0)] (0, 0) (LAY, RFu r, mem)) : P 78 [.ref 108, .int x1, .int x2, .int x3, .int x4, v5, .int x6] [] (0, 0) (LAY, RFu r, mem) := by
  refine r_iconst (v := nI 0) hP d221_78 rfl ?_
  exact k
theorem b221_79 {d : Nat} {P : xPr} {Q : xQr} {r : Nat} {mem : Nat → Nat → Int32} (hP : Cl d none 221 P Q) {x1 : Int32} {x2 : Int32} {x3 : Int32} {x4 : Int32} {v5 : Value} {x6 : Int32} {y0 : Int32}
    (k : P 51 [.ref 108, .int x1, .int x2, .int x3, .int x4, .int y0, .int (x6 + nI 1)] [] (0, 0) (LAY, RFu r, mem)) : P 79 [.ref 108, .int x1, .int x2, .int x3, .int x4, v5, .int x6] [.int y0] (0, 0) (LAY, RFu r, mem) := by
  refine r_istore (L' := [.ref 108, .int x1, .int x2, .int x3, .int x4, .int y0, .int x6]) hP d221_79 (Nat.le_of_ble_eq_true rfl) rfl ?_
  refine r_iinc (v := nI 1) (L' := [.ref 108, .int x1, .int x2, .int x3, .int x4, .int y0, .int (x6 + nI 1)]) hP d221_81 rfl rfl rfl ?_
  refine r_goto (t := 51) hP d221_84 (by decide) ?_
  exact k
theorem b221_87 {d : Nat} {P : xPr} {Q : xQr} {r : Nat} {mem : Nat → Nat → Int32} (hP : Cl d none 221 P Q) {x1 : Int32} {x2 : Int32} {x3 : Int32} {x4 : Int32} {x5 : Int32} {v6 : Value}
    (kt : x5 = 0 → P 95 [.ref 108, .int x1, .int x2, .int x3, .int x4, .int x5, v6] [] (0, 0) (LAY, RFu r, mem)) (kf : ¬ x5 = 0 → P 92 [.ref 108, .int x1, .int x2, .int x3, .int x4, .int x5, v6] [] (0, 0) (LAY, RFu r, mem)) : P 87 [.ref 108, .int x1, .int x2, .int x3, .int x4, .int x5, v6] [] (0, 0) (LAY, RFu r, mem) := by
  refine r_iload hP d221_87 rfl ?_
  exact r_if (t := 95) hP d221_89 (by decide) kt kf
theorem b221_92 {d : Nat} {P : xPr} {Q : xQr} {r : Nat} {mem : Nat → Nat → Int32} (hP : Cl d none 221 P Q) {x1 : Int32} {x2 : Int32} {x3 : Int32} {x4 : Int32} {v5 : Value} {v6 : Value}
    (k : P 109 [.ref 108, .int x1, .int x2, .int x3, .int x4, v5, v6] [] (0, 0) (LAY, RFu r, mem)) : P 92 [.ref 108, .int x1, .int x2, .int x3, .int x4, v5, v6] [] (0, 0) (LAY, RFu r, mem) := by
  refine r_goto (t := 109) hP d221_92 (by decide) ?_
  exact k
theorem b221_95 {d : Nat} {P : xPr} {Q : xQr} {r : Nat} {mem : Nat → Nat → Int32} (hP : Cl d none 221 P Q) {x1 : Int32} {x2 : Int32} {x3 : Int32} {x4 : Int32} {v5 : Value} {v6 : Value}
    (kt : ¬ x2 = 0 → P 104 [.ref 108, .int x1, .int x2, .int x3, .int x4, v5, v6] [] (0, 0) (LAY, RFu r, mem)) (kf : x2 = 0 → P 99 [.ref 108, .int x1, .int x2, .int x3, .int x4, v5, v6] [] (0, 0) (LAY, RFu r, mem)) : P 95 [.ref 108, .int x1, .int x2, .int x3, .int x4, v5, v6] [] (0, 0) (LAY, RFu r, mem) := by
  refine r_iload_n hP d221_95 rfl ?_
  exact r_if (t := 104) hP d221_96 (by decide) kt (fun q => kf (Decidable.of_not_not q))
theorem b221_99 {d : Nat} {P : xPr} {Q : xQr} {r : Nat} {mem : Nat → Nat → Int32} (hP : Cl d none 221 P Q) {x1 : Int32} {x2 : Int32} {v3 : Value} {x4 : Int32} {v5 : Value} {v6 : Value}
    (k : P 105 [.ref 108, .int x1, .int x2, v3, .int x4, v5, v6] [.int x4] (0, 0) (LAY, RFu r, mem)) : P 99 [.ref 108, .int x1, .int x2, v3, .int x4, v5, v6] [] (0, 0) (LAY, RFu r, mem) := by
  refine r_iload hP d221_99 rfl ?_
  refine r_goto (t := 105) hP d221_101 (by decide) ?_
  exact k
theorem b221_104 {d : Nat} {P : xPr} {Q : xQr} {r : Nat} {mem : Nat → Nat → Int32} (hP : Cl d none 221 P Q) {x1 : Int32} {x2 : Int32} {x3 : Int32} {x4 : Int32} {v5 : Value} {v6 : Value}
    (k : P 105 [.ref 108, .int x1, .int x2, .int x3, .int x4, v5, v6] [.int x3] (0, 0) (LAY, RFu r, mem)) : P 104 [.ref 108, .int x1, .int x2, .int x3, .int x4, v5, v6] [] (0, 0) (LAY, RFu r, mem) := by
  refine r_iload_n hP d221_104 rfl ?_
  exact k
theorem b221_105 {d : Nat} {P : xPr} {Q : xQr} {r : Nat} {mem : Nat → Nat → Int32} (hP : Cl d none 221 P Q) {x1 : Int32} {x2 : Int32} {v3 : Value} {x4 : Int32} {v5 : Value} {v6 : Value} {y0 : Int32}
    (k : P 109 [.ref 108, .int x1, .int (x2 + nI 1), .int y0, .int x4, v5, v6] [] (0, 0) (LAY, RFu r, mem)) : P 105 [.ref 108, .int x1, .int x2, v3, .int x4, v5, v6] [.int y0] (0, 0) (LAY, RFu r, mem) := by
  refine r_istore_n (L' := [.ref 108, .int x1, .int x2, .int y0, .int x4, v5, v6]) hP d221_105 (Nat.le_of_ble_eq_true rfl) rfl ?_
  refine r_iinc (v := nI 1) (L' := [.ref 108, .int x1, .int (x2 + nI 1), .int y0, .int x4, v5, v6]) hP d221_106 rfl rfl rfl ?_
  exact k
theorem b221_109 {d : Nat} {P : xPr} {Q : xQr} {r : Nat} {mem : Nat → Nat → Int32} (hP : Cl d none 221 P Q) {x1 : Int32} {x2 : Int32} {x3 : Int32} {x4 : Int32} {v5 : Value} {v6 : Value}
    (k : P 34 [.ref 108, .int x1, .int x2, .int x3, .int (x4 + nI 1), v5, v6] [] (0, 0) (LAY, RFu r, mem)) : P 109 [.ref 108, .int x1, .int x2, .int x3, .int x4, v5, v6] [] (0, 0) (LAY, RFu r, mem) := by
  refine r_iinc (v := nI 1) (L' := [.ref 108, .int x1, .int x2, .int x3, .int (x4 + nI 1), v5, v6]) hP d221_109 rfl rfl rfl ?_
  refine r_goto (t := 34) hP d221_112 (by decide) ?_
  exact k
theorem b221_115 {d : Nat} {P : xPr} {Q : xQr} {r : Nat} {mem : Nat → Nat → Int32} (hP : Cl d none 221 P Q) {v1 : Value} {x2 : Int32} {x3 : Int32} {v4 : Value} {v5 : Value} {v6 : Value}
    (k : xCall d 192 [.ref 108, .ref 133, .int (nI 0)] (LAY, RFu r, mem) (Bk P 121 [.ref 108, v1, .int x2, .int x3, v4, v5, v6] [] (0, 0))) : P 115 [.ref 108, v1, .int x2, .int x3, v4, v5, v6] [] (0, 0) (LAY, RFu r, mem) := by
  refine r_aload_n hP d221_115 rfl ?_
  refine r_aload_n hP d221_116 rfl ?_
  refine r_getr (a := 133) hP d221_117 fr_12_87 rfl ly_108 rg_108_38 ?_
  refine r_iconst (v := nI 0) hP d221_120 rfl ?_
  exact r_callv (As := [.ref 133, .int (nI 0)]) (S := []) hP d221_121 cr_12_261 (by decide +kernel) rfl (by simp [Value.category]) rfl ly_108 (by simp [Value.category]) ⟨Nat.zero_le _, Nat.zero_le _⟩ k
theorem b221_124 {d : Nat} {P : xPr} {Q : xQr} {r : Nat} {mem : Nat → Nat → Int32} (hP : Cl d none 221 P Q) {v1 : Value} {x2 : Int32} {x3 : Int32} {v4 : Value} {v5 : Value} {v6 : Value}
    (k : xCall d 161 [.ref 108, .int x3] (LAY, RFu r, xu2 mem 108 19 (nI 0)) (Bk P 131 [.ref 108, v1, .int x2, .int x3, v4, v5, v6] [] (0, 0))) : P 124 [.ref 108, v1, .int x2, .int x3, v4, v5, v6] [] (0, 0) (LAY, RFu r, mem) := by
  refine r_aload_n hP d221_124 rfl ?_
  refine r_iconst (v := nI 0) hP d221_125 rfl ?_
  refine r_puti hP d221_126 fr_12_124 rfl (fun q => by cases q) ly_108 ?_
  refine r_aload_n hP d221_129 rfl ?_
  refine r_iload_n hP d221_130 rfl ?_
  exact r_callv (As := [.int x3]) (S := []) hP d221_131 cr_12_258 (by decide +kernel) rfl (by simp [Value.category]) rfl ly_108 (by simp [Value.category]) ⟨Nat.zero_le _, Nat.zero_le _⟩ k
theorem b221_134 {d : Nat} {P : xPr} {Q : xQr} {r : Nat} {mem : Nat → Nat → Int32} (hP : Cl d none 221 P Q) {v0 : Value} {v1 : Value} {x2 : Int32} {v3 : Value} {v4 : Value} {v5 : Value} {v6 : Value}
    (k : Q (some (.int x2)) (LAY, RFu r, mem)) : P 134 [v0, v1, .int x2, v3, v4, v5, v6] [] (0, 0) (LAY, RFu r, mem) := by
  refine r_iload_n hP d221_134 rfl ?_
  exact r_iret hP d221_135 rfl k
theorem d222_0 : decode (xB 222) 0 = .ok (.aload_n 0, 1) := by decide +kernel
theorem d222_1 : decode (xB 222) 1 = .ok (.aload_n 0, 1) := by decide +kernel
theorem d222_2 : decode (xB 222) 2 = .ok (.getfield 87, 3) := by decide +kernel
theorem d222_5 : decode (xB 222) 5 = .ok (.iconst 0, 1) := by decide +kernel
theorem d222_6 : decode (xB 222) 6 = .ok (.invokevirtual 245, 3) := by decide +kernel
theorem d222_9 : decode (xB 222) 9 = .ok (.iconst 0, 1) := by decide +kernel
theorem d222_10 : decode (xB 222) 10 = .ok (.istore_n 3, 1) := by decide +kernel
theorem d222_11 : decode (xB 222) 11 = .ok (.iload_n 3, 1) := by decide +kernel
theorem d222_12 : decode (xB 222) 12 = .ok (.aload_n 0, 1) := by decide +kernel
theorem d222_13 : decode (xB 222) 13 = .ok (.getfield 127, 3) := by decide +kernel
theorem d222_16 : decode (xB 222) 16 = .ok (.if_icmp .ge 19, 3) := by decide +kernel
theorem d222_19 : decode (xB 222) 19 = .ok (.aload_n 2, 1) := by decide +kernel
theorem d222_20 : decode (xB 222) 20 = .ok (.iload_n 3, 1) := by decide +kernel
theorem d222_21 : decode (xB 222) 21 = .ok (.aload_n 0, 1) := by decide +kernel
theorem d222_22 : decode (xB 222) 22 = .ok (.getfield 41, 3) := by decide +kernel
theorem d222_25 : decode (xB 222) 25 = .ok (.iload_n 3, 1) := by decide +kernel
theorem d222_26 : decode (xB 222) 26 = .ok (.iaload, 1) := by decide +kernel
theorem d222_27 : decode (xB 222) 27 = .ok (.ineg, 1) := by decide +kernel
theorem d222_28 : decode (xB 222) 28 = .ok (.iastore, 1) := by decide +kernel
theorem d222_29 : decode (xB 222) 29 = .ok (.iinc 3 1, 3) := by decide +kernel
theorem d222_32 : decode (xB 222) 32 = .ok (.goto (-21), 3) := by decide +kernel
theorem d222_35 : decode (xB 222) 35 = .ok (.iconst 0, 1) := by decide +kernel
theorem d222_36 : decode (xB 222) 36 = .ok (.istore_n 3, 1) := by decide +kernel
theorem d222_37 : decode (xB 222) 37 = .ok (.iload_n 3, 1) := by decide +kernel
theorem d222_38 : decode (xB 222) 38 = .ok (.iload_n 1, 1) := by decide +kernel
theorem d222_39 : decode (xB 222) 39 = .ok (.if_icmp .ge 14, 3) := by decide +kernel
theorem d222_42 : decode (xB 222) 42 = .ok (.aload_n 0, 1) := by decide +kernel
theorem d222_43 : decode (xB 222) 43 = .ok (.invokevirtual 252, 3) := by decide +kernel
theorem d222_46 : decode (xB 222) 46 = .ok (.pop, 1) := by decide +kernel
theorem d222_47 : decode (xB 222) 47 = .ok (.iinc 3 1, 3) := by decide +kernel
theorem d222_50 : decode (xB 222) 50 = .ok (.goto (-13), 3) := by decide +kernel
theorem d222_53 : decode (xB 222) 53 = .ok (.iconst 0, 1) := by decide +kernel
theorem d222_54 : decode (xB 222) 54 = .ok (.istore_n 3, 1) := by decide +kernel
theorem d222_55 : decode (xB 222) 55 = .ok (.iconst 0, 1) := by decide +kernel
theorem d222_56 : decode (xB 222) 56 = .ok (.istore 4, 2) := by decide +kernel
theorem d222_58 : decode (xB 222) 58 = .ok (.iload 4, 2) := by decide +kernel
theorem d222_60 : decode (xB 222) 60 = .ok (.aload_n 0, 1) := by decide +kernel
theorem d222_61 : decode (xB 222) 61 = .ok (.getfield 127, 3) := by decide +kernel
theorem d222_64 : decode (xB 222) 64 = .ok (.if_icmp .ge 30, 3) := by decide +kernel
theorem d222_67 : decode (xB 222) 67 = .ok (.aload_n 2, 1) := by decide +kernel
theorem d222_68 : decode (xB 222) 68 = .ok (.iload 4, 2) := by decide +kernel
theorem d222_70 : decode (xB 222) 70 = .ok (.dup2, 1) := by decide +kernel
theorem d222_71 : decode (xB 222) 71 = .ok (.iaload, 1) := by decide +kernel
theorem d222_72 : decode (xB 222) 72 = .ok (.aload_n 0, 1) := by decide +kernel
theorem d222_73 : decode (xB 222) 73 = .ok (.getfield 41, 3) := by decide +kernel
theorem d222_76 : decode (xB 222) 76 = .ok (.iload 4, 2) := by decide +kernel
theorem d222_78 : decode (xB 222) 78 = .ok (.iaload, 1) := by decide +kernel
theorem d222_79 : decode (xB 222) 79 = .ok (.iadd, 1) := by decide +kernel
theorem d222_80 : decode (xB 222) 80 = .ok (.iastore, 1) := by decide +kernel
theorem d222_81 : decode (xB 222) 81 = .ok (.iload_n 3, 1) := by decide +kernel
theorem d222_82 : decode (xB 222) 82 = .ok (.aload_n 2, 1) := by decide +kernel
theorem d222_83 : decode (xB 222) 83 = .ok (.iload 4, 2) := by decide +kernel
theorem d222_85 : decode (xB 222) 85 = .ok (.iaload, 1) := by decide +kernel
theorem d222_86 : decode (xB 222) 86 = .ok (.iadd, 1) := by decide +kernel
theorem d222_87 : decode (xB 222) 87 = .ok (.istore_n 3, 1) := by decide +kernel
theorem d222_88 : decode (xB 222) 88 = .ok (.iinc 4 1, 3) := by decide +kernel
theorem d222_91 : decode (xB 222) 91 = .ok (.goto (-33), 3) := by decide +kernel
theorem d222_94 : decode (xB 222) 94 = .ok (.aload_n 0, 1) := by decide +kernel
theorem d222_95 : decode (xB 222) 95 = .ok (.aload_n 0, 1) := by decide +kernel
theorem d222_96 : decode (xB 222) 96 = .ok (.getfield 87, 3) := by decide +kernel
theorem d222_99 : decode (xB 222) 99 = .ok (.iconst 0, 1) := by decide +kernel
theorem d222_100 : decode (xB 222) 100 = .ok (.invokevirtual 261, 3) := by decide +kernel
theorem d222_103 : decode (xB 222) 103 = .ok (.iload_n 3, 1) := by decide +kernel
theorem d222_104 : decode (xB 222) 104 = .ok (.ireturn, 1) := by decide +kernel
theorem b222_0 {d : Nat} {P : xPr} {Q : xQr} {r : Nat} {mem : Nat → Nat → Int32} (hP : Cl d none 222 P Q) {p0 : Int32} {p1 : Nat} {np1 : Nat} (hp1 : LAY[p1]? = some (13, np1))
    (k : xCall d 191 [.ref 108, .ref 133, .int (nI 0)] (LAY, RFu r, mem) (Bk P 6 [.ref 108, .int p0, .ref p1, .null, .null] [] (0, 0))) : P 0 [.ref 108, .int p0, .ref p1, .null, .null] [] (0, 0) (LAY, RFu r, mem) := by
  refine r_aload_n hP d222_0 rfl ?_
  refine r_aload_n hP d222_1 rfl ?_
  refine r_getr (a := 133) hP d222_2 fr_12_87 rfl ly_108 rg_108_38 ?_
  refine r_iconst (v := nI 0) hP d222_5 rfl ?_
  exact r_callv (As := [.ref 133, .int (nI 0)]) (S := []) hP d222_6 cr_12_245 (by decide +kernel) rfl (by simp [Value.category]) rfl ly_108 (by simp [Value.category]) ⟨Nat.zero_le _, Nat.zero_le _⟩ k
theorem b222_9 {d : Nat} {P : xPr} {Q : xQr} {r : Nat} {mem : Nat → Nat → Int32} (hP : Cl d none 222 P Q) {p1 : Nat} {np1 : Nat} {x1 : Int32} {v3 : Value} {v4 : Value} (hp1 : LAY[p1]? = some (13, np1))
    (k : P 11 [.ref 108, .int x1, .ref p1, .int (nI 0), v4] [] (0, 0) (LAY, RFu r, mem)) : P 9 [.ref 108, .int x1, .ref p1, v3, v4] [] (0, 0) (LAY, RFu r, mem) := by
  refine r_iconst (v := nI 0) hP d222_9 rfl ?_
  refine r_istore_n (L' := [.ref 108, .int x1, .ref p1, .int (nI 0), v4]) hP d222_10 (Nat.le_of_ble_eq_true rfl) rfl ?_
  exact k
theorem b222_11 {d : Nat} {P : xPr} {Q : xQr} {r : Nat} {mem : Nat → Nat → Int32} (hP : Cl d none 222 P Q) {p1 : Nat} {np1 : Nat} {x1 : Int32} {x3 : Int32} {v4 : Value} (hp1 : LAY[p1]? = some (13, np1))
    (kt : (mem 108 2) ≤ x3 → P 35 [.ref 108, .int x1, .ref p1, .int x3, v4] [] (0, 0) (LAY, RFu r, mem)) (kf : ¬ (mem 108 2) ≤ x3 → P 19 [.ref 108, .int x1, .ref p1, .int x3, v4] [] (0, 0) (LAY, RFu r, mem)) : P 11 [.ref 108, .int x1, .ref p1, .int x3, v4] [] (0, 0) (LAY, RFu r, mem) := by
  refine r_iload_n hP d222_11 rfl ?_
  refine r_aload_n hP d222_12 rfl ?_
  refine r_geti hP d222_13 fr_12_127 rfl ly_108 ?_
  exact r_icmp (t := 35) hP d222_16 (by decide) kt kf
theorem b222_19 {d : Nat} {P : xPr} {Q : xQr} {r : Nat} {mem : Nat → Nat → Int32} (hP : Cl d none 222 P Q) {p1 : Nat} {np1 : Nat} {x1 : Int32} {x3 : Int32} {v4 : Value} (hp1 : LAY[p1]? = some (13, np1)) (hi26 : vp_in x3 8) (hi28 : vp_in x3 np1)
    (k : P 11 [.ref 108, .int x1, .ref p1, .int (x3 + nI 1), v4] [] (0, 0) (LAY, RFu r, xu2 mem p1 x3.toNatClampNeg (-(mem 119 x3.toNatClampNeg)))) : P 19 [.ref 108, .int x1, .ref p1, .int x3, v4] [] (0, 0) (LAY, RFu r, mem) := by
  refine r_aload_n hP d222_19 rfl ?_
  refine r_iload_n hP d222_20 rfl ?_
  refine r_aload_n hP d222_21 rfl ?_
  refine r_getr (a := 119) hP d222_22 fr_12_41 rfl ly_108 rg_108_12 ?_
  refine r_iload_n hP d222_25 rfl ?_
  refine r_iaload hP d222_26 ly_119 hi26 ?_
  refine r_ineg hP d222_27 ?_
  refine r_iastore hP d222_28 hp1 hi28 ?_
  refine r_iinc (v := nI 1) (L' := [.ref 108, .int x1, .ref p1, .int (x3 + nI 1), v4]) hP d222_29 rfl rfl rfl ?_
  refine r_goto (t := 11) hP d222_32 (by decide) ?_
  exact k
theorem b222_35 {d : Nat} {P : xPr} {Q : xQr} {r : Nat} {mem : Nat → Nat → Int32} (hP : Cl d none 222 P Q) {p1 : Nat} {np1 : Nat} {x1 : Int32} {v3 : Value} {v4 : Value} (hp1 : LAY[p1]? = some (13, np1))
    (k : P 37 [.ref 108, .int x1, .ref p1, .int (nI 0), v4] [] (0, 0) (LAY, RFu r, mem)) : P 35 [.ref 108, .int x1, .ref p1, v3, v4] [] (0, 0) (LAY, RFu r, mem) := by
  refine r_iconst (v := nI 0) hP d222_35 rfl ?_
  refine r_istore_n (L' := [.ref 108, .int x1, .ref p1, .int (nI 0), v4]) hP d222_36 (Nat.le_of_ble_eq_true rfl) rfl ?_
  exact k
theorem b222_37 {d : Nat} {P : xPr} {Q : xQr} {r : Nat} {mem : Nat → Nat → Int32} (hP : Cl d none 222 P Q) {p1 : Nat} {np1 : Nat} {x1 : Int32} {x3 : Int32} {v4 : Value} (hp1 : LAY[p1]? = some (13, np1))
    (kt : x1 ≤ x3 → P 53 [.ref 108, .int x1, .ref p1, .int x3, v4] [] (0, 0) (LAY, RFu r, mem)) (kf : ¬ x1 ≤ x3 → P 42 [.ref 108, .int x1, .ref p1, .int x3, v4] [] (0, 0) (LAY, RFu r, mem)) : P 37 [.ref 108, .int x1, .ref p1, .int x3, v4] [] (0, 0) (LAY, RFu r, mem) := by
  refine r_iload_n hP d222_37 rfl ?_
  refine r_iload_n hP d222_38 rfl ?_
  exact r_icmp (t := 53) hP d222_39 (by decide) kt kf
theorem b222_42 {d : Nat} {P : xPr} {Q : xQr} {r : Nat} {mem : Nat → Nat → Int32} (hP : Cl d none 222 P Q) {p1 : Nat} {np1 : Nat} {x1 : Int32} {x3 : Int32} {v4 : Value} (hp1 : LAY[p1]? = some (13, np1))
    (k : xCall d 190 [.ref 108] (LAY, RFu r, mem) (Bk P 43 [.ref 108, .int x1, .ref p1, .int x3, v4] [] (0, 0))) : P 42 [.ref 108, .int x1, .ref p1, .int x3, v4] [] (0, 0) (LAY, RFu r, mem) := by
  refine r_aload_n hP d222_42 rfl ?_
  exact r_callv (As := []) (S := []) hP d222_43 cr_12_252 (by decide +kernel) rfl (by simp) rfl ly_108 (by simp [Value.category]) ⟨Nat.zero_le _, Nat.zero_le _⟩ k
theorem b222_46 {d : Nat} {P : xPr} {Q : xQr} {r : Nat} {mem : Nat → Nat → Int32} (hP : Cl d none 222 P Q) {p1 : Nat} {np1 : Nat} {x1 : Int32} {x3 : Int32} {v4 : Value} {y0 : Int32} (hp1 : LAY[p1]? = some (13, np1))
    (k : P 37 [.ref 108, .int x1, .ref p1, .int (x3 + nI 1), v4] [] (0, 0) (LAY, RFu r, mem)) : P 46 [.ref 108, .int x1, .ref p1, .int x3, v4] [.int y0] (0, 0) (LAY, RFu r, mem) := by
  refine r_pop hP d222_46 rfl ?_
  refine r_iinc (v := nI 1) (L' := [.ref 108, .int x1, .ref p1, .int (x3 + nI 1), v4]) hP d222_47 rfl rfl rfl ?_
  refine r_goto (t := 37) hP d222_50 (by decide) ?_
  exact k
theorem b222_53 {d : Nat} {P : xPr} {Q : xQr} {r : Nat} {mem : Nat → Nat → Int32} (hP : Cl d none 222 P Q) {p1 : Nat} {np1 : Nat} {v1 : Value} {v3 : Value} {v4 : Value} (hp1 : LAY[p1]? = some (13, np1))
    (k : P 58 [.ref 108, v1, .ref p1, .int (nI 0), .int (nI 0)] [] (0, 0) (LAY, RFu r, mem)) : P 53 [.ref 108, v1, .ref p1, v3, v4] [] (0, 0) (LAY, RFu r, mem) := by
  refine r_iconst (v := nI 0) hP d222_53 rfl ?_
  refine r_istore_n (L' := [.ref 108, v1, .ref p1, .int (nI 0), v4]) hP d222_54 (Nat.le_of_ble_eq_true rfl) rfl ?_
  refine r_iconst (v := nI 0) hP d222_55 rfl ?_
  refine r_istore (L' := [.ref 108, v1, .ref p1, .int (nI 0), .int (nI 0)]) hP d222_56 (Nat.le_of_ble_eq_true rfl) rfl ?_
  exact k
theorem b222_58 {d : Nat} {P : xPr} {Q : xQr} {r : Nat} {mem : Nat → Nat → Int32} (hP : Cl d none 222 P Q) {p1 : Nat} {np1 : Nat} {v1 : Value} {x3 : Int32} {x4 : Int32} (hp1 : LAY[p1]? = some (13, np1))
    (kt : (mem 108 2) ≤ x4 → P 94 [.ref 108, v1, .ref p1, .int x3, .int x4] [] (0, 0) (LAY, RFu r, mem)) (kf : ¬ (mem 108 2) ≤ x4 → P 67 [.ref 108, v1, .ref p1, .int x3, .int x4] [] (0, 0) (LAY, RFu r, mem)) : P 58 [.ref 108, v1, .ref p1, .int x3, .int x4] [] (0, 0) (LAY, RFu r, mem) := by
  refine r_iload hP d222_58 rfl ?_
  refine r_aload_n hP d222_60 rfl ?_
  refine r_geti hP d222_61 fr_12_127 rfl ly_108 ?_
  exact r_icmp (t := 94) hP d222_64 (by decide) kt kf
theorem b222_67 {d : Nat} {P : xPr} {Q : xQr} {r : Nat} {mem : Nat → Nat → Int32} (hP : Cl d none 222 P Q) {p1 : Nat} {np1 : Nat} {v1 : Value} {x3 : Int32} {x4 : Int32} (hp1 : LAY[p1]? = some (13, np1)) (hi71 : vp_in x4 np1) (hi78 : vp_in x4 8) (hi80 : vp_in x4 np1) (hi85 : vp_in x4 np1)
    (k : P 58 [.ref 108, v1, .ref p1, .int (x3 + ((xu2 mem p1 x4.toNatClampNeg ((mem p1 x4.toNatClampNeg) + (mem 119 x4.toNatClampNeg))) p1 x4.toNatClampNeg)), .int (x4 + nI 1)] [] (0, 0) (LAY, RFu r, xu2 mem p1 x4.toNatClampNeg ((mem p1 x4.toNatClampNeg) + (mem 119 x4.toNatClampNeg)))) : P 67 [.ref 108, v1, .ref p1, .int x3, .int x4] [] (0, 0) (LAY, RFu r, mem) := by
  refine r_aload_n hP d222_67 rfl ?_
  refine r_iload hP d222_68 rfl ?_
  refine r_dup2 hP d222_70 rfl rfl ?_
  refine r_iaload hP d222_71 hp1 hi71 ?_
  refine r_aload_n hP d222_72 rfl ?_
  refine r_getr (a := 119) hP d222_73 fr_12_41 rfl ly_108 rg_108_12 ?_
  refine r_iload hP d222_76 rfl ?_
  refine r_iaload hP d222_78 ly_119 hi78 ?_
  refine r_iadd hP d222_79 ?_
  refine r_iastore hP d222_80 hp1 hi80 ?_
  refine r_iload_n hP d222_81 rfl ?_
  refine r_aload_n hP d222_82 rfl ?_
  refine r_iload hP d222_83 rfl ?_
  refine r_iaload hP d222_85 hp1 hi85 ?_
  refine r_iadd hP d222_86 ?_
  refine r_istore_n (L' := [.ref 108, v1, .ref p1, .int (x3 + ((xu2 mem p1 x4.toNatClampNeg ((mem p1 x4.toNatClampNeg) + (mem 119 x4.toNatClampNeg))) p1 x4.toNatClampNeg)), .int x4]) hP d222_87 (Nat.le_of_ble_eq_true rfl) rfl ?_
  refine r_iinc (v := nI 1) (L' := [.ref 108, v1, .ref p1, .int (x3 + ((xu2 mem p1 x4.toNatClampNeg ((mem p1 x4.toNatClampNeg) + (mem 119 x4.toNatClampNeg))) p1 x4.toNatClampNeg)), .int (x4 + nI 1)]) hP d222_88 rfl rfl rfl ?_
  refine r_goto (t := 58) hP d222_91 (by decide) ?_
  exact k
theorem b222_94 {d : Nat} {P : xPr} {Q : xQr} {r : Nat} {mem : Nat → Nat → Int32} (hP : Cl d none 222 P Q) {p1 : Nat} {np1 : Nat} {v1 : Value} {v2 : Value} {x3 : Int32} {v4 : Value} (hp1 : LAY[p1]? = some (13, np1))
    (k : xCall d 192 [.ref 108, .ref 133, .int (nI 0)] (LAY, RFu r, mem) (Bk P 100 [.ref 108, v1, v2, .int x3, v4] [] (0, 0))) : P 94 [.ref 108, v1, v2, .int x3, v4] [] (0, 0) (LAY, RFu r, mem) := by
  refine r_aload_n hP d222_94 rfl ?_
  refine r_aload_n hP d222_95 rfl ?_
  refine r_getr (a := 133) hP d222_96 fr_12_87 rfl ly_108 rg_108_38 ?_
  refine r_iconst (v := nI 0) hP d222_99 rfl ?_
  exact r_callv (As := [.ref 133, .int (nI 0)]) (S := []) hP d222_100 cr_12_261 (by decide +kernel) rfl (by simp [Value.category]) rfl ly_108 (by simp [Value.category]) ⟨Nat.zero_le _, Nat.zero_le _⟩ k
theorem b222_103 {d : Nat} {P : xPr} {Q : xQr} {r : Nat} {mem : Nat → Nat → Int32} (hP : Cl d none 222 P Q) {p1 : Nat} {np1 : Nat} {v0 : Value} {v1 : Value} {v2 : Value} {x3 : Int32} {v4 : Value} (hp1 : LAY[p1]? = some (13, np1))
    (k : Q (some (.int x3)) (LAY, RFu r, mem)) : P 103 [v0, v1, v2, .int x3, v4] [] (0, 0) (LAY, RFu r, mem) := by
  refine r_iload_n hP d222_103 rfl ?_
  exact r_iret hP d222_104 rfl k
theorem d223_0 : decode (xB 223) 0 = .ok (.aload_n 0, 1) := by decide +kernel
theorem d223_1 : decode (xB 223) 1 = .ok (.iconst 0, 1) := by decide +kernel
theorem d223_2 : decode (xB 223) 2 = .ok (.putfield 121, 3) := by decide +kernel
theorem d223_5 : decode (xB 223) 5 = .ok (.iload_n 1, 1) := by decide +kernel
theorem d223_6 : decode (xB 223) 6 = .ok (.iconst 0, 1) := by decide +kernel
theorem d223_7 : decode (xB 223) 7 = .ok (.bipush 100, 2) := by decide +kernel
theorem d223_9 : decode (xB 223) 9 = .ok (.invokestatic 130, 3) := by decide +kernel
theorem d223_12 : decode (xB 223) 12 = .ok (.ifCond .ne 5, 3) := by decide +kernel
theorem d223_15 : decode (xB 223) 15 = .ok (.iconst (-1), 1) := by decide +kernel
theorem d223_16 : decode (xB 223) 16 = .ok (.ireturn, 1) := by decide +kernel
theorem d223_17 : decode (xB 223) 17 = .ok (.aload_n 0, 1) := by decide +kernel
theorem d223_18 : decode (xB 223) 18 = .ok (.getfield 138, 3) := by decide +kernel
theorem d223_21 : decode (xB 223) 21 = .ok (.ifCond .ne 6, 3) := by decide +kernel
theorem d223_24 : decode (xB 223) 24 = .ok (.bipush (-2), 2) := by decide +kernel
theorem d223_26 : decode (xB 223) 26 = .ok (.ireturn, 1) := by decide +kernel
theorem d223_27 : decode (xB 223) 27 = .ok (.aload_n 0, 1) := by decide +kernel
theorem d223_28 : decode (xB 223) 28 = .ok (.iload_n 1, 1) := by decide +kernel
theorem d223_29 : decode (xB 223) 29 = .ok (.aload_n 0, 1) := by decide +kernel
theorem d223_30 : decode (xB 223) 30 = .ok (.getfield 96, 3) := by decide +kernel
theorem d223_33 : decode (xB 223) 33 = .ok (.invokevirtual 304, 3) := by decide +kernel
theorem d223_36 : decode (xB 223) 36 = .ok (.istore_n 2, 1) := by decide +kernel
theorem d223_37 : decode (xB 223) 37 = .ok (.iconst (-1), 1) := by decide +kernel
theorem d223_38 : decode (xB 223) 38 = .ok (.istore_n 3, 1) := by decide +kernel
theorem d223_39 : decode (xB 223) 39 = .ok (.iconst 0, 1) := by decide +kernel
theorem d223_40 : decode (xB 223) 40 = .ok (.istore 4, 2) := by decide +kernel
theorem d223_42 : decode (xB 223) 42 = .ok (.iconst (-1), 1) := by decide +kernel
theorem d223_43 : decode (xB 223) 43 = .ok (.istore 5, 2) := by decide +kernel
theorem d223_45 : decode (xB 223) 45 = .ok (.iconst 0, 1) := by decide +kernel
theorem d223_46 : decode (xB 223) 46 = .ok (.istore 6, 2) := by decide +kernel
theorem d223_48 : decode (xB 223) 48 = .ok (.iload 6, 2) := by decide +kernel
theorem d223_50 : decode (xB 223) 50 = .ok (.aload_n 0, 1) := by decide +kernel
theorem d223_51 : decode (xB 223) 51 = .ok (.getfield 138, 3) := by decide +kernel
theorem d223_54 : decode (xB 223) 54 = .ok (.if_icmp .ge 144, 3) := by decide +kernel
theorem d223_57 : decode (xB 223) 57 = .ok (.aload_n 0, 1) := by decide +kernel
theorem d223_58 : decode (xB 223) 58 = .ok (.getfield 9, 3) := by decide +kernel
theorem d223_61 : decode (xB 223) 61 = .ok (.iload 6, 2) := by decide +kernel
theorem d223_63 : decode (xB 223) 63 = .ok (.iaload, 1) := by decide +kernel
theorem d223_64 : decode (xB 223) 64 = .ok (.istore 7, 2) := by decide +kernel
theorem d223_66 : decode (xB 223) 66 = .ok (.aload_n 0, 1) := by decide +kernel
theorem d223_67 : decode (xB 223) 67 = .ok (.getfield 9, 3) := by decide +kernel
theorem d223_70 : decode (xB 223) 70 = .ok (.iload 6, 2) := by decide +kernel
theorem d223_72 : decode (xB 223) 72 = .ok (.bipush 8, 2) := by decide +kernel
theorem d223_74 : decode (xB 223) 74 = .ok (.iload 7, 2) := by decide +kernel
theorem d223_76 : decode (xB 223) 76 = .ok (.iconst 1, 1) := by decide +kernel
theorem d223_77 : decode (xB 223) 77 = .ok (.iadd, 1) := by decide +kernel
theorem d223_78 : decode (xB 223) 78 = .ok (.invokestatic 217, 3) := by decide +kernel
theorem d223_81 : decode (xB 223) 81 = .ok (.iastore, 1) := by decide +kernel
theorem d223_82 : decode (xB 223) 82 = .ok (.aload_n 0, 1) := by decide +kernel
theorem d223_83 : decode (xB 223) 83 = .ok (.iload_n 1, 1) := by decide +kernel
theorem d223_84 : decode (xB 223) 84 = .ok (.aload_n 0, 1) := by decide +kernel
theorem d223_85 : decode (xB 223) 85 = .ok (.getfield 99, 3) := by decide +kernel
theorem d223_88 : decode (xB 223) 88 = .ok (.invokevirtual 304, 3) := by decide +kernel
theorem d223_91 : decode (xB 223) 91 = .ok (.istore 8, 2) := by decide +kernel
theorem d223_93 : decode (xB 223) 93 = .ok (.aload_n 0, 1) := by decide +kernel
theorem d223_94 : decode (xB 223) 94 = .ok (.getfield 9, 3) := by decide +kernel
theorem d223_97 : decode (xB 223) 97 = .ok (.iload 6, 2) := by decide +kernel
theorem d223_99 : decode (xB 223) 99 = .ok (.iload 7, 2) := by decide +kernel
theorem d223_101 : decode (xB 223) 101 = .ok (.iastore, 1) := by decide +kernel
theorem d223_102 : decode (xB 223) 102 = .ok (.iload_n 3, 1) := by decide +kernel
theorem d223_103 : decode (xB 223) 103 = .ok (.iconst (-1), 1) := by decide +kernel
theorem d223_104 : decode (xB 223) 104 = .ok (.if_icmp .eq 13, 3) := by decide +kernel
theorem d223_107 : decode (xB 223) 107 = .ok (.iload 8, 2) := by decide +kernel
theorem d223_109 : decode (xB 223) 109 = .ok (.iload 4, 2) := by decide +kernel
theorem d223_111 : decode (xB 223) 111 = .ok (.if_icmp .lt 6, 3) := by decide +kernel
theorem d223_114 : decode (xB 223) 114 = .ok (.goto 78, 3) := by decide +kernel
theorem d223_117 : decode (xB 223) 117 = .ok (.iload 6, 2) := by decide +kernel
theorem d223_119 : decode (xB 223) 119 = .ok (.istore_n 3, 1) := by decide +kernel
theorem d223_120 : decode (xB 223) 120 = .ok (.iload 8, 2) := by decide +kernel
theorem d223_122 : decode (xB 223) 122 = .ok (.istore 4, 2) := by decide +kernel
theorem d223_124 : decode (xB 223) 124 = .ok (.iconst (-1), 1) := by decide +kernel
theorem d223_125 : decode (xB 223) 125 = .ok (.istore 5, 2) := by decide +kernel
theorem d223_127 : decode (xB 223) 127 = .ok (.iconst 0, 1) := by decide +kernel
theorem d223_128 : decode (xB 223) 128 = .ok (.istore 9, 2) := by decide +kernel
theorem d223_130 : decode (xB 223) 130 = .ok (.iconst 0, 1) := by decide +kernel
theorem d223_131 : decode (xB 223) 131 = .ok (.istore 10, 2) := by decide +kernel
theorem d223_133 : decode (xB 223) 133 = .ok (.iload 10, 2) := by decide +kernel
theorem d223_135 : decode (xB 223) 135 = .ok (.aload_n 0, 1) := by decide +kernel
theorem d223_136 : decode (xB 223) 136 = .ok (.getfield 127, 3) := by decide +kernel
theorem d223_139 : decode (xB 223) 139 = .ok (.if_icmp .ge 53, 3) := by decide +kernel
theorem d223_142 : decode (xB 223) 142 = .ok (.aload_n 0, 1) := by decide +kernel
theorem d223_143 : decode (xB 223) 143 = .ok (.getfield 96, 3) := by decide +kernel
theorem d223_146 : decode (xB 223) 146 = .ok (.iload 10, 2) := by decide +kernel
theorem d223_148 : decode (xB 223) 148 = .ok (.iaload, 1) := by decide +kernel
theorem d223_149 : decode (xB 223) 149 = .ok (.aload_n 0, 1) := by decide +kernel
theorem d223_150 : decode (xB 223) 150 = .ok (.getfield 99, 3) := by decide +kernel
theorem d223_153 : decode (xB 223) 153 = .ok (.iload 10, 2) := by decide +kernel
theorem d223_155 : decode (xB 223) 155 = .ok (.iaload, 1) := by decide +kernel
theorem d223_156 : decode (xB 223) 156 = .ok (.isub, 1) := by decide +kernel
theorem d223_157 : decode (xB 223) 157 = .ok (.iload 9, 2) := by decide +kernel
theorem d223_159 : decode (xB 223) 159 = .ok (.if_icmp .gt 6, 3) := by decide +kernel
theorem d223_162 : decode (xB 223) 162 = .ok (.goto 24, 3) := by decide +kernel
theorem d223_165 : decode (xB 223) 165 = .ok (.aload_n 0, 1) := by decide +kernel
theorem d223_166 : decode (xB 223) 166 = .ok (.getfield 96, 3) := by decide +kernel
theorem d223_169 : decode (xB 223) 169 = .ok (.iload 10, 2) := by decide +kernel
theorem d223_171 : decode (xB 223) 171 = .ok (.iaload, 1) := by decide +kernel
theorem d223_172 : decode (xB 223) 172 = .ok (.aload_n 0, 1) := by decide +kernel
theorem d223_173 : decode (xB 223) 173 = .ok (.getfield 99, 3) := by decide +kernel
theorem d223_176 : decode (xB 223) 176 = .ok (.iload 10, 2) := by decide +kernel
theorem d223_178 : decode (xB 223) 178 = .ok (.iaload, 1) := by decide +kernel
theorem d223_179 : decode (xB 223) 179 = .ok (.isub, 1) := by decide +kernel
theorem d223_180 : decode (xB 223) 180 = .ok (.istore 9, 2) := by decide +kernel
theorem d223_182 : decode (xB 223) 182 = .ok (.iload 10, 2) := by decide +kernel
theorem d223_184 : decode (xB 223) 184 = .ok (.istore 5, 2) := by decide +kernel
theorem d223_186 : decode (xB 223) 186 = .ok (.iinc 10 1, 3) := by decide +kernel
theorem d223_189 : decode (xB 223) 189 = .ok (.goto (-56), 3) := by decide +kernel
theorem d223_192 : decode (xB 223) 192 = .ok (.iinc 6 1, 3) := by decide +kernel
theorem d223_195 : decode (xB 223) 195 = .ok (.goto (-147), 3) := by decide +kernel
theorem d223_198 : decode (xB 223) 198 = .ok (.aload_n 0, 1) := by decide +kernel
theorem d223_199 : decode (xB 223) 199 = .ok (.iconst 0, 1) := by decide +kernel
theorem d223_200 : decode (xB 223) 200 = .ok (.putfield 124, 3) := by decide +kernel
theorem d223_203 : decode (xB 223) 203 = .ok (.aload_n 0, 1) := by decide +kernel
theorem d223_204 : decode (xB 223) 204 = .ok (.iload_n 2, 1) := by decide +kernel
theorem d223_205 : decode (xB 223) 205 = .ok (.iload 4, 2) := by decide +kernel
theorem d223_207 : decode (xB 223) 207 = .ok (.isub, 1) := by decide +kernel
theorem d223_208 : decode (xB 223) 208 = .ok (.invokevirtual 258, 3) := by decide +kernel
theorem d223_211 : decode (xB 223) 211 = .ok (.aload_n 0, 1) := by decide +kernel
theorem d223_212 : decode (xB 223) 212 = .ok (.iload 5, 2) := by decide +kernel
theorem d223_214 : decode (xB 223) 214 = .ok (.invokevirtual 258, 3) := by decide +kernel
theorem d223_217 : decode (xB 223) 217 = .ok (.iload_n 3, 1) := by decide +kernel
theorem d223_218 : decode (xB 223) 218 = .ok (.ireturn, 1) := by decide +kernel
theorem b223_0 {d : Nat} {P : xPr} {Q : xQr} {r : Nat} {mem : Nat → Nat → Int32} (hP : Cl d none 223 P Q) {p0 : Int32}
    (k : xCall d 158 [.int p0, .int (nI 0), .int (nI 100)] (LAY, RFu r, xu2 mem 108 20 (nI 0)) (Bk P 9 [.ref 108, .int p0, .null, .null, .null, .null, .null, .null, .null, .null, .null] [] (0, 0))) : P 0 [.ref 108, .int p0, .null, .null, .null, .null, .null, .null, .null, .null, .null] [] (0, 0) (LAY, RFu r, mem) := by
  refine r_aload_n hP d223_0 rfl ?_
  refine r_iconst (v := nI 0) hP d223_1 rfl ?_
  refine r_puti hP d223_2 fr_12_121 rfl (fun q => by cases q) ly_108 ?_
  refine r_iload_n hP d223_5 rfl ?_
  refine r_iconst (v := nI 0) hP d223_6 rfl ?_
  refine r_bipush (v := nI 100) hP d223_7 rfl ?_
  exact r_calls (As := [.int p0, .int (nI 0), .int (nI 100)]) (S := []) hP d223_9 cr_12_130 (by decide +kernel) rfl (by simp [Value.category]) rfl (by simp [Value.category]) ⟨Nat.zero_le _, Nat.zero_le _⟩ k
theorem b223_12 {d : Nat} {P : xPr} {Q : xQr} {r : Nat} {mem : Nat → Nat → Int32} (hP : Cl d none 223 P Q) {x1 : Int32} {v2 : Value} {v3 : Value} {v4 : Value} {v5 : Value} {v6 : Value} {v7 : Value} {v8 : Value} {v9 : Value} {v10 : Value} {y0 : Int32}
    (kt : ¬ y0 = 0 → P 17 [.ref 108, .int x1, v2, v3, v4, v5, v6, v7, v8, v9, v10] [] (0, 0) (LAY, RFu r, mem)) (kf : y0 = 0 → P 15 [.ref 108, .int x1, v2, v3, v4, v5, v6, v7, v8, v9, v10] [] (0, 0) (LAY, RFu r, mem)) : P 12 [.ref 108, .int x1, v2, v3, v4, v5, v6, v7, v8, v9, v10] [.int y0] (0, 0) (LAY, RFu r, mem) := by
  exact r_if (t := 17) hP d223_12 (by decide) kt (fun q => kf (Decidable.of_not_not q))
theorem b223_15 {d : Nat} {P : xPr} {Q : xQr} {r : Nat} {mem : Nat → Nat → Int32} (hP : Cl d none 223 P Q) {v0 : Value} {v1 : Value} {v2 : Value} {v3 : Value} {v4 : Value} {v5 : Value} {v6 : Value} {v7 : Value} {v8 : Value} {v9 : Value} {v10 : Value}
    (k : Q (some (.int (-1))) (LAY, RFu r, mem)) : P 15 [v0, v1, v2, v3, v4, v5, v6, v7, v8, v9, v10] [] (0, 0) (LAY, RFu r, mem) := by
  refine r_iconst (v := (-1)) hP d223_15 rfl ?_
  exact r_iret hP d223_16 rfl k
theorem b223_17 {d : Nat} {P : xPr} {Q : xQr} {r : Nat} {mem : Nat → Nat → Int32} (hP : Cl d none 223 P Q) {x1 : Int32} {v2 : Value} {v3 : Value} {v4 : Value} {v5 : Value} {v6 : Value} {v7 : Value} {v8 : Value} {v9 : Value} {v10 : Value}
    (kt : ¬ (mem 108 0) = 0 → P 27 [.ref 108, .int x1, v2, v3, v4, v5, v6, v7, v8, v9, v10] [] (0, 0) (LAY, RFu r, mem)) (kf : (mem 108 0) = 0 → P 24 [.ref 108, .int x1, v2, v3, v4, v5, v6, v7, v8, v9, v10] [] (0, 0) (LAY, RFu r, mem)) : P 17 [.ref 108, .int x1, v2, v3, v4, v5, v6, v7, v8, v9, v10] [] (0, 0) (LAY, RFu r, mem) := by
  refine r_aload_n hP d223_17 rfl ?_
  refine r_geti hP d223_18 fr_12_138 rfl ly_108 ?_
  exact r_if (t := 27) hP d223_21 (by decide) kt (fun q => kf (Decidable.of_not_not q))
theorem b223_24 {d : Nat} {P : xPr} {Q : xQr} {r : Nat} {mem : Nat → Nat → Int32} (hP : Cl d none 223 P Q) {v0 : Value} {v1 : Value} {v2 : Value} {v3 : Value} {v4 : Value} {v5 : Value} {v6 : Value} {v7 : Value} {v8 : Value} {v9 : Value} {v10 : Value}
    (k : Q (some (.int (-2))) (LAY, RFu r, mem)) : P 24 [v0, v1, v2, v3, v4, v5, v6, v7, v8, v9, v10] [] (0, 0) (LAY, RFu r, mem) := by
  refine r_bipush (v := (-2)) hP d223_24 rfl ?_
  exact r_iret hP d223_26 rfl k
theorem b223_27 {d : Nat} {P : xPr} {Q : xQr} {r : Nat} {mem : Nat → Nat → Int32} (hP : Cl d none 223 P Q) {x1 : Int32} {v2 : Value} {v3 : Value} {v4 : Value} {v5 : Value} {v6 : Value} {v7 : Value} {v8 : Value} {v9 : Value} {v10 : Value}
    (k : xCall d 222 [.ref 108, .int x1, .ref 136] (LAY, RFu r, mem) (Bk P 33 [.ref 108, .int x1, v2, v3, v4, v5, v6, v7, v8, v9, v10] [] (0, 0))) : P 27 [.ref 108, .int x1, v2, v3, v4, v5, v6, v7, v8, v9, v10] [] (0, 0) (LAY, RFu r, mem) := by
  refine r_aload_n hP d223_27 rfl ?_
  refine r_iload_n hP d223_28 rfl ?_
  refine r_aload_n hP d223_29 rfl ?_
  refine r_getr (a := 136) hP d223_30 fr_12_96 rfl ly_108 rg_108_41 ?_
  exact r_callv (As := [.int x1, .ref 136]) (S := []) hP d223_33 cr_12_304 (by decide +kernel) rfl (by simp [Value.category]) rfl ly_108 (by simp [Value.category]) ⟨Nat.zero_le _, Nat.zero_le _⟩ k
theorem b223_36 {d : Nat} {P : xPr} {Q : xQr} {r : Nat} {mem : Nat → Nat → Int32} (hP : Cl d none 223 P Q) {x1 : Int32} {v2 : Value} {v3 : Value} {v4 : Value} {v5 : Value} {v6 : Value} {v7 : Value} {v8 : Value} {v9 : Value} {v10 : Value} {y0 : Int32}
    (k : P 48 [.ref 108, .int x1, .int y0, .int (-1), .int (nI 0), .int (-1), .int (nI 0), v7, v8, v9, v10] [] (0, 0) (LAY, RFu r, mem)) : P 36 [.ref 108, .int x1, v2, v3, v4, v5, v6, v7, v8, v9, v10] [.int y0] (0, 0) (LAY, RFu r, mem) := by
  refine r_istore_n (L' := [.ref 108, .int x1, .int y0, v3, v4, v5, v6, v7, v8, v9, v10]) hP d223_36 (Nat.le_of_ble_eq_true rfl) rfl ?_
  refine r_iconst (v := (-1)) hP d223_37 rfl ?_
  refine r_istore_n (L' := [.ref 108, .int x1, .int y0, .int (-1), v4, v5, v6, v7, v8, v9, v10]) hP d223_38 (Nat.le_of_ble_eq_true rfl) rfl ?_
  refine r_iconst (v := nI 0) hP d223_39 rfl ?_
  refine r_istore (L' := [.ref 108, .int x1, .int y0, .int (-1), .int (nI 0), v5, v6, v7, v8, v9, v10]) hP d223_40 (Nat.le_of_ble_eq_true rfl) rfl ?_
  refine r_iconst (v := (-1)) hP d223_42 rfl ?_
  refine r_istore (L' := [.ref 108, .int x1, .int y0, .int (-1), .int (nI 0), .int (-1), v6, v7, v8, v9, v10]) hP d223_43 (Nat.le_of_ble_eq_true rfl) rfl ?_
  refine r_iconst (v := nI 0) hP d223_45 rfl ?_
  refine r_istore (L' := [.ref 108, .int x1, .int y0, .int (-1), .int (nI 0), .int (-1), .int (nI 0), v7, v8, v9, v10]) hP d223_46 (Nat.le_of_ble_eq_true rfl) rfl ?_
  exact k
theorem b223_48 {d : Nat} {P : xPr} {Q : xQr} {r : Nat} {mem : Nat → Nat → Int32} (hP : Cl d none 223 P Q) {x1 : Int32} {x2 : Int32} {x3 : Int32} {x4 : Int32} {x5 : Int32} {x6 : Int32} {v7 : Value} {v8 : Value} {v9 : Value} {v10 : Value}
    (kt : (mem 108 0) ≤ x6 → P 198 [.ref 108, .int x1, .int x2, .int x3, .int x4, .int x5, .int x6, v7, v8, v9, v10] [] (0, 0) (LAY, RFu r, mem)) (kf : ¬ (mem 108 0) ≤ x6 → P 57 [.ref 108, .int x1, .int x2, .int x3, .int x4, .int x5, .int x6, v7, v8, v9, v10] [] (0, 0) (LAY, RFu r, mem)) : P 48 [.ref 108, .int x1, .int x2, .int x3, .int x4, .int x5, .int x6, v7, v8, v9, v10] [] (0, 0) (LAY, RFu r, mem) := by
  refine r_iload hP d223_48 rfl ?_
  refine r_aload_n hP d223_50 rfl ?_
  refine r_geti hP d223_51 fr_12_138 rfl ly_108 ?_
  exact r_icmp (t := 198) hP d223_54 (by decide) kt kf
theorem b223_57 {d : Nat} {P : xPr} {Q : xQr} {r : Nat} {mem : Nat → Nat → Int32} (hP : Cl d none 223 P Q) {x1 : Int32} {x2 : Int32} {x3 : Int32} {x4 : Int32} {x5 : Int32} {x6 : Int32} {v7 : Value} {v8 : Value} {v9 : Value} {v10 : Value} (hi63 : vp_in x6 4) (hi81 : vp_in x6 4)
    (k : xCall d 222 [.ref 108, .int x1, .ref 137] (LAY, RFu r, xu2 mem 109 x6.toNatClampNeg (if (mem 109 x6.toNatClampNeg) + (nI 1) < nI 8 then (mem 109 x6.toNatClampNeg) + (nI 1) else nI 8)) (Bk P 88 [.ref 108, .int x1, .int x2, .int x3, .int x4, .int x5, .int x6, .int (mem 109 x6.toNatClampNeg), v8, v9, v10] [] (0, 0))) : P 57 [.ref 108, .int x1, .int x2, .int x3, .int x4, .int x5, .int x6, v7, v8, v9, v10] [] (0, 0) (LAY, RFu r, mem) := by
  refine r_aload_n hP d223_57 rfl ?_
  refine r_getr (a := 109) hP d223_58 fr_12_9 rfl ly_108 rg_108_1 ?_
  refine r_iload hP d223_61 rfl ?_
  refine r_iaload hP d223_63 ly_109 hi63 ?_
  refine r_istore (L' := [.ref 108, .int x1, .int x2, .int x3, .int x4, .int x5, .int x6, .int (mem 109 x6.toNatClampNeg), v8, v9, v10]) hP d223_64 (Nat.le_of_ble_eq_true rfl) rfl ?_
  refine r_aload_n hP d223_66 rfl ?_
  refine r_getr (a := 109) hP d223_67 fr_12_9 rfl ly_108 rg_108_1 ?_
  refine r_iload hP d223_70 rfl ?_
  refine r_bipush (v := nI 8) hP d223_72 rfl ?_
  refine r_iload hP d223_74 rfl ?_
  refine r_iconst (v := nI 1) hP d223_76 rfl ?_
  refine r_iadd hP d223_77 ?_
  refine r_min hP d223_78 cr_12_217 (by simp [Value.category]) ?_
  refine r_iastore hP d223_81 ly_109 hi81 ?_
  refine r_aload_n hP d223_82 rfl ?_
  refine r_iload_n hP d223_83 rfl ?_
  refine r_aload_n hP d223_84 rfl ?_
  refine r_getr (a := 137) hP d223_85 fr_12_99 rfl ly_108 rg_108_42 ?_
  exact r_callv (As := [.int x1, .ref 137]) (S := []) hP d223_88 cr_12_304 (by decide +kernel) rfl (by simp [Value.category]) rfl ly_108 (by simp [Value.category]) ⟨Nat.zero_le _, Nat.zero_le _⟩ k
theorem b223_91 {d : Nat} {P : xPr} {Q : xQr} {r : Nat} {mem : Nat → Nat → Int32} (hP : Cl d none 223 P Q) {x1 : Int32} {x2 : Int32} {x3 : Int32} {x4 : Int32} {x5 : Int32} {x6 : Int32} {x7 : Int32} {v8 : Value} {v9 : Value} {v10 : Value} {y0 : Int32} (hi101 : vp_in x6 4)
    (kt : x3 = (-1) → P 117 [.ref 108, .int x1, .int x2, .int x3, .int x4, .int x5, .int x6, .int x7, .int y0, v9, v10] [] (0, 0) (LAY, RFu r, xu2 mem 109 x6.toNatClampNeg x7)) (kf : ¬ x3 = (-1) → P 107 [.ref 108, .int x1, .int x2, .int x3, .int x4, .int x5, .int x6, .int x7, .int y0, v9, v10] [] (0, 0) (LAY, RFu r, xu2 mem 109 x6.toNatClampNeg x7)) : P 91 [.ref 108, .int x1, .int x2, .int x3, .int x4, .int x5, .int x6, .int x7, v8, v9, v10] [.int y0] (0, 0) (LAY, RFu r, mem) := by
  refine r_istore (L' := [.ref 108, .int x1, .int x2, .int x3, .int x4, .int x5, .int x6, .int x7, .int y0, v9, v10]) hP d223_91 (Nat.le_of_ble_eq_true rfl) rfl ?_
  refine r_aload_n hP d223_93 rfl ?_
  refine r_getr (a := 109) hP d223_94 fr_12_9 rfl ly_108 rg_108_1 ?_
  refine r_iload hP d223_97 rfl ?_
  refine r_iload hP d223_99 rfl ?_
  refine r_iastore hP d223_101 ly_109 hi101 ?_
  refine r_iload_n hP d223_102 rfl ?_
  refine r_iconst (v := (-1)) hP d223_103 rfl ?_
  exact r_icmp (t := 117) hP d223_104 (by decide) kt kf
theorem b223_107 {d : Nat} {P : xPr} {Q : xQr} {r : Nat} {mem : Nat → Nat → Int32} (hP : Cl d none 223 P Q) {x1 : Int32} {x2 : Int32} {x3 : Int32} {x4 : Int32} {x5 : Int32} {x6 : Int32} {v7 : Value} {x8 : Int32} {v9 : Value} {v10 : Value}
    (kt : x8 < x4 → P 117 [.ref 108, .int x1, .int x2, .int x3, .int x4, .int x5, .int x6, v7, .int x8, v9, v10] [] (0, 0) (LAY, RFu r, mem)) (kf : ¬ x8 < x4 → P 114 [.ref 108, .int x1, .int x2, .int x3, .int x4, .int x5, .int x6, v7, .int x8, v9, v10] [] (0, 0) (LAY, RFu r, mem)) : P 107 [.ref 108, .int x1, .int x2, .int x3, .int x4, .int x5, .int x6, v7, .int x8, v9, v10] [] (0, 0) (LAY, RFu r, mem) := by
  refine r_iload hP d223_107 rfl ?_
  refine r_iload hP d223_109 rfl ?_
  exact r_icmp (t := 117) hP d223_111 (by decide) kt kf
theorem b223_114 {d : Nat} {P : xPr} {Q : xQr} {r : Nat} {mem : Nat → Nat → Int32} (hP : Cl d none 223 P Q) {x1 : Int32} {x2 : Int32} {x3 : Int32} {x4 : Int32} {x5 : Int32} {x6 : Int32} {v7 : Value} {v8 : Value} {v9 : Value} {v10 : Value}
    (k : P 192 [.ref 108, .int x1, .int x2, .int x3, .int x4, .int x5, .int x6, v7, v8, v9, v10] [] (0, 0) (LAY, RFu r, mem)) : P 114 [.ref 108, .int x1, .int x2, .int x3, .int x4, .int x5, .int x6, v7, v8, v9, v10] [] (0, 0) (LAY, RFu r, mem) := by
  refine r_goto (t := 192) hP d223_114 (by decide) ?_
  exact k
theorem b223_117 {d : Nat} {P : xPr} {Q : xQr} {r : Nat} {mem : Nat → Nat → Int32} (hP : Cl d none 223 P Q) {x1 : Int32} {x2 : Int32} {v3 : Value} {v4 : Value} {v5 : Value} {x6 : Int32} {v7 : Value} {x8 : Int32} {v9 : Value} {v10 : Value}
    (k : P 133 [.ref 108, .int x1, .int x2, .int x6, .int x8, .int (-1), .int x6, v7, .int x8, .int (nI 0), .int (nI 0)] [] (0, 0) (LAY, RFu r, mem)) : P 117 [.ref 108, .int x1, .int x2, v3, v4, v5, .int x6, v7, .int x8, v9, v10] [] (0, 0) (LAY, RFu r, mem) := by
  refine r_iload hP d223_117 rfl ?_
  refine r_istore_n (L' := [.ref 108, .int x1, .int x2, .int x6, v4, v5, .int x6, v7, .int x8, v9, v10]) hP d223_119 (Nat.le_of_ble_eq_true rfl) rfl ?_
  refine r_iload hP d223_120 rfl ?_
  refine r_istore (L' := [.ref 108, .int x1, .int x2, .int x6, .int x8, v5, .int x6, v7, .int x8, v9, v10]) hP d223_122 (Nat.le_of_ble_eq_true rfl) rfl ?_
  refine r_iconst (v := (-1)) hP d223_124 rfl ?_
  refine r_istore (L' := [.ref 108, .int x1, .int x2, .int x6, .int x8, .int (-1), .int x6, v7, .int x8, v9, v10]) hP d223_125 (Nat.le_of_ble_eq_true rfl) rfl ?_
  refine r_iconst (v := nI 0) hP d223_127 rfl ?_
  refine r_istore (L' := [.ref 108, .int x1, .int x2, .int x6, .int x8, .int (-1), .int x6, v7, .int x8, .int (nI 0), v10]) hP d223_128 (Nat.le_of_ble_eq_true rfl) rfl ?_
  refine r_iconst (v := nI 0) hP d223_130 rfl ?_
  refine r_istore (L' := [.ref 108, .int x1, .int x2, .int x6, .int x8, .int (-1), .int x6, v7, .int x8, .int (nI 0), .int (nI 0)]) hP d223_131 (Nat.le_of_ble_eq_true rfl) rfl ?_
  exact k
theorem b223_133 {d : Nat} {P : xPr} {Q : xQr} {r : Nat} {mem : Nat → Nat → Int32} (hP : Cl d none 223 P Q) {x1 : Int32} {x2 : Int32} {x3 : Int32} {x4 : Int32} {x5 : Int32} {x6 : Int32} {v7 : Value} {v8 : Value} {x9 : Int32} {x10 : Int32}
    (kt : (mem 108 2) ≤ x10 → P 192 [.ref 108, .int x1, .int x2, .int x3, .int x4, .int x5, .int x6, v7, v8, .int x9, .int x10] [] (0, 0) (LAY, RFu r, mem)) (kf : ¬ (mem 108 2) ≤ x10 → P 142 [.ref 108, .int x1, .int x2, .int x3, .int x4, .int x5, .int x6, v7, v8, .int x9, .int x10] [] (0, 0) (LAY, RFu r, mem)) : P 133 [.ref 108, .int x1, .int x2, .int x3, .int x4, .int x5, .int x6, v7, v8, .int x9, .int x10] [] (0, 0) (LAY, RFu r, mem) := by
  refine r_iload hP d223_133 rfl ?_
  refine r_aload_n hP d223_135 rfl ?_
  refine r_geti hP d223_136 fr_12_127 rfl ly_108 ?_
  exact r_icmp (t := 192) hP d223_139 (by decide) kt kf
theorem b223_142 {d : Nat} {P : xPr} {Q : xQr} {r : Nat} {mem : Nat → Nat → Int32} (hP : Cl d none 223 P Q) {x1 : Int32} {x2 : Int32} {x3 : Int32} {x4 : Int32} {x5 : Int32} {x6 : Int32} {v7 : Value} {v8 : Value} {x9 : Int32} {x10 : Int32} (hi148 : vp_in x10 8) (hi155 : vp_in x10 8)
    (kt : x9 < ((mem 136 x10.toNatClampNeg) - (mem 137 x10.toNatClampNeg)) → P 165 [.ref 108, .int x1, .int x2, .int x3, .int x4, .int x5, .int x6, v7, v8, .int x9, .int x10] [] (0, 0) (LAY, RFu r, mem)) (kf : ¬ x9 < ((mem 136 x10.toNatClampNeg) - (mem 137 x10.toNatClampNeg)) → P 162 [.ref 108, .int x1, .int x2, .int x3, .int x4, .int x5, .int x6, v7, v8, .int x9, .int x10] [] (0, 0) (LAY, RFu r, mem)) : P 142 [.ref 108, .int x1, .int x2, .int x3, .int x4, .int x5, .int x6, v7, v8, .int x9, .int x10] [] (0, 0) (LAY, RFu r, mem) := by
  refine r_aload_n hP d223_142 rfl ?_
  refine r_getr (a := 136) hP d223_143 fr_12_96 rfl ly_108 rg_108_41 ?_
  refine r_iload hP d223_146 rfl ?_
  refine r_iaload hP d223_148 ly_136 hi148 ?_
  refine r_aload_n hP d223_149 rfl ?_
  refine r_getr (a := 137) hP d223_150 fr_12_99 rfl ly_108 rg_108_42 ?_
  refine r_iload hP d223_153 rfl ?_
  refine r_iaload hP d223_155 ly_137 hi155 ?_
  refine r_isub hP d223_156 ?_
  refine r_iload hP d223_157 rfl ?_
  exact r_icmp (t := 165) hP d223_159 (by decide) kt kf
theorem b223_162 {d : Nat} {P : xPr} {Q : xQr} {r : Nat} {mem : Nat → Nat → Int32} (hP : Cl d none 223 P Q) {x1 : Int32} {x2 : Int32} {x3 : Int32} {x4 : Int32} {x5 : Int32} {x6 : Int32} {v7 : Value} {v8 : Value} {x9 : Int32} {x10 : Int32}
    (k : P 186 [.ref 108, .int x1, .int x2, .int x3, .int x4, .int x5, .int x6, v7, v8, .int x9, .int x10] [] (0, 0) (LAY, RFu r, mem)) : P 162 [.ref 108, .int x1, .int x2, .int x3, .int x4, .int x5, .int x6, v7, v8, .int x9, .int x10] [] (0, 0) (LAY, RFu r, mem) := by
  refine r_goto (t := 186) hP d223_162 (by decide) ?_
  exact k
theorem b223_165 {d : Nat} {P : xPr} {Q : xQr} {r : Nat} {mem : Nat → Nat → Int32} (hP : Cl d none 223 P Q) {x1 : Int32} {x2 : Int32} {x3 : Int32} {x4 : Int32} {v5 : Value} {x6 : Int32} {v7 : Value} {v8 : Value} {v9 : Value} {x10 : Int32} (hi171 : vp_in x10 8) (hi178 : vp_in x10 8)
    (k : P 186 [.ref 108, .int x1, .int x2, .int x3, .int x4, .int x10, .int x6, v7, v8, .int ((mem 136 x10.toNatClampNeg) - (mem 137 x10.toNatClampNeg)), .int x10] [] (0, 0) (LAY, RFu r, mem)) : P 165 [.ref 108, .int x1, .int x2, .int x3, .int x4, v5, .int x6, v7, v8, v9, .int x10] [] (0, 0) (LAY, RFu r, mem) := by
  refine r_aload_n hP d223_165 rfl ?_
  refine r_getr (a := 136) hP d223_166 fr_12_96 rfl ly_108 rg_108_41 ?_
  refine r_iload hP d223_169 rfl ?_
  refine r_iaload hP d223_171 ly_136 hi171 ?_
  refine r_aload_n hP d223_172 rfl ?_
  refine r_getr (a := 137) hP d223_173 fr_12_99 rfl ly_108 rg_108_42 ?_
  refine r_iload hP d223_176 rfl ?_
  refine r_iaload hP d223_178 ly_137 hi178 ?_
  refine r_isub hP d223_179 ?_
  refine r_istore (L' := [.ref 108, .int x1, .int x2, .int x3, .int x4, v5, .int x6, v7, v8, .int ((mem 136 x10.toNatClampNeg) - (mem 137 x10.toNatClampNeg)), .int x10]) hP d223_180 (Nat.le_of_ble_eq_true rfl) rfl ?_
  refine r_iload hP d223_182 rfl ?_
  refine r_istore (L' := [.ref 108, .int x1, .int x2, .int x3, .int x4, .int x10, .int x6, v7, v8, .int ((mem 136 x10.toNatClampNeg) - (mem 137 x10.toNatClampNeg)), .int x10]) hP d223_184 (Nat.le_of_ble_eq_true rfl) rfl ?_
  exact k
theorem b223_186 {d : Nat} {P : xPr} {Q : xQr} {r : Nat} {mem : Nat → Nat → Int32} (hP : Cl d none 223 P Q) {x1 : Int32} {x2 : Int32} {x3 : Int32} {x4 : Int32} {x5 : Int32} {x6 : Int32} {v7 : Value} {v8 : Value} {x9 : Int32} {x10 : Int32}
    (k : P 133 [.ref 108, .int x1, .int x2, .int x3, .int x4, .int x5, .int x6, v7, v8, .int x9, .int (x10 + nI 1)] [] (0, 0) (LAY, RFu r, mem)) : P 186 [.ref 108, .int x1, .int x2, .int x3, .int x4, .int x5, .int x6, v7, v8, .int x9, .int x10] [] (0, 0) (LAY, RFu r, mem) := by
  refine r_iinc (v := nI 1) (L' := [.ref 108, .int x1, .int x2, .int x3, .int x4, .int x5, .int x6, v7, v8, .int x9, .int (x10 + nI 1)]) hP d223_186 rfl rfl rfl ?_
  refine r_goto (t := 133) hP d223_189 (by decide) ?_
  exact k
theorem b223_192 {d : Nat} {P : xPr} {Q : xQr} {r : Nat} {mem : Nat → Nat → Int32} (hP : Cl d none 223 P Q) {x1 : Int32} {x2 : Int32} {x3 : Int32} {x4 : Int32} {x5 : Int32} {x6 : Int32} {v7 : Value} {v8 : Value} {v9 : Value} {v10 : Value}
    (k : P 48 [.ref 108, .int x1, .int x2, .int x3, .int x4, .int x5, .int (x6 + nI 1), v7, v8, v9, v10] [] (0, 0) (LAY, RFu r, mem)) : P 192 [.ref 108, .int x1, .int x2, .int x3, .int x4, .int x5, .int x6, v7, v8, v9, v10] [] (0, 0) (LAY, RFu r, mem) := by
  refine r_iinc (v := nI 1) (L' := [.ref 108, .int x1, .int x2, .int x3, .int x4, .int x5, .int (x6 + nI 1), v7, v8, v9, v10]) hP d223_192 rfl rfl rfl ?_
  refine r_goto (t := 48) hP d223_195 (by decide) ?_
  exact k
theorem b223_198 {d : Nat} {P : xPr} {Q : xQr} {r : Nat} {mem : Nat → Nat → Int32} (hP : Cl d none 223 P Q) {v1 : Value} {x2 : Int32} {x3 : Int32} {x4 : Int32} {x5 : Int32} {v6 : Value} {v7 : Value} {v8 : Value} {v9 : Value} {v10 : Value}
    (k : xCall d 161 [.ref 108, .int (x2 - x4)] (LAY, RFu r, xu2 mem 108 19 (nI 0)) (Bk P 208 [.ref 108, v1, .int x2, .int x3, .int x4, .int x5, v6, v7, v8, v9, v10] [] (0, 0))) : P 198 [.ref 108, v1, .int x2, .int x3, .int x4, .int x5, v6, v7, v8, v9, v10] [] (0, 0) (LAY, RFu r, mem) := by
  refine r_aload_n hP d223_198 rfl ?_
  refine r_iconst (v := nI 0) hP d223_199 rfl ?_
  refine r_puti hP d223_200 fr_12_124 rfl (fun q => by cases q) ly_108 ?_
  refine r_aload_n hP d223_203 rfl ?_
  refine r_iload_n hP d223_204 rfl ?_
  refine r_iload hP d223_205 rfl ?_
  refine r_isub hP d223_207 ?_
  exact r_callv (As := [.int (x2 - x4)]) (S := []) hP d223_208 cr_12_258 (by decide +kernel) rfl (by simp [Value.category]) rfl ly_108 (by simp [Value.category]) ⟨Nat.zero_le _, Nat.zero_le _⟩ k
theorem b223_211 {d : Nat} {P : xPr} {Q : xQr} {r : Nat} {mem : Nat → Nat → Int32} (hP : Cl d none 223 P Q) {v1 : Value} {v2 : Value} {x3 : Int32} {v4 : Value} {x5 : Int32} {v6 : Value} {v7 : Value} {v8 : Value} {v9 : Value} {v10 : Value}
    (k : xCall d 161 [.ref 108, .int x5] (LAY, RFu r, mem) (Bk P 214 [.ref 108, v1, v2, .int x3, v4, .int x5, v6, v7, v8, v9, v10] [] (0, 0))) : P 211 [.ref 108, v1, v2, .int x3, v4, .int x5, v6, v7, v8, v9, v10] [] (0, 0) (LAY, RFu r, mem) := by
  refine r_aload_n hP d223_211 rfl ?_
  refine r_iload hP d223_212 rfl ?_
  exact r_callv (As := [.int x5]) (S := []) hP d223_214 cr_12_258 (by decide +kernel) rfl (by simp [Value.category]) rfl ly_108 (by simp [Value.category]) ⟨Nat.zero_le _, Nat.zero_le _⟩ k
theorem b223_217 {d : Nat} {P : xPr} {Q : xQr} {r : Nat} {mem : Nat → Nat → Int32} (hP : Cl d none 223 P Q) {v0 : Value} {v1 : Value} {v2 : Value} {x3 : Int32} {v4 : Value} {v5 : Value} {v6 : Value} {v7 : Value} {v8 : Value} {v9 : Value} {v10 : Value}
    (k : Q (some (.int x3)) (LAY, RFu r, mem)) : P 217 [v0, v1, v2, .int x3, v4, v5, v6, v7, v8, v9, v10] [] (0, 0) (LAY, RFu r, mem) := by
  refine r_iload_n hP d223_217 rfl ?_
  exact r_iret hP d223_218 rfl k
theorem d224_0 : decode (xB 224) 0 = .ok (.aload_n 0, 1) := by decide +kernel
theorem d224_1 : decode (xB 224) 1 = .ok (.iconst 0, 1) := by decide +kernel
theorem d224_2 : decode (xB 224) 2 = .ok (.putfield 121, 3) := by decide +kernel
theorem d224_5 : decode (xB 224) 5 = .ok (.iload_n 1, 1) := by decide +kernel
theorem d224_6 : decode (xB 224) 6 = .ok (.iconst 0, 1) := by decide +kernel
theorem d224_7 : decode (xB 224) 7 = .ok (.bipush 100, 2) := by decide +kernel
theorem d224_9 : decode (xB 224) 9 = .ok (.invokestatic 130, 3) := by decide +kernel
theorem d224_12 : decode (xB 224) 12 = .ok (.ifCond .ne 5, 3) := by decide +kernel
theorem d224_15 : decode (xB 224) 15 = .ok (.iconst (-1), 1) := by decide +kernel
theorem d224_16 : decode (xB 224) 16 = .ok (.ireturn, 1) := by decide +kernel
theorem d224_17 : decode (xB 224) 17 = .ok (.aload_n 0, 1) := by decide +kernel
theorem d224_18 : decode (xB 224) 18 = .ok (.getfield 138, 3) := by decide +kernel
theorem d224_21 : decode (xB 224) 21 = .ok (.iconst 2, 1) := by decide +kernel
theorem d224_22 : decode (xB 224) 22 = .ok (.if_icmp .ge 6, 3) := by decide +kernel
theorem d224_25 : decode (xB 224) 25 = .ok (.bipush (-2), 2) := by decide +kernel
theorem d224_27 : decode (xB 224) 27 = .ok (.ireturn, 1) := by decide +kernel
theorem d224_28 : decode (xB 224) 28 = .ok (.iconst (-1), 1) := by decide +kernel
theorem d224_29 : decode (xB 224) 29 = .ok (.istore_n 2, 1) := by decide +kernel
theorem d224_30 : decode (xB 224) 30 = .ok (.iconst (-1), 1) := by decide +kernel
theorem d224_31 : decode (xB 224) 31 = .ok (.istore_n 3, 1) := by decide +kernel
theorem d224_32 : decode (xB 224) 32 = .ok (.iconst 0, 1) := by decide +kernel
theorem d224_33 : decode (xB 224) 33 = .ok (.istore 4, 2) := by decide +kernel
theorem d224_35 : decode (xB 224) 35 = .ok (.iconst 0, 1) := by decide +kernel
theorem d224_36 : decode (xB 224) 36 = .ok (.istore 5, 2) := by decide +kernel
theorem d224_38 : decode (xB 224) 38 = .ok (.iload 5, 2) := by decide +kernel
theorem d224_40 : decode (xB 224) 40 = .ok (.aload_n 0, 1) := by decide +kernel
theorem d224_41 : decode (xB 224) 41 = .ok (.getfield 138, 3) := by decide +kernel
theorem d224_44 : decode (xB 224) 44 = .ok (.if_icmp .ge 78, 3) := by decide +kernel
theorem d224_47 : decode (xB 224) 47 = .ok (.iload 5, 2) := by decide +kernel
theorem d224_49 : decode (xB 224) 49 = .ok (.iconst 1, 1) := by decide +kernel
theorem d224_50 : decode (xB 224) 50 = .ok (.iadd, 1) := by decide +kernel
theorem d224_51 : decode (xB 224) 51 = .ok (.istore 6, 2) := by decide +kernel
theorem d224_53 : decode (xB 224) 53 = .ok (.iload 6, 2) := by decide +kernel
theorem d224_55 : decode (xB 224) 55 = .ok (.aload_n 0, 1) := by decide +kernel
theorem d224_56 : decode (xB 224) 56 = .ok (.getfield 138, 3) := by decide +kernel
theorem d224_59 : decode (xB 224) 59 = .ok (.if_icmp .ge 57, 3) := by decide +kernel
theorem d224_62 : decode (xB 224) 62 = .ok (.aload_n 0, 1) := by decide +kernel
theorem d224_63 : decode (xB 224) 63 = .ok (.iload 5, 2) := by decide +kernel
theorem d224_65 : decode (xB 224) 65 = .ok (.putfield 228, 3) := by decide +kernel
theorem d224_68 : decode (xB 224) 68 = .ok (.aload_n 0, 1) := by decide +kernel
theorem d224_69 : decode (xB 224) 69 = .ok (.iload 6, 2) := by decide +kernel
theorem d224_71 : decode (xB 224) 71 = .ok (.putfield 75, 3) := by decide +kernel
theorem d224_74 : decode (xB 224) 74 = .ok (.aload_n 0, 1) := by decide +kernel
theorem d224_75 : decode (xB 224) 75 = .ok (.iload_n 1, 1) := by decide +kernel
theorem d224_76 : decode (xB 224) 76 = .ok (.aload_n 0, 1) := by decide +kernel
theorem d224_77 : decode (xB 224) 77 = .ok (.getfield 99, 3) := by decide +kernel
theorem d224_80 : decode (xB 224) 80 = .ok (.invokevirtual 304, 3) := by decide +kernel
theorem d224_83 : decode (xB 224) 83 = .ok (.istore 7, 2) := by decide +kernel
theorem d224_85 : decode (xB 224) 85 = .ok (.iload_n 2, 1) := by decide +kernel
theorem d224_86 : decode (xB 224) 86 = .ok (.iconst (-1), 1) := by decide +kernel
theorem d224_87 : decode (xB 224) 87 = .ok (.if_icmp .eq 13, 3) := by decide +kernel
theorem d224_90 : decode (xB 224) 90 = .ok (.iload 7, 2) := by decide +kernel
theorem d224_92 : decode (xB 224) 92 = .ok (.iload 4, 2) := by decide +kernel
theorem d224_94 : decode (xB 224) 94 = .ok (.if_icmp .lt 6, 3) := by decide +kernel
theorem d224_97 : decode (xB 224) 97 = .ok (.goto 13, 3) := by decide +kernel
theorem d224_100 : decode (xB 224) 100 = .ok (.iload 5, 2) := by decide +kernel
theorem d224_102 : decode (xB 224) 102 = .ok (.istore_n 2, 1) := by decide +kernel
theorem d224_103 : decode (xB 224) 103 = .ok (.iload 6, 2) := by decide +kernel
theorem d224_105 : decode (xB 224) 105 = .ok (.istore_n 3, 1) := by decide +kernel
theorem d224_106 : decode (xB 224) 106 = .ok (.iload 7, 2) := by decide +kernel
theorem d224_108 : decode (xB 224) 108 = .ok (.istore 4, 2) := by decide +kernel
theorem d224_110 : decode (xB 224) 110 = .ok (.iinc 6 1, 3) := by decide +kernel
theorem d224_113 : decode (xB 224) 113 = .ok (.goto (-60), 3) := by decide +kernel
theorem d224_116 : decode (xB 224) 116 = .ok (.iinc 5 1, 3) := by decide +kernel
theorem d224_119 : decode (xB 224) 119 = .ok (.goto (-81), 3) := by decide +kernel
theorem d224_122 : decode (xB 224) 122 = .ok (.aload_n 0, 1) := by decide +kernel
theorem d224_123 : decode (xB 224) 123 = .ok (.iconst (-1), 1) := by decide +kernel
theorem d224_124 : decode (xB 224) 124 = .ok (.putfield 75, 3) := by decide +kernel
theorem d224_127 : decode (xB 224) 127 = .ok (.aload_n 0, 1) := by decide +kernel
theorem d224_128 : decode (xB 224) 128 = .ok (.iconst 0, 1) := by decide +kernel
theorem d224_129 : decode (xB 224) 129 = .ok (.putfield 124, 3) := by decide +kernel
theorem d224_132 : decode (xB 224) 132 = .ok (.aload_n 0, 1) := by decide +kernel
theorem d224_133 : decode (xB 224) 133 = .ok (.iload_n 2, 1) := by decide +kernel
theorem d224_134 : decode (xB 224) 134 = .ok (.invokevirtual 258, 3) := by decide +kernel
theorem d224_137 : decode (xB 224) 137 = .ok (.aload_n 0, 1) := by decide +kernel
theorem d224_138 : decode (xB 224) 138 = .ok (.iload_n 3, 1) := by decide +kernel
theorem d224_139 : decode (xB 224) 139 = .ok (.invokevirtual 258, 3) := by decide +kernel
theorem d224_142 : decode (xB 224) 142 = .ok (.iload 4, 2) := by decide +kernel
theorem d224_144 : decode (xB 224) 144 = .ok (.ireturn, 1) := by decide +kernel
theorem b224_0 {d : Nat} {P : xPr} {Q : xQr} {r : Nat} {mem : Nat → Nat → Int32} (hP : Cl d none 224 P Q) {p0 : Int32}
    (k : xCall d 158 [.int p0, .int (nI 0), .int (nI 100)] (LAY, RFu r, xu2 mem 108 20 (nI 0)) (Bk P 9 [.ref 108, .int p0, .null, .null, .null, .null, .null, .null] [] (0, 0))) : P 0 [.ref 108, .int p0, .null, .null, .null, .null, .null, .null] [] (0, 0) (LAY, RFu r, mem) := by
  refine r_aload_n hP d224_0 rfl ?_
  refine r_iconst (v := nI 0) hP d224_1 rfl ?_
  refine r_puti hP d224_2 fr_12_121 rfl (fun q => by cases q) ly_108 ?_
  refine r_iload_n hP d224_5 rfl ?_
  refine r_iconst (v := nI 0) hP d224_6 rfl ?_
  refine r_bipush (v := nI 100) hP d224_7 rfl ?_
  exact r_calls (As := [.int p0, .int (nI 0), .int (nI 100)]) (S := []) hP d224_9 cr_12_130 (by decide +kernel) rfl (by simp [Value.category]) rfl (by simp [Value.category]) ⟨Nat.zero_le _, Nat.zero_le _⟩ k
theorem b224_12 {d : Nat} {P : xPr} {Q : xQr} {r : Nat} {mem : Nat → Nat → Int32} (hP : Cl d none 224 P Q) {x1 : Int32} {v2 : Value} {v3 : Value} {v4 : Value} {v5 : Value} {v6 : Value} {v7 : Value} {y0 : Int32}
    (kt : ¬ y0 = 0 → P 17 [.ref 108, .int x1, v2, v3, v4, v5, v6, v7] [] (0, 0) (LAY, RFu r, mem)) (kf : y0 = 0 → P 15 [.ref 108, .int x1, v2, v3, v4, v5, v6, v7] [] (0, 0) (LAY, RFu r, mem)) : P 12 [.ref 108, .int x1, v2, v3, v4, v5, v6, v7] [.int y0] (0, 0) (LAY, RFu r, mem) := by
  exact r_if (t := 17) hP d224_12 (by decide) kt (fun q => kf (Decidable.of_not_not q))
theorem b224_15 {d : Nat} {P : xPr} {Q : xQr} {r : Nat} {mem : Nat → Nat → Int32} (hP : Cl d none 224 P Q) {v0 : Value} {v1 : Value} {v2 : Value} {v3 : Value} {v4 : Value} {v5 : Value} {v6 : Value} {v7 : Value}
    (k : Q (some (.int (-1))) (LAY, RFu r, mem)) : P 15 [v0, v1, v2, v3, v4, v5, v6, v7] [] (0, 0) (LAY, RFu r, mem) := by
  refine r_iconst (v := (-1)) hP d224_15 rfl ?_
  exact r_iret hP d224_16 rfl k
theorem b224_17 {d : Nat} {P : xPr} {Q : xQr} {r : Nat} {mem : Nat → Nat → Int32} (hP : Cl d none 224 P Q) {x1 : Int32} {v2 : Value} {v3 : Value} {v4 : Value} {v5 : Value} {v6 : Value} {v7 : Value}
    (kt : (nI 2) ≤ (mem 108 0) → P 28 [.ref 108, .int x1, v2, v3, v4, v5, v6, v7] [] (0, 0) (LAY, RFu r, mem)) (kf : ¬ (nI 2) ≤ (mem 108 0) → P 25 [.ref 108, .int x1, v2, v3, v4, v5, v6, v7] [] (0, 0) (LAY, RFu r, mem)) : P 17 [.ref 108, .int x1, v2, v3, v4, v5, v6, v7] [] (0, 0) (LAY, RFu r, mem) := by
  refine r_aload_n hP d224_17 rfl ?_
  refine r_geti hP d224_18 fr_12_138 rfl ly_108 ?_
  refine r_iconst (v := nI 2) hP d224_21 rfl ?_
  exact r_icmp (t := 28) hP d224_22 (by decide) kt kf
theorem b224_25 {d : Nat} {P : xPr} {Q : xQr} {r : Nat} {mem : Nat → Nat → Int32} (hP : Cl d none 224 P Q) {v0 : Value} {v1 : Value} {v2 : Value} {v3 : Value} {v4 : Value} {v5 : Value} {v6 : Value} {v7 : Value}
    (k : Q (some (.int (-2))) (LAY, RFu r, mem)) : P 25 [v0, v1, v2, v3, v4, v5, v6, v7] [] (0, 0) (LAY, RFu r, mem) := by
  refine r_bipush (v := (-2)) hP d224_25 rfl ?_
  exact r_iret hP d224_27 rfl k
theorem b224_28 {d : Nat} {P : xPr} {Q : xQr} {r : Nat} {mem : Nat → Nat → Int32} (hP : Cl d none 224 P Q) {x1 : Int32} {v2 : Value} {v3 : Value} {v4 : Value} {v5 : Value} {v6 : Value} {v7 : Value}
    (k : P 38 [.ref 108, .int x1, .int (-1), .int (-1), .int (nI 0), .int (nI 0), v6, v7] [] (0, 0) (LAY, RFu r, mem)) : P 28 [.ref 108, .int x1, v2, v3, v4, v5, v6, v7] [] (0, 0) (LAY, RFu r, mem) := by
  refine r_iconst (v := (-1)) hP d224_28 rfl ?_
  refine r_istore_n (L' := [.ref 108, .int x1, .int (-1), v3, v4, v5, v6, v7]) hP d224_29 (Nat.le_of_ble_eq_true rfl) rfl ?_
  refine r_iconst (v := (-1)) hP d224_30 rfl ?_
  refine r_istore_n (L' := [.ref 108, .int x1, .int (-1), .int (-1), v4, v5, v6, v7]) hP d224_31 (Nat.le_of_ble_eq_true rfl) rfl ?_
  refine r_iconst (v := nI 0) hP d224_32 rfl ?_
  refine r_istore (L' := [.ref 108, .int x1, .int (-1), .int (-1), .int (nI 0), v5, v6, v7]) hP d224_33 (Nat.le_of_ble_eq_true rfl) rfl ?_
  refine r_iconst (v := nI 0) hP d224_35 rfl ?_
  refine r_istore (L' := [.ref 108, .int x1, .int (-1), .int (-1), .int (nI 0), .int (nI 0), v6, v7]) hP d224_36 (Nat.le_of_ble_eq_true rfl) rfl ?_
  exact k
theorem b224_38 {d : Nat} {P : xPr} {Q : xQr} {r : Nat} {mem : Nat → Nat → Int32} (hP : Cl d none 224 P Q) {x1 : Int32} {x2 : Int32} {x3 : Int32} {x4 : Int32} {x5 : Int32} {v6 : Value} {v7 : Value}
    (kt : (mem 108 0) ≤ x5 → P 122 [.ref 108, .int x1, .int x2, .int x3, .int x4, .int x5, v6, v7] [] (0, 0) (LAY, RFu r, mem)) (kf : ¬ (mem 108 0) ≤ x5 → P 47 [.ref 108, .int x1, .int x2, .int x3, .int x4, .int x5, v6, v7] [] (0, 0) (LAY, RFu r, mem)) : P 38 [.ref 108, .int x1, .int x2, .int x3, .int x4, .int x5, v6, v7] [] (0, 0) (LAY, RFu r, mem) := by
  refine r_iload hP d224_38 rfl ?_
  refine r_aload_n hP d224_40 rfl ?_
  refine r_geti hP d224_41 fr_12_138 rfl ly_108 ?_
  exact r_icmp (t := 122) hP d224_44 (by decide) kt kf
theorem b224_47 {d : Nat} {P : xPr} {Q : xQr} {r : Nat} {mem : Nat → Nat → Int32} (hP : Cl d none 224 P Q) {x1 : Int32} {x2 : Int32} {x3 : Int32} {x4 : Int32} {x5 : Int32} {v6 : Value} {v7 : Value}
    (k : P 53 [.ref 108, .int x1, .int x2, .int x3, .int x4, .int x5, .int (x5 + (nI 1)), v7] [] (0, 0) (LAY, RFu r, mem)) : P 47 [.ref 108, .int x1, .int x2, .int x3, .int x4, .int x5, v6, v7] [] (0, 0) (LAY, RFu r, mem) := by
  refine r_iload hP d224_47 rfl ?_
  refine r_iconst (v := nI 1) hP d224_49 rfl ?_
  refine r_iadd hP d224_50 ?_
  refine r_istore (L' := [.ref 108, .int x1, .int x2, .int x3, .int x4, .int x5, .int (x5 + (nI 1)), v7]) hP d224_51 (Nat.le_of_ble_eq_true rfl) rfl ?_
  exact k
theorem b224_53 {d : Nat} {P : xPr} {Q : xQr} {r : Nat} {mem : Nat → Nat → Int32} (hP : Cl d none 224 P Q) {x1 : Int32} {x2 : Int32} {x3 : Int32} {x4 : Int32} {x5 : Int32} {x6 : Int32} {v7 : Value}
    (kt : (mem 108 0) ≤ x6 → P 116 [.ref 108, .int x1, .int x2, .int x3, .int x4, .int x5, .int x6, v7] [] (0, 0) (LAY, RFu r, mem)) (kf : ¬ (mem 108 0) ≤ x6 → P 62 [.ref 108, .int x1, .int x2, .int x3, .int x4, .int x5, .int x6, v7] [] (0, 0) (LAY, RFu r, mem)) : P 53 [.ref 108, .int x1, .int x2, .int x3, .int x4, .int x5, .int x6, v7] [] (0, 0) (LAY, RFu r, mem) := by
  refine r_iload hP d224_53 rfl ?_
  refine r_aload_n hP d224_55 rfl ?_
  refine r_geti hP d224_56 fr_12_138 rfl ly_108 ?_
  exact r_icmp (t := 116) hP d224_59 (by decide) kt kf
theorem b224_62 {d : Nat} {P : xPr} {Q : xQr} {r : Nat} {mem : Nat → Nat → Int32} (hP : Cl d none 224 P Q) {x1 : Int32} {x2 : Int32} {x3 : Int32} {x4 : Int32} {x5 : Int32} {x6 : Int32} {v7 : Value}
    (k : xCall d 222 [.ref 108, .int x1, .ref 137] (LAY, RFu r, xu2 (xu2 mem 108 33 x5) 108 32 x6) (Bk P 80 [.ref 108, .int x1, .int x2, .int x3, .int x4, .int x5, .int x6, v7] [] (0, 0))) : P 62 [.ref 108, .int x1, .int x2, .int x3, .int x4, .int x5, .int x6, v7] [] (0, 0) (LAY, RFu r, mem) := by
  refine r_aload_n hP d224_62 rfl ?_
  refine r_iload hP d224_63 rfl ?_
  refine r_puti hP d224_65 fr_12_228 rfl (fun q => by cases q) ly_108 ?_
  refine r_aload_n hP d224_68 rfl ?_
  refine r_iload hP d224_69 rfl ?_
  refine r_puti hP d224_71 fr_12_75 rfl (fun q => by cases q) ly_108 ?_
  refine r_aload_n hP d224_74 rfl ?_
  refine r_iload_n hP d224_75 rfl ?_
  refine r_aload_n hP d224_76 rfl ?_
  refine r_getr (a := 137) hP d224_77 fr_12_99 rfl ly_108 rg_108_42 ?_
  exact r_callv (As := [.int x1, .ref 137]) (S := []) hP d224_80 cr_12_304 (by decide +kernel) rfl (by simp [Value.category]) rfl ly_108 (by simp [Value.category]) ⟨Nat.zero_le _, Nat.zero_le _⟩ k
theorem b224_83 {d : Nat} {P : xPr} {Q : xQr} {r : Nat} {mem : Nat → Nat → Int32} (hP : Cl d none 224 P Q) {x1 : Int32} {x2 : Int32} {x3 : Int32} {x4 : Int32} {x5 : Int32} {x6 : Int32} {v7 : Value} {y0 : Int32}
    (kt : x2 = (-1) → P 100 [.ref 108, .int x1, .int x2, .int x3, .int x4, .int x5, .int x6, .int y0] [] (0, 0) (LAY, RFu r, mem)) (kf : ¬ x2 = (-1) → P 90 [.ref 108, .int x1, .int x2, .int x3, .int x4, .int x5, .int x6, .int y0] [] (0, 0) (LAY, RFu r, mem)) : P 83 [.ref 108, .int x1, .int x2, .int x3, .int x4, .int x5, .int x6, v7] [.int y0] (0, 0) (LAY, RFu r, mem) := by
  refine r_istore (L' := [.ref 108, .int x1, .int x2, .int x3, .int x4, .int x5, .int x6, .int y0]) hP d224_83 (Nat.le_of_ble_eq_true rfl) rfl ?_
  refine r_iload_n hP d224_85 rfl ?_
  refine r_iconst (v := (-1)) hP d224_86 rfl ?_
  exact r_icmp (t := 100) hP d224_87 (by decide) kt kf
theorem b224_90 {d : Nat} {P : xPr} {Q : xQr} {r : Nat} {mem : Nat → Nat → Int32} (hP : Cl d none 224 P Q) {x1 : Int32} {x2 : Int32} {x3 : Int32} {x4 : Int32} {x5 : Int32} {x6 : Int32} {x7 : Int32}
    (kt : x7 < x4 → P 100 [.ref 108, .int x1, .int x2, .int x3, .int x4, .int x5, .int x6, .int x7] [] (0, 0) (LAY, RFu r, mem)) (kf : ¬ x7 < x4 → P 97 [.ref 108, .int x1, .int x2, .int x3, .int x4, .int x5, .int x6, .int x7] [] (0, 0) (LAY, RFu r, mem)) : P 90 [.ref 108, .int x1, .int x2, .int x3, .int x4, .int x5, .int x6, .int x7] [] (0, 0) (LAY, RFu r, mem) := by
  refine r_iload hP d224_90 rfl ?_
  refine r_iload hP d224_92 rfl ?_
  exact r_icmp (t := 100) hP d224_94 (by decide) kt kf
theorem b224_97 {d : Nat} {P : xPr} {Q : xQr} {r : Nat} {mem : Nat → Nat → Int32} (hP : Cl d none 224 P Q) {x1 : Int32} {x2 : Int32} {x3 : Int32} {x4 : Int32} {x5 : Int32} {x6 : Int32} {v7 : Value}
    (k : P 110 [.ref 108, .int x1, .int x2, .int x3, .int x4, .int x5, .int x6, v7] [] (0, 0) (LAY, RFu r, mem)) : P 97 [.ref 108, .int x1, .int x2, .int x3, .int x4, .int x5, .int x6, v7] [] (0, 0) (LAY, RFu r, mem) := by
  refine r_goto (t := 110) hP d224_97 (by decide) ?_
  exact k
theorem b224_100 {d : Nat} {P : xPr} {Q : xQr} {r : Nat} {mem : Nat → Nat → Int32} (hP : Cl d none 224 P Q) {x1 : Int32} {v2 : Value} {v3 : Value} {v4 : Value} {x5 : Int32} {x6 : Int32} {x7 : Int32}
    (k : P 110 [.ref 108, .int x1, .int x5, .int x6, .int x7, .int x5, .int x6, .int x7] [] (0, 0) (LAY, RFu r, mem)) : P 100 [.ref 108, .int x1, v2, v3, v4, .int x5, .int x6, .int x7] [] (0, 0) (LAY, RFu r, mem) := by
  refine r_iload hP d224_100 rfl ?_
  refine r_istore_n (L' := [.ref 108, .int x1, .int x5, v3, v4, .int x5, .int x6, .int x7]) hP d224_102 (Nat.le_of_ble_eq_true rfl) rfl ?_
  refine r_iload hP d224_103 rfl ?_
  refine r_istore_n (L' := [.ref 108, .int x1, .int x5, .int x6, v4, .int x5, .int x6, .int x7]) hP d224_105 (Nat.le_of_ble_eq_true rfl) rfl ?_
  refine r_iload hP d224_106 rfl ?_
  refine r_istore (L' := [.ref 108, .int x1, .int x5, .int x6, .int x7, .int x5, .int x6, .int x7]) hP d224_108 (Nat.le_of_ble_eq_true rfl) rfl ?_
  exact k
theorem b224_110 {d : Nat} {P : xPr} {Q : xQr} {r : Nat} {mem : Nat → Nat → Int32} (hP : Cl d none 224 P Q) {x1 : Int32} {x2 : Int32} {x3 : Int32} {x4 : Int32} {x5 : Int32} {x6 : Int32} {v7 : Value}
    (k : P 53 [.ref 108, .int x1, .int x2, .int x3, .int x4, .int x5, .int (x6 + nI 1), v7] [] (0, 0) (LAY, RFu r, mem)) : P 110 [.ref 108, .int x1, .int x2, .int x3, .int x4, .int x5, .int x6, v7] [] (0, 0) (LAY, RFu r, mem) := by
  refine r_iinc (v := nI 1) (L' := [.ref 108, .int x1, .int x2, .int x3, .int x4, .int x5, .int (x6 + nI 1), v7]) hP d224_110 rfl rfl rfl ?_
  refine r_goto (t := 53) hP d224_113 (by decide) ?_
  exact k
theorem b224_116 {d : Nat} {P : xPr} {Q : xQr} {r : Nat} {mem : Nat → Nat → Int32} (hP : Cl d none 224 P Q) {x1 : Int32} {x2 : Int32} {x3 : Int32} {x4 : Int32} {x5 : Int32} {v6 : Value} {v7 : Value}
    (k : P 38 [.ref 108, .int x1, .int x2, .int x3, .int x4, .int (x5 + nI 1), v6, v7] [] (0, 0) (LAY, RFu r, mem)) : P 116 [.ref 108, .int x1, .int x2, .int x3, .int x4, .int x5, v6, v7] [] (0, 0) (LAY, RFu r, mem) := by
  refine r_iinc (v := nI 1) (L' := [.ref 108, .int x1, .int x2, .int x3, .int x4, .int (x5 + nI 1), v6, v7]) hP d224_116 rfl rfl rfl ?_
  refine r_goto (t := 38) hP d224_119 (by decide) ?_
  exact k
theorem b224_122 {d : Nat} {P : xPr} {Q : xQr} {r : Nat} {mem : Nat → Nat → Int32} (hP : Cl d none 224 P Q) {v1 : Value} {x2 : Int32} {x3 : Int32} {x4 : Int32} {v5 : Value} {v6 : Value} {v7 : Value}
    (k : xCall d 161 [.ref 108, .int x2] (LAY, RFu r, xu2 (xu2 mem 108 32 (-1)) 108 19 (nI 0)) (Bk P 134 [.ref 108, v1, .int x2, .int x3, .int x4, v5, v6, v7] [] (0, 0))) : P 122 [.ref 108, v1, .int x2, .int x3, .int x4, v5, v6, v7] [] (0, 0) (LAY, RFu r, mem) := by
  refine r_aload_n hP d224_122 rfl ?_
  refine r_iconst (v := (-1)) hP d224_123 rfl ?_
  refine r_puti hP d224_124 fr_12_75 rfl (fun q => by cases q) ly_108 ?_
  refine r_aload_n hP d224_127 rfl ?_
  refine r_iconst (v := nI 0) hP d224_128 rfl ?_
  refine r_puti hP d224_129 fr_12_124 rfl (fun q => by cases q) ly_108 ?_
  refine r_aload_n hP d224_132 rfl ?_
  refine r_iload_n hP d224_133 rfl ?_
  exact r_callv (As := [.int x2]) (S := []) hP d224_134 cr_12_258 (by decide +kernel) rfl (by simp [Value.category]) rfl ly_108 (by simp [Value.category]) ⟨Nat.zero_le _, Nat.zero_le _⟩ k
theorem b224_137 {d : Nat} {P : xPr} {Q : xQr} {r : Nat} {mem : Nat → Nat → Int32} (hP : Cl d none 224 P Q) {v1 : Value} {v2 : Value} {x3 : Int32} {x4 : Int32} {v5 : Value} {v6 : Value} {v7 : Value}
    (k : xCall d 161 [.ref 108, .int x3] (LAY, RFu r, mem) (Bk P 139 [.ref 108, v1, v2, .int x3, .int x4, v5, v6, v7] [] (0, 0))) : P 137 [.ref 108, v1, v2, .int x3, .int x4, v5, v6, v7] [] (0, 0) (LAY, RFu r, mem) := by
  refine r_aload_n hP d224_137 rfl ?_
  refine r_iload_n hP d224_138 rfl ?_
  exact r_callv (As := [.int x3]) (S := []) hP d224_139 cr_12_258 (by decide +kernel) rfl (by simp [Value.category]) rfl ly_108 (by simp [Value.category]) ⟨Nat.zero_le _, Nat.zero_le _⟩ k
theorem b224_142 {d : Nat} {P : xPr} {Q : xQr} {r : Nat} {mem : Nat → Nat → Int32} (hP : Cl d none 224 P Q) {v0 : Value} {v1 : Value} {v2 : Value} {v3 : Value} {x4 : Int32} {v5 : Value} {v6 : Value} {v7 : Value}
    (k : Q (some (.int x4)) (LAY, RFu r, mem)) : P 142 [v0, v1, v2, v3, .int x4, v5, v6, v7] [] (0, 0) (LAY, RFu r, mem) := by
  refine r_iload hP d224_142 rfl ?_
  exact r_iret hP d224_144 rfl k
theorem d225_0 : decode (xB 225) 0 = .ok (.aload_n 0, 1) := by decide +kernel
theorem d225_1 : decode (xB 225) 1 = .ok (.iconst 0, 1) := by decide +kernel
theorem d225_2 : decode (xB 225) 2 = .ok (.putfield 121, 3) := by decide +kernel
theorem d225_5 : decode (xB 225) 5 = .ok (.aload_n 0, 1) := by decide +kernel
theorem d225_6 : decode (xB 225) 6 = .ok (.iload_n 1, 1) := by decide +kernel
theorem d225_7 : decode (xB 225) 7 = .ok (.invokevirtual 134, 3) := by decide +kernel
theorem d225_10 : decode (xB 225) 10 = .ok (.ifCond .eq 22, 3) := by decide +kernel
theorem d225_13 : decode (xB 225) 13 = .ok (.iload_n 2, 1) := by decide +kernel
theorem d225_14 : decode (xB 225) 14 = .ok (.iconst 0, 1) := by decide +kernel
theorem d225_15 : decode (xB 225) 15 = .ok (.bipush 100, 2) := by decide +kernel
theorem d225_17 : decode (xB 225) 17 = .ok (.invokestatic 130, 3) := by decide +kernel
theorem d225_20 : decode (xB 225) 20 = .ok (.ifCond .eq 12, 3) := by decide +kernel
theorem d225_23 : decode (xB 225) 23 = .ok (.aload_n 0, 1) := by decide +kernel
theorem d225_24 : decode (xB 225) 24 = .ok (.getfield 308, 3) := by decide +kernel
theorem d225_27 : decode (xB 225) 27 = .ok (.bipush 8, 2) := by decide +kernel
theorem d225_29 : decode (xB 225) 29 = .ok (.if_icmp .ne 5, 3) := by decide +kernel
theorem d225_32 : decode (xB 225) 32 = .ok (.iconst (-1), 1) := by decide +kernel
theorem d225_33 : decode (xB 225) 33 = .ok (.ireturn, 1) := by decide +kernel
theorem d225_34 : decode (xB 225) 34 = .ok (.aload_n 0, 1) := by decide +kernel
theorem d225_35 : decode (xB 225) 35 = .ok (.getfield 102, 3) := by decide +kernel
theorem d225_38 : decode (xB 225) 38 = .ok (.aload_n 0, 1) := by decide +kernel
theorem d225_39 : decode (xB 225) 39 = .ok (.getfield 308, 3) := by decide +kernel
theorem d225_42 : decode (xB 225) 42 = .ok (.iload_n 1, 1) := by decide +kernel
theorem d225_43 : decode (xB 225) 43 = .ok (.iastore, 1) := by decide +kernel
theorem d225_44 : decode (xB 225) 44 = .ok (.aload_n 0, 1) := by decide +kernel
theorem d225_45 : decode (xB 225) 45 = .ok (.getfield 105, 3) := by decide +kernel
theorem d225_48 : decode (xB 225) 48 = .ok (.aload_n 0, 1) := by decide +kernel
theorem d225_49 : decode (xB 225) 49 = .ok (.getfield 308, 3) := by decide +kernel
theorem d225_52 : decode (xB 225) 52 = .ok (.iload_n 2, 1) := by decide +kernel
theorem d225_53 : decode (xB 225) 53 = .ok (.iastore, 1) := by decide +kernel
theorem d225_54 : decode (xB 225) 54 = .ok (.aload_n 0, 1) := by decide +kernel
theorem d225_55 : decode (xB 225) 55 = .ok (.dup, 1) := by decide +kernel
theorem d225_56 : decode (xB 225) 56 = .ok (.getfield 308, 3) := by decide +kernel
theorem d225_59 : decode (xB 225) 59 = .ok (.iconst 1, 1) := by decide +kernel
theorem d225_60 : decode (xB 225) 60 = .ok (.iadd, 1) := by decide +kernel
theorem d225_61 : decode (xB 225) 61 = .ok (.putfield 308, 3) := by decide +kernel
theorem d225_64 : decode (xB 225) 64 = .ok (.aload_n 0, 1) := by decide +kernel
theorem d225_65 : decode (xB 225) 65 = .ok (.getfield 308, 3) := by decide +kernel
theorem d225_68 : decode (xB 225) 68 = .ok (.ireturn, 1) := by decide +kernel
theorem b225_0 {d : Nat} {P : xPr} {Q : xQr} {r : Nat} {mem : Nat → Nat → Int32} (hP : Cl d none 225 P Q) {p0 : Int32} {p1 : Int32}
    (k : xCall d 162 [.ref 108, .int p0] (LAY, RFu r, xu2 mem 108 20 (nI 0)) (Bk P 7 [.ref 108, .int p0, .int p1] [] (0, 0))) : P 0 [.ref 108, .int p0, .int p1] [] (0, 0) (LAY, RFu r, mem) := by
  refine r_aload_n hP d225_0 rfl ?_
  refine r_iconst (v := nI 0) hP d225_1 rfl ?_
  refine r_puti hP d225_2 fr_12_121 rfl (fun q => by cases q) ly_108 ?_
  refine r_aload_n hP d225_5 rfl ?_
  refine r_iload_n hP d225_6 rfl ?_
  exact r_callv (As := [.int p0]) (S := []) hP d225_7 cr_12_134 (by decide +kernel) rfl (by simp [Value.category]) rfl ly_108 (by simp [Value.category]) ⟨Nat.zero_le _, Nat.zero_le _⟩ k
theorem b225_10 {d : Nat} {P : xPr} {Q : xQr} {r : Nat} {mem : Nat → Nat → Int32} (hP : Cl d none 225 P Q) {x1 : Int32} {x2 : Int32} {y0 : Int32}
    (kt : y0 = 0 → P 32 [.ref 108, .int x1, .int x2] [] (0, 0) (LAY, RFu r, mem)) (kf : ¬ y0 = 0 → P 13 [.ref 108, .int x1, .int x2] [] (0, 0) (LAY, RFu r, mem)) : P 10 [.ref 108, .int x1, .int x2] [.int y0] (0, 0) (LAY, RFu r, mem) := by
  exact r_if (t := 32) hP d225_10 (by decide) kt kf
theorem b225_13 {d : Nat} {P : xPr} {Q : xQr} {r : Nat} {mem : Nat → Nat → Int32} (hP : Cl d none 225 P Q) {x1 : Int32} {x2 : Int32}
    (k : xCall d 158 [.int x2, .int (nI 0), .int (nI 100)] (LAY, RFu r, mem) (Bk P 17 [.ref 108, .int x1, .int x2] [] (0, 0))) : P 13 [.ref 108, .int x1, .int x2] [] (0, 0) (LAY, RFu r, mem) := by
  refine r_iload_n hP d225_13 rfl ?_
  refine r_iconst (v := nI 0) hP d225_14 rfl ?_
  refine r_bipush (v := nI 100) hP d225_15 rfl ?_
  exact r_calls (As := [.int x2, .int (nI 0), .int (nI 100)]) (S := []) hP d225_17 cr_12_130 (by decide +kernel) rfl (by simp [Value.category]) rfl (by simp [Value.category]) ⟨Nat.zero_le _, Nat.zero_le _⟩ k
theorem b225_20 {d : Nat} {P : xPr} {Q : xQr} {r : Nat} {mem : Nat → Nat → Int32} (hP : Cl d none 225 P Q) {x1 : Int32} {x2 : Int32} {y0 : Int32}
    (kt : y0 = 0 → P 32 [.ref 108, .int x1, .int x2] [] (0, 0) (LAY, RFu r, mem)) (kf : ¬ y0 = 0 → P 23 [.ref 108, .int x1, .int x2] [] (0, 0) (LAY, RFu r, mem)) : P 20 [.ref 108, .int x1, .int x2] [.int y0] (0, 0) (LAY, RFu r, mem) := by
  exact r_if (t := 32) hP d225_20 (by decide) kt kf
theorem b225_23 {d : Nat} {P : xPr} {Q : xQr} {r : Nat} {mem : Nat → Nat → Int32} (hP : Cl d none 225 P Q) {x1 : Int32} {x2 : Int32}
    (kt : ¬ (mem 108 45) = (nI 8) → P 34 [.ref 108, .int x1, .int x2] [] (0, 0) (LAY, RFu r, mem)) (kf : (mem 108 45) = (nI 8) → P 32 [.ref 108, .int x1, .int x2] [] (0, 0) (LAY, RFu r, mem)) : P 23 [.ref 108, .int x1, .int x2] [] (0, 0) (LAY, RFu r, mem) := by
  refine r_aload_n hP d225_23 rfl ?_
  refine r_geti hP d225_24 fr_12_308 rfl ly_108 ?_
  refine r_bipush (v := nI 8) hP d225_27 rfl ?_
  exact r_icmp (t := 34) hP d225_29 (by decide) kt (fun q => kf (Decidable.of_not_not q))
theorem b225_32 {d : Nat} {P : xPr} {Q : xQr} {r : Nat} {mem : Nat → Nat → Int32} (hP : Cl d none 225 P Q) {v0 : Value} {v1 : Value} {v2 : Value}
    (k : Q (some (.int (-1))) (LAY, RFu r, mem)) : P 32 [v0, v1, v2] [] (0, 0) (LAY, RFu r, mem) := by
  refine r_iconst (v := (-1)) hP d225_32 rfl ?_
  exact r_iret hP d225_33 rfl k
theorem b225_34 {d : Nat} {P : xPr} {Q : xQr} {r : Nat} {mem : Nat → Nat → Int32} (hP : Cl d none 225 P Q) {x1 : Int32} {x2 : Int32} (hi43 : vp_in (mem 108 45) 8) (hi53 : vp_in ((xu2 mem 138 (mem 108 45).toNatClampNeg x1) 108 45) 8)
    (k : Q (some (.int ((xu2 (xu2 (xu2 mem 138 (mem 108 45).toNatClampNeg x1) 139 ((xu2 mem 138 (mem 108 45).toNatClampNeg x1) 108 45).toNatClampNeg x2) 108 45 (((xu2 (xu2 mem 138 (mem 108 45).toNatClampNeg x1) 139 ((xu2 mem 138 (mem 108 45).toNatClampNeg x1) 108 45).toNatClampNeg x2) 108 45) + (nI 1))) 108 45))) (LAY, RFu r, xu2 (xu2 (xu2 mem 138 (mem 108 45).toNatClampNeg x1) 139 ((xu2 mem 138 (mem 108 45).toNatClampNeg x1) 108 45).toNatClampNeg x2) 108 45 (((xu2 (xu2 mem 138 (mem 108 45).toNatClampNeg x1) 139 ((xu2 mem 138 (mem 108 45).toNatClampNeg x1) 108 45).toNatClampNeg x2) 108 45) + (nI 1)))) : P 34 [.ref 108, .int x1, .int x2] [] (0, 0) (LAY, RFu r, mem) := by
  refine r_aload_n hP d225_34 rfl ?_
  refine r_getr (a := 138) hP d225_35 fr_12_102 rfl ly_108 rg_108_43 ?_
  refine r_aload_n hP d225_38 rfl ?_
  refine r_geti hP d225_39 fr_12_308 rfl ly_108 ?_
  refine r_iload_n hP d225_42 rfl ?_
  refine r_iastore hP d225_43 ly_138 hi43 ?_
  refine r_aload_n hP d225_44 rfl ?_
  refine r_getr (a := 139) hP d225_45 fr_12_105 rfl ly_108 rg_108_44 ?_
  refine r_aload_n hP d225_48 rfl ?_
  refine r_geti hP d225_49 fr_12_308 rfl ly_108 ?_
  refine r_iload_n hP d225_52 rfl ?_
  refine r_iastore hP d225_53 ly_139 hi53 ?_
  refine r_aload_n hP d225_54 rfl ?_
  refine r_dup hP d225_55 rfl ?_
  refine r_geti hP d225_56 fr_12_308 rfl ly_108 ?_
  refine r_iconst (v := nI 1) hP d225_59 rfl ?_
  refine r_iadd hP d225_60 ?_
  refine r_puti hP d225_61 fr_12_308 rfl (fun q => by cases q) ly_108 ?_
  refine r_aload_n hP d225_64 rfl ?_
  refine r_geti hP d225_65 fr_12_308 rfl ly_108 ?_
  exact r_iret hP d225_68 rfl k
theorem d226_0 : decode (xB 226) 0 = .ok (.aload_n 0, 1) := by decide +kernel
theorem d226_1 : decode (xB 226) 1 = .ok (.iconst 0, 1) := by decide +kernel
theorem d226_2 : decode (xB 226) 2 = .ok (.putfield 121, 3) := by decide +kernel
theorem d226_5 : decode (xB 226) 5 = .ok (.aload_n 0, 1) := by decide +kernel
theorem d226_6 : decode (xB 226) 6 = .ok (.getfield 308, 3) := by decide +kernel
theorem d226_9 : decode (xB 226) 9 = .ok (.istore_n 1, 1) := by decide +kernel
theorem d226_10 : decode (xB 226) 10 = .ok (.aload_n 0, 1) := by decide +kernel
theorem d226_11 : decode (xB 226) 11 = .ok (.iconst 0, 1) := by decide +kernel
theorem d226_12 : decode (xB 226) 12 = .ok (.putfield 308, 3) := by decide +kernel
theorem d226_15 : decode (xB 226) 15 = .ok (.iload_n 1, 1) := by decide +kernel
theorem d226_16 : decode (xB 226) 16 = .ok (.ireturn, 1) := by decide +kernel
theorem b226_0 {d : Nat} {P : xPr} {Q : xQr} {r : Nat} {mem : Nat → Nat → Int32} (hP : Cl d none 226 P Q)
    (k : Q (some (.int ((xu2 mem 108 20 (nI 0)) 108 45))) (LAY, RFu r, xu2 (xu2 mem 108 20 (nI 0)) 108 45 (nI 0))) : P 0 [.ref 108, .null] [] (0, 0) (LAY, RFu r, mem) := by
  refine r_aload_n hP d226_0 rfl ?_
  refine r_iconst (v := nI 0) hP d226_1 rfl ?_
  refine r_puti hP d226_2 fr_12_121 rfl (fun q => by cases q) ly_108 ?_
  refine r_aload_n hP d226_5 rfl ?_
  refine r_geti hP d226_6 fr_12_308 rfl ly_108 ?_
  refine r_istore_n (L' := [.ref 108, .int ((xu2 mem 108 20 (nI 0)) 108 45)]) hP d226_9 (Nat.le_of_ble_eq_true rfl) rfl ?_
  refine r_aload_n hP d226_10 rfl ?_
  refine r_iconst (v := nI 0) hP d226_11 rfl ?_
  refine r_puti hP d226_12 fr_12_308 rfl (fun q => by cases q) ly_108 ?_
  refine r_iload_n hP d226_15 rfl ?_
  exact r_iret hP d226_16 rfl k
theorem d227_0 : decode (xB 227) 0 = .ok (.aload_n 0, 1) := by decide +kernel
theorem d227_1 : decode (xB 227) 1 = .ok (.iload_n 1, 1) := by decide +kernel
theorem d227_2 : decode (xB 227) 2 = .ok (.aload_n 0, 1) := by decide +kernel
theorem d227_3 : decode (xB 227) 3 = .ok (.getfield 99, 3) := by decide +kernel
theorem d227_6 : decode (xB 227) 6 = .ok (.invokevirtual 304, 3) := by decide +kernel
theorem d227_9 : decode (xB 227) 9 = .ok (.pop, 1) := by decide +kernel
theorem d227_10 : decode (xB 227) 10 = .ok (.iconst 0, 1) := by decide +kernel
theorem d227_11 : decode (xB 227) 11 = .ok (.istore_n 2, 1) := by decide +kernel
theorem d227_12 : decode (xB 227) 12 = .ok (.iload_n 2, 1) := by decide +kernel
theorem d227_13 : decode (xB 227) 13 = .ok (.aload_n 0, 1) := by decide +kernel
theorem d227_14 : decode (xB 227) 14 = .ok (.getfield 308, 3) := by decide +kernel
theorem d227_17 : decode (xB 227) 17 = .ok (.if_icmp .ge 31, 3) := by decide +kernel
theorem d227_20 : decode (xB 227) 20 = .ok (.aload_n 0, 1) := by decide +kernel
theorem d227_21 : decode (xB 227) 21 = .ok (.getfield 99, 3) := by decide +kernel
theorem d227_24 : decode (xB 227) 24 = .ok (.aload_n 0, 1) := by decide +kernel
theorem d227_25 : decode (xB 227) 25 = .ok (.getfield 102, 3) := by decide +kernel
theorem d227_28 : decode (xB 227) 28 = .ok (.iload_n 2, 1) := by decide +kernel
theorem d227_29 : decode (xB 227) 29 = .ok (.iaload, 1) := by decide +kernel
theorem d227_30 : decode (xB 227) 30 = .ok (.iaload, 1) := by decide +kernel
theorem d227_31 : decode (xB 227) 31 = .ok (.aload_n 0, 1) := by decide +kernel
theorem d227_32 : decode (xB 227) 32 = .ok (.getfield 105, 3) := by decide +kernel
theorem d227_35 : decode (xB 227) 35 = .ok (.iload_n 2, 1) := by decide +kernel
theorem d227_36 : decode (xB 227) 36 = .ok (.iaload, 1) := by decide +kernel
theorem d227_37 : decode (xB 227) 37 = .ok (.if_icmp .eq 5, 3) := by decide +kernel
theorem d227_40 : decode (xB 227) 40 = .ok (.iconst 0, 1) := by decide +kernel
theorem d227_41 : decode (xB 227) 41 = .ok (.ireturn, 1) := by decide +kernel
theorem d227_42 : decode (xB 227) 42 = .ok (.iinc 2 1, 3) := by decide +kernel
theorem d227_45 : decode (xB 227) 45 = .ok (.goto (-33), 3) := by decide +kernel
theorem d227_48 : decode (xB 227) 48 = .ok (.iconst 1, 1) := by decide +kernel
theorem d227_49 : decode (xB 227) 49 = .ok (.ireturn, 1) := by decide +kernel
theorem b227_0 {d : Nat} {P : xPr} {Q : xQr} {r : Nat} {mem : Nat → Nat → Int32} (hP : Cl d none 227 P Q) {p0 : Int32}
    (k : xCall d 222 [.ref 108, .int p0, .ref 137] (LAY, RFu r, mem) (Bk P 6 [.ref 108, .int p0, .null] [] (0, 0))) : P 0 [.ref 108, .int p0, .null] [] (0, 0) (LAY, RFu r, mem) := by
  refine r_aload_n hP d227_0 rfl ?_
  refine r_iload_n hP d227_1 rfl ?_
  refine r_aload_n hP d227_2 rfl ?_
  refine r_getr (a := 137) hP d227_3 fr_12_99 rfl ly_108 rg_108_42 ?_
  exact r_callv (As := [.int p0, .ref 137]) (S := []) hP d227_6 cr_12_304 (by decide +kernel) rfl (by simp [Value.category]) rfl ly_108 (by simp [Value.category]) ⟨Nat.zero_le _, Nat.zero_le _⟩ k
theorem b227_9 {d : Nat} {P : xPr} {Q : xQr} {r : Nat} {mem : Nat → Nat → Int32} (hP : Cl d none 227 P Q) {v1 : Value} {v2 : Value} {y0 : Int32}
    (k : P 12 [.ref 108, v1, .int (nI 0)] [] (0, 0) (LAY, RFu r, mem)) : P 9 [.ref 108, v1, v2] [.int y0] (0, 0) (LAY, RFu r, mem) := by
  refine r_pop hP d227_9 rfl ?_
  refine r_iconst (v := nI 0) hP d227_10 rfl ?_
  refine r_istore_n (L' := [.ref 108, v1, .int (nI 0)]) hP d227_11 (Nat.le_of_ble_eq_true rfl) rfl ?_
  exact k
theorem b227_12 {d : Nat} {P : xPr} {Q : xQr} {r : Nat} {mem : Nat → Nat → Int32} (hP : Cl d none 227 P Q) {v1 : Value} {x2 : Int32}
    (kt : (mem 108 45) ≤ x2 → P 48 [.ref 108, v1, .int x2] [] (0, 0) (LAY, RFu r, mem)) (kf : ¬ (mem 108 45) ≤ x2 → P 20 [.ref 108, v1, .int x2] [] (0, 0) (LAY, RFu r, mem)) : P 12 [.ref 108, v1, .int x2] [] (0, 0) (LAY, RFu r, mem) := by
  refine r_iload_n hP d227_12 rfl ?_
  refine r_aload_n hP d227_13 rfl ?_
  refine r_geti hP d227_14 fr_12_308 rfl ly_108 ?_
  exact r_icmp (t := 48) hP d227_17 (by decide) kt kf
theorem b227_20 {d : Nat} {P : xPr} {Q : xQr} {r : Nat} {mem : Nat → Nat → Int32} (hP : Cl d none 227 P Q) {v1 : Value} {x2 : Int32} (hi29 : vp_in x2 8) (hi30 : vp_in (mem 138 x2.toNatClampNeg) 8) (hi36 : vp_in x2 8)
    (kt : (mem 137 (mem 138 x2.toNatClampNeg).toNatClampNeg) = (mem 139 x2.toNatClampNeg) → P 42 [.ref 108, v1, .int x2] [] (0, 0) (LAY, RFu r, mem)) (kf : ¬ (mem 137 (mem 138 x2.toNatClampNeg).toNatClampNeg) = (mem 139 x2.toNatClampNeg) → P 40 [.ref 108, v1, .int x2] [] (0, 0) (LAY, RFu r, mem)) : P 20 [.ref 108, v1, .int x2] [] (0, 0) (LAY, RFu r, mem) := by
  refine r_aload_n hP d227_20 rfl ?_
  refine r_getr (a := 137) hP d227_21 fr_12_99 rfl ly_108 rg_108_42 ?_
  refine r_aload_n hP d227_24 rfl ?_
  refine r_getr (a := 138) hP d227_25 fr_12_102 rfl ly_108 rg_108_43 ?_
  refine r_iload_n hP d227_28 rfl ?_
  refine r_iaload hP d227_29 ly_138 hi29 ?_
  refine r_iaload hP d227_30 ly_137 hi30 ?_
  refine r_aload_n hP d227_31 rfl ?_
  refine r_getr (a := 139) hP d227_32 fr_12_105 rfl ly_108 rg_108_44 ?_
  refine r_iload_n hP d227_35 rfl ?_
  refine r_iaload hP d227_36 ly_139 hi36 ?_
  exact r_icmp (t := 42) hP d227_37 (by decide) kt kf
theorem b227_40 {d : Nat} {P : xPr} {Q : xQr} {r : Nat} {mem : Nat → Nat → Int32} (hP : Cl d none 227 P Q) {v0 : Value} {v1 : Value} {v2 : Value} (hzr : nI 0 = 0 ∨ nI 0 = 1)
    (k : Q (some (.int (nI 0))) (LAY, RFu r, mem)) : P 40 [v0, v1, v2] [] (0, 0) (LAY, RFu r, mem) := by
  refine r_iconst (v := nI 0) hP d227_40 rfl ?_
  exact r_zret hP d227_41 rfl hzr k
theorem b227_42 {d : Nat} {P : xPr} {Q : xQr} {r : Nat} {mem : Nat → Nat → Int32} (hP : Cl d none 227 P Q) {v1 : Value} {x2 : Int32}
    (k : P 12 [.ref 108, v1, .int (x2 + nI 1)] [] (0, 0) (LAY, RFu r, mem)) : P 42 [.ref 108, v1, .int x2] [] (0, 0) (LAY, RFu r, mem) := by
  refine r_iinc (v := nI 1) (L' := [.ref 108, v1, .int (x2 + nI 1)]) hP d227_42 rfl rfl rfl ?_
  refine r_goto (t := 12) hP d227_45 (by decide) ?_
  exact k
theorem b227_48 {d : Nat} {P : xPr} {Q : xQr} {r : Nat} {mem : Nat → Nat → Int32} (hP : Cl d none 227 P Q) {v0 : Value} {v1 : Value} {v2 : Value} (hzr : nI 1 = 0 ∨ nI 1 = 1)
    (k : Q (some (.int (nI 1))) (LAY, RFu r, mem)) : P 48 [v0, v1, v2] [] (0, 0) (LAY, RFu r, mem) := by
  refine r_iconst (v := nI 1) hP d227_48 rfl ?_
  exact r_zret hP d227_49 rfl hzr k
theorem d228_0 : decode (xB 228) 0 = .ok (.aload_n 0, 1) := by decide +kernel
theorem d228_1 : decode (xB 228) 1 = .ok (.iconst 0, 1) := by decide +kernel
theorem d228_2 : decode (xB 228) 2 = .ok (.putfield 121, 3) := by decide +kernel
theorem d228_5 : decode (xB 228) 5 = .ok (.iload_n 1, 1) := by decide +kernel
theorem d228_6 : decode (xB 228) 6 = .ok (.iconst 0, 1) := by decide +kernel
theorem d228_7 : decode (xB 228) 7 = .ok (.bipush 100, 2) := by decide +kernel
theorem d228_9 : decode (xB 228) 9 = .ok (.invokestatic 130, 3) := by decide +kernel
theorem d228_12 : decode (xB 228) 12 = .ok (.ifCond .ne 5, 3) := by decide +kernel
theorem d228_15 : decode (xB 228) 15 = .ok (.iconst (-1), 1) := by decide +kernel
theorem d228_16 : decode (xB 228) 16 = .ok (.ireturn, 1) := by decide +kernel
theorem d228_17 : decode (xB 228) 17 = .ok (.iconst 0, 1) := by decide +kernel
theorem d228_18 : decode (xB 228) 18 = .ok (.istore_n 2, 1) := by decide +kernel
theorem d228_19 : decode (xB 228) 19 = .ok (.iconst 0, 1) := by decide +kernel
theorem d228_20 : decode (xB 228) 20 = .ok (.istore_n 3, 1) := by decide +kernel
theorem d228_21 : decode (xB 228) 21 = .ok (.iload_n 3, 1) := by decide +kernel
theorem d228_22 : decode (xB 228) 22 = .ok (.aload_n 0, 1) := by decide +kernel
theorem d228_23 : decode (xB 228) 23 = .ok (.getfield 138, 3) := by decide +kernel
theorem d228_26 : decode (xB 228) 26 = .ok (.if_icmp .ge 59, 3) := by decide +kernel
theorem d228_29 : decode (xB 228) 29 = .ok (.aload_n 0, 1) := by decide +kernel
theorem d228_30 : decode (xB 228) 30 = .ok (.getfield 9, 3) := by decide +kernel
theorem d228_33 : decode (xB 228) 33 = .ok (.iload_n 3, 1) := by decide +kernel
theorem d228_34 : decode (xB 228) 34 = .ok (.iaload, 1) := by decide +kernel
theorem d228_35 : decode (xB 228) 35 = .ok (.ifCond .ne 6, 3) := by decide +kernel
theorem d228_38 : decode (xB 228) 38 = .ok (.goto 41, 3) := by decide +kernel
theorem d228_41 : decode (xB 228) 41 = .ok (.aload_n 0, 1) := by decide +kernel
theorem d228_42 : decode (xB 228) 42 = .ok (.getfield 9, 3) := by decide +kernel
theorem d228_45 : decode (xB 228) 45 = .ok (.iload_n 3, 1) := by decide +kernel
theorem d228_46 : decode (xB 228) 46 = .ok (.dup2, 1) := by decide +kernel
theorem d228_47 : decode (xB 228) 47 = .ok (.iaload, 1) := by decide +kernel
theorem d228_48 : decode (xB 228) 48 = .ok (.iconst 1, 1) := by decide +kernel
theorem d228_49 : decode (xB 228) 49 = .ok (.isub, 1) := by decide +kernel
theorem d228_50 : decode (xB 228) 50 = .ok (.iastore, 1) := by decide +kernel
theorem d228_51 : decode (xB 228) 51 = .ok (.iload_n 2, 1) := by decide +kernel
theorem d228_52 : decode (xB 228) 52 = .ok (.aload_n 0, 1) := by decide +kernel
theorem d228_53 : decode (xB 228) 53 = .ok (.iload_n 1, 1) := by decide +kernel
theorem d228_54 : decode (xB 228) 54 = .ok (.invokevirtual 311, 3) := by decide +kernel
theorem d228_57 : decode (xB 228) 57 = .ok (.ifCond .eq 9, 3) := by decide +kernel
theorem d228_60 : decode (xB 228) 60 = .ok (.iconst 1, 1) := by decide +kernel
theorem d228_61 : decode (xB 228) 61 = .ok (.iload_n 3, 1) := by decide +kernel
theorem d228_62 : decode (xB 228) 62 = .ok (.ishl, 1) := by decide +kernel
theorem d228_63 : decode (xB 228) 63 = .ok (.goto 4, 3) := by decide +kernel
theorem d228_66 : decode (xB 228) 66 = .ok (.iconst 0, 1) := by decide +kernel
theorem d228_67 : decode (xB 228) 67 = .ok (.ior, 1) := by decide +kernel
theorem d228_68 : decode (xB 228) 68 = .ok (.istore_n 2, 1) := by decide +kernel
theorem d228_69 : decode (xB 228) 69 = .ok (.aload_n 0, 1) := by decide +kernel
theorem d228_70 : decode (xB 228) 70 = .ok (.getfield 9, 3) := by decide +kernel
theorem d228_73 : decode (xB 228) 73 = .ok (.iload_n 3, 1) := by decide +kernel
theorem d228_74 : decode (xB 228) 74 = .ok (.dup2, 1) := by decide +kernel
theorem d228_75 : decode (xB 228) 75 = .ok (.iaload, 1) := by decide +kernel
theorem d228_76 : decode (xB 228) 76 = .ok (.iconst 1, 1) := by decide +kernel
theorem d228_77 : decode (xB 228) 77 = .ok (.iadd, 1) := by decide +kernel
theorem d228_78 : decode (xB 228) 78 = .ok (.iastore, 1) := by decide +kernel
theorem d228_79 : decode (xB 228) 79 = .ok (.iinc 3 1, 3) := by decide +kernel
theorem d228_82 : decode (xB 228) 82 = .ok (.goto (-61), 3) := by decide +kernel
theorem d228_85 : decode (xB 228) 85 = .ok (.aload_n 0, 1) := by decide +kernel
theorem d228_86 : decode (xB 228) 86 = .ok (.iconst 0, 1) := by decide +kernel
theorem d228_87 : decode (xB 228) 87 = .ok (.putfield 124, 3) := by decide +kernel
theorem d228_90 : decode (xB 228) 90 = .ok (.aload_n 0, 1) := by decide +kernel
theorem d228_91 : decode (xB 228) 91 = .ok (.aload_n 0, 1) := by decide +kernel
theorem d228_92 : decode (xB 228) 92 = .ok (.iload_n 1, 1) := by decide +kernel
theorem d228_93 : decode (xB 228) 93 = .ok (.invokevirtual 311, 3) := by decide +kernel
theorem d228_96 : decode (xB 228) 96 = .ok (.ifCond .eq 7, 3) := by decide +kernel
theorem d228_99 : decode (xB 228) 99 = .ok (.iconst 1, 1) := by decide +kernel
theorem d228_100 : decode (xB 228) 100 = .ok (.goto 4, 3) := by decide +kernel
theorem d228_103 : decode (xB 228) 103 = .ok (.iconst 0, 1) := by decide +kernel
theorem d228_104 : decode (xB 228) 104 = .ok (.invokevirtual 258, 3) := by decide +kernel
theorem d228_107 : decode (xB 228) 107 = .ok (.iload_n 2, 1) := by decide +kernel
theorem d228_108 : decode (xB 228) 108 = .ok (.ireturn, 1) := by decide +kernel
theorem b228_0 {d : Nat} {P : xPr} {Q : xQr} {r : Nat} {mem : Nat → Nat → Int32} (hP : Cl d none 228 P Q) {p0 : Int32}
    (k : xCall d 158 [.int p0, .int (nI 0), .int (nI 100)] (LAY, RFu r, xu2 mem 108 20 (nI 0)) (Bk P 9 [.ref 108, .int p0, .null, .null] [] (0, 0))) : P 0 [.ref 108, .int p0, .null, .null] [] (0, 0) (LAY, RFu r, mem) := by
  refine r_aload_n hP d228_0 rfl ?_
  refine r_iconst (v := nI 0) hP d228_1 rfl ?_
  refine r_puti hP d228_2 fr_12_121 rfl (fun q => by cases q) ly_108 ?_
  refine r_iload_n hP d228_5 rfl ?_
  refine r_iconst (v := nI 0) hP d228_6 rfl ?_
  refine r_bipush (v := nI 100) hP d228_7 rfl ?_
  exact r_calls (As := [.int p0, .int (nI 0), .int (nI 100)]) (S := []) hP d228_9 cr_12_130 (by decide +kernel) rfl (by simp [Value.category]) rfl (by simp [Value.category]) ⟨Nat.zero_le _, Nat.zero_le _⟩ k
theorem b228_12 {d : Nat} {P : xPr} {Q : xQr} {r : Nat} {mem : Nat → Nat → Int32} (hP : Cl d none 228 P Q) {x1 : Int32} {v2 : Value} {v3 : Value} {y0 : Int32}
    (kt : ¬ y0 = 0 → P 17 [.ref 108, .int x1, v2, v3] [] (0, 0) (LAY, RFu r, mem)) (kf : y0 = 0 → P 15 [.ref 108, .int x1, v2, v3] [] (0, 0) (LAY, RFu r, mem)) : P 12 [.ref 108, .int x1, v2, v3] [.int y0] (0, 0) (LAY, RFu r, mem) := by
  exact r_if (t := 17) hP d228_12 (by decide) kt (fun q => kf (Decidable.of_not_not q))
theorem b228_15 {d : Nat} {P : xPr} {Q : xQr} {r : Nat} {mem : Nat → Nat → Int32} (hP : Cl d none 228 P Q) {v0 : Value} {v1 : Value} {v2 : Value} {v3 : Value}
    (k : Q (some (.int (-1))) (LAY, RFu r, mem)) : P 15 [v0, v1, v2, v3] [] (0, 0) (LAY, RFu r, mem) := by
  refine r_iconst (v := (-1)) hP d228_15 rfl ?_
  exact r_iret hP d228_16 rfl k
theorem b228_17 {d : Nat} {P : xPr} {Q : xQr} {r : Nat} {mem : Nat → Nat → Int32} (hP : Cl d none 228 P Q) {x1 : Int32} {v2 : Value} {v3 : Value}
    (k : P 21 [.ref 108, .int x1, .int (nI 0), .int (nI 0)] [] (0, 0) (LAY, RFu r, mem)) : P 17 [.ref 108, .int x1, v2, v3] [] (0, 0) (LAY, RFu r, mem) := by
  refine r_iconst (v := nI 0) hP d228_17 rfl ?_
  refine r_istore_n (L' := [.ref 108, .int x1, .int (nI 0), v3]) hP d228_18 (Nat.le_of_ble_eq_true rfl) rfl ?_
  refine r_iconst (v := nI 0) hP d228_19 rfl ?_
  refine r_istore_n (L' := [.ref 108, .int x1, .int (nI 0), .int (nI 0)]) hP d228_20 (Nat.le_of_ble_eq_true rfl) rfl ?_
  exact k
theorem b228_21 {d : Nat} {P : xPr} {Q : xQr} {r : Nat} {mem : Nat → Nat → Int32} (hP : Cl d none 228 P Q) {x1 : Int32} {x2 : Int32} {x3 : Int32}
    (kt : (mem 108 0) ≤ x3 → P 85 [.ref 108, .int x1, .int x2, .int x3] [] (0, 0) (LAY, RFu r, mem)) (kf : ¬ (mem 108 0) ≤ x3 → P 29 [.ref 108, .int x1, .int x2, .int x3] [] (0, 0) (LAY, RFu r, mem)) : P 21 [.ref 108, .int x1, .int x2, .int x3] [] (0, 0) (LAY, RFu r, mem) := by
  refine r_iload_n hP d228_21 rfl ?_
  refine r_aload_n hP d228_22 rfl ?_
  refine r_geti hP d228_23 fr_12_138 rfl ly_108 ?_
  exact r_icmp (t := 85) hP d228_26 (by decide) kt kf
theorem b228_29 {d : Nat} {P : xPr} {Q : xQr} {r : Nat} {mem : Nat → Nat → Int32} (hP : Cl d none 228 P Q) {x1 : Int32} {x2 : Int32} {x3 : Int32} (hi34 : vp_in x3 4)
    (kt : ¬ (mem 109 x3.toNatClampNeg) = 0 → P 41 [.ref 108, .int x1, .int x2, .int x3] [] (0, 0) (LAY, RFu r, mem)) (kf : (mem 109 x3.toNatClampNeg) = 0 → P 38 [.ref 108, .int x1, .int x2, .int x3] [] (0, 0) (LAY, RFu r, mem)) : P 29 [.ref 108, .int x1, .int x2, .int x3] [] (0, 0) (LAY, RFu r, mem) := by
  refine r_aload_n hP d228_29 rfl ?_
  refine r_getr (a := 109) hP d228_30 fr_12_9 rfl ly_108 rg_108_1 ?_
  refine r_iload_n hP d228_33 rfl ?_
  refine r_iaload hP d228_34 ly_109 hi34 ?_
  exact r_if (t := 41) hP d228_35 (by decide) kt (fun q => kf (Decidable.of_not_not q))
theorem b228_38 {d : Nat} {P : xPr} {Q : xQr} {r : Nat} {mem : Nat → Nat → Int32} (hP : Cl d none 228 P Q) {x1 : Int32} {x2 : Int32} {x3 : Int32}
    (k : P 79 [.ref 108, .int x1, .int x2, .int x3] [] (0, 0) (LAY, RFu r, mem)) : P 38 [.ref 108, .int x1, .int x2, .int x3] [] (0, 0) (LAY, RFu r, mem) := by
  refine r_goto (t := 79) hP d228_38 (by decide) ?_
  exact k
theorem b228_41 {d : Nat} {P : xPr} {Q : xQr} {r : Nat} {mem : Nat → Nat → Int32} (hP : Cl d none 228 P Q) {x1 : Int32} {x2 : Int32} {x3 : Int32} (hi47 : vp_in x3 4) (hi50 : vp_in x3 4)
    (k : xCall d 227 [.ref 108, .int x1] (LAY, RFu r, xu2 mem 109 x3.toNatClampNeg ((mem 109 x3.toNatClampNeg) - (nI 1))) (Bk P 54 [.ref 108, .int x1, .int x2, .int x3] [.int x2] (0, 0))) : P 41 [.ref 108, .int x1, .int x2, .int x3] [] (0, 0) (LAY, RFu r, mem) := by
  refine r_aload_n hP d228_41 rfl ?_
  refine r_getr (a := 109) hP d228_42 fr_12_9 rfl ly_108 rg_108_1 ?_
  refine r_iload_n hP d228_45 rfl ?_
  refine r_dup2 hP d228_46 rfl rfl ?_
  refine r_iaload hP d228_47 ly_109 hi47 ?_
  refine r_iconst (v := nI 1) hP d228_48 rfl ?_
  refine r_isub hP d228_49 ?_
  refine r_iastore hP d228_50 ly_109 hi50 ?_
  refine r_iload_n hP d228_51 rfl ?_
  refine r_aload_n hP d228_52 rfl ?_
  refine r_iload_n hP d228_53 rfl ?_
  exact r_callv (As := [.int x1]) (S := [.int x2]) hP d228_54 cr_12_311 (by decide +kernel) rfl (by simp [Value.category]) rfl ly_108 (by simp [Value.category]) ⟨Nat.zero_le _, Nat.zero_le _⟩ k
theorem b228_57 {d : Nat} {P : xPr} {Q : xQr} {r : Nat} {mem : Nat → Nat → Int32} (hP : Cl d none 228 P Q) {x1 : Int32} {v2 : Value} {x3 : Int32} {y0 : Int32} {y1 : Int32}
    (kt : y1 = 0 → P 66 [.ref 108, .int x1, v2, .int x3] [.int y0] (0, 0) (LAY, RFu r, mem)) (kf : ¬ y1 = 0 → P 60 [.ref 108, .int x1, v2, .int x3] [.int y0] (0, 0) (LAY, RFu r, mem)) : P 57 [.ref 108, .int x1, v2, .int x3] [.int y1, .int y0] (0, 0) (LAY, RFu r, mem) := by
  exact r_if (t := 66) hP d228_57 (by decide) kt kf
theorem b228_60 {d : Nat} {P : xPr} {Q : xQr} {r : Nat} {mem : Nat → Nat → Int32} (hP : Cl d none 228 P Q) {x1 : Int32} {v2 : Value} {x3 : Int32} {y0 : Int32}
    (k : P 67 [.ref 108, .int x1, v2, .int x3] [.int ((nI 1) <<< (x3 &&& 31)), .int y0] (0, 0) (LAY, RFu r, mem)) : P 60 [.ref 108, .int x1, v2, .int x3] [.int y0] (0, 0) (LAY, RFu r, mem) := by
  refine r_iconst (v := nI 1) hP d228_60 rfl ?_
  refine r_iload_n hP d228_61 rfl ?_
  refine r_ishl hP d228_62 ?_
  refine r_goto (t := 67) hP d228_63 (by decide) ?_
  exact k
theorem b228_66 {d : Nat} {P : xPr} {Q : xQr} {r : Nat} {mem : Nat → Nat → Int32} (hP : Cl d none 228 P Q) {x1 : Int32} {v2 : Value} {x3 : Int32} {y0 : Int32}
    (k : P 67 [.ref 108, .int x1, v2, .int x3] [.int (nI 0), .int y0] (0, 0) (LAY, RFu r, mem)) : P 66 [.ref 108, .int x1, v2, .int x3] [.int y0] (0, 0) (LAY, RFu r, mem) := by
  refine r_iconst (v := nI 0) hP d228_66 rfl ?_
  exact k
theorem b228_67 {d : Nat} {P : xPr} {Q : xQr} {r : Nat} {mem : Nat → Nat → Int32} (hP : Cl d none 228 P Q) {x1 : Int32} {v2 : Value} {x3 : Int32} {y0 : Int32} {y1 : Int32} (hi75 : vp_in x3 4) (hi78 : vp_in x3 4)
    (k : P 79 [.ref 108, .int x1, .int (y0 ||| y1), .int x3] [] (0, 0) (LAY, RFu r, xu2 mem 109 x3.toNatClampNeg ((mem 109 x3.toNatClampNeg) + (nI 1)))) : P 67 [.ref 108, .int x1, v2, .int x3] [.int y1, .int y0] (0, 0) (LAY, RFu r, mem) := by
  refine r_ior hP d228_67 ?_
  refine r_istore_n (L' := [.ref 108, .int x1, .int (y0 ||| y1), .int x3]) hP d228_68 (Nat.le_of_ble_eq_true rfl) rfl ?_
  refine r_aload_n hP d228_69 rfl ?_
  refine r_getr (a := 109) hP d228_70 fr_12_9 rfl ly_108 rg_108_1 ?_
  refine r_iload_n hP d228_73 rfl ?_
  refine r_dup2 hP d228_74 rfl rfl ?_
  refine r_iaload hP d228_75 ly_109 hi75 ?_
  refine r_iconst (v := nI 1) hP d228_76 rfl ?_
  refine r_iadd hP d228_77 ?_
  refine r_iastore hP d228_78 ly_109 hi78 ?_
  exact k
theorem b228_79 {d : Nat} {P : xPr} {Q : xQr} {r : Nat} {mem : Nat → Nat → Int32} (hP : Cl d none 228 P Q) {x1 : Int32} {x2 : Int32} {x3 : Int32}
    (k : P 21 [.ref 108, .int x1, .int x2, .int (x3 + nI 1)] [] (0, 0) (LAY, RFu r, mem)) : P 79 [.ref 108, .int x1, .int x2, .int x3] [] (0, 0) (LAY, RFu r, mem) := by
  refine r_iinc (v := nI 1) (L' := [.ref 108, .int x1, .int x2, .int (x3 + nI 1)]) hP d228_79 rfl rfl rfl ?_
  refine r_goto (t := 21) hP d228_82 (by decide) ?_
  exact k
theorem b228_85 {d : Nat} {P : xPr} {Q : xQr} {r : Nat} {mem : Nat → Nat → Int32} (hP : Cl d none 228 P Q) {x1 : Int32} {x2 : Int32} {v3 : Value}
    (k : xCall d 227 [.ref 108, .int x1] (LAY, RFu r, xu2 mem 108 19 (nI 0)) (Bk P 93 [.ref 108, .int x1, .int x2, v3] [.ref 108] (0, 0))) : P 85 [.ref 108, .int x1, .int x2, v3] [] (0, 0) (LAY, RFu r, mem) := by
  refine r_aload_n hP d228_85 rfl ?_
  refine r_iconst (v := nI 0) hP d228_86 rfl ?_
  refine r_puti hP d228_87 fr_12_124 rfl (fun q => by cases q) ly_108 ?_
  refine r_aload_n hP d228_90 rfl ?_
  refine r_aload_n hP d228_91 rfl ?_
  refine r_iload_n hP d228_92 rfl ?_
  exact r_callv (As := [.int x1]) (S := [.ref 108]) hP d228_93 cr_12_311 (by decide +kernel) rfl (by simp [Value.category]) rfl ly_108 (by simp [Value.category]) ⟨Nat.zero_le _, Nat.zero_le _⟩ k
theorem b228_96 {d : Nat} {P : xPr} {Q : xQr} {r : Nat} {mem : Nat → Nat → Int32} (hP : Cl d none 228 P Q) {v0 : Value} {v1 : Value} {x2 : Int32} {v3 : Value} {y1 : Int32}
    (kt : y1 = 0 → P 103 [v0, v1, .int x2, v3] [.ref 108] (0, 0) (LAY, RFu r, mem)) (kf : ¬ y1 = 0 → P 99 [v0, v1, .int x2, v3] [.ref 108] (0, 0) (LAY, RFu r, mem)) : P 96 [v0, v1, .int x2, v3] [.int y1, .ref 108] (0, 0) (LAY, RFu r, mem) := by
  exact r_if (t := 103) hP d228_96 (by decide) kt kf
theorem b228_99 {d : Nat} {P : xPr} {Q : xQr} {r : Nat} {mem : Nat → Nat → Int32} (hP : Cl d none 228 P Q) {v0 : Value} {v1 : Value} {x2 : Int32} {v3 : Value}
    (k : P 104 [v0, v1, .int x2, v3] [.int (nI 1), .ref 108] (0, 0) (LAY, RFu r, mem)) : P 99 [v0, v1, .int x2, v3] [.ref 108] (0, 0) (LAY, RFu r, mem) := by
  refine r_iconst (v := nI 1) hP d228_99 rfl ?_
  refine r_goto (t := 104) hP d228_100 (by decide) ?_
  exact k
theorem b228_103 {d : Nat} {P : xPr} {Q : xQr} {r : Nat} {mem : Nat → Nat → Int32} (hP : Cl d none 228 P Q) {v0 : Value} {v1 : Value} {x2 : Int32} {v3 : Value}
    (k : P 104 [v0, v1, .int x2, v3] [.int (nI 0), .ref 108] (0, 0) (LAY, RFu r, mem)) : P 103 [v0, v1, .int x2, v3] [.ref 108] (0, 0) (LAY, RFu r, mem) := by
  refine r_iconst (v := nI 0) hP d228_103 rfl ?_
  exact k
theorem b228_104 {d : Nat} {P : xPr} {Q : xQr} {r : Nat} {mem : Nat → Nat → Int32} (hP : Cl d none 228 P Q) {v0 : Value} {v1 : Value} {x2 : Int32} {v3 : Value} {y1 : Int32}
    (k : xCall d 161 [.ref 108, .int y1] (LAY, RFu r, mem) (Bk P 104 [v0, v1, .int x2, v3] [] (0, 0))) : P 104 [v0, v1, .int x2, v3] [.int y1, .ref 108] (0, 0) (LAY, RFu r, mem) := by
  exact r_callv (As := [.int y1]) (S := []) hP d228_104 cr_12_258 (by decide +kernel) rfl (by simp [Value.category]) rfl ly_108 (by simp [Value.category]) ⟨Nat.zero_le _, Nat.zero_le _⟩ k
theorem b228_107 {d : Nat} {P : xPr} {Q : xQr} {r : Nat} {mem : Nat → Nat → Int32} (hP : Cl d none 228 P Q) {v0 : Value} {v1 : Value} {x2 : Int32} {v3 : Value}
    (k : Q (some (.int x2)) (LAY, RFu r, mem)) : P 107 [v0, v1, .int x2, v3] [] (0, 0) (LAY, RFu r, mem) := by
  refine r_iload_n hP d228_107 rfl ?_
  exact r_iret hP d228_108 rfl k
theorem d229_0 : decode (xB 229) 0 = .ok (.aload_n 0, 1) := by decide +kernel
theorem d229_1 : decode (xB 229) 1 = .ok (.iconst 0, 1) := by decide +kernel
theorem d229_2 : decode (xB 229) 2 = .ok (.putfield 121, 3) := by decide +kernel
theorem d229_5 : decode (xB 229) 5 = .ok (.iload_n 1, 1) := by decide +kernel
theorem d229_6 : decode (xB 229) 6 = .ok (.iconst 0, 1) := by decide +kernel
theorem d229_7 : decode (xB 229) 7 = .ok (.sipush 200, 3) := by decide +kernel
theorem d229_10 : decode (xB 229) 10 = .ok (.invokestatic 130, 3) := by decide +kernel
theorem d229_13 : decode (xB 229) 13 = .ok (.ifCond .ne 5, 3) := by decide +kernel
theorem d229_16 : decode (xB 229) 16 = .ok (.iconst (-1), 1) := by decide +kernel
theorem d229_17 : decode (xB 229) 17 = .ok (.ireturn, 1) := by decide +kernel
theorem d229_18 : decode (xB 229) 18 = .ok (.aload_n 0, 1) := by decide +kernel
theorem d229_19 : decode (xB 229) 19 = .ok (.getfield 127, 3) := by decide +kernel
theorem d229_22 : decode (xB 229) 22 = .ok (.ifCond .ne 6, 3) := by decide +kernel
theorem d229_25 : decode (xB 229) 25 = .ok (.bipush (-2), 2) := by decide +kernel
theorem d229_27 : decode (xB 229) 27 = .ok (.ireturn, 1) := by decide +kernel
theorem d229_28 : decode (xB 229) 28 = .ok (.iconst 0, 1) := by decide +kernel
theorem d229_29 : decode (xB 229) 29 = .ok (.istore_n 2, 1) := by decide +kernel
theorem d229_30 : decode (xB 229) 30 = .ok (.iconst 0, 1) := by decide +kernel
theorem d229_31 : decode (xB 229) 31 = .ok (.istore_n 3, 1) := by decide +kernel
theorem d229_32 : decode (xB 229) 32 = .ok (.aload_n 0, 1) := by decide +kernel
theorem d229_33 : decode (xB 229) 33 = .ok (.iconst 0, 1) := by decide +kernel
theorem d229_34 : decode (xB 229) 34 = .ok (.putfield 124, 3) := by decide +kernel
theorem d229_37 : decode (xB 229) 37 = .ok (.iconst 0, 1) := by decide +kernel
theorem d229_38 : decode (xB 229) 38 = .ok (.istore 4, 2) := by decide +kernel
theorem d229_40 : decode (xB 229) 40 = .ok (.iload 4, 2) := by decide +kernel
theorem d229_42 : decode (xB 229) 42 = .ok (.iconst 4, 1) := by decide +kernel
theorem d229_43 : decode (xB 229) 43 = .ok (.if_icmp .ge 150, 3) := by decide +kernel
theorem d229_46 : decode (xB 229) 46 = .ok (.aload_n 0, 1) := by decide +kernel
theorem d229_47 : decode (xB 229) 47 = .ok (.iload 4, 2) := by decide +kernel
theorem d229_49 : decode (xB 229) 49 = .ok (.putfield 205, 3) := by decide +kernel
theorem d229_52 : decode (xB 229) 52 = .ok (.aload_n 0, 1) := by decide +kernel
theorem d229_53 : decode (xB 229) 53 = .ok (.aload_n 0, 1) := by decide +kernel
theorem d229_54 : decode (xB 229) 54 = .ok (.getfield 87, 3) := by decide +kernel
theorem d229_57 : decode (xB 229) 57 = .ok (.iconst 0, 1) := by decide +kernel
theorem d229_58 : decode (xB 229) 58 = .ok (.invokevirtual 245, 3) := by decide +kernel
theorem d229_61 : decode (xB 229) 61 = .ok (.iconst 0, 1) := by decide +kernel
theorem d229_62 : decode (xB 229) 62 = .ok (.istore 5, 2) := by decide +kernel
theorem d229_64 : decode (xB 229) 64 = .ok (.iload 5, 2) := by decide +kernel
theorem d229_66 : decode (xB 229) 66 = .ok (.iload_n 1, 1) := by decide +kernel
theorem d229_67 : decode (xB 229) 67 = .ok (.if_icmp .ge 14, 3) := by decide +kernel
theorem d229_70 : decode (xB 229) 70 = .ok (.aload_n 0, 1) := by decide +kernel
theorem d229_71 : decode (xB 229) 71 = .ok (.invokevirtual 252, 3) := by decide +kernel
theorem d229_74 : decode (xB 229) 74 = .ok (.pop, 1) := by decide +kernel
theorem d229_75 : decode (xB 229) 75 = .ok (.iinc 5 1, 3) := by decide +kernel
theorem d229_78 : decode (xB 229) 78 = .ok (.goto (-14), 3) := by decide +kernel
theorem d229_81 : decode (xB 229) 81 = .ok (.aload_n 0, 1) := by decide +kernel
theorem d229_82 : decode (xB 229) 82 = .ok (.getfield 41, 3) := by decide +kernel
theorem d229_85 : decode (xB 229) 85 = .ok (.iconst 0, 1) := by decide +kernel
theorem d229_86 : decode (xB 229) 86 = .ok (.iaload, 1) := by decide +kernel
theorem d229_87 : decode (xB 229) 87 = .ok (.istore 5, 2) := by decide +kernel
theorem d229_89 : decode (xB 229) 89 = .ok (.aload_n 0, 1) := by decide +kernel
theorem d229_90 : decode (xB 229) 90 = .ok (.getfield 41, 3) := by decide +kernel
theorem d229_93 : decode (xB 229) 93 = .ok (.iconst 0, 1) := by decide +kernel
theorem d229_94 : decode (xB 229) 94 = .ok (.iaload, 1) := by decide +kernel
theorem d229_95 : decode (xB 229) 95 = .ok (.istore 6, 2) := by decide +kernel
theorem d229_97 : decode (xB 229) 97 = .ok (.iconst 0, 1) := by decide +kernel
theorem d229_98 : decode (xB 229) 98 = .ok (.istore 7, 2) := by decide +kernel
theorem d229_100 : decode (xB 229) 100 = .ok (.iload 7, 2) := by decide +kernel
theorem d229_102 : decode (xB 229) 102 = .ok (.aload_n 0, 1) := by decide +kernel
theorem d229_103 : decode (xB 229) 103 = .ok (.getfield 127, 3) := by decide +kernel
theorem d229_106 : decode (xB 229) 106 = .ok (.if_icmp .ge 37, 3) := by decide +kernel
theorem d229_109 : decode (xB 229) 109 = .ok (.iload 5, 2) := by decide +kernel
theorem d229_111 : decode (xB 229) 111 = .ok (.aload_n 0, 1) := by decide +kernel
theorem d229_112 : decode (xB 229) 112 = .ok (.getfield 41, 3) := by decide +kernel
theorem d229_115 : decode (xB 229) 115 = .ok (.iload 7, 2) := by decide +kernel
theorem d229_117 : decode (xB 229) 117 = .ok (.iaload, 1) := by decide +kernel
theorem d229_118 : decode (xB 229) 118 = .ok (.invokestatic 222, 3) := by decide +kernel
theorem d229_121 : decode (xB 229) 121 = .ok (.istore 5, 2) := by decide +kernel
theorem d229_123 : decode (xB 229) 123 = .ok (.iload 6, 2) := by decide +kernel
theorem d229_125 : decode (xB 229) 125 = .ok (.aload_n 0, 1) := by decide +kernel
theorem d229_126 : decode (xB 229) 126 = .ok (.getfield 41, 3) := by decide +kernel
theorem d229_129 : decode (xB 229) 129 = .ok (.iload 7, 2) := by decide +kernel
theorem d229_131 : decode (xB 229) 131 = .ok (.iaload, 1) := by decide +kernel
theorem d229_132 : decode (xB 229) 132 = .ok (.invokestatic 217, 3) := by decide +kernel
theorem d229_135 : decode (xB 229) 135 = .ok (.istore 6, 2) := by decide +kernel
theorem d229_137 : decode (xB 229) 137 = .ok (.iinc 7 1, 3) := by decide +kernel
theorem d229_140 : decode (xB 229) 140 = .ok (.goto (-40), 3) := by decide +kernel
theorem d229_143 : decode (xB 229) 143 = .ok (.aload_n 0, 1) := by decide +kernel
theorem d229_144 : decode (xB 229) 144 = .ok (.aload_n 0, 1) := by decide +kernel
theorem d229_145 : decode (xB 229) 145 = .ok (.getfield 87, 3) := by decide +kernel
theorem d229_148 : decode (xB 229) 148 = .ok (.iconst 0, 1) := by decide +kernel
theorem d229_149 : decode (xB 229) 149 = .ok (.invokevirtual 261, 3) := by decide +kernel
theorem d229_152 : decode (xB 229) 152 = .ok (.aload_n 0, 1) := by decide +kernel
theorem d229_153 : decode (xB 229) 153 = .ok (.iload 5, 2) := by decide +kernel
theorem d229_155 : decode (xB 229) 155 = .ok (.iload 6, 2) := by decide +kernel
theorem d229_157 : decode (xB 229) 157 = .ok (.isub, 1) := by decide +kernel
theorem d229_158 : decode (xB 229) 158 = .ok (.invokevirtual 258, 3) := by decide +kernel
theorem d229_161 : decode (xB 229) 161 = .ok (.iload 4, 2) := by decide +kernel
theorem d229_163 : decode (xB 229) 163 = .ok (.ifCond .le 15, 3) := by decide +kernel
theorem d229_166 : decode (xB 229) 166 = .ok (.iload 5, 2) := by decide +kernel
theorem d229_168 : decode (xB 229) 168 = .ok (.iload 6, 2) := by decide +kernel
theorem d229_170 : decode (xB 229) 170 = .ok (.isub, 1) := by decide +kernel
theorem d229_171 : decode (xB 229) 171 = .ok (.iload_n 3, 1) := by decide +kernel
theorem d229_172 : decode (xB 229) 172 = .ok (.if_icmp .lt 6, 3) := by decide +kernel
theorem d229_175 : decode (xB 229) 175 = .ok (.goto 12, 3) := by decide +kernel
theorem d229_178 : decode (xB 229) 178 = .ok (.iload 4, 2) := by decide +kernel
theorem d229_180 : decode (xB 229) 180 = .ok (.istore_n 2, 1) := by decide +kernel
theorem d229_181 : decode (xB 229) 181 = .ok (.iload 5, 2) := by decide +kernel
theorem d229_183 : decode (xB 229) 183 = .ok (.iload 6, 2) := by decide +kernel
theorem d229_185 : decode (xB 229) 185 = .ok (.isub, 1) := by decide +kernel
theorem d229_186 : decode (xB 229) 186 = .ok (.istore_n 3, 1) := by decide +kernel
theorem d229_187 : decode (xB 229) 187 = .ok (.iinc 4 1, 3) := by decide +kernel
theorem d229_190 : decode (xB 229) 190 = .ok (.goto (-150), 3) := by decide +kernel
theorem d229_193 : decode (xB 229) 193 = .ok (.aload_n 0, 1) := by decide +kernel
theorem d229_194 : decode (xB 229) 194 = .ok (.iconst 0, 1) := by decide +kernel
theorem d229_195 : decode (xB 229) 195 = .ok (.putfield 205, 3) := by decide +kernel
theorem d229_198 : decode (xB 229) 198 = .ok (.iload_n 2, 1) := by decide +kernel
theorem d229_199 : decode (xB 229) 199 = .ok (.ireturn, 1) := by decide +kernel
theorem b229_0 {d : Nat} {P : xPr} {Q : xQr} {r : Nat} {mem : Nat → Nat → Int32} (hP : Cl d none 229 P Q) {p0 : Int32}
    (k : xCall d 158 [.int p0, .int (nI 0), .int (nI 200)] (LAY, RFu r, xu2 mem 108 20 (nI 0)) (Bk P 10 [.ref 108, .int p0, .null, .null, .null, .null, .null, .null] [] (0, 0))) : P 0 [.ref 108, .int p0, .null, .null, .null, .null, .null, .null] [] (0, 0) (LAY, RFu r, mem) := by
  refine r_aload_n hP d229_0 rfl ?_
  refine r_iconst (v := nI 0) hP d229_1 rfl ?_
  refine r_puti hP d229_2 fr_12_121 rfl (fun q => by cases q) ly_108 ?_
  refine r_iload_n hP d229_5 rfl ?_
  refine r_iconst (v := nI 0) hP d229_6 rfl ?_
  refine r_sipush (v := nI 200) hP d229_7 rfl ?_
  exact r_calls (As := [.int p0, .int (nI 0), .int (nI 200)]) (S := []) hP d229_10 cr_12_130 (by decide +kernel) rfl (by simp [Value.category]) rfl (by simp [Value.category]) ⟨Nat.zero_le _, Nat.zero_le _⟩ k
theorem b229_13 {d : Nat} {P : xPr} {Q : xQr} {r : Nat} {mem : Nat → Nat → Int32} (hP : Cl d none 229 P Q) {x1 : Int32} {v2 : Value} {v3 : Value} {v4 : Value} {v5 : Value} {v6 : Value} {v7 : Value} {y0 : Int32}
    (kt : ¬ y0 = 0 → P 18 [.ref 108, .int x1, v2, v3, v4, v5, v6, v7] [] (0, 0) (LAY, RFu r, mem)) (kf : y0 = 0 → P 16 [.ref 108, .int x1, v2, v3, v4, v5, v6, v7] [] (0, 0) (LAY, RFu r, mem)) : P 13 [.ref 108, .int x1, v2, v3, v4, v5, v6, v7] [.int y0] (0, 0) (LAY, RFu r, mem) := by
  exact r_if (t := 18) hP d229_13 (by decide) kt (fun q => kf (Decidable.of_not_not q))
theorem b229_16 {d : Nat} {P : xPr} {Q : xQr} {r : Nat} {mem : Nat → Nat → Int32} (hP : Cl d none 229 P Q) {v0 : Value} {v1 : Value} {v2 : Value} {v3 : Value} {v4 : Value} {v5 : Value} {v6 : Value} {v7 : Value}
    (k : Q (some (.int (-1))) (LAY, RFu r, mem)) : P 16 [v0, v1, v2, v3, v4, v5, v6, v7] [] (0, 0) (LAY, RFu r, mem) := by
  refine r_iconst (v := (-1)) hP d229_16 rfl ?_
  exact r_iret hP d229_17 rfl k
theorem b229_18 {d : Nat} {P : xPr} {Q : xQr} {r : Nat} {mem : Nat → Nat → Int32} (hP : Cl d none 229 P Q) {x1 : Int32} {v2 : Value} {v3 : Value} {v4 : Value} {v5 : Value} {v6 : Value} {v7 : Value}
    (kt : ¬ (mem 108 2) = 0 → P 28 [.ref 108, .int x1, v2, v3, v4, v5, v6, v7] [] (0, 0) (LAY, RFu r, mem)) (kf : (mem 108 2) = 0 → P 25 [.ref 108, .int x1, v2, v3, v4, v5, v6, v7] [] (0, 0) (LAY, RFu r, mem)) : P 18 [.ref 108, .int x1, v2, v3, v4, v5, v6, v7] [] (0, 0) (LAY, RFu r, mem) := by
  refine r_aload_n hP d229_18 rfl ?_
  refine r_geti hP d229_19 fr_12_127 rfl ly_108 ?_
  exact r_if (t := 28) hP d229_22 (by decide) kt (fun q => kf (Decidable.of_not_not q))
theorem b229_25 {d : Nat} {P : xPr} {Q : xQr} {r : Nat} {mem : Nat → Nat → Int32} (hP : Cl d none 229 P Q) {v0 : Value} {v1 : Value} {v2 : Value} {v3 : Value} {v4 : Value} {v5 : Value} {v6 : Value} {v7 : Value}
    (k : Q (some (.int (-2))) (LAY, RFu r, mem)) : P 25 [v0, v1, v2, v3, v4, v5, v6, v7] [] (0, 0) (LAY, RFu r, mem) := by
  refine r_bipush (v := (-2)) hP d229_25 rfl ?_
  exact r_iret hP d229_27 rfl k
theorem b229_28 {d : Nat} {P : xPr} {Q : xQr} {r : Nat} {mem : Nat → Nat → Int32} (hP : Cl d none 229 P Q) {x1 : Int32} {v2 : Value} {v3 : Value} {v4 : Value} {v5 : Value} {v6 : Value} {v7 : Value}
    (k : P 40 [.ref 108, .int x1, .int (nI 0), .int (nI 0), .int (nI 0), v5, v6, v7] [] (0, 0) (LAY, RFu r, xu2 mem 108 19 (nI 0))) : P 28 [.ref 108, .int x1, v2, v3, v4, v5, v6, v7] [] (0, 0) (LAY, RFu r, mem) := by
  refine r_iconst (v := nI 0) hP d229_28 rfl ?_
  refine r_istore_n (L' := [.ref 108, .int x1, .int (nI 0), v3, v4, v5, v6, v7]) hP d229_29 (Nat.le_of_ble_eq_true rfl) rfl ?_
  refine r_iconst (v := nI 0) hP d229_30 rfl ?_
  refine r_istore_n (L' := [.ref 108, .int x1, .int (nI 0), .int (nI 0), v4, v5, v6, v7]) hP d229_31 (Nat.le_of_ble_eq_true rfl) rfl ?_
  refine r_aload_n hP d229_32 rfl ?_
  refine r_iconst (v := nI 0) hP d229_33 rfl ?_
  refine r_puti hP d229_34 fr_12_124 rfl (fun q => by cases q) ly_108 ?_
  refine r_iconst (v := nI 0) hP d229_37 rfl ?_
  refine r_istore (L' := [.ref 108, .int x1, .int (nI 0), .int (nI 0), .int (nI 0), v5, v6, v7]) hP d229_38 (Nat.le_of_ble_eq_true rfl) rfl ?_
  exact k
theorem b229_40 {d : Nat} {P : xPr} {Q : xQr} {r : Nat} {mem : Nat → Nat → Int32} (hP : Cl d none 229 P Q) {x1 : Int32} {x2 : Int32} {x3 : Int32} {x4 : Int32} {v5 : Value} {v6 : Value} {v7 : Value}
    (kt : (nI 4) ≤ x4 → P 193 [.ref 108, .int x1, .int x2, .int x3, .int x4, v5, v6, v7] [] (0, 0) (LAY, RFu r, mem)) (kf : ¬ (nI 4) ≤ x4 → P 46 [.ref 108, .int x1, .int x2, .int x3, .int x4, v5, v6, v7] [] (0, 0) (LAY, RFu r, mem)) : P 40 [.ref 108, .int x1, .int x2, .int x3, .int x4, v5, v6, v7] [] (0, 0) (LAY, RFu r, mem) := by
  refine r_iload hP d229_40 rfl ?_
  refine r_iconst (v := nI 4) hP d229_42 rfl ?_
  exact r_icmp (t := 193) hP d229_43 (by decide) kt kf
theorem b229_46 {d : Nat} {P : xPr} {Q : xQr} {r : Nat} {mem : Nat → Nat → Int32} (hP : Cl d none 229 P Q) {x1 : Int32} {x2 : Int32} {x3 : Int32} {x4 : Int32} {v5 : Value} {v6 : Value} {v7 : Value}
    (k : xCall d 191 [.ref 108, .ref 133, .int (nI 0)] (LAY, RFu r, xu2 mem 108 29 x4) (Bk P 58 [.ref 108, .int x1, .int x2, .int x3, .int x4, v5, v6, v7] [] (0, 0))) : P 46 [.ref 108, .int x1, .int x2, .int x3, .int x4, v5, v6, v7] [] (0, 0) (LAY, RFu r, mem) := by
  refine r_aload_n hP d229_46 rfl ?_
  refine r_iload hP d229_47 rfl ?_
  refine r_puti hP d229_49 fr_12_205 rfl (fun q => by cases q) ly_108 ?_
  refine r_aload_n hP d229_52 rfl ?_
  refine r_aload_n hP d229_53 rfl ?_
  refine r_getr (a := 133) hP d229_54 fr_12_87 rfl ly_108 rg_108_38 ?_
  refine r_iconst (v := nI 0) hP d229_57 rfl ?_
  exact r_callv (As := [.ref 133, .int (nI 0)]) (S := []) hP d229_58 cr_12_245 (by decide +kernel) rfl (by simp [Value.category]) rfl ly_108 (by simp [Value.category]) ⟨Nat.zero_le _, Nat.zero_le _⟩ k
theorem b229_61 {d : Nat} {P : xPr} {Q : xQr} {r : Nat} {mem : Nat → Nat → Int32} (hP : Cl d none 229 P Q) {x1 : Int32} {x2 : Int32} {x3 : Int32} {x4 : Int32} {v5 : Value} {v6 : Value} {v7 : Value}
    (k : P 64 [.ref 108, .int x1, .int x2, .int x3, .int x4, .int (nI 0), v6, v7] [] (0, 0) (LAY, RFu r, mem)) : P 61 [.ref 108, .int x1, .int x2, .int x3, .int x4, v5, v6, v7] [] (0, 0) (LAY, RFu r, mem) := by
  refine r_iconst (v := nI 0) hP d229_61 rfl ?_
  refine r_istore (L' := [.ref 108, .int x1, .int x2, .int x3, .int x4, .int (nI 0), v6, v7]) hP d229_62 (Nat.le_of_ble_eq_true rfl) rfl ?_
  exact k
theorem b229_64 {d : Nat} {P : xPr} {Q : xQr} {r : Nat} {mem : Nat → Nat → Int32} (hP : Cl d none 229 P Q) {x1 : Int32} {x2 : Int32} {x3 : Int32} {x4 : Int32} {x5 : Int32} {v6 : Value} {v7 : Value}
    (kt : x1 ≤ x5 → P 81 [.ref 108, .int x1, .int x2, .int x3, .int x4, .int x5, v6, v7] [] (0, 0) (LAY, RFu r, mem)) (kf : ¬ x1 ≤ x5 → P 70 [.ref 108, .int x1, .int x2, .int x3, .int x4, .int x5, v6, v7] [] (0, 0) (LAY, RFu r, mem)) : P 64 [.ref 108, .int x1, .int x2, .int x3, .int x4, .int x5, v6, v7] [] (0, 0) (LAY, RFu r, mem) := by
  refine r_iload hP d229_64 rfl ?_
  refine r_iload_n hP d229_66 rfl ?_
  exact r_icmp (t := 81) hP d229_67 (by decide) kt kf
theorem b229_70 {d : Nat} {P : xPr} {Q : xQr} {r : Nat} {mem : Nat → Nat → Int32} (hP : Cl d none 229 P Q) {x1 : Int32} {x2 : Int32} {x3 : Int32} {x4 : Int32} {x5 : Int32} {v6 : Value} {v7 : Value}
    (k : xCall d 190 [.ref 108] (LAY, RFu r, mem) (Bk P 71 [.ref 108, .int x1, .int x2, .int x3, .int x4, .int x5, v6, v7] [] (0, 0))) : P 70 [.ref 108, .int x1, .int x2, .int x3, .int x4, .int x5, v6, v7] [] (0, 0) (LAY, RFu r, mem) := by
  refine r_aload_n hP d229_70 rfl ?_
  exact r_callv (As := []) (S := []) hP d229_71 cr_12_252 (by decide +kernel) rfl (by simp) rfl ly_108 (by simp [Value.category]) ⟨Nat.zero_le _, Nat.zero_le _⟩ k
theorem b229_74 {d : Nat} {P : xPr} {Q : xQr} {r : Nat} {mem : Nat → Nat → Int32} (hP : Cl d none 229 P Q) {x1 : Int32} {x2 : Int32} {x3 : Int32} {x4 : Int32} {x5 : Int32} {v6 : Value} {v7 : Value} {y0 : Int32}
    (k : P 64 [.ref 108, .int x1, .int x2, .int x3, .int x4, .int (x5 + nI 1), v6, v7] [] (0, 0) (LAY, RFu r, mem)) : P 74 [.ref 108, .int x1, .int x2, .int x3, .int x4, .int x5, v6, v7] [.int y0] (0, 0) (LAY, RFu r, mem) := by
  refine r_pop hP d229_74 rfl ?_
  refine r_iinc (v := nI 1) (L' := [.ref 108, .int x1, .int x2, .int x3, .int x4, .int (x5 + nI 1), v6, v7]) hP d229_75 rfl rfl rfl ?_
  refine r_goto (t := 64) hP d229_78 (by decide) ?_
  exact k
theorem b229_81 {d : Nat} {P : xPr} {Q : xQr} {r : Nat} {mem : Nat → Nat → Int32} (hP : Cl d none 229 P Q) {x1 : Int32} {x2 : Int32} {x3 : Int32} {x4 : Int32} {v5 : Value} {v6 : Value} {v7 : Value} (hi86 : vp_in (nI 0) 8) (hi94 : vp_in (nI 0) 8)
    (k : P 100 [.ref 108, .int x1, .int x2, .int x3, .int x4, .int (mem 119 (nI 0).toNatClampNeg), .int (mem 119 (nI 0).toNatClampNeg), .int (nI 0)] [] (0, 0) (LAY, RFu r, mem)) : P 81 [.ref 108, .int x1, .int x2, .int x3, .int x4, v5, v6, v7] [] (0, 0) (LAY, RFu r, mem) := by
  refine r_aload_n hP d229_81 rfl ?_
  refine r_getr (a := 119) hP d229_82 fr_12_41 rfl ly_108 rg_108_12 ?_
  refine r_iconst (v := nI 0) hP d229_85 rfl ?_
  refine r_iaload hP d229_86 ly_119 hi86 ?_
  refine r_istore (L' := [.ref 108, .int x1, .int x2, .int x3, .int x4, .int (mem 119 (nI 0).toNatClampNeg), v6, v7]) hP d229_87 (Nat.le_of_ble_eq_true rfl) rfl ?_
  refine r_aload_n hP d229_89 rfl ?_
  refine r_getr (a := 119) hP d229_90 fr_12_41 rfl ly_108 rg_108_12 ?_
  refine r_iconst (v := nI 0) hP d229_93 rfl ?_
  refine r_iaload hP d229_94 ly_119 hi94 ?_
  refine r_istore (L' := [.ref 108, .int x1, .int x2, .int x3, .int x4, .int (mem 119 (nI 0).toNatClampNeg), .int (mem 119 (nI 0).toNatClampNeg), v7]) hP d229_95 (Nat.le_of_ble_eq_true rfl) rfl ?_
  refine r_iconst (v := nI 0) hP d229_97 rfl ?_
  refine r_istore (L' := [.ref 108, .int x1, .int x2, .int x3, .int x4, .int (mem 119 (nI 0).toNatClampNeg), .int (mem 119 (nI 0).toNatClampNeg), .int (nI 0)]) hP d229_98 (Nat.le_of_ble_eq_true rfl) rfl ?_
  exact k
theorem b229_100 {d : Nat} {P : xPr} {Q : xQr} {r : Nat} {mem : Nat → Nat → Int32} (hP : Cl d none 229 P Q) {x1 : Int32} {x2 : Int32} {x3 : Int32} {x4 : Int32} {x5 : Int32} {x6 : Int32} {x7 : Int32}
    (kt : (mem 108 2) ≤ x7 → P 143 [.ref 108, .int x1, .int x2, .int x3, .int x4, .int x5, .int x6, .int x7] [] (0, 0) (LAY, RFu r, mem)) (kf : ¬ (mem 108 2) ≤ x7 → P 109 [.ref 108, .int x1, .int x2, .int x3, .int x4, .int x5, .int x6, .int x7] [] (0, 0) (LAY, RFu r, mem)) : P 100 [.ref 108, .int x1, .int x2, .int x3, .int x4, .int x5, .int x6, .int x7] [] (0, 0) (LAY, RFu r, mem) := by
  refine r_iload hP d229_100 rfl ?_
  refine r_aload_n hP d229_102 rfl ?_
  refine r_geti hP d229_103 fr_12_127 rfl ly_108 ?_
  exact r_icmp (t := 143) hP d229_106 (by decide) kt kf
theorem b229_109 {d : Nat} {P : xPr} {Q : xQr} {r : Nat} {mem : Nat → Nat → Int32} (hP : Cl d none 229 P Q) {x1 : Int32} {x2 : Int32} {x3 : Int32} {x4 : Int32} {x5 : Int32} {x6 : Int32} {x7 : Int32} (hi117 : vp_in x7 8) (hi131 : vp_in x7 8)
    (k : P 100 [.ref 108, .int x1, .int x2, .int x3, .int x4, .int (if x5 < mem 119 x7.toNatClampNeg then mem 119 x7.toNatClampNeg else x5), .int (if mem 119 x7.toNatClampNeg < x6 then mem 119 x7.toNatClampNeg else x6), .int (x7 + nI 1)] [] (0, 0) (LAY, RFu r, mem)) : P 109 [.ref 108, .int x1, .int x2, .int x3, .int x4, .int x5, .int x6, .int x7] [] (0, 0) (LAY, RFu r, mem) := by
  refine r_iload hP d229_109 rfl ?_
  refine r_aload_n hP d229_111 rfl ?_
  refine r_getr (a := 119) hP d229_112 fr_12_41 rfl ly_108 rg_108_12 ?_
  refine r_iload hP d229_115 rfl ?_
  refine r_iaload hP d229_117 ly_119 hi117 ?_
  refine r_max hP d229_118 cr_12_222 (by decide) ?_
  refine r_istore (L' := [.ref 108, .int x1, .int x2, .int x3, .int x4, .int (if x5 < mem 119 x7.toNatClampNeg then mem 119 x7.toNatClampNeg else x5), .int x6, .int x7]) hP d229_121 (Nat.le_of_ble_eq_true rfl) rfl ?_
  refine r_iload hP d229_123 rfl ?_
  refine r_aload_n hP d229_125 rfl ?_
  refine r_getr (a := 119) hP d229_126 fr_12_41 rfl ly_108 rg_108_12 ?_
  refine r_iload hP d229_129 rfl ?_
  refine r_iaload hP d229_131 ly_119 hi131 ?_
  refine r_min hP d229_132 cr_12_217 (by decide) ?_
  refine r_istore (L' := [.ref 108, .int x1, .int x2, .int x3, .int x4, .int (if x5 < mem 119 x7.toNatClampNeg then mem 119 x7.toNatClampNeg else x5), .int (if mem 119 x7.toNatClampNeg < x6 then mem 119 x7.toNatClampNeg else x6), .int x7]) hP d229_135 (Nat.le_of_ble_eq_true rfl) rfl ?_
  refine r_iinc (v := nI 1) (L' := [.ref 108, .int x1, .int x2, .int x3, .int x4, .int (if x5 < mem 119 x7.toNatClampNeg then mem 119 x7.toNatClampNeg else x5), .int (if mem 119 x7.toNatClampNeg < x6 then mem 119 x7.toNatClampNeg else x6), .int (x7 + nI 1)]) hP d229_137 rfl rfl rfl ?_
  refine r_goto (t := 100) hP d229_140 (by decide) ?_
  exact k
theorem b229_143 {d : Nat} {P : xPr} {Q : xQr} {r : Nat} {mem : Nat → Nat → Int32} (hP : Cl d none 229 P Q) {x1 : Int32} {x2 : Int32} {x3 : Int32} {x4 : Int32} {x5 : Int32} {x6 : Int32} {v7 : Value}
    (k : xCall d 192 [.ref 108, .ref 133, .int (nI 0)] (LAY, RFu r, mem) (Bk P 149 [.ref 108, .int x1, .int x2, .int x3, .int x4, .int x5, .int x6, v7] [] (0, 0))) : P 143 [.ref 108, .int x1, .int x2, .int x3, .int x4, .int x5, .int x6, v7] [] (0, 0) (LAY, RFu r, mem) := by
  refine r_aload_n hP d229_143 rfl ?_
  refine r_aload_n hP d229_144 rfl ?_
  refine r_getr (a := 133) hP d229_145 fr_12_87 rfl ly_108 rg_108_38 ?_
  refine r_iconst (v := nI 0) hP d229_148 rfl ?_
  exact r_callv (As := [.ref 133, .int (nI 0)]) (S := []) hP d229_149 cr_12_261 (by decide +kernel) rfl (by simp [Value.category]) rfl ly_108 (by simp [Value.category]) ⟨Nat.zero_le _, Nat.zero_le _⟩ k
theorem b229_152 {d : Nat} {P : xPr} {Q : xQr} {r : Nat} {mem : Nat → Nat → Int32} (hP : Cl d none 229 P Q) {x1 : Int32} {x2 : Int32} {x3 : Int32} {x4 : Int32} {x5 : Int32} {x6 : Int32} {v7 : Value}
    (k : xCall d 161 [.ref 108, .int (x5 - x6)] (LAY, RFu r, mem) (Bk P 158 [.ref 108, .int x1, .int x2, .int x3, .int x4, .int x5, .int x6, v7] [] (0, 0))) : P 152 [.ref 108, .int x1, .int x2, .int x3, .int x4, .int x5, .int x6, v7] [] (0, 0) (LAY, RFu r, mem) := by
  refine r_aload_n hP d229_152 rfl ?_
  refine r_iload hP d229_153 rfl ?_
  refine r_iload hP d229_155 rfl ?_
  refine r_isub hP d229_157 ?_
  exact r_callv (As := [.int (x5 - x6)]) (S := []) hP d229_158 cr_12_258 (by decide +kernel) rfl (by simp [Value.category]) rfl ly_108 (by simp [Value.category]) ⟨Nat.zero_le _, Nat.zero_le _⟩ k
theorem b229_161 {d : Nat} {P : xPr} {Q : xQr} {r : Nat} {mem : Nat → Nat → Int32} (hP : Cl d none 229 P Q) {x1 : Int32} {x2 : Int32} {x3 : Int32} {x4 : Int32} {x5 : Int32} {x6 : Int32} {v7 : Value}
    (kt : x4 ≤ 0 → P 178 [.ref 108, .int x1, .int x2, .int x3, .int x4, .int x5, .int x6, v7] [] (0, 0) (LAY, RFu r, mem)) (kf : ¬ x4 ≤ 0 → P 166 [.ref 108, .int x1, .int x2, .int x3, .int x4, .int x5, .int x6, v7] [] (0, 0) (LAY, RFu r, mem)) : P 161 [.ref 108, .int x1, .int x2, .int x3, .int x4, .int x5, .int x6, v7] [] (0, 0) (LAY, RFu r, mem) := by
  refine r_iload hP d229_161 rfl ?_
  exact r_if (t := 178) hP d229_163 (by decide) kt kf
theorem b229_166 {d : Nat} {P : xPr} {Q : xQr} {r : Nat} {mem : Nat → Nat → Int32} (hP : Cl d none 229 P Q) {x1 : Int32} {x2 : Int32} {x3 : Int32} {x4 : Int32} {x5 : Int32} {x6 : Int32} {v7 : Value}
    (kt : (x5 - x6) < x3 → P 178 [.ref 108, .int x1, .int x2, .int x3, .int x4, .int x5, .int x6, v7] [] (0, 0) (LAY, RFu r, mem)) (kf : ¬ (x5 - x6) < x3 → P 175 [.ref 108, .int x1, .int x2, .int x3, .int x4, .int x5, .int x6, v7] [] (0, 0) (LAY, RFu r, mem)) : P 166 [.ref 108, .int x1, .int x2, .int x3, .int x4, .int x5, .int x6, v7] [] (0, 0) (LAY, RFu r, mem) := by
  refine r_iload hP d229_166 rfl ?_
  refine r_iload hP d229_168 rfl ?_
  refine r_isub hP d229_170 ?_
  refine r_iload_n hP d229_171 rfl ?_
  exact r_icmp (t := 178) hP d229_172 (by decide) kt kf
theorem b229_175 {d : Nat} {P : xPr} {Q : xQr} {r : Nat} {mem : Nat → Nat → Int32} (hP : Cl d none 229 P Q) {x1 : Int32} {x2 : Int32} {x3 : Int32} {x4 : Int32} {v5 : Value} {v6 : Value} {v7 : Value}
    (k : P 187 [.ref 108, .int x1, .int x2, .int x3, .int x4, v5, v6, v7] [] (0, 0) (LAY, RFu r, mem)) : P 175 [.ref 108, .int x1, .int x2, .int x3, .int x4, v5, v6, v7] [] (0, 0) (LAY, RFu r, mem) := by
  refine r_goto (t := 187) hP d229_175 (by decide) ?_
  exact k
theorem b229_178 {d : Nat} {P : xPr} {Q : xQr} {r : Nat} {mem : Nat → Nat → Int32} (hP : Cl d none 229 P Q) {x1 : Int32} {v2 : Value} {v3 : Value} {x4 : Int32} {x5 : Int32} {x6 : Int32} {v7 : Value}
    (k : P 187 [.ref 108, .int x1, .int x4, .int (x5 - x6), .int x4, .int x5, .int x6, v7] [] (0, 0) (LAY, RFu r, mem)) : P 178 [.ref 108, .int x1, v2, v3, .int x4, .int x5, .int x6, v7] [] (0, 0) (LAY, RFu r, mem) := by
  refine r_iload hP d229_178 rfl ?_
  refine r_istore_n (L' := [.ref 108, .int x1, .int x4, v3, .int x4, .int x5, .int x6, v7]) hP d229_180 (Nat.le_of_ble_eq_true rfl) rfl ?_
  refine r_iload hP d229_181 rfl ?_
  refine r_iload hP d229_183 rfl ?_
  refine r_isub hP d229_185 ?_
  refine r_istore_n (L' := [.ref 108, .int x1, .int x4, .int (x5 - x6), .int x4, .int x5, .int x6, v7]) hP d229_186 (Nat.le_of_ble_eq_true rfl) rfl ?_
  exact k
theorem b229_187 {d : Nat} {P : xPr} {Q : xQr} {r : Nat} {mem : Nat → Nat → Int32} (hP : Cl d none 229 P Q) {x1 : Int32} {x2 : Int32} {x3 : Int32} {x4 : Int32} {v5 : Value} {v6 : Value} {v7 : Value}
    (k : P 40 [.ref 108, .int x1, .int x2, .int x3, .int (x4 + nI 1), v5, v6, v7] [] (0, 0) (LAY, RFu r, mem)) : P 187 [.ref 108, .int x1, .int x2, .int x3, .int x4, v5, v6, v7] [] (0, 0) (LAY, RFu r, mem) := by
  refine r_iinc (v := nI 1) (L' := [.ref 108, .int x1, .int x2, .int x3, .int (x4 + nI 1), v5, v6, v7]) hP d229_187 rfl rfl rfl ?_
  refine r_goto (t := 40) hP d229_190 (by decide) ?_
  exact k
theorem b229_193 {d : Nat} {P : xPr} {Q : xQr} {r : Nat} {mem : Nat → Nat → Int32} (hP : Cl d none 229 P Q) {v1 : Value} {x2 : Int32} {v3 : Value} {v4 : Value} {v5 : Value} {v6 : Value} {v7 : Value}
    (k : Q (some (.int x2)) (LAY, RFu r, xu2 mem 108 29 (nI 0))) : P 193 [.ref 108, v1, .int x2, v3, v4, v5, v6, v7] [] (0, 0) (LAY, RFu r, mem) := by
  refine r_aload_n hP d229_193 rfl ?_
  refine r_iconst (v := nI 0) hP d229_194 rfl ?_
  refine r_puti hP d229_195 fr_12_205 rfl (fun q => by cases q) ly_108 ?_
  refine r_iload_n hP d229_198 rfl ?_
  exact r_iret hP d229_199 rfl k
theorem d230_0 : decode (xB 230) 0 = .ok (.aload_n 0, 1) := by decide +kernel
theorem d230_1 : decode (xB 230) 1 = .ok (.iconst 0, 1) := by decide +kernel
theorem d230_2 : decode (xB 230) 2 = .ok (.putfield 121, 3) := by decide +kernel
theorem d230_5 : decode (xB 230) 5 = .ok (.aload_n 0, 1) := by decide +kernel
theorem d230_6 : decode (xB 230) 6 = .ok (.iload_n 1, 1) := by decide +kernel
theorem d230_7 : decode (xB 230) 7 = .ok (.invokevirtual 134, 3) := by decide +kernel
theorem d230_10 : decode (xB 230) 10 = .ok (.ifCond .eq 13, 3) := by decide +kernel
theorem d230_13 : decode (xB 230) 13 = .ok (.iload_n 2, 1) := by decide +kernel
theorem d230_14 : decode (xB 230) 14 = .ok (.iconst 0, 1) := by decide +kernel
theorem d230_15 : decode (xB 230) 15 = .ok (.bipush 100, 2) := by decide +kernel
theorem d230_17 : decode (xB 230) 17 = .ok (.invokestatic 130, 3) := by decide +kernel
theorem d230_20 : decode (xB 230) 20 = .ok (.ifCond .ne 8, 3) := by decide +kernel
theorem d230_23 : decode (xB 230) 23 = .ok (.aload_n 0, 1) := by decide +kernel
theorem d230_24 : decode (xB 230) 24 = .ok (.invokevirtual 208, 3) := by decide +kernel
theorem d230_27 : decode (xB 230) 27 = .ok (.ireturn, 1) := by decide +kernel
theorem d230_28 : decode (xB 230) 28 = .ok (.aload_n 0, 1) := by decide +kernel
theorem d230_29 : decode (xB 230) 29 = .ok (.iload_n 2, 1) := by decide +kernel
theorem d230_30 : decode (xB 230) 30 = .ok (.aload_n 0, 1) := by decide +kernel
theorem d230_31 : decode (xB 230) 31 = .ok (.getfield 96, 3) := by decide +kernel
theorem d230_34 : decode (xB 230) 34 = .ok (.invokevirtual 304, 3) := by decide +kernel
theorem d230_37 : decode (xB 230) 37 = .ok (.pop, 1) := by decide +kernel
theorem d230_38 : decode (xB 230) 38 = .ok (.aload_n 0, 1) := by decide +kernel
theorem d230_39 : decode (xB 230) 39 = .ok (.getfield 16, 3) := by decide +kernel
theorem d230_42 : decode (xB 230) 42 = .ok (.iload_n 1, 1) := by decide +kernel
theorem d230_43 : decode (xB 230) 43 = .ok (.aload_n 0, 1) := by decide +kernel
theorem d230_44 : decode (xB 230) 44 = .ok (.getfield 16, 3) := by decide +kernel
theorem d230_47 : decode (xB 230) 47 = .ok (.iload_n 1, 1) := by decide +kernel
theorem d230_48 : decode (xB 230) 48 = .ok (.baload, 1) := by decide +kernel
theorem d230_49 : decode (xB 230) 49 = .ok (.ifCond .ne 7, 3) := by decide +kernel
theorem d230_52 : decode (xB 230) 52 = .ok (.iconst 1, 1) := by decide +kernel
theorem d230_53 : decode (xB 230) 53 = .ok (.goto 4, 3) := by decide +kernel
theorem d230_56 : decode (xB 230) 56 = .ok (.iconst 0, 1) := by decide +kernel
theorem d230_57 : decode (xB 230) 57 = .ok (.bastore, 1) := by decide +kernel
theorem d230_58 : decode (xB 230) 58 = .ok (.aload_n 0, 1) := by decide +kernel
theorem d230_59 : decode (xB 230) 59 = .ok (.iload_n 2, 1) := by decide +kernel
theorem d230_60 : decode (xB 230) 60 = .ok (.aload_n 0, 1) := by decide +kernel
theorem d230_61 : decode (xB 230) 61 = .ok (.getfield 99, 3) := by decide +kernel
theorem d230_64 : decode (xB 230) 64 = .ok (.invokevirtual 304, 3) := by decide +kernel
theorem d230_67 : decode (xB 230) 67 = .ok (.pop, 1) := by decide +kernel
theorem d230_68 : decode (xB 230) 68 = .ok (.aload_n 0, 1) := by decide +kernel
theorem d230_69 : decode (xB 230) 69 = .ok (.getfield 16, 3) := by decide +kernel
theorem d230_72 : decode (xB 230) 72 = .ok (.iload_n 1, 1) := by decide +kernel
theorem d230_73 : decode (xB 230) 73 = .ok (.aload_n 0, 1) := by decide +kernel
theorem d230_74 : decode (xB 230) 74 = .ok (.getfield 16, 3) := by decide +kernel
theorem d230_77 : decode (xB 230) 77 = .ok (.iload_n 1, 1) := by decide +kernel
theorem d230_78 : decode (xB 230) 78 = .ok (.baload, 1) := by decide +kernel
theorem d230_79 : decode (xB 230) 79 = .ok (.ifCond .ne 7, 3) := by decide +kernel
theorem d230_82 : decode (xB 230) 82 = .ok (.iconst 1, 1) := by decide +kernel
theorem d230_83 : decode (xB 230) 83 = .ok (.goto 4, 3) := by decide +kernel
theorem d230_86 : decode (xB 230) 86 = .ok (.iconst 0, 1) := by decide +kernel
theorem d230_87 : decode (xB 230) 87 = .ok (.bastore, 1) := by decide +kernel
theorem d230_88 : decode (xB 230) 88 = .ok (.aload_n 0, 1) := by decide +kernel
theorem d230_89 : decode (xB 230) 89 = .ok (.getfield 96, 3) := by decide +kernel
theorem d230_92 : decode (xB 230) 92 = .ok (.iload_n 1, 1) := by decide +kernel
theorem d230_93 : decode (xB 230) 93 = .ok (.iaload, 1) := by decide +kernel
theorem d230_94 : decode (xB 230) 94 = .ok (.aload_n 0, 1) := by decide +kernel
theorem d230_95 : decode (xB 230) 95 = .ok (.getfield 99, 3) := by decide +kernel
theorem d230_98 : decode (xB 230) 98 = .ok (.iload_n 1, 1) := by decide +kernel
theorem d230_99 : decode (xB 230) 99 = .ok (.iaload, 1) := by decide +kernel
theorem d230_100 : decode (xB 230) 100 = .ok (.isub, 1) := by decide +kernel
theorem d230_101 : decode (xB 230) 101 = .ok (.ireturn, 1) := by decide +kernel
theorem b230_0 {d : Nat} {P : xPr} {Q : xQr} {r : Nat} {mem : Nat → Nat → Int32} (hP : Cl d none 230 P Q) {p0 : Int32} {p1 : Int32}
    (k : xCall d 162 [.ref 108, .int p0] (LAY, RFu r, xu2 mem 108 20 (nI 0)) (Bk P 7 [.ref 108, .int p0, .int p1] [] (0, 0))) : P 0 [.ref 108, .int p0, .int p1] [] (0, 0) (LAY, RFu r, mem) := by
  refine r_aload_n hP d230_0 rfl ?_
  refine r_iconst (v := nI 0) hP d230_1 rfl ?_
  refine r_puti hP d230_2 fr_12_121 rfl (fun q => by cases q) ly_108 ?_
  refine r_aload_n hP d230_5 rfl ?_
  refine r_iload_n hP d230_6 rfl ?_
  exact r_callv (As := [.int p0]) (S := []) hP d230_7 cr_12_134 (by decide +kernel) rfl (by simp [Value.category]) rfl ly_108 (by simp [Value.category]) ⟨Nat.zero_le _, Nat.zero_le _⟩ k
theorem b230_10 {d : Nat} {P : xPr} {Q : xQr} {r : Nat} {mem : Nat → Nat → Int32} (hP : Cl d none 230 P Q) {x1 : Int32} {x2 : Int32} {y0 : Int32}
    (kt : y0 = 0 → P 23 [.ref 108, .int x1, .int x2] [] (0, 0) (LAY, RFu r, mem)) (kf : ¬ y0 = 0 → P 13 [.ref 108, .int x1, .int x2] [] (0, 0) (LAY, RFu r, mem)) : P 10 [.ref 108, .int x1, .int x2] [.int y0] (0, 0) (LAY, RFu r, mem) := by
  exact r_if (t := 23) hP d230_10 (by decide) kt kf
theorem b230_13 {d : Nat} {P : xPr} {Q : xQr} {r : Nat} {mem : Nat → Nat → Int32} (hP : Cl d none 230 P Q) {x1 : Int32} {x2 : Int32}
    (k : xCall d 158 [.int x2, .int (nI 0), .int (nI 100)] (LAY, RFu r, mem) (Bk P 17 [.ref 108, .int x1, .int x2] [] (0, 0))) : P 13 [.ref 108, .int x1, .int x2] [] (0, 0) (LAY, RFu r, mem) := by
  refine r_iload_n hP d230_13 rfl ?_
  refine r_iconst (v := nI 0) hP d230_14 rfl ?_
  refine r_bipush (v := nI 100) hP d230_15 rfl ?_
  exact r_calls (As := [.int x2, .int (nI 0), .int (nI 100)]) (S := []) hP d230_17 cr_12_130 (by decide +kernel) rfl (by simp [Value.category]) rfl (by simp [Value.category]) ⟨Nat.zero_le _, Nat.zero_le _⟩ k
theorem b230_20 {d : Nat} {P : xPr} {Q : xQr} {r : Nat} {mem : Nat → Nat → Int32} (hP : Cl d none 230 P Q) {x1 : Int32} {x2 : Int32} {y0 : Int32}
    (kt : ¬ y0 = 0 → P 28 [.ref 108, .int x1, .int x2] [] (0, 0) (LAY, RFu r, mem)) (kf : y0 = 0 → P 23 [.ref 108, .int x1, .int x2] [] (0, 0) (LAY, RFu r, mem)) : P 20 [.ref 108, .int x1, .int x2] [.int y0] (0, 0) (LAY, RFu r, mem) := by
  exact r_if (t := 28) hP d230_20 (by decide) kt (fun q => kf (Decidable.of_not_not q))
theorem b230_23 {d : Nat} {P : xPr} {Q : xQr} {r : Nat} {mem : Nat → Nat → Int32} (hP : Cl d none 230 P Q) {v1 : Value} {v2 : Value}
    (k : xCall d 160 [.ref 108] (LAY, RFu r, mem) (Bk P 24 [.ref 108, v1, v2] [] (0, 0))) : P 23 [.ref 108, v1, v2] [] (0, 0) (LAY, RFu r, mem) := by
  refine r_aload_n hP d230_23 rfl ?_
  exact r_callv (As := []) (S := []) hP d230_24 cr_12_208 (by decide +kernel) rfl (by simp) rfl ly_108 (by simp [Value.category]) ⟨Nat.zero_le _, Nat.zero_le _⟩ k
theorem b230_27 {d : Nat} {P : xPr} {Q : xQr} {r : Nat} {mem : Nat → Nat → Int32} (hP : Cl d none 230 P Q) {v0 : Value} {v1 : Value} {v2 : Value} {y0 : Int32}
    (k : Q (some (.int y0)) (LAY, RFu r, mem)) : P 27 [v0, v1, v2] [.int y0] (0, 0) (LAY, RFu r, mem) := by
  exact r_iret hP d230_27 rfl k
theorem b230_28 {d : Nat} {P : xPr} {Q : xQr} {r : Nat} {mem : Nat → Nat → Int32} (hP : Cl d none 230 P Q) {x1 : Int32} {x2 : Int32}
    (k : xCall d 222 [.ref 108, .int x2, .ref 136] (LAY, RFu r, mem) (Bk P 34 [.ref 108, .int x1, .int x2] [] (0, 0))) : P 28 [.ref 108, .int x1, .int x2] [] (0, 0) (LAY, RFu r, mem) := by
  refine r_aload_n hP d230_28 rfl ?_
  refine r_iload_n hP d230_29 rfl ?_
  refine r_aload_n hP d230_30 rfl ?_
  refine r_getr (a := 136) hP d230_31 fr_12_96 rfl ly_108 rg_108_41 ?_
  exact r_callv (As := [.int x2, .ref 136]) (S := []) hP d230_34 cr_12_304 (by decide +kernel) rfl (by simp [Value.category]) rfl ly_108 (by simp [Value.category]) ⟨Nat.zero_le _, Nat.zero_le _⟩ k
theorem b230_37 {d : Nat} {P : xPr} {Q : xQr} {r : Nat} {mem : Nat → Nat → Int32} (hP : Cl d none 230 P Q) {x1 : Int32} {x2 : Int32} {y0 : Int32} (hi48 : vp_in x1 8)
    (kt : ¬ (mem 111 x1.toNatClampNeg) = 0 → P 56 [.ref 108, .int x1, .int x2] [.int x1, .ref 111] (0, 0) (LAY, RFu r, mem)) (kf : (mem 111 x1.toNatClampNeg) = 0 → P 52 [.ref 108, .int x1, .int x2] [.int x1, .ref 111] (0, 0) (LAY, RFu r, mem)) : P 37 [.ref 108, .int x1, .int x2] [.int y0] (0, 0) (LAY, RFu r, mem) := by
  refine r_pop hP d230_37 rfl ?_
  refine r_aload_n hP d230_38 rfl ?_
  refine r_getr (a := 111) hP d230_39 fr_12_16 rfl ly_108 rg_108_4 ?_
  refine r_iload_n hP d230_42 rfl ?_
  refine r_aload_n hP d230_43 rfl ?_
  refine r_getr (a := 111) hP d230_44 fr_12_16 rfl ly_108 rg_108_4 ?_
  refine r_iload_n hP d230_47 rfl ?_
  refine r_baload hP d230_48 (by decide) ly_111 hi48 ?_
  exact r_if (t := 56) hP d230_49 (by decide) kt (fun q => kf (Decidable.of_not_not q))
theorem b230_52 {d : Nat} {P : xPr} {Q : xQr} {r : Nat} {mem : Nat → Nat → Int32} (hP : Cl d none 230 P Q) {x1 : Int32} {x2 : Int32} {y1 : Int32}
    (k : P 57 [.ref 108, .int x1, .int x2] [.int (nI 1), .int y1, .ref 111] (0, 0) (LAY, RFu r, mem)) : P 52 [.ref 108, .int x1, .int x2] [.int y1, .ref 111] (0, 0) (LAY, RFu r, mem) := by
  refine r_iconst (v := nI 1) hP d230_52 rfl ?_
  refine r_goto (t := 57) hP d230_53 (by decide) ?_
  exact k
theorem b230_56 {d : Nat} {P : xPr} {Q : xQr} {r : Nat} {mem : Nat → Nat → Int32} (hP : Cl d none 230 P Q) {x1 : Int32} {x2 : Int32} {y1 : Int32}
    (k : P 57 [.ref 108, .int x1, .int x2] [.int (nI 0), .int y1, .ref 111] (0, 0) (LAY, RFu r, mem)) : P 56 [.ref 108, .int x1, .int x2] [.int y1, .ref 111] (0, 0) (LAY, RFu r, mem) := by
  refine r_iconst (v := nI 0) hP d230_56 rfl ?_
  exact k
theorem b230_57 {d : Nat} {P : xPr} {Q : xQr} {r : Nat} {mem : Nat → Nat → Int32} (hP : Cl d none 230 P Q) {x1 : Int32} {x2 : Int32} {y1 : Int32} {y2 : Int32} (hi57 : vp_in y1 8)
    (k : xCall d 222 [.ref 108, .int x2, .ref 137] (LAY, RFu r, xu2 mem 111 y1.toNatClampNeg (xNar 15 y2)) (Bk P 64 [.ref 108, .int x1, .int x2] [] (0, 0))) : P 57 [.ref 108, .int x1, .int x2] [.int y2, .int y1, .ref 111] (0, 0) (LAY, RFu r, mem) := by
  refine r_bastore hP d230_57 (by decide) ly_111 hi57 ?_
  refine r_aload_n hP d230_58 rfl ?_
  refine r_iload_n hP d230_59 rfl ?_
  refine r_aload_n hP d230_60 rfl ?_
  refine r_getr (a := 137) hP d230_61 fr_12_99 rfl ly_108 rg_108_42 ?_
  exact r_callv (As := [.int x2, .ref 137]) (S := []) hP d230_64 cr_12_304 (by decide +kernel) rfl (by simp [Value.category]) rfl ly_108 (by simp [Value.category]) ⟨Nat.zero_le _, Nat.zero_le _⟩ k
theorem b230_67 {d : Nat} {P : xPr} {Q : xQr} {r : Nat} {mem : Nat → Nat → Int32} (hP : Cl d none 230 P Q) {x1 : Int32} {v2 : Value} {y0 : Int32} (hi78 : vp_in x1 8)
    (kt : ¬ (mem 111 x1.toNatClampNeg) = 0 → P 86 [.ref 108, .int x1, v2] [.int x1, .ref 111] (0, 0) (LAY, RFu r, mem)) (kf : (mem 111 x1.toNatClampNeg) = 0 → P 82 [.ref 108, .int x1, v2] [.int x1, .ref 111] (0, 0) (LAY, RFu r, mem)) : P 67 [.ref 108, .int x1, v2] [.int y0] (0, 0) (LAY, RFu r, mem) := by
  refine r_pop hP d230_67 rfl ?_
  refine r_aload_n hP d230_68 rfl ?_
  refine r_getr (a := 111) hP d230_69 fr_12_16 rfl ly_108 rg_108_4 ?_
  refine r_iload_n hP d230_72 rfl ?_
  refine r_aload_n hP d230_73 rfl ?_
  refine r_getr (a := 111) hP d230_74 fr_12_16 rfl ly_108 rg_108_4 ?_
  refine r_iload_n hP d230_77 rfl ?_
  refine r_baload hP d230_78 (by decide) ly_111 hi78 ?_
  exact r_if (t := 86) hP d230_79 (by decide) kt (fun q => kf (Decidable.of_not_not q))
theorem b230_82 {d : Nat} {P : xPr} {Q : xQr} {r : Nat} {mem : Nat → Nat → Int32} (hP : Cl d none 230 P Q) {x1 : Int32} {v2 : Value} {y1 : Int32}
    (k : P 87 [.ref 108, .int x1, v2] [.int (nI 1), .int y1, .ref 111] (0, 0) (LAY, RFu r, mem)) : P 82 [.ref 108, .int x1, v2] [.int y1, .ref 111] (0, 0) (LAY, RFu r, mem) := by
  refine r_iconst (v := nI 1) hP d230_82 rfl ?_
  refine r_goto (t := 87) hP d230_83 (by decide) ?_
  exact k
theorem b230_86 {d : Nat} {P : xPr} {Q : xQr} {r : Nat} {mem : Nat → Nat → Int32} (hP : Cl d none 230 P Q) {x1 : Int32} {v2 : Value} {y1 : Int32}
    (k : P 87 [.ref 108, .int x1, v2] [.int (nI 0), .int y1, .ref 111] (0, 0) (LAY, RFu r, mem)) : P 86 [.ref 108, .int x1, v2] [.int y1, .ref 111] (0, 0) (LAY, RFu r, mem) := by
  refine r_iconst (v := nI 0) hP d230_86 rfl ?_
  exact k
theorem b230_87 {d : Nat} {P : xPr} {Q : xQr} {r : Nat} {mem : Nat → Nat → Int32} (hP : Cl d none 230 P Q) {x1 : Int32} {v2 : Value} {y1 : Int32} {y2 : Int32} (hi87 : vp_in y1 8) (hi93 : vp_in x1 8) (hi99 : vp_in x1 8)
    (k : Q (some (.int (((xu2 mem 111 y1.toNatClampNeg (xNar 15 y2)) 136 x1.toNatClampNeg) - ((xu2 mem 111 y1.toNatClampNeg (xNar 15 y2)) 137 x1.toNatClampNeg)))) (LAY, RFu r, xu2 mem 111 y1.toNatClampNeg (xNar 15 y2))) : P 87 [.ref 108, .int x1, v2] [.int y2, .int y1, .ref 111] (0, 0) (LAY, RFu r, mem) := by
  refine r_bastore hP d230_87 (by decide) ly_111 hi87 ?_
  refine r_aload_n hP d230_88 rfl ?_
  refine r_getr (a := 136) hP d230_89 fr_12_96 rfl ly_108 rg_108_41 ?_
  refine r_iload_n hP d230_92 rfl ?_
  refine r_iaload hP d230_93 ly_136 hi93 ?_
  refine r_aload_n hP d230_94 rfl ?_
  refine r_getr (a := 137) hP d230_95 fr_12_99 rfl ly_108 rg_108_42 ?_
  refine r_iload_n hP d230_98 rfl ?_
  refine r_iaload hP d230_99 ly_137 hi99 ?_
  refine r_isub hP d230_100 ?_
  exact r_iret hP d230_101 rfl k
theorem d231_0 : decode (xB 231) 0 = .ok (.iconst 0, 1) := by decide +kernel
theorem d231_1 : decode (xB 231) 1 = .ok (.istore_n 3, 1) := by decide +kernel
theorem d231_2 : decode (xB 231) 2 = .ok (.iload_n 3, 1) := by decide +kernel
theorem d231_3 : decode (xB 231) 3 = .ok (.aload_n 0, 1) := by decide +kernel
theorem d231_4 : decode (xB 231) 4 = .ok (.getfield 127, 3) := by decide +kernel
theorem d231_7 : decode (xB 231) 7 = .ok (.if_icmp .ge 63, 3) := by decide +kernel
theorem d231_10 : decode (xB 231) 10 = .ok (.iconst 0, 1) := by decide +kernel
theorem d231_11 : decode (xB 231) 11 = .ok (.istore 4, 2) := by decide +kernel
theorem d231_13 : decode (xB 231) 13 = .ok (.iload 4, 2) := by decide +kernel
theorem d231_15 : decode (xB 231) 15 = .ok (.iconst 4, 1) := by decide +kernel
theorem d231_16 : decode (xB 231) 16 = .ok (.if_icmp .ge 48, 3) := by decide +kernel
theorem d231_19 : decode (xB 231) 19 = .ok (.aload_n 0, 1) := by decide +kernel
theorem d231_20 : decode (xB 231) 20 = .ok (.getfield 109, 3) := by decide +kernel
theorem d231_23 : decode (xB 231) 23 = .ok (.bipush 121, 2) := by decide +kernel
theorem d231_25 : decode (xB 231) 25 = .ok (.iload_n 1, 1) := by decide +kernel
theorem d231_26 : decode (xB 231) 26 = .ok (.imul, 1) := by decide +kernel
theorem d231_27 : decode (xB 231) 27 = .ok (.bipush 7, 2) := by decide +kernel
theorem d231_29 : decode (xB 231) 29 = .ok (.iload_n 3, 1) := by decide +kernel
theorem d231_30 : decode (xB 231) 30 = .ok (.imul, 1) := by decide +kernel
theorem d231_31 : decode (xB 231) 31 = .ok (.iadd, 1) := by decide +kernel
theorem d231_32 : decode (xB 231) 32 = .ok (.iload 4, 2) := by decide +kernel
theorem d231_34 : decode (xB 231) 34 = .ok (.iadd, 1) := by decide +kernel
theorem d231_35 : decode (xB 231) 35 = .ok (.iaload, 1) := by decide +kernel
theorem d231_36 : decode (xB 231) 36 = .ok (.aload_n 0, 1) := by decide +kernel
theorem d231_37 : decode (xB 231) 37 = .ok (.getfield 109, 3) := by decide +kernel
theorem d231_40 : decode (xB 231) 40 = .ok (.bipush 121, 2) := by decide +kernel
theorem d231_42 : decode (xB 231) 42 = .ok (.iload_n 2, 1) := by decide +kernel
theorem d231_43 : decode (xB 231) 43 = .ok (.imul, 1) := by decide +kernel
theorem d231_44 : decode (xB 231) 44 = .ok (.bipush 7, 2) := by decide +kernel
theorem d231_46 : decode (xB 231) 46 = .ok (.iload_n 3, 1) := by decide +kernel
theorem d231_47 : decode (xB 231) 47 = .ok (.imul, 1) := by decide +kernel
theorem d231_48 : decode (xB 231) 48 = .ok (.iadd, 1) := by decide +kernel
theorem d231_49 : decode (xB 231) 49 = .ok (.iload 4, 2) := by decide +kernel
theorem d231_51 : decode (xB 231) 51 = .ok (.iadd, 1) := by decide +kernel
theorem d231_52 : decode (xB 231) 52 = .ok (.iaload, 1) := by decide +kernel
theorem d231_53 : decode (xB 231) 53 = .ok (.if_icmp .eq 5, 3) := by decide +kernel
theorem d231_56 : decode (xB 231) 56 = .ok (.iconst 0, 1) := by decide +kernel
theorem d231_57 : decode (xB 231) 57 = .ok (.ireturn, 1) := by decide +kernel
theorem d231_58 : decode (xB 231) 58 = .ok (.iinc 4 1, 3) := by decide +kernel
theorem d231_61 : decode (xB 231) 61 = .ok (.goto (-48), 3) := by decide +kernel
theorem d231_64 : decode (xB 231) 64 = .ok (.iinc 3 1, 3) := by decide +kernel
theorem d231_67 : decode (xB 231) 67 = .ok (.goto (-65), 3) := by decide +kernel
theorem d231_70 : decode (xB 231) 70 = .ok (.iconst 0, 1) := by decide +kernel
theorem d231_71 : decode (xB 231) 71 = .ok (.istore_n 3, 1) := by decide +kernel
theorem d231_72 : decode (xB 231) 72 = .ok (.iload_n 3, 1) := by decide +kernel
theorem d231_73 : decode (xB 231) 73 = .ok (.aload_n 0, 1) := by decide +kernel
theorem d231_74 : decode (xB 231) 74 = .ok (.getfield 127, 3) := by decide +kernel
theorem d231_77 : decode (xB 231) 77 = .ok (.if_icmp .ge 61, 3) := by decide +kernel
theorem d231_80 : decode (xB 231) 80 = .ok (.aload_n 0, 1) := by decide +kernel
theorem d231_81 : decode (xB 231) 81 = .ok (.getfield 23, 3) := by decide +kernel
theorem d231_84 : decode (xB 231) 84 = .ok (.iload_n 3, 1) := by decide +kernel
theorem d231_85 : decode (xB 231) 85 = .ok (.iaload, 1) := by decide +kernel
theorem d231_86 : decode (xB 231) 86 = .ok (.ifCond .le 46, 3) := by decide +kernel
theorem d231_89 : decode (xB 231) 89 = .ok (.aload_n 0, 1) := by decide +kernel
theorem d231_90 : decode (xB 231) 90 = .ok (.getfield 109, 3) := by decide +kernel
theorem d231_93 : decode (xB 231) 93 = .ok (.bipush 121, 2) := by decide +kernel
theorem d231_95 : decode (xB 231) 95 = .ok (.iload_n 1, 1) := by decide +kernel
theorem d231_96 : decode (xB 231) 96 = .ok (.imul, 1) := by decide +kernel
theorem d231_97 : decode (xB 231) 97 = .ok (.bipush 56, 2) := by decide +kernel
theorem d231_99 : decode (xB 231) 99 = .ok (.iadd, 1) := by decide +kernel
theorem d231_100 : decode (xB 231) 100 = .ok (.iaload, 1) := by decide +kernel
theorem d231_101 : decode (xB 231) 101 = .ok (.aload_n 0, 1) := by decide +kernel
theorem d231_102 : decode (xB 231) 102 = .ok (.getfield 23, 3) := by decide +kernel
theorem d231_105 : decode (xB 231) 105 = .ok (.iload_n 3, 1) := by decide +kernel
theorem d231_106 : decode (xB 231) 106 = .ok (.iaload, 1) := by decide +kernel
theorem d231_107 : decode (xB 231) 107 = .ok (.irem, 1) := by decide +kernel
theorem d231_108 : decode (xB 231) 108 = .ok (.aload_n 0, 1) := by decide +kernel
theorem d231_109 : decode (xB 231) 109 = .ok (.getfield 109, 3) := by decide +kernel
theorem d231_112 : decode (xB 231) 112 = .ok (.bipush 121, 2) := by decide +kernel
theorem d231_114 : decode (xB 231) 114 = .ok (.iload_n 2, 1) := by decide +kernel
theorem d231_115 : decode (xB 231) 115 = .ok (.imul, 1) := by decide +kernel
theorem d231_116 : decode (xB 231) 116 = .ok (.bipush 56, 2) := by decide +kernel
theorem d231_118 : decode (xB 231) 118 = .ok (.iadd, 1) := by decide +kernel
theorem d231_119 : decode (xB 231) 119 = .ok (.iaload, 1) := by decide +kernel
theorem d231_120 : decode (xB 231) 120 = .ok (.aload_n 0, 1) := by decide +kernel
theorem d231_121 : decode (xB 231) 121 = .ok (.getfield 23, 3) := by decide +kernel
theorem d231_124 : decode (xB 231) 124 = .ok (.iload_n 3, 1) := by decide +kernel
theorem d231_125 : decode (xB 231) 125 = .ok (.iaload, 1) := by decide +kernel
theorem d231_126 : decode (xB 231) 126 = .ok (.irem, 1) := by decide +kernel
theorem d231_127 : decode (xB 231) 127 = .ok (.if_icmp .eq 5, 3) := by decide +kernel
theorem d231_130 : decode (xB 231) 130 = .ok (.iconst 0, 1) := by decide +kernel
theorem d231_131 : decode (xB 231) 131 = .ok (.ireturn, 1) := by decide +kernel
theorem d231_132 : decode (xB 231) 132 = .ok (.iinc 3 1, 3) := by decide +kernel
theorem d231_135 : decode (xB 231) 135 = .ok (.goto (-63), 3) := by decide +kernel
theorem d231_138 : decode (xB 231) 138 = .ok (.iconst 1, 1) := by decide +kernel
theorem d231_139 : decode (xB 231) 139 = .ok (.ireturn, 1) := by decide +kernel
theorem b231_0 {d : Nat} {P : xPr} {Q : xQr} {r : Nat} {mem : Nat → Nat → Int32} (hP : Cl d none 231 P Q) {p0 : Int32} {p1 : Int32}
    (k : P 2 [.ref 108, .int p0, .int p1, .int (nI 0), .null] [] (0, 0) (LAY, RFu r, mem)) : P 0 [.ref 108, .int p0, .int p1, .null, .null] [] (0, 0) (LAY, RFu r, mem) := by
  refine r_iconst (v := nI 0) hP d231_0 rfl ?_
  refine r_istore_n (L' := [.ref 108, .int p0, .int p1, .int (nI 0), .null]) hP d231_1 (Nat.le_of_ble_eq_true rfl) rfl ?_
  exact k
theorem b231_2 {d : Nat} {P : xPr} {Q : xQr} {r : Nat} {mem : Nat → Nat → Int32} (hP : Cl d none 231 P Q) {x1 : Int32} {x2 : Int32} {x3 : Int32} {v4 : Value}
    (kt : (mem 108 2) ≤ x3 → P 70 [.ref 108, .int x1, .int x2, .int x3, v4] [] (0, 0) (LAY, RFu r, mem)) (kf : ¬ (mem 108 2) ≤ x3 → P 10 [.ref 108, .int x1, .int x2, .int x3, v4] [] (0, 0) (LAY, RFu r, mem)) : P 2 [.ref 108, .int x1, .int x2, .int x3, v4] [] (0, 0) (LAY, RFu r, mem) := by
  refine r_iload_n hP d231_2 rfl ?_
  refine r_aload_n hP d231_3 rfl ?_
  refine r_geti hP d231_4 fr_12_127 rfl ly_108 ?_
  exact r_icmp (t := 70) hP d231_7 (by decide) kt kf
theorem b231_10 {d : Nat} {P : xPr} {Q : xQr} {r : Nat} {mem : Nat → Nat → Int32} (hP : Cl d none 231 P Q) {x1 : Int32} {x2 : Int32} {x3 : Int32} {v4 : Value}
    (k : P 13 [.ref 108, .int x1, .int x2, .int x3, .int (nI 0)] [] (0, 0) (LAY, RFu r, mem)) : P 10 [.ref 108, .int x1, .int x2, .int x3, v4] [] (0, 0) (LAY, RFu r, mem) := by
  refine r_iconst (v := nI 0) hP d231_10 rfl ?_
  refine r_istore (L' := [.ref 108, .int x1, .int x2, .int x3, .int (nI 0)]) hP d231_11 (Nat.le_of_ble_eq_true rfl) rfl ?_
  exact k
theorem b231_13 {d : Nat} {P : xPr} {Q : xQr} {r : Nat} {mem : Nat → Nat → Int32} (hP : Cl d none 231 P Q) {x1 : Int32} {x2 : Int32} {x3 : Int32} {x4 : Int32}
    (kt : (nI 4) ≤ x4 → P 64 [.ref 108, .int x1, .int x2, .int x3, .int x4] [] (0, 0) (LAY, RFu r, mem)) (kf : ¬ (nI 4) ≤ x4 → P 19 [.ref 108, .int x1, .int x2, .int x3, .int x4] [] (0, 0) (LAY, RFu r, mem)) : P 13 [.ref 108, .int x1, .int x2, .int x3, .int x4] [] (0, 0) (LAY, RFu r, mem) := by
  refine r_iload hP d231_13 rfl ?_
  refine r_iconst (v := nI 4) hP d231_15 rfl ?_
  exact r_icmp (t := 64) hP d231_16 (by decide) kt kf
theorem b231_19 {d : Nat} {P : xPr} {Q : xQr} {r : Nat} {mem : Nat → Nat → Int32} (hP : Cl d none 231 P Q) {x1 : Int32} {x2 : Int32} {x3 : Int32} {x4 : Int32} (hi35 : vp_in ((((nI 121) * x1) + ((nI 7) * x3)) + x4) 60621) (hi52 : vp_in ((((nI 121) * x2) + ((nI 7) * x3)) + x4) 60621)
    (kt : (mem 140 ((((nI 121) * x1) + ((nI 7) * x3)) + x4).toNatClampNeg) = (mem 140 ((((nI 121) * x2) + ((nI 7) * x3)) + x4).toNatClampNeg) → P 58 [.ref 108, .int x1, .int x2, .int x3, .int x4] [] (0, 0) (LAY, RFu r, mem)) (kf : ¬ (mem 140 ((((nI 121) * x1) + ((nI 7) * x3)) + x4).toNatClampNeg) = (mem 140 ((((nI 121) * x2) + ((nI 7) * x3)) + x4).toNatClampNeg) → P 56 [.ref 108, .int x1, .int x2, .int x3, .int x4] [] (0, 0) (LAY, RFu r, mem)) : P 19 [.ref 108, .int x1, .int x2, .int x3, .int x4] [] (0, 0) (LAY, RFu r, mem) := by
  refine r_aload_n hP d231_19 rfl ?_
  refine r_getr (a := 140) hP d231_20 fr_12_109 rfl ly_108 rg_108_46 ?_
  refine r_bipush (v := nI 121) hP d231_23 rfl ?_
  refine r_iload_n hP d231_25 rfl ?_
  refine r_imul hP d231_26 ?_
  refine r_bipush (v := nI 7) hP d231_27 rfl ?_
  refine r_iload_n hP d231_29 rfl ?_
  refine r_imul hP d231_30 ?_
  refine r_iadd hP d231_31 ?_
  refine r_iload hP d231_32 rfl ?_
  refine r_iadd hP d231_34 ?_
  refine r_iaload hP d231_35 ly_140 hi35 ?_
  refine r_aload_n hP d231_36 rfl ?_
  refine r_getr (a := 140) hP d231_37 fr_12_109 rfl ly_108 rg_108_46 ?_
  refine r_bipush (v := nI 121) hP d231_40 rfl ?_
  refine r_iload_n hP d231_42 rfl ?_
  refine r_imul hP d231_43 ?_
  refine r_bipush (v := nI 7) hP d231_44 rfl ?_
  refine r_iload_n hP d231_46 rfl ?_
  refine r_imul hP d231_47 ?_
  refine r_iadd hP d231_48 ?_
  refine r_iload hP d231_49 rfl ?_
  refine r_iadd hP d231_51 ?_
  refine r_iaload hP d231_52 ly_140 hi52 ?_
  exact r_icmp (t := 58) hP d231_53 (by decide) kt kf
theorem b231_56 {d : Nat} {P : xPr} {Q : xQr} {r : Nat} {mem : Nat → Nat → Int32} (hP : Cl d none 231 P Q) {v0 : Value} {v1 : Value} {v2 : Value} {v3 : Value} {v4 : Value} (hzr : nI 0 = 0 ∨ nI 0 = 1)
    (k : Q (some (.int (nI 0))) (LAY, RFu r, mem)) : P 56 [v0, v1, v2, v3, v4] [] (0, 0) (LAY, RFu r, mem) := by
  refine r_iconst (v := nI 0) hP d231_56 rfl ?_
  exact r_zret hP d231_57 rfl hzr k
theorem b231_58 {d : Nat} {P : xPr} {Q : xQr} {r : Nat} {mem : Nat → Nat → Int32} (hP : Cl d none 231 P Q) {x1 : Int32} {x2 : Int32} {x3 : Int32} {x4 : Int32}
    (k : P 13 [.ref 108, .int x1, .int x2, .int x3, .int (x4 + nI 1)] [] (0, 0) (LAY, RFu r, mem)) : P 58 [.ref 108, .int x1, .int x2, .int x3, .int x4] [] (0, 0) (LAY, RFu r, mem) := by
  refine r_iinc (v := nI 1) (L' := [.ref 108, .int x1, .int x2, .int x3, .int (x4 + nI 1)]) hP d231_58 rfl rfl rfl ?_
  refine r_goto (t := 13) hP d231_61 (by decide) ?_
  exact k
theorem b231_64 {d : Nat} {P : xPr} {Q : xQr} {r : Nat} {mem : Nat → Nat → Int32} (hP : Cl d none 231 P Q) {x1 : Int32} {x2 : Int32} {x3 : Int32} {v4 : Value}
    (k : P 2 [.ref 108, .int x1, .int x2, .int (x3 + nI 1), v4] [] (0, 0) (LAY, RFu r, mem)) : P 64 [.ref 108, .int x1, .int x2, .int x3, v4] [] (0, 0) (LAY, RFu r, mem) := by
  refine r_iinc (v := nI 1) (L' := [.ref 108, .int x1, .int x2, .int (x3 + nI 1), v4]) hP d231_64 rfl rfl rfl ?_
  refine r_goto (t := 2) hP d231_67 (by decide) ?_
  exact k
theorem b231_70 {d : Nat} {P : xPr} {Q : xQr} {r : Nat} {mem : Nat → Nat → Int32} (hP : Cl d none 231 P Q) {x1 : Int32} {x2 : Int32} {v3 : Value} {v4 : Value}
    (k : P 72 [.ref 108, .int x1, .int x2, .int (nI 0), v4] [] (0, 0) (LAY, RFu r, mem)) : P 70 [.ref 108, .int x1, .int x2, v3, v4] [] (0, 0) (LAY, RFu r, mem) := by
  refine r_iconst (v := nI 0) hP d231_70 rfl ?_
  refine r_istore_n (L' := [.ref 108, .int x1, .int x2, .int (nI 0), v4]) hP d231_71 (Nat.le_of_ble_eq_true rfl) rfl ?_
  exact k
theorem b231_72 {d : Nat} {P : xPr} {Q : xQr} {r : Nat} {mem : Nat → Nat → Int32} (hP : Cl d none 231 P Q) {x1 : Int32} {x2 : Int32} {x3 : Int32} {v4 : Value}
    (kt : (mem 108 2) ≤ x3 → P 138 [.ref 108, .int x1, .int x2, .int x3, v4] [] (0, 0) (LAY, RFu r, mem)) (kf : ¬ (mem 108 2) ≤ x3 → P 80 [.ref 108, .int x1, .int x2, .int x3, v4] [] (0, 0) (LAY, RFu r, mem)) : P 72 [.ref 108, .int x1, .int x2, .int x3, v4] [] (0, 0) (LAY, RFu r, mem) := by
  refine r_iload_n hP d231_72 rfl ?_
  refine r_aload_n hP d231_73 rfl ?_
  refine r_geti hP d231_74 fr_12_127 rfl ly_108 ?_
  exact r_icmp (t := 138) hP d231_77 (by decide) kt kf
theorem b231_80 {d : Nat} {P : xPr} {Q : xQr} {r : Nat} {mem : Nat → Nat → Int32} (hP : Cl d none 231 P Q) {x1 : Int32} {x2 : Int32} {x3 : Int32} {v4 : Value} (hi85 : vp_in x3 8)
    (kt : (mem 113 x3.toNatClampNeg) ≤ 0 → P 132 [.ref 108, .int x1, .int x2, .int x3, v4] [] (0, 0) (LAY, RFu r, mem)) (kf : ¬ (mem 113 x3.toNatClampNeg) ≤ 0 → P 89 [.ref 108, .int x1, .int x2, .int x3, v4] [] (0, 0) (LAY, RFu r, mem)) : P 80 [.ref 108, .int x1, .int x2, .int x3, v4] [] (0, 0) (LAY, RFu r, mem) := by
  refine r_aload_n hP d231_80 rfl ?_
  refine r_getr (a := 113) hP d231_81 fr_12_23 rfl ly_108 rg_108_6 ?_
  refine r_iload_n hP d231_84 rfl ?_
  refine r_iaload hP d231_85 ly_113 hi85 ?_
  exact r_if (t := 132) hP d231_86 (by decide) kt kf
theorem b231_89 {d : Nat} {P : xPr} {Q : xQr} {r : Nat} {mem : Nat → Nat → Int32} (hP : Cl d none 231 P Q) {x1 : Int32} {x2 : Int32} {x3 : Int32} {v4 : Value} (hi100 : vp_in (((nI 121) * x1) + (nI 56)) 60621) (hi106 : vp_in x3 8) (hz107 : ¬ (mem 113 x3.toNatClampNeg) = 0) (hi119 : vp_in (((nI 121) * x2) + (nI 56)) 60621) (hi125 : vp_in x3 8) (hz126 : ¬ (mem 113 x3.toNatClampNeg) = 0)
    (kt : ((mem 140 (((nI 121) * x1) + (nI 56)).toNatClampNeg) - (mem 140 (((nI 121) * x1) + (nI 56)).toNatClampNeg) / (mem 113 x3.toNatClampNeg) * (mem 113 x3.toNatClampNeg)) = ((mem 140 (((nI 121) * x2) + (nI 56)).toNatClampNeg) - (mem 140 (((nI 121) * x2) + (nI 56)).toNatClampNeg) / (mem 113 x3.toNatClampNeg) * (mem 113 x3.toNatClampNeg)) → P 132 [.ref 108, .int x1, .int x2, .int x3, v4] [] (0, 0) (LAY, RFu r, mem)) (kf : ¬ ((mem 140 (((nI 121) * x1) + (nI 56)).toNatClampNeg) - (mem 140 (((nI 121) * x1) + (nI 56)).toNatClampNeg) / (mem 113 x3.toNatClampNeg) * (mem 113 x3.toNatClampNeg)) = ((mem 140 (((nI 121) * x2) + (nI 56)).toNatClampNeg) - (mem 140 (((nI 121) * x2) + (nI 56)).toNatClampNeg) / (mem 113 x3.toNatClampNeg) * (mem 113 x3.toNatClampNeg)) → P 130 [.ref 108, .int x1, .int x2, .int x3, v4] [] (0, 0) (LAY, RFu r, mem)) : P 89 [.ref 108, .int x1, .int x2, .int x3, v4] [] (0, 0) (LAY, RFu r, mem) := by
  refine r_aload_n hP d231_89 rfl ?_
  refine r_getr (a := 140) hP d231_90 fr_12_109 rfl ly_108 rg_108_46 ?_
  refine r_bipush (v := nI 121) hP d231_93 rfl ?_
  refine r_iload_n hP d231_95 rfl ?_
  refine r_imul hP d231_96 ?_
  refine r_bipush (v := nI 56) hP d231_97 rfl ?_
  refine r_iadd hP d231_99 ?_
  refine r_iaload hP d231_100 ly_140 hi100 ?_
  refine r_aload_n hP d231_101 rfl ?_
  refine r_getr (a := 113) hP d231_102 fr_12_23 rfl ly_108 rg_108_6 ?_
  refine r_iload_n hP d231_105 rfl ?_
  refine r_iaload hP d231_106 ly_113 hi106 ?_
  refine r_irem hP d231_107 hz107 ?_
  refine r_aload_n hP d231_108 rfl ?_
  refine r_getr (a := 140) hP d231_109 fr_12_109 rfl ly_108 rg_108_46 ?_
  refine r_bipush (v := nI 121) hP d231_112 rfl ?_
  refine r_iload_n hP d231_114 rfl ?_
  refine r_imul hP d231_115 ?_
  refine r_bipush (v := nI 56) hP d231_116 rfl ?_
  refine r_iadd hP d231_118 ?_
  refine r_iaload hP d231_119 ly_140 hi119 ?_
  refine r_aload_n hP d231_120 rfl ?_
  refine r_getr (a := 113) hP d231_121 fr_12_23 rfl ly_108 rg_108_6 ?_
  refine r_iload_n hP d231_124 rfl ?_
  refine r_iaload hP d231_125 ly_113 hi125 ?_
  refine r_irem hP d231_126 hz126 ?_
  exact r_icmp (t := 132) hP d231_127 (by decide) kt kf
theorem b231_130 {d : Nat} {P : xPr} {Q : xQr} {r : Nat} {mem : Nat → Nat → Int32} (hP : Cl d none 231 P Q) {v0 : Value} {v1 : Value} {v2 : Value} {v3 : Value} {v4 : Value} (hzr : nI 0 = 0 ∨ nI 0 = 1)
    (k : Q (some (.int (nI 0))) (LAY, RFu r, mem)) : P 130 [v0, v1, v2, v3, v4] [] (0, 0) (LAY, RFu r, mem) := by
  refine r_iconst (v := nI 0) hP d231_130 rfl ?_
  exact r_zret hP d231_131 rfl hzr k
theorem b231_132 {d : Nat} {P : xPr} {Q : xQr} {r : Nat} {mem : Nat → Nat → Int32} (hP : Cl d none 231 P Q) {x1 : Int32} {x2 : Int32} {x3 : Int32} {v4 : Value}
    (k : P 72 [.ref 108, .int x1, .int x2, .int (x3 + nI 1), v4] [] (0, 0) (LAY, RFu r, mem)) : P 132 [.ref 108, .int x1, .int x2, .int x3, v4] [] (0, 0) (LAY, RFu r, mem) := by
  refine r_iinc (v := nI 1) (L' := [.ref 108, .int x1, .int x2, .int (x3 + nI 1), v4]) hP d231_132 rfl rfl rfl ?_
  refine r_goto (t := 72) hP d231_135 (by decide) ?_
  exact k
theorem b231_138 {d : Nat} {P : xPr} {Q : xQr} {r : Nat} {mem : Nat → Nat → Int32} (hP : Cl d none 231 P Q) {v0 : Value} {v1 : Value} {v2 : Value} {v3 : Value} {v4 : Value} (hzr : nI 1 = 0 ∨ nI 1 = 1)
    (k : Q (some (.int (nI 1))) (LAY, RFu r, mem)) : P 138 [v0, v1, v2, v3, v4] [] (0, 0) (LAY, RFu r, mem) := by
  refine r_iconst (v := nI 1) hP d231_138 rfl ?_
  exact r_zret hP d231_139 rfl hzr k
theorem d232_0 : decode (xB 232) 0 = .ok (.aload_n 0, 1) := by decide +kernel
theorem d232_1 : decode (xB 232) 1 = .ok (.iconst 0, 1) := by decide +kernel
theorem d232_2 : decode (xB 232) 2 = .ok (.putfield 121, 3) := by decide +kernel
theorem d232_5 : decode (xB 232) 5 = .ok (.aload_n 0, 1) := by decide +kernel
theorem d232_6 : decode (xB 232) 6 = .ok (.aload_n 0, 1) := by decide +kernel
theorem d232_7 : decode (xB 232) 7 = .ok (.getfield 87, 3) := by decide +kernel
theorem d232_10 : decode (xB 232) 10 = .ok (.iconst 0, 1) := by decide +kernel
theorem d232_11 : decode (xB 232) 11 = .ok (.invokevirtual 245, 3) := by decide +kernel
theorem d232_14 : decode (xB 232) 14 = .ok (.bipush (-2), 2) := by decide +kernel
theorem d232_16 : decode (xB 232) 16 = .ok (.istore_n 1, 1) := by decide +kernel
theorem d232_17 : decode (xB 232) 17 = .ok (.iconst 0, 1) := by decide +kernel
theorem d232_18 : decode (xB 232) 18 = .ok (.istore_n 2, 1) := by decide +kernel
theorem d232_19 : decode (xB 232) 19 = .ok (.aload_n 0, 1) := by decide +kernel
theorem d232_20 : decode (xB 232) 20 = .ok (.aload_n 0, 1) := by decide +kernel
theorem d232_21 : decode (xB 232) 21 = .ok (.getfield 109, 3) := by decide +kernel
theorem d232_24 : decode (xB 232) 24 = .ok (.iconst 0, 1) := by decide +kernel
theorem d232_25 : decode (xB 232) 25 = .ok (.invokevirtual 245, 3) := by decide +kernel
theorem d232_28 : decode (xB 232) 28 = .ok (.iconst 1, 1) := by decide +kernel
theorem d232_29 : decode (xB 232) 29 = .ok (.istore_n 3, 1) := by decide +kernel
theorem d232_30 : decode (xB 232) 30 = .ok (.iload_n 3, 1) := by decide +kernel
theorem d232_31 : decode (xB 232) 31 = .ok (.sipush 500, 3) := by decide +kernel
theorem d232_34 : decode (xB 232) 34 = .ok (.if_icmp .gt 67, 3) := by decide +kernel
theorem d232_37 : decode (xB 232) 37 = .ok (.iload_n 1, 1) := by decide +kernel
theorem d232_38 : decode (xB 232) 38 = .ok (.ifCond .ge 63, 3) := by decide +kernel
theorem d232_41 : decode (xB 232) 41 = .ok (.aload_n 0, 1) := by decide +kernel
theorem d232_42 : decode (xB 232) 42 = .ok (.invokevirtual 252, 3) := by decide +kernel
theorem d232_45 : decode (xB 232) 45 = .ok (.pop, 1) := by decide +kernel
theorem d232_46 : decode (xB 232) 46 = .ok (.aload_n 0, 1) := by decide +kernel
theorem d232_47 : decode (xB 232) 47 = .ok (.aload_n 0, 1) := by decide +kernel
theorem d232_48 : decode (xB 232) 48 = .ok (.getfield 109, 3) := by decide +kernel
theorem d232_51 : decode (xB 232) 51 = .ok (.bipush 121, 2) := by decide +kernel
theorem d232_53 : decode (xB 232) 53 = .ok (.iload_n 3, 1) := by decide +kernel
theorem d232_54 : decode (xB 232) 54 = .ok (.imul, 1) := by decide +kernel
theorem d232_55 : decode (xB 232) 55 = .ok (.invokevirtual 245, 3) := by decide +kernel
theorem d232_58 : decode (xB 232) 58 = .ok (.iconst 0, 1) := by decide +kernel
theorem d232_59 : decode (xB 232) 59 = .ok (.istore 4, 2) := by decide +kernel
theorem d232_61 : decode (xB 232) 61 = .ok (.iload 4, 2) := by decide +kernel
theorem d232_63 : decode (xB 232) 63 = .ok (.iload_n 3, 1) := by decide +kernel
theorem d232_64 : decode (xB 232) 64 = .ok (.if_icmp .ge 31, 3) := by decide +kernel
theorem d232_67 : decode (xB 232) 67 = .ok (.iload_n 1, 1) := by decide +kernel
theorem d232_68 : decode (xB 232) 68 = .ok (.ifCond .ge 27, 3) := by decide +kernel
theorem d232_71 : decode (xB 232) 71 = .ok (.aload_n 0, 1) := by decide +kernel
theorem d232_72 : decode (xB 232) 72 = .ok (.iload 4, 2) := by decide +kernel
theorem d232_74 : decode (xB 232) 74 = .ok (.iload_n 3, 1) := by decide +kernel
theorem d232_75 : decode (xB 232) 75 = .ok (.invokevirtual 314, 3) := by decide +kernel
theorem d232_78 : decode (xB 232) 78 = .ok (.ifCond .ne 6, 3) := by decide +kernel
theorem d232_81 : decode (xB 232) 81 = .ok (.goto 8, 3) := by decide +kernel
theorem d232_84 : decode (xB 232) 84 = .ok (.iload_n 3, 1) := by decide +kernel
theorem d232_85 : decode (xB 232) 85 = .ok (.istore_n 1, 1) := by decide +kernel
theorem d232_86 : decode (xB 232) 86 = .ok (.iload 4, 2) := by decide +kernel
theorem d232_88 : decode (xB 232) 88 = .ok (.istore_n 2, 1) := by decide +kernel
theorem d232_89 : decode (xB 232) 89 = .ok (.iinc 4 1, 3) := by decide +kernel
theorem d232_92 : decode (xB 232) 92 = .ok (.goto (-31), 3) := by decide +kernel
theorem d232_95 : decode (xB 232) 95 = .ok (.iinc 3 1, 3) := by decide +kernel
theorem d232_98 : decode (xB 232) 98 = .ok (.goto (-68), 3) := by decide +kernel
theorem d232_101 : decode (xB 232) 101 = .ok (.aload_n 0, 1) := by decide +kernel
theorem d232_102 : decode (xB 232) 102 = .ok (.aload_n 0, 1) := by decide +kernel
theorem d232_103 : decode (xB 232) 103 = .ok (.getfield 87, 3) := by decide +kernel
theorem d232_106 : decode (xB 232) 106 = .ok (.iconst 0, 1) := by decide +kernel
theorem d232_107 : decode (xB 232) 107 = .ok (.invokevirtual 261, 3) := by decide +kernel
theorem d232_110 : decode (xB 232) 110 = .ok (.iload_n 1, 1) := by decide +kernel
theorem d232_111 : decode (xB 232) 111 = .ok (.ifCond .ge 6, 3) := by decide +kernel
theorem d232_114 : decode (xB 232) 114 = .ok (.bipush (-2), 2) := by decide +kernel
theorem d232_116 : decode (xB 232) 116 = .ok (.ireturn, 1) := by decide +kernel
theorem d232_117 : decode (xB 232) 117 = .ok (.aload_n 0, 1) := by decide +kernel
theorem d232_118 : decode (xB 232) 118 = .ok (.iconst 0, 1) := by decide +kernel
theorem d232_119 : decode (xB 232) 119 = .ok (.putfield 124, 3) := by decide +kernel
theorem d232_122 : decode (xB 232) 122 = .ok (.aload_n 0, 1) := by decide +kernel
theorem d232_123 : decode (xB 232) 123 = .ok (.iload_n 2, 1) := by decide +kernel
theorem d232_124 : decode (xB 232) 124 = .ok (.invokevirtual 258, 3) := by decide +kernel
theorem d232_127 : decode (xB 232) 127 = .ok (.iload_n 1, 1) := by decide +kernel
theorem d232_128 : decode (xB 232) 128 = .ok (.ireturn, 1) := by decide +kernel
theorem b232_0 {d : Nat} {P : xPr} {Q : xQr} {r : Nat} {mem : Nat → Nat → Int32} (hP : Cl d none 232 P Q)
    (k : xCall d 191 [.ref 108, .ref 133, .int (nI 0)] (LAY, RFu r, xu2 mem 108 20 (nI 0)) (Bk P 11 [.ref 108, .null, .null, .null, .null] [] (0, 0))) : P 0 [.ref 108, .null, .null, .null, .null] [] (0, 0) (LAY, RFu r, mem) := by
  refine r_aload_n hP d232_0 rfl ?_
  refine r_iconst (v := nI 0) hP d232_1 rfl ?_
  refine r_puti hP d232_2 fr_12_121 rfl (fun q => by cases q) ly_108 ?_
  refine r_aload_n hP d232_5 rfl ?_
  refine r_aload_n hP d232_6 rfl ?_
  refine r_getr (a := 133) hP d232_7 fr_12_87 rfl ly_108 rg_108_38 ?_
  refine r_iconst (v := nI 0) hP d232_10 rfl ?_
  exact r_callv (As := [.ref 133, .int (nI 0)]) (S := []) hP d232_11 cr_12_245 (by decide +kernel) rfl (by simp [Value.category]) rfl ly_108 (by simp [Value.category]) ⟨Nat.zero_le _, Nat.zero_le _⟩ k
theorem b232_14 {d : Nat} {P : xPr} {Q : xQr} {r : Nat} {mem : Nat → Nat → Int32} (hP : Cl d none 232 P Q) {v1 : Value} {v2 : Value} {v3 : Value} {v4 : Value}
    (k : xCall d 191 [.ref 108, .ref 140, .int (nI 0)] (LAY, RFu r, mem) (Bk P 25 [.ref 108, .int (-2), .int (nI 0), v3, v4] [] (0, 0))) : P 14 [.ref 108, v1, v2, v3, v4] [] (0, 0) (LAY, RFu r, mem) := by
  refine r_bipush (v := (-2)) hP d232_14 rfl ?_
  refine r_istore_n (L' := [.ref 108, .int (-2), v2, v3, v4]) hP d232_16 (Nat.le_of_ble_eq_true rfl) rfl ?_
  refine r_iconst (v := nI 0) hP d232_17 rfl ?_
  refine r_istore_n (L' := [.ref 108, .int (-2), .int (nI 0), v3, v4]) hP d232_18 (Nat.le_of_ble_eq_true rfl) rfl ?_
  refine r_aload_n hP d232_19 rfl ?_
  refine r_aload_n hP d232_20 rfl ?_
  refine r_getr (a := 140) hP d232_21 fr_12_109 rfl ly_108 rg_108_46 ?_
  refine r_iconst (v := nI 0) hP d232_24 rfl ?_
  exact r_callv (As := [.ref 140, .int (nI 0)]) (S := []) hP d232_25 cr_12_245 (by decide +kernel) rfl (by simp [Value.category]) rfl ly_108 (by simp [Value.category]) ⟨Nat.zero_le _, Nat.zero_le _⟩ k
theorem b232_28 {d : Nat} {P : xPr} {Q : xQr} {r : Nat} {mem : Nat → Nat → Int32} (hP : Cl d none 232 P Q) {x1 : Int32} {x2 : Int32} {v3 : Value} {v4 : Value}
    (k : P 30 [.ref 108, .int x1, .int x2, .int (nI 1), v4] [] (0, 0) (LAY, RFu r, mem)) : P 28 [.ref 108, .int x1, .int x2, v3, v4] [] (0, 0) (LAY, RFu r, mem) := by
  refine r_iconst (v := nI 1) hP d232_28 rfl ?_
  refine r_istore_n (L' := [.ref 108, .int x1, .int x2, .int (nI 1), v4]) hP d232_29 (Nat.le_of_ble_eq_true rfl) rfl ?_
  exact k
theorem b232_30 {d : Nat} {P : xPr} {Q : xQr} {r : Nat} {mem : Nat → Nat → Int32} (hP : Cl d none 232 P Q) {x1 : Int32} {x2 : Int32} {x3 : Int32} {v4 : Value}
    (kt : (nI 500) < x3 → P 101 [.ref 108, .int x1, .int x2, .int x3, v4] [] (0, 0) (LAY, RFu r, mem)) (kf : ¬ (nI 500) < x3 → P 37 [.ref 108, .int x1, .int x2, .int x3, v4] [] (0, 0) (LAY, RFu r, mem)) : P 30 [.ref 108, .int x1, .int x2, .int x3, v4] [] (0, 0) (LAY, RFu r, mem) := by
  refine r_iload_n hP d232_30 rfl ?_
  refine r_sipush (v := nI 500) hP d232_31 rfl ?_
  exact r_icmp (t := 101) hP d232_34 (by decide) kt kf
theorem b232_37 {d : Nat} {P : xPr} {Q : xQr} {r : Nat} {mem : Nat → Nat → Int32} (hP : Cl d none 232 P Q) {x1 : Int32} {x2 : Int32} {x3 : Int32} {v4 : Value}
    (kt : 0 ≤ x1 → P 101 [.ref 108, .int x1, .int x2, .int x3, v4] [] (0, 0) (LAY, RFu r, mem)) (kf : ¬ 0 ≤ x1 → P 41 [.ref 108, .int x1, .int x2, .int x3, v4] [] (0, 0) (LAY, RFu r, mem)) : P 37 [.ref 108, .int x1, .int x2, .int x3, v4] [] (0, 0) (LAY, RFu r, mem) := by
  refine r_iload_n hP d232_37 rfl ?_
  exact r_if (t := 101) hP d232_38 (by decide) kt kf
theorem b232_41 {d : Nat} {P : xPr} {Q : xQr} {r : Nat} {mem : Nat → Nat → Int32} (hP : Cl d none 232 P Q) {x1 : Int32} {x2 : Int32} {x3 : Int32} {v4 : Value}
    (k : xCall d 190 [.ref 108] (LAY, RFu r, mem) (Bk P 42 [.ref 108, .int x1, .int x2, .int x3, v4] [] (0, 0))) : P 41 [.ref 108, .int x1, .int x2, .int x3, v4] [] (0, 0) (LAY, RFu r, mem) := by
  refine r_aload_n hP d232_41 rfl ?_
  exact r_callv (As := []) (S := []) hP d232_42 cr_12_252 (by decide +kernel) rfl (by simp) rfl ly_108 (by simp [Value.category]) ⟨Nat.zero_le _, Nat.zero_le _⟩ k
theorem b232_45 {d : Nat} {P : xPr} {Q : xQr} {r : Nat} {mem : Nat → Nat → Int32} (hP : Cl d none 232 P Q) {x1 : Int32} {x2 : Int32} {x3 : Int32} {v4 : Value} {y0 : Int32}
    (k : xCall d 191 [.ref 108, .ref 140, .int ((nI 121) * x3)] (LAY, RFu r, mem) (Bk P 55 [.ref 108, .int x1, .int x2, .int x3, v4] [] (0, 0))) : P 45 [.ref 108, .int x1, .int x2, .int x3, v4] [.int y0] (0, 0) (LAY, RFu r, mem) := by
  refine r_pop hP d232_45 rfl ?_
  refine r_aload_n hP d232_46 rfl ?_
  refine r_aload_n hP d232_47 rfl ?_
  refine r_getr (a := 140) hP d232_48 fr_12_109 rfl ly_108 rg_108_46 ?_
  refine r_bipush (v := nI 121) hP d232_51 rfl ?_
  refine r_iload_n hP d232_53 rfl ?_
  refine r_imul hP d232_54 ?_
  exact r_callv (As := [.ref 140, .int ((nI 121) * x3)]) (S := []) hP d232_55 cr_12_245 (by decide +kernel) rfl (by simp [Value.category]) rfl ly_108 (by simp [Value.category]) ⟨Nat.zero_le _, Nat.zero_le _⟩ k
theorem b232_58 {d : Nat} {P : xPr} {Q : xQr} {r : Nat} {mem : Nat → Nat → Int32} (hP : Cl d none 232 P Q) {x1 : Int32} {x2 : Int32} {x3 : Int32} {v4 : Value}
    (k : P 61 [.ref 108, .int x1, .int x2, .int x3, .int (nI 0)] [] (0, 0) (LAY, RFu r, mem)) : P 58 [.ref 108, .int x1, .int x2, .int x3, v4] [] (0, 0) (LAY, RFu r, mem) := by
  refine r_iconst (v := nI 0) hP d232_58 rfl ?_
  refine r_istore (L' := [.ref 108, .int x1, .int x2, .int x3, .int (nI 0)]) hP d232_59 (Nat.le_of_ble_eq_true rfl) rfl ?_
  exact k
theorem b232_61 {d : Nat} {P : xPr} {Q : xQr} {r : Nat} {mem : Nat → Nat → Int32} (hP : Cl d none 232 P Q) {x1 : Int32} {x2 : Int32} {x3 : Int32} {x4 : Int32}
    (kt : x3 ≤ x4 → P 95 [.ref 108, .int x1, .int x2, .int x3, .int x4] [] (0, 0) (LAY, RFu r, mem)) (kf : ¬ x3 ≤ x4 → P 67 [.ref 108, .int x1, .int x2, .int x3, .int x4] [] (0, 0) (LAY, RFu r, mem)) : P 61 [.ref 108, .int x1, .int x2, .int x3, .int x4] [] (0, 0) (LAY, RFu r, mem) := by
  refine r_iload hP d232_61 rfl ?_
  refine r_iload_n hP d232_63 rfl ?_
  exact r_icmp (t := 95) hP d232_64 (by decide) kt kf
theorem b232_67 {d : Nat} {P : xPr} {Q : xQr} {r : Nat} {mem : Nat → Nat → Int32} (hP : Cl d none 232 P Q) {x1 : Int32} {x2 : Int32} {x3 : Int32} {x4 : Int32}
    (kt : 0 ≤ x1 → P 95 [.ref 108, .int x1, .int x2, .int x3, .int x4] [] (0, 0) (LAY, RFu r, mem)) (kf : ¬ 0 ≤ x1 → P 71 [.ref 108, .int x1, .int x2, .int x3, .int x4] [] (0, 0) (LAY, RFu r, mem)) : P 67 [.ref 108, .int x1, .int x2, .int x3, .int x4] [] (0, 0) (LAY, RFu r, mem) := by
  refine r_iload_n hP d232_67 rfl ?_
  exact r_if (t := 95) hP d232_68 (by decide) kt kf
theorem b232_71 {d : Nat} {P : xPr} {Q : xQr} {r : Nat} {mem : Nat → Nat → Int32} (hP : Cl d none 232 P Q) {x1 : Int32} {x2 : Int32} {x3 : Int32} {x4 : Int32}
    (k : xCall d 231 [.ref 108, .int x4, .int x3] (LAY, RFu r, mem) (Bk P 75 [.ref 108, .int x1, .int x2, .int x3, .int x4] [] (0, 0))) : P 71 [.ref 108, .int x1, .int x2, .int x3, .int x4] [] (0, 0) (LAY, RFu r, mem) := by
  refine r_aload_n hP d232_71 rfl ?_
  refine r_iload hP d232_72 rfl ?_
  refine r_iload_n hP d232_74 rfl ?_
  exact r_callv (As := [.int x4, .int x3]) (S := []) hP d232_75 cr_12_314 (by decide +kernel) rfl (by simp [Value.category]) rfl ly_108 (by simp [Value.category]) ⟨Nat.zero_le _, Nat.zero_le _⟩ k
theorem b232_78 {d : Nat} {P : xPr} {Q : xQr} {r : Nat} {mem : Nat → Nat → Int32} (hP : Cl d none 232 P Q) {x1 : Int32} {x2 : Int32} {x3 : Int32} {x4 : Int32} {y0 : Int32}
    (kt : ¬ y0 = 0 → P 84 [.ref 108, .int x1, .int x2, .int x3, .int x4] [] (0, 0) (LAY, RFu r, mem)) (kf : y0 = 0 → P 81 [.ref 108, .int x1, .int x2, .int x3, .int x4] [] (0, 0) (LAY, RFu r, mem)) : P 78 [.ref 108, .int x1, .int x2, .int x3, .int x4] [.int y0] (0, 0) (LAY, RFu r, mem) := by
  exact r_if (t := 84) hP d232_78 (by decide) kt (fun q => kf (Decidable.of_not_not q))
theorem b232_81 {d : Nat} {P : xPr} {Q : xQr} {r : Nat} {mem : Nat → Nat → Int32} (hP : Cl d none 232 P Q) {x1 : Int32} {x2 : Int32} {x3 : Int32} {x4 : Int32}
    (k : P 89 [.ref 108, .int x1, .int x2, .int x3, .int x4] [] (0, 0) (LAY, RFu r, mem)) : P 81 [.ref 108, .int x1, .int x2, .int x3, .int x4] [] (0, 0) (LAY, RFu r, mem) := by
  refine r_goto (t := 89) hP d232_81 (by decide) ?_
  exact k
theorem b232_84 {d : Nat} {P : xPr} {Q : xQr} {r : Nat} {mem : Nat → Nat → Int32} (hP : Cl d none 232 P Q) {v1 : Value} {v2 : Value} {x3 : Int32} {x4 : Int32}
    (k : P 89 [.ref 108, .int x3, .int x4, .int x3, .int x4] [] (0, 0) (LAY, RFu r, mem)) : P 84 [.ref 108, v1, v2, .int x3, .int x4] [] (0, 0) (LAY, RFu r, mem) := by
  refine r_iload_n hP d232_84 rfl ?_
  refine r_istore_n (L' := [.ref 108, .int x3, v2, .int x3, .int x4]) hP d232_85 (Nat.le_of_ble_eq_true rfl) rfl ?_
  refine r_iload hP d232_86 rfl ?_
  refine r_istore_n (L' := [.ref 108, .int x3, .int x4, .int x3, .int x4]) hP d232_88 (Nat.le_of_ble_eq_true rfl) rfl ?_
  exact k
theorem b232_89 {d : Nat} {P : xPr} {Q : xQr} {r : Nat} {mem : Nat → Nat → Int32} (hP : Cl d none 232 P Q) {x1 : Int32} {x2 : Int32} {x3 : Int32} {x4 : Int32}
    (k : P 61 [.ref 108, .int x1, .int x2, .int x3, .int (x4 + nI 1)] [] (0, 0) (LAY, RFu r, mem)) : P 89 [.ref 108, .int x1, .int x2, .int x3, .int x4] [] (0, 0) (LAY, RFu r, mem) := by
  refine r_iinc (v := nI 1) (L' := [.ref 108, .int x1, .int x2, .int x3, .int (x4 + nI 1)]) hP d232_89 rfl rfl rfl ?_
  refine r_goto (t := 61) hP d232_92 (by decide) ?_
  exact k
theorem b232_95 {d : Nat} {P : xPr} {Q : xQr} {r : Nat} {mem : Nat → Nat → Int32} (hP : Cl d none 232 P Q) {x1 : Int32} {x2 : Int32} {x3 : Int32} {v4 : Value}
    (k : P 30 [.ref 108, .int x1, .int x2, .int (x3 + nI 1), v4] [] (0, 0) (LAY, RFu r, mem)) : P 95 [.ref 108, .int x1, .int x2, .int x3, v4] [] (0, 0) (LAY, RFu r, mem) := by
  refine r_iinc (v := nI 1) (L' := [.ref 108, .int x1, .int x2, .int (x3 + nI 1), v4]) hP d232_95 rfl rfl rfl ?_
  refine r_goto (t := 30) hP d232_98 (by decide) ?_
  exact k
theorem b232_101 {d : Nat} {P : xPr} {Q : xQr} {r : Nat} {mem : Nat → Nat → Int32} (hP : Cl d none 232 P Q) {x1 : Int32} {x2 : Int32} {v3 : Value} {v4 : Value}
    (k : xCall d 192 [.ref 108, .ref 133, .int (nI 0)] (LAY, RFu r, mem) (Bk P 107 [.ref 108, .int x1, .int x2, v3, v4] [] (0, 0))) : P 101 [.ref 108, .int x1, .int x2, v3, v4] [] (0, 0) (LAY, RFu r, mem) := by
  refine r_aload_n hP d232_101 rfl ?_
  refine r_aload_n hP d232_102 rfl ?_
  refine r_getr (a := 133) hP d232_103 fr_12_87 rfl ly_108 rg_108_38 ?_
  refine r_iconst (v := nI 0) hP d232_106 rfl ?_
  exact r_callv (As := [.ref 133, .int (nI 0)]) (S := []) hP d232_107 cr_12_261 (by decide +kernel) rfl (by simp [Value.category]) rfl ly_108 (by simp [Value.category]) ⟨Nat.zero_le _, Nat.zero_le _⟩ k
theorem b232_110 {d : Nat} {P : xPr} {Q : xQr} {r : Nat} {mem : Nat → Nat → Int32} (hP : Cl d none 232 P Q) {x1 : Int32} {x2 : Int32} {v3 : Value} {v4 : Value}
    (kt : 0 ≤ x1 → P 117 [.ref 108, .int x1, .int x2, v3, v4] [] (0, 0) (LAY, RFu r, mem)) (kf : ¬ 0 ≤ x1 → P 114 [.ref 108, .int x1, .int x2, v3, v4] [] (0, 0) (LAY, RFu r, mem)) : P 110 [.ref 108, .int x1, .int x2, v3, v4] [] (0, 0) (LAY, RFu r, mem) := by
  refine r_iload_n hP d232_110 rfl ?_
  exact r_if (t := 117) hP d232_111 (by decide) kt kf
theorem b232_114 {d : Nat} {P : xPr} {Q : xQr} {r : Nat} {mem : Nat → Nat → Int32} (hP : Cl d none 232 P Q) {v0 : Value} {v1 : Value} {v2 : Value} {v3 : Value} {v4 : Value}
    (k : Q (some (.int (-2))) (LAY, RFu r, mem)) : P 114 [v0, v1, v2, v3, v4] [] (0, 0) (LAY, RFu r, mem) := by
  refine r_bipush (v := (-2)) hP d232_114 rfl ?_
  exact r_iret hP d232_116 rfl k
theorem b232_117 {d : Nat} {P : xPr} {Q : xQr} {r : Nat} {mem : Nat → Nat → Int32} (hP : Cl d none 232 P Q) {x1 : Int32} {x2 : Int32} {v3 : Value} {v4 : Value}
    (k : xCall d 161 [.ref 108, .int x2] (LAY, RFu r, xu2 mem 108 19 (nI 0)) (Bk P 124 [.ref 108, .int x1, .int x2, v3, v4] [] (0, 0))) : P 117 [.ref 108, .int x1, .int x2, v3, v4] [] (0, 0) (LAY, RFu r, mem) := by
  refine r_aload_n hP d232_117 rfl ?_
  refine r_iconst (v := nI 0) hP d232_118 rfl ?_
  refine r_puti hP d232_119 fr_12_124 rfl (fun q => by cases q) ly_108 ?_
  refine r_aload_n hP d232_122 rfl ?_
  refine r_iload_n hP d232_123 rfl ?_
  exact r_callv (As := [.int x2]) (S := []) hP d232_124 cr_12_258 (by decide +kernel) rfl (by simp [Value.category]) rfl ly_108 (by simp [Value.category]) ⟨Nat.zero_le _, Nat.zero_le _⟩ k
theorem b232_127 {d : Nat} {P : xPr} {Q : xQr} {r : Nat} {mem : Nat → Nat → Int32} (hP : Cl d none 232 P Q) {v0 : Value} {x1 : Int32} {v2 : Value} {v3 : Value} {v4 : Value}
    (k : Q (some (.int x1)) (LAY, RFu r, mem)) : P 127 [v0, .int x1, v2, v3, v4] [] (0, 0) (LAY, RFu r, mem) := by
  refine r_iload_n hP d232_127 rfl ?_
  exact r_iret hP d232_128 rfl k
theorem d233_0 : decode (xB 233) 0 = .ok (.aload_n 0, 1) := by decide +kernel
theorem d233_1 : decode (xB 233) 1 = .ok (.iconst 0, 1) := by decide +kernel
theorem d233_2 : decode (xB 233) 2 = .ok (.putfield 121, 3) := by decide +kernel
theorem d233_5 : decode (xB 233) 5 = .ok (.iload_n 1, 1) := by decide +kernel
theorem d233_6 : decode (xB 233) 6 = .ok (.iconst 0, 1) := by decide +kernel
theorem d233_7 : decode (xB 233) 7 = .ok (.iconst 1, 1) := by decide +kernel
theorem d233_8 : decode (xB 233) 8 = .ok (.invokestatic 130, 3) := by decide +kernel
theorem d233_11 : decode (xB 233) 11 = .ok (.ifCond .ne 5, 3) := by decide +kernel
theorem d233_14 : decode (xB 233) 14 = .ok (.iconst 0, 1) := by decide +kernel
theorem d233_15 : decode (xB 233) 15 = .ok (.ireturn, 1) := by decide +kernel
theorem d233_16 : decode (xB 233) 16 = .ok (.aload_n 0, 1) := by decide +kernel
theorem d233_17 : decode (xB 233) 17 = .ok (.getfield 115, 3) := by decide +kernel
theorem d233_20 : decode (xB 233) 20 = .ok (.iload_n 1, 1) := by decide +kernel
theorem d233_21 : decode (xB 233) 21 = .ok (.iconst 1, 1) := by decide +kernel
theorem d233_22 : decode (xB 233) 22 = .ok (.bastore, 1) := by decide +kernel
theorem d233_23 : decode (xB 233) 23 = .ok (.aload_n 0, 1) := by decide +kernel
theorem d233_24 : decode (xB 233) 24 = .ok (.getfield 118, 3) := by decide +kernel
theorem d233_27 : decode (xB 233) 27 = .ok (.iload_n 1, 1) := by decide +kernel
theorem d233_28 : decode (xB 233) 28 = .ok (.aload_n 0, 1) := by decide +kernel
theorem d233_29 : decode (xB 233) 29 = .ok (.getfield 183, 3) := by decide +kernel
theorem d233_32 : decode (xB 233) 32 = .ok (.iastore, 1) := by decide +kernel
theorem d233_33 : decode (xB 233) 33 = .ok (.sipush 133, 3) := by decide +kernel
theorem d233_36 : decode (xB 233) 36 = .ok (.iload_n 1, 1) := by decide +kernel
theorem d233_37 : decode (xB 233) 37 = .ok (.imul, 1) := by decide +kernel
theorem d233_38 : decode (xB 233) 38 = .ok (.istore_n 2, 1) := by decide +kernel
theorem d233_39 : decode (xB 233) 39 = .ok (.aload_n 0, 1) := by decide +kernel
theorem d233_40 : decode (xB 233) 40 = .ok (.aload_n 0, 1) := by decide +kernel
theorem d233_41 : decode (xB 233) 41 = .ok (.getfield 112, 3) := by decide +kernel
theorem d233_44 : decode (xB 233) 44 = .ok (.iload_n 2, 1) := by decide +kernel
theorem d233_45 : decode (xB 233) 45 = .ok (.invokevirtual 245, 3) := by decide +kernel
theorem d233_48 : decode (xB 233) 48 = .ok (.iinc 2 121, 3) := by decide +kernel
theorem d233_51 : decode (xB 233) 51 = .ok (.iconst 0, 1) := by decide +kernel
theorem d233_52 : decode (xB 233) 52 = .ok (.istore_n 3, 1) := by decide +kernel
theorem d233_53 : decode (xB 233) 53 = .ok (.iload_n 3, 1) := by decide +kernel
theorem d233_54 : decode (xB 233) 54 = .ok (.bipush 8, 2) := by decide +kernel
theorem d233_56 : decode (xB 233) 56 = .ok (.if_icmp .ge 31, 3) := by decide +kernel
theorem d233_59 : decode (xB 233) 59 = .ok (.aload_n 0, 1) := by decide +kernel
theorem d233_60 : decode (xB 233) 60 = .ok (.getfield 112, 3) := by decide +kernel
theorem d233_63 : decode (xB 233) 63 = .ok (.iload_n 2, 1) := by decide +kernel
theorem d233_64 : decode (xB 233) 64 = .ok (.iload_n 3, 1) := by decide +kernel
theorem d233_65 : decode (xB 233) 65 = .ok (.iadd, 1) := by decide +kernel
theorem d233_66 : decode (xB 233) 66 = .ok (.aload_n 0, 1) := by decide +kernel
theorem d233_67 : decode (xB 233) 67 = .ok (.getfield 16, 3) := by decide +kernel
theorem d233_70 : decode (xB 233) 70 = .ok (.iload_n 3, 1) := by decide +kernel
theorem d233_71 : decode (xB 233) 71 = .ok (.baload, 1) := by decide +kernel
theorem d233_72 : decode (xB 233) 72 = .ok (.ifCond .eq 7, 3) := by decide +kernel
theorem d233_75 : decode (xB 233) 75 = .ok (.iconst 1, 1) := by decide +kernel
theorem d233_76 : decode (xB 233) 76 = .ok (.goto 4, 3) := by decide +kernel
theorem d233_79 : decode (xB 233) 79 = .ok (.iconst 0, 1) := by decide +kernel
theorem d233_80 : decode (xB 233) 80 = .ok (.iastore, 1) := by decide +kernel
theorem d233_81 : decode (xB 233) 81 = .ok (.iinc 3 1, 3) := by decide +kernel
theorem d233_84 : decode (xB 233) 84 = .ok (.goto (-31), 3) := by decide +kernel
theorem d233_87 : decode (xB 233) 87 = .ok (.iconst 0, 1) := by decide +kernel
theorem d233_88 : decode (xB 233) 88 = .ok (.istore_n 3, 1) := by decide +kernel
theorem d233_89 : decode (xB 233) 89 = .ok (.iload_n 3, 1) := by decide +kernel
theorem d233_90 : decode (xB 233) 90 = .ok (.iconst 4, 1) := by decide +kernel
theorem d233_91 : decode (xB 233) 91 = .ok (.if_icmp .ge 26, 3) := by decide +kernel
theorem d233_94 : decode (xB 233) 94 = .ok (.aload_n 0, 1) := by decide +kernel
theorem d233_95 : decode (xB 233) 95 = .ok (.getfield 112, 3) := by decide +kernel
theorem d233_98 : decode (xB 233) 98 = .ok (.iload_n 2, 1) := by decide +kernel
theorem d233_99 : decode (xB 233) 99 = .ok (.bipush 8, 2) := by decide +kernel
theorem d233_101 : decode (xB 233) 101 = .ok (.iadd, 1) := by decide +kernel
theorem d233_102 : decode (xB 233) 102 = .ok (.iload_n 3, 1) := by decide +kernel
theorem d233_103 : decode (xB 233) 103 = .ok (.iadd, 1) := by decide +kernel
theorem d233_104 : decode (xB 233) 104 = .ok (.aload_n 0, 1) := by decide +kernel
theorem d233_105 : decode (xB 233) 105 = .ok (.getfield 9, 3) := by decide +kernel
theorem d233_108 : decode (xB 233) 108 = .ok (.iload_n 3, 1) := by decide +kernel
theorem d233_109 : decode (xB 233) 109 = .ok (.iaload, 1) := by decide +kernel
theorem d233_110 : decode (xB 233) 110 = .ok (.iastore, 1) := by decide +kernel
theorem d233_111 : decode (xB 233) 111 = .ok (.iinc 3 1, 3) := by decide +kernel
theorem d233_114 : decode (xB 233) 114 = .ok (.goto (-25), 3) := by decide +kernel
theorem d233_117 : decode (xB 233) 117 = .ok (.iconst 1, 1) := by decide +kernel
theorem d233_118 : decode (xB 233) 118 = .ok (.ireturn, 1) := by decide +kernel
theorem b233_0 {d : Nat} {P : xPr} {Q : xQr} {r : Nat} {mem : Nat → Nat → Int32} (hP : Cl d none 233 P Q) {p0 : Int32}
    (k : xCall d 158 [.int p0, .int (nI 0), .int (nI 1)] (LAY, RFu r, xu2 mem 108 20 (nI 0)) (Bk P 8 [.ref 108, .int p0, .null, .null] [] (0, 0))) : P 0 [.ref 108, .int p0, .null, .null] [] (0, 0) (LAY, RFu r, mem) := by
  refine r_aload_n hP d233_0 rfl ?_
  refine r_iconst (v := nI 0) hP d233_1 rfl ?_
  refine r_puti hP d233_2 fr_12_121 rfl (fun q => by cases q) ly_108 ?_
  refine r_iload_n hP d233_5 rfl ?_
  refine r_iconst (v := nI 0) hP d233_6 rfl ?_
  refine r_iconst (v := nI 1) hP d233_7 rfl ?_
  exact r_calls (As := [.int p0, .int (nI 0), .int (nI 1)]) (S := []) hP d233_8 cr_12_130 (by decide +kernel) rfl (by simp [Value.category]) rfl (by simp [Value.category]) ⟨Nat.zero_le _, Nat.zero_le _⟩ k
theorem b233_11 {d : Nat} {P : xPr} {Q : xQr} {r : Nat} {mem : Nat → Nat → Int32} (hP : Cl d none 233 P Q) {x1 : Int32} {v2 : Value} {v3 : Value} {y0 : Int32}
    (kt : ¬ y0 = 0 → P 16 [.ref 108, .int x1, v2, v3] [] (0, 0) (LAY, RFu r, mem)) (kf : y0 = 0 → P 14 [.ref 108, .int x1, v2, v3] [] (0, 0) (LAY, RFu r, mem)) : P 11 [.ref 108, .int x1, v2, v3] [.int y0] (0, 0) (LAY, RFu r, mem) := by
  exact r_if (t := 16) hP d233_11 (by decide) kt (fun q => kf (Decidable.of_not_not q))
theorem b233_14 {d : Nat} {P : xPr} {Q : xQr} {r : Nat} {mem : Nat → Nat → Int32} (hP : Cl d none 233 P Q) {v0 : Value} {v1 : Value} {v2 : Value} {v3 : Value} (hzr : nI 0 = 0 ∨ nI 0 = 1)
    (k : Q (some (.int (nI 0))) (LAY, RFu r, mem)) : P 14 [v0, v1, v2, v3] [] (0, 0) (LAY, RFu r, mem) := by
  refine r_iconst (v := nI 0) hP d233_14 rfl ?_
  exact r_zret hP d233_15 rfl hzr k
theorem b233_16 {d : Nat} {P : xPr} {Q : xQr} {r : Nat} {mem : Nat → Nat → Int32} (hP : Cl d none 233 P Q) {x1 : Int32} {v2 : Value} {v3 : Value} (hi22 : vp_in x1 2) (hi32 : vp_in x1 2)
    (k : xCall d 191 [.ref 108, .ref 141, .int ((nI 133) * x1)] (LAY, RFu r, xu2 (xu2 mem 142 x1.toNatClampNeg (xNar 15 (nI 1))) 143 x1.toNatClampNeg ((xu2 mem 142 x1.toNatClampNeg (xNar 15 (nI 1))) 108 47)) (Bk P 45 [.ref 108, .int x1, .int ((nI 133) * x1), v3] [] (0, 0))) : P 16 [.ref 108, .int x1, v2, v3] [] (0, 0) (LAY, RFu r, mem) := by
  refine r_aload_n hP d233_16 rfl ?_
  refine r_getr (a := 142) hP d233_17 fr_12_115 rfl ly_108 rg_108_49 ?_
  refine r_iload_n hP d233_20 rfl ?_
  refine r_iconst (v := nI 1) hP d233_21 rfl ?_
  refine r_bastore hP d233_22 (by decide) ly_142 hi22 ?_
  refine r_aload_n hP d233_23 rfl ?_
  refine r_getr (a := 143) hP d233_24 fr_12_118 rfl ly_108 rg_108_50 ?_
  refine r_iload_n hP d233_27 rfl ?_
  refine r_aload_n hP d233_28 rfl ?_
  refine r_geti hP d233_29 fr_12_183 rfl ly_108 ?_
  refine r_iastore hP d233_32 ly_143 hi32 ?_
  refine r_sipush (v := nI 133) hP d233_33 rfl ?_
  refine r_iload_n hP d233_36 rfl ?_
  refine r_imul hP d233_37 ?_
  refine r_istore_n (L' := [.ref 108, .int x1, .int ((nI 133) * x1), v3]) hP d233_38 (Nat.le_of_ble_eq_true rfl) rfl ?_
  refine r_aload_n hP d233_39 rfl ?_
  refine r_aload_n hP d233_40 rfl ?_
  refine r_getr (a := 141) hP d233_41 fr_12_112 rfl ly_108 rg_108_48 ?_
  refine r_iload_n hP d233_44 rfl ?_
  exact r_callv (As := [.ref 141, .int ((nI 133) * x1)]) (S := []) hP d233_45 cr_12_245 (by decide +kernel) rfl (by simp [Value.category]) rfl ly_108 (by simp [Value.category]) ⟨Nat.zero_le _, Nat.zero_le _⟩ k
theorem b233_48 {d : Nat} {P : xPr} {Q : xQr} {r : Nat} {mem : Nat → Nat → Int32} (hP : Cl d none 233 P Q) {v1 : Value} {x2 : Int32} {v3 : Value}
    (k : P 53 [.ref 108, v1, .int (x2 + nI 121), .int (nI 0)] [] (0, 0) (LAY, RFu r, mem)) : P 48 [.ref 108, v1, .int x2, v3] [] (0, 0) (LAY, RFu r, mem) := by
  refine r_iinc (v := nI 121) (L' := [.ref 108, v1, .int (x2 + nI 121), v3]) hP d233_48 rfl rfl rfl ?_
  refine r_iconst (v := nI 0) hP d233_51 rfl ?_
  refine r_istore_n (L' := [.ref 108, v1, .int (x2 + nI 121), .int (nI 0)]) hP d233_52 (Nat.le_of_ble_eq_true rfl) rfl ?_
  exact k
theorem b233_53 {d : Nat} {P : xPr} {Q : xQr} {r : Nat} {mem : Nat → Nat → Int32} (hP : Cl d none 233 P Q) {v1 : Value} {x2 : Int32} {x3 : Int32}
    (kt : (nI 8) ≤ x3 → P 87 [.ref 108, v1, .int x2, .int x3] [] (0, 0) (LAY, RFu r, mem)) (kf : ¬ (nI 8) ≤ x3 → P 59 [.ref 108, v1, .int x2, .int x3] [] (0, 0) (LAY, RFu r, mem)) : P 53 [.ref 108, v1, .int x2, .int x3] [] (0, 0) (LAY, RFu r, mem) := by
  refine r_iload_n hP d233_53 rfl ?_
  refine r_bipush (v := nI 8) hP d233_54 rfl ?_
  exact r_icmp (t := 87) hP d233_56 (by decide) kt kf
theorem b233_59 {d : Nat} {P : xPr} {Q : xQr} {r : Nat} {mem : Nat → Nat → Int32} (hP : Cl d none 233 P Q) {v1 : Value} {x2 : Int32} {x3 : Int32} (hi71 : vp_in x3 8)
    (kt : (mem 111 x3.toNatClampNeg) = 0 → P 79 [.ref 108, v1, .int x2, .int x3] [.int (x2 + x3), .ref 141] (0, 0) (LAY, RFu r, mem)) (kf : ¬ (mem 111 x3.toNatClampNeg) = 0 → P 75 [.ref 108, v1, .int x2, .int x3] [.int (x2 + x3), .ref 141] (0, 0) (LAY, RFu r, mem)) : P 59 [.ref 108, v1, .int x2, .int x3] [] (0, 0) (LAY, RFu r, mem) := by
  refine r_aload_n hP d233_59 rfl ?_
  refine r_getr (a := 141) hP d233_60 fr_12_112 rfl ly_108 rg_108_48 ?_
  refine r_iload_n hP d233_63 rfl ?_
  refine r_iload_n hP d233_64 rfl ?_
  refine r_iadd hP d233_65 ?_
  refine r_aload_n hP d233_66 rfl ?_
  refine r_getr (a := 111) hP d233_67 fr_12_16 rfl ly_108 rg_108_4 ?_
  refine r_iload_n hP d233_70 rfl ?_
  refine r_baload hP d233_71 (by decide) ly_111 hi71 ?_
  exact r_if (t := 79) hP d233_72 (by decide) kt kf
theorem b233_75 {d : Nat} {P : xPr} {Q : xQr} {r : Nat} {mem : Nat → Nat → Int32} (hP : Cl d none 233 P Q) {v1 : Value} {x2 : Int32} {x3 : Int32} {y1 : Int32}
    (k : P 80 [.ref 108, v1, .int x2, .int x3] [.int (nI 1), .int y1, .ref 141] (0, 0) (LAY, RFu r, mem)) : P 75 [.ref 108, v1, .int x2, .int x3] [.int y1, .ref 141] (0, 0) (LAY, RFu r, mem) := by
  refine r_iconst (v := nI 1) hP d233_75 rfl ?_
  refine r_goto (t := 80) hP d233_76 (by decide) ?_
  exact k
theorem b233_79 {d : Nat} {P : xPr} {Q : xQr} {r : Nat} {mem : Nat → Nat → Int32} (hP : Cl d none 233 P Q) {v1 : Value} {x2 : Int32} {x3 : Int32} {y1 : Int32}
    (k : P 80 [.ref 108, v1, .int x2, .int x3] [.int (nI 0), .int y1, .ref 141] (0, 0) (LAY, RFu r, mem)) : P 79 [.ref 108, v1, .int x2, .int x3] [.int y1, .ref 141] (0, 0) (LAY, RFu r, mem) := by
  refine r_iconst (v := nI 0) hP d233_79 rfl ?_
  exact k
theorem b233_80 {d : Nat} {P : xPr} {Q : xQr} {r : Nat} {mem : Nat → Nat → Int32} (hP : Cl d none 233 P Q) {v1 : Value} {x2 : Int32} {x3 : Int32} {y1 : Int32} {y2 : Int32} (hi80 : vp_in y1 266)
    (k : P 53 [.ref 108, v1, .int x2, .int (x3 + nI 1)] [] (0, 0) (LAY, RFu r, xu2 mem 141 y1.toNatClampNeg y2)) : P 80 [.ref 108, v1, .int x2, .int x3] [.int y2, .int y1, .ref 141] (0, 0) (LAY, RFu r, mem) := by
  refine r_iastore hP d233_80 ly_141 hi80 ?_
  refine r_iinc (v := nI 1) (L' := [.ref 108, v1, .int x2, .int (x3 + nI 1)]) hP d233_81 rfl rfl rfl ?_
  refine r_goto (t := 53) hP d233_84 (by decide) ?_
  exact k
theorem b233_87 {d : Nat} {P : xPr} {Q : xQr} {r : Nat} {mem : Nat → Nat → Int32} (hP : Cl d none 233 P Q) {v1 : Value} {x2 : Int32} {v3 : Value}
    (k : P 89 [.ref 108, v1, .int x2, .int (nI 0)] [] (0, 0) (LAY, RFu r, mem)) : P 87 [.ref 108, v1, .int x2, v3] [] (0, 0) (LAY, RFu r, mem) := by
  refine r_iconst (v := nI 0) hP d233_87 rfl ?_
  refine r_istore_n (L' := [.ref 108, v1, .int x2, .int (nI 0)]) hP d233_88 (Nat.le_of_ble_eq_true rfl) rfl ?_
  exact k
theorem b233_89 {d : Nat} {P : xPr} {Q : xQr} {r : Nat} {mem : Nat → Nat → Int32} (hP : Cl d none 233 P Q) {v1 : Value} {x2 : Int32} {x3 : Int32}
    (kt : (nI 4) ≤ x3 → P 117 [.ref 108, v1, .int x2, .int x3] [] (0, 0) (LAY, RFu r, mem)) (kf : ¬ (nI 4) ≤ x3 → P 94 [.ref 108, v1, .int x2, .int x3] [] (0, 0) (LAY, RFu r, mem)) : P 89 [.ref 108, v1, .int x2, .int x3] [] (0, 0) (LAY, RFu r, mem) := by
  refine r_iload_n hP d233_89 rfl ?_
  refine r_iconst (v := nI 4) hP d233_90 rfl ?_
  exact r_icmp (t := 117) hP d233_91 (by decide) kt kf
theorem b233_94 {d : Nat} {P : xPr} {Q : xQr} {r : Nat} {mem : Nat → Nat → Int32} (hP : Cl d none 233 P Q) {v1 : Value} {x2 : Int32} {x3 : Int32} (hi109 : vp_in x3 4) (hi110 : vp_in ((x2 + (nI 8)) + x3) 266)
    (k : P 89 [.ref 108, v1, .int x2, .int (x3 + nI 1)] [] (0, 0) (LAY, RFu r, xu2 mem 141 ((x2 + (nI 8)) + x3).toNatClampNeg (mem 109 x3.toNatClampNeg))) : P 94 [.ref 108, v1, .int x2, .int x3] [] (0, 0) (LAY, RFu r, mem) := by
  refine r_aload_n hP d233_94 rfl ?_
  refine r_getr (a := 141) hP d233_95 fr_12_112 rfl ly_108 rg_108_48 ?_
  refine r_iload_n hP d233_98 rfl ?_
  refine r_bipush (v := nI 8) hP d233_99 rfl ?_
  refine r_iadd hP d233_101 ?_
  refine r_iload_n hP d233_102 rfl ?_
  refine r_iadd hP d233_103 ?_
  refine r_aload_n hP d233_104 rfl ?_
  refine r_getr (a := 109) hP d233_105 fr_12_9 rfl ly_108 rg_108_1 ?_
  refine r_iload_n hP d233_108 rfl ?_
  refine r_iaload hP d233_109 ly_109 hi109 ?_
  refine r_iastore hP d233_110 ly_141 hi110 ?_
  refine r_iinc (v := nI 1) (L' := [.ref 108, v1, .int x2, .int (x3 + nI 1)]) hP d233_111 rfl rfl rfl ?_
  refine r_goto (t := 89) hP d233_114 (by decide) ?_
  exact k
theorem b233_117 {d : Nat} {P : xPr} {Q : xQr} {r : Nat} {mem : Nat → Nat → Int32} (hP : Cl d none 233 P Q) {v0 : Value} {v1 : Value} {v2 : Value} {v3 : Value} (hzr : nI 1 = 0 ∨ nI 1 = 1)
    (k : Q (some (.int (nI 1))) (LAY, RFu r, mem)) : P 117 [v0, v1, v2, v3] [] (0, 0) (LAY, RFu r, mem) := by
  refine r_iconst (v := nI 1) hP d233_117 rfl ?_
  exact r_zret hP d233_118 rfl hzr k
theorem d234_0 : decode (xB 234) 0 = .ok (.aload_n 0, 1) := by decide +kernel
theorem d234_1 : decode (xB 234) 1 = .ok (.iconst 0, 1) := by decide +kernel
theorem d234_2 : decode (xB 234) 2 = .ok (.putfield 121, 3) := by decide +kernel
theorem d234_5 : decode (xB 234) 5 = .ok (.iload_n 1, 1) := by decide +kernel
theorem d234_6 : decode (xB 234) 6 = .ok (.iconst 0, 1) := by decide +kernel
theorem d234_7 : decode (xB 234) 7 = .ok (.iconst 1, 1) := by decide +kernel
theorem d234_8 : decode (xB 234) 8 = .ok (.invokestatic 130, 3) := by decide +kernel
theorem d234_11 : decode (xB 234) 11 = .ok (.ifCond .eq 25, 3) := by decide +kernel
theorem d234_14 : decode (xB 234) 14 = .ok (.aload_n 0, 1) := by decide +kernel
theorem d234_15 : decode (xB 234) 15 = .ok (.getfield 115, 3) := by decide +kernel
theorem d234_18 : decode (xB 234) 18 = .ok (.iload_n 1, 1) := by decide +kernel
theorem d234_19 : decode (xB 234) 19 = .ok (.baload, 1) := by decide +kernel
theorem d234_20 : decode (xB 234) 20 = .ok (.ifCond .eq 16, 3) := by decide +kernel
theorem d234_23 : decode (xB 234) 23 = .ok (.aload_n 0, 1) := by decide +kernel
theorem d234_24 : decode (xB 234) 24 = .ok (.getfield 118, 3) := by decide +kernel
theorem d234_27 : decode (xB 234) 27 = .ok (.iload_n 1, 1) := by decide +kernel
theorem d234_28 : decode (xB 234) 28 = .ok (.iaload, 1) := by decide +kernel
theorem d234_29 : decode (xB 234) 29 = .ok (.aload_n 0, 1) := by decide +kernel
theorem d234_30 : decode (xB 234) 30 = .ok (.getfield 183, 3) := by decide +kernel
theorem d234_33 : decode (xB 234) 33 = .ok (.if_icmp .eq 5, 3) := by decide +kernel
theorem d234_36 : decode (xB 234) 36 = .ok (.iconst 0, 1) := by decide +kernel
theorem d234_37 : decode (xB 234) 37 = .ok (.ireturn, 1) := by decide +kernel
theorem d234_38 : decode (xB 234) 38 = .ok (.sipush 133, 3) := by decide +kernel
theorem d234_41 : decode (xB 234) 41 = .ok (.iload_n 1, 1) := by decide +kernel
theorem d234_42 : decode (xB 234) 42 = .ok (.imul, 1) := by decide +kernel
theorem d234_43 : decode (xB 234) 43 = .ok (.istore_n 2, 1) := by decide +kernel
theorem d234_44 : decode (xB 234) 44 = .ok (.aload_n 0, 1) := by decide +kernel
theorem d234_45 : decode (xB 234) 45 = .ok (.aload_n 0, 1) := by decide +kernel
theorem d234_46 : decode (xB 234) 46 = .ok (.getfield 112, 3) := by decide +kernel
theorem d234_49 : decode (xB 234) 49 = .ok (.iload_n 2, 1) := by decide +kernel
theorem d234_50 : decode (xB 234) 50 = .ok (.invokevirtual 261, 3) := by decide +kernel
theorem d234_53 : decode (xB 234) 53 = .ok (.iinc 2 121, 3) := by decide +kernel
theorem d234_56 : decode (xB 234) 56 = .ok (.iconst 0, 1) := by decide +kernel
theorem d234_57 : decode (xB 234) 57 = .ok (.istore_n 3, 1) := by decide +kernel
theorem d234_58 : decode (xB 234) 58 = .ok (.iload_n 3, 1) := by decide +kernel
theorem d234_59 : decode (xB 234) 59 = .ok (.aload_n 0, 1) := by decide +kernel
theorem d234_60 : decode (xB 234) 60 = .ok (.getfield 127, 3) := by decide +kernel
theorem d234_63 : decode (xB 234) 63 = .ok (.if_icmp .ge 32, 3) := by decide +kernel
theorem d234_66 : decode (xB 234) 66 = .ok (.aload_n 0, 1) := by decide +kernel
theorem d234_67 : decode (xB 234) 67 = .ok (.getfield 16, 3) := by decide +kernel
theorem d234_70 : decode (xB 234) 70 = .ok (.iload_n 3, 1) := by decide +kernel
theorem d234_71 : decode (xB 234) 71 = .ok (.aload_n 0, 1) := by decide +kernel
theorem d234_72 : decode (xB 234) 72 = .ok (.getfield 112, 3) := by decide +kernel
theorem d234_75 : decode (xB 234) 75 = .ok (.iload_n 2, 1) := by decide +kernel
theorem d234_76 : decode (xB 234) 76 = .ok (.iload_n 3, 1) := by decide +kernel
theorem d234_77 : decode (xB 234) 77 = .ok (.iadd, 1) := by decide +kernel
theorem d234_78 : decode (xB 234) 78 = .ok (.iaload, 1) := by decide +kernel
theorem d234_79 : decode (xB 234) 79 = .ok (.iconst 1, 1) := by decide +kernel
theorem d234_80 : decode (xB 234) 80 = .ok (.if_icmp .ne 7, 3) := by decide +kernel
theorem d234_83 : decode (xB 234) 83 = .ok (.iconst 1, 1) := by decide +kernel
theorem d234_84 : decode (xB 234) 84 = .ok (.goto 4, 3) := by decide +kernel
theorem d234_87 : decode (xB 234) 87 = .ok (.iconst 0, 1) := by decide +kernel
theorem d234_88 : decode (xB 234) 88 = .ok (.bastore, 1) := by decide +kernel
theorem d234_89 : decode (xB 234) 89 = .ok (.iinc 3 1, 3) := by decide +kernel
theorem d234_92 : decode (xB 234) 92 = .ok (.goto (-34), 3) := by decide +kernel
theorem d234_95 : decode (xB 234) 95 = .ok (.iconst 0, 1) := by decide +kernel
theorem d234_96 : decode (xB 234) 96 = .ok (.istore_n 3, 1) := by decide +kernel
theorem d234_97 : decode (xB 234) 97 = .ok (.iload_n 3, 1) := by decide +kernel
theorem d234_98 : decode (xB 234) 98 = .ok (.aload_n 0, 1) := by decide +kernel
theorem d234_99 : decode (xB 234) 99 = .ok (.getfield 138, 3) := by decide +kernel
theorem d234_102 : decode (xB 234) 102 = .ok (.if_icmp .ge 26, 3) := by decide +kernel
theorem d234_105 : decode (xB 234) 105 = .ok (.aload_n 0, 1) := by decide +kernel
theorem d234_106 : decode (xB 234) 106 = .ok (.getfield 9, 3) := by decide +kernel
theorem d234_109 : decode (xB 234) 109 = .ok (.iload_n 3, 1) := by decide +kernel
theorem d234_110 : decode (xB 234) 110 = .ok (.aload_n 0, 1) := by decide +kernel
theorem d234_111 : decode (xB 234) 111 = .ok (.getfield 112, 3) := by decide +kernel
theorem d234_114 : decode (xB 234) 114 = .ok (.iload_n 2, 1) := by decide +kernel
theorem d234_115 : decode (xB 234) 115 = .ok (.bipush 8, 2) := by decide +kernel
theorem d234_117 : decode (xB 234) 117 = .ok (.iadd, 1) := by decide +kernel
theorem d234_118 : decode (xB 234) 118 = .ok (.iload_n 3, 1) := by decide +kernel
theorem d234_119 : decode (xB 234) 119 = .ok (.iadd, 1) := by decide +kernel
theorem d234_120 : decode (xB 234) 120 = .ok (.iaload, 1) := by decide +kernel
theorem d234_121 : decode (xB 234) 121 = .ok (.iastore, 1) := by decide +kernel
theorem d234_122 : decode (xB 234) 122 = .ok (.iinc 3 1, 3) := by decide +kernel
theorem d234_125 : decode (xB 234) 125 = .ok (.goto (-28), 3) := by decide +kernel
theorem d234_128 : decode (xB 234) 128 = .ok (.aload_n 0, 1) := by decide +kernel
theorem d234_129 : decode (xB 234) 129 = .ok (.iconst 0, 1) := by decide +kernel
theorem d234_130 : decode (xB 234) 130 = .ok (.putfield 186, 3) := by decide +kernel
theorem d234_133 : decode (xB 234) 133 = .ok (.iconst 1, 1) := by decide +kernel
theorem d234_134 : decode (xB 234) 134 = .ok (.ireturn, 1) := by decide +kernel
theorem b234_0 {d : Nat} {P : xPr} {Q : xQr} {r : Nat} {mem : Nat → Nat → Int32} (hP : Cl d none 234 P Q) {p0 : Int32}
    (k : xCall d 158 [.int p0, .int (nI 0), .int (nI 1)] (LAY, RFu r, xu2 mem 108 20 (nI 0)) (Bk P 8 [.ref 108, .int p0, .null, .null] [] (0, 0))) : P 0 [.ref 108, .int p0, .null, .null] [] (0, 0) (LAY, RFu r, mem) := by
  refine r_aload_n hP d234_0 rfl ?_
  refine r_iconst (v := nI 0) hP d234_1 rfl ?_
  refine r_puti hP d234_2 fr_12_121 rfl (fun q => by cases q) ly_108 ?_
  refine r_iload_n hP d234_5 rfl ?_
  refine r_iconst (v := nI 0) hP d234_6 rfl ?_
  refine r_iconst (v := nI 1) hP d234_7 rfl ?_
  exact r_calls (As := [.int p0, .int (nI 0), .int (nI 1)]) (S := []) hP d234_8 cr_12_130 (by decide +kernel) rfl (by simp [Value.category]) rfl (by simp [Value.category]) ⟨Nat.zero_le _, Nat.zero_le _⟩ k
theorem b234_11 {d : Nat} {P : xPr} {Q : xQr} {r : Nat} {mem : Nat → Nat → Int32} (hP : Cl d none 234 P Q) {x1 : Int32} {v2 : Value} {v3 : Value} {y0 : Int32}
    (kt : y0 = 0 → P 36 [.ref 108, .int x1, v2, v3] [] (0, 0) (LAY, RFu r, mem)) (kf : ¬ y0 = 0 → P 14 [.ref 108, .int x1, v2, v3] [] (0, 0) (LAY, RFu r, mem)) : P 11 [.ref 108, .int x1, v2, v3] [.int y0] (0, 0) (LAY, RFu r, mem) := by
  exact r_if (t := 36) hP d234_11 (by decide) kt kf
theorem b234_14 {d : Nat} {P : xPr} {Q : xQr} {r : Nat} {mem : Nat → Nat → Int32} (hP : Cl d none 234 P Q) {x1 : Int32} {v2 : Value} {v3 : Value} (hi19 : vp_in x1 2)
    (kt : (mem 142 x1.toNatClampNeg) = 0 → P 36 [.ref 108, .int x1, v2, v3] [] (0, 0) (LAY, RFu r, mem)) (kf : ¬ (mem 142 x1.toNatClampNeg) = 0 → P 23 [.ref 108, .int x1, v2, v3] [] (0, 0) (LAY, RFu r, mem)) : P 14 [.ref 108, .int x1, v2, v3] [] (0, 0) (LAY, RFu r, mem) := by
  refine r_aload_n hP d234_14 rfl ?_
  refine r_getr (a := 142) hP d234_15 fr_12_115 rfl ly_108 rg_108_49 ?_
  refine r_iload_n hP d234_18 rfl ?_
  refine r_baload hP d234_19 (by decide) ly_142 hi19 ?_
  exact r_if (t := 36) hP d234_20 (by decide) kt kf
theorem b234_23 {d : Nat} {P : xPr} {Q : xQr} {r : Nat} {mem : Nat → Nat → Int32} (hP : Cl d none 234 P Q) {x1 : Int32} {v2 : Value} {v3 : Value} (hi28 : vp_in x1 2)
    (kt : (mem 143 x1.toNatClampNeg) = (mem 108 47) → P 38 [.ref 108, .int x1, v2, v3] [] (0, 0) (LAY, RFu r, mem)) (kf : ¬ (mem 143 x1.toNatClampNeg) = (mem 108 47) → P 36 [.ref 108, .int x1, v2, v3] [] (0, 0) (LAY, RFu r, mem)) : P 23 [.ref 108, .int x1, v2, v3] [] (0, 0) (LAY, RFu r, mem) := by
  refine r_aload_n hP d234_23 rfl ?_
  refine r_getr (a := 143) hP d234_24 fr_12_118 rfl ly_108 rg_108_50 ?_
  refine r_iload_n hP d234_27 rfl ?_
  refine r_iaload hP d234_28 ly_143 hi28 ?_
  refine r_aload_n hP d234_29 rfl ?_
  refine r_geti hP d234_30 fr_12_183 rfl ly_108 ?_
  exact r_icmp (t := 38) hP d234_33 (by decide) kt kf
theorem b234_36 {d : Nat} {P : xPr} {Q : xQr} {r : Nat} {mem : Nat → Nat → Int32} (hP : Cl d none 234 P Q) {v0 : Value} {v1 : Value} {v2 : Value} {v3 : Value} (hzr : nI 0 = 0 ∨ nI 0 = 1)
    (k : Q (some (.int (nI 0))) (LAY, RFu r, mem)) : P 36 [v0, v1, v2, v3] [] (0, 0) (LAY, RFu r, mem) := by
  refine r_iconst (v := nI 0) hP d234_36 rfl ?_
  exact r_zret hP d234_37 rfl hzr k
theorem b234_38 {d : Nat} {P : xPr} {Q : xQr} {r : Nat} {mem : Nat → Nat → Int32} (hP : Cl d none 234 P Q) {x1 : Int32} {v2 : Value} {v3 : Value}
    (k : xCall d 192 [.ref 108, .ref 141, .int ((nI 133) * x1)] (LAY, RFu r, mem) (Bk P 50 [.ref 108, .int x1, .int ((nI 133) * x1), v3] [] (0, 0))) : P 38 [.ref 108, .int x1, v2, v3] [] (0, 0) (LAY, RFu r, mem) := by
  refine r_sipush (v := nI 133) hP d234_38 rfl ?_
  refine r_iload_n hP d234_41 rfl ?_
  refine r_imul hP d234_42 ?_
  refine r_istore_n (L' := [.ref 108, .int x1, .int ((nI 133) * x1), v3]) hP d234_43 (Nat.le_of_ble_eq_true rfl) rfl ?_
  refine r_aload_n hP d234_44 rfl ?_
  refine r_aload_n hP d234_45 rfl ?_
  refine r_getr (a := 141) hP d234_46 fr_12_112 rfl ly_108 rg_108_48 ?_
  refine r_iload_n hP d234_49 rfl ?_
  exact r_callv (As := [.ref 141, .int ((nI 133) * x1)]) (S := []) hP d234_50 cr_12_261 (by decide +kernel) rfl (by simp [Value.category]) rfl ly_108 (by simp [Value.category]) ⟨Nat.zero_le _, Nat.zero_le _⟩ k
theorem b234_53 {d : Nat} {P : xPr} {Q : xQr} {r : Nat} {mem : Nat → Nat → Int32} (hP : Cl d none 234 P Q) {v1 : Value} {x2 : Int32} {v3 : Value}
    (k : P 58 [.ref 108, v1, .int (x2 + nI 121), .int (nI 0)] [] (0, 0) (LAY, RFu r, mem)) : P 53 [.ref 108, v1, .int x2, v3] [] (0, 0) (LAY, RFu r, mem) := by
  refine r_iinc (v := nI 121) (L' := [.ref 108, v1, .int (x2 + nI 121), v3]) hP d234_53 rfl rfl rfl ?_
  refine r_iconst (v := nI 0) hP d234_56 rfl ?_
  refine r_istore_n (L' := [.ref 108, v1, .int (x2 + nI 121), .int (nI 0)]) hP d234_57 (Nat.le_of_ble_eq_true rfl) rfl ?_
  exact k
theorem b234_58 {d : Nat} {P : xPr} {Q : xQr} {r : Nat} {mem : Nat → Nat → Int32} (hP : Cl d none 234 P Q) {v1 : Value} {x2 : Int32} {x3 : Int32}
    (kt : (mem 108 2) ≤ x3 → P 95 [.ref 108, v1, .int x2, .int x3] [] (0, 0) (LAY, RFu r, mem)) (kf : ¬ (mem 108 2) ≤ x3 → P 66 [.ref 108, v1, .int x2, .int x3] [] (0, 0) (LAY, RFu r, mem)) : P 58 [.ref 108, v1, .int x2, .int x3] [] (0, 0) (LAY, RFu r, mem) := by
  refine r_iload_n hP d234_58 rfl ?_
  refine r_aload_n hP d234_59 rfl ?_
  refine r_geti hP d234_60 fr_12_127 rfl ly_108 ?_
  exact r_icmp (t := 95) hP d234_63 (by decide) kt kf
theorem b234_66 {d : Nat} {P : xPr} {Q : xQr} {r : Nat} {mem : Nat → Nat → Int32} (hP : Cl d none 234 P Q) {v1 : Value} {x2 : Int32} {x3 : Int32} (hi78 : vp_in (x2 + x3) 266)
    (kt : ¬ (mem 141 (x2 + x3).toNatClampNeg) = (nI 1) → P 87 [.ref 108, v1, .int x2, .int x3] [.int x3, .ref 111] (0, 0) (LAY, RFu r, mem)) (kf : (mem 141 (x2 + x3).toNatClampNeg) = (nI 1) → P 83 [.ref 108, v1, .int x2, .int x3] [.int x3, .ref 111] (0, 0) (LAY, RFu r, mem)) : P 66 [.ref 108, v1, .int x2, .int x3] [] (0, 0) (LAY, RFu r, mem) := by
  refine r_aload_n hP d234_66 rfl ?_
  refine r_getr (a := 111) hP d234_67 fr_12_16 rfl ly_108 rg_108_4 ?_
  refine r_iload_n hP d234_70 rfl ?_
  refine r_aload_n hP d234_71 rfl ?_
  refine r_getr (a := 141) hP d234_72 fr_12_112 rfl ly_108 rg_108_48 ?_
  refine r_iload_n hP d234_75 rfl ?_
  refine r_iload_n hP d234_76 rfl ?_
  refine r_iadd hP d234_77 ?_
  refine r_iaload hP d234_78 ly_141 hi78 ?_
  refine r_iconst (v := nI 1) hP d234_79 rfl ?_
  exact r_icmp (t := 87) hP d234_80 (by decide) kt (fun q => kf (Decidable.of_not_not q))
theorem b234_83 {d : Nat} {P : xPr} {Q : xQr} {r : Nat} {mem : Nat → Nat → Int32} (hP : Cl d none 234 P Q) {v1 : Value} {x2 : Int32} {x3 : Int32} {y1 : Int32}
    (k : P 88 [.ref 108, v1, .int x2, .int x3] [.int (nI 1), .int y1, .ref 111] (0, 0) (LAY, RFu r, mem)) : P 83 [.ref 108, v1, .int x2, .int x3] [.int y1, .ref 111] (0, 0) (LAY, RFu r, mem) := by
  refine r_iconst (v := nI 1) hP d234_83 rfl ?_
  refine r_goto (t := 88) hP d234_84 (by decide) ?_
  exact k
theorem b234_87 {d : Nat} {P : xPr} {Q : xQr} {r : Nat} {mem : Nat → Nat → Int32} (hP : Cl d none 234 P Q) {v1 : Value} {x2 : Int32} {x3 : Int32} {y1 : Int32}
    (k : P 88 [.ref 108, v1, .int x2, .int x3] [.int (nI 0), .int y1, .ref 111] (0, 0) (LAY, RFu r, mem)) : P 87 [.ref 108, v1, .int x2, .int x3] [.int y1, .ref 111] (0, 0) (LAY, RFu r, mem) := by
  refine r_iconst (v := nI 0) hP d234_87 rfl ?_
  exact k
theorem b234_88 {d : Nat} {P : xPr} {Q : xQr} {r : Nat} {mem : Nat → Nat → Int32} (hP : Cl d none 234 P Q) {v1 : Value} {x2 : Int32} {x3 : Int32} {y1 : Int32} {y2 : Int32} (hi88 : vp_in y1 8)
    (k : P 58 [.ref 108, v1, .int x2, .int (x3 + nI 1)] [] (0, 0) (LAY, RFu r, xu2 mem 111 y1.toNatClampNeg (xNar 15 y2))) : P 88 [.ref 108, v1, .int x2, .int x3] [.int y2, .int y1, .ref 111] (0, 0) (LAY, RFu r, mem) := by
  refine r_bastore hP d234_88 (by decide) ly_111 hi88 ?_
  refine r_iinc (v := nI 1) (L' := [.ref 108, v1, .int x2, .int (x3 + nI 1)]) hP d234_89 rfl rfl rfl ?_
  refine r_goto (t := 58) hP d234_92 (by decide) ?_
  exact k
theorem b234_95 {d : Nat} {P : xPr} {Q : xQr} {r : Nat} {mem : Nat → Nat → Int32} (hP : Cl d none 234 P Q) {v1 : Value} {x2 : Int32} {v3 : Value}
    (k : P 97 [.ref 108, v1, .int x2, .int (nI 0)] [] (0, 0) (LAY, RFu r, mem)) : P 95 [.ref 108, v1, .int x2, v3] [] (0, 0) (LAY, RFu r, mem) := by
  refine r_iconst (v := nI 0) hP d234_95 rfl ?_
  refine r_istore_n (L' := [.ref 108, v1, .int x2, .int (nI 0)]) hP d234_96 (Nat.le_of_ble_eq_true rfl) rfl ?_
  exact k
theorem b234_97 {d : Nat} {P : xPr} {Q : xQr} {r : Nat} {mem : Nat → Nat → Int32} (hP : Cl d none 234 P Q) {v1 : Value} {x2 : Int32} {x3 : Int32}
    (kt : (mem 108 0) ≤ x3 → P 128 [.ref 108, v1, .int x2, .int x3] [] (0, 0) (LAY, RFu r, mem)) (kf : ¬ (mem 108 0) ≤ x3 → P 105 [.ref 108, v1, .int x2, .int x3] [] (0, 0) (LAY, RFu r, mem)) : P 97 [.ref 108, v1, .int x2, .int x3] [] (0, 0) (LAY, RFu r, mem) := by
  refine r_iload_n hP d234_97 rfl ?_
  refine r_aload_n hP d234_98 rfl ?_
  refine r_geti hP d234_99 fr_12_138 rfl ly_108 ?_
  exact r_icmp (t := 128) hP d234_102 (by decide) kt kf
theorem b234_105 {d : Nat} {P : xPr} {Q : xQr} {r : Nat} {mem : Nat → Nat → Int32} (hP : Cl d none 234 P Q) {v1 : Value} {x2 : Int32} {x3 : Int32} (hi120 : vp_in ((x2 + (nI 8)) + x3) 266) (hi121 : vp_in x3 4)
    (k : P 97 [.ref 108, v1, .int x2, .int (x3 + nI 1)] [] (0, 0) (LAY, RFu r, xu2 mem 109 x3.toNatClampNeg (mem 141 ((x2 + (nI 8)) + x3).toNatClampNeg))) : P 105 [.ref 108, v1, .int x2, .int x3] [] (0, 0) (LAY, RFu r, mem) := by
  refine r_aload_n hP d234_105 rfl ?_
  refine r_getr (a := 109) hP d234_106 fr_12_9 rfl ly_108 rg_108_1 ?_
  refine r_iload_n hP d234_109 rfl ?_
  refine r_aload_n hP d234_110 rfl ?_
  refine r_getr (a := 141) hP d234_111 fr_12_112 rfl ly_108 rg_108_48 ?_
  refine r_iload_n hP d234_114 rfl ?_
  refine r_bipush (v := nI 8) hP d234_115 rfl ?_
  refine r_iadd hP d234_117 ?_
  refine r_iload_n hP d234_118 rfl ?_
  refine r_iadd hP d234_119 ?_
  refine r_iaload hP d234_120 ly_141 hi120 ?_
  refine r_iastore hP d234_121 ly_109 hi121 ?_
  refine r_iinc (v := nI 1) (L' := [.ref 108, v1, .int x2, .int (x3 + nI 1)]) hP d234_122 rfl rfl rfl ?_
  refine r_goto (t := 97) hP d234_125 (by decide) ?_
  exact k
theorem b234_128 {d : Nat} {P : xPr} {Q : xQr} {r : Nat} {mem : Nat → Nat → Int32} (hP : Cl d none 234 P Q) {v1 : Value} {v2 : Value} {v3 : Value} (hzr : nI 1 = 0 ∨ nI 1 = 1)
    (k : Q (some (.int (nI 1))) (LAY, RFu r, xu2 mem 108 37 (nI 0))) : P 128 [.ref 108, v1, v2, v3] [] (0, 0) (LAY, RFu r, mem) := by
  refine r_aload_n hP d234_128 rfl ?_
  refine r_iconst (v := nI 0) hP d234_129 rfl ?_
  refine r_puti hP d234_130 fr_12_186 rfl (fun q => by cases q) ly_108 ?_
  refine r_iconst (v := nI 1) hP d234_133 rfl ?_
  exact r_zret hP d234_134 rfl hzr k
theorem d235_0 : decode (xB 235) 0 = .ok (.aload_n 0, 1) := by decide +kernel
theorem d235_1 : decode (xB 235) 1 = .ok (.iconst 0, 1) := by decide +kernel
theorem d235_2 : decode (xB 235) 2 = .ok (.putfield 121, 3) := by decide +kernel
theorem d235_5 : decode (xB 235) 5 = .ok (.iconst 0, 1) := by decide +kernel
theorem d235_6 : decode (xB 235) 6 = .ok (.istore_n 2, 1) := by decide +kernel
theorem d235_7 : decode (xB 235) 7 = .ok (.iload_n 1, 1) := by decide +kernel
theorem d235_8 : decode (xB 235) 8 = .ok (.tableswitch 183 0 9 #[56, 61, 66, 71, 100, 136, 141, 146, 151, 156], 56) := by decide +kernel
theorem d235_64 : decode (xB 235) 64 = .ok (.aload_n 0, 1) := by decide +kernel
theorem d235_65 : decode (xB 235) 65 = .ok (.getfield 127, 3) := by decide +kernel
theorem d235_68 : decode (xB 235) 68 = .ok (.ireturn, 1) := by decide +kernel
theorem d235_69 : decode (xB 235) 69 = .ok (.aload_n 0, 1) := by decide +kernel
theorem d235_70 : decode (xB 235) 70 = .ok (.getfield 138, 3) := by decide +kernel
theorem d235_73 : decode (xB 235) 73 = .ok (.ireturn, 1) := by decide +kernel
theorem d235_74 : decode (xB 235) 74 = .ok (.aload_n 0, 1) := by decide +kernel
theorem d235_75 : decode (xB 235) 75 = .ok (.getfield 225, 3) := by decide +kernel
theorem d235_78 : decode (xB 235) 78 = .ok (.ireturn, 1) := by decide +kernel
theorem d235_79 : decode (xB 235) 79 = .ok (.iconst 0, 1) := by decide +kernel
theorem d235_80 : decode (xB 235) 80 = .ok (.istore_n 3, 1) := by decide +kernel
theorem d235_81 : decode (xB 235) 81 = .ok (.iload_n 3, 1) := by decide +kernel
theorem d235_82 : decode (xB 235) 82 = .ok (.aload_n 0, 1) := by decide +kernel
theorem d235_83 : decode (xB 235) 83 = .ok (.getfield 127, 3) := by decide +kernel
theorem d235_86 : decode (xB 235) 86 = .ok (.if_icmp .ge 20, 3) := by decide +kernel
theorem d235_89 : decode (xB 235) 89 = .ok (.iload_n 2, 1) := by decide +kernel
theorem d235_90 : decode (xB 235) 90 = .ok (.aload_n 0, 1) := by decide +kernel
theorem d235_91 : decode (xB 235) 91 = .ok (.getfield 29, 3) := by decide +kernel
theorem d235_94 : decode (xB 235) 94 = .ok (.iload_n 3, 1) := by decide +kernel
theorem d235_95 : decode (xB 235) 95 = .ok (.iaload, 1) := by decide +kernel
theorem d235_96 : decode (xB 235) 96 = .ok (.iload_n 3, 1) := by decide +kernel
theorem d235_97 : decode (xB 235) 97 = .ok (.ishl, 1) := by decide +kernel
theorem d235_98 : decode (xB 235) 98 = .ok (.ior, 1) := by decide +kernel
theorem d235_99 : decode (xB 235) 99 = .ok (.istore_n 2, 1) := by decide +kernel
theorem d235_100 : decode (xB 235) 100 = .ok (.iinc 3 1, 3) := by decide +kernel
theorem d235_103 : decode (xB 235) 103 = .ok (.goto (-22), 3) := by decide +kernel
theorem d235_106 : decode (xB 235) 106 = .ok (.iload_n 2, 1) := by decide +kernel
theorem d235_107 : decode (xB 235) 107 = .ok (.ireturn, 1) := by decide +kernel
theorem d235_108 : decode (xB 235) 108 = .ok (.iconst 0, 1) := by decide +kernel
theorem d235_109 : decode (xB 235) 109 = .ok (.istore_n 3, 1) := by decide +kernel
theorem d235_110 : decode (xB 235) 110 = .ok (.iload_n 3, 1) := by decide +kernel
theorem d235_111 : decode (xB 235) 111 = .ok (.aload_n 0, 1) := by decide +kernel
theorem d235_112 : decode (xB 235) 112 = .ok (.getfield 127, 3) := by decide +kernel
theorem d235_115 : decode (xB 235) 115 = .ok (.if_icmp .ge 27, 3) := by decide +kernel
theorem d235_118 : decode (xB 235) 118 = .ok (.iload_n 2, 1) := by decide +kernel
theorem d235_119 : decode (xB 235) 119 = .ok (.aload_n 0, 1) := by decide +kernel
theorem d235_120 : decode (xB 235) 120 = .ok (.iload_n 3, 1) := by decide +kernel
theorem d235_121 : decode (xB 235) 121 = .ok (.invokevirtual 255, 3) := by decide +kernel
theorem d235_124 : decode (xB 235) 124 = .ok (.ifCond .eq 9, 3) := by decide +kernel
theorem d235_127 : decode (xB 235) 127 = .ok (.iconst 1, 1) := by decide +kernel
theorem d235_128 : decode (xB 235) 128 = .ok (.iload_n 3, 1) := by decide +kernel
theorem d235_129 : decode (xB 235) 129 = .ok (.ishl, 1) := by decide +kernel
theorem d235_130 : decode (xB 235) 130 = .ok (.goto 4, 3) := by decide +kernel
theorem d235_133 : decode (xB 235) 133 = .ok (.iconst 0, 1) := by decide +kernel
theorem d235_134 : decode (xB 235) 134 = .ok (.ior, 1) := by decide +kernel
theorem d235_135 : decode (xB 235) 135 = .ok (.istore_n 2, 1) := by decide +kernel
theorem d235_136 : decode (xB 235) 136 = .ok (.iinc 3 1, 3) := by decide +kernel
theorem d235_139 : decode (xB 235) 139 = .ok (.goto (-29), 3) := by decide +kernel
theorem d235_142 : decode (xB 235) 142 = .ok (.iload_n 2, 1) := by decide +kernel
theorem d235_143 : decode (xB 235) 143 = .ok (.ireturn, 1) := by decide +kernel
theorem d235_144 : decode (xB 235) 144 = .ok (.aload_n 0, 1) := by decide +kernel
theorem d235_145 : decode (xB 235) 145 = .ok (.getfield 186, 3) := by decide +kernel
theorem d235_148 : decode (xB 235) 148 = .ok (.ireturn, 1) := by decide +kernel
theorem d235_149 : decode (xB 235) 149 = .ok (.aload_n 0, 1) := by decide +kernel
theorem d235_150 : decode (xB 235) 150 = .ok (.getfield 308, 3) := by decide +kernel
theorem d235_153 : decode (xB 235) 153 = .ok (.ireturn, 1) := by decide +kernel
theorem d235_154 : decode (xB 235) 154 = .ok (.aload_n 0, 1) := by decide +kernel
theorem d235_155 : decode (xB 235) 155 = .ok (.getfield 124, 3) := by decide +kernel
theorem d235_158 : decode (xB 235) 158 = .ok (.ireturn, 1) := by decide +kernel
theorem d235_159 : decode (xB 235) 159 = .ok (.aload_n 0, 1) := by decide +kernel
theorem d235_160 : decode (xB 235) 160 = .ok (.getfield 141, 3) := by decide +kernel
theorem d235_163 : decode (xB 235) 163 = .ok (.ireturn, 1) := by decide +kernel
theorem d235_164 : decode (xB 235) 164 = .ok (.iconst 0, 1) := by decide +kernel
theorem d235_165 : decode (xB 235) 165 = .ok (.istore_n 3, 1) := by decide +kernel
theorem d235_166 : decode (xB 235) 166 = .ok (.iload_n 3, 1) := by decide +kernel
theorem d235_167 : decode (xB 235) 167 = .ok (.aload_n 0, 1) := by decide +kernel
theorem d235_168 : decode (xB 235) 168 = .ok (.getfield 138, 3) := by decide +kernel
theorem d235_171 : decode (xB 235) 171 = .ok (.if_icmp .ge 18, 3) := by decide +kernel
theorem d235_174 : decode (xB 235) 174 = .ok (.iload_n 2, 1) := by decide +kernel
theorem d235_175 : decode (xB 235) 175 = .ok (.aload_n 0, 1) := by decide +kernel
theorem d235_176 : decode (xB 235) 176 = .ok (.getfield 9, 3) := by decide +kernel
theorem d235_179 : decode (xB 235) 179 = .ok (.iload_n 3, 1) := by decide +kernel
theorem d235_180 : decode (xB 235) 180 = .ok (.iaload, 1) := by decide +kernel
theorem d235_181 : decode (xB 235) 181 = .ok (.iadd, 1) := by decide +kernel
theorem d235_182 : decode (xB 235) 182 = .ok (.istore_n 2, 1) := by decide +kernel
theorem d235_183 : decode (xB 235) 183 = .ok (.iinc 3 1, 3) := by decide +kernel
theorem d235_186 : decode (xB 235) 186 = .ok (.goto (-20), 3) := by decide +kernel
theorem d235_189 : decode (xB 235) 189 = .ok (.iload_n 2, 1) := by decide +kernel
theorem d235_190 : decode (xB 235) 190 = .ok (.ireturn, 1) := by decide +kernel
theorem d235_191 : decode (xB 235) 191 = .ok (.iconst (-1), 1) := by decide +kernel
theorem d235_192 : decode (xB 235) 192 = .ok (.ireturn, 1) := by decide +kernel
theorem b235_0 {d : Nat} {P : xPr} {Q : xQr} {r : Nat} {mem : Nat → Nat → Int32} (hP : Cl d none 235 P Q) {p0 : Int32}
    (kd : (p0.toInt < 0 ∨ 9 < p0.toInt) → P 191 [.ref 108, .int p0, .int (nI 0), .null] [] (0, 0) (LAY, RFu r, xu2 mem 108 20 (nI 0))) (k0 : p0.toInt = 0 → P 64 [.ref 108, .int p0, .int (nI 0), .null] [] (0, 0) (LAY, RFu r, xu2 mem 108 20 (nI 0))) (k1 : p0.toInt = 1 → P 69 [.ref 108, .int p0, .int (nI 0), .null] [] (0, 0) (LAY, RFu r, xu2 mem 108 20 (nI 0))) (k2 : p0.toInt = 2 → P 74 [.ref 108, .int p0, .int (nI 0), .null] [] (0, 0) (LAY, RFu r, xu2 mem 108 20 (nI 0))) (k3 : p0.toInt = 3 → P 79 [.ref 108, .int p0, .int (nI 0), .null] [] (0, 0) (LAY, RFu r, xu2 mem 108 20 (nI 0))) (k4 : p0.toInt = 4 → P 108 [.ref 108, .int p0, .int (nI 0), .null] [] (0, 0) (LAY, RFu r, xu2 mem 108 20 (nI 0))) (k5 : p0.toInt = 5 → P 144 [.ref 108, .int p0, .int (nI 0), .null] [] (0, 0) (LAY, RFu r, xu2 mem 108 20 (nI 0))) (k6 : p0.toInt = 6 → P 149 [.ref 108, .int p0, .int (nI 0), .null] [] (0, 0) (LAY, RFu r, xu2 mem 108 20 (nI 0))) (k7 : p0.toInt = 7 → P 154 [.ref 108, .int p0, .int (nI 0), .null] [] (0, 0) (LAY, RFu r, xu2 mem 108 20 (nI 0))) (k8 : p0.toInt = 8 → P 159 [.ref 108, .int p0, .int (nI 0), .null] [] (0, 0) (LAY, RFu r, xu2 mem 108 20 (nI 0))) (k9 : p0.toInt = 9 → P 164 [.ref 108, .int p0, .int (nI 0), .null] [] (0, 0) (LAY, RFu r, xu2 mem 108 20 (nI 0))) : P 0 [.ref 108, .int p0, .null, .null] [] (0, 0) (LAY, RFu r, mem) := by
  refine r_aload_n hP d235_0 rfl ?_
  refine r_iconst (v := nI 0) hP d235_1 rfl ?_
  refine r_puti hP d235_2 fr_12_121 rfl (fun q => by cases q) ly_108 ?_
  refine r_iconst (v := nI 0) hP d235_5 rfl ?_
  refine r_istore_n (L' := [.ref 108, .int p0, .int (nI 0), .null]) hP d235_6 (Nat.le_of_ble_eq_true rfl) rfl ?_
  refine r_iload_n hP d235_7 rfl ?_
  refine r_table (t := 191) hP d235_8 (by decide) (by decide) kd (fun h1 h2 off ho => ?_)
  have hc : p0.toInt = 0 ∨ p0.toInt = 1 ∨ p0.toInt = 2 ∨ p0.toInt = 3 ∨ p0.toInt = 4 ∨ p0.toInt = 5 ∨ p0.toInt = 6 ∨ p0.toInt = 7 ∨ p0.toInt = 8 ∨ p0.toInt = 9 := by omega
  rcases hc with hc | hc | hc | hc | hc | hc | hc | hc | hc | hc
  · rw [hc] at ho; cases ho; exact ⟨64, by decide, k0 hc⟩
  · rw [hc] at ho; cases ho; exact ⟨69, by decide, k1 hc⟩
  · rw [hc] at ho; cases ho; exact ⟨74, by decide, k2 hc⟩
  · rw [hc] at ho; cases ho; exact ⟨79, by decide, k3 hc⟩
  · rw [hc] at ho; cases ho; exact ⟨108, by decide, k4 hc⟩
  · rw [hc] at ho; cases ho; exact ⟨144, by decide, k5 hc⟩
  · rw [hc] at ho; cases ho; exact ⟨149, by decide, k6 hc⟩
  · rw [hc] at ho; cases ho; exact ⟨154, by decide, k7 hc⟩
  · rw [hc] at ho; cases ho; exact ⟨159, by decide, k8 hc⟩
  · rw [hc] at ho; cases ho; exact ⟨164, by decide, k9 hc⟩
theorem b235_64 {d : Nat} {P : xPr} {Q : xQr} {r : Nat} {mem : Nat → Nat → Int32} (hP : Cl d none 235 P Q) {v1 : Value} {v2 : Value} {v3 : Value}
    (k : Q (some (.int (mem 108 2))) (LAY, RFu r, mem)) : P 64 [.ref 108, v1, v2, v3] [] (0, 0) (LAY, RFu r, mem) := by
  refine r_aload_n hP d235_64 rfl ?_
  refine r_geti hP d235_65 fr_12_127 rfl ly_108 ?_
  exact r_iret hP d235_68 rfl k
theorem b235_69 {d : Nat} {P : xPr} {Q : xQr} {r : Nat} {mem : Nat → Nat → Int32} (hP : Cl d none 235 P Q) {v1 : Value} {v2 : Value} {v3 : Value}
    (k : Q (some (.int (mem 108 0))) (LAY, RFu r, mem)) : P 69 [.ref 108, v1, v2, v3] [] (0, 0) (LAY, RFu r, mem) := by
  refine r_aload_n hP d235_69 rfl ?_
  refine r_geti hP d235_70 fr_12_138 rfl ly_108 ?_
  exact r_iret hP d235_73 rfl k
theorem b235_74 {d : Nat} {P : xPr} {Q : xQr} {r : Nat} {mem : Nat → Nat → Int32} (hP : Cl d none 235 P Q) {v1 : Value} {v2 : Value} {v3 : Value}
    (k : Q (some (.int (mem 108 15))) (LAY, RFu r, mem)) : P 74 [.ref 108, v1, v2, v3] [] (0, 0) (LAY, RFu r, mem) := by
  refine r_aload_n hP d235_74 rfl ?_
  refine r_geti hP d235_75 fr_12_225 rfl ly_108 ?_
  exact r_iret hP d235_78 rfl k
theorem b235_79 {d : Nat} {P : xPr} {Q : xQr} {r : Nat} {mem : Nat → Nat → Int32} (hP : Cl d none 235 P Q) {v1 : Value} {x2 : Int32} {v3 : Value}
    (k : P 81 [.ref 108, v1, .int x2, .int (nI 0)] [] (0, 0) (LAY, RFu r, mem)) : P 79 [.ref 108, v1, .int x2, v3] [] (0, 0) (LAY, RFu r, mem) := by
  refine r_iconst (v := nI 0) hP d235_79 rfl ?_
  refine r_istore_n (L' := [.ref 108, v1, .int x2, .int (nI 0)]) hP d235_80 (Nat.le_of_ble_eq_true rfl) rfl ?_
  exact k
theorem b235_81 {d : Nat} {P : xPr} {Q : xQr} {r : Nat} {mem : Nat → Nat → Int32} (hP : Cl d none 235 P Q) {v1 : Value} {x2 : Int32} {x3 : Int32}
    (kt : (mem 108 2) ≤ x3 → P 106 [.ref 108, v1, .int x2, .int x3] [] (0, 0) (LAY, RFu r, mem)) (kf : ¬ (mem 108 2) ≤ x3 → P 89 [.ref 108, v1, .int x2, .int x3] [] (0, 0) (LAY, RFu r, mem)) : P 81 [.ref 108, v1, .int x2, .int x3] [] (0, 0) (LAY, RFu r, mem) := by
  refine r_iload_n hP d235_81 rfl ?_
  refine r_aload_n hP d235_82 rfl ?_
  refine r_geti hP d235_83 fr_12_127 rfl ly_108 ?_
  exact r_icmp (t := 106) hP d235_86 (by decide) kt kf
theorem b235_89 {d : Nat} {P : xPr} {Q : xQr} {r : Nat} {mem : Nat → Nat → Int32} (hP : Cl d none 235 P Q) {v1 : Value} {x2 : Int32} {x3 : Int32} (hi95 : vp_in x3 8)
    (k : P 81 [.ref 108, v1, .int (x2 ||| ((mem 115 x3.toNatClampNeg) <<< (x3 &&& 31))), .int (x3 + nI 1)] [] (0, 0) (LAY, RFu r, mem)) : P 89 [.ref 108, v1, .int x2, .int x3] [] (0, 0) (LAY, RFu r, mem) := by
  refine r_iload_n hP d235_89 rfl ?_
  refine r_aload_n hP d235_90 rfl ?_
  refine r_getr (a := 115) hP d235_91 fr_12_29 rfl ly_108 rg_108_8 ?_
  refine r_iload_n hP d235_94 rfl ?_
  refine r_iaload hP d235_95 ly_115 hi95 ?_
  refine r_iload_n hP d235_96 rfl ?_
  refine r_ishl hP d235_97 ?_
  refine r_ior hP d235_98 ?_
  refine r_istore_n (L' := [.ref 108, v1, .int (x2 ||| ((mem 115 x3.toNatClampNeg) <<< (x3 &&& 31))), .int x3]) hP d235_99 (Nat.le_of_ble_eq_true rfl) rfl ?_
  refine r_iinc (v := nI 1) (L' := [.ref 108, v1, .int (x2 ||| ((mem 115 x3.toNatClampNeg) <<< (x3 &&& 31))), .int (x3 + nI 1)]) hP d235_100 rfl rfl rfl ?_
  refine r_goto (t := 81) hP d235_103 (by decide) ?_
  exact k
theorem b235_106 {d : Nat} {P : xPr} {Q : xQr} {r : Nat} {mem : Nat → Nat → Int32} (hP : Cl d none 235 P Q) {v0 : Value} {v1 : Value} {x2 : Int32} {v3 : Value}
    (k : Q (some (.int x2)) (LAY, RFu r, mem)) : P 106 [v0, v1, .int x2, v3] [] (0, 0) (LAY, RFu r, mem) := by
  refine r_iload_n hP d235_106 rfl ?_
  exact r_iret hP d235_107 rfl k
theorem b235_108 {d : Nat} {P : xPr} {Q : xQr} {r : Nat} {mem : Nat → Nat → Int32} (hP : Cl d none 235 P Q) {v1 : Value} {x2 : Int32} {v3 : Value}
    (k : P 110 [.ref 108, v1, .int x2, .int (nI 0)] [] (0, 0) (LAY, RFu r, mem)) : P 108 [.ref 108, v1, .int x2, v3] [] (0, 0) (LAY, RFu r, mem) := by
  refine r_iconst (v := nI 0) hP d235_108 rfl ?_
  refine r_istore_n (L' := [.ref 108, v1, .int x2, .int (nI 0)]) hP d235_109 (Nat.le_of_ble_eq_true rfl) rfl ?_
  exact k
theorem b235_110 {d : Nat} {P : xPr} {Q : xQr} {r : Nat} {mem : Nat → Nat → Int32} (hP : Cl d none 235 P Q) {v1 : Value} {x2 : Int32} {x3 : Int32}
    (kt : (mem 108 2) ≤ x3 → P 142 [.ref 108, v1, .int x2, .int x3] [] (0, 0) (LAY, RFu r, mem)) (kf : ¬ (mem 108 2) ≤ x3 → P 118 [.ref 108, v1, .int x2, .int x3] [] (0, 0) (LAY, RFu r, mem)) : P 110 [.ref 108, v1, .int x2, .int x3] [] (0, 0) (LAY, RFu r, mem) := by
  refine r_iload_n hP d235_110 rfl ?_
  refine r_aload_n hP d235_111 rfl ?_
  refine r_geti hP d235_112 fr_12_127 rfl ly_108 ?_
  exact r_icmp (t := 142) hP d235_115 (by decide) kt kf
theorem b235_118 {d : Nat} {P : xPr} {Q : xQr} {r : Nat} {mem : Nat → Nat → Int32} (hP : Cl d none 235 P Q) {v1 : Value} {x2 : Int32} {x3 : Int32}
    (k : xCall d 193 [.ref 108, .int x3] (LAY, RFu r, mem) (Bk P 121 [.ref 108, v1, .int x2, .int x3] [.int x2] (0, 0))) : P 118 [.ref 108, v1, .int x2, .int x3] [] (0, 0) (LAY, RFu r, mem) := by
  refine r_iload_n hP d235_118 rfl ?_
  refine r_aload_n hP d235_119 rfl ?_
  refine r_iload_n hP d235_120 rfl ?_
  exact r_callv (As := [.int x3]) (S := [.int x2]) hP d235_121 cr_12_255 (by decide +kernel) rfl (by simp [Value.category]) rfl ly_108 (by simp [Value.category]) ⟨Nat.zero_le _, Nat.zero_le _⟩ k
theorem b235_124 {d : Nat} {P : xPr} {Q : xQr} {r : Nat} {mem : Nat → Nat → Int32} (hP : Cl d none 235 P Q) {v1 : Value} {v2 : Value} {x3 : Int32} {y0 : Int32} {y1 : Int32}
    (kt : y1 = 0 → P 133 [.ref 108, v1, v2, .int x3] [.int y0] (0, 0) (LAY, RFu r, mem)) (kf : ¬ y1 = 0 → P 127 [.ref 108, v1, v2, .int x3] [.int y0] (0, 0) (LAY, RFu r, mem)) : P 124 [.ref 108, v1, v2, .int x3] [.int y1, .int y0] (0, 0) (LAY, RFu r, mem) := by
  exact r_if (t := 133) hP d235_124 (by decide) kt kf
theorem b235_127 {d : Nat} {P : xPr} {Q : xQr} {r : Nat} {mem : Nat → Nat → Int32} (hP : Cl d none 235 P Q) {v1 : Value} {v2 : Value} {x3 : Int32} {y0 : Int32}
    (k : P 134 [.ref 108, v1, v2, .int x3] [.int ((nI 1) <<< (x3 &&& 31)), .int y0] (0, 0) (LAY, RFu r, mem)) : P 127 [.ref 108, v1, v2, .int x3] [.int y0] (0, 0) (LAY, RFu r, mem) := by
  refine r_iconst (v := nI 1) hP d235_127 rfl ?_
  refine r_iload_n hP d235_128 rfl ?_
  refine r_ishl hP d235_129 ?_
  refine r_goto (t := 134) hP d235_130 (by decide) ?_
  exact k
theorem b235_133 {d : Nat} {P : xPr} {Q : xQr} {r : Nat} {mem : Nat → Nat → Int32} (hP : Cl d none 235 P Q) {v1 : Value} {v2 : Value} {x3 : Int32} {y0 : Int32}
    (k : P 134 [.ref 108, v1, v2, .int x3] [.int (nI 0), .int y0] (0, 0) (LAY, RFu r, mem)) : P 133 [.ref 108, v1, v2, .int x3] [.int y0] (0, 0) (LAY, RFu r, mem) := by
  refine r_iconst (v := nI 0) hP d235_133 rfl ?_
  exact k
theorem b235_134 {d : Nat} {P : xPr} {Q : xQr} {r : Nat} {mem : Nat → Nat → Int32} (hP : Cl d none 235 P Q) {v1 : Value} {v2 : Value} {x3 : Int32} {y0 : Int32} {y1 : Int32}
    (k : P 110 [.ref 108, v1, .int (y0 ||| y1), .int (x3 + nI 1)] [] (0, 0) (LAY, RFu r, mem)) : P 134 [.ref 108, v1, v2, .int x3] [.int y1, .int y0] (0, 0) (LAY, RFu r, mem) := by
  refine r_ior hP d235_134 ?_
  refine r_istore_n (L' := [.ref 108, v1, .int (y0 ||| y1), .int x3]) hP d235_135 (Nat.le_of_ble_eq_true rfl) rfl ?_
  refine r_iinc (v := nI 1) (L' := [.ref 108, v1, .int (y0 ||| y1), .int (x3 + nI 1)]) hP d235_136 rfl rfl rfl ?_
  refine r_goto (t := 110) hP d235_139 (by decide) ?_
  exact k
theorem b235_142 {d : Nat} {P : xPr} {Q : xQr} {r : Nat} {mem : Nat → Nat → Int32} (hP : Cl d none 235 P Q) {v0 : Value} {v1 : Value} {x2 : Int32} {v3 : Value}
    (k : Q (some (.int x2)) (LAY, RFu r, mem)) : P 142 [v0, v1, .int x2, v3] [] (0, 0) (LAY, RFu r, mem) := by
  refine r_iload_n hP d235_142 rfl ?_
  exact r_iret hP d235_143 rfl k
theorem b235_144 {d : Nat} {P : xPr} {Q : xQr} {r : Nat} {mem : Nat → Nat → Int32} (hP : Cl d none 235 P Q) {v1 : Value} {v2 : Value} {v3 : Value}
    (k : Q (some (.int (mem 108 37))) (LAY, RFu r, mem)) : P 144 [.ref 108, v1, v2, v3] [] (0, 0) (LAY, RFu r, mem) := by
  refine r_aload_n hP d235_144 rfl ?_
  refine r_geti hP d235_145 fr_12_186 rfl ly_108 ?_
  exact r_iret hP d235_148 rfl k
theorem b235_149 {d : Nat} {P : xPr} {Q : xQr} {r : Nat} {mem : Nat → Nat → Int32} (hP : Cl d none 235 P Q) {v1 : Value} {v2 : Value} {v3 : Value}
    (k : Q (some (.int (mem 108 45))) (LAY, RFu r, mem)) : P 149 [.ref 108, v1, v2, v3] [] (0, 0) (LAY, RFu r, mem) := by
  refine r_aload_n hP d235_149 rfl ?_
  refine r_geti hP d235_150 fr_12_308 rfl ly_108 ?_
  exact r_iret hP d235_153 rfl k
theorem b235_154 {d : Nat} {P : xPr} {Q : xQr} {r : Nat} {mem : Nat → Nat → Int32} (hP : Cl d none 235 P Q) {v1 : Value} {v2 : Value} {v3 : Value}
    (k : Q (some (.int (mem 108 19))) (LAY, RFu r, mem)) : P 154 [.ref 108, v1, v2, v3] [] (0, 0) (LAY, RFu r, mem) := by
  refine r_aload_n hP d235_154 rfl ?_
  refine r_geti hP d235_155 fr_12_124 rfl ly_108 ?_
  exact r_iret hP d235_158 rfl k
theorem b235_159 {d : Nat} {P : xPr} {Q : xQr} {r : Nat} {mem : Nat → Nat → Int32} (hP : Cl d none 235 P Q) {v1 : Value} {v2 : Value} {v3 : Value}
    (k : Q (some (.int (mem 108 17))) (LAY, RFu r, mem)) : P 159 [.ref 108, v1, v2, v3] [] (0, 0) (LAY, RFu r, mem) := by
  refine r_aload_n hP d235_159 rfl ?_
  refine r_geti hP d235_160 fr_12_141 rfl ly_108 ?_
  exact r_iret hP d235_163 rfl k
theorem b235_164 {d : Nat} {P : xPr} {Q : xQr} {r : Nat} {mem : Nat → Nat → Int32} (hP : Cl d none 235 P Q) {v1 : Value} {x2 : Int32} {v3 : Value}
    (k : P 166 [.ref 108, v1, .int x2, .int (nI 0)] [] (0, 0) (LAY, RFu r, mem)) : P 164 [.ref 108, v1, .int x2, v3] [] (0, 0) (LAY, RFu r, mem) := by
  refine r_iconst (v := nI 0) hP d235_164 rfl ?_
  refine r_istore_n (L' := [.ref 108, v1, .int x2, .int (nI 0)]) hP d235_165 (Nat.le_of_ble_eq_true rfl) rfl ?_
  exact k
theorem b235_166 {d : Nat} {P : xPr} {Q : xQr} {r : Nat} {mem : Nat → Nat → Int32} (hP : Cl d none 235 P Q) {v1 : Value} {x2 : Int32} {x3 : Int32}
    (kt : (mem 108 0) ≤ x3 → P 189 [.ref 108, v1, .int x2, .int x3] [] (0, 0) (LAY, RFu r, mem)) (kf : ¬ (mem 108 0) ≤ x3 → P 174 [.ref 108, v1, .int x2, .int x3] [] (0, 0) (LAY, RFu r, mem)) : P 166 [.ref 108, v1, .int x2, .int x3] [] (0, 0) (LAY, RFu r, mem) := by
  refine r_iload_n hP d235_166 rfl ?_
  refine r_aload_n hP d235_167 rfl ?_
  refine r_geti hP d235_168 fr_12_138 rfl ly_108 ?_
  exact r_icmp (t := 189) hP d235_171 (by decide) kt kf
theorem b235_174 {d : Nat} {P : xPr} {Q : xQr} {r : Nat} {mem : Nat → Nat → Int32} (hP : Cl d none 235 P Q) {v1 : Value} {x2 : Int32} {x3 : Int32} (hi180 : vp_in x3 4)
    (k : P 166 [.ref 108, v1, .int (x2 + (mem 109 x3.toNatClampNeg)), .int (x3 + nI 1)] [] (0, 0) (LAY, RFu r, mem)) : P 174 [.ref 108, v1, .int x2, .int x3] [] (0, 0) (LAY, RFu r, mem) := by
  refine r_iload_n hP d235_174 rfl ?_
  refine r_aload_n hP d235_175 rfl ?_
  refine r_getr (a := 109) hP d235_176 fr_12_9 rfl ly_108 rg_108_1 ?_
  refine r_iload_n hP d235_179 rfl ?_
  refine r_iaload hP d235_180 ly_109 hi180 ?_
  refine r_iadd hP d235_181 ?_
  refine r_istore_n (L' := [.ref 108, v1, .int (x2 + (mem 109 x3.toNatClampNeg)), .int x3]) hP d235_182 (Nat.le_of_ble_eq_true rfl) rfl ?_
  refine r_iinc (v := nI 1) (L' := [.ref 108, v1, .int (x2 + (mem 109 x3.toNatClampNeg)), .int (x3 + nI 1)]) hP d235_183 rfl rfl rfl ?_
  refine r_goto (t := 166) hP d235_186 (by decide) ?_
  exact k
theorem b235_189 {d : Nat} {P : xPr} {Q : xQr} {r : Nat} {mem : Nat → Nat → Int32} (hP : Cl d none 235 P Q) {v0 : Value} {v1 : Value} {x2 : Int32} {v3 : Value}
    (k : Q (some (.int x2)) (LAY, RFu r, mem)) : P 189 [v0, v1, .int x2, v3] [] (0, 0) (LAY, RFu r, mem) := by
  refine r_iload_n hP d235_189 rfl ?_
  exact r_iret hP d235_190 rfl k
theorem b235_191 {d : Nat} {P : xPr} {Q : xQr} {r : Nat} {mem : Nat → Nat → Int32} (hP : Cl d none 235 P Q) {v0 : Value} {v1 : Value} {v2 : Value} {v3 : Value}
    (k : Q (some (.int (-1))) (LAY, RFu r, mem)) : P 191 [v0, v1, v2, v3] [] (0, 0) (LAY, RFu r, mem) := by
  refine r_iconst (v := (-1)) hP d235_191 rfl ?_
  exact r_iret hP d235_192 rfl k
theorem d236_0 : decode (xB 236) 0 = .ok (.aload_n 0, 1) := by decide +kernel
theorem d236_1 : decode (xB 236) 1 = .ok (.iconst 0, 1) := by decide +kernel
theorem d236_2 : decode (xB 236) 2 = .ok (.putfield 121, 3) := by decide +kernel
theorem d236_5 : decode (xB 236) 5 = .ok (.iload_n 1, 1) := by decide +kernel
theorem d236_6 : decode (xB 236) 6 = .ok (.iconst 0, 1) := by decide +kernel
theorem d236_7 : decode (xB 236) 7 = .ok (.aload_n 0, 1) := by decide +kernel
theorem d236_8 : decode (xB 236) 8 = .ok (.getfield 124, 3) := by decide +kernel
theorem d236_11 : decode (xB 236) 11 = .ok (.iconst 1, 1) := by decide +kernel
theorem d236_12 : decode (xB 236) 12 = .ok (.isub, 1) := by decide +kernel
theorem d236_13 : decode (xB 236) 13 = .ok (.invokestatic 130, 3) := by decide +kernel
theorem d236_16 : decode (xB 236) 16 = .ok (.ifCond .eq 12, 3) := by decide +kernel
theorem d236_19 : decode (xB 236) 19 = .ok (.aload_n 0, 1) := by decide +kernel
theorem d236_20 : decode (xB 236) 20 = .ok (.getfield 54, 3) := by decide +kernel
theorem d236_23 : decode (xB 236) 23 = .ok (.iload_n 1, 1) := by decide +kernel
theorem d236_24 : decode (xB 236) 24 = .ok (.iaload, 1) := by decide +kernel
theorem d236_25 : decode (xB 236) 25 = .ok (.goto 7, 3) := by decide +kernel
theorem d236_28 : decode (xB 236) 28 = .ok (.aload_n 0, 1) := by decide +kernel
theorem d236_29 : decode (xB 236) 29 = .ok (.invokevirtual 208, 3) := by decide +kernel
theorem d236_32 : decode (xB 236) 32 = .ok (.ireturn, 1) := by decide +kernel
theorem b236_0 {d : Nat} {P : xPr} {Q : xQr} {r : Nat} {mem : Nat → Nat → Int32} (hP : Cl d none 236 P Q) {p0 : Int32}
    (k : xCall d 158 [.int p0, .int (nI 0), .int (((xu2 mem 108 20 (nI 0)) 108 19) - (nI 1))] (LAY, RFu r, xu2 mem 108 20 (nI 0)) (Bk P 13 [.ref 108, .int p0] [] (0, 0))) : P 0 [.ref 108, .int p0] [] (0, 0) (LAY, RFu r, mem) := by
  refine r_aload_n hP d236_0 rfl ?_
  refine r_iconst (v := nI 0) hP d236_1 rfl ?_
  refine r_puti hP d236_2 fr_12_121 rfl (fun q => by cases q) ly_108 ?_
  refine r_iload_n hP d236_5 rfl ?_
  refine r_iconst (v := nI 0) hP d236_6 rfl ?_
  refine r_aload_n hP d236_7 rfl ?_
  refine r_geti hP d236_8 fr_12_124 rfl ly_108 ?_
  refine r_iconst (v := nI 1) hP d236_11 rfl ?_
  refine r_isub hP d236_12 ?_
  exact r_calls (As := [.int p0, .int (nI 0), .int (((xu2 mem 108 20 (nI 0)) 108 19) - (nI 1))]) (S := []) hP d236_13 cr_12_130 (by decide +kernel) rfl (by simp [Value.category]) rfl (by simp [Value.category]) ⟨Nat.zero_le _, Nat.zero_le _⟩ k
theorem b236_16 {d : Nat} {P : xPr} {Q : xQr} {r : Nat} {mem : Nat → Nat → Int32} (hP : Cl d none 236 P Q) {x1 : Int32} {y0 : Int32}
    (kt : y0 = 0 → P 28 [.ref 108, .int x1] [] (0, 0) (LAY, RFu r, mem)) (kf : ¬ y0 = 0 → P 19 [.ref 108, .int x1] [] (0, 0) (LAY, RFu r, mem)) : P 16 [.ref 108, .int x1] [.int y0] (0, 0) (LAY, RFu r, mem) := by
  exact r_if (t := 28) hP d236_16 (by decide) kt kf
theorem b236_19 {d : Nat} {P : xPr} {Q : xQr} {r : Nat} {mem : Nat → Nat → Int32} (hP : Cl d none 236 P Q) {x1 : Int32} (hi24 : vp_in x1 16)
    (k : P 32 [.ref 108, .int x1] [.int (mem 123 x1.toNatClampNeg)] (0, 0) (LAY, RFu r, mem)) : P 19 [.ref 108, .int x1] [] (0, 0) (LAY, RFu r, mem) := by
  refine r_aload_n hP d236_19 rfl ?_
  refine r_getr (a := 123) hP d236_20 fr_12_54 rfl ly_108 rg_108_18 ?_
  refine r_iload_n hP d236_23 rfl ?_
  refine r_iaload hP d236_24 ly_123 hi24 ?_
  refine r_goto (t := 32) hP d236_25 (by decide) ?_
  exact k
theorem b236_28 {d : Nat} {P : xPr} {Q : xQr} {r : Nat} {mem : Nat → Nat → Int32} (hP : Cl d none 236 P Q) {v1 : Value}
    (k : xCall d 160 [.ref 108] (LAY, RFu r, mem) (Bk P 29 [.ref 108, v1] [] (0, 0))) : P 28 [.ref 108, v1] [] (0, 0) (LAY, RFu r, mem) := by
  refine r_aload_n hP d236_28 rfl ?_
  exact r_callv (As := []) (S := []) hP d236_29 cr_12_208 (by decide +kernel) rfl (by simp) rfl ly_108 (by simp [Value.category]) ⟨Nat.zero_le _, Nat.zero_le _⟩ k
theorem b236_32 {d : Nat} {P : xPr} {Q : xQr} {r : Nat} {mem : Nat → Nat → Int32} (hP : Cl d none 236 P Q) {v0 : Value} {v1 : Value} {y0 : Int32}
    (k : Q (some (.int y0)) (LAY, RFu r, mem)) : P 32 [v0, v1] [.int y0] (0, 0) (LAY, RFu r, mem) := by
  exact r_iret hP d236_32 rfl k
