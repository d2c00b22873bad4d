/-! SEGMENTS of Contest (by gen/emit_segs.py) -/
/- PuzzleHouse$Contest.add(LPuzzleHouse$Scan;ILPuzzleHouse$Puzzle;)Ljava/lang/String; -/
theorem c184_0 : fx_op 184 0 = some (.aload_n 0, 1, 0) := by decide +kernel
theorem c184_1 : fx_op 184 1 = some (.aload_n 1, 2, 1) := by decide +kernel
theorem c184_2 : fx_ca 184 2 = some (185, 2, 2, 5) := by decide +kernel
theorem c184_5 : fx_op 184 5 = some (.ifCond .lt 6, 8, 11) := by decide +kernel
theorem c184_11 : fx_op 184 11 = some (.aload_n 0, 12, 11) := by decide +kernel
theorem c184_12 : fx_gf 184 12 = some (10, 0, 15) := by decide +kernel
theorem c184_15 : fx_ci 184 15 = some (6, 17) := by decide +kernel
theorem c184_17 : fx_op 184 17 = some (.if_icmp .lt 6, 20, 23) := by decide +kernel
theorem c184_23 : fx_op 184 23 = some (.aload_n 1, 24, 23) := by decide +kernel
theorem c184_24 : fx_gf 184 24 = some (2, 0, 27) := by decide +kernel
theorem c184_27 : fx_op 184 27 = some (.aload_n 1, 28, 27) := by decide +kernel
theorem c184_28 : fx_gf 184 28 = some (2, 6, 31) := by decide +kernel
theorem c184_31 : fx_op 184 31 = some (.aload_n 0, 32, 31) := by decide +kernel
theorem c184_32 : fx_gf 184 32 = some (10, 1, 35) := by decide +kernel
theorem c184_35 : fx_ci 184 35 = some (8, 37) := by decide +kernel
theorem c184_37 : fx_op 184 37 = some (.aload_n 0, 38, 37) := by decide +kernel
theorem c184_38 : fx_gf 184 38 = some (10, 0, 41) := by decide +kernel
theorem c184_41 : fx_op 184 41 = some (.imul, 42, 41) := by decide +kernel
theorem c184_42 : fx_op 184 42 = some (.aload_n 1, 43, 42) := by decide +kernel
theorem c184_43 : fx_gf 184 43 = some (2, 7, 46) := by decide +kernel
theorem c184_49 : fx_op 184 49 = some (.aload_n 0, 50, 49) := by decide +kernel
theorem c184_50 : fx_gf 184 50 = some (10, 2, 53) := by decide +kernel
theorem c184_53 : fx_op 184 53 = some (.aload_n 0, 54, 53) := by decide +kernel
theorem c184_54 : fx_gf 184 54 = some (10, 0, 57) := by decide +kernel
theorem c184_57 : fx_op 184 57 = some (.aload_n 1, 58, 57) := by decide +kernel
theorem c184_58 : fx_gf 184 58 = some (2, 7, 61) := by decide +kernel
theorem c184_62 : fx_op 184 62 = some (.aload_n 0, 63, 62) := by decide +kernel
theorem c184_63 : fx_gf 184 63 = some (10, 3, 66) := by decide +kernel
theorem c184_66 : fx_op 184 66 = some (.aload_n 0, 67, 66) := by decide +kernel
theorem c184_67 : fx_gf 184 67 = some (10, 0, 70) := by decide +kernel
theorem c184_71 : fx_op 184 71 = some (.aload_n 3, 72, 71) := by decide +kernel
theorem c184_20 : fx_cr 184 20 = some (1000153, 22) := by decide +kernel
theorem c184_8 : fx_cr 184 8 = some (1000151, 10) := by decide +kernel
theorem c184_46 : fx_nt 184 46 = some (0, 49) := by decide +kernel
theorem c184_61 : fx_op 184 61 = some (.iastore, 62, 61) := by decide +kernel
theorem c184_70 : fx_op 184 70 = some (.aaload, 71, 70) := by decide +kernel
theorem c184_72 : fx_ca 184 72 = some (72, 2, 2, 75) := by decide +kernel
theorem c184_22 : fx_op 184 22 = some (.areturn, 23, 22) := by decide +kernel
theorem c184_10 : fx_op 184 10 = some (.areturn, 11, 10) := by decide +kernel
theorem c184_75 : fx_op 184 75 = some (.aload_n 0, 76, 75) := by decide +kernel
theorem c184_76 : fx_gf 184 76 = some (10, 4, 79) := by decide +kernel
theorem c184_79 : fx_op 184 79 = some (.aload_n 0, 80, 79) := by decide +kernel
theorem c184_80 : fx_gf 184 80 = some (10, 0, 83) := by decide +kernel
theorem c184_83 : fx_op 184 83 = some (.iload_n 2, 84, 83) := by decide +kernel
theorem c184_85 : fx_ci 184 85 = some (0, 86) := by decide +kernel
theorem c184_86 : fx_op 184 86 = some (.istore 4, 88, 86) := by decide +kernel
theorem c184_84 : fx_op 184 84 = some (.iastore, 85, 84) := by decide +kernel
theorem c184_88 : fx_op 184 88 = some (.iload 4, 90, 88) := by decide +kernel
theorem c184_90 : fx_ci 184 90 = some (3, 91) := by decide +kernel
theorem c184_91 : fx_op 184 91 = some (.if_icmp .ge 41, 94, 132) := by decide +kernel
theorem c184_94 : fx_op 184 94 = some (.aload_n 0, 95, 94) := by decide +kernel
theorem c184_95 : fx_gf 184 95 = some (10, 5, 98) := by decide +kernel
theorem c184_98 : fx_ci 184 98 = some (6, 100) := by decide +kernel
theorem c184_100 : fx_op 184 100 = some (.iload 4, 102, 100) := by decide +kernel
theorem c184_102 : fx_op 184 102 = some (.imul, 103, 102) := by decide +kernel
theorem c184_103 : fx_op 184 103 = some (.aload_n 0, 104, 103) := by decide +kernel
theorem c184_104 : fx_gf 184 104 = some (10, 0, 107) := by decide +kernel
theorem c184_107 : fx_op 184 107 = some (.iadd, 108, 107) := by decide +kernel
theorem c184_108 : fx_ci 184 108 = some (0, 109) := by decide +kernel
theorem c184_132 : fx_op 184 132 = some (.aload_n 0, 133, 132) := by decide +kernel
theorem c184_133 : fx_op 184 133 = some (.dup, 134, 133) := by decide +kernel
theorem c184_134 : fx_gf 184 134 = some (10, 0, 137) := by decide +kernel
theorem c184_137 : fx_ci 184 137 = some (1, 138) := by decide +kernel
theorem c184_138 : fx_op 184 138 = some (.iadd, 139, 138) := by decide +kernel
theorem c184_139 : fx_pf 184 139 = some (10, 0, 0, 142) := by decide +kernel
theorem c184_142 : fx_cr 184 142 = some (1000155, 144) := by decide +kernel
theorem c184_110 : fx_op 184 110 = some (.aload_n 0, 111, 110) := by decide +kernel
theorem c184_111 : fx_gf 184 111 = some (10, 6, 114) := by decide +kernel
theorem c184_114 : fx_ci 184 114 = some (6, 116) := by decide +kernel
theorem c184_116 : fx_op 184 116 = some (.iload 4, 118, 116) := by decide +kernel
theorem c184_118 : fx_op 184 118 = some (.imul, 119, 118) := by decide +kernel
theorem c184_119 : fx_op 184 119 = some (.aload_n 0, 120, 119) := by decide +kernel
theorem c184_120 : fx_gf 184 120 = some (10, 0, 123) := by decide +kernel
theorem c184_123 : fx_op 184 123 = some (.iadd, 124, 123) := by decide +kernel
theorem c184_124 : fx_ci 184 124 = some ((-1), 125) := by decide +kernel
theorem c184_126 : fx_op 184 126 = some (.iinc 4 1, 129, 126) := by decide +kernel
theorem c184_144 : fx_op 184 144 = some (.areturn, 145, 144) := by decide +kernel
theorem c184_109 : fx_op 184 109 = some (.iastore, 110, 109) := by decide +kernel
theorem c184_125 : fx_op 184 125 = some (.iastore, 126, 125) := by decide +kernel
theorem c184_129 : fx_op 184 129 = some (.goto (-41), 132, 88) := by decide +kernel
theorem n184_46 : xS 184 ((xI 184 46).getD .nop) = none := by decide +kernel
theorem s184_0 {kc : List va_E} {d : Nat} {s p : Nat} {x2 : Int} {M : fx_M} {Q : Option fx_V → fx_M → Prop} (Hs : fx_scn s) (Hp : fx_puz p) (H : wc kc d 185 [jR 62, jR s] M (fun v M1 => wp kc (d + 1) 184 5 [some (jR 62), some (jR s), some (jI x2), some (jR p), none] (v.toList ++ []) M1 Q)) : wp kc (d + 1) 184 0 [some (jR 62), some (jR s), some (jI x2), some (jR p), none] [] M Q :=
  (x_aldn c184_0 rfl (x_aldn c184_1 rfl (wp_wk (l' := [some (jR 62), some (jR s), some (jI x2), some (jR p), none]) ⟨rfl, ⟨rfl, ⟨rfl, ⟨rfl, trivial⟩⟩⟩⟩ (x_cv (As := [jR s]) (st := []) c184_2 cl_62 kl185 rfl (Nat.le_of_ble_eq_true rfl) mx185 (Nat.le_refl _) H))))
theorem s184_5 {kc : List va_E} {d : Nat} {s p : Nat} {v2 u0 : Int} {h1n : Nat} {M : fx_M} {Q : Option fx_V → fx_M → Prop} (Hs : fx_scn s) (Hp : fx_puz p) (H : ((fx_in32 u0)) ∧ (u0 < 0 → ((fx_in32 (M 62 0))) ∧ (M 62 0 < 6 → (((0 : Int) ≤ M s 7 ∧ (0 : Int) ≤ M s 6 ∧ (0 : Int) ≤ 8 * (M 62 0) ∧ (M s 6 : Int) + M s 7 ≤ (h1n : Nat) ∧ (8 * (M 62 0) : Int) + M s 7 ≤ 48) ∧ (fx_a ((M s 0).toNat) = some (1, h1n) ∧ h1n ≤ 2147483647)) ∧ (((0 : Int) ≤ (fx_cpy M ((M s 0).toNat) (M s 6) 63 (8 * (M 62 0)) (M s 7)) 62 0 ∧ (fx_cpy M ((M s 0).toNat) (M s 6) 63 (8 * (M 62 0)) (M s 7)) 62 0 < 6)) ∧ ((0 : Int) ≤ (fx_cpy M ((M s 0).toNat) (M s 6) 63 (8 * (M 62 0)) (M s 7)) 62 0 ∧ (fx_cpy M ((M s 0).toNat) (M s 6) 63 (8 * (M 62 0)) (M s 7)) 62 0 < 6) ∧ wc kc d 72 [jR (71 + 9 * ((fx_cpy M ((M s 0).toNat) (M s 6) 63 (8 * (M 62 0)) (M s 7)) 62 0).toNat), jR p] (fx_up (fx_cpy M ((M s 0).toNat) (M s 6) 63 (8 * (M 62 0)) (M s 7)) 64 ((fx_cpy M ((M s 0).toNat) (M s 6) 63 (8 * (M 62 0)) (M s 7)) 62 0) ((fx_cpy M ((M s 0).toNat) (M s 6) 63 (8 * (M 62 0)) (M s 7)) s 7)) (fun v M1 => wp kc (d + 1) 184 75 [some (jR 62), none, some (jI v2), none, none] (v.toList ++ []) M1 Q)) ∧ (6 ≤ M 62 0 → Q (some (jR 1000153)) M)) ∧ (0 ≤ u0 → Q (some (jR 1000151)) M)) : wp kc (d + 1) 184 5 [some (jR 62), some (jR s), some (jI v2), some (jR p), none] [jI u0] M Q :=
  (x_zlt c184_5 H.1 (fun h5 => (x_aldn c184_11 rfl (x_gfi c184_12 k_62_0 (x_ci c184_15 (x_clt c184_17 (H.2.1 h5).1 (by decide) (fun h3 => (x_aldn c184_23 rfl (x_gfd c184_24 (ks_0 Hs) (x_aldn c184_27 rfl (x_gfi c184_28 (ks_6 Hs) (x_aldn c184_31 rfl (x_gfr c184_32 k_62_1 (x_ci c184_35 (x_aldn c184_37 rfl (x_gfi c184_38 k_62_0 (x_imul c184_41 (x_aldn c184_42 rfl (x_gfi c184_43 (ks_7 Hs) (x_cpy c184_46 n184_46 ((H.2.1 h5).2.1 h3).1.2.1 a_63 (by decide) ((H.2.1 h5).2.1 h3).1.1 ⟨(by decide), ((H.2.1 h5).2.1 h3).1.2.2⟩ (Nat.le_of_ble_eq_true rfl) (x_aldn c184_49 rfl (x_gfr c184_50 k_62_2 (x_aldn c184_53 rfl (x_gfi c184_54 k_62_0 (x_aldn c184_57 rfl (x_gfi c184_58 (ks_7 Hs) (x_iast c184_61 a_64 ((H.2.1 h5).2.1 h3).2.1 (by decide) (x_aldn c184_62 rfl (x_gfr c184_63 k_62_3 (x_aldn c184_66 rfl (x_gfi c184_67 k_62_0 (wp_vI (fx_upA (by decide)) (x_aald rfl c184_70 ((H.2.1 h5).2.1 h3).2.2.1 (have h2 := fx_puz_it ((H.2.1 h5).2.1 h3).2.2.1; (x_aldn c184_71 rfl (wp_wk (l' := [some (jR 62), none, some (jI v2), none, none]) ⟨rfl, ⟨rfl, trivial⟩⟩ (x_cv (As := [jR p]) (st := []) c184_72 (clp h2) kl72 rfl (Nat.le_of_ble_eq_true rfl) mx72 (Nat.le_refl _) ((H.2.1 h5).2.1 h3).2.2.2))))))))))))))))))))))))))))))) (fun h4 => (x_cr c184_20 (x_art c184_22 r184 ((H.2.1 h5).2.2 h4))))))))) (fun h6 => (x_cr c184_8 (x_art c184_10 r184 (H.2.2 h6)))))
theorem s184_75 {kc : List va_E} {d : Nat} {s p : Nat} {v2 : Int} {M : fx_M} {Q : Option fx_V → fx_M → Prop} (Hs : fx_scn s) (Hp : fx_puz p) (H : (((0 : Int) ≤ M 62 0 ∧ M 62 0 < 6)) ∧ wp kc (d + 1) 184 88 [some (jR 62), none, none, none, some (jI 0)] [] (fx_up M 66 (M 62 0) v2) Q) : wp kc (d + 1) 184 75 [some (jR 62), none, some (jI v2), none, none] [] M Q :=
  (x_aldn c184_75 rfl (x_gfr c184_76 k_62_4 (x_aldn c184_79 rfl (x_gfi c184_80 k_62_0 (x_ildn c184_83 rfl (x_iast c184_84 a_66 H.1 (by decide) (x_ci c184_85 (x_ist (l' := [some (jR 62), none, some (jI v2), none, some (jI 0)]) c184_86 rfl (wp_wk (l' := [some (jR 62), none, none, none, some (jI 0)]) ⟨rfl, ⟨rfl, trivial⟩⟩ H.2)))))))))
theorem s184_88 {kc : List va_E} {d : Nat} {s p : Nat} {v4 : Int} {M : fx_M} {Q : Option fx_V → fx_M → Prop} (Hs : fx_scn s) (Hp : fx_puz p) (H : ((fx_in32 v4)) ∧ (3 ≤ v4 → Q (some (jR 1000155)) (fx_up M 62 0 ((M 62 0) + 1))) ∧ (v4 < 3 → (((0 : Int) ≤ (6 * v4) + (M 62 0) ∧ (6 * v4) + (M 62 0) < 18)) ∧ (((0 : Int) ≤ (6 * v4) + (M 62 0) ∧ (6 * v4) + (M 62 0) < 18)) ∧ wp kc (d + 1) 184 88 [some (jR 62), none, none, none, some (jI (v4 + 1))] [] (fx_up (fx_up M 67 ((6 * v4) + (M 62 0)) 0) 68 ((6 * v4) + (M 62 0)) (-1)) Q)) : wp kc (d + 1) 184 88 [some (jR 62), none, none, none, some (jI v4)] [] M Q :=
  (x_ild c184_88 rfl (x_ci c184_90 (x_cge c184_91 H.1 (by decide) (fun h1 => (x_aldn c184_132 rfl (x_dupr c184_133 (x_gfi c184_134 k_62_0 (x_ci c184_137 (x_iadd c184_138 (x_pfi c184_139 k_62_0 (x_cr c184_142 (x_art c184_144 r184 (H.2.1 h1)))))))))) (fun h2 => (x_aldn c184_94 rfl (x_gfr c184_95 k_62_5 (x_ci c184_98 (x_ild c184_100 rfl (x_imul c184_102 (x_aldn c184_103 rfl (x_gfi c184_104 k_62_0 (x_iadd c184_107 (x_ci c184_108 (x_iast c184_109 a_67 (H.2.2 h2).1 (by decide) (x_aldn c184_110 rfl (x_gfr c184_111 k_62_6 (x_ci c184_114 (x_ild c184_116 rfl (x_imul c184_118 (x_aldn c184_119 rfl (x_gfi c184_120 k_62_0 (wp_vI (fx_upA (by decide)) (x_iadd c184_123 (x_ci c184_124 (x_iast c184_125 a_68 (H.2.2 h2).2.1 (by decide) (x_inc (l' := [some (jR 62), none, none, none, some (jI (v4 + 1))]) c184_126 rfl rfl (x_goto c184_129 (wp_wk (l' := [some (jR 62), none, none, none, some (jI (v4 + 1))]) ⟨rfl, ⟨rfl, trivial⟩⟩ (H.2.2 h2).2.2))))))))))))))))))))))))))))
theorem s184 {kc : List va_E} {d : Nat} {s p : Nat} {x2 : Int} {M : fx_M} {Q : Option fx_V → fx_M → Prop} (Hs : fx_scn s) (Hp : fx_puz p) (H : wc kc d 185 [jR 62, jR s] M (fun v M1 => wp kc (d + 1) 184 5 [some (jR 62), some (jR s), some (jI x2), some (jR p), none] (v.toList ++ []) M1 Q)) : wc kc (d + 1) 184 [jR 62, jR s, jI x2, jR p] M Q :=
  wc_of (wp_wk (l' := [some (jR 62), some (jR s), some (jI x2), some (jR p), none]) ⟨rfl, ⟨rfl, ⟨rfl, ⟨rfl, trivial⟩⟩⟩⟩ (s184_0 Hs Hp H))

/- PuzzleHouse$Contest.itemOf(LPuzzleHouse$Scan;)I -/
theorem c185_0 : fx_ci 185 0 = some (0, 1) := by decide +kernel
theorem c185_1 : fx_op 185 1 = some (.istore_n 2, 2, 1) := by decide +kernel
theorem c185_2 : fx_op 185 2 = some (.iload_n 2, 3, 2) := by decide +kernel
theorem c185_3 : fx_op 185 3 = some (.aload_n 0, 4, 3) := by decide +kernel
theorem c185_4 : fx_gf 185 4 = some (10, 0, 7) := by decide +kernel
theorem c185_7 : fx_op 185 7 = some (.if_icmp .ge 80, 10, 87) := by decide +kernel
theorem c185_87 : fx_ci 185 87 = some ((-1), 88) := by decide +kernel
theorem c185_10 : fx_ci 185 10 = some (0, 11) := by decide +kernel
theorem c185_11 : fx_op 185 11 = some (.istore_n 3, 12, 11) := by decide +kernel
theorem c185_88 : fx_op 185 88 = some (.ireturn, 89, 88) := by decide +kernel
theorem c185_12 : fx_op 185 12 = some (.iload_n 3, 13, 12) := by decide +kernel
theorem c185_13 : fx_op 185 13 = some (.aload_n 1, 14, 13) := by decide +kernel
theorem c185_14 : fx_gf 185 14 = some (2, 7, 17) := by decide +kernel
theorem c185_17 : fx_op 185 17 = some (.if_icmp .ge 44, 20, 61) := by decide +kernel
theorem c185_20 : fx_op 185 20 = some (.iload_n 3, 21, 20) := by decide +kernel
theorem c185_21 : fx_op 185 21 = some (.aload_n 0, 22, 21) := by decide +kernel
theorem c185_22 : fx_gf 185 22 = some (10, 2, 25) := by decide +kernel
theorem c185_25 : fx_op 185 25 = some (.iload_n 2, 26, 25) := by decide +kernel
theorem c185_26 : fx_op 185 26 = some (.iaload, 27, 26) := by decide +kernel
theorem c185_27 : fx_op 185 27 = some (.if_icmp .ge 34, 30, 61) := by decide +kernel
theorem c185_30 : fx_op 185 30 = some (.aload_n 0, 31, 30) := by decide +kernel
theorem c185_31 : fx_gf 185 31 = some (10, 1, 34) := by decide +kernel
theorem c185_34 : fx_ci 185 34 = some (8, 36) := by decide +kernel
theorem c185_36 : fx_op 185 36 = some (.iload_n 2, 37, 36) := by decide +kernel
theorem c185_37 : fx_op 185 37 = some (.imul, 38, 37) := by decide +kernel
theorem c185_38 : fx_op 185 38 = some (.iload_n 3, 39, 38) := by decide +kernel
theorem c185_39 : fx_op 185 39 = some (.iadd, 40, 39) := by decide +kernel
theorem c185_40 : fx_op 185 40 = some (.caload, 41, 40) := by decide +kernel
theorem c185_41 : fx_op 185 41 = some (.aload_n 1, 42, 41) := by decide +kernel
theorem c185_42 : fx_gf 185 42 = some (2, 0, 45) := by decide +kernel
theorem c185_45 : fx_op 185 45 = some (.aload_n 1, 46, 45) := by decide +kernel
theorem c185_46 : fx_gf 185 46 = some (2, 6, 49) := by decide +kernel
theorem c185_49 : fx_op 185 49 = some (.iload_n 3, 50, 49) := by decide +kernel
theorem c185_50 : fx_op 185 50 = some (.iadd, 51, 50) := by decide +kernel
theorem c185_51 : fx_op 185 51 = some (.caload, 52, 51) := by decide +kernel
theorem c185_52 : fx_op 185 52 = some (.if_icmp .ne 9, 55, 61) := by decide +kernel
theorem c185_55 : fx_op 185 55 = some (.iinc 3 1, 58, 55) := by decide +kernel
theorem c185_61 : fx_op 185 61 = some (.iload_n 3, 62, 61) := by decide +kernel
theorem c185_62 : fx_op 185 62 = some (.aload_n 1, 63, 62) := by decide +kernel
theorem c185_63 : fx_gf 185 63 = some (2, 7, 66) := by decide +kernel
theorem c185_66 : fx_op 185 66 = some (.if_icmp .ne 15, 69, 81) := by decide +kernel
theorem c185_81 : fx_op 185 81 = some (.iinc 2 1, 84, 81) := by decide +kernel
theorem c185_69 : fx_op 185 69 = some (.iload_n 3, 70, 69) := by decide +kernel
theorem c185_70 : fx_op 185 70 = some (.aload_n 0, 71, 70) := by decide +kernel
theorem c185_71 : fx_gf 185 71 = some (10, 2, 74) := by decide +kernel
theorem c185_74 : fx_op 185 74 = some (.iload_n 2, 75, 74) := by decide +kernel
theorem c185_76 : fx_op 185 76 = some (.if_icmp .ne 5, 79, 81) := by decide +kernel
theorem c185_79 : fx_op 185 79 = some (.iload_n 2, 80, 79) := by decide +kernel
theorem c185_84 : fx_op 185 84 = some (.goto (-82), 87, 2) := by decide +kernel
theorem c185_75 : fx_op 185 75 = some (.iaload, 76, 75) := by decide +kernel
theorem c185_80 : fx_op 185 80 = some (.ireturn, 81, 80) := by decide +kernel
theorem c185_58 : fx_op 185 58 = some (.goto (-46), 61, 12) := by decide +kernel
theorem s185_0 {kc : List va_E} {d : Nat} {s : Nat} {M : fx_M} {Q : Option fx_V → fx_M → Prop} (Hs : fx_scn s) (H : wp kc (d + 1) 185 2 [some (jR 62), some (jR s), some (jI 0), none] [] M Q) : wp kc (d + 1) 185 0 [some (jR 62), some (jR s), none, none] [] M Q :=
  (x_ci c185_0 (x_istn (l' := [some (jR 62), some (jR s), some (jI 0), none]) c185_1 rfl (wp_wk (l' := [some (jR 62), some (jR s), some (jI 0), none]) ⟨rfl, ⟨rfl, ⟨rfl, trivial⟩⟩⟩ H)))
theorem s185_2 {kc : List va_E} {d : Nat} {s : Nat} {v2 : Int} {M : fx_M} {Q : Option fx_V → fx_M → Prop} (Hs : fx_scn s) (H : ((fx_in32 v2) ∧ (fx_in32 (M 62 0))) ∧ (M 62 0 ≤ v2 → Q (some (jI (-1))) M) ∧ (v2 < M 62 0 → wp kc (d + 1) 185 12 [some (jR 62), some (jR s), some (jI v2), some (jI 0)] [] M Q)) : wp kc (d + 1) 185 2 [some (jR 62), some (jR s), some (jI v2), none] [] M Q :=
  (x_ildn c185_2 rfl (x_aldn c185_3 rfl (x_gfi c185_4 k_62_0 (x_cge c185_7 H.1.1 H.1.2 (fun h1 => (x_ci c185_87 (x_irt c185_88 r185 (H.2.1 h1)))) (fun h2 => (x_ci c185_10 (x_istn (l' := [some (jR 62), some (jR s), some (jI v2), some (jI 0)]) c185_11 rfl (wp_wk (l' := [some (jR 62), some (jR s), some (jI v2), some (jI 0)]) ⟨rfl, ⟨rfl, ⟨rfl, ⟨rfl, trivial⟩⟩⟩⟩ (H.2.2 h2)))))))))
theorem s185_12 {kc : List va_E} {d : Nat} {s : Nat} {v2 v3 : Int} {h1n h6n h11n : Nat} {M : fx_M} {Q : Option fx_V → fx_M → Prop} (Hs : fx_scn s) (H : ((fx_in32 v3) ∧ (fx_in32 (M s 7))) ∧ (M s 7 ≤ v3 → ((fx_in32 v3) ∧ (fx_in32 (M s 7))) ∧ (v3 ≠ M s 7 → wp kc (d + 1) 185 2 [some (jR 62), some (jR s), some (jI (v2 + 1)), none] [] M Q) ∧ (v3 = M s 7 → (((0 : Int) ≤ v2 ∧ v2 < 6)) ∧ ((fx_in32 v3) ∧ (fx_in32 (M 64 v2))) ∧ (v3 ≠ M 64 v2 → wp kc (d + 1) 185 2 [some (jR 62), some (jR s), some (jI (v2 + 1)), none] [] M Q) ∧ (v3 = M 64 v2 → Q (some (jI v2)) M))) ∧ (v3 < M s 7 → (((0 : Int) ≤ v2 ∧ v2 < 6)) ∧ ((fx_in32 v3) ∧ (fx_in32 (M 64 v2))) ∧ (M 64 v2 ≤ v3 → ((fx_in32 v3) ∧ (fx_in32 (M s 7))) ∧ (v3 ≠ M s 7 → wp kc (d + 1) 185 2 [some (jR 62), some (jR s), some (jI (v2 + 1)), none] [] M Q) ∧ (v3 = M s 7 → (((0 : Int) ≤ v2 ∧ v2 < 6)) ∧ ((fx_in32 v3) ∧ (fx_in32 (M 64 v2))) ∧ (v3 ≠ M 64 v2 → wp kc (d + 1) 185 2 [some (jR 62), some (jR s), some (jI (v2 + 1)), none] [] M Q) ∧ (v3 = M 64 v2 → Q (some (jI v2)) M))) ∧ (v3 < M 64 v2 → (((0 : Int) ≤ (8 * v2) + v3 ∧ (8 * v2) + v3 < 48)) ∧ ((fx_a ((M s 0).toNat) = some (1, h11n) ∧ h11n ≤ 2147483647) ∧ ((0 : Int) ≤ (M s 6) + v3 ∧ (M s 6) + v3 < (h11n : Nat))) ∧ ((fx_in32 (M 63 ((8 * v2) + v3))) ∧ (fx_in32 (M ((M s 0).toNat) ((M s 6) + v3)))) ∧ (M 63 ((8 * v2) + v3) ≠ M ((M s 0).toNat) ((M s 6) + v3) → ((fx_in32 v3) ∧ (fx_in32 (M s 7))) ∧ (v3 ≠ M s 7 → wp kc (d + 1) 185 2 [some (jR 62), some (jR s), some (jI (v2 + 1)), none] [] M Q) ∧ (v3 = M s 7 → (((0 : Int) ≤ v2 ∧ v2 < 6)) ∧ ((fx_in32 v3) ∧ (fx_in32 (M 64 v2))) ∧ (v3 ≠ M 64 v2 → wp kc (d + 1) 185 2 [some (jR 62), some (jR s), some (jI (v2 + 1)), none] [] M Q) ∧ (v3 = M 64 v2 → Q (some (jI v2)) M))) ∧ (M 63 ((8 * v2) + v3) = M ((M s 0).toNat) ((M s 6) + v3) → wp kc (d + 1) 185 12 [some (jR 62), some (jR s), some (jI v2), some (jI (v3 + 1))] [] M Q)))) : wp kc (d + 1) 185 12 [some (jR 62), some (jR s), some (jI v2), some (jI v3)] [] M Q :=
  (x_ildn c185_12 rfl (x_aldn c185_13 rfl (x_gfi c185_14 (ks_7 Hs) (x_cge c185_17 H.1.1 H.1.2 (fun h20 => (x_ildn c185_61 rfl (x_aldn c185_62 rfl (x_gfi c185_63 (ks_7 Hs) (x_cne c185_66 (H.2.1 h20).1.1 (H.2.1 h20).1.2 (fun h4 => (x_inc (l' := [some (jR 62), some (jR s), some (jI (v2 + 1)), some (jI v3)]) c185_81 rfl rfl (x_goto c185_84 (wp_wk (l' := [some (jR 62), some (jR s), some (jI (v2 + 1)), none]) ⟨rfl, ⟨rfl, ⟨rfl, trivial⟩⟩⟩ ((H.2.1 h20).2.1 h4))))) (fun h5 => (x_ildn c185_69 rfl (x_aldn c185_70 rfl (x_gfr c185_71 k_62_2 (x_ildn c185_74 rfl (x_iald c185_75 a_64 ((H.2.1 h20).2.2 h5).1 (by decide) (x_cne c185_76 ((H.2.1 h20).2.2 h5).2.1.1 ((H.2.1 h20).2.2 h5).2.1.2 (fun h2 => (x_inc (l' := [some (jR 62), some (jR s), some (jI (v2 + 1)), some (jI v3)]) c185_81 rfl rfl (x_goto c185_84 (wp_wk (l' := [some (jR 62), some (jR s), some (jI (v2 + 1)), none]) ⟨rfl, ⟨rfl, ⟨rfl, trivial⟩⟩⟩ (((H.2.1 h20).2.2 h5).2.2.1 h2))))) (fun h3 => (x_ildn c185_79 rfl (x_irt c185_80 r185 (((H.2.1 h20).2.2 h5).2.2.2 h3)))))))))))))))) (fun h21 => (x_ildn c185_20 rfl (x_aldn c185_21 rfl (x_gfr c185_22 k_62_2 (x_ildn c185_25 rfl (x_iald c185_26 a_64 (H.2.2 h21).1 (by decide) (x_cge c185_27 (H.2.2 h21).2.1.1 (H.2.2 h21).2.1.2 (fun h18 => (x_ildn c185_61 rfl (x_aldn c185_62 rfl (x_gfi c185_63 (ks_7 Hs) (x_cne c185_66 ((H.2.2 h21).2.2.1 h18).1.1 ((H.2.2 h21).2.2.1 h18).1.2 (fun h9 => (x_inc (l' := [some (jR 62), some (jR s), some (jI (v2 + 1)), some (jI v3)]) c185_81 rfl rfl (x_goto c185_84 (wp_wk (l' := [some (jR 62), some (jR s), some (jI (v2 + 1)), none]) ⟨rfl, ⟨rfl, ⟨rfl, trivial⟩⟩⟩ (((H.2.2 h21).2.2.1 h18).2.1 h9))))) (fun h10 => (x_ildn c185_69 rfl (x_aldn c185_70 rfl (x_gfr c185_71 k_62_2 (x_ildn c185_74 rfl (x_iald c185_75 a_64 (((H.2.2 h21).2.2.1 h18).2.2 h10).1 (by decide) (x_cne c185_76 (((H.2.2 h21).2.2.1 h18).2.2 h10).2.1.1 (((H.2.2 h21).2.2.1 h18).2.2 h10).2.1.2 (fun h7 => (x_inc (l' := [some (jR 62), some (jR s), some (jI (v2 + 1)), some (jI v3)]) c185_81 rfl rfl (x_goto c185_84 (wp_wk (l' := [some (jR 62), some (jR s), some (jI (v2 + 1)), none]) ⟨rfl, ⟨rfl, ⟨rfl, trivial⟩⟩⟩ ((((H.2.2 h21).2.2.1 h18).2.2 h10).2.2.1 h7))))) (fun h8 => (x_ildn c185_79 rfl (x_irt c185_80 r185 ((((H.2.2 h21).2.2.1 h18).2.2 h10).2.2.2 h8)))))))))))))))) (fun h19 => (x_aldn c185_30 rfl (x_gfr c185_31 k_62_1 (x_ci c185_34 (x_ildn c185_36 rfl (x_imul c185_37 (x_ildn c185_38 rfl (x_iadd c185_39 (x_cald c185_40 a_63 ((H.2.2 h21).2.2.2 h19).1 (by decide) (x_aldn c185_41 rfl (x_gfd c185_42 (ks_0 Hs) (x_aldn c185_45 rfl (x_gfi c185_46 (ks_6 Hs) (x_ildn c185_49 rfl (x_iadd c185_50 (x_cald c185_51 ((H.2.2 h21).2.2.2 h19).2.1.1.1 ((H.2.2 h21).2.2.2 h19).2.1.2 ((H.2.2 h21).2.2.2 h19).2.1.1.2 (x_cne c185_52 ((H.2.2 h21).2.2.2 h19).2.2.1.1 ((H.2.2 h21).2.2.2 h19).2.2.1.2 (fun h16 => (x_ildn c185_61 rfl (x_aldn c185_62 rfl (x_gfi c185_63 (ks_7 Hs) (x_cne c185_66 (((H.2.2 h21).2.2.2 h19).2.2.2.1 h16).1.1 (((H.2.2 h21).2.2.2 h19).2.2.2.1 h16).1.2 (fun h14 => (x_inc (l' := [some (jR 62), some (jR s), some (jI (v2 + 1)), some (jI v3)]) c185_81 rfl rfl (x_goto c185_84 (wp_wk (l' := [some (jR 62), some (jR s), some (jI (v2 + 1)), none]) ⟨rfl, ⟨rfl, ⟨rfl, trivial⟩⟩⟩ ((((H.2.2 h21).2.2.2 h19).2.2.2.1 h16).2.1 h14))))) (fun h15 => (x_ildn c185_69 rfl (x_aldn c185_70 rfl (x_gfr c185_71 k_62_2 (x_ildn c185_74 rfl (x_iald c185_75 a_64 ((((H.2.2 h21).2.2.2 h19).2.2.2.1 h16).2.2 h15).1 (by decide) (x_cne c185_76 ((((H.2.2 h21).2.2.2 h19).2.2.2.1 h16).2.2 h15).2.1.1 ((((H.2.2 h21).2.2.2 h19).2.2.2.1 h16).2.2 h15).2.1.2 (fun h12 => (x_inc (l' := [some (jR 62), some (jR s), some (jI (v2 + 1)), some (jI v3)]) c185_81 rfl rfl (x_goto c185_84 (wp_wk (l' := [some (jR 62), some (jR s), some (jI (v2 + 1)), none]) ⟨rfl, ⟨rfl, ⟨rfl, trivial⟩⟩⟩ (((((H.2.2 h21).2.2.2 h19).2.2.2.1 h16).2.2 h15).2.2.1 h12))))) (fun h13 => (x_ildn c185_79 rfl (x_irt c185_80 r185 (((((H.2.2 h21).2.2.2 h19).2.2.2.1 h16).2.2 h15).2.2.2 h13)))))))))))))))) (fun h17 => (x_inc (l' := [some (jR 62), some (jR s), some (jI v2), some (jI (v3 + 1))]) c185_55 rfl rfl (x_goto c185_58 (wp_wk (l' := [some (jR 62), some (jR s), some (jI v2), some (jI (v3 + 1))]) ⟨rfl, ⟨rfl, ⟨rfl, ⟨rfl, trivial⟩⟩⟩⟩ (((H.2.2 h21).2.2.2 h19).2.2.2.2 h17)))))))))))))))))))))))))))))))))
theorem s185 {kc : List va_E} {d : Nat} {s : Nat} {M : fx_M} {Q : Option fx_V → fx_M → Prop} (Hs : fx_scn s) (H : wp kc (d + 1) 185 2 [some (jR 62), some (jR s), some (jI 0), none] [] M Q) : wc kc (d + 1) 185 [jR 62, jR s] M Q :=
  wc_of (wp_wk (l' := [some (jR 62), some (jR s), none, none]) ⟨rfl, ⟨rfl, trivial⟩⟩ (s185_0 Hs H))

/- PuzzleHouse$Contest.submit(LPuzzleHouse$Scan;II)Ljava/lang/String; -/
theorem c186_0 : fx_op 186 0 = some (.iload_n 2, 1, 0) := by decide +kernel
theorem c186_1 : fx_ci 186 1 = some (3, 2) := by decide +kernel
theorem c186_2 : fx_op 186 2 = some (.if_icmp .lt 6, 5, 8) := by decide +kernel
theorem c186_8 : fx_op 186 8 = some (.aload_n 0, 9, 8) := by decide +kernel
theorem c186_9 : fx_op 186 9 = some (.aload_n 1, 10, 9) := by decide +kernel
theorem c186_5 : fx_cr 186 5 = some (1000157, 7) := by decide +kernel
theorem c186_10 : fx_ca 186 10 = some (185, 2, 2, 13) := by decide +kernel
theorem c186_7 : fx_op 186 7 = some (.areturn, 8, 7) := by decide +kernel
theorem c186_13 : fx_op 186 13 = some (.istore 4, 15, 13) := by decide +kernel
theorem c186_15 : fx_op 186 15 = some (.iload 4, 17, 15) := by decide +kernel
theorem c186_17 : fx_op 186 17 = some (.ifCond .ge 6, 20, 23) := by decide +kernel
theorem c186_23 : fx_ci 186 23 = some (6, 25) := by decide +kernel
theorem c186_25 : fx_op 186 25 = some (.iload_n 2, 26, 25) := by decide +kernel
theorem c186_26 : fx_op 186 26 = some (.imul, 27, 26) := by decide +kernel
theorem c186_27 : fx_op 186 27 = some (.iload 4, 29, 27) := by decide +kernel
theorem c186_29 : fx_op 186 29 = some (.iadd, 30, 29) := by decide +kernel
theorem c186_30 : fx_op 186 30 = some (.istore 5, 32, 30) := by decide +kernel
theorem c186_32 : fx_op 186 32 = some (.aload_n 0, 33, 32) := by decide +kernel
theorem c186_33 : fx_gf 186 33 = some (10, 6, 36) := by decide +kernel
theorem c186_36 : fx_op 186 36 = some (.iload 5, 38, 36) := by decide +kernel
theorem c186_39 : fx_op 186 39 = some (.ifCond .lt 6, 42, 45) := by decide +kernel
theorem c186_45 : fx_op 186 45 = some (.aload_n 0, 46, 45) := by decide +kernel
theorem c186_46 : fx_gf 186 46 = some (10, 3, 49) := by decide +kernel
theorem c186_49 : fx_op 186 49 = some (.iload 4, 51, 49) := by decide +kernel
theorem c186_52 : fx_op 186 52 = some (.astore 6, 54, 52) := by decide +kernel
theorem c186_54 : fx_op 186 54 = some (.aload_n 1, 55, 54) := by decide +kernel
theorem c186_55 : fx_gf 186 55 = some (2, 9, 58) := by decide +kernel
theorem c186_58 : fx_op 186 58 = some (.aload 6, 60, 58) := by decide +kernel
theorem c186_60 : fx_gf 186 60 = some (3, 2, 63) := by decide +kernel
theorem c186_63 : fx_op 186 63 = some (.if_icmp .eq 6, 66, 69) := by decide +kernel
theorem c186_69 : fx_op 186 69 = some (.aload 6, 71, 69) := by decide +kernel
theorem c186_66 : fx_cr 186 66 = some (1000163, 68) := by decide +kernel
theorem c186_42 : fx_cr 186 42 = some (1000161, 44) := by decide +kernel
theorem c186_20 : fx_cr 186 20 = some (1000159, 22) := by decide +kernel
theorem c186_38 : fx_op 186 38 = some (.iaload, 39, 38) := by decide +kernel
theorem c186_51 : fx_op 186 51 = some (.aaload, 52, 51) := by decide +kernel
theorem c186_71 : fx_ca 186 71 = some (75, 1, 2, 74) := by decide +kernel
theorem c186_68 : fx_op 186 68 = some (.areturn, 69, 68) := by decide +kernel
theorem c186_44 : fx_op 186 44 = some (.areturn, 45, 44) := by decide +kernel
theorem c186_22 : fx_op 186 22 = some (.areturn, 23, 22) := by decide +kernel
theorem c186_74 : fx_op 186 74 = some (.aload 6, 76, 74) := by decide +kernel
theorem c186_76 : fx_ca 186 76 = some (82, 1, 2, 79) := by decide +kernel
theorem c186_79 : fx_op 186 79 = some (.lstore 7, 81, 79) := by decide +kernel
theorem c186_81 : fx_ci 186 81 = some (0, 82) := by decide +kernel
theorem c186_82 : fx_op 186 82 = some (.istore 9, 84, 82) := by decide +kernel
theorem c186_84 : fx_op 186 84 = some (.iload 9, 86, 84) := by decide +kernel
theorem c186_86 : fx_op 186 86 = some (.aload 6, 88, 86) := by decide +kernel
theorem c186_88 : fx_gf 186 88 = some (3, 2, 91) := by decide +kernel
theorem c186_91 : fx_op 186 91 = some (.if_icmp .ge 50, 94, 141) := by decide +kernel
theorem c186_141 : fx_op 186 141 = some (.aload 6, 143, 141) := by decide +kernel
theorem c186_143 : fx_op 186 143 = some (.lload 7, 145, 143) := by decide +kernel
theorem c186_94 : fx_op 186 94 = some (.aload_n 1, 95, 94) := by decide +kernel
theorem c186_95 : fx_gf 186 95 = some (2, 0, 98) := by decide +kernel
theorem c186_98 : fx_op 186 98 = some (.aload_n 1, 99, 98) := by decide +kernel
theorem c186_99 : fx_gf 186 99 = some (2, 8, 102) := by decide +kernel
theorem c186_102 : fx_op 186 102 = some (.iload 9, 104, 102) := by decide +kernel
theorem c186_104 : fx_op 186 104 = some (.iadd, 105, 104) := by decide +kernel
theorem c186_106 : fx_ci 186 106 = some (48, 108) := by decide +kernel
theorem c186_108 : fx_op 186 108 = some (.isub, 109, 108) := by decide +kernel
theorem c186_109 : fx_op 186 109 = some (.istore 10, 111, 109) := by decide +kernel
theorem c186_111 : fx_op 186 111 = some (.iload 10, 113, 111) := by decide +kernel
theorem c186_113 : fx_op 186 113 = some (.aload 6, 115, 113) := by decide +kernel
theorem c186_115 : fx_gf 186 115 = some (3, 3, 118) := by decide +kernel
theorem c186_118 : fx_op 186 118 = some (.if_icmp .lt 6, 121, 124) := by decide +kernel
theorem c186_124 : fx_op 186 124 = some (.lload 7, 126, 124) := by decide +kernel
theorem c186_126 : fx_op 186 126 = some (.iload 9, 128, 126) := by decide +kernel
theorem c186_128 : fx_op 186 128 = some (.iload 10, 130, 128) := by decide +kernel
theorem c186_121 : fx_cr 186 121 = some (1000163, 123) := by decide +kernel
theorem c186_145 : fx_ca 186 145 = some (131, 2, 2, 148) := by decide +kernel
theorem c186_105 : fx_op 186 105 = some (.caload, 106, 105) := by decide +kernel
theorem c186_130 : fx_ca 186 130 = some (83, 3, 1, 133) := by decide +kernel
theorem c186_123 : fx_op 186 123 = some (.areturn, 124, 123) := by decide +kernel
theorem c186_148 : fx_op 186 148 = some (.ifCond .ne 17, 151, 165) := by decide +kernel
theorem c186_165 : fx_op 186 165 = some (.aload_n 0, 166, 165) := by decide +kernel
theorem c186_166 : fx_gf 186 166 = some (10, 6, 169) := by decide +kernel
theorem c186_169 : fx_op 186 169 = some (.iload 5, 171, 169) := by decide +kernel
theorem c186_171 : fx_op 186 171 = some (.iload_n 3, 172, 171) := by decide +kernel
theorem c186_173 : fx_cr 186 173 = some (1000167, 175) := by decide +kernel
theorem c186_151 : fx_op 186 151 = some (.aload_n 0, 152, 151) := by decide +kernel
theorem c186_152 : fx_gf 186 152 = some (10, 5, 155) := by decide +kernel
theorem c186_155 : fx_op 186 155 = some (.iload 5, 157, 155) := by decide +kernel
theorem c186_157 : fx_op 186 157 = some (.dup2, 158, 157) := by decide +kernel
theorem c186_159 : fx_ci 186 159 = some (1, 160) := by decide +kernel
theorem c186_160 : fx_op 186 160 = some (.iadd, 161, 160) := by decide +kernel
theorem c186_162 : fx_cr 186 162 = some (1000165, 164) := by decide +kernel
theorem c186_172 : fx_op 186 172 = some (.iastore, 173, 172) := by decide +kernel
theorem c186_175 : fx_op 186 175 = some (.areturn, 176, 175) := by decide +kernel
theorem c186_158 : fx_op 186 158 = some (.iaload, 159, 158) := by decide +kernel
theorem c186_161 : fx_op 186 161 = some (.iastore, 162, 161) := by decide +kernel
theorem c186_164 : fx_op 186 164 = some (.areturn, 165, 164) := by decide +kernel
theorem c186_133 : fx_op 186 133 = some (.lstore 7, 135, 133) := by decide +kernel
theorem c186_135 : fx_op 186 135 = some (.iinc 9 1, 138, 135) := by decide +kernel
theorem c186_138 : fx_op 186 138 = some (.goto (-54), 141, 84) := by decide +kernel
theorem s186_0 {kc : List va_E} {d : Nat} {s : Nat} {x2 x3 : Int} {M : fx_M} {Q : Option fx_V → fx_M → Prop} (Hs : fx_scn s) (H : ((fx_in32 x2)) ∧ (x2 < 3 → wc kc d 185 [jR 62, jR s] M (fun v M1 => wp kc (d + 1) 186 13 [some (jR 62), some (jR s), some (jI x2), some (jI x3), none, none, none, none, none, none, none] (v.toList ++ []) M1 Q)) ∧ (3 ≤ x2 → Q (some (jR 1000157)) M)) : wp kc (d + 1) 186 0 [some (jR 62), some (jR s), some (jI x2), some (jI x3), none, none, none, none, none, none, none] [] M Q :=
  (x_ildn c186_0 rfl (x_ci c186_1 (x_clt c186_2 H.1 (by decide) (fun h1 => (x_aldn c186_8 rfl (x_aldn c186_9 rfl (wp_wk (l' := [some (jR 62), some (jR s), some (jI x2), some (jI x3), none, none, none, none, none, none, none]) ⟨rfl, ⟨rfl, ⟨rfl, ⟨rfl, trivial⟩⟩⟩⟩ (x_cv (As := [jR s]) (st := []) c186_10 cl_62 kl185 rfl (Nat.le_of_ble_eq_true rfl) mx185 (Nat.le_refl _) (H.2.1 h1)))))) (fun h2 => (x_cr c186_5 (x_art c186_7 r186 (H.2.2 h2)))))))
theorem s186_13 {kc : List va_E} {d : Nat} {s : Nat} {v2 v3 u0 : Int} {M : fx_M} {Q : Option fx_V → fx_M → Prop} (Hs : fx_scn s) (H : ((fx_in32 u0)) ∧ (0 ≤ u0 → (((0 : Int) ≤ (6 * v2) + u0 ∧ (6 * v2) + u0 < 18)) ∧ ((fx_in32 (M 68 ((6 * v2) + u0)))) ∧ (M 68 ((6 * v2) + u0) < 0 → ((0 : Int) ≤ u0 ∧ u0 < 6) ∧ ((fx_in32 (M s 9)) ∧ (fx_in32 (M (71 + 9 * (u0).toNat) 2))) ∧ (M s 9 = M (71 + 9 * (u0).toNat) 2 → wc kc d 75 [jR (71 + 9 * (u0).toNat)] M (fun v M1 => wp kc (d + 1) 186 74 [some (jR 62), some (jR s), none, some (jI v3), none, some (jI ((6 * v2) + u0)), some (jR (71 + 9 * (u0).toNat)), none, none, none, none] (v.toList ++ []) M1 Q)) ∧ (M s 9 ≠ M (71 + 9 * (u0).toNat) 2 → Q (some (jR 1000163)) M)) ∧ (0 ≤ M 68 ((6 * v2) + u0) → Q (some (jR 1000161)) M)) ∧ (u0 < 0 → Q (some (jR 1000159)) M)) : wp kc (d + 1) 186 13 [some (jR 62), some (jR s), some (jI v2), some (jI v3), none, none, none, none, none, none, none] [jI u0] M Q :=
  (x_ist (l' := [some (jR 62), some (jR s), some (jI v2), some (jI v3), some (jI u0), none, none, none, none, none, none]) c186_13 rfl (x_ild c186_15 rfl (x_zge c186_17 H.1 (fun h6 => (x_ci c186_23 (x_ildn c186_25 rfl (x_imul c186_26 (x_ild c186_27 rfl (x_iadd c186_29 (x_ist (l' := [some (jR 62), some (jR s), some (jI v2), some (jI v3), some (jI u0), some (jI ((6 * v2) + u0)), none, none, none, none, none]) c186_30 rfl (x_aldn c186_32 rfl (x_gfr c186_33 k_62_6 (x_ild c186_36 rfl (x_iald c186_38 a_68 (H.2.1 h6).1 (by decide) (x_zlt c186_39 (H.2.1 h6).2.1 (fun h4 => (x_aldn c186_45 rfl (x_gfr c186_46 k_62_3 (x_ild c186_49 rfl (x_aald rfl c186_51 ((H.2.1 h6).2.2.1 h4).1 (have h1 := fx_puz_it ((H.2.1 h6).2.2.1 h4).1; (x_ast (l' := [some (jR 62), some (jR s), some (jI v2), some (jI v3), some (jI u0), some (jI ((6 * v2) + u0)), some (jR (71 + 9 * (u0).toNat)), none, none, none, none]) c186_52 rfl (x_aldn c186_54 rfl (x_gfi c186_55 (ks_9 Hs) (x_ald c186_58 rfl (x_gfi c186_60 (kp_2 h1) (x_ceq c186_63 ((H.2.1 h6).2.2.1 h4).2.1.1 ((H.2.1 h6).2.2.1 h4).2.1.2 (fun h2 => (x_ald c186_69 rfl (wp_wk (l' := [some (jR 62), some (jR s), none, some (jI v3), none, some (jI ((6 * v2) + u0)), some (jR (71 + 9 * (u0).toNat)), none, none, none, none]) ⟨rfl, ⟨rfl, ⟨rfl, ⟨rfl, ⟨rfl, trivial⟩⟩⟩⟩⟩ (x_cv (As := []) (st := []) c186_71 (clp h1) kl75 rfl (Nat.le_of_ble_eq_true rfl) mx75 (Nat.le_refl _) (((H.2.1 h6).2.2.1 h4).2.2.1 h2))))) (fun h3 => (x_cr c186_66 (x_art c186_68 r186 (((H.2.1 h6).2.2.1 h4).2.2.2 h3)))))))))))))))) (fun h5 => (x_cr c186_42 (x_art c186_44 r186 ((H.2.1 h6).2.2.2 h5)))))))))))))))) (fun h7 => (x_cr c186_20 (x_art c186_22 r186 (H.2.2 h7)))))))
theorem s186_74 {kc : List va_E} {d : Nat} {s v6 : Nat} {v3 v5 : Int} {M : fx_M} {Q : Option fx_V → fx_M → Prop} (Hs : fx_scn s) (Hv6 : fx_puz v6) (H : wc kc d 82 [jR v6] M (fun v M1 => wp kc (d + 1) 186 79 [some (jR 62), some (jR s), none, some (jI v3), none, some (jI v5), some (jR v6), none, none, none, none] (v.toList ++ []) M1 Q)) : wp kc (d + 1) 186 74 [some (jR 62), some (jR s), none, some (jI v3), none, some (jI v5), some (jR v6), none, none, none, none] [] M Q :=
  (x_ald c186_74 rfl (wp_wk (l' := [some (jR 62), some (jR s), none, some (jI v3), none, some (jI v5), some (jR v6), none, none, none, none]) ⟨rfl, ⟨rfl, ⟨rfl, ⟨rfl, ⟨rfl, trivial⟩⟩⟩⟩⟩ (x_cv (As := []) (st := []) c186_76 (clp Hv6) kl82 rfl (Nat.le_of_ble_eq_true rfl) mx82 (Nat.le_refl _) H)))
theorem s186_79 {kc : List va_E} {d : Nat} {s v6 : Nat} {v3 v5 u0 : Int} {M : fx_M} {Q : Option fx_V → fx_M → Prop} (Hs : fx_scn s) (Hv6 : fx_puz v6) (H : wp kc (d + 1) 186 84 [some (jR 62), some (jR s), none, some (jI v3), none, some (jI v5), some (jR v6), some (jL u0), none, some (jI 0), none] [] M Q) : wp kc (d + 1) 186 79 [some (jR 62), some (jR s), none, some (jI v3), none, some (jI v5), some (jR v6), none, none, none, none] [jL u0] M Q :=
  (x_lst (l' := [some (jR 62), some (jR s), none, some (jI v3), none, some (jI v5), some (jR v6), some (jL u0), none, none, none]) c186_79 rfl (x_ci c186_81 (x_ist (l' := [some (jR 62), some (jR s), none, some (jI v3), none, some (jI v5), some (jR v6), some (jL u0), none, some (jI 0), none]) c186_82 rfl (wp_wk (l' := [some (jR 62), some (jR s), none, some (jI v3), none, some (jI v5), some (jR v6), some (jL u0), none, some (jI 0), none]) ⟨rfl, ⟨rfl, ⟨rfl, ⟨rfl, ⟨rfl, ⟨rfl, ⟨rfl, trivial⟩⟩⟩⟩⟩⟩⟩ H))))
theorem s186_84 {kc : List va_E} {d : Nat} {s v6 : Nat} {v3 v5 v7 v9 : Int} {h1n : Nat} {M : fx_M} {Q : Option fx_V → fx_M → Prop} (Hs : fx_scn s) (Hv6 : fx_puz v6) (H : ((fx_in32 v9) ∧ (fx_in32 (M v6 2))) ∧ (M v6 2 ≤ v9 → wc kc d 131 [jR v6, jL v7] M (fun v M1 => wp kc (d + 1) 186 148 [some (jR 62), none, none, some (jI v3), none, some (jI v5), none, none, none, none, none] (v.toList ++ []) M1 Q)) ∧ (v9 < M v6 2 → ((fx_a ((M s 0).toNat) = some (1, h1n) ∧ h1n ≤ 2147483647) ∧ ((0 : Int) ≤ (M s 8) + v9 ∧ (M s 8) + v9 < (h1n : Nat))) ∧ ((fx_in32 ((M ((M s 0).toNat) ((M s 8) + v9)) - 48)) ∧ (fx_in32 (M v6 3))) ∧ ((M ((M s 0).toNat) ((M s 8) + v9)) - 48 < M v6 3 → wc kc d 83 [jL v7, jI v9, jI ((M ((M s 0).toNat) ((M s 8) + v9)) - 48)] M (fun v M1 => wp kc (d + 1) 186 133 [some (jR 62), some (jR s), none, some (jI v3), none, some (jI v5), some (jR v6), none, none, some (jI v9), none] (v.toList ++ []) M1 Q)) ∧ (M v6 3 ≤ (M ((M s 0).toNat) ((M s 8) + v9)) - 48 → Q (some (jR 1000163)) M))) : wp kc (d + 1) 186 84 [some (jR 62), some (jR s), none, some (jI v3), none, some (jI v5), some (jR v6), some (jL v7), none, some (jI v9), none] [] M Q :=
  (x_ild c186_84 rfl (x_ald c186_86 rfl (x_gfi c186_88 (kp_2 Hv6) (x_cge c186_91 H.1.1 H.1.2 (fun h4 => (x_ald c186_141 rfl (x_lld c186_143 rfl (wp_wk (l' := [some (jR 62), none, none, some (jI v3), none, some (jI v5), none, none, none, none, none]) ⟨rfl, ⟨rfl, ⟨rfl, trivial⟩⟩⟩ (x_cv (As := [jL v7]) (st := []) c186_145 (clp Hv6) kl131 rfl (Nat.le_of_ble_eq_true rfl) mx131 (Nat.le_refl _) (H.2.1 h4)))))) (fun h5 => (x_aldn c186_94 rfl (x_gfd c186_95 (ks_0 Hs) (x_aldn c186_98 rfl (x_gfi c186_99 (ks_8 Hs) (x_ild c186_102 rfl (x_iadd c186_104 (x_cald c186_105 (H.2.2 h5).1.1.1 (H.2.2 h5).1.2 (H.2.2 h5).1.1.2 (x_ci c186_106 (x_isub c186_108 (x_ist (l' := [some (jR 62), some (jR s), none, some (jI v3), none, some (jI v5), some (jR v6), some (jL v7), none, some (jI v9), some (jI ((M ((M s 0).toNat) ((M s 8) + v9)) - 48))]) c186_109 rfl (x_ild c186_111 rfl (x_ald c186_113 rfl (x_gfi c186_115 (kp_3 Hv6) (x_clt c186_118 (H.2.2 h5).2.1.1 (H.2.2 h5).2.1.2 (fun h2 => (x_lld c186_124 rfl (x_ild c186_126 rfl (x_ild c186_128 rfl (wp_wk (l' := [some (jR 62), some (jR s), none, some (jI v3), none, some (jI v5), some (jR v6), none, none, some (jI v9), none]) ⟨rfl, ⟨rfl, ⟨rfl, ⟨rfl, ⟨rfl, ⟨rfl, trivial⟩⟩⟩⟩⟩⟩ (x_cs (As := [jL v7, jI v9, jI ((M ((M s 0).toNat) ((M s 8) + v9)) - 48)]) (st := []) c186_130 (by decide) rfl (Nat.le_of_ble_eq_true rfl) mx83 (Nat.le_refl _) ((H.2.2 h5).2.2.1 h2))))))) (fun h3 => (x_cr c186_121 (x_art c186_123 r186 ((H.2.2 h5).2.2.2 h3)))))))))))))))))))))))
theorem s186_133 {kc : List va_E} {d : Nat} {s v6 : Nat} {v3 v5 v9 u0 : Int} {M : fx_M} {Q : Option fx_V → fx_M → Prop} (Hs : fx_scn s) (Hv6 : fx_puz v6) (H : wp kc (d + 1) 186 84 [some (jR 62), some (jR s), none, some (jI v3), none, some (jI v5), some (jR v6), some (jL u0), none, some (jI (v9 + 1)), none] [] M Q) : wp kc (d + 1) 186 133 [some (jR 62), some (jR s), none, some (jI v3), none, some (jI v5), some (jR v6), none, none, some (jI v9), none] [jL u0] M Q :=
  (x_lst (l' := [some (jR 62), some (jR s), none, some (jI v3), none, some (jI v5), some (jR v6), some (jL u0), none, some (jI v9), none]) c186_133 rfl (x_inc (l' := [some (jR 62), some (jR s), none, some (jI v3), none, some (jI v5), some (jR v6), some (jL u0), none, some (jI (v9 + 1)), none]) c186_135 rfl rfl (x_goto c186_138 (wp_wk (l' := [some (jR 62), some (jR s), none, some (jI v3), none, some (jI v5), some (jR v6), some (jL u0), none, some (jI (v9 + 1)), none]) ⟨rfl, ⟨rfl, ⟨rfl, ⟨rfl, ⟨rfl, ⟨rfl, ⟨rfl, trivial⟩⟩⟩⟩⟩⟩⟩ H))))
theorem s186_148 {kc : List va_E} {d : Nat} {s : Nat} {v3 v5 u0 : Int} {M : fx_M} {Q : Option fx_V → fx_M → Prop} (Hs : fx_scn s) (H : ((fx_in32 u0)) ∧ (u0 ≠ 0 → (((0 : Int) ≤ v5 ∧ v5 < 18)) ∧ Q (some (jR 1000167)) (fx_up M 68 v5 v3)) ∧ (u0 = 0 → (((0 : Int) ≤ v5 ∧ v5 < 18)) ∧ (((0 : Int) ≤ v5 ∧ v5 < 18)) ∧ Q (some (jR 1000165)) (fx_up M 67 v5 ((M 67 v5) + 1)))) : wp kc (d + 1) 186 148 [some (jR 62), none, none, some (jI v3), none, some (jI v5), none, none, none, none, none] [jI u0] M Q :=
  (x_zne c186_148 H.1 (fun h1 => (x_aldn c186_165 rfl (x_gfr c186_166 k_62_6 (x_ild c186_169 rfl (x_ildn c186_171 rfl (x_iast c186_172 a_68 (H.2.1 h1).1 (by decide) (x_cr c186_173 (x_art c186_175 r186 (H.2.1 h1).2)))))))) (fun h2 => (x_aldn c186_151 rfl (x_gfr c186_152 k_62_5 (x_ild c186_155 rfl (x_dup2 c186_157 (x_iald c186_158 a_67 (H.2.2 h2).1 (by decide) (x_ci c186_159 (x_iadd c186_160 (x_iast c186_161 a_67 (H.2.2 h2).2.1 (by decide) (x_cr c186_162 (x_art c186_164 r186 (H.2.2 h2).2.2))))))))))))
theorem s186 {kc : List va_E} {d : Nat} {s : Nat} {x2 x3 : Int} {M : fx_M} {Q : Option fx_V → fx_M → Prop} (Hs : fx_scn s) (H : ((fx_in32 x2)) ∧ (x2 < 3 → wc kc d 185 [jR 62, jR s] M (fun v M1 => wp kc (d + 1) 186 13 [some (jR 62), some (jR s), some (jI x2), some (jI x3), none, none, none, none, none, none, none] (v.toList ++ []) M1 Q)) ∧ (3 ≤ x2 → Q (some (jR 1000157)) M)) : wc kc (d + 1) 186 [jR 62, jR s, jI x2, jI x3] M Q :=
  wc_of (wp_wk (l' := [some (jR 62), some (jR s), some (jI x2), some (jI x3), none, none, none, none, none, none, none]) ⟨rfl, ⟨rfl, ⟨rfl, ⟨rfl, trivial⟩⟩⟩⟩ (s186_0 Hs H))

/- PuzzleHouse$Contest.writeTable(LPuzzleHouse$Out;)V -/
theorem c187_0 : fx_ci 187 0 = some (0, 1) := by decide +kernel
theorem c187_1 : fx_op 187 1 = some (.istore_n 2, 2, 1) := by decide +kernel
theorem c187_2 : fx_op 187 2 = some (.iload_n 2, 3, 2) := by decide +kernel
theorem c187_3 : fx_ci 187 3 = some (3, 4) := by decide +kernel
theorem c187_4 : fx_op 187 4 = some (.if_icmp .ge 14, 7, 18) := by decide +kernel
theorem c187_7 : fx_op 187 7 = some (.aload_n 0, 8, 7) := by decide +kernel
theorem c187_8 : fx_op 187 8 = some (.iload_n 2, 9, 8) := by decide +kernel
theorem c187_18 : fx_ci 187 18 = some (0, 19) := by decide +kernel
theorem c187_19 : fx_op 187 19 = some (.istore_n 2, 20, 19) := by decide +kernel
theorem c187_20 : fx_ci 187 20 = some (0, 21) := by decide +kernel
theorem c187_21 : fx_op 187 21 = some (.istore_n 3, 22, 21) := by decide +kernel
theorem c187_9 : fx_ca 187 9 = some (188, 2, 2, 12) := by decide +kernel
theorem c187_22 : fx_op 187 22 = some (.iload_n 3, 23, 22) := by decide +kernel
theorem c187_23 : fx_ci 187 23 = some (3, 24) := by decide +kernel
theorem c187_24 : fx_op 187 24 = some (.if_icmp .ge 117, 27, 141) := by decide +kernel
theorem c187_27 : fx_ci 187 27 = some ((-1), 28) := by decide +kernel
theorem c187_28 : fx_op 187 28 = some (.istore 4, 30, 28) := by decide +kernel
theorem c187_30 : fx_ci 187 30 = some (0, 31) := by decide +kernel
theorem c187_31 : fx_op 187 31 = some (.istore 5, 33, 31) := by decide +kernel
theorem c187_141 : fx_op 187 141 = some (.return_, 142, 141) := by decide +kernel
theorem c187_12 : fx_op 187 12 = some (.iinc 2 1, 15, 12) := by decide +kernel
theorem c187_15 : fx_op 187 15 = some (.goto (-13), 18, 2) := by decide +kernel
theorem c187_33 : fx_op 187 33 = some (.iload 5, 35, 33) := by decide +kernel
theorem c187_35 : fx_ci 187 35 = some (3, 36) := by decide +kernel
theorem c187_36 : fx_op 187 36 = some (.if_icmp .ge 38, 39, 74) := by decide +kernel
theorem c187_39 : fx_op 187 39 = some (.iload_n 2, 40, 39) := by decide +kernel
theorem c187_40 : fx_op 187 40 = some (.iload 5, 42, 40) := by decide +kernel
theorem c187_42 : fx_op 187 42 = some (.ishr, 43, 42) := by decide +kernel
theorem c187_43 : fx_ci 187 43 = some (1, 44) := by decide +kernel
theorem c187_44 : fx_op 187 44 = some (.iand, 45, 44) := by decide +kernel
theorem c187_45 : fx_op 187 45 = some (.ifCond .ne 23, 48, 68) := by decide +kernel
theorem c187_68 : fx_op 187 68 = some (.iinc 5 1, 71, 68) := by decide +kernel
theorem c187_74 : fx_op 187 74 = some (.iload 4, 76, 74) := by decide +kernel
theorem c187_76 : fx_ci 187 76 = some (0, 77) := by decide +kernel
theorem c187_80 : fx_op 187 80 = some (.istore 4, 82, 80) := by decide +kernel
theorem c187_82 : fx_op 187 82 = some (.iload_n 2, 83, 82) := by decide +kernel
theorem c187_83 : fx_ci 187 83 = some (1, 84) := by decide +kernel
theorem c187_84 : fx_op 187 84 = some (.iload 4, 86, 84) := by decide +kernel
theorem c187_86 : fx_op 187 86 = some (.ishl, 87, 86) := by decide +kernel
theorem c187_87 : fx_op 187 87 = some (.ior, 88, 87) := by decide +kernel
theorem c187_88 : fx_op 187 88 = some (.istore_n 2, 89, 88) := by decide +kernel
theorem c187_89 : fx_op 187 89 = some (.aload_n 1, 90, 89) := by decide +kernel
theorem c187_90 : fx_op 187 90 = some (.iload 4, 92, 90) := by decide +kernel
theorem c187_48 : fx_op 187 48 = some (.iload 4, 50, 48) := by decide +kernel
theorem c187_50 : fx_op 187 50 = some (.ifCond .lt 14, 53, 64) := by decide +kernel
theorem c187_64 : fx_op 187 64 = some (.iload 5, 66, 64) := by decide +kernel
theorem c187_66 : fx_op 187 66 = some (.istore 4, 68, 66) := by decide +kernel
theorem c187_53 : fx_op 187 53 = some (.aload_n 0, 54, 53) := by decide +kernel
theorem c187_54 : fx_op 187 54 = some (.iload 5, 56, 54) := by decide +kernel
theorem c187_56 : fx_op 187 56 = some (.iload 4, 58, 56) := by decide +kernel
theorem c187_77 : fx_nt 187 77 = some (1, 80) := by decide +kernel
theorem c187_92 : fx_ca 187 92 = some (65, 2, 2, 95) := by decide +kernel
theorem c187_71 : fx_op 187 71 = some (.goto (-38), 74, 33) := by decide +kernel
theorem c187_58 : fx_ca 187 58 = some (189, 3, 2, 61) := by decide +kernel
theorem c187_95 : fx_op 187 95 = some (.aload_n 1, 96, 95) := by decide +kernel
theorem c187_96 : fx_ci 187 96 = some (32, 98) := by decide +kernel
theorem c187_98 : fx_ca 187 98 = some (69, 2, 2, 101) := by decide +kernel
theorem c187_61 : fx_op 187 61 = some (.ifCond .eq 7, 64, 68) := by decide +kernel
theorem c187_101 : fx_op 187 101 = some (.aload_n 1, 102, 101) := by decide +kernel
theorem c187_102 : fx_op 187 102 = some (.aload_n 0, 103, 102) := by decide +kernel
theorem c187_103 : fx_gf 187 103 = some (10, 7, 106) := by decide +kernel
theorem c187_106 : fx_op 187 106 = some (.iload 4, 108, 106) := by decide +kernel
theorem c187_108 : fx_op 187 108 = some (.iaload, 109, 108) := by decide +kernel
theorem c187_109 : fx_ca 187 109 = some (65, 2, 2, 112) := by decide +kernel
theorem c187_112 : fx_op 187 112 = some (.aload_n 1, 113, 112) := by decide +kernel
theorem c187_113 : fx_ci 187 113 = some (32, 115) := by decide +kernel
theorem c187_115 : fx_ca 187 115 = some (69, 2, 2, 118) := by decide +kernel
theorem c187_118 : fx_op 187 118 = some (.aload_n 1, 119, 118) := by decide +kernel
theorem c187_119 : fx_op 187 119 = some (.aload_n 0, 120, 119) := by decide +kernel
theorem c187_120 : fx_gf 187 120 = some (10, 8, 123) := by decide +kernel
theorem c187_123 : fx_op 187 123 = some (.iload 4, 125, 123) := by decide +kernel
theorem c187_125 : fx_op 187 125 = some (.iaload, 126, 125) := by decide +kernel
theorem c187_126 : fx_ca 187 126 = some (65, 2, 2, 129) := by decide +kernel
theorem c187_129 : fx_op 187 129 = some (.aload_n 1, 130, 129) := by decide +kernel
theorem c187_130 : fx_ci 187 130 = some (59, 132) := by decide +kernel
theorem c187_132 : fx_ca 187 132 = some (69, 2, 2, 135) := by decide +kernel
theorem c187_135 : fx_op 187 135 = some (.iinc 3 1, 138, 135) := by decide +kernel
theorem c187_138 : fx_op 187 138 = some (.goto (-116), 141, 22) := by decide +kernel
theorem n187_77 : xS 187 ((xI 187 77).getD .nop) = none := by decide +kernel
theorem s187_0 {kc : List va_E} {d : Nat} {o : Nat} {M : fx_M} {Q : Option fx_V → fx_M → Prop} (Ho : fx_out o) (H : wp kc (d + 1) 187 2 [some (jR 62), some (jR o), some (jI 0), none, none, none] [] M Q) : wp kc (d + 1) 187 0 [some (jR 62), some (jR o), none, none, none, none] [] M Q :=
  (x_ci c187_0 (x_istn (l' := [some (jR 62), some (jR o), some (jI 0), none, none, none]) c187_1 rfl (wp_wk (l' := [some (jR 62), some (jR o), some (jI 0), none, none, none]) ⟨rfl, ⟨rfl, ⟨rfl, trivial⟩⟩⟩ H)))
theorem s187_2 {kc : List va_E} {d : Nat} {o : Nat} {v2 : Int} {M : fx_M} {Q : Option fx_V → fx_M → Prop} (Ho : fx_out o) (H : ((fx_in32 v2)) ∧ (3 ≤ v2 → wp kc (d + 1) 187 22 [some (jR 62), some (jR o), some (jI 0), some (jI 0), none, none] [] M Q) ∧ (v2 < 3 → wc kc d 188 [jR 62, jI v2] M (fun v M1 => wp kc (d + 1) 187 12 [some (jR 62), some (jR o), some (jI v2), none, none, none] (v.toList ++ []) M1 Q))) : wp kc (d + 1) 187 2 [some (jR 62), some (jR o), some (jI v2), none, none, none] [] M Q :=
  (x_ildn c187_2 rfl (x_ci c187_3 (x_cge c187_4 H.1 (by decide) (fun h1 => (x_ci c187_18 (x_istn (l' := [some (jR 62), some (jR o), some (jI 0), none, none, none]) c187_19 rfl (x_ci c187_20 (x_istn (l' := [some (jR 62), some (jR o), some (jI 0), some (jI 0), none, none]) c187_21 rfl (wp_wk (l' := [some (jR 62), some (jR o), some (jI 0), some (jI 0), none, none]) ⟨rfl, ⟨rfl, ⟨rfl, ⟨rfl, trivial⟩⟩⟩⟩ (H.2.1 h1))))))) (fun h2 => (x_aldn c187_7 rfl (x_ildn c187_8 rfl (wp_wk (l' := [some (jR 62), some (jR o), some (jI v2), none, none, none]) ⟨rfl, ⟨rfl, ⟨rfl, trivial⟩⟩⟩ (x_cv (As := [jI v2]) (st := []) c187_9 cl_62 kl188 rfl (Nat.le_of_ble_eq_true rfl) mx188 (Nat.le_refl _) (H.2.2 h2)))))))))
theorem s187_12 {kc : List va_E} {d : Nat} {o : Nat} {v2 : Int} {M : fx_M} {Q : Option fx_V → fx_M → Prop} (Ho : fx_out o) (H : wp kc (d + 1) 187 2 [some (jR 62), some (jR o), some (jI (v2 + 1)), none, none, none] [] M Q) : wp kc (d + 1) 187 12 [some (jR 62), some (jR o), some (jI v2), none, none, none] [] M Q :=
  (x_inc (l' := [some (jR 62), some (jR o), some (jI (v2 + 1)), none, none, none]) c187_12 rfl rfl (x_goto c187_15 (wp_wk (l' := [some (jR 62), some (jR o), some (jI (v2 + 1)), none, none, none]) ⟨rfl, ⟨rfl, ⟨rfl, trivial⟩⟩⟩ H)))
theorem s187_22 {kc : List va_E} {d : Nat} {o : Nat} {v2 v3 : Int} {M : fx_M} {Q : Option fx_V → fx_M → Prop} (Ho : fx_out o) (H : ((fx_in32 v3)) ∧ (3 ≤ v3 → Q none M) ∧ (v3 < 3 → wp kc (d + 1) 187 33 [some (jR 62), some (jR o), some (jI v2), some (jI v3), some (jI (-1)), some (jI 0)] [] M Q)) : wp kc (d + 1) 187 22 [some (jR 62), some (jR o), some (jI v2), some (jI v3), none, none] [] M Q :=
  (x_ildn c187_22 rfl (x_ci c187_23 (x_cge c187_24 H.1 (by decide) (fun h1 => (x_vr c187_141 r187 (H.2.1 h1))) (fun h2 => (x_ci c187_27 (x_ist (l' := [some (jR 62), some (jR o), some (jI v2), some (jI v3), some (jI (-1)), none]) c187_28 rfl (x_ci c187_30 (x_ist (l' := [some (jR 62), some (jR o), some (jI v2), some (jI v3), some (jI (-1)), some (jI 0)]) c187_31 rfl (wp_wk (l' := [some (jR 62), some (jR o), some (jI v2), some (jI v3), some (jI (-1)), some (jI 0)]) ⟨rfl, ⟨rfl, ⟨rfl, ⟨rfl, ⟨rfl, ⟨rfl, trivial⟩⟩⟩⟩⟩⟩ (H.2.2 h2))))))))))
theorem s187_33 {kc : List va_E} {d : Nat} {o : Nat} {v2 v3 v4 v5 : Int} {M : fx_M} {Q : Option fx_V → fx_M → Prop} (Ho : fx_out o) (H : ((fx_in32 v5)) ∧ (3 ≤ v5 → ((fx_in32 v4)) ∧ wc kc d 65 [jR o, jI (if v4 < 0 then (0 : Int) else v4)] M (fun v M1 => wp kc (d + 1) 187 95 [some (jR 62), some (jR o), some (jI (fx_or v2 (fx_shl 1 (if v4 < 0 then (0 : Int) else v4)))), some (jI v3), some (jI (if v4 < 0 then (0 : Int) else v4)), none] (v.toList ++ []) M1 Q)) ∧ (v5 < 3 → ((fx_in32 (fx_and (fx_shr v2 v5) 1))) ∧ (fx_and (fx_shr v2 v5) 1 ≠ 0 → wp kc (d + 1) 187 33 [some (jR 62), some (jR o), some (jI v2), some (jI v3), some (jI v4), some (jI (v5 + 1))] [] M Q) ∧ (fx_and (fx_shr v2 v5) 1 = 0 → ((fx_in32 v4)) ∧ (v4 < 0 → wp kc (d + 1) 187 33 [some (jR 62), some (jR o), some (jI v2), some (jI v3), some (jI v5), some (jI (v5 + 1))] [] M Q) ∧ (0 ≤ v4 → wc kc d 189 [jR 62, jI v5, jI v4] M (fun v M1 => wp kc (d + 1) 187 61 [some (jR 62), some (jR o), some (jI v2), some (jI v3), some (jI v4), some (jI v5)] (v.toList ++ []) M1 Q))))) : wp kc (d + 1) 187 33 [some (jR 62), some (jR o), some (jI v2), some (jI v3), some (jI v4), some (jI v5)] [] M Q :=
  (x_ild c187_33 rfl (x_ci c187_35 (x_cge c187_36 H.1 (by decide) (fun h5 => (x_ild c187_74 rfl (x_ci c187_76 (x_max c187_77 n187_77 (H.2.1 h5).1 (by decide) (Nat.le_of_ble_eq_true rfl) (x_ist (l' := [some (jR 62), some (jR o), some (jI v2), some (jI v3), some (jI (if v4 < 0 then (0 : Int) else v4)), some (jI v5)]) c187_80 rfl (x_ildn c187_82 rfl (x_ci c187_83 (x_ild c187_84 rfl (x_ishl c187_86 (x_ior c187_87 (x_istn (l' := [some (jR 62), some (jR o), some (jI (fx_or v2 (fx_shl 1 (if v4 < 0 then (0 : Int) else v4)))), some (jI v3), some (jI (if v4 < 0 then (0 : Int) else v4)), some (jI v5)]) c187_88 rfl (x_aldn c187_89 rfl (x_ild c187_90 rfl (wp_wk (l' := [some (jR 62), some (jR o), some (jI (fx_or v2 (fx_shl 1 (if v4 < 0 then (0 : Int) else v4)))), some (jI v3), some (jI (if v4 < 0 then (0 : Int) else v4)), none]) ⟨rfl, ⟨rfl, ⟨rfl, ⟨rfl, ⟨rfl, trivial⟩⟩⟩⟩⟩ (x_cv (As := [jI (if v4 < 0 then (0 : Int) else v4)]) (st := []) c187_92 (clo Ho) kl65 rfl (Nat.le_of_ble_eq_true rfl) mx65 (Nat.le_refl _) (H.2.1 h5).2))))))))))))))) (fun h6 => (x_ildn c187_39 rfl (x_ild c187_40 rfl (x_ishr c187_42 (x_ci c187_43 (x_iand c187_44 (x_zne c187_45 (H.2.2 h6).1 (fun h3 => (x_inc (l' := [some (jR 62), some (jR o), some (jI v2), some (jI v3), some (jI v4), some (jI (v5 + 1))]) c187_68 rfl rfl (x_goto c187_71 (wp_wk (l' := [some (jR 62), some (jR o), some (jI v2), some (jI v3), some (jI v4), some (jI (v5 + 1))]) ⟨rfl, ⟨rfl, ⟨rfl, ⟨rfl, ⟨rfl, ⟨rfl, trivial⟩⟩⟩⟩⟩⟩ ((H.2.2 h6).2.1 h3))))) (fun h4 => (x_ild c187_48 rfl (x_zlt c187_50 ((H.2.2 h6).2.2 h4).1 (fun h1 => (x_ild c187_64 rfl (x_ist (l' := [some (jR 62), some (jR o), some (jI v2), some (jI v3), some (jI v5), some (jI v5)]) c187_66 rfl (x_inc (l' := [some (jR 62), some (jR o), some (jI v2), some (jI v3), some (jI v5), some (jI (v5 + 1))]) c187_68 rfl rfl (x_goto c187_71 (wp_wk (l' := [some (jR 62), some (jR o), some (jI v2), some (jI v3), some (jI v5), some (jI (v5 + 1))]) ⟨rfl, ⟨rfl, ⟨rfl, ⟨rfl, ⟨rfl, ⟨rfl, trivial⟩⟩⟩⟩⟩⟩ (((H.2.2 h6).2.2 h4).2.1 h1))))))) (fun h2 => (x_aldn c187_53 rfl (x_ild c187_54 rfl (x_ild c187_56 rfl (wp_wk (l' := [some (jR 62), some (jR o), some (jI v2), some (jI v3), some (jI v4), some (jI v5)]) ⟨rfl, ⟨rfl, ⟨rfl, ⟨rfl, ⟨rfl, ⟨rfl, trivial⟩⟩⟩⟩⟩⟩ (x_cv (As := [jI v5, jI v4]) (st := []) c187_58 cl_62 kl189 rfl (Nat.le_of_ble_eq_true rfl) mx189 (Nat.le_refl _) (((H.2.2 h6).2.2 h4).2.2 h2))))))))))))))))))))
theorem s187_61 {kc : List va_E} {d : Nat} {o : Nat} {v2 v3 v4 v5 u0 : Int} {M : fx_M} {Q : Option fx_V → fx_M → Prop} (Ho : fx_out o) (H : ((fx_in32 u0)) ∧ wp kc (d + 1) 187 33 [some (jR 62), some (jR o), some (jI v2), some (jI v3), some (jI (if u0 = 0 then (v4 : Int) else v5)), some (jI (v5 + 1))] [] M Q) : wp kc (d + 1) 187 61 [some (jR 62), some (jR o), some (jI v2), some (jI v3), some (jI v4), some (jI v5)] [jI u0] M Q :=
  (have K : wp kc (d + 1) 187 68 [some (jR 62), some (jR o), some (jI v2), some (jI v3), some (jI (if u0 = 0 then (v4 : Int) else v5)), some (jI v5)] [] M Q := (x_inc (l' := [some (jR 62), some (jR o), some (jI v2), some (jI v3), some (jI (if u0 = 0 then (v4 : Int) else v5)), some (jI (v5 + 1))]) c187_68 rfl rfl (x_goto c187_71 (wp_wk (l' := [some (jR 62), some (jR o), some (jI v2), some (jI v3), some (jI (if u0 = 0 then (v4 : Int) else v5)), some (jI (v5 + 1))]) ⟨rfl, ⟨rfl, ⟨rfl, ⟨rfl, ⟨rfl, ⟨rfl, trivial⟩⟩⟩⟩⟩⟩ H.2))); (x_zeq c187_61 H.1 (fun (h1 : u0 = 0) => (wp_wk (l' := [some (jR 62), some (jR o), some (jI v2), some (jI v3), some (jI v4), some (jI v5)]) ⟨rfl, ⟨rfl, ⟨rfl, ⟨rfl, ⟨rfl, ⟨rfl, trivial⟩⟩⟩⟩⟩⟩ (by have K := K; first | (simp only [if_pos h1] at K ⊢; exact K) | (exfalso; omega)))) (fun (h2 : u0 ≠ 0) => (x_ild c187_64 rfl (x_ist (l' := [some (jR 62), some (jR o), some (jI v2), some (jI v3), some (jI v5), some (jI v5)]) c187_66 rfl (wp_wk (l' := [some (jR 62), some (jR o), some (jI v2), some (jI v3), some (jI v5), some (jI v5)]) ⟨rfl, ⟨rfl, ⟨rfl, ⟨rfl, ⟨rfl, ⟨rfl, trivial⟩⟩⟩⟩⟩⟩ (by have K := K; first | (simp only [if_neg h2] at K ⊢; exact K) | (exfalso; omega))))))))
theorem s187_95 {kc : List va_E} {d : Nat} {o : Nat} {v2 v3 v4 : Int} {M : fx_M} {Q : Option fx_V → fx_M → Prop} (Ho : fx_out o) (H : wc kc d 69 [jR o, jI 32] M (fun v M1 => wp kc (d + 1) 187 101 [some (jR 62), some (jR o), some (jI v2), some (jI v3), some (jI v4), none] (v.toList ++ []) M1 Q)) : wp kc (d + 1) 187 95 [some (jR 62), some (jR o), some (jI v2), some (jI v3), some (jI v4), none] [] M Q :=
  (x_aldn c187_95 rfl (x_ci c187_96 (wp_wk (l' := [some (jR 62), some (jR o), some (jI v2), some (jI v3), some (jI v4), none]) ⟨rfl, ⟨rfl, ⟨rfl, ⟨rfl, ⟨rfl, trivial⟩⟩⟩⟩⟩ (x_cv (As := [jI 32]) (st := []) c187_98 (clo Ho) kl69 rfl (Nat.le_of_ble_eq_true rfl) mx69 (Nat.le_refl _) H))))
theorem s187_101 {kc : List va_E} {d : Nat} {o : Nat} {v2 v3 v4 : Int} {M : fx_M} {Q : Option fx_V → fx_M → Prop} (Ho : fx_out o) (H : (((0 : Int) ≤ v4 ∧ v4 < 3)) ∧ wc kc d 65 [jR o, jI (M 69 v4)] M (fun v M1 => wp kc (d + 1) 187 112 [some (jR 62), some (jR o), some (jI v2), some (jI v3), some (jI v4), none] (v.toList ++ []) M1 Q)) : wp kc (d + 1) 187 101 [some (jR 62), some (jR o), some (jI v2), some (jI v3), some (jI v4), none] [] M Q :=
  (x_aldn c187_101 rfl (x_aldn c187_102 rfl (x_gfr c187_103 k_62_7 (x_ild c187_106 rfl (x_iald c187_108 a_69 H.1 (by decide) (wp_wk (l' := [some (jR 62), some (jR o), some (jI v2), some (jI v3), some (jI v4), none]) ⟨rfl, ⟨rfl, ⟨rfl, ⟨rfl, ⟨rfl, trivial⟩⟩⟩⟩⟩ (x_cv (As := [jI (M 69 v4)]) (st := []) c187_109 (clo Ho) kl65 rfl (Nat.le_of_ble_eq_true rfl) mx65 (Nat.le_refl _) H.2)))))))
theorem s187_112 {kc : List va_E} {d : Nat} {o : Nat} {v2 v3 v4 : Int} {M : fx_M} {Q : Option fx_V → fx_M → Prop} (Ho : fx_out o) (H : wc kc d 69 [jR o, jI 32] M (fun v M1 => wp kc (d + 1) 187 118 [some (jR 62), some (jR o), some (jI v2), some (jI v3), some (jI v4), none] (v.toList ++ []) M1 Q)) : wp kc (d + 1) 187 112 [some (jR 62), some (jR o), some (jI v2), some (jI v3), some (jI v4), none] [] M Q :=
  (x_aldn c187_112 rfl (x_ci c187_113 (wp_wk (l' := [some (jR 62), some (jR o), some (jI v2), some (jI v3), some (jI v4), none]) ⟨rfl, ⟨rfl, ⟨rfl, ⟨rfl, ⟨rfl, trivial⟩⟩⟩⟩⟩ (x_cv (As := [jI 32]) (st := []) c187_115 (clo Ho) kl69 rfl (Nat.le_of_ble_eq_true rfl) mx69 (Nat.le_refl _) H))))
theorem s187_118 {kc : List va_E} {d : Nat} {o : Nat} {v2 v3 v4 : Int} {M : fx_M} {Q : Option fx_V → fx_M → Prop} (Ho : fx_out o) (H : (((0 : Int) ≤ v4 ∧ v4 < 3)) ∧ wc kc d 65 [jR o, jI (M 70 v4)] M (fun v M1 => wp kc (d + 1) 187 129 [some (jR 62), some (jR o), some (jI v2), some (jI v3), none, none] (v.toList ++ []) M1 Q)) : wp kc (d + 1) 187 118 [some (jR 62), some (jR o), some (jI v2), some (jI v3), some (jI v4), none] [] M Q :=
  (x_aldn c187_118 rfl (x_aldn c187_119 rfl (x_gfr c187_120 k_62_8 (x_ild c187_123 rfl (x_iald c187_125 a_70 H.1 (by decide) (wp_wk (l' := [some (jR 62), some (jR o), some (jI v2), some (jI v3), none, none]) ⟨rfl, ⟨rfl, ⟨rfl, ⟨rfl, trivial⟩⟩⟩⟩ (x_cv (As := [jI (M 70 v4)]) (st := []) c187_126 (clo Ho) kl65 rfl (Nat.le_of_ble_eq_true rfl) mx65 (Nat.le_refl _) H.2)))))))
theorem s187_129 {kc : List va_E} {d : Nat} {o : Nat} {v2 v3 : Int} {M : fx_M} {Q : Option fx_V → fx_M → Prop} (Ho : fx_out o) (H : wc kc d 69 [jR o, jI 59] M (fun v M1 => wp kc (d + 1) 187 135 [some (jR 62), some (jR o), some (jI v2), some (jI v3), none, none] (v.toList ++ []) M1 Q)) : wp kc (d + 1) 187 129 [some (jR 62), some (jR o), some (jI v2), some (jI v3), none, none] [] M Q :=
  (x_aldn c187_129 rfl (x_ci c187_130 (wp_wk (l' := [some (jR 62), some (jR o), some (jI v2), some (jI v3), none, none]) ⟨rfl, ⟨rfl, ⟨rfl, ⟨rfl, trivial⟩⟩⟩⟩ (x_cv (As := [jI 59]) (st := []) c187_132 (clo Ho) kl69 rfl (Nat.le_of_ble_eq_true rfl) mx69 (Nat.le_refl _) H))))
theorem s187_135 {kc : List va_E} {d : Nat} {o : Nat} {v2 v3 : Int} {M : fx_M} {Q : Option fx_V → fx_M → Prop} (Ho : fx_out o) (H : wp kc (d + 1) 187 22 [some (jR 62), some (jR o), some (jI v2), some (jI (v3 + 1)), none, none] [] M Q) : wp kc (d + 1) 187 135 [some (jR 62), some (jR o), some (jI v2), some (jI v3), none, none] [] M Q :=
  (x_inc (l' := [some (jR 62), some (jR o), some (jI v2), some (jI (v3 + 1)), none, none]) c187_135 rfl rfl (x_goto c187_138 (wp_wk (l' := [some (jR 62), some (jR o), some (jI v2), some (jI (v3 + 1)), none, none]) ⟨rfl, ⟨rfl, ⟨rfl, ⟨rfl, trivial⟩⟩⟩⟩ H)))
theorem s187 {kc : List va_E} {d : Nat} {o : Nat} {M : fx_M} {Q : Option fx_V → fx_M → Prop} (Ho : fx_out o) (H : wp kc (d + 1) 187 2 [some (jR 62), some (jR o), some (jI 0), none, none, none] [] M Q) : wc kc (d + 1) 187 [jR 62, jR o] M Q :=
  wc_of (wp_wk (l' := [some (jR 62), some (jR o), none, none, none, none]) ⟨rfl, ⟨rfl, trivial⟩⟩ (s187_0 Ho H))

/- PuzzleHouse$Contest.addUp(I)V -/
theorem c188_0 : fx_op 188 0 = some (.aload_n 0, 1, 0) := by decide +kernel
theorem c188_1 : fx_gf 188 1 = some (10, 7, 4) := by decide +kernel
theorem c188_4 : fx_op 188 4 = some (.iload_n 1, 5, 4) := by decide +kernel
theorem c188_5 : fx_ci 188 5 = some (0, 6) := by decide +kernel
theorem c188_7 : fx_op 188 7 = some (.aload_n 0, 8, 7) := by decide +kernel
theorem c188_8 : fx_gf 188 8 = some (10, 8, 11) := by decide +kernel
theorem c188_11 : fx_op 188 11 = some (.iload_n 1, 12, 11) := by decide +kernel
theorem c188_12 : fx_ci 188 12 = some (0, 13) := by decide +kernel
theorem c188_14 : fx_ci 188 14 = some (0, 15) := by decide +kernel
theorem c188_15 : fx_op 188 15 = some (.istore_n 2, 16, 15) := by decide +kernel
theorem c188_6 : fx_op 188 6 = some (.iastore, 7, 6) := by decide +kernel
theorem c188_13 : fx_op 188 13 = some (.iastore, 14, 13) := by decide +kernel
theorem c188_16 : fx_op 188 16 = some (.iload_n 2, 17, 16) := by decide +kernel
theorem c188_17 : fx_op 188 17 = some (.aload_n 0, 18, 17) := by decide +kernel
theorem c188_18 : fx_gf 188 18 = some (10, 0, 21) := by decide +kernel
theorem c188_21 : fx_op 188 21 = some (.if_icmp .ge 76, 24, 97) := by decide +kernel
theorem c188_24 : fx_ci 188 24 = some (6, 26) := by decide +kernel
theorem c188_26 : fx_op 188 26 = some (.iload_n 1, 27, 26) := by decide +kernel
theorem c188_27 : fx_op 188 27 = some (.imul, 28, 27) := by decide +kernel
theorem c188_28 : fx_op 188 28 = some (.iload_n 2, 29, 28) := by decide +kernel
theorem c188_29 : fx_op 188 29 = some (.iadd, 30, 29) := by decide +kernel
theorem c188_30 : fx_op 188 30 = some (.istore_n 3, 31, 30) := by decide +kernel
theorem c188_31 : fx_op 188 31 = some (.aload_n 0, 32, 31) := by decide +kernel
theorem c188_32 : fx_gf 188 32 = some (10, 6, 35) := by decide +kernel
theorem c188_35 : fx_op 188 35 = some (.iload_n 3, 36, 35) := by decide +kernel
theorem c188_36 : fx_op 188 36 = some (.iaload, 37, 36) := by decide +kernel
theorem c188_37 : fx_op 188 37 = some (.ifCond .lt 54, 40, 91) := by decide +kernel
theorem c188_91 : fx_op 188 91 = some (.iinc 2 1, 94, 91) := by decide +kernel
theorem c188_40 : fx_op 188 40 = some (.aload_n 0, 41, 40) := by decide +kernel
theorem c188_41 : fx_gf 188 41 = some (10, 7, 44) := by decide +kernel
theorem c188_44 : fx_op 188 44 = some (.iload_n 1, 45, 44) := by decide +kernel
theorem c188_45 : fx_op 188 45 = some (.dup2, 46, 45) := by decide +kernel
theorem c188_46 : fx_op 188 46 = some (.iaload, 47, 46) := by decide +kernel
theorem c188_47 : fx_op 188 47 = some (.aload_n 0, 48, 47) := by decide +kernel
theorem c188_48 : fx_gf 188 48 = some (10, 4, 51) := by decide +kernel
theorem c188_51 : fx_op 188 51 = some (.iload_n 2, 52, 51) := by decide +kernel
theorem c188_52 : fx_op 188 52 = some (.iaload, 53, 52) := by decide +kernel
theorem c188_53 : fx_op 188 53 = some (.aload_n 0, 54, 53) := by decide +kernel
theorem c188_54 : fx_gf 188 54 = some (10, 5, 57) := by decide +kernel
theorem c188_57 : fx_op 188 57 = some (.iload_n 3, 58, 57) := by decide +kernel
theorem c188_58 : fx_op 188 58 = some (.iaload, 59, 58) := by decide +kernel
theorem c188_59 : fx_op 188 59 = some (.isub, 60, 59) := by decide +kernel
theorem c188_60 : fx_ci 188 60 = some (0, 61) := by decide +kernel
theorem c188_61 : fx_nt 188 61 = some (1, 64) := by decide +kernel
theorem c188_64 : fx_op 188 64 = some (.iadd, 65, 64) := by decide +kernel
theorem c188_66 : fx_op 188 66 = some (.aload_n 0, 67, 66) := by decide +kernel
theorem c188_67 : fx_gf 188 67 = some (10, 8, 70) := by decide +kernel
theorem c188_70 : fx_op 188 70 = some (.iload_n 1, 71, 70) := by decide +kernel
theorem c188_71 : fx_op 188 71 = some (.dup2, 72, 71) := by decide +kernel
theorem c188_73 : fx_op 188 73 = some (.aload_n 0, 74, 73) := by decide +kernel
theorem c188_74 : fx_gf 188 74 = some (10, 6, 77) := by decide +kernel
theorem c188_77 : fx_op 188 77 = some (.iload_n 3, 78, 77) := by decide +kernel
theorem c188_79 : fx_ci 188 79 = some (20, 81) := by decide +kernel
theorem c188_81 : fx_op 188 81 = some (.aload_n 0, 82, 81) := by decide +kernel
theorem c188_82 : fx_gf 188 82 = some (10, 5, 85) := by decide +kernel
theorem c188_85 : fx_op 188 85 = some (.iload_n 3, 86, 85) := by decide +kernel
theorem c188_87 : fx_op 188 87 = some (.imul, 88, 87) := by decide +kernel
theorem c188_88 : fx_op 188 88 = some (.iadd, 89, 88) := by decide +kernel
theorem c188_89 : fx_op 188 89 = some (.iadd, 90, 89) := by decide +kernel
theorem c188_97 : fx_op 188 97 = some (.return_, 98, 97) := by decide +kernel
theorem c188_94 : fx_op 188 94 = some (.goto (-78), 97, 16) := by decide +kernel
theorem c188_65 : fx_op 188 65 = some (.iastore, 66, 65) := by decide +kernel
theorem c188_72 : fx_op 188 72 = some (.iaload, 73, 72) := by decide +kernel
theorem c188_78 : fx_op 188 78 = some (.iaload, 79, 78) := by decide +kernel
theorem c188_86 : fx_op 188 86 = some (.iaload, 87, 86) := by decide +kernel
theorem c188_90 : fx_op 188 90 = some (.iastore, 91, 90) := by decide +kernel
theorem n188_61 : xS 188 ((xI 188 61).getD .nop) = none := by decide +kernel
theorem s188_0 {kc : List va_E} {d : Nat} {x1 : Int} {M : fx_M} {Q : Option fx_V → fx_M → Prop} (H : (((0 : Int) ≤ x1 ∧ x1 < 3)) ∧ (((0 : Int) ≤ x1 ∧ x1 < 3)) ∧ wp kc (d + 1) 188 16 [some (jR 62), some (jI x1), some (jI 0), none] [] (fx_up (fx_up M 69 x1 0) 70 x1 0) Q) : wp kc (d + 1) 188 0 [some (jR 62), some (jI x1), none, none] [] M Q :=
  (x_aldn c188_0 rfl (x_gfr c188_1 k_62_7 (x_ildn c188_4 rfl (x_ci c188_5 (x_iast c188_6 a_69 H.1 (by decide) (x_aldn c188_7 rfl (x_gfr c188_8 k_62_8 (x_ildn c188_11 rfl (x_ci c188_12 (x_iast c188_13 a_70 H.2.1 (by decide) (x_ci c188_14 (x_istn (l' := [some (jR 62), some (jI x1), some (jI 0), none]) c188_15 rfl (wp_wk (l' := [some (jR 62), some (jI x1), some (jI 0), none]) ⟨rfl, ⟨rfl, ⟨rfl, trivial⟩⟩⟩ H.2.2)))))))))))))
theorem s188_16 {kc : List va_E} {d : Nat} {v1 v2 : Int} {M : fx_M} {Q : Option fx_V → fx_M → Prop} (H : ((fx_in32 v2) ∧ (fx_in32 (M 62 0))) ∧ (M 62 0 ≤ v2 → Q none M) ∧ (v2 < M 62 0 → (((0 : Int) ≤ (6 * v1) + v2 ∧ (6 * v1) + v2 < 18)) ∧ ((fx_in32 (M 68 ((6 * v1) + v2)))) ∧ (M 68 ((6 * v1) + v2) < 0 → wp kc (d + 1) 188 16 [some (jR 62), some (jI v1), some (jI (v2 + 1)), none] [] M Q) ∧ (0 ≤ M 68 ((6 * v1) + v2) → (((0 : Int) ≤ v1 ∧ v1 < 3)) ∧ (((0 : Int) ≤ v2 ∧ v2 < 6)) ∧ (((0 : Int) ≤ (6 * v1) + v2 ∧ (6 * v1) + v2 < 18)) ∧ ((fx_in32 ((M 66 v2) - (M 67 ((6 * v1) + v2))))) ∧ (((0 : Int) ≤ v1 ∧ v1 < 3)) ∧ (((0 : Int) ≤ v1 ∧ v1 < 3)) ∧ (((0 : Int) ≤ (6 * v1) + v2 ∧ (6 * v1) + v2 < 18)) ∧ (((0 : Int) ≤ (6 * v1) + v2 ∧ (6 * v1) + v2 < 18)) ∧ (((0 : Int) ≤ v1 ∧ v1 < 3)) ∧ wp kc (d + 1) 188 16 [some (jR 62), some (jI v1), some (jI (v2 + 1)), none] [] (fx_up (fx_up M 69 v1 ((M 69 v1) + (if (M 66 v2) - (M 67 ((6 * v1) + v2)) < 0 then (0 : Int) else (M 66 v2) - (M 67 ((6 * v1) + v2))))) 70 v1 ((M 70 v1) + ((M 68 ((6 * v1) + v2)) + (20 * (M 67 ((6 * v1) + v2)))))) Q))) : wp kc (d + 1) 188 16 [some (jR 62), some (jI v1), some (jI v2), none] [] M Q :=
  (x_ildn c188_16 rfl (x_aldn c188_17 rfl (x_gfi c188_18 k_62_0 (x_cge c188_21 H.1.1 H.1.2 (fun h3 => (x_vr c188_97 r188 (H.2.1 h3))) (fun h4 => (x_ci c188_24 (x_ildn c188_26 rfl (x_imul c188_27 (x_ildn c188_28 rfl (x_iadd c188_29 (x_istn (l' := [some (jR 62), some (jI v1), some (jI v2), some (jI ((6 * v1) + v2))]) c188_30 rfl (x_aldn c188_31 rfl (x_gfr c188_32 k_62_6 (x_ildn c188_35 rfl (x_iald c188_36 a_68 (H.2.2 h4).1 (by decide) (x_zlt c188_37 (H.2.2 h4).2.1 (fun h1 => (x_inc (l' := [some (jR 62), some (jI v1), some (jI (v2 + 1)), some (jI ((6 * v1) + v2))]) c188_91 rfl rfl (x_goto c188_94 (wp_wk (l' := [some (jR 62), some (jI v1), some (jI (v2 + 1)), none]) ⟨rfl, ⟨rfl, ⟨rfl, trivial⟩⟩⟩ ((H.2.2 h4).2.2.1 h1))))) (fun h2 => (x_aldn c188_40 rfl (x_gfr c188_41 k_62_7 (x_ildn c188_44 rfl (x_dup2 c188_45 (x_iald c188_46 a_69 ((H.2.2 h4).2.2.2 h2).1 (by decide) (x_aldn c188_47 rfl (x_gfr c188_48 k_62_4 (x_ildn c188_51 rfl (x_iald c188_52 a_66 ((H.2.2 h4).2.2.2 h2).2.1 (by decide) (x_aldn c188_53 rfl (x_gfr c188_54 k_62_5 (x_ildn c188_57 rfl (x_iald c188_58 a_67 ((H.2.2 h4).2.2.2 h2).2.2.1 (by decide) (x_isub c188_59 (x_ci c188_60 (x_max c188_61 n188_61 ((H.2.2 h4).2.2.2 h2).2.2.2.1 (by decide) (Nat.le_of_ble_eq_true rfl) (x_iadd c188_64 (x_iast c188_65 a_69 ((H.2.2 h4).2.2.2 h2).2.2.2.2.1 (by decide) (x_aldn c188_66 rfl (x_gfr c188_67 k_62_8 (x_ildn c188_70 rfl (x_dup2 c188_71 (x_iald c188_72 a_70 ((H.2.2 h4).2.2.2 h2).2.2.2.2.2.1 (by decide) (wp_vI (fx_upA (by decide)) (x_aldn c188_73 rfl (x_gfr c188_74 k_62_6 (x_ildn c188_77 rfl (x_iald c188_78 a_68 ((H.2.2 h4).2.2.2 h2).2.2.2.2.2.2.1 (by decide) (wp_vI (fx_upA (by decide)) (x_ci c188_79 (x_aldn c188_81 rfl (x_gfr c188_82 k_62_5 (x_ildn c188_85 rfl (x_iald c188_86 a_67 ((H.2.2 h4).2.2.2 h2).2.2.2.2.2.2.2.1 (by decide) (wp_vI (fx_upA (by decide)) (x_imul c188_87 (x_iadd c188_88 (x_iadd c188_89 (x_iast c188_90 a_70 ((H.2.2 h4).2.2.2 h2).2.2.2.2.2.2.2.2.1 (by decide) (x_inc (l' := [some (jR 62), some (jI v1), some (jI (v2 + 1)), some (jI ((6 * v1) + v2))]) c188_91 rfl rfl (x_goto c188_94 (wp_wk (l' := [some (jR 62), some (jI v1), some (jI (v2 + 1)), none]) ⟨rfl, ⟨rfl, ⟨rfl, trivial⟩⟩⟩ ((H.2.2 h4).2.2.2 h2).2.2.2.2.2.2.2.2.2)))))))))))))))))))))))))))))))))))))))))))))))))))))))))))
theorem s188 {kc : List va_E} {d : Nat} {x1 : Int} {M : fx_M} {Q : Option fx_V → fx_M → Prop} (H : (((0 : Int) ≤ x1 ∧ x1 < 3)) ∧ (((0 : Int) ≤ x1 ∧ x1 < 3)) ∧ wp kc (d + 1) 188 16 [some (jR 62), some (jI x1), some (jI 0), none] [] (fx_up (fx_up M 69 x1 0) 70 x1 0) Q) : wc kc (d + 1) 188 [jR 62, jI x1] M Q :=
  wc_of (wp_wk (l' := [some (jR 62), some (jI x1), none, none]) ⟨rfl, ⟨rfl, trivial⟩⟩ (s188_0 H))

/- PuzzleHouse$Contest.isAhead(II)Z -/
theorem c189_0 : fx_op 189 0 = some (.aload_n 0, 1, 0) := by decide +kernel
theorem c189_1 : fx_gf 189 1 = some (10, 7, 4) := by decide +kernel
theorem c189_4 : fx_op 189 4 = some (.iload_n 1, 5, 4) := by decide +kernel
theorem c189_6 : fx_op 189 6 = some (.aload_n 0, 7, 6) := by decide +kernel
theorem c189_7 : fx_gf 189 7 = some (10, 7, 10) := by decide +kernel
theorem c189_10 : fx_op 189 10 = some (.iload_n 2, 11, 10) := by decide +kernel
theorem c189_12 : fx_op 189 12 = some (.if_icmp .gt 33, 15, 45) := by decide +kernel
theorem c189_45 : fx_ci 189 45 = some (1, 46) := by decide +kernel
theorem c189_46 : fx_op 189 46 = some (.goto 4, 49, 50) := by decide +kernel
theorem c189_15 : fx_op 189 15 = some (.aload_n 0, 16, 15) := by decide +kernel
theorem c189_16 : fx_gf 189 16 = some (10, 7, 19) := by decide +kernel
theorem c189_19 : fx_op 189 19 = some (.iload_n 1, 20, 19) := by decide +kernel
theorem c189_20 : fx_op 189 20 = some (.iaload, 21, 20) := by decide +kernel
theorem c189_21 : fx_op 189 21 = some (.aload_n 0, 22, 21) := by decide +kernel
theorem c189_22 : fx_gf 189 22 = some (10, 7, 25) := by decide +kernel
theorem c189_25 : fx_op 189 25 = some (.iload_n 2, 26, 25) := by decide +kernel
theorem c189_26 : fx_op 189 26 = some (.iaload, 27, 26) := by decide +kernel
theorem c189_27 : fx_op 189 27 = some (.if_icmp .ne 22, 30, 49) := by decide +kernel
theorem c189_49 : fx_ci 189 49 = some (0, 50) := by decide +kernel
theorem c189_30 : fx_op 189 30 = some (.aload_n 0, 31, 30) := by decide +kernel
theorem c189_31 : fx_gf 189 31 = some (10, 8, 34) := by decide +kernel
theorem c189_34 : fx_op 189 34 = some (.iload_n 1, 35, 34) := by decide +kernel
theorem c189_35 : fx_op 189 35 = some (.iaload, 36, 35) := by decide +kernel
theorem c189_36 : fx_op 189 36 = some (.aload_n 0, 37, 36) := by decide +kernel
theorem c189_37 : fx_gf 189 37 = some (10, 8, 40) := by decide +kernel
theorem c189_40 : fx_op 189 40 = some (.iload_n 2, 41, 40) := by decide +kernel
theorem c189_41 : fx_op 189 41 = some (.iaload, 42, 41) := by decide +kernel
theorem c189_42 : fx_op 189 42 = some (.if_icmp .ge 7, 45, 49) := by decide +kernel
theorem c189_5 : fx_op 189 5 = some (.iaload, 6, 5) := by decide +kernel
theorem c189_11 : fx_op 189 11 = some (.iaload, 12, 11) := by decide +kernel
theorem c189_50 : fx_op 189 50 = some (.ireturn, 51, 50) := by decide +kernel
theorem s189_0 {kc : List va_E} {d : Nat} {x1 x2 : Int} {M : fx_M} {Q : Option fx_V → fx_M → Prop} (H : (((0 : Int) ≤ x1 ∧ x1 < 3)) ∧ (((0 : Int) ≤ x2 ∧ x2 < 3)) ∧ ((fx_in32 (M 69 x1))) ∧ ((fx_in32 (M 69 x2))) ∧ (M 69 x1 ≤ M 69 x2 → ((((0 : Int) ≤ x1 ∧ x1 < 3)))) ∧ (M 69 x1 ≤ M 69 x2 → ((((0 : Int) ≤ x2 ∧ x2 < 3)))) ∧ (M 69 x1 ≤ M 69 x2 → (fx_in32 (M 69 x1))) ∧ (M 69 x1 ≤ M 69 x2 → (fx_in32 (M 69 x2))) ∧ (M 69 x1 ≤ M 69 x2 → M 69 x1 = M 69 x2 → ((((0 : Int) ≤ x1 ∧ x1 < 3)))) ∧ (M 69 x1 ≤ M 69 x2 → M 69 x1 = M 69 x2 → ((((0 : Int) ≤ x2 ∧ x2 < 3)))) ∧ (M 69 x1 ≤ M 69 x2 → M 69 x1 = M 69 x2 → (fx_in32 (M 70 x1))) ∧ (M 69 x1 ≤ M 69 x2 → M 69 x1 = M 69 x2 → (fx_in32 (M 70 x2))) ∧ ((0 : Int) ≤ (if M 69 x2 < M 69 x1 then (1 : Int) else (if M 69 x1 = M 69 x2 then ((if M 70 x1 < M 70 x2 then (1 : Int) else 0) : Int) else 0)) ∧ (if M 69 x2 < M 69 x1 then (1 : Int) else (if M 69 x1 = M 69 x2 then ((if M 70 x1 < M 70 x2 then (1 : Int) else 0) : Int) else 0)) ≤ 1) ∧ Q (some (jI (if M 69 x2 < M 69 x1 then (1 : Int) else (if M 69 x1 = M 69 x2 then ((if M 70 x1 < M 70 x2 then (1 : Int) else 0) : Int) else 0)))) M) : wp kc (d + 1) 189 0 [some (jR 62), some (jI x1), some (jI x2)] [] M Q :=
  (x_aldn c189_0 rfl (x_gfr c189_1 k_62_7 (x_ildn c189_4 rfl (x_iald c189_5 a_69 H.1 (by decide) (x_aldn c189_6 rfl (x_gfr c189_7 k_62_7 (x_ildn c189_10 rfl (x_iald c189_11 a_69 H.2.1 (by decide) (have K : wp kc (d + 1) 189 50 [none, none, none] [jI (if M 69 x2 < M 69 x1 then (1 : Int) else (if M 69 x1 = M 69 x2 then ((if M 70 x1 < M 70 x2 then (1 : Int) else 0) : Int) else 0))] M Q := (x_zrt c189_50 r189 H.2.2.2.2.2.2.2.2.2.2.2.2.1 H.2.2.2.2.2.2.2.2.2.2.2.2.2); (x_cgt c189_12 H.2.2.1 H.2.2.2.1 (fun (h1 : M 69 x2 < M 69 x1) => (x_ci c189_45 (x_goto c189_46 (wp_wk (l' := [none, none, none]) trivial (by have K := K; first | (simp only [if_pos h1] at K ⊢; exact K) | (exfalso; omega)))))) (fun (h2 : M 69 x1 ≤ M 69 x2) => (x_aldn c189_15 rfl (x_gfr c189_16 k_62_7 (x_ildn c189_19 rfl (x_iald c189_20 a_69 (H.2.2.2.2.1 h2) (by decide) (x_aldn c189_21 rfl (x_gfr c189_22 k_62_7 (x_ildn c189_25 rfl (x_iald c189_26 a_69 (H.2.2.2.2.2.1 h2) (by decide) (x_cne c189_27 (H.2.2.2.2.2.2.1 h2) (H.2.2.2.2.2.2.2.1 h2) (fun (h3 : M 69 x1 ≠ M 69 x2) => (x_ci c189_49 (wp_wk (l' := [none, none, none]) trivial (by have K := K; first | (simp only [if_neg (Int.not_lt.mpr h2), if_neg h3] at K ⊢; exact K) | (exfalso; omega))))) (fun (h4 : M 69 x1 = M 69 x2) => (x_aldn c189_30 rfl (x_gfr c189_31 k_62_8 (x_ildn c189_34 rfl (x_iald c189_35 a_70 (H.2.2.2.2.2.2.2.2.1 h2 h4) (by decide) (x_aldn c189_36 rfl (x_gfr c189_37 k_62_8 (x_ildn c189_40 rfl (x_iald c189_41 a_70 (H.2.2.2.2.2.2.2.2.2.1 h2 h4) (by decide) (x_cge c189_42 (H.2.2.2.2.2.2.2.2.2.2.1 h2 h4) (H.2.2.2.2.2.2.2.2.2.2.2.1 h2 h4) (fun (h5 : M 70 x2 ≤ M 70 x1) => (x_ci c189_49 (wp_wk (l' := [none, none, none]) trivial (by have K := K; first | (simp only [if_neg (Int.not_lt.mpr h2), if_pos h4, if_neg (Int.not_lt.mpr h5)] at K ⊢; exact K) | (exfalso; omega))))) (fun (h6 : M 70 x1 < M 70 x2) => (x_ci c189_45 (x_goto c189_46 (wp_wk (l' := [none, none, none]) trivial (by have K := K; first | (simp only [if_neg (Int.not_lt.mpr h2), if_pos h4, if_pos h6] at K ⊢; exact K) | (exfalso; omega))))))))))))))))))))))))))))))))))))
theorem s189 {kc : List va_E} {d : Nat} {x1 x2 : Int} {M : fx_M} {Q : Option fx_V → fx_M → Prop} (H : (((0 : Int) ≤ x1 ∧ x1 < 3)) ∧ (((0 : Int) ≤ x2 ∧ x2 < 3)) ∧ ((fx_in32 (M 69 x1))) ∧ ((fx_in32 (M 69 x2))) ∧ (M 69 x1 ≤ M 69 x2 → ((((0 : Int) ≤ x1 ∧ x1 < 3)))) ∧ (M 69 x1 ≤ M 69 x2 → ((((0 : Int) ≤ x2 ∧ x2 < 3)))) ∧ (M 69 x1 ≤ M 69 x2 → (fx_in32 (M 69 x1))) ∧ (M 69 x1 ≤ M 69 x2 → (fx_in32 (M 69 x2))) ∧ (M 69 x1 ≤ M 69 x2 → M 69 x1 = M 69 x2 → ((((0 : Int) ≤ x1 ∧ x1 < 3)))) ∧ (M 69 x1 ≤ M 69 x2 → M 69 x1 = M 69 x2 → ((((0 : Int) ≤ x2 ∧ x2 < 3)))) ∧ (M 69 x1 ≤ M 69 x2 → M 69 x1 = M 69 x2 → (fx_in32 (M 70 x1))) ∧ (M 69 x1 ≤ M 69 x2 → M 69 x1 = M 69 x2 → (fx_in32 (M 70 x2))) ∧ ((0 : Int) ≤ (if M 69 x2 < M 69 x1 then (1 : Int) else (if M 69 x1 = M 69 x2 then ((if M 70 x1 < M 70 x2 then (1 : Int) else 0) : Int) else 0)) ∧ (if M 69 x2 < M 69 x1 then (1 : Int) else (if M 69 x1 = M 69 x2 then ((if M 70 x1 < M 70 x2 then (1 : Int) else 0) : Int) else 0)) ≤ 1) ∧ Q (some (jI (if M 69 x2 < M 69 x1 then (1 : Int) else (if M 69 x1 = M 69 x2 then ((if M 70 x1 < M 70 x2 then (1 : Int) else 0) : Int) else 0)))) M) : wc kc (d + 1) 189 [jR 62, jI x1, jI x2] M Q :=
  wc_of (wp_wk (l' := [some (jR 62), some (jI x1), some (jI x2)]) ⟨rfl, ⟨rfl, ⟨rfl, trivial⟩⟩⟩ (s189_0 H))
