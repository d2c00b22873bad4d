/-! SEGMENTS of the model, 7 (by gen/emit_segs.py) -/
/- PuzzleHouseModel.sayImport()V -/
theorem c377_0 : fx_op 377 0 = some (.aload_n 0, 1, 0) := by decide +kernel
theorem c377_1 : fx_gf 377 1 = some (12, 30, 4) := by decide +kernel
theorem c377_4 : fx_op 377 4 = some (.aload_n 0, 5, 4) := by decide +kernel
theorem c377_5 : fx_gf 377 5 = some (12, 31, 8) := by decide +kernel
theorem c377_8 : fx_op 377 8 = some (.if_icmp .eq 13, 11, 21) := by decide +kernel
theorem c377_21 : fx_ci 377 21 = some (7, 23) := by decide +kernel
theorem c377_23 : fx_op 377 23 = some (.istore_n 1, 24, 23) := by decide +kernel
theorem c377_24 : fx_ci 377 24 = some (7, 26) := by decide +kernel
theorem c377_26 : fx_op 377 26 = some (.istore_n 2, 27, 26) := by decide +kernel
theorem c377_11 : fx_op 377 11 = some (.aload_n 0, 12, 11) := by decide +kernel
theorem c377_12 : fx_ci 377 12 = some (50, 14) := by decide +kernel
theorem c377_14 : fx_ca 377 14 = some (221, 1, 0, 17) := by decide +kernel
theorem c377_27 : fx_op 377 27 = some (.iload_n 2, 28, 27) := by decide +kernel
theorem c377_28 : fx_op 377 28 = some (.aload_n 0, 29, 28) := by decide +kernel
theorem c377_29 : fx_gf 377 29 = some (12, 33, 32) := by decide +kernel
theorem c377_32 : fx_op 377 32 = some (.if_icmp .ge 25, 35, 57) := by decide +kernel
theorem c377_35 : fx_ci 377 35 = some (31, 37) := by decide +kernel
theorem c377_37 : fx_op 377 37 = some (.iload_n 1, 38, 37) := by decide +kernel
theorem c377_38 : fx_op 377 38 = some (.imul, 39, 38) := by decide +kernel
theorem c377_39 : fx_op 377 39 = some (.aload_n 0, 40, 39) := by decide +kernel
theorem c377_40 : fx_gf 377 40 = some (12, 4, 43) := by decide +kernel
theorem c377_43 : fx_op 377 43 = some (.iload_n 2, 44, 43) := by decide +kernel
theorem c377_44 : fx_op 377 44 = some (.iaload, 45, 44) := by decide +kernel
theorem c377_45 : fx_op 377 45 = some (.iadd, 46, 45) := by decide +kernel
theorem c377_46 : fx_ci 377 46 = some (65521, 49) := by decide +kernel
theorem c377_49 : fx_op 377 49 = some (.irem, 50, 49) := by decide +kernel
theorem c377_50 : fx_op 377 50 = some (.istore_n 1, 51, 50) := by decide +kernel
theorem c377_51 : fx_op 377 51 = some (.iinc 2 1, 54, 51) := by decide +kernel
theorem c377_57 : fx_op 377 57 = some (.aload_n 0, 58, 57) := by decide +kernel
theorem c377_58 : fx_gf 377 58 = some (12, 32, 61) := by decide +kernel
theorem c377_61 : fx_op 377 61 = some (.iload_n 1, 62, 61) := by decide +kernel
theorem c377_62 : fx_op 377 62 = some (.if_icmp .eq 13, 65, 75) := by decide +kernel
theorem c377_75 : fx_op 377 75 = some (.aload_n 0, 76, 75) := by decide +kernel
theorem c377_65 : fx_op 377 65 = some (.aload_n 0, 66, 65) := by decide +kernel
theorem c377_66 : fx_ci 377 66 = some (11, 68) := by decide +kernel
theorem c377_76 : fx_ca 377 76 = some (378, 1, 2, 79) := by decide +kernel
theorem c377_68 : fx_ca 377 68 = some (221, 1, 0, 71) := by decide +kernel
theorem c377_54 : fx_op 377 54 = some (.goto (-27), 57, 27) := by decide +kernel
theorem c377_17 : fx_ca 377 17 = some (260, 2, 2, 20) := by decide +kernel
theorem c377_79 : fx_op 377 79 = some (.istore_n 2, 80, 79) := by decide +kernel
theorem c377_80 : fx_ci 377 80 = some (0, 81) := by decide +kernel
theorem c377_81 : fx_op 377 81 = some (.istore_n 3, 82, 81) := by decide +kernel
theorem c377_71 : fx_ca 377 71 = some (260, 2, 2, 74) := by decide +kernel
theorem c377_20 : fx_op 377 20 = some (.return_, 21, 20) := by decide +kernel
theorem c377_82 : fx_op 377 82 = some (.iload_n 3, 83, 82) := by decide +kernel
theorem c377_83 : fx_op 377 83 = some (.aload_n 0, 84, 83) := by decide +kernel
theorem c377_84 : fx_gf 377 84 = some (12, 31, 87) := by decide +kernel
theorem c377_87 : fx_op 377 87 = some (.if_icmp .ge 63, 90, 150) := by decide +kernel
theorem c377_90 : fx_op 377 90 = some (.iload_n 2, 91, 90) := by decide +kernel
theorem c377_91 : fx_op 377 91 = some (.ifCond .ne 59, 94, 150) := by decide +kernel
theorem c377_94 : fx_op 377 94 = some (.aload_n 0, 95, 94) := by decide +kernel
theorem c377_95 : fx_op 377 95 = some (.aload_n 0, 96, 95) := by decide +kernel
theorem c377_96 : fx_gf 377 96 = some (12, 36, 99) := by decide +kernel
theorem c377_99 : fx_op 377 99 = some (.iload_n 3, 100, 99) := by decide +kernel
theorem c377_100 : fx_op 377 100 = some (.iaload, 101, 100) := by decide +kernel
theorem c377_150 : fx_op 377 150 = some (.aload_n 0, 151, 150) := by decide +kernel
theorem c377_151 : fx_op 377 151 = some (.iload_n 2, 152, 151) := by decide +kernel
theorem c377_101 : fx_pf 377 101 = some (12, 7, 0, 104) := by decide +kernel
theorem c377_104 : fx_op 377 104 = some (.aload_n 0, 105, 104) := by decide +kernel
theorem c377_105 : fx_ci 377 105 = some (1, 106) := by decide +kernel
theorem c377_152 : fx_ca 377 152 = some (259, 2, 2, 155) := by decide +kernel
theorem c377_106 : fx_ca 377 106 = some (238, 2, 2, 109) := by decide +kernel
theorem c377_74 : fx_op 377 74 = some (.return_, 75, 74) := by decide +kernel
theorem c377_155 : fx_op 377 155 = some (.return_, 156, 155) := by decide +kernel
theorem c377_109 : fx_op 377 109 = some (.pop, 110, 109) := by decide +kernel
theorem c377_110 : fx_op 377 110 = some (.aload_n 0, 111, 110) := by decide +kernel
theorem c377_111 : fx_op 377 111 = some (.aload_n 0, 112, 111) := by decide +kernel
theorem c377_112 : fx_gf 377 112 = some (12, 34, 115) := by decide +kernel
theorem c377_115 : fx_op 377 115 = some (.iload_n 3, 116, 115) := by decide +kernel
theorem c377_117 : fx_pf 377 117 = some (12, 15, 0, 120) := by decide +kernel
theorem c377_120 : fx_op 377 120 = some (.aload_n 0, 121, 120) := by decide +kernel
theorem c377_121 : fx_op 377 121 = some (.aload_n 0, 122, 121) := by decide +kernel
theorem c377_122 : fx_gf 377 122 = some (12, 35, 125) := by decide +kernel
theorem c377_125 : fx_op 377 125 = some (.iload_n 3, 126, 125) := by decide +kernel
theorem c377_127 : fx_pf 377 127 = some (12, 16, 0, 130) := by decide +kernel
theorem c377_130 : fx_op 377 130 = some (.aload_n 0, 131, 130) := by decide +kernel
theorem c377_131 : fx_ci 377 131 = some (1, 132) := by decide +kernel
theorem c377_116 : fx_op 377 116 = some (.iaload, 117, 116) := by decide +kernel
theorem c377_126 : fx_op 377 126 = some (.iaload, 127, 126) := by decide +kernel
theorem c377_132 : fx_ca 377 132 = some (365, 2, 2, 135) := by decide +kernel
theorem c377_135 : fx_op 377 135 = some (.ifCond .eq 7, 138, 142) := by decide +kernel
theorem c377_142 : fx_ci 377 142 = some (4, 143) := by decide +kernel
theorem c377_138 : fx_ci 377 138 = some (0, 139) := by decide +kernel
theorem c377_139 : fx_op 377 139 = some (.goto 4, 142, 143) := by decide +kernel
theorem c377_143 : fx_op 377 143 = some (.istore_n 2, 144, 143) := by decide +kernel
theorem c377_144 : fx_op 377 144 = some (.iinc 3 1, 147, 144) := by decide +kernel
theorem c377_147 : fx_op 377 147 = some (.goto (-65), 150, 82) := by decide +kernel
theorem s377_0 {kc : List va_E} {d : Nat} {M : fx_M} {Q : Option fx_V → fx_M → Prop} (H : ((fx_in32 (M 133 30)) ∧ (fx_in32 (M 133 31))) ∧ (M 133 30 = M 133 31 → wp kc (d + 1) 377 27 [some (jR 133), some (jI 7), some (jI 7), none] [] M Q) ∧ (M 133 30 ≠ M 133 31 → wc kc d 221 [jI 50] M (fun v M1 => wp kc (d + 1) 377 17 [none, none, none, none] (v.toList ++ [jR 133]) M1 Q))) : wp kc (d + 1) 377 0 [some (jR 133), none, none, none] [] M Q :=
  (x_aldn c377_0 rfl (x_gfi c377_1 k_133_30 (x_aldn c377_4 rfl (x_gfi c377_5 k_133_31 (x_ceq c377_8 H.1.1 H.1.2 (fun h1 => (x_ci c377_21 (x_istn (l' := [some (jR 133), some (jI 7), none, none]) c377_23 rfl (x_ci c377_24 (x_istn (l' := [some (jR 133), some (jI 7), some (jI 7), none]) c377_26 rfl (wp_wk (l' := [some (jR 133), some (jI 7), some (jI 7), none]) ⟨rfl, ⟨rfl, ⟨rfl, trivial⟩⟩⟩ (H.2.1 h1))))))) (fun h2 => (x_aldn c377_11 rfl (x_ci c377_12 (wp_wk (l' := [none, none, none, none]) trivial (x_cs (As := [jI 50]) (st := [jR 133]) c377_14 (by decide) rfl (Nat.le_of_ble_eq_true rfl) mx221 (Nat.le_refl _) (H.2.2 h2)))))))))))
theorem s377_17 {kc : List va_E} {d : Nat} {u0 : Int} {M : fx_M} {Q : Option fx_V → fx_M → Prop} (H : wc kc d 260 [jR 133, jL u0] M (fun v M1 => wp kc (d + 1) 377 20 [none, none, none, none] (v.toList ++ []) M1 Q)) : wp kc (d + 1) 377 17 [none, none, none, none] [jL u0, jR 133] M Q :=
  (wp_wk (l' := [none, none, none, none]) trivial (x_cv (As := [jL u0]) (st := []) c377_17 cl_133 kl260 rfl (Nat.le_of_ble_eq_true rfl) mx260 (Nat.le_refl _) H))
theorem s377_20 {kc : List va_E} {d : Nat} {M : fx_M} {Q : Option fx_V → fx_M → Prop} (H : Q none M) : wp kc (d + 1) 377 20 [none, none, none, none] [] M Q :=
  (x_vr c377_20 r377 H)
theorem s377_27 {kc : List va_E} {d : Nat} {v1 v2 : Int} {M : fx_M} {Q : Option fx_V → fx_M → Prop} (H : ((fx_in32 v2) ∧ (fx_in32 (M 133 33))) ∧ (M 133 33 ≤ v2 → ((fx_in32 (M 133 32)) ∧ (fx_in32 v1)) ∧ (M 133 32 = v1 → wc kc d 378 [jR 133] M (fun v M1 => wp kc (d + 1) 377 79 [some (jR 133), none, none, none] (v.toList ++ []) M1 Q)) ∧ (M 133 32 ≠ v1 → wc kc d 221 [jI 11] M (fun v M1 => wp kc (d + 1) 377 71 [none, none, none, none] (v.toList ++ [jR 133]) M1 Q))) ∧ (v2 < M 133 33 → (((0 : Int) ≤ v2 ∧ v2 < 6100)) ∧ (((0 : Int) ≤ (31 * v1) + (M 135 v2) ∧ (31 * v1) + (M 135 v2) ≤ 2147483647)) ∧ wp kc (d + 1) 377 27 [some (jR 133), some (jI (((31 * v1) + (M 135 v2)) % 65521)), some (jI (v2 + 1)), none] [] M Q)) : wp kc (d + 1) 377 27 [some (jR 133), some (jI v1), some (jI v2), none] [] M Q :=
  (x_ildn c377_27 rfl (x_aldn c377_28 rfl (x_gfi c377_29 k_133_33 (x_cge c377_32 H.1.1 H.1.2 (fun h3 => (x_aldn c377_57 rfl (x_gfi c377_58 k_133_32 (x_ildn c377_61 rfl (x_ceq c377_62 (H.2.1 h3).1.1 (H.2.1 h3).1.2 (fun h1 => (x_aldn c377_75 rfl (wp_wk (l' := [some (jR 133), none, none, none]) ⟨rfl, trivial⟩ (x_cv (As := []) (st := []) c377_76 cl_133 kl378 rfl (Nat.le_of_ble_eq_true rfl) mx378 (Nat.le_refl _) ((H.2.1 h3).2.1 h1))))) (fun h2 => (x_aldn c377_65 rfl (x_ci c377_66 (wp_wk (l' := [none, none, none, none]) trivial (x_cs (As := [jI 11]) (st := [jR 133]) c377_68 (by decide) rfl (Nat.le_of_ble_eq_true rfl) mx221 (Nat.le_refl _) ((H.2.1 h3).2.2 h2))))))))))) (fun h4 => (x_ci c377_35 (x_ildn c377_37 rfl (x_imul c377_38 (x_aldn c377_39 rfl (x_gfr c377_40 k_133_4 (x_ildn c377_43 rfl (x_iald c377_44 a_135 (H.2.2 h4).1 (by decide) (x_iadd c377_45 (x_ci c377_46 (x_irem c377_49 (H.2.2 h4).2.1 (by decide) (x_istn (l' := [some (jR 133), some (jI (((31 * v1) + (M 135 v2)) % 65521)), some (jI v2), none]) c377_50 rfl (x_inc (l' := [some (jR 133), some (jI (((31 * v1) + (M 135 v2)) % 65521)), some (jI (v2 + 1)), none]) c377_51 rfl rfl (x_goto c377_54 (wp_wk (l' := [some (jR 133), some (jI (((31 * v1) + (M 135 v2)) % 65521)), some (jI (v2 + 1)), none]) ⟨rfl, ⟨rfl, ⟨rfl, trivial⟩⟩⟩ (H.2.2 h4).2.2)))))))))))))))))))
theorem s377_71 {kc : List va_E} {d : Nat} {u0 : Int} {M : fx_M} {Q : Option fx_V → fx_M → Prop} (H : wc kc d 260 [jR 133, jL u0] M (fun v M1 => wp kc (d + 1) 377 74 [none, none, none, none] (v.toList ++ []) M1 Q)) : wp kc (d + 1) 377 71 [none, none, none, none] [jL u0, jR 133] M Q :=
  (wp_wk (l' := [none, none, none, none]) trivial (x_cv (As := [jL u0]) (st := []) c377_71 cl_133 kl260 rfl (Nat.le_of_ble_eq_true rfl) mx260 (Nat.le_refl _) H))
theorem s377_74 {kc : List va_E} {d : Nat} {M : fx_M} {Q : Option fx_V → fx_M → Prop} (H : Q none M) : wp kc (d + 1) 377 74 [none, none, none, none] [] M Q :=
  (x_vr c377_74 r377 H)
theorem s377_79 {kc : List va_E} {d : Nat} {u0 : Int} {M : fx_M} {Q : Option fx_V → fx_M → Prop} (H : wp kc (d + 1) 377 82 [some (jR 133), none, some (jI u0), some (jI 0)] [] M Q) : wp kc (d + 1) 377 79 [some (jR 133), none, none, none] [jI u0] M Q :=
  (x_istn (l' := [some (jR 133), none, some (jI u0), none]) c377_79 rfl (x_ci c377_80 (x_istn (l' := [some (jR 133), none, some (jI u0), some (jI 0)]) c377_81 rfl (wp_wk (l' := [some (jR 133), none, some (jI u0), some (jI 0)]) ⟨rfl, ⟨rfl, ⟨rfl, trivial⟩⟩⟩ H))))
theorem s377_82 {kc : List va_E} {d : Nat} {v2 v3 : Int} {M : fx_M} {Q : Option fx_V → fx_M → Prop} (H : ((fx_in32 v3) ∧ (fx_in32 (M 133 31))) ∧ (M 133 31 ≤ v3 → wc kc d 259 [jR 133, jI v2] M (fun v M1 => wp kc (d + 1) 377 155 [none, none, none, none] (v.toList ++ []) M1 Q)) ∧ (v3 < M 133 31 → ((fx_in32 v2)) ∧ (v2 ≠ 0 → wc kc d 259 [jR 133, jI v2] M (fun v M1 => wp kc (d + 1) 377 155 [none, none, none, none] (v.toList ++ []) M1 Q)) ∧ (v2 = 0 → (((0 : Int) ≤ v3 ∧ v3 < 300)) ∧ wc kc d 238 [jR 133, jI 1] (fx_up M 133 7 (M 145 v3)) (fun v M1 => wp kc (d + 1) 377 109 [some (jR 133), none, none, some (jI v3)] (v.toList ++ []) M1 Q)))) : wp kc (d + 1) 377 82 [some (jR 133), none, some (jI v2), some (jI v3)] [] M Q :=
  (x_ildn c377_82 rfl (x_aldn c377_83 rfl (x_gfi c377_84 k_133_31 (x_cge c377_87 H.1.1 H.1.2 (fun h3 => (x_aldn c377_150 rfl (x_ildn c377_151 rfl (wp_wk (l' := [none, none, none, none]) trivial (x_cv (As := [jI v2]) (st := []) c377_152 cl_133 kl259 rfl (Nat.le_of_ble_eq_true rfl) mx259 (Nat.le_refl _) (H.2.1 h3)))))) (fun h4 => (x_ildn c377_90 rfl (x_zne c377_91 (H.2.2 h4).1 (fun h1 => (x_aldn c377_150 rfl (x_ildn c377_151 rfl (wp_wk (l' := [none, none, none, none]) trivial (x_cv (As := [jI v2]) (st := []) c377_152 cl_133 kl259 rfl (Nat.le_of_ble_eq_true rfl) mx259 (Nat.le_refl _) ((H.2.2 h4).2.1 h1)))))) (fun h2 => (x_aldn c377_94 rfl (x_aldn c377_95 rfl (x_gfr c377_96 k_133_36 (x_ildn c377_99 rfl (x_iald c377_100 a_145 ((H.2.2 h4).2.2 h2).1 (by decide) (x_pfi c377_101 k_133_7 (x_aldn c377_104 rfl (x_ci c377_105 (wp_wk (l' := [some (jR 133), none, none, some (jI v3)]) ⟨rfl, ⟨rfl, trivial⟩⟩ (x_cv (As := [jI 1]) (st := []) c377_106 cl_133 kl238 rfl (Nat.le_of_ble_eq_true rfl) mx238 (Nat.le_refl _) ((H.2.2 h4).2.2 h2).2))))))))))))))))))
theorem s377_109 {kc : List va_E} {d : Nat} {v3 u0 : Int} {M : fx_M} {Q : Option fx_V → fx_M → Prop} (H : (((0 : Int) ≤ v3 ∧ v3 < 300)) ∧ (((0 : Int) ≤ v3 ∧ v3 < 300)) ∧ wc kc d 365 [jR 133, jI 1] (fx_up (fx_up M 133 15 (M 143 v3)) 133 16 (M 144 v3)) (fun v M1 => wp kc (d + 1) 377 135 [some (jR 133), none, none, some (jI v3)] (v.toList ++ []) M1 Q)) : wp kc (d + 1) 377 109 [some (jR 133), none, none, some (jI v3)] [jI u0] M Q :=
  (x_popi c377_109 (x_aldn c377_110 rfl (x_aldn c377_111 rfl (x_gfr c377_112 k_133_34 (x_ildn c377_115 rfl (x_iald c377_116 a_143 H.1 (by decide) (x_pfi c377_117 k_133_15 (x_aldn c377_120 rfl (x_aldn c377_121 rfl (x_gfr c377_122 k_133_35 (x_ildn c377_125 rfl (x_iald c377_126 a_144 H.2.1 (by decide) (wp_vI (fx_upA (by decide)) (x_pfi c377_127 k_133_16 (x_aldn c377_130 rfl (x_ci c377_131 (wp_wk (l' := [some (jR 133), none, none, some (jI v3)]) ⟨rfl, ⟨rfl, trivial⟩⟩ (x_cv (As := [jI 1]) (st := []) c377_132 cl_133 kl365 rfl (Nat.le_of_ble_eq_true rfl) mx365 (Nat.le_refl _) H.2.2))))))))))))))))))
theorem s377_135 {kc : List va_E} {d : Nat} {v3 u0 : Int} {M : fx_M} {Q : Option fx_V → fx_M → Prop} (H : ((fx_in32 u0)) ∧ wp kc (d + 1) 377 82 [some (jR 133), none, some (jI (if u0 = 0 then (4 : Int) else 0)), some (jI (v3 + 1))] [] M Q) : wp kc (d + 1) 377 135 [some (jR 133), none, none, some (jI v3)] [jI u0] M Q :=
  (have K : wp kc (d + 1) 377 143 [some (jR 133), none, none, some (jI v3)] [jI (if u0 = 0 then (4 : Int) else 0)] M Q := (x_istn (l' := [some (jR 133), none, some (jI (if u0 = 0 then (4 : Int) else 0)), some (jI v3)]) c377_143 rfl (x_inc (l' := [some (jR 133), none, some (jI (if u0 = 0 then (4 : Int) else 0)), some (jI (v3 + 1))]) c377_144 rfl rfl (x_goto c377_147 (wp_wk (l' := [some (jR 133), none, some (jI (if u0 = 0 then (4 : Int) else 0)), some (jI (v3 + 1))]) ⟨rfl, ⟨rfl, ⟨rfl, trivial⟩⟩⟩ H.2)))); (x_zeq c377_135 H.1 (fun (h1 : u0 = 0) => (x_ci c377_142 (wp_wk (l' := [some (jR 133), none, none, some (jI v3)]) ⟨rfl, ⟨rfl, trivial⟩⟩ (by have K := K; first | (simp only [if_pos h1] at K ⊢; exact K) | (exfalso; omega))))) (fun (h2 : u0 ≠ 0) => (x_ci c377_138 (x_goto c377_139 (wp_wk (l' := [some (jR 133), none, none, some (jI v3)]) ⟨rfl, ⟨rfl, trivial⟩⟩ (by have K := K; first | (simp only [if_neg h2] at K ⊢; exact K) | (exfalso; omega))))))))
theorem s377_155 {kc : List va_E} {d : Nat} {M : fx_M} {Q : Option fx_V → fx_M → Prop} (H : Q none M) : wp kc (d + 1) 377 155 [none, none, none, none] [] M Q :=
  (x_vr c377_155 r377 H)
theorem s377 {kc : List va_E} {d : Nat} {M : fx_M} {Q : Option fx_V → fx_M → Prop} (H : ((fx_in32 (M 133 30)) ∧ (fx_in32 (M 133 31))) ∧ (M 133 30 = M 133 31 → wp kc (d + 1) 377 27 [some (jR 133), some (jI 7), some (jI 7), none] [] M Q) ∧ (M 133 30 ≠ M 133 31 → wc kc d 221 [jI 50] M (fun v M1 => wp kc (d + 1) 377 17 [none, none, none, none] (v.toList ++ [jR 133]) M1 Q))) : wc kc (d + 1) 377 [jR 133] M Q :=
  wc_of (wp_wk (l' := [some (jR 133), none, none, none]) ⟨rfl, trivial⟩ (s377_0 H))

/- PuzzleHouseModel.refusalOfBook()I -/
theorem c378_0 : fx_ci 378 0 = some (0, 1) := by decide +kernel
theorem c378_1 : fx_op 378 1 = some (.istore_n 1, 2, 1) := by decide +kernel
theorem c378_2 : fx_op 378 2 = some (.iload_n 1, 3, 2) := by decide +kernel
theorem c378_3 : fx_op 378 3 = some (.aload_n 0, 4, 3) := by decide +kernel
theorem c378_4 : fx_gf 378 4 = some (12, 31, 7) := by decide +kernel
theorem c378_7 : fx_op 378 7 = some (.if_icmp .ge 37, 10, 44) := by decide +kernel
theorem c378_44 : fx_ci 378 44 = some (0, 45) := by decide +kernel
theorem c378_10 : fx_op 378 10 = some (.aload_n 0, 11, 10) := by decide +kernel
theorem c378_11 : fx_op 378 11 = some (.aload_n 0, 12, 11) := by decide +kernel
theorem c378_12 : fx_gf 378 12 = some (12, 36, 15) := by decide +kernel
theorem c378_15 : fx_op 378 15 = some (.iload_n 1, 16, 15) := by decide +kernel
theorem c378_17 : fx_pf 378 17 = some (12, 7, 0, 20) := by decide +kernel
theorem c378_20 : fx_op 378 20 = some (.aload_n 0, 21, 20) := by decide +kernel
theorem c378_21 : fx_ci 378 21 = some (1, 22) := by decide +kernel
theorem c378_45 : fx_op 378 45 = some (.ireturn, 46, 45) := by decide +kernel
theorem c378_16 : fx_op 378 16 = some (.iaload, 17, 16) := by decide +kernel
theorem c378_22 : fx_ca 378 22 = some (238, 2, 2, 25) := by decide +kernel
theorem c378_25 : fx_op 378 25 = some (.pop, 26, 25) := by decide +kernel
theorem c378_26 : fx_op 378 26 = some (.aload_n 0, 27, 26) := by decide +kernel
theorem c378_27 : fx_gf 378 27 = some (12, 23, 30) := by decide +kernel
theorem c378_30 : fx_op 378 30 = some (.ifCond .eq 8, 33, 38) := by decide +kernel
theorem c378_38 : fx_op 378 38 = some (.iinc 1 1, 41, 38) := by decide +kernel
theorem c378_33 : fx_op 378 33 = some (.aload_n 0, 34, 33) := by decide +kernel
theorem c378_34 : fx_gf 378 34 = some (12, 23, 37) := by decide +kernel
theorem c378_41 : fx_op 378 41 = some (.goto (-39), 44, 2) := by decide +kernel
theorem c378_37 : fx_op 378 37 = some (.ireturn, 38, 37) := by decide +kernel
theorem s378_0 {kc : List va_E} {d : Nat} {M : fx_M} {Q : Option fx_V → fx_M → Prop} (H : wp kc (d + 1) 378 2 [some (jR 133), some (jI 0)] [] M Q) : wp kc (d + 1) 378 0 [some (jR 133), none] [] M Q :=
  (x_ci c378_0 (x_istn (l' := [some (jR 133), some (jI 0)]) c378_1 rfl (wp_wk (l' := [some (jR 133), some (jI 0)]) ⟨rfl, ⟨rfl, trivial⟩⟩ H)))
theorem s378_2 {kc : List va_E} {d : Nat} {v1 : Int} {M : fx_M} {Q : Option fx_V → fx_M → Prop} (H : ((fx_in32 v1) ∧ (fx_in32 (M 133 31))) ∧ (M 133 31 ≤ v1 → Q (some (jI 0)) M) ∧ (v1 < M 133 31 → (((0 : Int) ≤ v1 ∧ v1 < 300)) ∧ wc kc d 238 [jR 133, jI 1] (fx_up M 133 7 (M 145 v1)) (fun v M1 => wp kc (d + 1) 378 25 [some (jR 133), some (jI v1)] (v.toList ++ []) M1 Q))) : wp kc (d + 1) 378 2 [some (jR 133), some (jI v1)] [] M Q :=
  (x_ildn c378_2 rfl (x_aldn c378_3 rfl (x_gfi c378_4 k_133_31 (x_cge c378_7 H.1.1 H.1.2 (fun h1 => (x_ci c378_44 (x_irt c378_45 r378 (H.2.1 h1)))) (fun h2 => (x_aldn c378_10 rfl (x_aldn c378_11 rfl (x_gfr c378_12 k_133_36 (x_ildn c378_15 rfl (x_iald c378_16 a_145 (H.2.2 h2).1 (by decide) (x_pfi c378_17 k_133_7 (x_aldn c378_20 rfl (x_ci c378_21 (wp_wk (l' := [some (jR 133), some (jI v1)]) ⟨rfl, ⟨rfl, trivial⟩⟩ (x_cv (As := [jI 1]) (st := []) c378_22 cl_133 kl238 rfl (Nat.le_of_ble_eq_true rfl) mx238 (Nat.le_refl _) (H.2.2 h2).2)))))))))))))))
theorem s378_25 {kc : List va_E} {d : Nat} {v1 u0 : Int} {M : fx_M} {Q : Option fx_V → fx_M → Prop} (H : ((fx_in32 (M 133 23))) ∧ (M 133 23 = 0 → wp kc (d + 1) 378 2 [some (jR 133), some (jI (v1 + 1))] [] M Q) ∧ (M 133 23 ≠ 0 → Q (some (jI (M 133 23))) M)) : wp kc (d + 1) 378 25 [some (jR 133), some (jI v1)] [jI u0] M Q :=
  (x_popi c378_25 (x_aldn c378_26 rfl (x_gfi c378_27 k_133_23 (x_zeq c378_30 H.1 (fun h1 => (x_inc (l' := [some (jR 133), some (jI (v1 + 1))]) c378_38 rfl rfl (x_goto c378_41 (wp_wk (l' := [some (jR 133), some (jI (v1 + 1))]) ⟨rfl, ⟨rfl, trivial⟩⟩ (H.2.1 h1))))) (fun h2 => (x_aldn c378_33 rfl (x_gfi c378_34 k_133_23 (x_irt c378_37 r378 (H.2.2 h2)))))))))
theorem s378 {kc : List va_E} {d : Nat} {M : fx_M} {Q : Option fx_V → fx_M → Prop} (H : wp kc (d + 1) 378 2 [some (jR 133), some (jI 0)] [] M Q) : wc kc (d + 1) 378 [jR 133] M Q :=
  wc_of (wp_wk (l' := [some (jR 133), none]) ⟨rfl, trivial⟩ (s378_0 H))

/- PuzzleHouseModel.sayAbout(I)V -/
theorem c379_0 : fx_op 379 0 = some (.iload_n 1, 1, 0) := by decide +kernel
theorem c379_92 : fx_op 379 92 = some (.aload_n 0, 93, 92) := by decide +kernel
theorem c379_93 : fx_ci 379 93 = some (0, 94) := by decide +kernel
theorem c379_206 : fx_op 379 206 = some (.aload_n 0, 207, 206) := by decide +kernel
theorem c379_100 : fx_op 379 100 = some (.aload_n 0, 101, 100) := by decide +kernel
theorem c379_101 : fx_gf 379 101 = some (12, 8, 104) := by decide +kernel
theorem c379_104 : fx_ci 379 104 = some (100, 106) := by decide +kernel
theorem c379_106 : fx_op 379 106 = some (.if_icmp .le 11, 109, 117) := by decide +kernel
theorem c379_117 : fx_op 379 117 = some (.aload_n 0, 118, 117) := by decide +kernel
theorem c379_118 : fx_op 379 118 = some (.aload_n 0, 119, 118) := by decide +kernel
theorem c379_119 : fx_gf 379 119 = some (12, 8, 122) := by decide +kernel
theorem c379_109 : fx_op 379 109 = some (.aload_n 0, 110, 109) := by decide +kernel
theorem c379_110 : fx_ci 379 110 = some (3, 111) := by decide +kernel
theorem c379_128 : fx_op 379 128 = some (.aload_n 0, 129, 128) := by decide +kernel
theorem c379_129 : fx_op 379 129 = some (.aload_n 0, 130, 129) := by decide +kernel
theorem c379_130 : fx_ci 379 130 = some (1000000, 133) := by decide +kernel
theorem c379_142 : fx_op 379 142 = some (.aload_n 0, 143, 142) := by decide +kernel
theorem c379_143 : fx_op 379 143 = some (.aload_n 0, 144, 143) := by decide +kernel
theorem c379_144 : fx_gf 379 144 = some (12, 8, 147) := by decide +kernel
theorem c379_153 : fx_op 379 153 = some (.aload_n 0, 154, 153) := by decide +kernel
theorem c379_160 : fx_op 379 160 = some (.aload_n 0, 161, 160) := by decide +kernel
theorem c379_167 : fx_op 379 167 = some (.aload_n 0, 168, 167) := by decide +kernel
theorem c379_174 : fx_op 379 174 = some (.aload_n 0, 175, 174) := by decide +kernel
theorem c379_181 : fx_op 379 181 = some (.aload_n 0, 182, 181) := by decide +kernel
theorem c379_188 : fx_op 379 188 = some (.aload_n 0, 189, 188) := by decide +kernel
theorem c379_195 : fx_op 379 195 = some (.aload_n 0, 196, 195) := by decide +kernel
theorem c379_196 : fx_op 379 196 = some (.aload_n 0, 197, 196) := by decide +kernel
theorem c379_197 : fx_gf 379 197 = some (12, 8, 200) := by decide +kernel
theorem c379_94 : fx_ca 379 94 = some (340, 2, 2, 97) := by decide +kernel
theorem c379_207 : fx_ca 379 207 = some (418, 1, 2, 210) := by decide +kernel
theorem c379_122 : fx_ca 379 122 = some (380, 2, 2, 125) := by decide +kernel
theorem c379_111 : fx_ca 379 111 = some (259, 2, 2, 114) := by decide +kernel
theorem c379_133 : fx_ca 379 133 = some (268, 2, 2, 136) := by decide +kernel
theorem c379_147 : fx_ca 379 147 = some (382, 2, 2, 150) := by decide +kernel
theorem c379_154 : fx_ca 379 154 = some (383, 1, 2, 157) := by decide +kernel
theorem c379_161 : fx_ca 379 161 = some (391, 1, 2, 164) := by decide +kernel
theorem c379_168 : fx_ca 379 168 = some (409, 1, 2, 171) := by decide +kernel
theorem c379_175 : fx_ca 379 175 = some (410, 1, 2, 178) := by decide +kernel
theorem c379_182 : fx_ca 379 182 = some (411, 1, 2, 185) := by decide +kernel
theorem c379_189 : fx_ca 379 189 = some (412, 1, 2, 192) := by decide +kernel
theorem c379_200 : fx_ca 379 200 = some (413, 2, 2, 203) := by decide +kernel
theorem c379_1 : fx_ts 379 1 = some (5, [92, 206, 100, 128, 142, 153, 160, 167, 206, 206, 206, 174, 181, 206, 206, 188, 206, 206, 195], 206) := by decide +kernel
theorem c379_97 : fx_op 379 97 = some (.goto 113, 100, 210) := by decide +kernel
theorem c379_210 : fx_op 379 210 = some (.return_, 211, 210) := by decide +kernel
theorem c379_125 : fx_op 379 125 = some (.goto 85, 128, 210) := by decide +kernel
theorem c379_114 : fx_op 379 114 = some (.goto 96, 117, 210) := by decide +kernel
theorem c379_136 : fx_ca 379 136 = some (256, 2, 2, 139) := by decide +kernel
theorem c379_150 : fx_op 379 150 = some (.goto 60, 153, 210) := by decide +kernel
theorem c379_157 : fx_op 379 157 = some (.goto 53, 160, 210) := by decide +kernel
theorem c379_164 : fx_op 379 164 = some (.goto 46, 167, 210) := by decide +kernel
theorem c379_171 : fx_op 379 171 = some (.goto 39, 174, 210) := by decide +kernel
theorem c379_178 : fx_op 379 178 = some (.goto 32, 181, 210) := by decide +kernel
theorem c379_185 : fx_op 379 185 = some (.goto 25, 188, 210) := by decide +kernel
theorem c379_192 : fx_op 379 192 = some (.goto 18, 195, 210) := by decide +kernel
theorem c379_203 : fx_op 379 203 = some (.goto 7, 206, 210) := by decide +kernel
theorem c379_139 : fx_op 379 139 = some (.goto 71, 142, 210) := by decide +kernel
theorem s379_0 {kc : List va_E} {d : Nat} {x1 : Int} {M : fx_M} {Q : Option fx_V → fx_M → Prop} (H : fx_in32 x1 ∧ (x1 = 5 → wc kc d 340 [jR 133, jI 0] M (fun v M1 => wp kc (d + 1) 379 97 [none, none] (v.toList ++ []) M1 Q)) ∧ (x1 = 6 → wc kc d 418 [jR 133] M (fun v M1 => wp kc (d + 1) 379 210 [none, none] (v.toList ++ []) M1 Q)) ∧ (x1 = 7 → ((fx_in32 (M 133 8))) ∧ (M 133 8 ≤ 100 → wc kc d 380 [jR 133, jI (M 133 8)] M (fun v M1 => wp kc (d + 1) 379 125 [none, none] (v.toList ++ []) M1 Q)) ∧ (100 < M 133 8 → wc kc d 259 [jR 133, jI 3] M (fun v M1 => wp kc (d + 1) 379 114 [none, none] (v.toList ++ []) M1 Q))) ∧ (x1 = 8 → wc kc d 268 [jR 133, jI 1000000] M (fun v M1 => wp kc (d + 1) 379 136 [none, none] (v.toList ++ [jR 133]) M1 Q)) ∧ (x1 = 9 → wc kc d 382 [jR 133, jI (M 133 8)] M (fun v M1 => wp kc (d + 1) 379 150 [none, none] (v.toList ++ []) M1 Q)) ∧ (x1 = 10 → wc kc d 383 [jR 133] M (fun v M1 => wp kc (d + 1) 379 157 [none, none] (v.toList ++ []) M1 Q)) ∧ (x1 = 11 → wc kc d 391 [jR 133] M (fun v M1 => wp kc (d + 1) 379 164 [none, none] (v.toList ++ []) M1 Q)) ∧ (x1 = 12 → wc kc d 409 [jR 133] M (fun v M1 => wp kc (d + 1) 379 171 [none, none] (v.toList ++ []) M1 Q)) ∧ (x1 = 13 → wc kc d 418 [jR 133] M (fun v M1 => wp kc (d + 1) 379 210 [none, none] (v.toList ++ []) M1 Q)) ∧ (x1 = 14 → wc kc d 418 [jR 133] M (fun v M1 => wp kc (d + 1) 379 210 [none, none] (v.toList ++ []) M1 Q)) ∧ (x1 = 15 → wc kc d 418 [jR 133] M (fun v M1 => wp kc (d + 1) 379 210 [none, none] (v.toList ++ []) M1 Q)) ∧ (x1 = 16 → wc kc d 410 [jR 133] M (fun v M1 => wp kc (d + 1) 379 178 [none, none] (v.toList ++ []) M1 Q)) ∧ (x1 = 17 → wc kc d 411 [jR 133] M (fun v M1 => wp kc (d + 1) 379 185 [none, none] (v.toList ++ []) M1 Q)) ∧ (x1 = 18 → wc kc d 418 [jR 133] M (fun v M1 => wp kc (d + 1) 379 210 [none, none] (v.toList ++ []) M1 Q)) ∧ (x1 = 19 → wc kc d 418 [jR 133] M (fun v M1 => wp kc (d + 1) 379 210 [none, none] (v.toList ++ []) M1 Q)) ∧ (x1 = 20 → wc kc d 412 [jR 133] M (fun v M1 => wp kc (d + 1) 379 192 [none, none] (v.toList ++ []) M1 Q)) ∧ (x1 = 21 → wc kc d 418 [jR 133] M (fun v M1 => wp kc (d + 1) 379 210 [none, none] (v.toList ++ []) M1 Q)) ∧ (x1 = 22 → wc kc d 418 [jR 133] M (fun v M1 => wp kc (d + 1) 379 210 [none, none] (v.toList ++ []) M1 Q)) ∧ (x1 = 23 → wc kc d 413 [jR 133, jI (M 133 8)] M (fun v M1 => wp kc (d + 1) 379 203 [none, none] (v.toList ++ []) M1 Q)) ∧ ((x1 < 5 ∨ 24 ≤ x1) → wc kc d 418 [jR 133] M (fun v M1 => wp kc (d + 1) 379 210 [none, none] (v.toList ++ []) M1 Q))) : wp kc (d + 1) 379 0 [some (jR 133), some (jI x1)] [] M Q :=
  (x_ildn c379_0 rfl (x_sw c379_1 H.1 ⟨fun h3 => (x_aldn c379_92 rfl (x_ci c379_93 (wp_wk (l' := [none, none]) trivial (x_cv (As := [jI 0]) (st := []) c379_94 cl_133 kl340 rfl (Nat.le_of_ble_eq_true rfl) mx340 (Nat.le_refl _) (H.2.1 h3))))), ⟨fun h4 => (x_aldn c379_206 rfl (wp_wk (l' := [none, none]) trivial (x_cv (As := []) (st := []) c379_207 cl_133 kl418 rfl (Nat.le_of_ble_eq_true rfl) mx418 (Nat.le_refl _) (H.2.2.1 h4)))), ⟨fun h5 => (x_aldn c379_100 rfl (x_gfi c379_101 k_133_8 (x_ci c379_104 (x_cle c379_106 (H.2.2.2.1 h5).1 (by decide) (fun h1 => (x_aldn c379_117 rfl (x_aldn c379_118 rfl (x_gfi c379_119 k_133_8 (wp_wk (l' := [none, none]) trivial (x_cv (As := [jI (M 133 8)]) (st := []) c379_122 cl_133 kl380 rfl (Nat.le_of_ble_eq_true rfl) mx380 (Nat.le_refl _) ((H.2.2.2.1 h5).2.1 h1))))))) (fun h2 => (x_aldn c379_109 rfl (x_ci c379_110 (wp_wk (l' := [none, none]) trivial (x_cv (As := [jI 3]) (st := []) c379_111 cl_133 kl259 rfl (Nat.le_of_ble_eq_true rfl) mx259 (Nat.le_refl _) ((H.2.2.2.1 h5).2.2 h2)))))))))), ⟨fun h6 => (x_aldn c379_128 rfl (x_aldn c379_129 rfl (x_ci c379_130 (wp_wk (l' := [none, none]) trivial (x_cv (As := [jI 1000000]) (st := [jR 133]) c379_133 cl_133 kl268 rfl (Nat.le_of_ble_eq_true rfl) mx268 (Nat.le_refl _) (H.2.2.2.2.1 h6)))))), ⟨fun h7 => (x_aldn c379_142 rfl (x_aldn c379_143 rfl (x_gfi c379_144 k_133_8 (wp_wk (l' := [none, none]) trivial (x_cv (As := [jI (M 133 8)]) (st := []) c379_147 cl_133 kl382 rfl (Nat.le_of_ble_eq_true rfl) mx382 (Nat.le_refl _) (H.2.2.2.2.2.1 h7)))))), ⟨fun h8 => (x_aldn c379_153 rfl (wp_wk (l' := [none, none]) trivial (x_cv (As := []) (st := []) c379_154 cl_133 kl383 rfl (Nat.le_of_ble_eq_true rfl) mx383 (Nat.le_refl _) (H.2.2.2.2.2.2.1 h8)))), ⟨fun h9 => (x_aldn c379_160 rfl (wp_wk (l' := [none, none]) trivial (x_cv (As := []) (st := []) c379_161 cl_133 kl391 rfl (Nat.le_of_ble_eq_true rfl) mx391 (Nat.le_refl _) (H.2.2.2.2.2.2.2.1 h9)))), ⟨fun h10 => (x_aldn c379_167 rfl (wp_wk (l' := [none, none]) trivial (x_cv (As := []) (st := []) c379_168 cl_133 kl409 rfl (Nat.le_of_ble_eq_true rfl) mx409 (Nat.le_refl _) (H.2.2.2.2.2.2.2.2.1 h10)))), ⟨fun h11 => (x_aldn c379_206 rfl (wp_wk (l' := [none, none]) trivial (x_cv (As := []) (st := []) c379_207 cl_133 kl418 rfl (Nat.le_of_ble_eq_true rfl) mx418 (Nat.le_refl _) (H.2.2.2.2.2.2.2.2.2.1 h11)))), ⟨fun h12 => (x_aldn c379_206 rfl (wp_wk (l' := [none, none]) trivial (x_cv (As := []) (st := []) c379_207 cl_133 kl418 rfl (Nat.le_of_ble_eq_true rfl) mx418 (Nat.le_refl _) (H.2.2.2.2.2.2.2.2.2.2.1 h12)))), ⟨fun h13 => (x_aldn c379_206 rfl (wp_wk (l' := [none, none]) trivial (x_cv (As := []) (st := []) c379_207 cl_133 kl418 rfl (Nat.le_of_ble_eq_true rfl) mx418 (Nat.le_refl _) (H.2.2.2.2.2.2.2.2.2.2.2.1 h13)))), ⟨fun h14 => (x_aldn c379_174 rfl (wp_wk (l' := [none, none]) trivial (x_cv (As := []) (st := []) c379_175 cl_133 kl410 rfl (Nat.le_of_ble_eq_true rfl) mx410 (Nat.le_refl _) (H.2.2.2.2.2.2.2.2.2.2.2.2.1 h14)))), ⟨fun h15 => (x_aldn c379_181 rfl (wp_wk (l' := [none, none]) trivial (x_cv (As := []) (st := []) c379_182 cl_133 kl411 rfl (Nat.le_of_ble_eq_true rfl) mx411 (Nat.le_refl _) (H.2.2.2.2.2.2.2.2.2.2.2.2.2.1 h15)))), ⟨fun h16 => (x_aldn c379_206 rfl (wp_wk (l' := [none, none]) trivial (x_cv (As := []) (st := []) c379_207 cl_133 kl418 rfl (Nat.le_of_ble_eq_true rfl) mx418 (Nat.le_refl _) (H.2.2.2.2.2.2.2.2.2.2.2.2.2.2.1 h16)))), ⟨fun h17 => (x_aldn c379_206 rfl (wp_wk (l' := [none, none]) trivial (x_cv (As := []) (st := []) c379_207 cl_133 kl418 rfl (Nat.le_of_ble_eq_true rfl) mx418 (Nat.le_refl _) (H.2.2.2.2.2.2.2.2.2.2.2.2.2.2.2.1 h17)))), ⟨fun h18 => (x_aldn c379_188 rfl (wp_wk (l' := [none, none]) trivial (x_cv (As := []) (st := []) c379_189 cl_133 kl412 rfl (Nat.le_of_ble_eq_true rfl) mx412 (Nat.le_refl _) (H.2.2.2.2.2.2.2.2.2.2.2.2.2.2.2.2.1 h18)))), ⟨fun h19 => (x_aldn c379_206 rfl (wp_wk (l' := [none, none]) trivial (x_cv (As := []) (st := []) c379_207 cl_133 kl418 rfl (Nat.le_of_ble_eq_true rfl) mx418 (Nat.le_refl _) (H.2.2.2.2.2.2.2.2.2.2.2.2.2.2.2.2.2.1 h19)))), ⟨fun h20 => (x_aldn c379_206 rfl (wp_wk (l' := [none, none]) trivial (x_cv (As := []) (st := []) c379_207 cl_133 kl418 rfl (Nat.le_of_ble_eq_true rfl) mx418 (Nat.le_refl _) (H.2.2.2.2.2.2.2.2.2.2.2.2.2.2.2.2.2.2.1 h20)))), ⟨fun h21 => (x_aldn c379_195 rfl (x_aldn c379_196 rfl (x_gfi c379_197 k_133_8 (wp_wk (l' := [none, none]) trivial (x_cv (As := [jI (M 133 8)]) (st := []) c379_200 cl_133 kl413 rfl (Nat.le_of_ble_eq_true rfl) mx413 (Nat.le_refl _) (H.2.2.2.2.2.2.2.2.2.2.2.2.2.2.2.2.2.2.2.1 h21)))))), trivial⟩⟩⟩⟩⟩⟩⟩⟩⟩⟩⟩⟩⟩⟩⟩⟩⟩⟩⟩ (fun h22 => (x_aldn c379_206 rfl (wp_wk (l' := [none, none]) trivial (x_cv (As := []) (st := []) c379_207 cl_133 kl418 rfl (Nat.le_of_ble_eq_true rfl) mx418 (Nat.le_refl _) (H.2.2.2.2.2.2.2.2.2.2.2.2.2.2.2.2.2.2.2.2 h22)))))))
theorem s379_97 {kc : List va_E} {d : Nat} {M : fx_M} {Q : Option fx_V → fx_M → Prop} (H : Q none M) : wp kc (d + 1) 379 97 [none, none] [] M Q :=
  (x_goto c379_97 (x_vr c379_210 r379 H))
theorem s379_114 {kc : List va_E} {d : Nat} {M : fx_M} {Q : Option fx_V → fx_M → Prop} (H : Q none M) : wp kc (d + 1) 379 114 [none, none] [] M Q :=
  (x_goto c379_114 (x_vr c379_210 r379 H))
theorem s379_125 {kc : List va_E} {d : Nat} {M : fx_M} {Q : Option fx_V → fx_M → Prop} (H : Q none M) : wp kc (d + 1) 379 125 [none, none] [] M Q :=
  (x_goto c379_125 (x_vr c379_210 r379 H))
theorem s379_136 {kc : List va_E} {d : Nat} {u0 : Int} {M : fx_M} {Q : Option fx_V → fx_M → Prop} (H : wc kc d 256 [jR 133, jI u0] M (fun v M1 => wp kc (d + 1) 379 139 [none, none] (v.toList ++ []) M1 Q)) : wp kc (d + 1) 379 136 [none, none] [jI u0, jR 133] M Q :=
  (wp_wk (l' := [none, none]) trivial (x_cv (As := [jI u0]) (st := []) c379_136 cl_133 kl256 rfl (Nat.le_of_ble_eq_true rfl) mx256 (Nat.le_refl _) H))
theorem s379_139 {kc : List va_E} {d : Nat} {M : fx_M} {Q : Option fx_V → fx_M → Prop} (H : Q none M) : wp kc (d + 1) 379 139 [none, none] [] M Q :=
  (x_goto c379_139 (x_vr c379_210 r379 H))
theorem s379_150 {kc : List va_E} {d : Nat} {M : fx_M} {Q : Option fx_V → fx_M → Prop} (H : Q none M) : wp kc (d + 1) 379 150 [none, none] [] M Q :=
  (x_goto c379_150 (x_vr c379_210 r379 H))
theorem s379_157 {kc : List va_E} {d : Nat} {M : fx_M} {Q : Option fx_V → fx_M → Prop} (H : Q none M) : wp kc (d + 1) 379 157 [none, none] [] M Q :=
  (x_goto c379_157 (x_vr c379_210 r379 H))
theorem s379_164 {kc : List va_E} {d : Nat} {M : fx_M} {Q : Option fx_V → fx_M → Prop} (H : Q none M) : wp kc (d + 1) 379 164 [none, none] [] M Q :=
  (x_goto c379_164 (x_vr c379_210 r379 H))
theorem s379_171 {kc : List va_E} {d : Nat} {M : fx_M} {Q : Option fx_V → fx_M → Prop} (H : Q none M) : wp kc (d + 1) 379 171 [none, none] [] M Q :=
  (x_goto c379_171 (x_vr c379_210 r379 H))
theorem s379_178 {kc : List va_E} {d : Nat} {M : fx_M} {Q : Option fx_V → fx_M → Prop} (H : Q none M) : wp kc (d + 1) 379 178 [none, none] [] M Q :=
  (x_goto c379_178 (x_vr c379_210 r379 H))
theorem s379_185 {kc : List va_E} {d : Nat} {M : fx_M} {Q : Option fx_V → fx_M → Prop} (H : Q none M) : wp kc (d + 1) 379 185 [none, none] [] M Q :=
  (x_goto c379_185 (x_vr c379_210 r379 H))
theorem s379_192 {kc : List va_E} {d : Nat} {M : fx_M} {Q : Option fx_V → fx_M → Prop} (H : Q none M) : wp kc (d + 1) 379 192 [none, none] [] M Q :=
  (x_goto c379_192 (x_vr c379_210 r379 H))
theorem s379_203 {kc : List va_E} {d : Nat} {M : fx_M} {Q : Option fx_V → fx_M → Prop} (H : Q none M) : wp kc (d + 1) 379 203 [none, none] [] M Q :=
  (x_goto c379_203 (x_vr c379_210 r379 H))
theorem s379_210 {kc : List va_E} {d : Nat} {M : fx_M} {Q : Option fx_V → fx_M → Prop} (H : Q none M) : wp kc (d + 1) 379 210 [none, none] [] M Q :=
  (x_vr c379_210 r379 H)
theorem s379 {kc : List va_E} {d : Nat} {x1 : Int} {M : fx_M} {Q : Option fx_V → fx_M → Prop} (H : fx_in32 x1 ∧ (x1 = 5 → wc kc d 340 [jR 133, jI 0] M (fun v M1 => wp kc (d + 1) 379 97 [none, none] (v.toList ++ []) M1 Q)) ∧ (x1 = 6 → wc kc d 418 [jR 133] M (fun v M1 => wp kc (d + 1) 379 210 [none, none] (v.toList ++ []) M1 Q)) ∧ (x1 = 7 → ((fx_in32 (M 133 8))) ∧ (M 133 8 ≤ 100 → wc kc d 380 [jR 133, jI (M 133 8)] M (fun v M1 => wp kc (d + 1) 379 125 [none, none] (v.toList ++ []) M1 Q)) ∧ (100 < M 133 8 → wc kc d 259 [jR 133, jI 3] M (fun v M1 => wp kc (d + 1) 379 114 [none, none] (v.toList ++ []) M1 Q))) ∧ (x1 = 8 → wc kc d 268 [jR 133, jI 1000000] M (fun v M1 => wp kc (d + 1) 379 136 [none, none] (v.toList ++ [jR 133]) M1 Q)) ∧ (x1 = 9 → wc kc d 382 [jR 133, jI (M 133 8)] M (fun v M1 => wp kc (d + 1) 379 150 [none, none] (v.toList ++ []) M1 Q)) ∧ (x1 = 10 → wc kc d 383 [jR 133] M (fun v M1 => wp kc (d + 1) 379 157 [none, none] (v.toList ++ []) M1 Q)) ∧ (x1 = 11 → wc kc d 391 [jR 133] M (fun v M1 => wp kc (d + 1) 379 164 [none, none] (v.toList ++ []) M1 Q)) ∧ (x1 = 12 → wc kc d 409 [jR 133] M (fun v M1 => wp kc (d + 1) 379 171 [none, none] (v.toList ++ []) M1 Q)) ∧ (x1 = 13 → wc kc d 418 [jR 133] M (fun v M1 => wp kc (d + 1) 379 210 [none, none] (v.toList ++ []) M1 Q)) ∧ (x1 = 14 → wc kc d 418 [jR 133] M (fun v M1 => wp kc (d + 1) 379 210 [none, none] (v.toList ++ []) M1 Q)) ∧ (x1 = 15 → wc kc d 418 [jR 133] M (fun v M1 => wp kc (d + 1) 379 210 [none, none] (v.toList ++ []) M1 Q)) ∧ (x1 = 16 → wc kc d 410 [jR 133] M (fun v M1 => wp kc (d + 1) 379 178 [none, none] (v.toList ++ []) M1 Q)) ∧ (x1 = 17 → wc kc d 411 [jR 133] M (fun v M1 => wp kc (d + 1) 379 185 [none, none] (v.toList ++ []) M1 Q)) ∧ (x1 = 18 → wc kc d 418 [jR 133] M (fun v M1 => wp kc (d + 1) 379 210 [none, none] (v.toList ++ []) M1 Q)) ∧ (x1 = 19 → wc kc d 418 [jR 133] M (fun v M1 => wp kc (d + 1) 379 210 [none, none] (v.toList ++ []) M1 Q)) ∧ (x1 = 20 → wc kc d 412 [jR 133] M (fun v M1 => wp kc (d + 1) 379 192 [none, none] (v.toList ++ []) M1 Q)) ∧ (x1 = 21 → wc kc d 418 [jR 133] M (fun v M1 => wp kc (d + 1) 379 210 [none, none] (v.toList ++ []) M1 Q)) ∧ (x1 = 22 → wc kc d 418 [jR 133] M (fun v M1 => wp kc (d + 1) 379 210 [none, none] (v.toList ++ []) M1 Q)) ∧ (x1 = 23 → wc kc d 413 [jR 133, jI (M 133 8)] M (fun v M1 => wp kc (d + 1) 379 203 [none, none] (v.toList ++ []) M1 Q)) ∧ ((x1 < 5 ∨ 24 ≤ x1) → wc kc d 418 [jR 133] M (fun v M1 => wp kc (d + 1) 379 210 [none, none] (v.toList ++ []) M1 Q))) : wc kc (d + 1) 379 [jR 133, jI x1] M Q :=
  wc_of (wp_wk (l' := [some (jR 133), some (jI x1)]) ⟨rfl, ⟨rfl, trivial⟩⟩ (s379_0 H))

/- PuzzleHouseModel.sayAnswers(I)V -/
theorem c380_0 : fx_op 380 0 = some (.aload_n 0, 1, 0) := by decide +kernel
theorem c380_1 : fx_ci 380 1 = some (1, 2) := by decide +kernel
theorem c380_2 : fx_ca 380 2 = some (269, 2, 2, 5) := by decide +kernel
theorem c380_5 : fx_op 380 5 = some (.istore_n 2, 6, 5) := by decide +kernel
theorem c380_6 : fx_ci 380 6 = some (0, 7) := by decide +kernel
theorem c380_7 : fx_op 380 7 = some (.istore_n 3, 8, 7) := by decide +kernel
theorem c380_8 : fx_op 380 8 = some (.iload_n 2, 9, 8) := by decide +kernel
theorem c380_9 : fx_op 380 9 = some (.ifCond .eq 30, 12, 39) := by decide +kernel
theorem c380_12 : fx_op 380 12 = some (.iload_n 3, 13, 12) := by decide +kernel
theorem c380_13 : fx_op 380 13 = some (.iload_n 1, 14, 13) := by decide +kernel
theorem c380_14 : fx_op 380 14 = some (.if_icmp .ge 25, 17, 39) := by decide +kernel
theorem c380_17 : fx_op 380 17 = some (.aload_n 0, 18, 17) := by decide +kernel
theorem c380_39 : fx_op 380 39 = some (.aload_n 0, 40, 39) := by decide +kernel
theorem c380_40 : fx_op 380 40 = some (.iload_n 2, 41, 40) := by decide +kernel
theorem c380_41 : fx_op 380 41 = some (.ifCond .eq 9, 44, 50) := by decide +kernel
theorem c380_50 : fx_cj 380 50 = some (6384748, 53) := by decide +kernel
theorem c380_44 : fx_cj 380 44 = some (1836020325, 47) := by decide +kernel
theorem c380_47 : fx_op 380 47 = some (.goto 6, 50, 53) := by decide +kernel
theorem c380_53 : fx_ca 380 53 = some (253, 2, 2, 56) := by decide +kernel
theorem c380_18 : fx_ca 380 18 = some (381, 1, 2, 21) := by decide +kernel
theorem c380_56 : fx_op 380 56 = some (.return_, 57, 56) := by decide +kernel
theorem c380_21 : fx_op 380 21 = some (.aload_n 0, 22, 21) := by decide +kernel
theorem c380_22 : fx_ci 380 22 = some (32, 24) := by decide +kernel
theorem c380_24 : fx_ca 380 24 = some (254, 2, 2, 27) := by decide +kernel
theorem c380_27 : fx_op 380 27 = some (.aload_n 0, 28, 27) := by decide +kernel
theorem c380_28 : fx_ci 380 28 = some (0, 29) := by decide +kernel
theorem c380_29 : fx_ca 380 29 = some (269, 2, 2, 32) := by decide +kernel
theorem c380_32 : fx_op 380 32 = some (.istore_n 2, 33, 32) := by decide +kernel
theorem c380_33 : fx_op 380 33 = some (.iinc 3 1, 36, 33) := by decide +kernel
theorem c380_36 : fx_op 380 36 = some (.goto (-28), 39, 8) := by decide +kernel
theorem s380_0 {kc : List va_E} {d : Nat} {x1 : Int} {M : fx_M} {Q : Option fx_V → fx_M → Prop} (H : wc kc d 269 [jR 133, jI 1] M (fun v M1 => wp kc (d + 1) 380 5 [some (jR 133), some (jI x1), none, none] (v.toList ++ []) M1 Q)) : wp kc (d + 1) 380 0 [some (jR 133), some (jI x1), none, none] [] M Q :=
  (x_aldn c380_0 rfl (x_ci c380_1 (wp_wk (l' := [some (jR 133), some (jI x1), none, none]) ⟨rfl, ⟨rfl, trivial⟩⟩ (x_cv (As := [jI 1]) (st := []) c380_2 cl_133 kl269 rfl (Nat.le_of_ble_eq_true rfl) mx269 (Nat.le_refl _) H))))
theorem s380_5 {kc : List va_E} {d : Nat} {v1 u0 : Int} {M : fx_M} {Q : Option fx_V → fx_M → Prop} (H : wp kc (d + 1) 380 8 [some (jR 133), some (jI v1), some (jI u0), some (jI 0)] [] M Q) : wp kc (d + 1) 380 5 [some (jR 133), some (jI v1), none, none] [jI u0] M Q :=
  (x_istn (l' := [some (jR 133), some (jI v1), some (jI u0), none]) c380_5 rfl (x_ci c380_6 (x_istn (l' := [some (jR 133), some (jI v1), some (jI u0), some (jI 0)]) c380_7 rfl (wp_wk (l' := [some (jR 133), some (jI v1), some (jI u0), some (jI 0)]) ⟨rfl, ⟨rfl, ⟨rfl, ⟨rfl, trivial⟩⟩⟩⟩ H))))
theorem s380_8 {kc : List va_E} {d : Nat} {v1 v2 v3 : Int} {M : fx_M} {Q : Option fx_V → fx_M → Prop} (H : ((fx_in32 v2)) ∧ (v2 = 0 → ((fx_in32 v2)) ∧ wc kc d 253 [jR 133, jL (if v2 = 0 then (6384748 : Int) else 1836020325)] M (fun v M1 => wp kc (d + 1) 380 56 [none, none, none, none] (v.toList ++ []) M1 Q)) ∧ (v2 ≠ 0 → ((fx_in32 v3) ∧ (fx_in32 v1)) ∧ (v1 ≤ v3 → ((fx_in32 v2)) ∧ wc kc d 253 [jR 133, jL (if v2 = 0 then (6384748 : Int) else 1836020325)] M (fun v M1 => wp kc (d + 1) 380 56 [none, none, none, none] (v.toList ++ []) M1 Q)) ∧ (v3 < v1 → wc kc d 381 [jR 133] M (fun v M1 => wp kc (d + 1) 380 21 [some (jR 133), some (jI v1), none, some (jI v3)] (v.toList ++ []) M1 Q)))) : wp kc (d + 1) 380 8 [some (jR 133), some (jI v1), some (jI v2), some (jI v3)] [] M Q :=
  (x_ildn c380_8 rfl (x_zeq c380_9 H.1 (fun h3 => (x_aldn c380_39 rfl (x_ildn c380_40 rfl (have K : wp kc (d + 1) 380 53 [none, none, none, none] [jL (if v2 = 0 then (6384748 : Int) else 1836020325), jR 133] M Q := (wp_wk (l' := [none, none, none, none]) trivial (x_cv (As := [jL (if v2 = 0 then (6384748 : Int) else 1836020325)]) (st := []) c380_53 cl_133 kl253 rfl (Nat.le_of_ble_eq_true rfl) mx253 (Nat.le_refl _) (H.2.1 h3).2)); (x_zeq c380_41 (H.2.1 h3).1 (fun (h5 : v2 = 0) => (x_cj c380_50 (wp_wk (l' := [none, none, none, none]) trivial (by have K := K; first | (simp only [if_pos h5] at K ⊢; exact K) | (exfalso; omega))))) (fun (h6 : v2 ≠ 0) => (x_cj c380_44 (x_goto c380_47 (wp_wk (l' := [none, none, none, none]) trivial (by have K := K; first | (simp only [if_neg h6] at K ⊢; exact K) | (exfalso; omega))))))))))) (fun h4 => (x_ildn c380_12 rfl (x_ildn c380_13 rfl (x_cge c380_14 (H.2.2 h4).1.1 (H.2.2 h4).1.2 (fun h1 => (x_aldn c380_39 rfl (x_ildn c380_40 rfl (have K : wp kc (d + 1) 380 53 [none, none, none, none] [jL (if v2 = 0 then (6384748 : Int) else 1836020325), jR 133] M Q := (wp_wk (l' := [none, none, none, none]) trivial (x_cv (As := [jL (if v2 = 0 then (6384748 : Int) else 1836020325)]) (st := []) c380_53 cl_133 kl253 rfl (Nat.le_of_ble_eq_true rfl) mx253 (Nat.le_refl _) ((H.2.2 h4).2.1 h1).2)); (x_zeq c380_41 ((H.2.2 h4).2.1 h1).1 (fun (h7 : v2 = 0) => (x_cj c380_50 (wp_wk (l' := [none, none, none, none]) trivial (by have K := K; first | (simp only [if_pos h7] at K ⊢; exact K) | (exfalso; omega))))) (fun (h8 : v2 ≠ 0) => (x_cj c380_44 (x_goto c380_47 (wp_wk (l' := [none, none, none, none]) trivial (by have K := K; first | (simp only [if_neg h8] at K ⊢; exact K) | (exfalso; omega))))))))))) (fun h2 => (x_aldn c380_17 rfl (wp_wk (l' := [some (jR 133), some (jI v1), none, some (jI v3)]) ⟨rfl, ⟨rfl, ⟨rfl, trivial⟩⟩⟩ (x_cv (As := []) (st := []) c380_18 cl_133 kl381 rfl (Nat.le_of_ble_eq_true rfl) mx381 (Nat.le_refl _) ((H.2.2 h4).2.2 h2)))))))))))
theorem s380_21 {kc : List va_E} {d : Nat} {v1 v3 : Int} {M : fx_M} {Q : Option fx_V → fx_M → Prop} (H : wc kc d 254 [jR 133, jI 32] M (fun v M1 => wp kc (d + 1) 380 27 [some (jR 133), some (jI v1), none, some (jI v3)] (v.toList ++ []) M1 Q)) : wp kc (d + 1) 380 21 [some (jR 133), some (jI v1), none, some (jI v3)] [] M Q :=
  (x_aldn c380_21 rfl (x_ci c380_22 (wp_wk (l' := [some (jR 133), some (jI v1), none, some (jI v3)]) ⟨rfl, ⟨rfl, ⟨rfl, trivial⟩⟩⟩ (x_cv (As := [jI 32]) (st := []) c380_24 cl_133 kl254 rfl (Nat.le_of_ble_eq_true rfl) mx254 (Nat.le_refl _) H))))
theorem s380_27 {kc : List va_E} {d : Nat} {v1 v3 : Int} {M : fx_M} {Q : Option fx_V → fx_M → Prop} (H : wc kc d 269 [jR 133, jI 0] M (fun v M1 => wp kc (d + 1) 380 32 [some (jR 133), some (jI v1), none, some (jI v3)] (v.toList ++ []) M1 Q)) : wp kc (d + 1) 380 27 [some (jR 133), some (jI v1), none, some (jI v3)] [] M Q :=
  (x_aldn c380_27 rfl (x_ci c380_28 (wp_wk (l' := [some (jR 133), some (jI v1), none, some (jI v3)]) ⟨rfl, ⟨rfl, ⟨rfl, trivial⟩⟩⟩ (x_cv (As := [jI 0]) (st := []) c380_29 cl_133 kl269 rfl (Nat.le_of_ble_eq_true rfl) mx269 (Nat.le_refl _) H))))
theorem s380_32 {kc : List va_E} {d : Nat} {v1 v3 u0 : Int} {M : fx_M} {Q : Option fx_V → fx_M → Prop} (H : wp kc (d + 1) 380 8 [some (jR 133), some (jI v1), some (jI u0), some (jI (v3 + 1))] [] M Q) : wp kc (d + 1) 380 32 [some (jR 133), some (jI v1), none, some (jI v3)] [jI u0] M Q :=
  (x_istn (l' := [some (jR 133), some (jI v1), some (jI u0), some (jI v3)]) c380_32 rfl (x_inc (l' := [some (jR 133), some (jI v1), some (jI u0), some (jI (v3 + 1))]) c380_33 rfl rfl (x_goto c380_36 (wp_wk (l' := [some (jR 133), some (jI v1), some (jI u0), some (jI (v3 + 1))]) ⟨rfl, ⟨rfl, ⟨rfl, ⟨rfl, trivial⟩⟩⟩⟩ H))))
theorem s380_56 {kc : List va_E} {d : Nat} {M : fx_M} {Q : Option fx_V → fx_M → Prop} (H : Q none M) : wp kc (d + 1) 380 56 [none, none, none, none] [] M Q :=
  (x_vr c380_56 r380 H)
theorem s380 {kc : List va_E} {d : Nat} {x1 : Int} {M : fx_M} {Q : Option fx_V → fx_M → Prop} (H : wc kc d 269 [jR 133, jI 1] M (fun v M1 => wp kc (d + 1) 380 5 [some (jR 133), some (jI x1), none, none] (v.toList ++ []) M1 Q)) : wc kc (d + 1) 380 [jR 133, jI x1] M Q :=
  wc_of (wp_wk (l' := [some (jR 133), some (jI x1), none, none]) ⟨rfl, ⟨rfl, trivial⟩⟩ (s380_0 H))

/- PuzzleHouseModel.sayFilling()V -/
theorem c381_0 : fx_ci 381 0 = some (0, 1) := by decide +kernel
theorem c381_1 : fx_op 381 1 = some (.istore_n 1, 2, 1) := by decide +kernel
theorem c381_2 : fx_op 381 2 = some (.iload_n 1, 3, 2) := by decide +kernel
theorem c381_3 : fx_op 381 3 = some (.aload_n 0, 4, 3) := by decide +kernel
theorem c381_4 : fx_ca 381 4 = some (248, 1, 2, 7) := by decide +kernel
theorem c381_7 : fx_op 381 7 = some (.if_icmp .ge 22, 10, 29) := by decide +kernel
theorem c381_10 : fx_op 381 10 = some (.aload_n 0, 11, 10) := by decide +kernel
theorem c381_11 : fx_ci 381 11 = some (48, 13) := by decide +kernel
theorem c381_13 : fx_op 381 13 = some (.aload_n 0, 14, 13) := by decide +kernel
theorem c381_14 : fx_gf 381 14 = some (12, 46, 17) := by decide +kernel
theorem c381_17 : fx_op 381 17 = some (.iload_n 1, 18, 17) := by decide +kernel
theorem c381_18 : fx_op 381 18 = some (.iaload, 19, 18) := by decide +kernel
theorem c381_19 : fx_op 381 19 = some (.iadd, 20, 19) := by decide +kernel
theorem c381_29 : fx_op 381 29 = some (.return_, 30, 29) := by decide +kernel
theorem c381_20 : fx_ca 381 20 = some (254, 2, 2, 23) := by decide +kernel
theorem c381_23 : fx_op 381 23 = some (.iinc 1 1, 26, 23) := by decide +kernel
theorem c381_26 : fx_op 381 26 = some (.goto (-24), 29, 2) := by decide +kernel
theorem s381_0 {kc : List va_E} {d : Nat} {M : fx_M} {Q : Option fx_V → fx_M → Prop} (H : wp kc (d + 1) 381 2 [some (jR 133), some (jI 0)] [] M Q) : wp kc (d + 1) 381 0 [some (jR 133), none] [] M Q :=
  (x_ci c381_0 (x_istn (l' := [some (jR 133), some (jI 0)]) c381_1 rfl (wp_wk (l' := [some (jR 133), some (jI 0)]) ⟨rfl, ⟨rfl, trivial⟩⟩ H)))
theorem s381_2 {kc : List va_E} {d : Nat} {v1 : Int} {M : fx_M} {Q : Option fx_V → fx_M → Prop} (H : wc kc d 248 [jR 133] M (fun v M1 => wp kc (d + 1) 381 7 [some (jR 133), some (jI v1)] (v.toList ++ [jI v1]) M1 Q)) : wp kc (d + 1) 381 2 [some (jR 133), some (jI v1)] [] M Q :=
  (x_ildn c381_2 rfl (x_aldn c381_3 rfl (wp_wk (l' := [some (jR 133), some (jI v1)]) ⟨rfl, ⟨rfl, trivial⟩⟩ (x_cv (As := []) (st := [jI v1]) c381_4 cl_133 kl248 rfl (Nat.le_of_ble_eq_true rfl) mx248 (Nat.le_refl _) H))))
theorem s381_7 {kc : List va_E} {d : Nat} {v1 u0 u1 : Int} {M : fx_M} {Q : Option fx_V → fx_M → Prop} (H : ((fx_in32 u1) ∧ (fx_in32 u0)) ∧ (u0 ≤ u1 → Q none M) ∧ (u1 < u0 → (((0 : Int) ≤ v1 ∧ v1 < 9)) ∧ wc kc d 254 [jR 133, jI (48 + (M 155 v1))] M (fun v M1 => wp kc (d + 1) 381 23 [some (jR 133), some (jI v1)] (v.toList ++ []) M1 Q))) : wp kc (d + 1) 381 7 [some (jR 133), some (jI v1)] [jI u0, jI u1] M Q :=
  (x_cge c381_7 H.1.1 H.1.2 (fun h1 => (x_vr c381_29 r381 (H.2.1 h1))) (fun h2 => (x_aldn c381_10 rfl (x_ci c381_11 (x_aldn c381_13 rfl (x_gfr c381_14 k_133_46 (x_ildn c381_17 rfl (x_iald c381_18 a_155 (H.2.2 h2).1 (by decide) (x_iadd c381_19 (wp_wk (l' := [some (jR 133), some (jI v1)]) ⟨rfl, ⟨rfl, trivial⟩⟩ (x_cv (As := [jI (48 + (M 155 v1))]) (st := []) c381_20 cl_133 kl254 rfl (Nat.le_of_ble_eq_true rfl) mx254 (Nat.le_refl _) (H.2.2 h2).2)))))))))))
theorem s381_23 {kc : List va_E} {d : Nat} {v1 : Int} {M : fx_M} {Q : Option fx_V → fx_M → Prop} (H : wp kc (d + 1) 381 2 [some (jR 133), some (jI (v1 + 1))] [] M Q) : wp kc (d + 1) 381 23 [some (jR 133), some (jI v1)] [] M Q :=
  (x_inc (l' := [some (jR 133), some (jI (v1 + 1))]) c381_23 rfl rfl (x_goto c381_26 (wp_wk (l' := [some (jR 133), some (jI (v1 + 1))]) ⟨rfl, ⟨rfl, trivial⟩⟩ H)))
theorem s381 {kc : List va_E} {d : Nat} {M : fx_M} {Q : Option fx_V → fx_M → Prop} (H : wp kc (d + 1) 381 2 [some (jR 133), some (jI 0)] [] M Q) : wc kc (d + 1) 381 [jR 133] M Q :=
  wc_of (wp_wk (l' := [some (jR 133), none]) ⟨rfl, trivial⟩ (s381_0 H))

/- PuzzleHouseModel.sayPick(I)V -/
theorem c382_0 : fx_op 382 0 = some (.aload_n 0, 1, 0) := by decide +kernel
theorem c382_1 : fx_ci 382 1 = some (1, 2) := by decide +kernel
theorem c382_2 : fx_ca 382 2 = some (269, 2, 2, 5) := by decide +kernel
theorem c382_5 : fx_op 382 5 = some (.istore_n 2, 6, 5) := by decide +kernel
theorem c382_6 : fx_ci 382 6 = some (0, 7) := by decide +kernel
theorem c382_7 : fx_op 382 7 = some (.istore_n 3, 8, 7) := by decide +kernel
theorem c382_8 : fx_op 382 8 = some (.iload_n 2, 9, 8) := by decide +kernel
theorem c382_9 : fx_op 382 9 = some (.ifCond .eq 20, 12, 29) := by decide +kernel
theorem c382_12 : fx_op 382 12 = some (.iload_n 3, 13, 12) := by decide +kernel
theorem c382_13 : fx_op 382 13 = some (.iload_n 1, 14, 13) := by decide +kernel
theorem c382_14 : fx_op 382 14 = some (.if_icmp .ge 15, 17, 29) := by decide +kernel
theorem c382_17 : fx_op 382 17 = some (.aload_n 0, 18, 17) := by decide +kernel
theorem c382_18 : fx_ci 382 18 = some (0, 19) := by decide +kernel
theorem c382_29 : fx_op 382 29 = some (.iload_n 2, 30, 29) := by decide +kernel
theorem c382_30 : fx_op 382 30 = some (.ifCond .eq 10, 33, 40) := by decide +kernel
theorem c382_40 : fx_op 382 40 = some (.aload_n 0, 41, 40) := by decide +kernel
theorem c382_41 : fx_cj 382 41 = some (1852796517, 44) := by decide +kernel
theorem c382_33 : fx_op 382 33 = some (.aload_n 0, 34, 33) := by decide +kernel
theorem c382_44 : fx_ca 382 44 = some (253, 2, 2, 47) := by decide +kernel
theorem c382_34 : fx_ca 382 34 = some (381, 1, 2, 37) := by decide +kernel
theorem c382_19 : fx_ca 382 19 = some (269, 2, 2, 22) := by decide +kernel
theorem c382_47 : fx_op 382 47 = some (.return_, 48, 47) := by decide +kernel
theorem c382_37 : fx_op 382 37 = some (.goto 10, 40, 47) := by decide +kernel
theorem c382_22 : fx_op 382 22 = some (.istore_n 2, 23, 22) := by decide +kernel
theorem c382_23 : fx_op 382 23 = some (.iinc 3 1, 26, 23) := by decide +kernel
theorem c382_26 : fx_op 382 26 = some (.goto (-18), 29, 8) := by decide +kernel
theorem s382_0 {kc : List va_E} {d : Nat} {x1 : Int} {M : fx_M} {Q : Option fx_V → fx_M → Prop} (H : wc kc d 269 [jR 133, jI 1] M (fun v M1 => wp kc (d + 1) 382 5 [some (jR 133), some (jI x1), none, none] (v.toList ++ []) M1 Q)) : wp kc (d + 1) 382 0 [some (jR 133), some (jI x1), none, none] [] M Q :=
  (x_aldn c382_0 rfl (x_ci c382_1 (wp_wk (l' := [some (jR 133), some (jI x1), none, none]) ⟨rfl, ⟨rfl, trivial⟩⟩ (x_cv (As := [jI 1]) (st := []) c382_2 cl_133 kl269 rfl (Nat.le_of_ble_eq_true rfl) mx269 (Nat.le_refl _) H))))
theorem s382_5 {kc : List va_E} {d : Nat} {v1 u0 : Int} {M : fx_M} {Q : Option fx_V → fx_M → Prop} (H : wp kc (d + 1) 382 8 [some (jR 133), some (jI v1), some (jI u0), some (jI 0)] [] M Q) : wp kc (d + 1) 382 5 [some (jR 133), some (jI v1), none, none] [jI u0] M Q :=
  (x_istn (l' := [some (jR 133), some (jI v1), some (jI u0), none]) c382_5 rfl (x_ci c382_6 (x_istn (l' := [some (jR 133), some (jI v1), some (jI u0), some (jI 0)]) c382_7 rfl (wp_wk (l' := [some (jR 133), some (jI v1), some (jI u0), some (jI 0)]) ⟨rfl, ⟨rfl, ⟨rfl, ⟨rfl, trivial⟩⟩⟩⟩ H))))
theorem s382_8 {kc : List va_E} {d : Nat} {v1 v2 v3 : Int} {M : fx_M} {Q : Option fx_V → fx_M → Prop} (H : ((fx_in32 v2)) ∧ (v2 = 0 → ((fx_in32 v2)) ∧ (v2 = 0 → wc kc d 253 [jR 133, jL 1852796517] M (fun v M1 => wp kc (d + 1) 382 47 [none, none, none, none] (v.toList ++ []) M1 Q)) ∧ (v2 ≠ 0 → wc kc d 381 [jR 133] M (fun v M1 => wp kc (d + 1) 382 37 [none, none, none, none] (v.toList ++ []) M1 Q))) ∧ (v2 ≠ 0 → ((fx_in32 v3) ∧ (fx_in32 v1)) ∧ (v1 ≤ v3 → ((fx_in32 v2)) ∧ (v2 = 0 → wc kc d 253 [jR 133, jL 1852796517] M (fun v M1 => wp kc (d + 1) 382 47 [none, none, none, none] (v.toList ++ []) M1 Q)) ∧ (v2 ≠ 0 → wc kc d 381 [jR 133] M (fun v M1 => wp kc (d + 1) 382 37 [none, none, none, none] (v.toList ++ []) M1 Q))) ∧ (v3 < v1 → wc kc d 269 [jR 133, jI 0] M (fun v M1 => wp kc (d + 1) 382 22 [some (jR 133), some (jI v1), none, some (jI v3)] (v.toList ++ []) M1 Q)))) : wp kc (d + 1) 382 8 [some (jR 133), some (jI v1), some (jI v2), some (jI v3)] [] M Q :=
  (x_ildn c382_8 rfl (x_zeq c382_9 H.1 (fun h7 => (x_ildn c382_29 rfl (x_zeq c382_30 (H.2.1 h7).1 (fun h1 => (x_aldn c382_40 rfl (x_cj c382_41 (wp_wk (l' := [none, none, none, none]) trivial (x_cv (As := [jL 1852796517]) (st := []) c382_44 cl_133 kl253 rfl (Nat.le_of_ble_eq_true rfl) mx253 (Nat.le_refl _) ((H.2.1 h7).2.1 h1)))))) (fun h2 => (x_aldn c382_33 rfl (wp_wk (l' := [none, none, none, none]) trivial (x_cv (As := []) (st := []) c382_34 cl_133 kl381 rfl (Nat.le_of_ble_eq_true rfl) mx381 (Nat.le_refl _) ((H.2.1 h7).2.2 h2)))))))) (fun h8 => (x_ildn c382_12 rfl (x_ildn c382_13 rfl (x_cge c382_14 (H.2.2 h8).1.1 (H.2.2 h8).1.2 (fun h5 => (x_ildn c382_29 rfl (x_zeq c382_30 ((H.2.2 h8).2.1 h5).1 (fun h3 => (x_aldn c382_40 rfl (x_cj c382_41 (wp_wk (l' := [none, none, none, none]) trivial (x_cv (As := [jL 1852796517]) (st := []) c382_44 cl_133 kl253 rfl (Nat.le_of_ble_eq_true rfl) mx253 (Nat.le_refl _) (((H.2.2 h8).2.1 h5).2.1 h3)))))) (fun h4 => (x_aldn c382_33 rfl (wp_wk (l' := [none, none, none, none]) trivial (x_cv (As := []) (st := []) c382_34 cl_133 kl381 rfl (Nat.le_of_ble_eq_true rfl) mx381 (Nat.le_refl _) (((H.2.2 h8).2.1 h5).2.2 h4)))))))) (fun h6 => (x_aldn c382_17 rfl (x_ci c382_18 (wp_wk (l' := [some (jR 133), some (jI v1), none, some (jI v3)]) ⟨rfl, ⟨rfl, ⟨rfl, trivial⟩⟩⟩ (x_cv (As := [jI 0]) (st := []) c382_19 cl_133 kl269 rfl (Nat.le_of_ble_eq_true rfl) mx269 (Nat.le_refl _) ((H.2.2 h8).2.2 h6))))))))))))
theorem s382_22 {kc : List va_E} {d : Nat} {v1 v3 u0 : Int} {M : fx_M} {Q : Option fx_V → fx_M → Prop} (H : wp kc (d + 1) 382 8 [some (jR 133), some (jI v1), some (jI u0), some (jI (v3 + 1))] [] M Q) : wp kc (d + 1) 382 22 [some (jR 133), some (jI v1), none, some (jI v3)] [jI u0] M Q :=
  (x_istn (l' := [some (jR 133), some (jI v1), some (jI u0), some (jI v3)]) c382_22 rfl (x_inc (l' := [some (jR 133), some (jI v1), some (jI u0), some (jI (v3 + 1))]) c382_23 rfl rfl (x_goto c382_26 (wp_wk (l' := [some (jR 133), some (jI v1), some (jI u0), some (jI (v3 + 1))]) ⟨rfl, ⟨rfl, ⟨rfl, ⟨rfl, trivial⟩⟩⟩⟩ H))))
theorem s382_37 {kc : List va_E} {d : Nat} {M : fx_M} {Q : Option fx_V → fx_M → Prop} (H : Q none M) : wp kc (d + 1) 382 37 [none, none, none, none] [] M Q :=
  (x_goto c382_37 (x_vr c382_47 r382 H))
theorem s382_47 {kc : List va_E} {d : Nat} {M : fx_M} {Q : Option fx_V → fx_M → Prop} (H : Q none M) : wp kc (d + 1) 382 47 [none, none, none, none] [] M Q :=
  (x_vr c382_47 r382 H)
theorem s382 {kc : List va_E} {d : Nat} {x1 : Int} {M : fx_M} {Q : Option fx_V → fx_M → Prop} (H : wc kc d 269 [jR 133, jI 1] M (fun v M1 => wp kc (d + 1) 382 5 [some (jR 133), some (jI x1), none, none] (v.toList ++ []) M1 Q)) : wc kc (d + 1) 382 [jR 133, jI x1] M Q :=
  wc_of (wp_wk (l' := [some (jR 133), some (jI x1), none, none]) ⟨rfl, ⟨rfl, trivial⟩⟩ (s382_0 H))

/- PuzzleHouseModel.sayProof()V -/
theorem c383_0 : fx_op 383 0 = some (.aload_n 0, 1, 0) := by decide +kernel
theorem c383_1 : fx_ci 383 1 = some (1, 2) := by decide +kernel
theorem c383_2 : fx_ca 383 2 = some (384, 2, 2, 5) := by decide +kernel
theorem c383_5 : fx_op 383 5 = some (.aload_n 0, 6, 5) := by decide +kernel
theorem c383_6 : fx_gf 383 6 = some (12, 57, 9) := by decide +kernel
theorem c383_9 : fx_op 383 9 = some (.ifCond .eq 7, 12, 16) := by decide +kernel
theorem c383_12 : fx_op 383 12 = some (.aload_n 0, 13, 12) := by decide +kernel
theorem c383_16 : fx_op 383 16 = some (.return_, 17, 16) := by decide +kernel
theorem c383_13 : fx_ca 383 13 = some (390, 1, 2, 16) := by decide +kernel
theorem s383_0 {kc : List va_E} {d : Nat} {M : fx_M} {Q : Option fx_V → fx_M → Prop} (H : wc kc d 384 [jR 133, jI 1] M (fun v M1 => wp kc (d + 1) 383 5 [some (jR 133)] (v.toList ++ []) M1 Q)) : wp kc (d + 1) 383 0 [some (jR 133)] [] M Q :=
  (x_aldn c383_0 rfl (x_ci c383_1 (wp_wk (l' := [some (jR 133)]) ⟨rfl, trivial⟩ (x_cv (As := [jI 1]) (st := []) c383_2 cl_133 kl384 rfl (Nat.le_of_ble_eq_true rfl) mx384 (Nat.le_refl _) H))))
theorem s383_5 {kc : List va_E} {d : Nat} {M : fx_M} {Q : Option fx_V → fx_M → Prop} (H : ((fx_in32 (M 133 57))) ∧ (M 133 57 = 0 → Q none M) ∧ (M 133 57 ≠ 0 → wc kc d 390 [jR 133] M (fun v M1 => wp kc (d + 1) 383 16 [none] (v.toList ++ []) M1 Q))) : wp kc (d + 1) 383 5 [some (jR 133)] [] M Q :=
  (x_aldn c383_5 rfl (x_gfi c383_6 k_133_57 (x_zeq c383_9 H.1 (fun h1 => (x_vr c383_16 r383 (H.2.1 h1))) (fun h2 => (x_aldn c383_12 rfl (wp_wk (l' := [none]) trivial (x_cv (As := []) (st := []) c383_13 cl_133 kl390 rfl (Nat.le_of_ble_eq_true rfl) mx390 (Nat.le_refl _) (H.2.2 h2))))))))
theorem s383_16 {kc : List va_E} {d : Nat} {M : fx_M} {Q : Option fx_V → fx_M → Prop} (H : Q none M) : wp kc (d + 1) 383 16 [none] [] M Q :=
  (x_vr c383_16 r383 H)
theorem s383 {kc : List va_E} {d : Nat} {M : fx_M} {Q : Option fx_V → fx_M → Prop} (H : wc kc d 384 [jR 133, jI 1] M (fun v M1 => wp kc (d + 1) 383 5 [some (jR 133)] (v.toList ++ []) M1 Q)) : wc kc (d + 1) 383 [jR 133] M Q :=
  wc_of (wp_wk (l' := [some (jR 133)]) ⟨rfl, trivial⟩ (s383_0 H))

/- PuzzleHouseModel.grow(Z)V -/
theorem c384_0 : fx_op 384 0 = some (.aload_n 0, 1, 0) := by decide +kernel
theorem c384_1 : fx_op 384 1 = some (.iload_n 1, 2, 1) := by decide +kernel
theorem c384_5 : fx_op 384 5 = some (.aload_n 0, 6, 5) := by decide +kernel
theorem c384_6 : fx_ci 384 6 = some (0, 7) := by decide +kernel
theorem c384_7 : fx_pf 384 7 = some (12, 57, 2, 10) := by decide +kernel
theorem c384_10 : fx_op 384 10 = some (.aload_n 0, 11, 10) := by decide +kernel
theorem c384_11 : fx_ci 384 11 = some (0, 12) := by decide +kernel
theorem c384_12 : fx_pf 384 12 = some (12, 58, 0, 15) := by decide +kernel
theorem c384_15 : fx_op 384 15 = some (.aload_n 0, 16, 15) := by decide +kernel
theorem c384_16 : fx_ci 384 16 = some (0, 17) := by decide +kernel
theorem c384_17 : fx_pf 384 17 = some (12, 59, 0, 20) := by decide +kernel
theorem c384_20 : fx_op 384 20 = some (.aload_n 0, 21, 20) := by decide +kernel
theorem c384_21 : fx_ci 384 21 = some (0, 22) := by decide +kernel
theorem c384_22 : fx_pf 384 22 = some (12, 60, 0, 25) := by decide +kernel
theorem c384_25 : fx_op 384 25 = some (.iload_n 1, 26, 25) := by decide +kernel
theorem c384_26 : fx_op 384 26 = some (.ifCond .eq 7, 29, 33) := by decide +kernel
theorem c384_29 : fx_op 384 29 = some (.aload_n 0, 30, 29) := by decide +kernel
theorem c384_33 : fx_op 384 33 = some (.aload_n 0, 34, 33) := by decide +kernel
theorem c384_2 : fx_pf 384 2 = some (12, 56, 2, 5) := by decide +kernel
theorem c384_34 : fx_ca 384 34 = some (295, 1, 2, 37) := by decide +kernel
theorem c384_30 : fx_ca 384 30 = some (385, 1, 2, 33) := by decide +kernel
theorem c384_37 : fx_op 384 37 = some (.aload_n 0, 38, 37) := by decide +kernel
theorem c384_38 : fx_ci 384 38 = some (0, 39) := by decide +kernel
theorem c384_39 : fx_ca 384 39 = some (386, 2, 2, 42) := by decide +kernel
theorem c384_42 : fx_op 384 42 = some (.ifCond .eq 7, 45, 49) := by decide +kernel
theorem c384_49 : fx_ci 384 49 = some ((-1), 50) := by decide +kernel
theorem c384_45 : fx_ci 384 45 = some (0, 46) := by decide +kernel
theorem c384_46 : fx_op 384 46 = some (.goto 4, 49, 50) := by decide +kernel
theorem c384_50 : fx_op 384 50 = some (.istore_n 2, 51, 50) := by decide +kernel
theorem c384_51 : fx_op 384 51 = some (.iload_n 2, 52, 51) := by decide +kernel
theorem c384_52 : fx_op 384 52 = some (.ifCond .lt 115, 55, 167) := by decide +kernel
theorem c384_55 : fx_op 384 55 = some (.aload_n 0, 56, 55) := by decide +kernel
theorem c384_56 : fx_gf 384 56 = some (12, 57, 59) := by decide +kernel
theorem c384_59 : fx_op 384 59 = some (.ifCond .ne 108, 62, 167) := by decide +kernel
theorem c384_62 : fx_op 384 62 = some (.aload_n 0, 63, 62) := by decide +kernel
theorem c384_63 : fx_op 384 63 = some (.iload_n 2, 64, 63) := by decide +kernel
theorem c384_167 : fx_op 384 167 = some (.return_, 168, 167) := by decide +kernel
theorem c384_64 : fx_ca 384 64 = some (389, 2, 2, 67) := by decide +kernel
theorem c384_67 : fx_op 384 67 = some (.istore_n 3, 68, 67) := by decide +kernel
theorem c384_68 : fx_op 384 68 = some (.iload_n 3, 69, 68) := by decide +kernel
theorem c384_69 : fx_op 384 69 = some (.ifCond .ge 14, 72, 83) := by decide +kernel
theorem c384_83 : fx_ci 384 83 = some (0, 84) := by decide +kernel
theorem c384_84 : fx_op 384 84 = some (.istore 4, 86, 84) := by decide +kernel
theorem c384_72 : fx_op 384 72 = some (.aload_n 0, 73, 72) := by decide +kernel
theorem c384_73 : fx_op 384 73 = some (.iload_n 2, 74, 73) := by decide +kernel
theorem c384_74 : fx_ca 384 74 = some (388, 2, 2, 77) := by decide +kernel
theorem c384_86 : fx_op 384 86 = some (.iload 4, 88, 86) := by decide +kernel
theorem c384_88 : fx_ci 384 88 = some (9, 90) := by decide +kernel
theorem c384_90 : fx_op 384 90 = some (.if_icmp .ge 28, 93, 118) := by decide +kernel
theorem c384_93 : fx_op 384 93 = some (.aload_n 0, 94, 93) := by decide +kernel
theorem c384_94 : fx_gf 384 94 = some (12, 47, 97) := by decide +kernel
theorem c384_97 : fx_op 384 97 = some (.iload 4, 99, 97) := by decide +kernel
theorem c384_99 : fx_op 384 99 = some (.aload_n 0, 100, 99) := by decide +kernel
theorem c384_100 : fx_gf 384 100 = some (12, 62, 103) := by decide +kernel
theorem c384_103 : fx_ci 384 103 = some (9, 105) := by decide +kernel
theorem c384_105 : fx_op 384 105 = some (.iload_n 2, 106, 105) := by decide +kernel
theorem c384_106 : fx_op 384 106 = some (.imul, 107, 106) := by decide +kernel
theorem c384_107 : fx_op 384 107 = some (.iload 4, 109, 107) := by decide +kernel
theorem c384_109 : fx_op 384 109 = some (.iadd, 110, 109) := by decide +kernel
theorem c384_110 : fx_op 384 110 = some (.iaload, 111, 110) := by decide +kernel
theorem c384_118 : fx_op 384 118 = some (.aload_n 0, 119, 118) := by decide +kernel
theorem c384_119 : fx_gf 384 119 = some (12, 47, 122) := by decide +kernel
theorem c384_122 : fx_op 384 122 = some (.aload_n 0, 123, 122) := by decide +kernel
theorem c384_123 : fx_gf 384 123 = some (12, 63, 126) := by decide +kernel
theorem c384_126 : fx_op 384 126 = some (.iload_n 2, 127, 126) := by decide +kernel
theorem c384_128 : fx_ci 384 128 = some (1, 129) := by decide +kernel
theorem c384_129 : fx_op 384 129 = some (.iload_n 3, 130, 129) := by decide +kernel
theorem c384_130 : fx_op 384 130 = some (.ishl, 131, 130) := by decide +kernel
theorem c384_132 : fx_op 384 132 = some (.aload_n 0, 133, 132) := by decide +kernel
theorem c384_133 : fx_gf 384 133 = some (12, 65, 136) := by decide +kernel
theorem c384_136 : fx_op 384 136 = some (.iload_n 2, 137, 136) := by decide +kernel
theorem c384_137 : fx_op 384 137 = some (.aload_n 0, 138, 137) := by decide +kernel
theorem c384_138 : fx_gf 384 138 = some (12, 63, 141) := by decide +kernel
theorem c384_141 : fx_op 384 141 = some (.iload_n 2, 142, 141) := by decide +kernel
theorem c384_144 : fx_op 384 144 = some (.aload_n 0, 145, 144) := by decide +kernel
theorem c384_145 : fx_gf 384 145 = some (12, 66, 148) := by decide +kernel
theorem c384_148 : fx_op 384 148 = some (.iload_n 2, 149, 148) := by decide +kernel
theorem c384_149 : fx_op 384 149 = some (.iload_n 3, 150, 149) := by decide +kernel
theorem c384_151 : fx_op 384 151 = some (.aload_n 0, 152, 151) := by decide +kernel
theorem c384_152 : fx_op 384 152 = some (.iload_n 2, 153, 152) := by decide +kernel
theorem c384_153 : fx_ci 384 153 = some (1, 154) := by decide +kernel
theorem c384_154 : fx_op 384 154 = some (.iadd, 155, 154) := by decide +kernel
theorem c384_112 : fx_op 384 112 = some (.iinc 4 1, 115, 112) := by decide +kernel
theorem c384_127 : fx_op 384 127 = some (.iaload, 128, 127) := by decide +kernel
theorem c384_131 : fx_op 384 131 = some (.iastore, 132, 131) := by decide +kernel
theorem c384_142 : fx_op 384 142 = some (.iaload, 143, 142) := by decide +kernel
theorem c384_143 : fx_op 384 143 = some (.iastore, 144, 143) := by decide +kernel
theorem c384_150 : fx_op 384 150 = some (.iastore, 151, 150) := by decide +kernel
theorem c384_155 : fx_ca 384 155 = some (386, 2, 2, 158) := by decide +kernel
theorem c384_111 : fx_op 384 111 = some (.iastore, 112, 111) := by decide +kernel
theorem c384_115 : fx_op 384 115 = some (.goto (-29), 118, 86) := by decide +kernel
theorem c384_77 : fx_op 384 77 = some (.iinc 2 (-1), 80, 77) := by decide +kernel
theorem c384_80 : fx_op 384 80 = some (.goto (-29), 83, 51) := by decide +kernel
theorem c384_158 : fx_op 384 158 = some (.ifCond .eq 6, 161, 164) := by decide +kernel
theorem c384_161 : fx_op 384 161 = some (.iinc 2 1, 164, 161) := by decide +kernel
theorem c384_164 : fx_op 384 164 = some (.goto (-113), 167, 51) := by decide +kernel
theorem s384_0 {kc : List va_E} {d : Nat} {x1 : Int} {M : fx_M} {Q : Option fx_V → fx_M → Prop} (H : (((0 : Int) ≤ x1 ∧ x1 ≤ 1)) ∧ ((fx_in32 x1)) ∧ (x1 = 0 → wc kc d 295 [jR 133] (fx_up (fx_up (fx_up (fx_up (fx_up M 133 56 x1) 133 57 0) 133 58 0) 133 59 0) 133 60 0) (fun v M1 => wp kc (d + 1) 384 37 [some (jR 133), none, none, none, none] (v.toList ++ []) M1 Q)) ∧ (x1 ≠ 0 → wc kc d 385 [jR 133] (fx_up (fx_up (fx_up (fx_up (fx_up M 133 56 x1) 133 57 0) 133 58 0) 133 59 0) 133 60 0) (fun v M1 => wp kc (d + 1) 384 33 [some (jR 133), none, none, none, none] (v.toList ++ []) M1 Q))) : wp kc (d + 1) 384 0 [some (jR 133), some (jI x1), none, none, none] [] M Q :=
  (x_aldn c384_0 rfl (x_ildn c384_1 rfl (x_pfz c384_2 k_133_56 H.1 (x_aldn c384_5 rfl (x_ci c384_6 (x_pfz c384_7 k_133_57 (by decide) (x_aldn c384_10 rfl (x_ci c384_11 (x_pfi c384_12 k_133_58 (x_aldn c384_15 rfl (x_ci c384_16 (x_pfi c384_17 k_133_59 (x_aldn c384_20 rfl (x_ci c384_21 (x_pfi c384_22 k_133_60 (x_ildn c384_25 rfl (x_zeq c384_26 H.2.1 (fun h1 => (x_aldn c384_33 rfl (wp_wk (l' := [some (jR 133), none, none, none, none]) ⟨rfl, trivial⟩ (x_cv (As := []) (st := []) c384_34 cl_133 kl295 rfl (Nat.le_of_ble_eq_true rfl) mx295 (Nat.le_refl _) (H.2.2.1 h1))))) (fun h2 => (x_aldn c384_29 rfl (wp_wk (l' := [some (jR 133), none, none, none, none]) ⟨rfl, trivial⟩ (x_cv (As := []) (st := []) c384_30 cl_133 kl385 rfl (Nat.le_of_ble_eq_true rfl) mx385 (Nat.le_refl _) (H.2.2.2 h2))))))))))))))))))))))
theorem s384_33 {kc : List va_E} {d : Nat} {M : fx_M} {Q : Option fx_V → fx_M → Prop} (H : wc kc d 295 [jR 133] M (fun v M1 => wp kc (d + 1) 384 37 [some (jR 133), none, none, none, none] (v.toList ++ []) M1 Q)) : wp kc (d + 1) 384 33 [some (jR 133), none, none, none, none] [] M Q :=
  (x_aldn c384_33 rfl (wp_wk (l' := [some (jR 133), none, none, none, none]) ⟨rfl, trivial⟩ (x_cv (As := []) (st := []) c384_34 cl_133 kl295 rfl (Nat.le_of_ble_eq_true rfl) mx295 (Nat.le_refl _) H)))
theorem s384_37 {kc : List va_E} {d : Nat} {M : fx_M} {Q : Option fx_V → fx_M → Prop} (H : wc kc d 386 [jR 133, jI 0] M (fun v M1 => wp kc (d + 1) 384 42 [some (jR 133), none, none, none, none] (v.toList ++ []) M1 Q)) : wp kc (d + 1) 384 37 [some (jR 133), none, none, none, none] [] M Q :=
  (x_aldn c384_37 rfl (x_ci c384_38 (wp_wk (l' := [some (jR 133), none, none, none, none]) ⟨rfl, trivial⟩ (x_cv (As := [jI 0]) (st := []) c384_39 cl_133 kl386 rfl (Nat.le_of_ble_eq_true rfl) mx386 (Nat.le_refl _) H))))
theorem s384_42 {kc : List va_E} {d : Nat} {u0 : Int} {M : fx_M} {Q : Option fx_V → fx_M → Prop} (H : ((fx_in32 u0)) ∧ wp kc (d + 1) 384 51 [some (jR 133), none, some (jI (if u0 = 0 then ((-1) : Int) else 0)), none, none] [] M Q) : wp kc (d + 1) 384 42 [some (jR 133), none, none, none, none] [jI u0] M Q :=
  (have K : wp kc (d + 1) 384 50 [some (jR 133), none, none, none, none] [jI (if u0 = 0 then ((-1) : Int) else 0)] M Q := (x_istn (l' := [some (jR 133), none, some (jI (if u0 = 0 then ((-1) : Int) else 0)), none, none]) c384_50 rfl (wp_wk (l' := [some (jR 133), none, some (jI (if u0 = 0 then ((-1) : Int) else 0)), none, none]) ⟨rfl, ⟨rfl, trivial⟩⟩ H.2)); (x_zeq c384_42 H.1 (fun (h1 : u0 = 0) => (x_ci c384_49 (wp_wk (l' := [some (jR 133), none, none, none, none]) ⟨rfl, trivial⟩ (by have K := K; first | (simp only [if_pos h1] at K ⊢; exact K) | (exfalso; omega))))) (fun (h2 : u0 ≠ 0) => (x_ci c384_45 (x_goto c384_46 (wp_wk (l' := [some (jR 133), none, none, none, none]) ⟨rfl, trivial⟩ (by have K := K; first | (simp only [if_neg h2] at K ⊢; exact K) | (exfalso; omega))))))))
theorem s384_51 {kc : List va_E} {d : Nat} {v2 : Int} {M : fx_M} {Q : Option fx_V → fx_M → Prop} (H : ((fx_in32 v2)) ∧ (v2 < 0 → Q none M) ∧ (0 ≤ v2 → ((fx_in32 (M 133 57))) ∧ (M 133 57 ≠ 0 → Q none M) ∧ (M 133 57 = 0 → wc kc d 389 [jR 133, jI v2] M (fun v M1 => wp kc (d + 1) 384 67 [some (jR 133), none, some (jI v2), none, none] (v.toList ++ []) M1 Q)))) : wp kc (d + 1) 384 51 [some (jR 133), none, some (jI v2), none, none] [] M Q :=
  (x_ildn c384_51 rfl (x_zlt c384_52 H.1 (fun h3 => (x_vr c384_167 r384 (H.2.1 h3))) (fun h4 => (x_aldn c384_55 rfl (x_gfi c384_56 k_133_57 (x_zne c384_59 (H.2.2 h4).1 (fun h1 => (x_vr c384_167 r384 ((H.2.2 h4).2.1 h1))) (fun h2 => (x_aldn c384_62 rfl (x_ildn c384_63 rfl (wp_wk (l' := [some (jR 133), none, some (jI v2), none, none]) ⟨rfl, ⟨rfl, trivial⟩⟩ (x_cv (As := [jI v2]) (st := []) c384_64 cl_133 kl389 rfl (Nat.le_of_ble_eq_true rfl) mx389 (Nat.le_refl _) ((H.2.2 h4).2.2 h2))))))))))))
theorem s384_67 {kc : List va_E} {d : Nat} {v2 u0 : Int} {M : fx_M} {Q : Option fx_V → fx_M → Prop} (H : ((fx_in32 u0)) ∧ (0 ≤ u0 → wp kc (d + 1) 384 86 [some (jR 133), none, some (jI v2), some (jI u0), some (jI 0)] [] M Q) ∧ (u0 < 0 → wc kc d 388 [jR 133, jI v2] M (fun v M1 => wp kc (d + 1) 384 77 [some (jR 133), none, some (jI v2), none, none] (v.toList ++ []) M1 Q))) : wp kc (d + 1) 384 67 [some (jR 133), none, some (jI v2), none, none] [jI u0] M Q :=
  (x_istn (l' := [some (jR 133), none, some (jI v2), some (jI u0), none]) c384_67 rfl (x_ildn c384_68 rfl (x_zge c384_69 H.1 (fun h1 => (x_ci c384_83 (x_ist (l' := [some (jR 133), none, some (jI v2), some (jI u0), some (jI 0)]) c384_84 rfl (wp_wk (l' := [some (jR 133), none, some (jI v2), some (jI u0), some (jI 0)]) ⟨rfl, ⟨rfl, ⟨rfl, ⟨rfl, trivial⟩⟩⟩⟩ (H.2.1 h1))))) (fun h2 => (x_aldn c384_72 rfl (x_ildn c384_73 rfl (wp_wk (l' := [some (jR 133), none, some (jI v2), none, none]) ⟨rfl, ⟨rfl, trivial⟩⟩ (x_cv (As := [jI v2]) (st := []) c384_74 cl_133 kl388 rfl (Nat.le_of_ble_eq_true rfl) mx388 (Nat.le_refl _) (H.2.2 h2)))))))))
theorem s384_77 {kc : List va_E} {d : Nat} {v2 : Int} {M : fx_M} {Q : Option fx_V → fx_M → Prop} (H : wp kc (d + 1) 384 51 [some (jR 133), none, some (jI (v2 + (-1))), none, none] [] M Q) : wp kc (d + 1) 384 77 [some (jR 133), none, some (jI v2), none, none] [] M Q :=
  (x_inc (l' := [some (jR 133), none, some (jI (v2 + (-1))), none, none]) c384_77 rfl rfl (x_goto c384_80 (wp_wk (l' := [some (jR 133), none, some (jI (v2 + (-1))), none, none]) ⟨rfl, ⟨rfl, trivial⟩⟩ H)))
theorem s384_86 {kc : List va_E} {d : Nat} {v2 v3 v4 : Int} {M : fx_M} {Q : Option fx_V → fx_M → Prop} (H : ((fx_in32 v4)) ∧ (9 ≤ v4 → (((0 : Int) ≤ v2 ∧ v2 < 10)) ∧ (((0 : Int) ≤ M 161 v2 ∧ M 161 v2 < 9)) ∧ (((0 : Int) ≤ v2 ∧ v2 < 10)) ∧ (((0 : Int) ≤ v2 ∧ v2 < 10)) ∧ (((0 : Int) ≤ v2 ∧ v2 < 10)) ∧ wc kc d 386 [jR 133, jI (v2 + 1)] (fx_up (fx_up (fx_up M 156 (M 161 v2) (fx_shl 1 v3)) 163 v2 (M 161 v2)) 164 v2 v3) (fun v M1 => wp kc (d + 1) 384 158 [some (jR 133), none, some (jI v2), none, none] (v.toList ++ []) M1 Q)) ∧ (v4 < 9 → (((0 : Int) ≤ (9 * v2) + v4 ∧ (9 * v2) + v4 < 90)) ∧ (((0 : Int) ≤ v4 ∧ v4 < 9)) ∧ wp kc (d + 1) 384 86 [some (jR 133), none, some (jI v2), some (jI v3), some (jI (v4 + 1))] [] (fx_up M 156 v4 (M 160 ((9 * v2) + v4))) Q)) : wp kc (d + 1) 384 86 [some (jR 133), none, some (jI v2), some (jI v3), some (jI v4)] [] M Q :=
  (x_ild c384_86 rfl (x_ci c384_88 (x_cge c384_90 H.1 (by decide) (fun h1 => (x_aldn c384_118 rfl (x_gfr c384_119 k_133_47 (x_aldn c384_122 rfl (x_gfr c384_123 k_133_63 (x_ildn c384_126 rfl (x_iald c384_127 a_161 (H.2.1 h1).1 (by decide) (x_ci c384_128 (x_ildn c384_129 rfl (x_ishl c384_130 (x_iast c384_131 a_156 (H.2.1 h1).2.1 (by decide) (x_aldn c384_132 rfl (x_gfr c384_133 k_133_65 (x_ildn c384_136 rfl (x_aldn c384_137 rfl (x_gfr c384_138 k_133_63 (x_ildn c384_141 rfl (x_iald c384_142 a_161 (H.2.1 h1).2.2.1 (by decide) (wp_vI (fx_upA (by decide)) (x_iast c384_143 a_163 (H.2.1 h1).2.2.2.1 (by decide) (x_aldn c384_144 rfl (x_gfr c384_145 k_133_66 (x_ildn c384_148 rfl (x_ildn c384_149 rfl (x_iast c384_150 a_164 (H.2.1 h1).2.2.2.2.1 (by decide) (x_aldn c384_151 rfl (x_ildn c384_152 rfl (x_ci c384_153 (x_iadd c384_154 (wp_wk (l' := [some (jR 133), none, some (jI v2), none, none]) ⟨rfl, ⟨rfl, trivial⟩⟩ (x_cv (As := [jI (v2 + 1)]) (st := []) c384_155 cl_133 kl386 rfl (Nat.le_of_ble_eq_true rfl) mx386 (Nat.le_refl _) (H.2.1 h1).2.2.2.2.2))))))))))))))))))))))))))))))) (fun h2 => (x_aldn c384_93 rfl (x_gfr c384_94 k_133_47 (x_ild c384_97 rfl (x_aldn c384_99 rfl (x_gfr c384_100 k_133_62 (x_ci c384_103 (x_ildn c384_105 rfl (x_imul c384_106 (x_ild c384_107 rfl (x_iadd c384_109 (x_iald c384_110 a_160 (H.2.2 h2).1 (by decide) (x_iast c384_111 a_156 (H.2.2 h2).2.1 (by decide) (x_inc (l' := [some (jR 133), none, some (jI v2), some (jI v3), some (jI (v4 + 1))]) c384_112 rfl rfl (x_goto c384_115 (wp_wk (l' := [some (jR 133), none, some (jI v2), some (jI v3), some (jI (v4 + 1))]) ⟨rfl, ⟨rfl, ⟨rfl, ⟨rfl, trivial⟩⟩⟩⟩ (H.2.2 h2).2.2)))))))))))))))))))
theorem s384_158 {kc : List va_E} {d : Nat} {v2 u0 : Int} {M : fx_M} {Q : Option fx_V → fx_M → Prop} (H : ((fx_in32 u0)) ∧ wp kc (d + 1) 384 51 [some (jR 133), none, some (jI (if u0 = 0 then (v2 : Int) else v2 + 1)), none, none] [] M Q) : wp kc (d + 1) 384 158 [some (jR 133), none, some (jI v2), none, none] [jI u0] M Q :=
  (have K : wp kc (d + 1) 384 164 [some (jR 133), none, some (jI (if u0 = 0 then (v2 : Int) else v2 + 1)), none, none] [] M Q := (x_goto c384_164 (wp_wk (l' := [some (jR 133), none, some (jI (if u0 = 0 then (v2 : Int) else v2 + 1)), none, none]) ⟨rfl, ⟨rfl, trivial⟩⟩ H.2)); (x_zeq c384_158 H.1 (fun (h1 : u0 = 0) => (wp_wk (l' := [some (jR 133), none, some (jI v2), none, none]) ⟨rfl, ⟨rfl, trivial⟩⟩ (by have K := K; first | (simp only [if_pos h1] at K ⊢; exact K) | (exfalso; omega)))) (fun (h2 : u0 ≠ 0) => (x_inc (l' := [some (jR 133), none, some (jI (v2 + 1)), none, none]) c384_161 rfl rfl (wp_wk (l' := [some (jR 133), none, some (jI (v2 + 1)), none, none]) ⟨rfl, ⟨rfl, trivial⟩⟩ (by have K := K; first | (simp only [if_neg h2] at K ⊢; exact K) | (exfalso; omega)))))))
theorem s384 {kc : List va_E} {d : Nat} {x1 : Int} {M : fx_M} {Q : Option fx_V → fx_M → Prop} (H : (((0 : Int) ≤ x1 ∧ x1 ≤ 1)) ∧ ((fx_in32 x1)) ∧ (x1 = 0 → wc kc d 295 [jR 133] (fx_up (fx_up (fx_up (fx_up (fx_up M 133 56 x1) 133 57 0) 133 58 0) 133 59 0) 133 60 0) (fun v M1 => wp kc (d + 1) 384 37 [some (jR 133), none, none, none, none] (v.toList ++ []) M1 Q)) ∧ (x1 ≠ 0 → wc kc d 385 [jR 133] (fx_up (fx_up (fx_up (fx_up (fx_up M 133 56 x1) 133 57 0) 133 58 0) 133 59 0) 133 60 0) (fun v M1 => wp kc (d + 1) 384 33 [some (jR 133), none, none, none, none] (v.toList ++ []) M1 Q))) : wc kc (d + 1) 384 [jR 133, jI x1] M Q :=
  wc_of (wp_wk (l' := [some (jR 133), some (jI x1), none, none, none]) ⟨rfl, ⟨rfl, trivial⟩⟩ (s384_0 H))

/- PuzzleHouseModel.sayGivens()V -/
theorem c385_0 : fx_ci 385 0 = some (0, 1) := by decide +kernel
theorem c385_1 : fx_op 385 1 = some (.istore_n 1, 2, 1) := by decide +kernel
theorem c385_2 : fx_op 385 2 = some (.iload_n 1, 3, 2) := by decide +kernel
theorem c385_3 : fx_op 385 3 = some (.aload_n 0, 4, 3) := by decide +kernel
theorem c385_4 : fx_ca 385 4 = some (248, 1, 2, 7) := by decide +kernel
theorem c385_7 : fx_op 385 7 = some (.if_icmp .ge 46, 10, 53) := by decide +kernel
theorem c385_10 : fx_op 385 10 = some (.aload_n 0, 11, 10) := by decide +kernel
theorem c385_11 : fx_op 385 11 = some (.iload_n 1, 12, 11) := by decide +kernel
theorem c385_53 : fx_op 385 53 = some (.return_, 54, 53) := by decide +kernel
theorem c385_12 : fx_ca 385 12 = some (271, 2, 2, 15) := by decide +kernel
theorem c385_15 : fx_op 385 15 = some (.ifCond .ge 6, 18, 21) := by decide +kernel
theorem c385_21 : fx_op 385 21 = some (.aload_n 0, 22, 21) := by decide +kernel
theorem c385_22 : fx_ci 385 22 = some (103, 24) := by decide +kernel
theorem c385_47 : fx_op 385 47 = some (.iinc 1 1, 50, 47) := by decide +kernel
theorem c385_24 : fx_ca 385 24 = some (254, 2, 2, 27) := by decide +kernel
theorem c385_18 : fx_op 385 18 = some (.goto 29, 21, 47) := by decide +kernel
theorem c385_50 : fx_op 385 50 = some (.goto (-48), 53, 2) := by decide +kernel
theorem c385_27 : fx_op 385 27 = some (.aload_n 0, 28, 27) := by decide +kernel
theorem c385_28 : fx_op 385 28 = some (.iload_n 1, 29, 28) := by decide +kernel
theorem c385_29 : fx_ca 385 29 = some (256, 2, 2, 32) := by decide +kernel
theorem c385_32 : fx_op 385 32 = some (.aload_n 0, 33, 32) := by decide +kernel
theorem c385_33 : fx_ci 385 33 = some (1, 34) := by decide +kernel
theorem c385_34 : fx_op 385 34 = some (.iload_n 1, 35, 34) := by decide +kernel
theorem c385_35 : fx_op 385 35 = some (.aload_n 0, 36, 35) := by decide +kernel
theorem c385_36 : fx_op 385 36 = some (.iload_n 1, 37, 36) := by decide +kernel
theorem c385_37 : fx_ca 385 37 = some (271, 2, 2, 40) := by decide +kernel
theorem c385_40 : fx_ca 385 40 = some (316, 4, 2, 43) := by decide +kernel
theorem c385_43 : fx_op 385 43 = some (.aload_n 0, 44, 43) := by decide +kernel
theorem c385_44 : fx_ca 385 44 = some (317, 1, 2, 47) := by decide +kernel
theorem s385_0 {kc : List va_E} {d : Nat} {M : fx_M} {Q : Option fx_V → fx_M → Prop} (H : wp kc (d + 1) 385 2 [some (jR 133), some (jI 0)] [] M Q) : wp kc (d + 1) 385 0 [some (jR 133), none] [] M Q :=
  (x_ci c385_0 (x_istn (l' := [some (jR 133), some (jI 0)]) c385_1 rfl (wp_wk (l' := [some (jR 133), some (jI 0)]) ⟨rfl, ⟨rfl, trivial⟩⟩ H)))
theorem s385_2 {kc : List va_E} {d : Nat} {v1 : Int} {M : fx_M} {Q : Option fx_V → fx_M → Prop} (H : wc kc d 248 [jR 133] M (fun v M1 => wp kc (d + 1) 385 7 [some (jR 133), some (jI v1)] (v.toList ++ [jI v1]) M1 Q)) : wp kc (d + 1) 385 2 [some (jR 133), some (jI v1)] [] M Q :=
  (x_ildn c385_2 rfl (x_aldn c385_3 rfl (wp_wk (l' := [some (jR 133), some (jI v1)]) ⟨rfl, ⟨rfl, trivial⟩⟩ (x_cv (As := []) (st := [jI v1]) c385_4 cl_133 kl248 rfl (Nat.le_of_ble_eq_true rfl) mx248 (Nat.le_refl _) H))))
theorem s385_7 {kc : List va_E} {d : Nat} {v1 u0 u1 : Int} {M : fx_M} {Q : Option fx_V → fx_M → Prop} (H : ((fx_in32 u1) ∧ (fx_in32 u0)) ∧ (u0 ≤ u1 → Q none M) ∧ (u1 < u0 → wc kc d 271 [jR 133, jI v1] M (fun v M1 => wp kc (d + 1) 385 15 [some (jR 133), some (jI v1)] (v.toList ++ []) M1 Q))) : wp kc (d + 1) 385 7 [some (jR 133), some (jI v1)] [jI u0, jI u1] M Q :=
  (x_cge c385_7 H.1.1 H.1.2 (fun h1 => (x_vr c385_53 r385 (H.2.1 h1))) (fun h2 => (x_aldn c385_10 rfl (x_ildn c385_11 rfl (wp_wk (l' := [some (jR 133), some (jI v1)]) ⟨rfl, ⟨rfl, trivial⟩⟩ (x_cv (As := [jI v1]) (st := []) c385_12 cl_133 kl271 rfl (Nat.le_of_ble_eq_true rfl) mx271 (Nat.le_refl _) (H.2.2 h2)))))))
theorem s385_15 {kc : List va_E} {d : Nat} {v1 u0 : Int} {M : fx_M} {Q : Option fx_V → fx_M → Prop} (H : ((fx_in32 u0)) ∧ (0 ≤ u0 → wc kc d 254 [jR 133, jI 103] M (fun v M1 => wp kc (d + 1) 385 27 [some (jR 133), some (jI v1)] (v.toList ++ []) M1 Q)) ∧ (u0 < 0 → wp kc (d + 1) 385 2 [some (jR 133), some (jI (v1 + 1))] [] M Q)) : wp kc (d + 1) 385 15 [some (jR 133), some (jI v1)] [jI u0] M Q :=
  (x_zge c385_15 H.1 (fun h1 => (x_aldn c385_21 rfl (x_ci c385_22 (wp_wk (l' := [some (jR 133), some (jI v1)]) ⟨rfl, ⟨rfl, trivial⟩⟩ (x_cv (As := [jI 103]) (st := []) c385_24 cl_133 kl254 rfl (Nat.le_of_ble_eq_true rfl) mx254 (Nat.le_refl _) (H.2.1 h1)))))) (fun h2 => (x_goto c385_18 (x_inc (l' := [some (jR 133), some (jI (v1 + 1))]) c385_47 rfl rfl (x_goto c385_50 (wp_wk (l' := [some (jR 133), some (jI (v1 + 1))]) ⟨rfl, ⟨rfl, trivial⟩⟩ (H.2.2 h2)))))))
theorem s385_27 {kc : List va_E} {d : Nat} {v1 : Int} {M : fx_M} {Q : Option fx_V → fx_M → Prop} (H : wc kc d 256 [jR 133, jI v1] M (fun v M1 => wp kc (d + 1) 385 32 [some (jR 133), some (jI v1)] (v.toList ++ []) M1 Q)) : wp kc (d + 1) 385 27 [some (jR 133), some (jI v1)] [] M Q :=
  (x_aldn c385_27 rfl (x_ildn c385_28 rfl (wp_wk (l' := [some (jR 133), some (jI v1)]) ⟨rfl, ⟨rfl, trivial⟩⟩ (x_cv (As := [jI v1]) (st := []) c385_29 cl_133 kl256 rfl (Nat.le_of_ble_eq_true rfl) mx256 (Nat.le_refl _) H))))
theorem s385_32 {kc : List va_E} {d : Nat} {v1 : Int} {M : fx_M} {Q : Option fx_V → fx_M → Prop} (H : wc kc d 271 [jR 133, jI v1] M (fun v M1 => wp kc (d + 1) 385 40 [some (jR 133), some (jI v1)] (v.toList ++ [jI v1, jI 1, jR 133]) M1 Q)) : wp kc (d + 1) 385 32 [some (jR 133), some (jI v1)] [] M Q :=
  (x_aldn c385_32 rfl (x_ci c385_33 (x_ildn c385_34 rfl (x_aldn c385_35 rfl (x_ildn c385_36 rfl (wp_wk (l' := [some (jR 133), some (jI v1)]) ⟨rfl, ⟨rfl, trivial⟩⟩ (x_cv (As := [jI v1]) (st := [jI v1, jI 1, jR 133]) c385_37 cl_133 kl271 rfl (Nat.le_of_ble_eq_true rfl) mx271 (Nat.le_refl _) H)))))))
theorem s385_40 {kc : List va_E} {d : Nat} {v1 u0 u1 u2 : Int} {M : fx_M} {Q : Option fx_V → fx_M → Prop} (H : wc kc d 316 [jR 133, jI u2, jI u1, jI u0] M (fun v M1 => wp kc (d + 1) 385 43 [some (jR 133), some (jI v1)] (v.toList ++ []) M1 Q)) : wp kc (d + 1) 385 40 [some (jR 133), some (jI v1)] [jI u0, jI u1, jI u2, jR 133] M Q :=
  (wp_wk (l' := [some (jR 133), some (jI v1)]) ⟨rfl, ⟨rfl, trivial⟩⟩ (x_cv (As := [jI u2, jI u1, jI u0]) (st := []) c385_40 cl_133 kl316 rfl (Nat.le_of_ble_eq_true rfl) mx316 (Nat.le_refl _) H))
theorem s385_43 {kc : List va_E} {d : Nat} {v1 : Int} {M : fx_M} {Q : Option fx_V → fx_M → Prop} (H : wc kc d 317 [jR 133] M (fun v M1 => wp kc (d + 1) 385 47 [some (jR 133), some (jI v1)] (v.toList ++ []) M1 Q)) : wp kc (d + 1) 385 43 [some (jR 133), some (jI v1)] [] M Q :=
  (x_aldn c385_43 rfl (wp_wk (l' := [some (jR 133), some (jI v1)]) ⟨rfl, ⟨rfl, trivial⟩⟩ (x_cv (As := []) (st := []) c385_44 cl_133 kl317 rfl (Nat.le_of_ble_eq_true rfl) mx317 (Nat.le_refl _) H)))
theorem s385_47 {kc : List va_E} {d : Nat} {v1 : Int} {M : fx_M} {Q : Option fx_V → fx_M → Prop} (H : wp kc (d + 1) 385 2 [some (jR 133), some (jI (v1 + 1))] [] M Q) : wp kc (d + 1) 385 47 [some (jR 133), some (jI v1)] [] M Q :=
  (x_inc (l' := [some (jR 133), some (jI (v1 + 1))]) c385_47 rfl rfl (x_goto c385_50 (wp_wk (l' := [some (jR 133), some (jI (v1 + 1))]) ⟨rfl, ⟨rfl, trivial⟩⟩ H)))
theorem s385 {kc : List va_E} {d : Nat} {M : fx_M} {Q : Option fx_V → fx_M → Prop} (H : wp kc (d + 1) 385 2 [some (jR 133), some (jI 0)] [] M Q) : wc kc (d + 1) 385 [jR 133] M Q :=
  wc_of (wp_wk (l' := [some (jR 133), none]) ⟨rfl, trivial⟩ (s385_0 H))

/- PuzzleHouseModel.arrive(I)Z -/
theorem c386_0 : fx_op 386 0 = some (.aload_n 0, 1, 0) := by decide +kernel
theorem c386_1 : fx_op 386 1 = some (.dup, 2, 1) := by decide +kernel
theorem c386_2 : fx_gf 386 2 = some (12, 58, 5) := by decide +kernel
theorem c386_5 : fx_ci 386 5 = some (1, 6) := by decide +kernel
theorem c386_6 : fx_op 386 6 = some (.iadd, 7, 6) := by decide +kernel
theorem c386_7 : fx_pf 386 7 = some (12, 58, 0, 10) := by decide +kernel
theorem c386_10 : fx_op 386 10 = some (.aload_n 0, 11, 10) := by decide +kernel
theorem c386_11 : fx_gf 386 11 = some (12, 58, 14) := by decide +kernel
theorem c386_14 : fx_ci 386 14 = some (100, 16) := by decide +kernel
theorem c386_16 : fx_op 386 16 = some (.if_icmp .le 10, 19, 26) := by decide +kernel
theorem c386_26 : fx_op 386 26 = some (.aload_n 0, 27, 26) := by decide +kernel
theorem c386_27 : fx_op 386 27 = some (.iload_n 1, 28, 27) := by decide +kernel
theorem c386_28 : fx_op 386 28 = some (.aload_n 0, 29, 28) := by decide +kernel
theorem c386_29 : fx_gf 386 29 = some (12, 60, 32) := by decide +kernel
theorem c386_32 : fx_op 386 32 = some (.if_icmp .le 7, 35, 39) := by decide +kernel
theorem c386_39 : fx_op 386 39 = some (.aload_n 0, 40, 39) := by decide +kernel
theorem c386_40 : fx_gf 386 40 = some (12, 60, 43) := by decide +kernel
theorem c386_35 : fx_op 386 35 = some (.iload_n 1, 36, 35) := by decide +kernel
theorem c386_36 : fx_op 386 36 = some (.goto 7, 39, 43) := by decide +kernel
theorem c386_43 : fx_pf 386 43 = some (12, 60, 0, 46) := by decide +kernel
theorem c386_46 : fx_op 386 46 = some (.aload_n 0, 47, 46) := by decide +kernel
theorem c386_19 : fx_op 386 19 = some (.aload_n 0, 20, 19) := by decide +kernel
theorem c386_20 : fx_ci 386 20 = some (1, 21) := by decide +kernel
theorem c386_21 : fx_pf 386 21 = some (12, 57, 2, 24) := by decide +kernel
theorem c386_24 : fx_ci 386 24 = some (0, 25) := by decide +kernel
theorem c386_47 : fx_ca 386 47 = some (313, 1, 2, 50) := by decide +kernel
theorem c386_25 : fx_op 386 25 = some (.ireturn, 26, 25) := by decide +kernel
theorem c386_50 : fx_op 386 50 = some (.istore_n 2, 51, 50) := by decide +kernel
theorem c386_51 : fx_op 386 51 = some (.iload_n 1, 52, 51) := by decide +kernel
theorem c386_52 : fx_op 386 52 = some (.ifCond .ne 11, 55, 63) := by decide +kernel
theorem c386_55 : fx_op 386 55 = some (.aload_n 0, 56, 55) := by decide +kernel
theorem c386_56 : fx_op 386 56 = some (.aload_n 0, 57, 56) := by decide +kernel
theorem c386_57 : fx_gf 386 57 = some (12, 59, 60) := by decide +kernel
theorem c386_63 : fx_op 386 63 = some (.iload_n 2, 64, 63) := by decide +kernel
theorem c386_64 : fx_op 386 64 = some (.ifCond .eq 10, 67, 74) := by decide +kernel
theorem c386_74 : fx_ci 386 74 = some ((-1), 75) := by decide +kernel
theorem c386_67 : fx_op 386 67 = some (.aload_n 0, 68, 67) := by decide +kernel
theorem c386_75 : fx_op 386 75 = some (.istore_n 3, 76, 75) := by decide +kernel
theorem c386_76 : fx_op 386 76 = some (.iload_n 2, 77, 76) := by decide +kernel
theorem c386_77 : fx_op 386 77 = some (.ifCond .eq 25, 80, 102) := by decide +kernel
theorem c386_80 : fx_op 386 80 = some (.iload_n 3, 81, 80) := by decide +kernel
theorem c386_81 : fx_op 386 81 = some (.ifCond .ge 21, 84, 102) := by decide +kernel
theorem c386_84 : fx_op 386 84 = some (.aload_n 0, 85, 84) := by decide +kernel
theorem c386_85 : fx_gf 386 85 = some (12, 56, 88) := by decide +kernel
theorem c386_88 : fx_op 386 88 = some (.ifCond .eq 14, 91, 102) := by decide +kernel
theorem c386_91 : fx_op 386 91 = some (.aload_n 0, 92, 91) := by decide +kernel
theorem c386_92 : fx_gf 386 92 = some (12, 57, 95) := by decide +kernel
theorem c386_95 : fx_op 386 95 = some (.ifCond .ne 7, 98, 102) := by decide +kernel
theorem c386_98 : fx_op 386 98 = some (.aload_n 0, 99, 98) := by decide +kernel
theorem c386_102 : fx_op 386 102 = some (.iload_n 3, 103, 102) := by decide +kernel
theorem c386_103 : fx_op 386 103 = some (.ifCond .ge 10, 106, 113) := by decide +kernel
theorem c386_106 : fx_op 386 106 = some (.aload_n 0, 107, 106) := by decide +kernel
theorem c386_107 : fx_op 386 107 = some (.iload_n 1, 108, 107) := by decide +kernel
theorem c386_60 : fx_pf 386 60 = some (12, 61, 0, 63) := by decide +kernel
theorem c386_108 : fx_ca 386 108 = some (388, 2, 2, 111) := by decide +kernel
theorem c386_99 : fx_ca 386 99 = some (387, 1, 2, 102) := by decide +kernel
theorem c386_68 : fx_ca 386 68 = some (320, 1, 2, 71) := by decide +kernel
theorem c386_111 : fx_ci 386 111 = some (0, 112) := by decide +kernel
theorem c386_112 : fx_op 386 112 = some (.ireturn, 113, 112) := by decide +kernel
theorem c386_113 : fx_ci 386 113 = some (0, 114) := by decide +kernel
theorem c386_114 : fx_op 386 114 = some (.istore 4, 116, 114) := by decide +kernel
theorem c386_71 : fx_op 386 71 = some (.goto 4, 74, 75) := by decide +kernel
theorem c386_116 : fx_op 386 116 = some (.iload 4, 118, 116) := by decide +kernel
theorem c386_118 : fx_ci 386 118 = some (9, 120) := by decide +kernel
theorem c386_120 : fx_op 386 120 = some (.if_icmp .ge 28, 123, 148) := by decide +kernel
theorem c386_123 : fx_op 386 123 = some (.aload_n 0, 124, 123) := by decide +kernel
theorem c386_124 : fx_gf 386 124 = some (12, 62, 127) := by decide +kernel
theorem c386_127 : fx_ci 386 127 = some (9, 129) := by decide +kernel
theorem c386_129 : fx_op 386 129 = some (.iload_n 1, 130, 129) := by decide +kernel
theorem c386_130 : fx_op 386 130 = some (.imul, 131, 130) := by decide +kernel
theorem c386_131 : fx_op 386 131 = some (.iload 4, 133, 131) := by decide +kernel
theorem c386_133 : fx_op 386 133 = some (.iadd, 134, 133) := by decide +kernel
theorem c386_134 : fx_op 386 134 = some (.aload_n 0, 135, 134) := by decide +kernel
theorem c386_135 : fx_gf 386 135 = some (12, 47, 138) := by decide +kernel
theorem c386_138 : fx_op 386 138 = some (.iload 4, 140, 138) := by decide +kernel
theorem c386_140 : fx_op 386 140 = some (.iaload, 141, 140) := by decide +kernel
theorem c386_148 : fx_op 386 148 = some (.aload_n 0, 149, 148) := by decide +kernel
theorem c386_149 : fx_gf 386 149 = some (12, 63, 152) := by decide +kernel
theorem c386_152 : fx_op 386 152 = some (.iload_n 1, 153, 152) := by decide +kernel
theorem c386_153 : fx_op 386 153 = some (.iload_n 3, 154, 153) := by decide +kernel
theorem c386_155 : fx_op 386 155 = some (.aload_n 0, 156, 155) := by decide +kernel
theorem c386_156 : fx_gf 386 156 = some (12, 64, 159) := by decide +kernel
theorem c386_159 : fx_op 386 159 = some (.iload_n 1, 160, 159) := by decide +kernel
theorem c386_160 : fx_ci 386 160 = some ((-1), 161) := by decide +kernel
theorem c386_162 : fx_ci 386 162 = some (1, 163) := by decide +kernel
theorem c386_142 : fx_op 386 142 = some (.iinc 4 1, 145, 142) := by decide +kernel
theorem c386_154 : fx_op 386 154 = some (.iastore, 155, 154) := by decide +kernel
theorem c386_161 : fx_op 386 161 = some (.iastore, 162, 161) := by decide +kernel
theorem c386_163 : fx_op 386 163 = some (.ireturn, 164, 163) := by decide +kernel
theorem c386_141 : fx_op 386 141 = some (.iastore, 142, 141) := by decide +kernel
theorem c386_145 : fx_op 386 145 = some (.goto (-29), 148, 116) := by decide +kernel
theorem s386_0 {kc : List va_E} {d : Nat} {x1 : Int} {M : fx_M} {Q : Option fx_V → fx_M → Prop} (H : ((fx_in32 ((M 133 58) + 1))) ∧ ((M 133 58) + 1 ≤ 100 → ((fx_in32 x1)) ∧ ((fx_in32 (M 133 60))) ∧ wc kc d 313 [jR 133] (fx_up (fx_up M 133 58 ((M 133 58) + 1)) 133 60 (if M 133 60 < x1 then (x1 : Int) else M 133 60)) (fun v M1 => wp kc (d + 1) 386 50 [some (jR 133), some (jI x1), none, none, none] (v.toList ++ []) M1 Q)) ∧ (100 < (M 133 58) + 1 → Q (some (jI 0)) (fx_up (fx_up M 133 58 ((M 133 58) + 1)) 133 57 1))) : wp kc (d + 1) 386 0 [some (jR 133), some (jI x1), none, none, none] [] M Q :=
  (x_aldn c386_0 rfl (x_dupr c386_1 (x_gfi c386_2 k_133_58 (x_ci c386_5 (x_iadd c386_6 (x_pfi c386_7 k_133_58 (x_aldn c386_10 rfl (x_gfi c386_11 k_133_58 (wp_vI (fx_upS) (x_ci c386_14 (x_cle c386_16 H.1 (by decide) (fun h1 => (x_aldn c386_26 rfl (x_ildn c386_27 rfl (x_aldn c386_28 rfl (x_gfi c386_29 k_133_60 (wp_vI (fx_upK (by decide)) (have K : wp kc (d + 1) 386 43 [some (jR 133), some (jI x1), none, none, none] [jI (if M 133 60 < x1 then (x1 : Int) else M 133 60), jR 133] (fx_up M 133 58 ((M 133 58) + 1)) Q := (x_pfi c386_43 k_133_60 (x_aldn c386_46 rfl (wp_wk (l' := [some (jR 133), some (jI x1), none, none, none]) ⟨rfl, ⟨rfl, trivial⟩⟩ (x_cv (As := []) (st := []) c386_47 cl_133 kl313 rfl (Nat.le_of_ble_eq_true rfl) mx313 (Nat.le_refl _) (H.2.1 h1).2.2)))); (x_cle c386_32 (H.2.1 h1).1 (H.2.1 h1).2.1 (fun (h3 : x1 ≤ M 133 60) => (x_aldn c386_39 rfl (x_gfi c386_40 k_133_60 (wp_vI (fx_upK (by decide)) (wp_wk (l' := [some (jR 133), some (jI x1), none, none, none]) ⟨rfl, ⟨rfl, trivial⟩⟩ (by have K := K; first | (simp only [if_neg (Int.not_lt.mpr h3)] at K ⊢; exact K) | (exfalso; omega))))))) (fun (h4 : M 133 60 < x1) => (x_ildn c386_35 rfl (x_goto c386_36 (wp_wk (l' := [some (jR 133), some (jI x1), none, none, none]) ⟨rfl, ⟨rfl, trivial⟩⟩ (by have K := K; first | (simp only [if_pos h4] at K ⊢; exact K) | (exfalso; omega)))))))))))))) (fun h2 => (x_aldn c386_19 rfl (x_ci c386_20 (x_pfz c386_21 k_133_57 (by decide) (x_ci c386_24 (x_zrt c386_25 r386 (by decide) (H.2.2 h2))))))))))))))))))
theorem s386_50 {kc : List va_E} {d : Nat} {v1 u0 : Int} {M : fx_M} {Q : Option fx_V → fx_M → Prop} (H : ((fx_in32 v1)) ∧ (v1 ≠ 0 → ((fx_in32 u0)) ∧ (u0 = 0 → ((fx_in32 u0)) ∧ (u0 = 0 → wc kc d 388 [jR 133, jI v1] M (fun v M1 => wp kc (d + 1) 386 111 [none, none, none, none, none] (v.toList ++ []) M1 Q)) ∧ (u0 ≠ 0 → ((fx_in32 (M 133 56))) ∧ (M 133 56 = 0 → wc kc d 388 [jR 133, jI v1] M (fun v M1 => wp kc (d + 1) 386 111 [none, none, none, none, none] (v.toList ++ []) M1 Q)) ∧ (M 133 56 ≠ 0 → ((fx_in32 (M 133 57))) ∧ (M 133 57 ≠ 0 → wc kc d 388 [jR 133, jI v1] M (fun v M1 => wp kc (d + 1) 386 111 [none, none, none, none, none] (v.toList ++ []) M1 Q)) ∧ (M 133 57 = 0 → wc kc d 387 [jR 133] M (fun v M1 => wp kc (d + 1) 386 102 [some (jR 133), some (jI v1), none, some (jI (-1)), none] (v.toList ++ []) M1 Q))))) ∧ (u0 ≠ 0 → wc kc d 320 [jR 133] M (fun v M1 => wp kc (d + 1) 386 71 [some (jR 133), some (jI v1), some (jI u0), none, none] (v.toList ++ []) M1 Q))) ∧ (v1 = 0 → ((fx_in32 u0)) ∧ (u0 = 0 → ((fx_in32 u0)) ∧ (u0 = 0 → wc kc d 388 [jR 133, jI v1] (fx_up M 133 61 (M 133 59)) (fun v M1 => wp kc (d + 1) 386 111 [none, none, none, none, none] (v.toList ++ []) M1 Q)) ∧ (u0 ≠ 0 → ((fx_in32 (M 133 56))) ∧ (M 133 56 = 0 → wc kc d 388 [jR 133, jI v1] (fx_up M 133 61 (M 133 59)) (fun v M1 => wp kc (d + 1) 386 111 [none, none, none, none, none] (v.toList ++ []) M1 Q)) ∧ (M 133 56 ≠ 0 → ((fx_in32 (M 133 57))) ∧ (M 133 57 ≠ 0 → wc kc d 388 [jR 133, jI v1] (fx_up M 133 61 (M 133 59)) (fun v M1 => wp kc (d + 1) 386 111 [none, none, none, none, none] (v.toList ++ []) M1 Q)) ∧ (M 133 57 = 0 → wc kc d 387 [jR 133] (fx_up M 133 61 (M 133 59)) (fun v M1 => wp kc (d + 1) 386 102 [some (jR 133), some (jI v1), none, some (jI (-1)), none] (v.toList ++ []) M1 Q))))) ∧ (u0 ≠ 0 → wc kc d 320 [jR 133] (fx_up M 133 61 (M 133 59)) (fun v M1 => wp kc (d + 1) 386 71 [some (jR 133), some (jI v1), some (jI u0), none, none] (v.toList ++ []) M1 Q)))) : wp kc (d + 1) 386 50 [some (jR 133), some (jI v1), none, none, none] [jI u0] M Q :=
  (x_istn (l' := [some (jR 133), some (jI v1), some (jI u0), none, none]) c386_50 rfl (x_ildn c386_51 rfl (x_zne c386_52 H.1 (fun h17 => (x_ildn c386_63 rfl (x_zeq c386_64 (H.2.1 h17).1 (fun h7 => (x_ci c386_74 (x_istn (l' := [some (jR 133), some (jI v1), some (jI u0), some (jI (-1)), none]) c386_75 rfl (x_ildn c386_76 rfl (x_zeq c386_77 ((H.2.1 h17).2.1 h7).1 (fun h5 => (x_ildn c386_102 rfl (x_zge c386_103 (by decide) (fun h => absurd h (by decide)) (fun _ => (x_aldn c386_106 rfl (x_ildn c386_107 rfl (wp_wk (l' := [none, none, none, none, none]) trivial (x_cv (As := [jI v1]) (st := []) c386_108 cl_133 kl388 rfl (Nat.le_of_ble_eq_true rfl) mx388 (Nat.le_refl _) (((H.2.1 h17).2.1 h7).2.1 h5))))))))) (fun h6 => (x_ildn c386_80 rfl (x_zge c386_81 (by decide) (fun h => absurd h (by decide)) (fun _ => (x_aldn c386_84 rfl (x_gfi c386_85 k_133_56 (x_zeq c386_88 (((H.2.1 h17).2.1 h7).2.2 h6).1 (fun h3 => (x_ildn c386_102 rfl (x_zge c386_103 (by decide) (fun h => absurd h (by decide)) (fun _ => (x_aldn c386_106 rfl (x_ildn c386_107 rfl (wp_wk (l' := [none, none, none, none, none]) trivial (x_cv (As := [jI v1]) (st := []) c386_108 cl_133 kl388 rfl (Nat.le_of_ble_eq_true rfl) mx388 (Nat.le_refl _) ((((H.2.1 h17).2.1 h7).2.2 h6).2.1 h3))))))))) (fun h4 => (x_aldn c386_91 rfl (x_gfi c386_92 k_133_57 (x_zne c386_95 ((((H.2.1 h17).2.1 h7).2.2 h6).2.2 h4).1 (fun h1 => (x_ildn c386_102 rfl (x_zge c386_103 (by decide) (fun h => absurd h (by decide)) (fun _ => (x_aldn c386_106 rfl (x_ildn c386_107 rfl (wp_wk (l' := [none, none, none, none, none]) trivial (x_cv (As := [jI v1]) (st := []) c386_108 cl_133 kl388 rfl (Nat.le_of_ble_eq_true rfl) mx388 (Nat.le_refl _) (((((H.2.1 h17).2.1 h7).2.2 h6).2.2 h4).2.1 h1))))))))) (fun h2 => (x_aldn c386_98 rfl (wp_wk (l' := [some (jR 133), some (jI v1), none, some (jI (-1)), none]) ⟨rfl, ⟨rfl, ⟨rfl, trivial⟩⟩⟩ (x_cv (As := []) (st := []) c386_99 cl_133 kl387 rfl (Nat.le_of_ble_eq_true rfl) mx387 (Nat.le_refl _) (((((H.2.1 h17).2.1 h7).2.2 h6).2.2 h4).2.2 h2))))))))))))))))))))) (fun h8 => (x_aldn c386_67 rfl (wp_wk (l' := [some (jR 133), some (jI v1), some (jI u0), none, none]) ⟨rfl, ⟨rfl, ⟨rfl, trivial⟩⟩⟩ (x_cv (As := []) (st := []) c386_68 cl_133 kl320 rfl (Nat.le_of_ble_eq_true rfl) mx320 (Nat.le_refl _) ((H.2.1 h17).2.2 h8)))))))) (fun h18 => (x_aldn c386_55 rfl (x_aldn c386_56 rfl (x_gfi c386_57 k_133_59 (x_pfi c386_60 k_133_61 (x_ildn c386_63 rfl (x_zeq c386_64 (H.2.2 h18).1 (fun h15 => (x_ci c386_74 (x_istn (l' := [some (jR 133), some (jI v1), some (jI u0), some (jI (-1)), none]) c386_75 rfl (x_ildn c386_76 rfl (x_zeq c386_77 ((H.2.2 h18).2.1 h15).1 (fun h13 => (x_ildn c386_102 rfl (x_zge c386_103 (by decide) (fun h => absurd h (by decide)) (fun _ => (x_aldn c386_106 rfl (x_ildn c386_107 rfl (wp_wk (l' := [none, none, none, none, none]) trivial (x_cv (As := [jI v1]) (st := []) c386_108 cl_133 kl388 rfl (Nat.le_of_ble_eq_true rfl) mx388 (Nat.le_refl _) (((H.2.2 h18).2.1 h15).2.1 h13))))))))) (fun h14 => (x_ildn c386_80 rfl (x_zge c386_81 (by decide) (fun h => absurd h (by decide)) (fun _ => (x_aldn c386_84 rfl (x_gfi c386_85 k_133_56 (wp_vI (fx_upK (by decide)) (x_zeq c386_88 (((H.2.2 h18).2.1 h15).2.2 h14).1 (fun h11 => (x_ildn c386_102 rfl (x_zge c386_103 (by decide) (fun h => absurd h (by decide)) (fun _ => (x_aldn c386_106 rfl (x_ildn c386_107 rfl (wp_wk (l' := [none, none, none, none, none]) trivial (x_cv (As := [jI v1]) (st := []) c386_108 cl_133 kl388 rfl (Nat.le_of_ble_eq_true rfl) mx388 (Nat.le_refl _) ((((H.2.2 h18).2.1 h15).2.2 h14).2.1 h11))))))))) (fun h12 => (x_aldn c386_91 rfl (x_gfi c386_92 k_133_57 (wp_vI (fx_upK (by decide)) (x_zne c386_95 ((((H.2.2 h18).2.1 h15).2.2 h14).2.2 h12).1 (fun h9 => (x_ildn c386_102 rfl (x_zge c386_103 (by decide) (fun h => absurd h (by decide)) (fun _ => (x_aldn c386_106 rfl (x_ildn c386_107 rfl (wp_wk (l' := [none, none, none, none, none]) trivial (x_cv (As := [jI v1]) (st := []) c386_108 cl_133 kl388 rfl (Nat.le_of_ble_eq_true rfl) mx388 (Nat.le_refl _) (((((H.2.2 h18).2.1 h15).2.2 h14).2.2 h12).2.1 h9))))))))) (fun h10 => (x_aldn c386_98 rfl (wp_wk (l' := [some (jR 133), some (jI v1), none, some (jI (-1)), none]) ⟨rfl, ⟨rfl, ⟨rfl, trivial⟩⟩⟩ (x_cv (As := []) (st := []) c386_99 cl_133 kl387 rfl (Nat.le_of_ble_eq_true rfl) mx387 (Nat.le_refl _) (((((H.2.2 h18).2.1 h15).2.2 h14).2.2 h12).2.2 h10))))))))))))))))))))))) (fun h16 => (x_aldn c386_67 rfl (wp_wk (l' := [some (jR 133), some (jI v1), some (jI u0), none, none]) ⟨rfl, ⟨rfl, ⟨rfl, trivial⟩⟩⟩ (x_cv (As := []) (st := []) c386_68 cl_133 kl320 rfl (Nat.le_of_ble_eq_true rfl) mx320 (Nat.le_refl _) ((H.2.2 h18).2.2 h16)))))))))))))))
theorem s386_71 {kc : List va_E} {d : Nat} {v1 v2 u0 : Int} {M : fx_M} {Q : Option fx_V → fx_M → Prop} (H : ((fx_in32 v2)) ∧ (v2 = 0 → ((fx_in32 u0)) ∧ (0 ≤ u0 → wp kc (d + 1) 386 116 [some (jR 133), some (jI v1), none, some (jI u0), some (jI 0)] [] M Q) ∧ (u0 < 0 → wc kc d 388 [jR 133, jI v1] M (fun v M1 => wp kc (d + 1) 386 111 [none, none, none, none, none] (v.toList ++ []) M1 Q))) ∧ (v2 ≠ 0 → ((fx_in32 u0)) ∧ (0 ≤ u0 → ((fx_in32 u0)) ∧ (0 ≤ u0 → wp kc (d + 1) 386 116 [some (jR 133), some (jI v1), none, some (jI u0), some (jI 0)] [] M Q) ∧ (u0 < 0 → wc kc d 388 [jR 133, jI v1] M (fun v M1 => wp kc (d + 1) 386 111 [none, none, none, none, none] (v.toList ++ []) M1 Q))) ∧ (u0 < 0 → ((fx_in32 (M 133 56))) ∧ (M 133 56 = 0 → ((fx_in32 u0)) ∧ (0 ≤ u0 → wp kc (d + 1) 386 116 [some (jR 133), some (jI v1), none, some (jI u0), some (jI 0)] [] M Q) ∧ (u0 < 0 → wc kc d 388 [jR 133, jI v1] M (fun v M1 => wp kc (d + 1) 386 111 [none, none, none, none, none] (v.toList ++ []) M1 Q))) ∧ (M 133 56 ≠ 0 → ((fx_in32 (M 133 57))) ∧ (M 133 57 ≠ 0 → ((fx_in32 u0)) ∧ (0 ≤ u0 → wp kc (d + 1) 386 116 [some (jR 133), some (jI v1), none, some (jI u0), some (jI 0)] [] M Q) ∧ (u0 < 0 → wc kc d 388 [jR 133, jI v1] M (fun v M1 => wp kc (d + 1) 386 111 [none, none, none, none, none] (v.toList ++ []) M1 Q))) ∧ (M 133 57 = 0 → wc kc d 387 [jR 133] M (fun v M1 => wp kc (d + 1) 386 102 [some (jR 133), some (jI v1), none, some (jI u0), none] (v.toList ++ []) M1 Q)))))) : wp kc (d + 1) 386 71 [some (jR 133), some (jI v1), some (jI v2), none, none] [jI u0] M Q :=
  (x_goto c386_71 (x_istn (l' := [some (jR 133), some (jI v1), some (jI v2), some (jI u0), none]) c386_75 rfl (x_ildn c386_76 rfl (x_zeq c386_77 H.1 (fun h15 => (x_ildn c386_102 rfl (x_zge c386_103 (H.2.1 h15).1 (fun h1 => (x_ci c386_113 (x_ist (l' := [some (jR 133), some (jI v1), some (jI v2), some (jI u0), some (jI 0)]) c386_114 rfl (wp_wk (l' := [some (jR 133), some (jI v1), none, some (jI u0), some (jI 0)]) ⟨rfl, ⟨rfl, ⟨rfl, ⟨rfl, trivial⟩⟩⟩⟩ ((H.2.1 h15).2.1 h1))))) (fun h2 => (x_aldn c386_106 rfl (x_ildn c386_107 rfl (wp_wk (l' := [none, none, none, none, none]) trivial (x_cv (As := [jI v1]) (st := []) c386_108 cl_133 kl388 rfl (Nat.le_of_ble_eq_true rfl) mx388 (Nat.le_refl _) ((H.2.1 h15).2.2 h2))))))))) (fun h16 => (x_ildn c386_80 rfl (x_zge c386_81 (H.2.2 h16).1 (fun h13 => (x_ildn c386_102 rfl (x_zge c386_103 ((H.2.2 h16).2.1 h13).1 (fun h3 => (x_ci c386_113 (x_ist (l' := [some (jR 133), some (jI v1), some (jI v2), some (jI u0), some (jI 0)]) c386_114 rfl (wp_wk (l' := [some (jR 133), some (jI v1), none, some (jI u0), some (jI 0)]) ⟨rfl, ⟨rfl, ⟨rfl, ⟨rfl, trivial⟩⟩⟩⟩ (((H.2.2 h16).2.1 h13).2.1 h3))))) (fun h4 => (x_aldn c386_106 rfl (x_ildn c386_107 rfl (wp_wk (l' := [none, none, none, none, none]) trivial (x_cv (As := [jI v1]) (st := []) c386_108 cl_133 kl388 rfl (Nat.le_of_ble_eq_true rfl) mx388 (Nat.le_refl _) (((H.2.2 h16).2.1 h13).2.2 h4))))))))) (fun h14 => (x_aldn c386_84 rfl (x_gfi c386_85 k_133_56 (x_zeq c386_88 ((H.2.2 h16).2.2 h14).1 (fun h11 => (x_ildn c386_102 rfl (x_zge c386_103 (((H.2.2 h16).2.2 h14).2.1 h11).1 (fun h5 => (x_ci c386_113 (x_ist (l' := [some (jR 133), some (jI v1), some (jI v2), some (jI u0), some (jI 0)]) c386_114 rfl (wp_wk (l' := [some (jR 133), some (jI v1), none, some (jI u0), some (jI 0)]) ⟨rfl, ⟨rfl, ⟨rfl, ⟨rfl, trivial⟩⟩⟩⟩ ((((H.2.2 h16).2.2 h14).2.1 h11).2.1 h5))))) (fun h6 => (x_aldn c386_106 rfl (x_ildn c386_107 rfl (wp_wk (l' := [none, none, none, none, none]) trivial (x_cv (As := [jI v1]) (st := []) c386_108 cl_133 kl388 rfl (Nat.le_of_ble_eq_true rfl) mx388 (Nat.le_refl _) ((((H.2.2 h16).2.2 h14).2.1 h11).2.2 h6))))))))) (fun h12 => (x_aldn c386_91 rfl (x_gfi c386_92 k_133_57 (x_zne c386_95 (((H.2.2 h16).2.2 h14).2.2 h12).1 (fun h9 => (x_ildn c386_102 rfl (x_zge c386_103 ((((H.2.2 h16).2.2 h14).2.2 h12).2.1 h9).1 (fun h7 => (x_ci c386_113 (x_ist (l' := [some (jR 133), some (jI v1), some (jI v2), some (jI u0), some (jI 0)]) c386_114 rfl (wp_wk (l' := [some (jR 133), some (jI v1), none, some (jI u0), some (jI 0)]) ⟨rfl, ⟨rfl, ⟨rfl, ⟨rfl, trivial⟩⟩⟩⟩ (((((H.2.2 h16).2.2 h14).2.2 h12).2.1 h9).2.1 h7))))) (fun h8 => (x_aldn c386_106 rfl (x_ildn c386_107 rfl (wp_wk (l' := [none, none, none, none, none]) trivial (x_cv (As := [jI v1]) (st := []) c386_108 cl_133 kl388 rfl (Nat.le_of_ble_eq_true rfl) mx388 (Nat.le_refl _) (((((H.2.2 h16).2.2 h14).2.2 h12).2.1 h9).2.2 h8))))))))) (fun h10 => (x_aldn c386_98 rfl (wp_wk (l' := [some (jR 133), some (jI v1), none, some (jI u0), none]) ⟨rfl, ⟨rfl, ⟨rfl, trivial⟩⟩⟩ (x_cv (As := []) (st := []) c386_99 cl_133 kl387 rfl (Nat.le_of_ble_eq_true rfl) mx387 (Nat.le_refl _) ((((H.2.2 h16).2.2 h14).2.2 h12).2.2 h10))))))))))))))))))))
theorem s386_102 {kc : List va_E} {d : Nat} {v1 v3 : Int} {M : fx_M} {Q : Option fx_V → fx_M → Prop} (H : ((fx_in32 v3)) ∧ (0 ≤ v3 → wp kc (d + 1) 386 116 [some (jR 133), some (jI v1), none, some (jI v3), some (jI 0)] [] M Q) ∧ (v3 < 0 → wc kc d 388 [jR 133, jI v1] M (fun v M1 => wp kc (d + 1) 386 111 [none, none, none, none, none] (v.toList ++ []) M1 Q))) : wp kc (d + 1) 386 102 [some (jR 133), some (jI v1), none, some (jI v3), none] [] M Q :=
  (x_ildn c386_102 rfl (x_zge c386_103 H.1 (fun h1 => (x_ci c386_113 (x_ist (l' := [some (jR 133), some (jI v1), none, some (jI v3), some (jI 0)]) c386_114 rfl (wp_wk (l' := [some (jR 133), some (jI v1), none, some (jI v3), some (jI 0)]) ⟨rfl, ⟨rfl, ⟨rfl, ⟨rfl, trivial⟩⟩⟩⟩ (H.2.1 h1))))) (fun h2 => (x_aldn c386_106 rfl (x_ildn c386_107 rfl (wp_wk (l' := [none, none, none, none, none]) trivial (x_cv (As := [jI v1]) (st := []) c386_108 cl_133 kl388 rfl (Nat.le_of_ble_eq_true rfl) mx388 (Nat.le_refl _) (H.2.2 h2))))))))
theorem s386_111 {kc : List va_E} {d : Nat} {M : fx_M} {Q : Option fx_V → fx_M → Prop} (H : Q (some (jI 0)) M) : wp kc (d + 1) 386 111 [none, none, none, none, none] [] M Q :=
  (x_ci c386_111 (x_zrt c386_112 r386 (by decide) H))
theorem s386_116 {kc : List va_E} {d : Nat} {v1 v3 v4 : Int} {M : fx_M} {Q : Option fx_V → fx_M → Prop} (H : ((fx_in32 v4)) ∧ (9 ≤ v4 → (((0 : Int) ≤ v1 ∧ v1 < 10)) ∧ (((0 : Int) ≤ v1 ∧ v1 < 10)) ∧ Q (some (jI 1)) (fx_up (fx_up M 161 v1 v3) 162 v1 (-1))) ∧ (v4 < 9 → (((0 : Int) ≤ v4 ∧ v4 < 9)) ∧ (((0 : Int) ≤ (9 * v1) + v4 ∧ (9 * v1) + v4 < 90)) ∧ wp kc (d + 1) 386 116 [some (jR 133), some (jI v1), none, some (jI v3), some (jI (v4 + 1))] [] (fx_up M 160 ((9 * v1) + v4) (M 156 v4)) Q)) : wp kc (d + 1) 386 116 [some (jR 133), some (jI v1), none, some (jI v3), some (jI v4)] [] M Q :=
  (x_ild c386_116 rfl (x_ci c386_118 (x_cge c386_120 H.1 (by decide) (fun h1 => (x_aldn c386_148 rfl (x_gfr c386_149 k_133_63 (x_ildn c386_152 rfl (x_ildn c386_153 rfl (x_iast c386_154 a_161 (H.2.1 h1).1 (by decide) (x_aldn c386_155 rfl (x_gfr c386_156 k_133_64 (x_ildn c386_159 rfl (x_ci c386_160 (x_iast c386_161 a_162 (H.2.1 h1).2.1 (by decide) (x_ci c386_162 (x_zrt c386_163 r386 (by decide) (H.2.1 h1).2.2))))))))))))) (fun h2 => (x_aldn c386_123 rfl (x_gfr c386_124 k_133_62 (x_ci c386_127 (x_ildn c386_129 rfl (x_imul c386_130 (x_ild c386_131 rfl (x_iadd c386_133 (x_aldn c386_134 rfl (x_gfr c386_135 k_133_47 (x_ild c386_138 rfl (x_iald c386_140 a_156 (H.2.2 h2).1 (by decide) (x_iast c386_141 a_160 (H.2.2 h2).2.1 (by decide) (x_inc (l' := [some (jR 133), some (jI v1), none, some (jI v3), some (jI (v4 + 1))]) c386_142 rfl rfl (x_goto c386_145 (wp_wk (l' := [some (jR 133), some (jI v1), none, some (jI v3), some (jI (v4 + 1))]) ⟨rfl, ⟨rfl, ⟨rfl, ⟨rfl, trivial⟩⟩⟩⟩ (H.2.2 h2).2.2)))))))))))))))))))
theorem s386 {kc : List va_E} {d : Nat} {x1 : Int} {M : fx_M} {Q : Option fx_V → fx_M → Prop} (H : ((fx_in32 ((M 133 58) + 1))) ∧ ((M 133 58) + 1 ≤ 100 → ((fx_in32 x1)) ∧ ((fx_in32 (M 133 60))) ∧ wc kc d 313 [jR 133] (fx_up (fx_up M 133 58 ((M 133 58) + 1)) 133 60 (if M 133 60 < x1 then (x1 : Int) else M 133 60)) (fun v M1 => wp kc (d + 1) 386 50 [some (jR 133), some (jI x1), none, none, none] (v.toList ++ []) M1 Q)) ∧ (100 < (M 133 58) + 1 → Q (some (jI 0)) (fx_up (fx_up M 133 58 ((M 133 58) + 1)) 133 57 1))) : wc kc (d + 1) 386 [jR 133, jI x1] M Q :=
  wc_of (wp_wk (l' := [some (jR 133), some (jI x1), none, none, none]) ⟨rfl, ⟨rfl, trivial⟩⟩ (s386_0 H))

/- PuzzleHouseModel.sayLeaf()V -/
theorem c387_0 : fx_op 387 0 = some (.aload_n 0, 1, 0) := by decide +kernel
theorem c387_1 : fx_ci 387 1 = some (98, 3) := by decide +kernel
theorem c387_3 : fx_ca 387 3 = some (254, 2, 2, 6) := by decide +kernel
theorem c387_6 : fx_ci 387 6 = some (0, 7) := by decide +kernel
theorem c387_7 : fx_op 387 7 = some (.istore_n 1, 8, 7) := by decide +kernel
theorem c387_8 : fx_op 387 8 = some (.iload_n 1, 9, 8) := by decide +kernel
theorem c387_9 : fx_op 387 9 = some (.aload_n 0, 10, 9) := by decide +kernel
theorem c387_10 : fx_ca 387 10 = some (248, 1, 2, 13) := by decide +kernel
theorem c387_13 : fx_op 387 13 = some (.if_icmp .ge 24, 16, 37) := by decide +kernel
theorem c387_16 : fx_op 387 16 = some (.aload_n 0, 17, 16) := by decide +kernel
theorem c387_17 : fx_ci 387 17 = some (0, 18) := by decide +kernel
theorem c387_18 : fx_op 387 18 = some (.iload_n 1, 19, 18) := by decide +kernel
theorem c387_19 : fx_op 387 19 = some (.aload_n 0, 20, 19) := by decide +kernel
theorem c387_20 : fx_gf 387 20 = some (12, 47, 23) := by decide +kernel
theorem c387_23 : fx_op 387 23 = some (.iload_n 1, 24, 23) := by decide +kernel
theorem c387_24 : fx_op 387 24 = some (.iaload, 25, 24) := by decide +kernel
theorem c387_37 : fx_op 387 37 = some (.aload_n 0, 38, 37) := by decide +kernel
theorem c387_38 : fx_ca 387 38 = some (317, 1, 2, 41) := by decide +kernel
theorem c387_25 : fx_ca 387 25 = some (302, 1, 0, 28) := by decide +kernel
theorem c387_41 : fx_op 387 41 = some (.return_, 42, 41) := by decide +kernel
theorem c387_28 : fx_ca 387 28 = some (316, 4, 2, 31) := by decide +kernel
theorem c387_31 : fx_op 387 31 = some (.iinc 1 1, 34, 31) := by decide +kernel
theorem c387_34 : fx_op 387 34 = some (.goto (-26), 37, 8) := by decide +kernel
theorem s387_0 {kc : List va_E} {d : Nat} {M : fx_M} {Q : Option fx_V → fx_M → Prop} (H : wc kc d 254 [jR 133, jI 98] M (fun v M1 => wp kc (d + 1) 387 6 [some (jR 133), none] (v.toList ++ []) M1 Q)) : wp kc (d + 1) 387 0 [some (jR 133), none] [] M Q :=
  (x_aldn c387_0 rfl (x_ci c387_1 (wp_wk (l' := [some (jR 133), none]) ⟨rfl, trivial⟩ (x_cv (As := [jI 98]) (st := []) c387_3 cl_133 kl254 rfl (Nat.le_of_ble_eq_true rfl) mx254 (Nat.le_refl _) H))))
theorem s387_6 {kc : List va_E} {d : Nat} {M : fx_M} {Q : Option fx_V → fx_M → Prop} (H : wp kc (d + 1) 387 8 [some (jR 133), some (jI 0)] [] M Q) : wp kc (d + 1) 387 6 [some (jR 133), none] [] M Q :=
  (x_ci c387_6 (x_istn (l' := [some (jR 133), some (jI 0)]) c387_7 rfl (wp_wk (l' := [some (jR 133), some (jI 0)]) ⟨rfl, ⟨rfl, trivial⟩⟩ H)))
theorem s387_8 {kc : List va_E} {d : Nat} {v1 : Int} {M : fx_M} {Q : Option fx_V → fx_M → Prop} (H : wc kc d 248 [jR 133] M (fun v M1 => wp kc (d + 1) 387 13 [some (jR 133), some (jI v1)] (v.toList ++ [jI v1]) M1 Q)) : wp kc (d + 1) 387 8 [some (jR 133), some (jI v1)] [] M Q :=
  (x_ildn c387_8 rfl (x_aldn c387_9 rfl (wp_wk (l' := [some (jR 133), some (jI v1)]) ⟨rfl, ⟨rfl, trivial⟩⟩ (x_cv (As := []) (st := [jI v1]) c387_10 cl_133 kl248 rfl (Nat.le_of_ble_eq_true rfl) mx248 (Nat.le_refl _) H))))
theorem s387_13 {kc : List va_E} {d : Nat} {v1 u0 u1 : Int} {M : fx_M} {Q : Option fx_V → fx_M → Prop} (H : ((fx_in32 u1) ∧ (fx_in32 u0)) ∧ (u0 ≤ u1 → wc kc d 317 [jR 133] M (fun v M1 => wp kc (d + 1) 387 41 [none, none] (v.toList ++ []) M1 Q)) ∧ (u1 < u0 → (((0 : Int) ≤ v1 ∧ v1 < 9)) ∧ wc kc d 302 [jI (M 156 v1)] M (fun v M1 => wp kc (d + 1) 387 28 [some (jR 133), some (jI v1)] (v.toList ++ [jI v1, jI 0, jR 133]) M1 Q))) : wp kc (d + 1) 387 13 [some (jR 133), some (jI v1)] [jI u0, jI u1] M Q :=
  (x_cge c387_13 H.1.1 H.1.2 (fun h1 => (x_aldn c387_37 rfl (wp_wk (l' := [none, none]) trivial (x_cv (As := []) (st := []) c387_38 cl_133 kl317 rfl (Nat.le_of_ble_eq_true rfl) mx317 (Nat.le_refl _) (H.2.1 h1))))) (fun h2 => (x_aldn c387_16 rfl (x_ci c387_17 (x_ildn c387_18 rfl (x_aldn c387_19 rfl (x_gfr c387_20 k_133_47 (x_ildn c387_23 rfl (x_iald c387_24 a_156 (H.2.2 h2).1 (by decide) (wp_wk (l' := [some (jR 133), some (jI v1)]) ⟨rfl, ⟨rfl, trivial⟩⟩ (x_cs (As := [jI (M 156 v1)]) (st := [jI v1, jI 0, jR 133]) c387_25 (by decide) rfl (Nat.le_of_ble_eq_true rfl) mx302 (Nat.le_refl _) (H.2.2 h2).2)))))))))))
theorem s387_28 {kc : List va_E} {d : Nat} {v1 u0 u1 u2 : Int} {M : fx_M} {Q : Option fx_V → fx_M → Prop} (H : wc kc d 316 [jR 133, jI u2, jI u1, jI u0] M (fun v M1 => wp kc (d + 1) 387 31 [some (jR 133), some (jI v1)] (v.toList ++ []) M1 Q)) : wp kc (d + 1) 387 28 [some (jR 133), some (jI v1)] [jI u0, jI u1, jI u2, jR 133] M Q :=
  (wp_wk (l' := [some (jR 133), some (jI v1)]) ⟨rfl, ⟨rfl, trivial⟩⟩ (x_cv (As := [jI u2, jI u1, jI u0]) (st := []) c387_28 cl_133 kl316 rfl (Nat.le_of_ble_eq_true rfl) mx316 (Nat.le_refl _) H))
theorem s387_31 {kc : List va_E} {d : Nat} {v1 : Int} {M : fx_M} {Q : Option fx_V → fx_M → Prop} (H : wp kc (d + 1) 387 8 [some (jR 133), some (jI (v1 + 1))] [] M Q) : wp kc (d + 1) 387 31 [some (jR 133), some (jI v1)] [] M Q :=
  (x_inc (l' := [some (jR 133), some (jI (v1 + 1))]) c387_31 rfl rfl (x_goto c387_34 (wp_wk (l' := [some (jR 133), some (jI (v1 + 1))]) ⟨rfl, ⟨rfl, trivial⟩⟩ H)))
theorem s387_41 {kc : List va_E} {d : Nat} {M : fx_M} {Q : Option fx_V → fx_M → Prop} (H : Q none M) : wp kc (d + 1) 387 41 [none, none] [] M Q :=
  (x_vr c387_41 r387 H)
theorem s387 {kc : List va_E} {d : Nat} {M : fx_M} {Q : Option fx_V → fx_M → Prop} (H : wc kc d 254 [jR 133, jI 98] M (fun v M1 => wp kc (d + 1) 387 6 [some (jR 133), none] (v.toList ++ []) M1 Q)) : wc kc (d + 1) 387 [jR 133] M Q :=
  wc_of (wp_wk (l' := [some (jR 133), none]) ⟨rfl, trivial⟩ (s387_0 H))

/- PuzzleHouseModel.sayDone(I)V -/
theorem c388_0 : fx_op 388 0 = some (.aload_n 0, 1, 0) := by decide +kernel
theorem c388_1 : fx_gf 388 1 = some (12, 56, 4) := by decide +kernel
theorem c388_4 : fx_op 388 4 = some (.ifCond .eq 10, 7, 14) := by decide +kernel
theorem c388_7 : fx_op 388 7 = some (.aload_n 0, 8, 7) := by decide +kernel
theorem c388_8 : fx_gf 388 8 = some (12, 57, 11) := by decide +kernel
theorem c388_11 : fx_op 388 11 = some (.ifCond .eq 4, 14, 15) := by decide +kernel
theorem c388_15 : fx_op 388 15 = some (.aload_n 0, 16, 15) := by decide +kernel
theorem c388_16 : fx_ci 388 16 = some (117, 18) := by decide +kernel
theorem c388_14 : fx_op 388 14 = some (.return_, 15, 14) := by decide +kernel
theorem c388_18 : fx_ca 388 18 = some (254, 2, 2, 21) := by decide +kernel
theorem c388_21 : fx_ci 388 21 = some (0, 22) := by decide +kernel
theorem c388_22 : fx_op 388 22 = some (.istore_n 2, 23, 22) := by decide +kernel
theorem c388_23 : fx_op 388 23 = some (.iload_n 2, 24, 23) := by decide +kernel
theorem c388_24 : fx_op 388 24 = some (.iload_n 1, 25, 24) := by decide +kernel
theorem c388_25 : fx_op 388 25 = some (.if_icmp .ge 26, 28, 51) := by decide +kernel
theorem c388_28 : fx_op 388 28 = some (.aload_n 0, 29, 28) := by decide +kernel
theorem c388_29 : fx_ci 388 29 = some (0, 30) := by decide +kernel
theorem c388_30 : fx_op 388 30 = some (.aload_n 0, 31, 30) := by decide +kernel
theorem c388_31 : fx_gf 388 31 = some (12, 65, 34) := by decide +kernel
theorem c388_34 : fx_op 388 34 = some (.iload_n 2, 35, 34) := by decide +kernel
theorem c388_35 : fx_op 388 35 = some (.iaload, 36, 35) := by decide +kernel
theorem c388_36 : fx_op 388 36 = some (.aload_n 0, 37, 36) := by decide +kernel
theorem c388_37 : fx_gf 388 37 = some (12, 66, 40) := by decide +kernel
theorem c388_40 : fx_op 388 40 = some (.iload_n 2, 41, 40) := by decide +kernel
theorem c388_41 : fx_op 388 41 = some (.iaload, 42, 41) := by decide +kernel
theorem c388_51 : fx_op 388 51 = some (.aload_n 0, 52, 51) := by decide +kernel
theorem c388_52 : fx_ca 388 52 = some (317, 1, 2, 55) := by decide +kernel
theorem c388_42 : fx_ca 388 42 = some (316, 4, 2, 45) := by decide +kernel
theorem c388_55 : fx_op 388 55 = some (.return_, 56, 55) := by decide +kernel
theorem c388_45 : fx_op 388 45 = some (.iinc 2 1, 48, 45) := by decide +kernel
theorem c388_48 : fx_op 388 48 = some (.goto (-25), 51, 23) := by decide +kernel
theorem s388_0 {kc : List va_E} {d : Nat} {x1 : Int} {M : fx_M} {Q : Option fx_V → fx_M → Prop} (H : ((fx_in32 (M 133 56))) ∧ (M 133 56 = 0 → Q none M) ∧ (M 133 56 ≠ 0 → ((fx_in32 (M 133 57))) ∧ (M 133 57 = 0 → wc kc d 254 [jR 133, jI 117] M (fun v M1 => wp kc (d + 1) 388 21 [some (jR 133), some (jI x1), none] (v.toList ++ []) M1 Q)) ∧ (M 133 57 ≠ 0 → Q none M))) : wp kc (d + 1) 388 0 [some (jR 133), some (jI x1), none] [] M Q :=
  (x_aldn c388_0 rfl (x_gfi c388_1 k_133_56 (x_zeq c388_4 H.1 (fun h3 => (x_vr c388_14 r388 (H.2.1 h3))) (fun h4 => (x_aldn c388_7 rfl (x_gfi c388_8 k_133_57 (x_zeq c388_11 (H.2.2 h4).1 (fun h1 => (x_aldn c388_15 rfl (x_ci c388_16 (wp_wk (l' := [some (jR 133), some (jI x1), none]) ⟨rfl, ⟨rfl, trivial⟩⟩ (x_cv (As := [jI 117]) (st := []) c388_18 cl_133 kl254 rfl (Nat.le_of_ble_eq_true rfl) mx254 (Nat.le_refl _) ((H.2.2 h4).2.1 h1)))))) (fun h2 => (x_vr c388_14 r388 ((H.2.2 h4).2.2 h2))))))))))
theorem s388_21 {kc : List va_E} {d : Nat} {v1 : Int} {M : fx_M} {Q : Option fx_V → fx_M → Prop} (H : wp kc (d + 1) 388 23 [some (jR 133), some (jI v1), some (jI 0)] [] M Q) : wp kc (d + 1) 388 21 [some (jR 133), some (jI v1), none] [] M Q :=
  (x_ci c388_21 (x_istn (l' := [some (jR 133), some (jI v1), some (jI 0)]) c388_22 rfl (wp_wk (l' := [some (jR 133), some (jI v1), some (jI 0)]) ⟨rfl, ⟨rfl, ⟨rfl, trivial⟩⟩⟩ H)))
theorem s388_23 {kc : List va_E} {d : Nat} {v1 v2 : Int} {M : fx_M} {Q : Option fx_V → fx_M → Prop} (H : ((fx_in32 v2) ∧ (fx_in32 v1)) ∧ (v1 ≤ v2 → wc kc d 317 [jR 133] M (fun v M1 => wp kc (d + 1) 388 55 [none, none, none] (v.toList ++ []) M1 Q)) ∧ (v2 < v1 → (((0 : Int) ≤ v2 ∧ v2 < 10)) ∧ (((0 : Int) ≤ v2 ∧ v2 < 10)) ∧ wc kc d 316 [jR 133, jI 0, jI (M 163 v2), jI (M 164 v2)] M (fun v M1 => wp kc (d + 1) 388 45 [some (jR 133), some (jI v1), some (jI v2)] (v.toList ++ []) M1 Q))) : wp kc (d + 1) 388 23 [some (jR 133), some (jI v1), some (jI v2)] [] M Q :=
  (x_ildn c388_23 rfl (x_ildn c388_24 rfl (x_cge c388_25 H.1.1 H.1.2 (fun h1 => (x_aldn c388_51 rfl (wp_wk (l' := [none, none, none]) trivial (x_cv (As := []) (st := []) c388_52 cl_133 kl317 rfl (Nat.le_of_ble_eq_true rfl) mx317 (Nat.le_refl _) (H.2.1 h1))))) (fun h2 => (x_aldn c388_28 rfl (x_ci c388_29 (x_aldn c388_30 rfl (x_gfr c388_31 k_133_65 (x_ildn c388_34 rfl (x_iald c388_35 a_163 (H.2.2 h2).1 (by decide) (x_aldn c388_36 rfl (x_gfr c388_37 k_133_66 (x_ildn c388_40 rfl (x_iald c388_41 a_164 (H.2.2 h2).2.1 (by decide) (wp_wk (l' := [some (jR 133), some (jI v1), some (jI v2)]) ⟨rfl, ⟨rfl, ⟨rfl, trivial⟩⟩⟩ (x_cv (As := [jI 0, jI (M 163 v2), jI (M 164 v2)]) (st := []) c388_42 cl_133 kl316 rfl (Nat.le_of_ble_eq_true rfl) mx316 (Nat.le_refl _) (H.2.2 h2).2.2))))))))))))))))
theorem s388_45 {kc : List va_E} {d : Nat} {v1 v2 : Int} {M : fx_M} {Q : Option fx_V → fx_M → Prop} (H : wp kc (d + 1) 388 23 [some (jR 133), some (jI v1), some (jI (v2 + 1))] [] M Q) : wp kc (d + 1) 388 45 [some (jR 133), some (jI v1), some (jI v2)] [] M Q :=
  (x_inc (l' := [some (jR 133), some (jI v1), some (jI (v2 + 1))]) c388_45 rfl rfl (x_goto c388_48 (wp_wk (l' := [some (jR 133), some (jI v1), some (jI (v2 + 1))]) ⟨rfl, ⟨rfl, ⟨rfl, trivial⟩⟩⟩ H)))
theorem s388_55 {kc : List va_E} {d : Nat} {M : fx_M} {Q : Option fx_V → fx_M → Prop} (H : Q none M) : wp kc (d + 1) 388 55 [none, none, none] [] M Q :=
  (x_vr c388_55 r388 H)
theorem s388 {kc : List va_E} {d : Nat} {x1 : Int} {M : fx_M} {Q : Option fx_V → fx_M → Prop} (H : ((fx_in32 (M 133 56))) ∧ (M 133 56 = 0 → Q none M) ∧ (M 133 56 ≠ 0 → ((fx_in32 (M 133 57))) ∧ (M 133 57 = 0 → wc kc d 254 [jR 133, jI 117] M (fun v M1 => wp kc (d + 1) 388 21 [some (jR 133), some (jI x1), none] (v.toList ++ []) M1 Q)) ∧ (M 133 57 ≠ 0 → Q none M))) : wc kc (d + 1) 388 [jR 133, jI x1] M Q :=
  wc_of (wp_wk (l' := [some (jR 133), some (jI x1), none]) ⟨rfl, ⟨rfl, trivial⟩⟩ (s388_0 H))

/- PuzzleHouseModel.nextSymbol(I)I -/
theorem c389_0 : fx_op 389 0 = some (.aload_n 0, 1, 0) := by decide +kernel
theorem c389_1 : fx_gf 389 1 = some (12, 64, 4) := by decide +kernel
theorem c389_4 : fx_op 389 4 = some (.iload_n 1, 5, 4) := by decide +kernel
theorem c389_6 : fx_ci 389 6 = some (1, 7) := by decide +kernel
theorem c389_7 : fx_op 389 7 = some (.iadd, 8, 7) := by decide +kernel
theorem c389_8 : fx_op 389 8 = some (.istore_n 2, 9, 8) := by decide +kernel
theorem c389_5 : fx_op 389 5 = some (.iaload, 6, 5) := by decide +kernel
theorem c389_9 : fx_op 389 9 = some (.iload_n 2, 10, 9) := by decide +kernel
theorem c389_10 : fx_op 389 10 = some (.aload_n 0, 11, 10) := by decide +kernel
theorem c389_11 : fx_gf 389 11 = some (12, 39, 14) := by decide +kernel
theorem c389_14 : fx_ci 389 14 = some (0, 15) := by decide +kernel
theorem c389_15 : fx_op 389 15 = some (.iaload, 16, 15) := by decide +kernel
theorem c389_16 : fx_op 389 16 = some (.if_icmp .ge 32, 19, 48) := by decide +kernel
theorem c389_19 : fx_op 389 19 = some (.aload_n 0, 20, 19) := by decide +kernel
theorem c389_20 : fx_gf 389 20 = some (12, 62, 23) := by decide +kernel
theorem c389_23 : fx_ci 389 23 = some (9, 25) := by decide +kernel
theorem c389_25 : fx_op 389 25 = some (.iload_n 1, 26, 25) := by decide +kernel
theorem c389_26 : fx_op 389 26 = some (.imul, 27, 26) := by decide +kernel
theorem c389_27 : fx_op 389 27 = some (.aload_n 0, 28, 27) := by decide +kernel
theorem c389_28 : fx_gf 389 28 = some (12, 63, 31) := by decide +kernel
theorem c389_31 : fx_op 389 31 = some (.iload_n 1, 32, 31) := by decide +kernel
theorem c389_32 : fx_op 389 32 = some (.iaload, 33, 32) := by decide +kernel
theorem c389_33 : fx_op 389 33 = some (.iadd, 34, 33) := by decide +kernel
theorem c389_34 : fx_op 389 34 = some (.iaload, 35, 34) := by decide +kernel
theorem c389_35 : fx_op 389 35 = some (.iload_n 2, 36, 35) := by decide +kernel
theorem c389_36 : fx_op 389 36 = some (.ishr, 37, 36) := by decide +kernel
theorem c389_37 : fx_ci 389 37 = some (1, 38) := by decide +kernel
theorem c389_38 : fx_op 389 38 = some (.iand, 39, 38) := by decide +kernel
theorem c389_39 : fx_op 389 39 = some (.ifCond .ne 9, 42, 48) := by decide +kernel
theorem c389_42 : fx_op 389 42 = some (.iinc 2 1, 45, 42) := by decide +kernel
theorem c389_48 : fx_op 389 48 = some (.aload_n 0, 49, 48) := by decide +kernel
theorem c389_49 : fx_gf 389 49 = some (12, 64, 52) := by decide +kernel
theorem c389_52 : fx_op 389 52 = some (.iload_n 1, 53, 52) := by decide +kernel
theorem c389_53 : fx_op 389 53 = some (.iload_n 2, 54, 53) := by decide +kernel
theorem c389_55 : fx_op 389 55 = some (.iload_n 2, 56, 55) := by decide +kernel
theorem c389_56 : fx_op 389 56 = some (.aload_n 0, 57, 56) := by decide +kernel
theorem c389_57 : fx_gf 389 57 = some (12, 39, 60) := by decide +kernel
theorem c389_60 : fx_ci 389 60 = some (0, 61) := by decide +kernel
theorem c389_61 : fx_op 389 61 = some (.iaload, 62, 61) := by decide +kernel
theorem c389_62 : fx_op 389 62 = some (.if_icmp .ge 7, 65, 69) := by decide +kernel
theorem c389_69 : fx_ci 389 69 = some ((-1), 70) := by decide +kernel
theorem c389_65 : fx_op 389 65 = some (.iload_n 2, 66, 65) := by decide +kernel
theorem c389_66 : fx_op 389 66 = some (.goto 4, 69, 70) := by decide +kernel
theorem c389_54 : fx_op 389 54 = some (.iastore, 55, 54) := by decide +kernel
theorem c389_70 : fx_op 389 70 = some (.ireturn, 71, 70) := by decide +kernel
theorem c389_45 : fx_op 389 45 = some (.goto (-36), 48, 9) := by decide +kernel
theorem s389_0 {kc : List va_E} {d : Nat} {x1 : Int} {M : fx_M} {Q : Option fx_V → fx_M → Prop} (H : (((0 : Int) ≤ x1 ∧ x1 < 10)) ∧ wp kc (d + 1) 389 9 [some (jR 133), some (jI x1), some (jI ((M 162 x1) + 1))] [] M Q) : wp kc (d + 1) 389 0 [some (jR 133), some (jI x1), none] [] M Q :=
  (x_aldn c389_0 rfl (x_gfr c389_1 k_133_64 (x_ildn c389_4 rfl (x_iald c389_5 a_162 H.1 (by decide) (x_ci c389_6 (x_iadd c389_7 (x_istn (l' := [some (jR 133), some (jI x1), some (jI ((M 162 x1) + 1))]) c389_8 rfl (wp_wk (l' := [some (jR 133), some (jI x1), some (jI ((M 162 x1) + 1))]) ⟨rfl, ⟨rfl, ⟨rfl, trivial⟩⟩⟩ H.2))))))))
theorem s389_9 {kc : List va_E} {d : Nat} {v1 v2 : Int} {M : fx_M} {Q : Option fx_V → fx_M → Prop} (H : ((fx_in32 v2) ∧ (fx_in32 (M 148 0))) ∧ (M 148 0 ≤ v2 → (((0 : Int) ≤ v1 ∧ v1 < 10)) ∧ ((fx_in32 v2)) ∧ ((fx_in32 (M 148 0))) ∧ Q (some (jI (if v2 < M 148 0 then (v2 : Int) else (-1)))) (fx_up M 162 v1 v2)) ∧ (v2 < M 148 0 → (((0 : Int) ≤ v1 ∧ v1 < 10)) ∧ (((0 : Int) ≤ (9 * v1) + (M 161 v1) ∧ (9 * v1) + (M 161 v1) < 90)) ∧ ((fx_in32 (fx_and (fx_shr (M 160 ((9 * v1) + (M 161 v1))) v2) 1))) ∧ (fx_and (fx_shr (M 160 ((9 * v1) + (M 161 v1))) v2) 1 ≠ 0 → (((0 : Int) ≤ v1 ∧ v1 < 10)) ∧ ((fx_in32 v2)) ∧ ((fx_in32 (M 148 0))) ∧ Q (some (jI (if v2 < M 148 0 then (v2 : Int) else (-1)))) (fx_up M 162 v1 v2)) ∧ (fx_and (fx_shr (M 160 ((9 * v1) + (M 161 v1))) v2) 1 = 0 → wp kc (d + 1) 389 9 [some (jR 133), some (jI v1), some (jI (v2 + 1))] [] M Q))) : wp kc (d + 1) 389 9 [some (jR 133), some (jI v1), some (jI v2)] [] M Q :=
  (x_ildn c389_9 rfl (x_aldn c389_10 rfl (x_gfr c389_11 k_133_39 (x_ci c389_14 (x_iald c389_15 a_148 (by decide) (by decide) (x_cge c389_16 H.1.1 H.1.2 (fun h3 => (x_aldn c389_48 rfl (x_gfr c389_49 k_133_64 (x_ildn c389_52 rfl (x_ildn c389_53 rfl (x_iast c389_54 a_162 (H.2.1 h3).1 (by decide) (x_ildn c389_55 rfl (x_aldn c389_56 rfl (x_gfr c389_57 k_133_39 (x_ci c389_60 (x_iald c389_61 a_148 (by decide) (by decide) (wp_vI (fx_upA (by decide)) (have K : wp kc (d + 1) 389 70 [none, none, none] [jI (if v2 < M 148 0 then (v2 : Int) else (-1))] (fx_up M 162 v1 v2) Q := (x_irt c389_70 r389 (H.2.1 h3).2.2.2); (x_cge c389_62 (H.2.1 h3).2.1 (H.2.1 h3).2.2.1 (fun (h5 : M 148 0 ≤ v2) => (x_ci c389_69 (wp_wk (l' := [none, none, none]) trivial (by have K := K; first | (simp only [if_neg (Int.not_lt.mpr h5)] at K ⊢; exact K) | (exfalso; omega))))) (fun (h6 : v2 < M 148 0) => (x_ildn c389_65 rfl (x_goto c389_66 (wp_wk (l' := [none, none, none]) trivial (by have K := K; first | (simp only [if_pos h6] at K ⊢; exact K) | (exfalso; omega)))))))))))))))))))) (fun h4 => (x_aldn c389_19 rfl (x_gfr c389_20 k_133_62 (x_ci c389_23 (x_ildn c389_25 rfl (x_imul c389_26 (x_aldn c389_27 rfl (x_gfr c389_28 k_133_63 (x_ildn c389_31 rfl (x_iald c389_32 a_161 (H.2.2 h4).1 (by decide) (x_iadd c389_33 (x_iald c389_34 a_160 (H.2.2 h4).2.1 (by decide) (x_ildn c389_35 rfl (x_ishr c389_36 (x_ci c389_37 (x_iand c389_38 (x_zne c389_39 (H.2.2 h4).2.2.1 (fun h1 => (x_aldn c389_48 rfl (x_gfr c389_49 k_133_64 (x_ildn c389_52 rfl (x_ildn c389_53 rfl (x_iast c389_54 a_162 ((H.2.2 h4).2.2.2.1 h1).1 (by decide) (x_ildn c389_55 rfl (x_aldn c389_56 rfl (x_gfr c389_57 k_133_39 (x_ci c389_60 (x_iald c389_61 a_148 (by decide) (by decide) (wp_vI (fx_upA (by decide)) (have K : wp kc (d + 1) 389 70 [none, none, none] [jI (if v2 < M 148 0 then (v2 : Int) else (-1))] (fx_up M 162 v1 v2) Q := (x_irt c389_70 r389 ((H.2.2 h4).2.2.2.1 h1).2.2.2); (x_cge c389_62 ((H.2.2 h4).2.2.2.1 h1).2.1 ((H.2.2 h4).2.2.2.1 h1).2.2.1 (fun (h7 : M 148 0 ≤ v2) => (x_ci c389_69 (wp_wk (l' := [none, none, none]) trivial (by have K := K; first | (simp only [if_neg (Int.not_lt.mpr h7)] at K ⊢; exact K) | (exfalso; omega))))) (fun (h8 : v2 < M 148 0) => (x_ildn c389_65 rfl (x_goto c389_66 (wp_wk (l' := [none, none, none]) trivial (by have K := K; first | (simp only [if_pos h8] at K ⊢; exact K) | (exfalso; omega)))))))))))))))))))) (fun h2 => (x_inc (l' := [some (jR 133), some (jI v1), some (jI (v2 + 1))]) c389_42 rfl rfl (x_goto c389_45 (wp_wk (l' := [some (jR 133), some (jI v1), some (jI (v2 + 1))]) ⟨rfl, ⟨rfl, ⟨rfl, trivial⟩⟩⟩ ((H.2.2 h4).2.2.2.2 h2))))))))))))))))))))))))))))
theorem s389 {kc : List va_E} {d : Nat} {x1 : Int} {M : fx_M} {Q : Option fx_V → fx_M → Prop} (H : (((0 : Int) ≤ x1 ∧ x1 < 10)) ∧ wp kc (d + 1) 389 9 [some (jR 133), some (jI x1), some (jI ((M 162 x1) + 1))] [] M Q) : wc kc (d + 1) 389 [jR 133, jI x1] M Q :=
  wc_of (wp_wk (l' := [some (jR 133), some (jI x1), none]) ⟨rfl, ⟨rfl, trivial⟩⟩ (s389_0 H))

/- PuzzleHouseModel.sayLong()V -/
theorem c390_0 : fx_op 390 0 = some (.aload_n 0, 1, 0) := by decide +kernel
theorem c390_1 : fx_ci 390 1 = some (0, 2) := by decide +kernel
theorem c390_2 : fx_pf 390 2 = some (12, 5, 0, 5) := by decide +kernel
theorem c390_5 : fx_op 390 5 = some (.aload_n 0, 6, 5) := by decide +kernel
theorem c390_6 : fx_cj 390 6 = some (1819242087, 9) := by decide +kernel
theorem c390_9 : fx_ca 390 9 = some (253, 2, 2, 12) := by decide +kernel
theorem c390_12 : fx_op 390 12 = some (.return_, 13, 12) := by decide +kernel
theorem s390_0 {kc : List va_E} {d : Nat} {M : fx_M} {Q : Option fx_V → fx_M → Prop} (H : wc kc d 253 [jR 133, jL 1819242087] (fx_up M 133 5 0) (fun v M1 => wp kc (d + 1) 390 12 [none] (v.toList ++ []) M1 Q)) : wp kc (d + 1) 390 0 [some (jR 133)] [] M Q :=
  (x_aldn c390_0 rfl (x_ci c390_1 (x_pfi c390_2 k_133_5 (x_aldn c390_5 rfl (x_cj c390_6 (wp_wk (l' := [none]) trivial (x_cv (As := [jL 1819242087]) (st := []) c390_9 cl_133 kl253 rfl (Nat.le_of_ble_eq_true rfl) mx253 (Nat.le_refl _) H)))))))
theorem s390_12 {kc : List va_E} {d : Nat} {M : fx_M} {Q : Option fx_V → fx_M → Prop} (H : Q none M) : wp kc (d + 1) 390 12 [none] [] M Q :=
  (x_vr c390_12 r390 H)
theorem s390 {kc : List va_E} {d : Nat} {M : fx_M} {Q : Option fx_V → fx_M → Prop} (H : wc kc d 253 [jR 133, jL 1819242087] (fx_up M 133 5 0) (fun v M1 => wp kc (d + 1) 390 12 [none] (v.toList ++ []) M1 Q)) : wc kc (d + 1) 390 [jR 133] M Q :=
  wc_of (wp_wk (l' := [some (jR 133)]) ⟨rfl, trivial⟩ (s390_0 H))

/- PuzzleHouseModel.sayCheck()V -/
theorem c391_0 : fx_ci 391 0 = some (0, 1) := by decide +kernel
theorem c391_1 : fx_op 391 1 = some (.istore_n 1, 2, 1) := by decide +kernel
theorem c391_2 : fx_op 391 2 = some (.iload_n 1, 3, 2) := by decide +kernel
theorem c391_3 : fx_op 391 3 = some (.aload_n 0, 4, 3) := by decide +kernel
theorem c391_4 : fx_gf 391 4 = some (12, 24, 7) := by decide +kernel
theorem c391_7 : fx_op 391 7 = some (.if_icmp .ge 29, 10, 36) := by decide +kernel
theorem c391_36 : fx_op 391 36 = some (.aload_n 0, 37, 36) := by decide +kernel
theorem c391_37 : fx_op 391 37 = some (.aload_n 0, 38, 37) := by decide +kernel
theorem c391_38 : fx_gf 391 38 = some (12, 24, 41) := by decide +kernel
theorem c391_41 : fx_ci 391 41 = some (1, 42) := by decide +kernel
theorem c391_42 : fx_op 391 42 = some (.isub, 43, 42) := by decide +kernel
theorem c391_10 : fx_op 391 10 = some (.aload_n 0, 11, 10) := by decide +kernel
theorem c391_11 : fx_op 391 11 = some (.iload_n 1, 12, 11) := by decide +kernel
theorem c391_43 : fx_ca 391 43 = some (394, 2, 2, 46) := by decide +kernel
theorem c391_12 : fx_ca 391 12 = some (392, 2, 2, 15) := by decide +kernel
theorem c391_46 : fx_op 391 46 = some (.ifCond .gt 19, 49, 65) := by decide +kernel
theorem c391_65 : fx_op 391 65 = some (.aload_n 0, 66, 65) := by decide +kernel
theorem c391_66 : fx_ci 391 66 = some (38, 68) := by decide +kernel
theorem c391_49 : fx_op 391 49 = some (.aload_n 0, 50, 49) := by decide +kernel
theorem c391_50 : fx_gf 391 50 = some (12, 25, 53) := by decide +kernel
theorem c391_53 : fx_op 391 53 = some (.aload_n 0, 54, 53) := by decide +kernel
theorem c391_54 : fx_gf 391 54 = some (12, 24, 57) := by decide +kernel
theorem c391_57 : fx_ci 391 57 = some (1, 58) := by decide +kernel
theorem c391_58 : fx_op 391 58 = some (.isub, 59, 58) := by decide +kernel
theorem c391_60 : fx_ci 391 60 = some (117, 62) := by decide +kernel
theorem c391_62 : fx_op 391 62 = some (.if_icmp .eq 15, 65, 77) := by decide +kernel
theorem c391_77 : fx_op 391 77 = some (.aload_n 0, 78, 77) := by decide +kernel
theorem c391_78 : fx_cj 391 78 = some (482956242790, 81) := by decide +kernel
theorem c391_81 : fx_op 391 81 = some (.aload_n 0, 82, 81) := by decide +kernel
theorem c391_68 : fx_ca 391 68 = some (221, 1, 0, 71) := by decide +kernel
theorem c391_59 : fx_op 391 59 = some (.iaload, 60, 59) := by decide +kernel
theorem c391_82 : fx_ca 391 82 = some (407, 1, 2, 85) := by decide +kernel
theorem c391_15 : fx_op 391 15 = some (.ifCond .eq 6, 18, 21) := by decide +kernel
theorem c391_21 : fx_op 391 21 = some (.aload_n 0, 22, 21) := by decide +kernel
theorem c391_22 : fx_cj 391 22 = some (1818848869, 25) := by decide +kernel
theorem c391_25 : fx_op 391 25 = some (.iload_n 1, 26, 25) := by decide +kernel
theorem c391_30 : fx_op 391 30 = some (.iinc 1 1, 33, 30) := by decide +kernel
theorem c391_26 : fx_ca 391 26 = some (252, 3, 2, 29) := by decide +kernel
theorem c391_18 : fx_op 391 18 = some (.goto 12, 21, 30) := by decide +kernel
theorem c391_33 : fx_op 391 33 = some (.goto (-31), 36, 2) := by decide +kernel
theorem c391_71 : fx_ca 391 71 = some (253, 2, 2, 74) := by decide +kernel
theorem c391_85 : fx_ca 391 85 = some (252, 3, 2, 88) := by decide +kernel
theorem c391_29 : fx_op 391 29 = some (.return_, 30, 29) := by decide +kernel
theorem c391_74 : fx_op 391 74 = some (.goto 14, 77, 88) := by decide +kernel
theorem c391_88 : fx_op 391 88 = some (.return_, 89, 88) := by decide +kernel
theorem s391_0 {kc : List va_E} {d : Nat} {M : fx_M} {Q : Option fx_V → fx_M → Prop} (H : wp kc (d + 1) 391 2 [some (jR 133), some (jI 0)] [] M Q) : wp kc (d + 1) 391 0 [some (jR 133), none] [] M Q :=
  (x_ci c391_0 (x_istn (l' := [some (jR 133), some (jI 0)]) c391_1 rfl (wp_wk (l' := [some (jR 133), some (jI 0)]) ⟨rfl, ⟨rfl, trivial⟩⟩ H)))
theorem s391_2 {kc : List va_E} {d : Nat} {v1 : Int} {M : fx_M} {Q : Option fx_V → fx_M → Prop} (H : ((fx_in32 v1) ∧ (fx_in32 (M 133 24))) ∧ (M 133 24 ≤ v1 → wc kc d 394 [jR 133, jI ((M 133 24) - 1)] M (fun v M1 => wp kc (d + 1) 391 46 [some (jR 133), none] (v.toList ++ []) M1 Q)) ∧ (v1 < M 133 24 → wc kc d 392 [jR 133, jI v1] M (fun v M1 => wp kc (d + 1) 391 15 [some (jR 133), some (jI v1)] (v.toList ++ []) M1 Q))) : wp kc (d + 1) 391 2 [some (jR 133), some (jI v1)] [] M Q :=
  (x_ildn c391_2 rfl (x_aldn c391_3 rfl (x_gfi c391_4 k_133_24 (x_cge c391_7 H.1.1 H.1.2 (fun h1 => (x_aldn c391_36 rfl (x_aldn c391_37 rfl (x_gfi c391_38 k_133_24 (x_ci c391_41 (x_isub c391_42 (wp_wk (l' := [some (jR 133), none]) ⟨rfl, trivial⟩ (x_cv (As := [jI ((M 133 24) - 1)]) (st := []) c391_43 cl_133 kl394 rfl (Nat.le_of_ble_eq_true rfl) mx394 (Nat.le_refl _) (H.2.1 h1))))))))) (fun h2 => (x_aldn c391_10 rfl (x_ildn c391_11 rfl (wp_wk (l' := [some (jR 133), some (jI v1)]) ⟨rfl, ⟨rfl, trivial⟩⟩ (x_cv (As := [jI v1]) (st := []) c391_12 cl_133 kl392 rfl (Nat.le_of_ble_eq_true rfl) mx392 (Nat.le_refl _) (H.2.2 h2))))))))))
theorem s391_15 {kc : List va_E} {d : Nat} {v1 u0 : Int} {M : fx_M} {Q : Option fx_V → fx_M → Prop} (H : ((fx_in32 u0)) ∧ (u0 = 0 → wc kc d 252 [jR 133, jL 1818848869, jI v1] M (fun v M1 => wp kc (d + 1) 391 29 [none, none] (v.toList ++ []) M1 Q)) ∧ (u0 ≠ 0 → wp kc (d + 1) 391 2 [some (jR 133), some (jI (v1 + 1))] [] M Q)) : wp kc (d + 1) 391 15 [some (jR 133), some (jI v1)] [jI u0] M Q :=
  (x_zeq c391_15 H.1 (fun h1 => (x_aldn c391_21 rfl (x_cj c391_22 (x_ildn c391_25 rfl (wp_wk (l' := [none, none]) trivial (x_cv (As := [jL 1818848869, jI v1]) (st := []) c391_26 cl_133 kl252 rfl (Nat.le_of_ble_eq_true rfl) mx252 (Nat.le_refl _) (H.2.1 h1))))))) (fun h2 => (x_goto c391_18 (x_inc (l' := [some (jR 133), some (jI (v1 + 1))]) c391_30 rfl rfl (x_goto c391_33 (wp_wk (l' := [some (jR 133), some (jI (v1 + 1))]) ⟨rfl, ⟨rfl, trivial⟩⟩ (H.2.2 h2)))))))
theorem s391_29 {kc : List va_E} {d : Nat} {M : fx_M} {Q : Option fx_V → fx_M → Prop} (H : Q none M) : wp kc (d + 1) 391 29 [none, none] [] M Q :=
  (x_vr c391_29 r391 H)
theorem s391_46 {kc : List va_E} {d : Nat} {u0 : Int} {M : fx_M} {Q : Option fx_V → fx_M → Prop} (H : ((fx_in32 u0)) ∧ (0 < u0 → wc kc d 221 [jI 38] M (fun v M1 => wp kc (d + 1) 391 71 [none, none] (v.toList ++ [jR 133]) M1 Q)) ∧ (u0 ≤ 0 → (((0 : Int) ≤ (M 133 24) - 1 ∧ (M 133 24) - 1 < 3100)) ∧ ((fx_in32 (M 138 ((M 133 24) - 1)))) ∧ (M 138 ((M 133 24) - 1) = 117 → wc kc d 407 [jR 133] M (fun v M1 => wp kc (d + 1) 391 85 [none, none] (v.toList ++ [jL 482956242790, jR 133]) M1 Q)) ∧ (M 138 ((M 133 24) - 1) ≠ 117 → wc kc d 221 [jI 38] M (fun v M1 => wp kc (d + 1) 391 71 [none, none] (v.toList ++ [jR 133]) M1 Q)))) : wp kc (d + 1) 391 46 [some (jR 133), none] [jI u0] M Q :=
  (x_zgt c391_46 H.1 (fun h3 => (x_aldn c391_65 rfl (x_ci c391_66 (wp_wk (l' := [none, none]) trivial (x_cs (As := [jI 38]) (st := [jR 133]) c391_68 (by decide) rfl (Nat.le_of_ble_eq_true rfl) mx221 (Nat.le_refl _) (H.2.1 h3)))))) (fun h4 => (x_aldn c391_49 rfl (x_gfr c391_50 k_133_25 (x_aldn c391_53 rfl (x_gfi c391_54 k_133_24 (x_ci c391_57 (x_isub c391_58 (x_iald c391_59 a_138 (H.2.2 h4).1 (by decide) (x_ci c391_60 (x_ceq c391_62 (H.2.2 h4).2.1 (by decide) (fun h1 => (x_aldn c391_77 rfl (x_cj c391_78 (x_aldn c391_81 rfl (wp_wk (l' := [none, none]) trivial (x_cv (As := []) (st := [jL 482956242790, jR 133]) c391_82 cl_133 kl407 rfl (Nat.le_of_ble_eq_true rfl) mx407 (Nat.le_refl _) ((H.2.2 h4).2.2.1 h1))))))) (fun h2 => (x_aldn c391_65 rfl (x_ci c391_66 (wp_wk (l' := [none, none]) trivial (x_cs (As := [jI 38]) (st := [jR 133]) c391_68 (by decide) rfl (Nat.le_of_ble_eq_true rfl) mx221 (Nat.le_refl _) ((H.2.2 h4).2.2.2 h2)))))))))))))))))
theorem s391_71 {kc : List va_E} {d : Nat} {u0 : Int} {M : fx_M} {Q : Option fx_V → fx_M → Prop} (H : wc kc d 253 [jR 133, jL u0] M (fun v M1 => wp kc (d + 1) 391 74 [none, none] (v.toList ++ []) M1 Q)) : wp kc (d + 1) 391 71 [none, none] [jL u0, jR 133] M Q :=
  (wp_wk (l' := [none, none]) trivial (x_cv (As := [jL u0]) (st := []) c391_71 cl_133 kl253 rfl (Nat.le_of_ble_eq_true rfl) mx253 (Nat.le_refl _) H))
theorem s391_74 {kc : List va_E} {d : Nat} {M : fx_M} {Q : Option fx_V → fx_M → Prop} (H : Q none M) : wp kc (d + 1) 391 74 [none, none] [] M Q :=
  (x_goto c391_74 (x_vr c391_88 r391 H))
theorem s391_85 {kc : List va_E} {d : Nat} {u0 u1 : Int} {M : fx_M} {Q : Option fx_V → fx_M → Prop} (H : wc kc d 252 [jR 133, jL u1, jI u0] M (fun v M1 => wp kc (d + 1) 391 88 [none, none] (v.toList ++ []) M1 Q)) : wp kc (d + 1) 391 85 [none, none] [jI u0, jL u1, jR 133] M Q :=
  (wp_wk (l' := [none, none]) trivial (x_cv (As := [jL u1, jI u0]) (st := []) c391_85 cl_133 kl252 rfl (Nat.le_of_ble_eq_true rfl) mx252 (Nat.le_refl _) H))
theorem s391_88 {kc : List va_E} {d : Nat} {M : fx_M} {Q : Option fx_V → fx_M → Prop} (H : Q none M) : wp kc (d + 1) 391 88 [none, none] [] M Q :=
  (x_vr c391_88 r391 H)
theorem s391 {kc : List va_E} {d : Nat} {M : fx_M} {Q : Option fx_V → fx_M → Prop} (H : wp kc (d + 1) 391 2 [some (jR 133), some (jI 0)] [] M Q) : wc kc (d + 1) 391 [jR 133] M Q :=
  wc_of (wp_wk (l' := [some (jR 133), none]) ⟨rfl, trivial⟩ (s391_0 H))

/- PuzzleHouseModel.isRight(I)Z -/
theorem c392_0 : fx_op 392 0 = some (.aload_n 0, 1, 0) := by decide +kernel
theorem c392_1 : fx_op 392 1 = some (.iload_n 1, 2, 1) := by decide +kernel
theorem c392_2 : fx_ca 392 2 = some (393, 2, 2, 5) := by decide +kernel
theorem c392_5 : fx_op 392 5 = some (.ifCond .ne 5, 8, 10) := by decide +kernel
theorem c392_10 : fx_op 392 10 = some (.aload_n 0, 11, 10) := by decide +kernel
theorem c392_11 : fx_gf 392 11 = some (12, 26, 14) := by decide +kernel
theorem c392_14 : fx_op 392 14 = some (.iload_n 1, 15, 14) := by decide +kernel
theorem c392_16 : fx_op 392 16 = some (.istore_n 2, 17, 16) := by decide +kernel
theorem c392_17 : fx_op 392 17 = some (.aload_n 0, 18, 17) := by decide +kernel
theorem c392_18 : fx_gf 392 18 = some (12, 25, 21) := by decide +kernel
theorem c392_21 : fx_op 392 21 = some (.iload_n 1, 22, 21) := by decide +kernel
theorem c392_64 : fx_op 392 64 = some (.iload_n 2, 65, 64) := by decide +kernel
theorem c392_65 : fx_op 392 65 = some (.aload_n 0, 66, 65) := by decide +kernel
theorem c392_108 : fx_op 392 108 = some (.aload_n 0, 109, 108) := by decide +kernel
theorem c392_109 : fx_op 392 109 = some (.iload_n 1, 110, 109) := by decide +kernel
theorem c392_110 : fx_op 392 110 = some (.iload_n 2, 111, 110) := by decide +kernel
theorem c392_111 : fx_ci 392 111 = some ((-1), 112) := by decide +kernel
theorem c392_147 : fx_op 392 147 = some (.aload_n 0, 148, 147) := by decide +kernel
theorem c392_148 : fx_op 392 148 = some (.iload_n 1, 149, 148) := by decide +kernel
theorem c392_116 : fx_op 392 116 = some (.iload_n 2, 117, 116) := by decide +kernel
theorem c392_117 : fx_op 392 117 = some (.aload_n 0, 118, 117) := by decide +kernel
theorem c392_118 : fx_gf 392 118 = some (12, 27, 121) := by decide +kernel
theorem c392_121 : fx_op 392 121 = some (.iload_n 1, 122, 121) := by decide +kernel
theorem c392_123 : fx_op 392 123 = some (.if_icmp .ge 22, 126, 145) := by decide +kernel
theorem c392_145 : fx_ci 392 145 = some (0, 146) := by decide +kernel
theorem c392_126 : fx_op 392 126 = some (.aload_n 0, 127, 126) := by decide +kernel
theorem c392_127 : fx_op 392 127 = some (.iload_n 1, 128, 127) := by decide +kernel
theorem c392_128 : fx_op 392 128 = some (.iload_n 2, 129, 128) := by decide +kernel
theorem c392_129 : fx_op 392 129 = some (.aload_n 0, 130, 129) := by decide +kernel
theorem c392_130 : fx_gf 392 130 = some (12, 27, 133) := by decide +kernel
theorem c392_133 : fx_op 392 133 = some (.iload_n 1, 134, 133) := by decide +kernel
theorem c392_134 : fx_op 392 134 = some (.iaload, 135, 134) := by decide +kernel
theorem c392_153 : fx_op 392 153 = some (.aload_n 0, 154, 153) := by decide +kernel
theorem c392_154 : fx_op 392 154 = some (.iload_n 1, 155, 154) := by decide +kernel
theorem c392_8 : fx_ci 392 8 = some (0, 9) := by decide +kernel
theorem c392_15 : fx_op 392 15 = some (.iaload, 16, 15) := by decide +kernel
theorem c392_22 : fx_op 392 22 = some (.iaload, 23, 22) := by decide +kernel
theorem c392_66 : fx_ca 392 66 = some (248, 1, 2, 69) := by decide +kernel
theorem c392_112 : fx_ca 392 112 = some (397, 4, 2, 115) := by decide +kernel
theorem c392_149 : fx_ca 392 149 = some (402, 2, 2, 152) := by decide +kernel
theorem c392_122 : fx_op 392 122 = some (.iaload, 123, 122) := by decide +kernel
theorem c392_146 : fx_op 392 146 = some (.ireturn, 147, 146) := by decide +kernel
theorem c392_135 : fx_ca 392 135 = some (397, 4, 2, 138) := by decide +kernel
theorem c392_155 : fx_ca 392 155 = some (406, 2, 2, 158) := by decide +kernel
theorem c392_23 : fx_ls 392 23 = some ([(103, 64), (114, 108), (117, 147), (119, 116)], 153) := by decide +kernel
theorem c392_9 : fx_op 392 9 = some (.ireturn, 10, 9) := by decide +kernel
theorem c392_69 : fx_op 392 69 = some (.if_icmp .ge 37, 72, 106) := by decide +kernel
theorem c392_106 : fx_ci 392 106 = some (0, 107) := by decide +kernel
theorem c392_72 : fx_op 392 72 = some (.aload_n 0, 73, 72) := by decide +kernel
theorem c392_73 : fx_op 392 73 = some (.iload_n 2, 74, 73) := by decide +kernel
theorem c392_107 : fx_op 392 107 = some (.ireturn, 108, 107) := by decide +kernel
theorem c392_74 : fx_ca 392 74 = some (271, 2, 2, 77) := by decide +kernel
theorem c392_115 : fx_op 392 115 = some (.ireturn, 116, 115) := by decide +kernel
theorem c392_152 : fx_op 392 152 = some (.ireturn, 153, 152) := by decide +kernel
theorem c392_138 : fx_op 392 138 = some (.ifCond .eq 7, 141, 145) := by decide +kernel
theorem c392_141 : fx_ci 392 141 = some (1, 142) := by decide +kernel
theorem c392_142 : fx_op 392 142 = some (.goto 4, 145, 146) := by decide +kernel
theorem c392_158 : fx_op 392 158 = some (.ireturn, 159, 158) := by decide +kernel
theorem c392_77 : fx_op 392 77 = some (.ifCond .lt 29, 80, 106) := by decide +kernel
theorem c392_80 : fx_op 392 80 = some (.aload_n 0, 81, 80) := by decide +kernel
theorem c392_81 : fx_op 392 81 = some (.iload_n 1, 82, 81) := by decide +kernel
theorem c392_82 : fx_ci 392 82 = some (1, 83) := by decide +kernel
theorem c392_83 : fx_ci 392 83 = some (2, 84) := by decide +kernel
theorem c392_84 : fx_op 392 84 = some (.aload_n 0, 85, 84) := by decide +kernel
theorem c392_85 : fx_op 392 85 = some (.iload_n 2, 86, 85) := by decide +kernel
theorem c392_86 : fx_ca 392 86 = some (271, 2, 2, 89) := by decide +kernel
theorem c392_89 : fx_op 392 89 = some (.imul, 90, 89) := by decide +kernel
theorem c392_90 : fx_op 392 90 = some (.iadd, 91, 90) := by decide +kernel
theorem c392_91 : fx_ci 392 91 = some (8, 93) := by decide +kernel
theorem c392_93 : fx_op 392 93 = some (.iload_n 2, 94, 93) := by decide +kernel
theorem c392_94 : fx_op 392 94 = some (.imul, 95, 94) := by decide +kernel
theorem c392_95 : fx_op 392 95 = some (.iadd, 96, 95) := by decide +kernel
theorem c392_96 : fx_ca 392 96 = some (396, 3, 2, 99) := by decide +kernel
theorem c392_99 : fx_op 392 99 = some (.ifCond .eq 7, 102, 106) := by decide +kernel
theorem c392_102 : fx_ci 392 102 = some (1, 103) := by decide +kernel
theorem c392_103 : fx_op 392 103 = some (.goto 4, 106, 107) := by decide +kernel
theorem s392_0 {kc : List va_E} {d : Nat} {x1 : Int} {M : fx_M} {Q : Option fx_V → fx_M → Prop} (H : wc kc d 393 [jR 133, jI x1] M (fun v M1 => wp kc (d + 1) 392 5 [some (jR 133), some (jI x1), none] (v.toList ++ []) M1 Q)) : wp kc (d + 1) 392 0 [some (jR 133), some (jI x1), none] [] M Q :=
  (x_aldn c392_0 rfl (x_ildn c392_1 rfl (wp_wk (l' := [some (jR 133), some (jI x1), none]) ⟨rfl, ⟨rfl, trivial⟩⟩ (x_cv (As := [jI x1]) (st := []) c392_2 cl_133 kl393 rfl (Nat.le_of_ble_eq_true rfl) mx393 (Nat.le_refl _) H))))
theorem s392_5 {kc : List va_E} {d : Nat} {v1 u0 : Int} {M : fx_M} {Q : Option fx_V → fx_M → Prop} (H : ((fx_in32 u0)) ∧ (u0 ≠ 0 → (((0 : Int) ≤ v1 ∧ v1 < 3100)) ∧ (((0 : Int) ≤ v1 ∧ v1 < 3100)) ∧ (fx_in32 (M 138 v1) ∧ (M 138 v1 = 103 → wc kc d 248 [jR 133] M (fun v M1 => wp kc (d + 1) 392 69 [some (jR 133), some (jI v1), some (jI (M 139 v1))] (v.toList ++ [jI (M 139 v1)]) M1 Q)) ∧ (M 138 v1 = 114 → wc kc d 397 [jR 133, jI v1, jI (M 139 v1), jI (-1)] M (fun v M1 => wp kc (d + 1) 392 115 [none, none, none] (v.toList ++ []) M1 Q)) ∧ (M 138 v1 = 117 → wc kc d 402 [jR 133, jI v1] M (fun v M1 => wp kc (d + 1) 392 152 [none, none, none] (v.toList ++ []) M1 Q)) ∧ (M 138 v1 = 119 → (((0 : Int) ≤ v1 ∧ v1 < 3100)) ∧ ((fx_in32 (M 139 v1)) ∧ (fx_in32 (M 140 v1))) ∧ (M 140 v1 ≤ M 139 v1 → Q (some (jI 0)) M) ∧ (M 139 v1 < M 140 v1 → (((0 : Int) ≤ v1 ∧ v1 < 3100)) ∧ wc kc d 397 [jR 133, jI v1, jI (M 139 v1), jI (M 140 v1)] M (fun v M1 => wp kc (d + 1) 392 138 [none, none, none] (v.toList ++ []) M1 Q))) ∧ (M 138 v1 ≠ 103 → M 138 v1 ≠ 114 → M 138 v1 ≠ 117 → M 138 v1 ≠ 119 → wc kc d 406 [jR 133, jI v1] M (fun v M1 => wp kc (d + 1) 392 158 [none, none, none] (v.toList ++ []) M1 Q)))) ∧ (u0 = 0 → Q (some (jI 0)) M)) : wp kc (d + 1) 392 5 [some (jR 133), some (jI v1), none] [jI u0] M Q :=
  (x_zne c392_5 H.1 (fun h3 => (x_aldn c392_10 rfl (x_gfr c392_11 k_133_26 (x_ildn c392_14 rfl (x_iald c392_15 a_139 (H.2.1 h3).1 (by decide) (x_istn (l' := [some (jR 133), some (jI v1), some (jI (M 139 v1))]) c392_16 rfl (x_aldn c392_17 rfl (x_gfr c392_18 k_133_25 (x_ildn c392_21 rfl (x_iald c392_22 a_138 (H.2.1 h3).2.1 (by decide) (x_lsw c392_23 (H.2.1 h3).2.2.1 ⟨fun h5 => (x_ildn c392_64 rfl (x_aldn c392_65 rfl (wp_wk (l' := [some (jR 133), some (jI v1), some (jI (M 139 v1))]) ⟨rfl, ⟨rfl, ⟨rfl, trivial⟩⟩⟩ (x_cv (As := []) (st := [jI (M 139 v1)]) c392_66 cl_133 kl248 rfl (Nat.le_of_ble_eq_true rfl) mx248 (Nat.le_refl _) ((H.2.1 h3).2.2.2.1 h5))))), ⟨fun h6 => (x_aldn c392_108 rfl (x_ildn c392_109 rfl (x_ildn c392_110 rfl (x_ci c392_111 (wp_wk (l' := [none, none, none]) trivial (x_cv (As := [jI v1, jI (M 139 v1), jI (-1)]) (st := []) c392_112 cl_133 kl397 rfl (Nat.le_of_ble_eq_true rfl) mx397 (Nat.le_refl _) ((H.2.1 h3).2.2.2.2.1 h6))))))), ⟨fun h7 => (x_aldn c392_147 rfl (x_ildn c392_148 rfl (wp_wk (l' := [none, none, none]) trivial (x_cv (As := [jI v1]) (st := []) c392_149 cl_133 kl402 rfl (Nat.le_of_ble_eq_true rfl) mx402 (Nat.le_refl _) ((H.2.1 h3).2.2.2.2.2.1 h7))))), ⟨fun h8 => (x_ildn c392_116 rfl (x_aldn c392_117 rfl (x_gfr c392_118 k_133_27 (x_ildn c392_121 rfl (x_iald c392_122 a_140 ((H.2.1 h3).2.2.2.2.2.2.1 h8).1 (by decide) (x_cge c392_123 ((H.2.1 h3).2.2.2.2.2.2.1 h8).2.1.1 ((H.2.1 h3).2.2.2.2.2.2.1 h8).2.1.2 (fun h1 => (x_ci c392_145 (x_zrt c392_146 r392 (by decide) (((H.2.1 h3).2.2.2.2.2.2.1 h8).2.2.1 h1)))) (fun h2 => (x_aldn c392_126 rfl (x_ildn c392_127 rfl (x_ildn c392_128 rfl (x_aldn c392_129 rfl (x_gfr c392_130 k_133_27 (x_ildn c392_133 rfl (x_iald c392_134 a_140 (((H.2.1 h3).2.2.2.2.2.2.1 h8).2.2.2 h2).1 (by decide) (wp_wk (l' := [none, none, none]) trivial (x_cv (As := [jI v1, jI (M 139 v1), jI (M 140 v1)]) (st := []) c392_135 cl_133 kl397 rfl (Nat.le_of_ble_eq_true rfl) mx397 (Nat.le_refl _) (((H.2.1 h3).2.2.2.2.2.2.1 h8).2.2.2 h2).2)))))))))))))))), fun h9 h10 h11 h12 => (x_aldn c392_153 rfl (x_ildn c392_154 rfl (wp_wk (l' := [none, none, none]) trivial (x_cv (As := [jI v1]) (st := []) c392_155 cl_133 kl406 rfl (Nat.le_of_ble_eq_true rfl) mx406 (Nat.le_refl _) ((H.2.1 h3).2.2.2.2.2.2.2 h9 h10 h11 h12)))))⟩⟩⟩⟩))))))))))) (fun h4 => (x_ci c392_8 (x_zrt c392_9 r392 (by decide) (H.2.2 h4)))))
theorem s392_69 {kc : List va_E} {d : Nat} {v1 v2 u0 u1 : Int} {M : fx_M} {Q : Option fx_V → fx_M → Prop} (H : ((fx_in32 u1) ∧ (fx_in32 u0)) ∧ (u0 ≤ u1 → Q (some (jI 0)) M) ∧ (u1 < u0 → wc kc d 271 [jR 133, jI v2] M (fun v M1 => wp kc (d + 1) 392 77 [some (jR 133), some (jI v1), some (jI v2)] (v.toList ++ []) M1 Q))) : wp kc (d + 1) 392 69 [some (jR 133), some (jI v1), some (jI v2)] [jI u0, jI u1] M Q :=
  (x_cge c392_69 H.1.1 H.1.2 (fun h1 => (x_ci c392_106 (x_zrt c392_107 r392 (by decide) (H.2.1 h1)))) (fun h2 => (x_aldn c392_72 rfl (x_ildn c392_73 rfl (wp_wk (l' := [some (jR 133), some (jI v1), some (jI v2)]) ⟨rfl, ⟨rfl, ⟨rfl, trivial⟩⟩⟩ (x_cv (As := [jI v2]) (st := []) c392_74 cl_133 kl271 rfl (Nat.le_of_ble_eq_true rfl) mx271 (Nat.le_refl _) (H.2.2 h2)))))))
theorem s392_77 {kc : List va_E} {d : Nat} {v1 v2 u0 : Int} {M : fx_M} {Q : Option fx_V → fx_M → Prop} (H : ((fx_in32 u0)) ∧ (u0 < 0 → Q (some (jI 0)) M) ∧ (0 ≤ u0 → wc kc d 271 [jR 133, jI v2] M (fun v M1 => wp kc (d + 1) 392 89 [none, none, some (jI v2)] (v.toList ++ [jI 2, jI 1, jI v1, jR 133]) M1 Q))) : wp kc (d + 1) 392 77 [some (jR 133), some (jI v1), some (jI v2)] [jI u0] M Q :=
  (x_zlt c392_77 H.1 (fun h1 => (x_ci c392_106 (x_zrt c392_107 r392 (by decide) (H.2.1 h1)))) (fun h2 => (x_aldn c392_80 rfl (x_ildn c392_81 rfl (x_ci c392_82 (x_ci c392_83 (x_aldn c392_84 rfl (x_ildn c392_85 rfl (wp_wk (l' := [none, none, some (jI v2)]) ⟨rfl, trivial⟩ (x_cv (As := [jI v2]) (st := [jI 2, jI 1, jI v1, jR 133]) c392_86 cl_133 kl271 rfl (Nat.le_of_ble_eq_true rfl) mx271 (Nat.le_refl _) (H.2.2 h2)))))))))))
theorem s392_89 {kc : List va_E} {d : Nat} {v2 u0 u1 u2 u3 : Int} {M : fx_M} {Q : Option fx_V → fx_M → Prop} (H : wc kc d 396 [jR 133, jI u3, jI ((u2 + (u1 * u0)) + (8 * v2))] M (fun v M1 => wp kc (d + 1) 392 99 [none, none, none] (v.toList ++ []) M1 Q)) : wp kc (d + 1) 392 89 [none, none, some (jI v2)] [jI u0, jI u1, jI u2, jI u3, jR 133] M Q :=
  (x_imul c392_89 (x_iadd c392_90 (x_ci c392_91 (x_ildn c392_93 rfl (x_imul c392_94 (x_iadd c392_95 (wp_wk (l' := [none, none, none]) trivial (x_cv (As := [jI u3, jI ((u2 + (u1 * u0)) + (8 * v2))]) (st := []) c392_96 cl_133 kl396 rfl (Nat.le_of_ble_eq_true rfl) mx396 (Nat.le_refl _) H))))))))
theorem s392_99 {kc : List va_E} {d : Nat} {u0 : Int} {M : fx_M} {Q : Option fx_V → fx_M → Prop} (H : ((fx_in32 u0)) ∧ ((0 : Int) ≤ (if u0 = 0 then (0 : Int) else 1) ∧ (if u0 = 0 then (0 : Int) else 1) ≤ 1) ∧ Q (some (jI (if u0 = 0 then (0 : Int) else 1))) M) : wp kc (d + 1) 392 99 [none, none, none] [jI u0] M Q :=
  (have K : wp kc (d + 1) 392 107 [none, none, none] [jI (if u0 = 0 then (0 : Int) else 1)] M Q := (x_zrt c392_107 r392 H.2.1 H.2.2); (x_zeq c392_99 H.1 (fun (h1 : u0 = 0) => (x_ci c392_106 (wp_wk (l' := [none, none, none]) trivial (by have K := K; first | (simp only [if_pos h1] at K ⊢; exact K) | (exfalso; omega))))) (fun (h2 : u0 ≠ 0) => (x_ci c392_102 (x_goto c392_103 (wp_wk (l' := [none, none, none]) trivial (by have K := K; first | (simp only [if_neg h2] at K ⊢; exact K) | (exfalso; omega))))))))
theorem s392_115 {kc : List va_E} {d : Nat} {u0 : Int} {M : fx_M} {Q : Option fx_V → fx_M → Prop} (H : ((0 : Int) ≤ u0 ∧ u0 ≤ 1) ∧ Q (some (jI u0)) M) : wp kc (d + 1) 392 115 [none, none, none] [jI u0] M Q :=
  (x_zrt c392_115 r392 H.1 H.2)
theorem s392_138 {kc : List va_E} {d : Nat} {u0 : Int} {M : fx_M} {Q : Option fx_V → fx_M → Prop} (H : ((fx_in32 u0)) ∧ ((0 : Int) ≤ (if u0 = 0 then (0 : Int) else 1) ∧ (if u0 = 0 then (0 : Int) else 1) ≤ 1) ∧ Q (some (jI (if u0 = 0 then (0 : Int) else 1))) M) : wp kc (d + 1) 392 138 [none, none, none] [jI u0] M Q :=
  (have K : wp kc (d + 1) 392 146 [none, none, none] [jI (if u0 = 0 then (0 : Int) else 1)] M Q := (x_zrt c392_146 r392 H.2.1 H.2.2); (x_zeq c392_138 H.1 (fun (h1 : u0 = 0) => (x_ci c392_145 (wp_wk (l' := [none, none, none]) trivial (by have K := K; first | (simp only [if_pos h1] at K ⊢; exact K) | (exfalso; omega))))) (fun (h2 : u0 ≠ 0) => (x_ci c392_141 (x_goto c392_142 (wp_wk (l' := [none, none, none]) trivial (by have K := K; first | (simp only [if_neg h2] at K ⊢; exact K) | (exfalso; omega))))))))
theorem s392_152 {kc : List va_E} {d : Nat} {u0 : Int} {M : fx_M} {Q : Option fx_V → fx_M → Prop} (H : ((0 : Int) ≤ u0 ∧ u0 ≤ 1) ∧ Q (some (jI u0)) M) : wp kc (d + 1) 392 152 [none, none, none] [jI u0] M Q :=
  (x_zrt c392_152 r392 H.1 H.2)
theorem s392_158 {kc : List va_E} {d : Nat} {u0 : Int} {M : fx_M} {Q : Option fx_V → fx_M → Prop} (H : ((0 : Int) ≤ u0 ∧ u0 ≤ 1) ∧ Q (some (jI u0)) M) : wp kc (d + 1) 392 158 [none, none, none] [jI u0] M Q :=
  (x_zrt c392_158 r392 H.1 H.2)
theorem s392 {kc : List va_E} {d : Nat} {x1 : Int} {M : fx_M} {Q : Option fx_V → fx_M → Prop} (H : wc kc d 393 [jR 133, jI x1] M (fun v M1 => wp kc (d + 1) 392 5 [some (jR 133), some (jI x1), none] (v.toList ++ []) M1 Q)) : wc kc (d + 1) 392 [jR 133, jI x1] M Q :=
  wc_of (wp_wk (l' := [some (jR 133), some (jI x1), none]) ⟨rfl, ⟨rfl, trivial⟩⟩ (s392_0 H))

/- PuzzleHouseModel.isWhole(I)Z -/
theorem c393_0 : fx_ci 393 0 = some (0, 1) := by decide +kernel
theorem c393_1 : fx_op 393 1 = some (.istore_n 2, 2, 1) := by decide +kernel
theorem c393_2 : fx_op 393 2 = some (.iload_n 2, 3, 2) := by decide +kernel
theorem c393_3 : fx_op 393 3 = some (.aload_n 0, 4, 3) := by decide +kernel
theorem c393_4 : fx_op 393 4 = some (.iload_n 1, 5, 4) := by decide +kernel
theorem c393_5 : fx_ca 393 5 = some (394, 2, 2, 8) := by decide +kernel
theorem c393_8 : fx_op 393 8 = some (.if_icmp .ge 50, 11, 58) := by decide +kernel
theorem c393_58 : fx_ci 393 58 = some (1, 59) := by decide +kernel
theorem c393_11 : fx_op 393 11 = some (.aload_n 0, 12, 11) := by decide +kernel
theorem c393_12 : fx_op 393 12 = some (.iload_n 1, 13, 12) := by decide +kernel
theorem c393_13 : fx_op 393 13 = some (.iload_n 2, 14, 13) := by decide +kernel
theorem c393_59 : fx_op 393 59 = some (.ireturn, 60, 59) := by decide +kernel
theorem c393_14 : fx_ca 393 14 = some (395, 3, 2, 17) := by decide +kernel
theorem c393_17 : fx_op 393 17 = some (.ifCond .ge 5, 20, 22) := by decide +kernel
theorem c393_22 : fx_ci 393 22 = some (0, 23) := by decide +kernel
theorem c393_23 : fx_op 393 23 = some (.istore_n 3, 24, 23) := by decide +kernel
theorem c393_20 : fx_ci 393 20 = some (0, 21) := by decide +kernel
theorem c393_21 : fx_op 393 21 = some (.ireturn, 22, 21) := by decide +kernel
theorem c393_24 : fx_op 393 24 = some (.iload_n 3, 25, 24) := by decide +kernel
theorem c393_25 : fx_op 393 25 = some (.iload_n 2, 26, 25) := by decide +kernel
theorem c393_26 : fx_op 393 26 = some (.if_icmp .ge 26, 29, 52) := by decide +kernel
theorem c393_52 : fx_op 393 52 = some (.iinc 2 1, 55, 52) := by decide +kernel
theorem c393_29 : fx_op 393 29 = some (.aload_n 0, 30, 29) := by decide +kernel
theorem c393_30 : fx_op 393 30 = some (.iload_n 1, 31, 30) := by decide +kernel
theorem c393_31 : fx_op 393 31 = some (.iload_n 2, 32, 31) := by decide +kernel
theorem c393_55 : fx_op 393 55 = some (.goto (-53), 58, 2) := by decide +kernel
theorem c393_32 : fx_ca 393 32 = some (395, 3, 2, 35) := by decide +kernel
theorem c393_35 : fx_op 393 35 = some (.aload_n 0, 36, 35) := by decide +kernel
theorem c393_36 : fx_op 393 36 = some (.iload_n 1, 37, 36) := by decide +kernel
theorem c393_37 : fx_op 393 37 = some (.iload_n 3, 38, 37) := by decide +kernel
theorem c393_38 : fx_ca 393 38 = some (395, 3, 2, 41) := by decide +kernel
theorem c393_41 : fx_op 393 41 = some (.if_icmp .ne 5, 44, 46) := by decide +kernel
theorem c393_46 : fx_op 393 46 = some (.iinc 3 1, 49, 46) := by decide +kernel
theorem c393_44 : fx_ci 393 44 = some (0, 45) := by decide +kernel
theorem c393_49 : fx_op 393 49 = some (.goto (-25), 52, 24) := by decide +kernel
theorem c393_45 : fx_op 393 45 = some (.ireturn, 46, 45) := by decide +kernel
theorem s393_0 {kc : List va_E} {d : Nat} {x1 : Int} {M : fx_M} {Q : Option fx_V → fx_M → Prop} (H : wp kc (d + 1) 393 2 [some (jR 133), some (jI x1), some (jI 0), none] [] M Q) : wp kc (d + 1) 393 0 [some (jR 133), some (jI x1), none, none] [] M Q :=
  (x_ci c393_0 (x_istn (l' := [some (jR 133), some (jI x1), some (jI 0), none]) c393_1 rfl (wp_wk (l' := [some (jR 133), some (jI x1), some (jI 0), none]) ⟨rfl, ⟨rfl, ⟨rfl, trivial⟩⟩⟩ H)))
theorem s393_2 {kc : List va_E} {d : Nat} {v1 v2 : Int} {M : fx_M} {Q : Option fx_V → fx_M → Prop} (H : wc kc d 394 [jR 133, jI v1] M (fun v M1 => wp kc (d + 1) 393 8 [some (jR 133), some (jI v1), some (jI v2), none] (v.toList ++ [jI v2]) M1 Q)) : wp kc (d + 1) 393 2 [some (jR 133), some (jI v1), some (jI v2), none] [] M Q :=
  (x_ildn c393_2 rfl (x_aldn c393_3 rfl (x_ildn c393_4 rfl (wp_wk (l' := [some (jR 133), some (jI v1), some (jI v2), none]) ⟨rfl, ⟨rfl, ⟨rfl, trivial⟩⟩⟩ (x_cv (As := [jI v1]) (st := [jI v2]) c393_5 cl_133 kl394 rfl (Nat.le_of_ble_eq_true rfl) mx394 (Nat.le_refl _) H)))))
theorem s393_8 {kc : List va_E} {d : Nat} {v1 v2 u0 u1 : Int} {M : fx_M} {Q : Option fx_V → fx_M → Prop} (H : ((fx_in32 u1) ∧ (fx_in32 u0)) ∧ (u0 ≤ u1 → Q (some (jI 1)) M) ∧ (u1 < u0 → wc kc d 395 [jR 133, jI v1, jI v2] M (fun v M1 => wp kc (d + 1) 393 17 [some (jR 133), some (jI v1), some (jI v2), none] (v.toList ++ []) M1 Q))) : wp kc (d + 1) 393 8 [some (jR 133), some (jI v1), some (jI v2), none] [jI u0, jI u1] M Q :=
  (x_cge c393_8 H.1.1 H.1.2 (fun h1 => (x_ci c393_58 (x_zrt c393_59 r393 (by decide) (H.2.1 h1)))) (fun h2 => (x_aldn c393_11 rfl (x_ildn c393_12 rfl (x_ildn c393_13 rfl (wp_wk (l' := [some (jR 133), some (jI v1), some (jI v2), none]) ⟨rfl, ⟨rfl, ⟨rfl, trivial⟩⟩⟩ (x_cv (As := [jI v1, jI v2]) (st := []) c393_14 cl_133 kl395 rfl (Nat.le_of_ble_eq_true rfl) mx395 (Nat.le_refl _) (H.2.2 h2))))))))
theorem s393_17 {kc : List va_E} {d : Nat} {v1 v2 u0 : Int} {M : fx_M} {Q : Option fx_V → fx_M → Prop} (H : ((fx_in32 u0)) ∧ (0 ≤ u0 → wp kc (d + 1) 393 24 [some (jR 133), some (jI v1), some (jI v2), some (jI 0)] [] M Q) ∧ (u0 < 0 → Q (some (jI 0)) M)) : wp kc (d + 1) 393 17 [some (jR 133), some (jI v1), some (jI v2), none] [jI u0] M Q :=
  (x_zge c393_17 H.1 (fun h1 => (x_ci c393_22 (x_istn (l' := [some (jR 133), some (jI v1), some (jI v2), some (jI 0)]) c393_23 rfl (wp_wk (l' := [some (jR 133), some (jI v1), some (jI v2), some (jI 0)]) ⟨rfl, ⟨rfl, ⟨rfl, ⟨rfl, trivial⟩⟩⟩⟩ (H.2.1 h1))))) (fun h2 => (x_ci c393_20 (x_zrt c393_21 r393 (by decide) (H.2.2 h2)))))
theorem s393_24 {kc : List va_E} {d : Nat} {v1 v2 v3 : Int} {M : fx_M} {Q : Option fx_V → fx_M → Prop} (H : ((fx_in32 v3) ∧ (fx_in32 v2)) ∧ (v2 ≤ v3 → wp kc (d + 1) 393 2 [some (jR 133), some (jI v1), some (jI (v2 + 1)), none] [] M Q) ∧ (v3 < v2 → wc kc d 395 [jR 133, jI v1, jI v2] M (fun v M1 => wp kc (d + 1) 393 35 [some (jR 133), some (jI v1), some (jI v2), some (jI v3)] (v.toList ++ []) M1 Q))) : wp kc (d + 1) 393 24 [some (jR 133), some (jI v1), some (jI v2), some (jI v3)] [] M Q :=
  (x_ildn c393_24 rfl (x_ildn c393_25 rfl (x_cge c393_26 H.1.1 H.1.2 (fun h1 => (x_inc (l' := [some (jR 133), some (jI v1), some (jI (v2 + 1)), some (jI v3)]) c393_52 rfl rfl (x_goto c393_55 (wp_wk (l' := [some (jR 133), some (jI v1), some (jI (v2 + 1)), none]) ⟨rfl, ⟨rfl, ⟨rfl, trivial⟩⟩⟩ (H.2.1 h1))))) (fun h2 => (x_aldn c393_29 rfl (x_ildn c393_30 rfl (x_ildn c393_31 rfl (wp_wk (l' := [some (jR 133), some (jI v1), some (jI v2), some (jI v3)]) ⟨rfl, ⟨rfl, ⟨rfl, ⟨rfl, trivial⟩⟩⟩⟩ (x_cv (As := [jI v1, jI v2]) (st := []) c393_32 cl_133 kl395 rfl (Nat.le_of_ble_eq_true rfl) mx395 (Nat.le_refl _) (H.2.2 h2))))))))))
theorem s393_35 {kc : List va_E} {d : Nat} {v1 v2 v3 u0 : Int} {M : fx_M} {Q : Option fx_V → fx_M → Prop} (H : wc kc d 395 [jR 133, jI v1, jI v3] M (fun v M1 => wp kc (d + 1) 393 41 [some (jR 133), some (jI v1), some (jI v2), some (jI v3)] (v.toList ++ [jI u0]) M1 Q)) : wp kc (d + 1) 393 35 [some (jR 133), some (jI v1), some (jI v2), some (jI v3)] [jI u0] M Q :=
  (x_aldn c393_35 rfl (x_ildn c393_36 rfl (x_ildn c393_37 rfl (wp_wk (l' := [some (jR 133), some (jI v1), some (jI v2), some (jI v3)]) ⟨rfl, ⟨rfl, ⟨rfl, ⟨rfl, trivial⟩⟩⟩⟩ (x_cv (As := [jI v1, jI v3]) (st := [jI u0]) c393_38 cl_133 kl395 rfl (Nat.le_of_ble_eq_true rfl) mx395 (Nat.le_refl _) H)))))
theorem s393_41 {kc : List va_E} {d : Nat} {v1 v2 v3 u0 u1 : Int} {M : fx_M} {Q : Option fx_V → fx_M → Prop} (H : ((fx_in32 u1) ∧ (fx_in32 u0)) ∧ (u1 ≠ u0 → wp kc (d + 1) 393 24 [some (jR 133), some (jI v1), some (jI v2), some (jI (v3 + 1))] [] M Q) ∧ (u1 = u0 → Q (some (jI 0)) M)) : wp kc (d + 1) 393 41 [some (jR 133), some (jI v1), some (jI v2), some (jI v3)] [jI u0, jI u1] M Q :=
  (x_cne c393_41 H.1.1 H.1.2 (fun h1 => (x_inc (l' := [some (jR 133), some (jI v1), some (jI v2), some (jI (v3 + 1))]) c393_46 rfl rfl (x_goto c393_49 (wp_wk (l' := [some (jR 133), some (jI v1), some (jI v2), some (jI (v3 + 1))]) ⟨rfl, ⟨rfl, ⟨rfl, ⟨rfl, trivial⟩⟩⟩⟩ (H.2.1 h1))))) (fun h2 => (x_ci c393_44 (x_zrt c393_45 r393 (by decide) (H.2.2 h2)))))
theorem s393 {kc : List va_E} {d : Nat} {x1 : Int} {M : fx_M} {Q : Option fx_V → fx_M → Prop} (H : wp kc (d + 1) 393 2 [some (jR 133), some (jI x1), some (jI 0), none] [] M Q) : wc kc (d + 1) 393 [jR 133, jI x1] M Q :=
  wc_of (wp_wk (l' := [some (jR 133), some (jI x1), none, none]) ⟨rfl, ⟨rfl, trivial⟩⟩ (s393_0 H))

/- PuzzleHouseModel.literals(I)I -/
theorem c394_0 : fx_op 394 0 = some (.aload_n 0, 1, 0) := by decide +kernel
theorem c394_1 : fx_gf 394 1 = some (12, 28, 4) := by decide +kernel
theorem c394_4 : fx_op 394 4 = some (.iload_n 1, 5, 4) := by decide +kernel
theorem c394_5 : fx_ci 394 5 = some (1, 6) := by decide +kernel
theorem c394_6 : fx_op 394 6 = some (.iadd, 7, 6) := by decide +kernel
theorem c394_8 : fx_op 394 8 = some (.aload_n 0, 9, 8) := by decide +kernel
theorem c394_9 : fx_gf 394 9 = some (12, 28, 12) := by decide +kernel
theorem c394_12 : fx_op 394 12 = some (.iload_n 1, 13, 12) := by decide +kernel
theorem c394_14 : fx_op 394 14 = some (.isub, 15, 14) := by decide +kernel
theorem c394_7 : fx_op 394 7 = some (.iaload, 8, 7) := by decide +kernel
theorem c394_13 : fx_op 394 13 = some (.iaload, 14, 13) := by decide +kernel
theorem c394_15 : fx_op 394 15 = some (.ireturn, 16, 15) := by decide +kernel
theorem s394_0 {kc : List va_E} {d : Nat} {x1 : Int} {M : fx_M} {Q : Option fx_V → fx_M → Prop} (H : (((0 : Int) ≤ x1 + 1 ∧ x1 + 1 < 3101)) ∧ (((0 : Int) ≤ x1 ∧ x1 < 3101)) ∧ Q (some (jI ((M 141 (x1 + 1)) - (M 141 x1)))) M) : wp kc (d + 1) 394 0 [some (jR 133), some (jI x1)] [] M Q :=
  (x_aldn c394_0 rfl (x_gfr c394_1 k_133_28 (x_ildn c394_4 rfl (x_ci c394_5 (x_iadd c394_6 (x_iald c394_7 a_141 H.1 (by decide) (x_aldn c394_8 rfl (x_gfr c394_9 k_133_28 (x_ildn c394_12 rfl (x_iald c394_13 a_141 H.2.1 (by decide) (x_isub c394_14 (x_irt c394_15 r394 H.2.2))))))))))))
theorem s394 {kc : List va_E} {d : Nat} {x1 : Int} {M : fx_M} {Q : Option fx_V → fx_M → Prop} (H : (((0 : Int) ≤ x1 + 1 ∧ x1 + 1 < 3101)) ∧ (((0 : Int) ≤ x1 ∧ x1 < 3101)) ∧ Q (some (jI ((M 141 (x1 + 1)) - (M 141 x1)))) M) : wc kc (d + 1) 394 [jR 133, jI x1] M Q :=
  wc_of (wp_wk (l' := [some (jR 133), some (jI x1)]) ⟨rfl, ⟨rfl, trivial⟩⟩ (s394_0 H))

/- PuzzleHouseModel.literalAt(II)I -/
theorem c395_0 : fx_op 395 0 = some (.aload_n 0, 1, 0) := by decide +kernel
theorem c395_1 : fx_gf 395 1 = some (12, 29, 4) := by decide +kernel
theorem c395_4 : fx_op 395 4 = some (.aload_n 0, 5, 4) := by decide +kernel
theorem c395_5 : fx_gf 395 5 = some (12, 28, 8) := by decide +kernel
theorem c395_8 : fx_op 395 8 = some (.iload_n 1, 9, 8) := by decide +kernel
theorem c395_10 : fx_op 395 10 = some (.iload_n 2, 11, 10) := by decide +kernel
theorem c395_11 : fx_op 395 11 = some (.iadd, 12, 11) := by decide +kernel
theorem c395_9 : fx_op 395 9 = some (.iaload, 10, 9) := by decide +kernel
theorem c395_12 : fx_op 395 12 = some (.iaload, 13, 12) := by decide +kernel
theorem c395_13 : fx_op 395 13 = some (.ireturn, 14, 13) := by decide +kernel
theorem s395_0 {kc : List va_E} {d : Nat} {x1 x2 : Int} {M : fx_M} {Q : Option fx_V → fx_M → Prop} (H : (((0 : Int) ≤ x1 ∧ x1 < 3101)) ∧ (((0 : Int) ≤ (M 141 x1) + x2 ∧ (M 141 x1) + x2 < 1300)) ∧ Q (some (jI (M 142 ((M 141 x1) + x2)))) M) : wp kc (d + 1) 395 0 [some (jR 133), some (jI x1), some (jI x2)] [] M Q :=
  (x_aldn c395_0 rfl (x_gfr c395_1 k_133_29 (x_aldn c395_4 rfl (x_gfr c395_5 k_133_28 (x_ildn c395_8 rfl (x_iald c395_9 a_141 H.1 (by decide) (x_ildn c395_10 rfl (x_iadd c395_11 (x_iald c395_12 a_142 H.2.1 (by decide) (x_irt c395_13 r395 H.2.2))))))))))
theorem s395 {kc : List va_E} {d : Nat} {x1 x2 : Int} {M : fx_M} {Q : Option fx_V → fx_M → Prop} (H : (((0 : Int) ≤ x1 ∧ x1 < 3101)) ∧ (((0 : Int) ≤ (M 141 x1) + x2 ∧ (M 141 x1) + x2 < 1300)) ∧ Q (some (jI (M 142 ((M 141 x1) + x2)))) M) : wc kc (d + 1) 395 [jR 133, jI x1, jI x2] M Q :=
  wc_of (wp_wk (l' := [some (jR 133), some (jI x1), some (jI x2)]) ⟨rfl, ⟨rfl, ⟨rfl, trivial⟩⟩⟩ (s395_0 H))

/- PuzzleHouseModel.hasLiteral(II)Z -/
theorem c396_0 : fx_ci 396 0 = some (0, 1) := by decide +kernel
theorem c396_1 : fx_op 396 1 = some (.istore_n 3, 2, 1) := by decide +kernel
theorem c396_2 : fx_op 396 2 = some (.iload_n 3, 3, 2) := by decide +kernel
theorem c396_3 : fx_op 396 3 = some (.aload_n 0, 4, 3) := by decide +kernel
theorem c396_4 : fx_op 396 4 = some (.iload_n 1, 5, 4) := by decide +kernel
theorem c396_5 : fx_ca 396 5 = some (394, 2, 2, 8) := by decide +kernel
theorem c396_8 : fx_op 396 8 = some (.if_icmp .ge 21, 11, 29) := by decide +kernel
theorem c396_29 : fx_ci 396 29 = some (0, 30) := by decide +kernel
theorem c396_11 : fx_op 396 11 = some (.aload_n 0, 12, 11) := by decide +kernel
theorem c396_12 : fx_op 396 12 = some (.iload_n 1, 13, 12) := by decide +kernel
theorem c396_13 : fx_op 396 13 = some (.iload_n 3, 14, 13) := by decide +kernel
theorem c396_30 : fx_op 396 30 = some (.ireturn, 31, 30) := by decide +kernel
theorem c396_14 : fx_ca 396 14 = some (395, 3, 2, 17) := by decide +kernel
theorem c396_17 : fx_op 396 17 = some (.iload_n 2, 18, 17) := by decide +kernel
theorem c396_18 : fx_op 396 18 = some (.if_icmp .ne 5, 21, 23) := by decide +kernel
theorem c396_23 : fx_op 396 23 = some (.iinc 3 1, 26, 23) := by decide +kernel
theorem c396_21 : fx_ci 396 21 = some (1, 22) := by decide +kernel
theorem c396_26 : fx_op 396 26 = some (.goto (-24), 29, 2) := by decide +kernel
theorem c396_22 : fx_op 396 22 = some (.ireturn, 23, 22) := by decide +kernel
theorem s396_0 {kc : List va_E} {d : Nat} {x1 x2 : Int} {M : fx_M} {Q : Option fx_V → fx_M → Prop} (H : wp kc (d + 1) 396 2 [some (jR 133), some (jI x1), some (jI x2), some (jI 0)] [] M Q) : wp kc (d + 1) 396 0 [some (jR 133), some (jI x1), some (jI x2), none] [] M Q :=
  (x_ci c396_0 (x_istn (l' := [some (jR 133), some (jI x1), some (jI x2), some (jI 0)]) c396_1 rfl (wp_wk (l' := [some (jR 133), some (jI x1), some (jI x2), some (jI 0)]) ⟨rfl, ⟨rfl, ⟨rfl, ⟨rfl, trivial⟩⟩⟩⟩ H)))
theorem s396_2 {kc : List va_E} {d : Nat} {v1 v2 v3 : Int} {M : fx_M} {Q : Option fx_V → fx_M → Prop} (H : wc kc d 394 [jR 133, jI v1] M (fun v M1 => wp kc (d + 1) 396 8 [some (jR 133), some (jI v1), some (jI v2), some (jI v3)] (v.toList ++ [jI v3]) M1 Q)) : wp kc (d + 1) 396 2 [some (jR 133), some (jI v1), some (jI v2), some (jI v3)] [] M Q :=
  (x_ildn c396_2 rfl (x_aldn c396_3 rfl (x_ildn c396_4 rfl (wp_wk (l' := [some (jR 133), some (jI v1), some (jI v2), some (jI v3)]) ⟨rfl, ⟨rfl, ⟨rfl, ⟨rfl, trivial⟩⟩⟩⟩ (x_cv (As := [jI v1]) (st := [jI v3]) c396_5 cl_133 kl394 rfl (Nat.le_of_ble_eq_true rfl) mx394 (Nat.le_refl _) H)))))
theorem s396_8 {kc : List va_E} {d : Nat} {v1 v2 v3 u0 u1 : Int} {M : fx_M} {Q : Option fx_V → fx_M → Prop} (H : ((fx_in32 u1) ∧ (fx_in32 u0)) ∧ (u0 ≤ u1 → Q (some (jI 0)) M) ∧ (u1 < u0 → wc kc d 395 [jR 133, jI v1, jI v3] M (fun v M1 => wp kc (d + 1) 396 17 [some (jR 133), some (jI v1), some (jI v2), some (jI v3)] (v.toList ++ []) M1 Q))) : wp kc (d + 1) 396 8 [some (jR 133), some (jI v1), some (jI v2), some (jI v3)] [jI u0, jI u1] M Q :=
  (x_cge c396_8 H.1.1 H.1.2 (fun h1 => (x_ci c396_29 (x_zrt c396_30 r396 (by decide) (H.2.1 h1)))) (fun h2 => (x_aldn c396_11 rfl (x_ildn c396_12 rfl (x_ildn c396_13 rfl (wp_wk (l' := [some (jR 133), some (jI v1), some (jI v2), some (jI v3)]) ⟨rfl, ⟨rfl, ⟨rfl, ⟨rfl, trivial⟩⟩⟩⟩ (x_cv (As := [jI v1, jI v3]) (st := []) c396_14 cl_133 kl395 rfl (Nat.le_of_ble_eq_true rfl) mx395 (Nat.le_refl _) (H.2.2 h2))))))))
theorem s396_17 {kc : List va_E} {d : Nat} {v1 v2 v3 u0 : Int} {M : fx_M} {Q : Option fx_V → fx_M → Prop} (H : ((fx_in32 u0) ∧ (fx_in32 v2)) ∧ (u0 ≠ v2 → wp kc (d + 1) 396 2 [some (jR 133), some (jI v1), some (jI v2), some (jI (v3 + 1))] [] M Q) ∧ (u0 = v2 → Q (some (jI 1)) M)) : wp kc (d + 1) 396 17 [some (jR 133), some (jI v1), some (jI v2), some (jI v3)] [jI u0] M Q :=
  (x_ildn c396_17 rfl (x_cne c396_18 H.1.1 H.1.2 (fun h1 => (x_inc (l' := [some (jR 133), some (jI v1), some (jI v2), some (jI (v3 + 1))]) c396_23 rfl rfl (x_goto c396_26 (wp_wk (l' := [some (jR 133), some (jI v1), some (jI v2), some (jI (v3 + 1))]) ⟨rfl, ⟨rfl, ⟨rfl, ⟨rfl, trivial⟩⟩⟩⟩ (H.2.1 h1))))) (fun h2 => (x_ci c396_21 (x_zrt c396_22 r396 (by decide) (H.2.2 h2))))))
theorem s396 {kc : List va_E} {d : Nat} {x1 x2 : Int} {M : fx_M} {Q : Option fx_V → fx_M → Prop} (H : wp kc (d + 1) 396 2 [some (jR 133), some (jI x1), some (jI x2), some (jI 0)] [] M Q) : wc kc (d + 1) 396 [jR 133, jI x1, jI x2] M Q :=
  wc_of (wp_wk (l' := [some (jR 133), some (jI x1), some (jI x2), none]) ⟨rfl, ⟨rfl, ⟨rfl, trivial⟩⟩⟩ (s396_0 H))

/- PuzzleHouseModel.isByRules(III)Z -/
theorem c397_0 : fx_op 397 0 = some (.iload_n 2, 1, 0) := by decide +kernel
theorem c397_1 : fx_op 397 1 = some (.aload_n 0, 2, 1) := by decide +kernel
theorem c397_2 : fx_gf 397 2 = some (12, 40, 5) := by decide +kernel
theorem c397_5 : fx_ci 397 5 = some (0, 6) := by decide +kernel
theorem c397_6 : fx_op 397 6 = some (.iaload, 7, 6) := by decide +kernel
theorem c397_7 : fx_op 397 7 = some (.if_icmp .ge 13, 10, 20) := by decide +kernel
theorem c397_20 : fx_ci 397 20 = some (0, 21) := by decide +kernel
theorem c397_10 : fx_op 397 10 = some (.iload_n 3, 11, 10) := by decide +kernel
theorem c397_11 : fx_op 397 11 = some (.aload_n 0, 12, 11) := by decide +kernel
theorem c397_12 : fx_gf 397 12 = some (12, 40, 15) := by decide +kernel
theorem c397_15 : fx_ci 397 15 = some (0, 16) := by decide +kernel
theorem c397_16 : fx_op 397 16 = some (.iaload, 17, 16) := by decide +kernel
theorem c397_17 : fx_op 397 17 = some (.if_icmp .lt 5, 20, 22) := by decide +kernel
theorem c397_22 : fx_op 397 22 = some (.aload_n 0, 23, 22) := by decide +kernel
theorem c397_23 : fx_op 397 23 = some (.iload_n 2, 24, 23) := by decide +kernel
theorem c397_24 : fx_op 397 24 = some (.iload_n 3, 25, 24) := by decide +kernel
theorem c397_21 : fx_op 397 21 = some (.ireturn, 22, 21) := by decide +kernel
theorem c397_25 : fx_ca 397 25 = some (298, 3, 2, 28) := by decide +kernel
theorem c397_28 : fx_op 397 28 = some (.aload_n 0, 29, 28) := by decide +kernel
theorem c397_29 : fx_gf 397 29 = some (12, 48, 32) := by decide +kernel
theorem c397_32 : fx_ci 397 32 = some (6, 34) := by decide +kernel
theorem c397_34 : fx_op 397 34 = some (.if_icmp .le 5, 37, 39) := by decide +kernel
theorem c397_39 : fx_op 397 39 = some (.aload_n 0, 40, 39) := by decide +kernel
theorem c397_40 : fx_ci 397 40 = some (1, 41) := by decide +kernel
theorem c397_37 : fx_ci 397 37 = some (0, 38) := by decide +kernel
theorem c397_41 : fx_ca 397 41 = some (300, 2, 2, 44) := by decide +kernel
theorem c397_38 : fx_op 397 38 = some (.ireturn, 39, 38) := by decide +kernel
theorem c397_44 : fx_op 397 44 = some (.istore 4, 46, 44) := by decide +kernel
theorem c397_46 : fx_op 397 46 = some (.iload 4, 48, 46) := by decide +kernel
theorem c397_48 : fx_op 397 48 = some (.ifCond .eq 43, 51, 91) := by decide +kernel
theorem c397_91 : fx_ci 397 91 = some (1, 92) := by decide +kernel
theorem c397_51 : fx_op 397 51 = some (.aload_n 0, 52, 51) := by decide +kernel
theorem c397_52 : fx_op 397 52 = some (.iload_n 2, 53, 52) := by decide +kernel
theorem c397_92 : fx_op 397 92 = some (.ireturn, 93, 92) := by decide +kernel
theorem c397_53 : fx_ca 397 53 = some (273, 2, 2, 56) := by decide +kernel
theorem c397_56 : fx_op 397 56 = some (.ifCond .eq 25, 59, 81) := by decide +kernel
theorem c397_81 : fx_op 397 81 = some (.aload_n 0, 82, 81) := by decide +kernel
theorem c397_82 : fx_ci 397 82 = some (1, 83) := by decide +kernel
theorem c397_59 : fx_op 397 59 = some (.iload_n 3, 60, 59) := by decide +kernel
theorem c397_60 : fx_op 397 60 = some (.ifCond .lt 11, 63, 71) := by decide +kernel
theorem c397_71 : fx_op 397 71 = some (.aload_n 0, 72, 71) := by decide +kernel
theorem c397_72 : fx_op 397 72 = some (.iload_n 1, 73, 72) := by decide +kernel
theorem c397_63 : fx_op 397 63 = some (.aload_n 0, 64, 63) := by decide +kernel
theorem c397_64 : fx_op 397 64 = some (.iload_n 3, 65, 64) := by decide +kernel
theorem c397_83 : fx_ca 397 83 = some (303, 2, 2, 86) := by decide +kernel
theorem c397_73 : fx_ca 397 73 = some (398, 2, 2, 76) := by decide +kernel
theorem c397_65 : fx_ca 397 65 = some (273, 2, 2, 68) := by decide +kernel
theorem c397_86 : fx_op 397 86 = some (.istore 4, 88, 86) := by decide +kernel
theorem c397_88 : fx_op 397 88 = some (.goto (-42), 91, 46) := by decide +kernel
theorem c397_76 : fx_op 397 76 = some (.ifCond .ne 5, 79, 81) := by decide +kernel
theorem c397_79 : fx_ci 397 79 = some (0, 80) := by decide +kernel
theorem c397_80 : fx_op 397 80 = some (.ireturn, 81, 80) := by decide +kernel
theorem c397_68 : fx_op 397 68 = some (.ifCond .eq 13, 71, 81) := by decide +kernel
theorem s397_0 {kc : List va_E} {d : Nat} {x1 x2 x3 : Int} {M : fx_M} {Q : Option fx_V → fx_M → Prop} (H : ((fx_in32 x2) ∧ (fx_in32 (M 149 0))) ∧ (M 149 0 ≤ x2 → Q (some (jI 0)) M) ∧ (x2 < M 149 0 → ((fx_in32 x3) ∧ (fx_in32 (M 149 0))) ∧ (x3 < M 149 0 → wc kc d 298 [jR 133, jI x2, jI x3] M (fun v M1 => wp kc (d + 1) 397 28 [some (jR 133), some (jI x1), some (jI x2), some (jI x3), none] (v.toList ++ []) M1 Q)) ∧ (M 149 0 ≤ x3 → Q (some (jI 0)) M))) : wp kc (d + 1) 397 0 [some (jR 133), some (jI x1), some (jI x2), some (jI x3), none] [] M Q :=
  (x_ildn c397_0 rfl (x_aldn c397_1 rfl (x_gfr c397_2 k_133_40 (x_ci c397_5 (x_iald c397_6 a_149 (by decide) (by decide) (x_cge c397_7 H.1.1 H.1.2 (fun h3 => (x_ci c397_20 (x_zrt c397_21 r397 (by decide) (H.2.1 h3)))) (fun h4 => (x_ildn c397_10 rfl (x_aldn c397_11 rfl (x_gfr c397_12 k_133_40 (x_ci c397_15 (x_iald c397_16 a_149 (by decide) (by decide) (x_clt c397_17 (H.2.2 h4).1.1 (H.2.2 h4).1.2 (fun h1 => (x_aldn c397_22 rfl (x_ildn c397_23 rfl (x_ildn c397_24 rfl (wp_wk (l' := [some (jR 133), some (jI x1), some (jI x2), some (jI x3), none]) ⟨rfl, ⟨rfl, ⟨rfl, ⟨rfl, trivial⟩⟩⟩⟩ (x_cv (As := [jI x2, jI x3]) (st := []) c397_25 cl_133 kl298 rfl (Nat.le_of_ble_eq_true rfl) mx298 (Nat.le_refl _) ((H.2.2 h4).2.1 h1))))))) (fun h2 => (x_ci c397_20 (x_zrt c397_21 r397 (by decide) ((H.2.2 h4).2.2 h2)))))))))))))))))
theorem s397_28 {kc : List va_E} {d : Nat} {v1 v2 v3 : Int} {M : fx_M} {Q : Option fx_V → fx_M → Prop} (H : ((fx_in32 (M 133 48))) ∧ (M 133 48 ≤ 6 → wc kc d 300 [jR 133, jI 1] M (fun v M1 => wp kc (d + 1) 397 44 [some (jR 133), some (jI v1), some (jI v2), some (jI v3), none] (v.toList ++ []) M1 Q)) ∧ (6 < M 133 48 → Q (some (jI 0)) M)) : wp kc (d + 1) 397 28 [some (jR 133), some (jI v1), some (jI v2), some (jI v3), none] [] M Q :=
  (x_aldn c397_28 rfl (x_gfi c397_29 k_133_48 (x_ci c397_32 (x_cle c397_34 H.1 (by decide) (fun h1 => (x_aldn c397_39 rfl (x_ci c397_40 (wp_wk (l' := [some (jR 133), some (jI v1), some (jI v2), some (jI v3), none]) ⟨rfl, ⟨rfl, ⟨rfl, ⟨rfl, trivial⟩⟩⟩⟩ (x_cv (As := [jI 1]) (st := []) c397_41 cl_133 kl300 rfl (Nat.le_of_ble_eq_true rfl) mx300 (Nat.le_refl _) (H.2.1 h1)))))) (fun h2 => (x_ci c397_37 (x_zrt c397_38 r397 (by decide) (H.2.2 h2))))))))
theorem s397_44 {kc : List va_E} {d : Nat} {v1 v2 v3 u0 : Int} {M : fx_M} {Q : Option fx_V → fx_M → Prop} (H : wp kc (d + 1) 397 46 [some (jR 133), some (jI v1), some (jI v2), some (jI v3), some (jI u0)] [] M Q) : wp kc (d + 1) 397 44 [some (jR 133), some (jI v1), some (jI v2), some (jI v3), none] [jI u0] M Q :=
  (x_ist (l' := [some (jR 133), some (jI v1), some (jI v2), some (jI v3), some (jI u0)]) c397_44 rfl (wp_wk (l' := [some (jR 133), some (jI v1), some (jI v2), some (jI v3), some (jI u0)]) ⟨rfl, ⟨rfl, ⟨rfl, ⟨rfl, ⟨rfl, trivial⟩⟩⟩⟩⟩ H))
theorem s397_46 {kc : List va_E} {d : Nat} {v1 v2 v3 v4 : Int} {M : fx_M} {Q : Option fx_V → fx_M → Prop} (H : ((fx_in32 v4)) ∧ (v4 = 0 → Q (some (jI 1)) M) ∧ (v4 ≠ 0 → wc kc d 273 [jR 133, jI v2] M (fun v M1 => wp kc (d + 1) 397 56 [some (jR 133), some (jI v1), some (jI v2), some (jI v3), none] (v.toList ++ []) M1 Q))) : wp kc (d + 1) 397 46 [some (jR 133), some (jI v1), some (jI v2), some (jI v3), some (jI v4)] [] M Q :=
  (x_ild c397_46 rfl (x_zeq c397_48 H.1 (fun h1 => (x_ci c397_91 (x_zrt c397_92 r397 (by decide) (H.2.1 h1)))) (fun h2 => (x_aldn c397_51 rfl (x_ildn c397_52 rfl (wp_wk (l' := [some (jR 133), some (jI v1), some (jI v2), some (jI v3), none]) ⟨rfl, ⟨rfl, ⟨rfl, ⟨rfl, trivial⟩⟩⟩⟩ (x_cv (As := [jI v2]) (st := []) c397_53 cl_133 kl273 rfl (Nat.le_of_ble_eq_true rfl) mx273 (Nat.le_refl _) (H.2.2 h2))))))))
theorem s397_56 {kc : List va_E} {d : Nat} {v1 v2 v3 u0 : Int} {M : fx_M} {Q : Option fx_V → fx_M → Prop} (H : ((fx_in32 u0)) ∧ (u0 = 0 → wc kc d 303 [jR 133, jI 1] M (fun v M1 => wp kc (d + 1) 397 86 [some (jR 133), some (jI v1), some (jI v2), some (jI v3), none] (v.toList ++ []) M1 Q)) ∧ (u0 ≠ 0 → ((fx_in32 v3)) ∧ (v3 < 0 → wc kc d 398 [jR 133, jI v1] M (fun v M1 => wp kc (d + 1) 397 76 [some (jR 133), some (jI v1), some (jI v2), some (jI v3), none] (v.toList ++ []) M1 Q)) ∧ (0 ≤ v3 → wc kc d 273 [jR 133, jI v3] M (fun v M1 => wp kc (d + 1) 397 68 [some (jR 133), some (jI v1), some (jI v2), some (jI v3), none] (v.toList ++ []) M1 Q)))) : wp kc (d + 1) 397 56 [some (jR 133), some (jI v1), some (jI v2), some (jI v3), none] [jI u0] M Q :=
  (x_zeq c397_56 H.1 (fun h3 => (x_aldn c397_81 rfl (x_ci c397_82 (wp_wk (l' := [some (jR 133), some (jI v1), some (jI v2), some (jI v3), none]) ⟨rfl, ⟨rfl, ⟨rfl, ⟨rfl, trivial⟩⟩⟩⟩ (x_cv (As := [jI 1]) (st := []) c397_83 cl_133 kl303 rfl (Nat.le_of_ble_eq_true rfl) mx303 (Nat.le_refl _) (H.2.1 h3)))))) (fun h4 => (x_ildn c397_59 rfl (x_zlt c397_60 (H.2.2 h4).1 (fun h1 => (x_aldn c397_71 rfl (x_ildn c397_72 rfl (wp_wk (l' := [some (jR 133), some (jI v1), some (jI v2), some (jI v3), none]) ⟨rfl, ⟨rfl, ⟨rfl, ⟨rfl, trivial⟩⟩⟩⟩ (x_cv (As := [jI v1]) (st := []) c397_73 cl_133 kl398 rfl (Nat.le_of_ble_eq_true rfl) mx398 (Nat.le_refl _) ((H.2.2 h4).2.1 h1)))))) (fun h2 => (x_aldn c397_63 rfl (x_ildn c397_64 rfl (wp_wk (l' := [some (jR 133), some (jI v1), some (jI v2), some (jI v3), none]) ⟨rfl, ⟨rfl, ⟨rfl, ⟨rfl, trivial⟩⟩⟩⟩ (x_cv (As := [jI v3]) (st := []) c397_65 cl_133 kl273 rfl (Nat.le_of_ble_eq_true rfl) mx273 (Nat.le_refl _) ((H.2.2 h4).2.2 h2))))))))))
theorem s397_68 {kc : List va_E} {d : Nat} {v1 v2 v3 u0 : Int} {M : fx_M} {Q : Option fx_V → fx_M → Prop} (H : ((fx_in32 u0)) ∧ (u0 = 0 → wc kc d 303 [jR 133, jI 1] M (fun v M1 => wp kc (d + 1) 397 86 [some (jR 133), some (jI v1), some (jI v2), some (jI v3), none] (v.toList ++ []) M1 Q)) ∧ (u0 ≠ 0 → wc kc d 398 [jR 133, jI v1] M (fun v M1 => wp kc (d + 1) 397 76 [some (jR 133), some (jI v1), some (jI v2), some (jI v3), none] (v.toList ++ []) M1 Q))) : wp kc (d + 1) 397 68 [some (jR 133), some (jI v1), some (jI v2), some (jI v3), none] [jI u0] M Q :=
  (x_zeq c397_68 H.1 (fun h1 => (x_aldn c397_81 rfl (x_ci c397_82 (wp_wk (l' := [some (jR 133), some (jI v1), some (jI v2), some (jI v3), none]) ⟨rfl, ⟨rfl, ⟨rfl, ⟨rfl, trivial⟩⟩⟩⟩ (x_cv (As := [jI 1]) (st := []) c397_83 cl_133 kl303 rfl (Nat.le_of_ble_eq_true rfl) mx303 (Nat.le_refl _) (H.2.1 h1)))))) (fun h2 => (x_aldn c397_71 rfl (x_ildn c397_72 rfl (wp_wk (l' := [some (jR 133), some (jI v1), some (jI v2), some (jI v3), none]) ⟨rfl, ⟨rfl, ⟨rfl, ⟨rfl, trivial⟩⟩⟩⟩ (x_cv (As := [jI v1]) (st := []) c397_73 cl_133 kl398 rfl (Nat.le_of_ble_eq_true rfl) mx398 (Nat.le_refl _) (H.2.2 h2)))))))
theorem s397_76 {kc : List va_E} {d : Nat} {v1 v2 v3 u0 : Int} {M : fx_M} {Q : Option fx_V → fx_M → Prop} (H : ((fx_in32 u0)) ∧ (u0 ≠ 0 → wc kc d 303 [jR 133, jI 1] M (fun v M1 => wp kc (d + 1) 397 86 [some (jR 133), some (jI v1), some (jI v2), some (jI v3), none] (v.toList ++ []) M1 Q)) ∧ (u0 = 0 → Q (some (jI 0)) M)) : wp kc (d + 1) 397 76 [some (jR 133), some (jI v1), some (jI v2), some (jI v3), none] [jI u0] M Q :=
  (x_zne c397_76 H.1 (fun h1 => (x_aldn c397_81 rfl (x_ci c397_82 (wp_wk (l' := [some (jR 133), some (jI v1), some (jI v2), some (jI v3), none]) ⟨rfl, ⟨rfl, ⟨rfl, ⟨rfl, trivial⟩⟩⟩⟩ (x_cv (As := [jI 1]) (st := []) c397_83 cl_133 kl303 rfl (Nat.le_of_ble_eq_true rfl) mx303 (Nat.le_refl _) (H.2.1 h1)))))) (fun h2 => (x_ci c397_79 (x_zrt c397_80 r397 (by decide) (H.2.2 h2)))))
theorem s397_86 {kc : List va_E} {d : Nat} {v1 v2 v3 u0 : Int} {M : fx_M} {Q : Option fx_V → fx_M → Prop} (H : wp kc (d + 1) 397 46 [some (jR 133), some (jI v1), some (jI v2), some (jI v3), some (jI u0)] [] M Q) : wp kc (d + 1) 397 86 [some (jR 133), some (jI v1), some (jI v2), some (jI v3), none] [jI u0] M Q :=
  (x_ist (l' := [some (jR 133), some (jI v1), some (jI v2), some (jI v3), some (jI u0)]) c397_86 rfl (x_goto c397_88 (wp_wk (l' := [some (jR 133), some (jI v1), some (jI v2), some (jI v3), some (jI u0)]) ⟨rfl, ⟨rfl, ⟨rfl, ⟨rfl, ⟨rfl, trivial⟩⟩⟩⟩⟩ H)))
theorem s397 {kc : List va_E} {d : Nat} {x1 x2 x3 : Int} {M : fx_M} {Q : Option fx_V → fx_M → Prop} (H : ((fx_in32 x2) ∧ (fx_in32 (M 149 0))) ∧ (M 149 0 ≤ x2 → Q (some (jI 0)) M) ∧ (x2 < M 149 0 → ((fx_in32 x3) ∧ (fx_in32 (M 149 0))) ∧ (x3 < M 149 0 → wc kc d 298 [jR 133, jI x2, jI x3] M (fun v M1 => wp kc (d + 1) 397 28 [some (jR 133), some (jI x1), some (jI x2), some (jI x3), none] (v.toList ++ []) M1 Q)) ∧ (M 149 0 ≤ x3 → Q (some (jI 0)) M))) : wc kc (d + 1) 397 [jR 133, jI x1, jI x2, jI x3] M Q :=
  wc_of (wp_wk (l' := [some (jR 133), some (jI x1), some (jI x2), some (jI x3), none]) ⟨rfl, ⟨rfl, ⟨rfl, ⟨rfl, trivial⟩⟩⟩⟩ (s397_0 H))

/- PuzzleHouseModel.isSoByWay(I)Z -/
theorem c398_0 : fx_ci 398 0 = some (0, 1) := by decide +kernel
theorem c398_1 : fx_op 398 1 = some (.istore_n 2, 2, 1) := by decide +kernel
theorem c398_2 : fx_op 398 2 = some (.iload_n 2, 3, 2) := by decide +kernel
theorem c398_3 : fx_op 398 3 = some (.aload_n 0, 4, 3) := by decide +kernel
theorem c398_4 : fx_op 398 4 = some (.iload_n 1, 5, 4) := by decide +kernel
theorem c398_5 : fx_ca 398 5 = some (394, 2, 2, 8) := by decide +kernel
theorem c398_8 : fx_op 398 8 = some (.if_icmp .ge 57, 11, 65) := by decide +kernel
theorem c398_65 : fx_ci 398 65 = some (0, 66) := by decide +kernel
theorem c398_11 : fx_op 398 11 = some (.aload_n 0, 12, 11) := by decide +kernel
theorem c398_12 : fx_op 398 12 = some (.iload_n 1, 13, 12) := by decide +kernel
theorem c398_13 : fx_op 398 13 = some (.iload_n 2, 14, 13) := by decide +kernel
theorem c398_66 : fx_op 398 66 = some (.ireturn, 67, 66) := by decide +kernel
theorem c398_14 : fx_ca 398 14 = some (395, 3, 2, 17) := by decide +kernel
theorem c398_17 : fx_op 398 17 = some (.istore_n 3, 18, 17) := by decide +kernel
theorem c398_18 : fx_op 398 18 = some (.aload_n 0, 19, 18) := by decide +kernel
theorem c398_19 : fx_op 398 19 = some (.iload_n 3, 20, 19) := by decide +kernel
theorem c398_20 : fx_ca 398 20 = some (399, 1, 0, 23) := by decide +kernel
theorem c398_23 : fx_ca 398 23 = some (299, 2, 2, 26) := by decide +kernel
theorem c398_26 : fx_op 398 26 = some (.ifCond .eq 33, 29, 59) := by decide +kernel
theorem c398_59 : fx_op 398 59 = some (.iinc 2 1, 62, 59) := by decide +kernel
theorem c398_29 : fx_op 398 29 = some (.aload_n 0, 30, 29) := by decide +kernel
theorem c398_30 : fx_gf 398 30 = some (12, 46, 33) := by decide +kernel
theorem c398_33 : fx_op 398 33 = some (.iload_n 3, 34, 33) := by decide +kernel
theorem c398_62 : fx_op 398 62 = some (.goto (-60), 65, 2) := by decide +kernel
theorem c398_34 : fx_ca 398 34 = some (399, 1, 0, 37) := by decide +kernel
theorem c398_38 : fx_op 398 38 = some (.iload_n 3, 39, 38) := by decide +kernel
theorem c398_37 : fx_op 398 37 = some (.iaload, 38, 37) := by decide +kernel
theorem c398_39 : fx_ca 398 39 = some (400, 1, 0, 42) := by decide +kernel
theorem c398_42 : fx_op 398 42 = some (.if_icmp .ne 7, 45, 49) := by decide +kernel
theorem c398_49 : fx_ci 398 49 = some (0, 50) := by decide +kernel
theorem c398_45 : fx_ci 398 45 = some (1, 46) := by decide +kernel
theorem c398_46 : fx_op 398 46 = some (.goto 4, 49, 50) := by decide +kernel
theorem c398_50 : fx_op 398 50 = some (.iload_n 3, 51, 50) := by decide +kernel
theorem c398_51 : fx_ca 398 51 = some (401, 1, 0, 54) := by decide +kernel
theorem c398_54 : fx_op 398 54 = some (.if_icmp .ne 5, 57, 59) := by decide +kernel
theorem c398_57 : fx_ci 398 57 = some (1, 58) := by decide +kernel
theorem c398_58 : fx_op 398 58 = some (.ireturn, 59, 58) := by decide +kernel
theorem s398_0 {kc : List va_E} {d : Nat} {x1 : Int} {M : fx_M} {Q : Option fx_V → fx_M → Prop} (H : wp kc (d + 1) 398 2 [some (jR 133), some (jI x1), some (jI 0), none] [] M Q) : wp kc (d + 1) 398 0 [some (jR 133), some (jI x1), none, none] [] M Q :=
  (x_ci c398_0 (x_istn (l' := [some (jR 133), some (jI x1), some (jI 0), none]) c398_1 rfl (wp_wk (l' := [some (jR 133), some (jI x1), some (jI 0), none]) ⟨rfl, ⟨rfl, ⟨rfl, trivial⟩⟩⟩ H)))
theorem s398_2 {kc : List va_E} {d : Nat} {v1 v2 : Int} {M : fx_M} {Q : Option fx_V → fx_M → Prop} (H : wc kc d 394 [jR 133, jI v1] M (fun v M1 => wp kc (d + 1) 398 8 [some (jR 133), some (jI v1), some (jI v2), none] (v.toList ++ [jI v2]) M1 Q)) : wp kc (d + 1) 398 2 [some (jR 133), some (jI v1), some (jI v2), none] [] M Q :=
  (x_ildn c398_2 rfl (x_aldn c398_3 rfl (x_ildn c398_4 rfl (wp_wk (l' := [some (jR 133), some (jI v1), some (jI v2), none]) ⟨rfl, ⟨rfl, ⟨rfl, trivial⟩⟩⟩ (x_cv (As := [jI v1]) (st := [jI v2]) c398_5 cl_133 kl394 rfl (Nat.le_of_ble_eq_true rfl) mx394 (Nat.le_refl _) H)))))
theorem s398_8 {kc : List va_E} {d : Nat} {v1 v2 u0 u1 : Int} {M : fx_M} {Q : Option fx_V → fx_M → Prop} (H : ((fx_in32 u1) ∧ (fx_in32 u0)) ∧ (u0 ≤ u1 → Q (some (jI 0)) M) ∧ (u1 < u0 → wc kc d 395 [jR 133, jI v1, jI v2] M (fun v M1 => wp kc (d + 1) 398 17 [some (jR 133), some (jI v1), some (jI v2), none] (v.toList ++ []) M1 Q))) : wp kc (d + 1) 398 8 [some (jR 133), some (jI v1), some (jI v2), none] [jI u0, jI u1] M Q :=
  (x_cge c398_8 H.1.1 H.1.2 (fun h1 => (x_ci c398_65 (x_zrt c398_66 r398 (by decide) (H.2.1 h1)))) (fun h2 => (x_aldn c398_11 rfl (x_ildn c398_12 rfl (x_ildn c398_13 rfl (wp_wk (l' := [some (jR 133), some (jI v1), some (jI v2), none]) ⟨rfl, ⟨rfl, ⟨rfl, trivial⟩⟩⟩ (x_cv (As := [jI v1, jI v2]) (st := []) c398_14 cl_133 kl395 rfl (Nat.le_of_ble_eq_true rfl) mx395 (Nat.le_refl _) (H.2.2 h2))))))))
theorem s398_17 {kc : List va_E} {d : Nat} {v1 v2 u0 : Int} {M : fx_M} {Q : Option fx_V → fx_M → Prop} (H : wc kc d 399 [jI u0] M (fun v M1 => wp kc (d + 1) 398 23 [some (jR 133), some (jI v1), some (jI v2), some (jI u0)] (v.toList ++ [jR 133]) M1 Q)) : wp kc (d + 1) 398 17 [some (jR 133), some (jI v1), some (jI v2), none] [jI u0] M Q :=
  (x_istn (l' := [some (jR 133), some (jI v1), some (jI v2), some (jI u0)]) c398_17 rfl (x_aldn c398_18 rfl (x_ildn c398_19 rfl (wp_wk (l' := [some (jR 133), some (jI v1), some (jI v2), some (jI u0)]) ⟨rfl, ⟨rfl, ⟨rfl, ⟨rfl, trivial⟩⟩⟩⟩ (x_cs (As := [jI u0]) (st := [jR 133]) c398_20 (by decide) rfl (Nat.le_of_ble_eq_true rfl) mx399 (Nat.le_refl _) H)))))
theorem s398_23 {kc : List va_E} {d : Nat} {v1 v2 v3 u0 : Int} {M : fx_M} {Q : Option fx_V → fx_M → Prop} (H : wc kc d 299 [jR 133, jI u0] M (fun v M1 => wp kc (d + 1) 398 26 [some (jR 133), some (jI v1), some (jI v2), some (jI v3)] (v.toList ++ []) M1 Q)) : wp kc (d + 1) 398 23 [some (jR 133), some (jI v1), some (jI v2), some (jI v3)] [jI u0, jR 133] M Q :=
  (wp_wk (l' := [some (jR 133), some (jI v1), some (jI v2), some (jI v3)]) ⟨rfl, ⟨rfl, ⟨rfl, ⟨rfl, trivial⟩⟩⟩⟩ (x_cv (As := [jI u0]) (st := []) c398_23 cl_133 kl299 rfl (Nat.le_of_ble_eq_true rfl) mx299 (Nat.le_refl _) H))
theorem s398_26 {kc : List va_E} {d : Nat} {v1 v2 v3 u0 : Int} {M : fx_M} {Q : Option fx_V → fx_M → Prop} (H : ((fx_in32 u0)) ∧ (u0 = 0 → wp kc (d + 1) 398 2 [some (jR 133), some (jI v1), some (jI (v2 + 1)), none] [] M Q) ∧ (u0 ≠ 0 → wc kc d 399 [jI v3] M (fun v M1 => wp kc (d + 1) 398 37 [some (jR 133), some (jI v1), some (jI v2), some (jI v3)] (v.toList ++ [jR 155]) M1 Q))) : wp kc (d + 1) 398 26 [some (jR 133), some (jI v1), some (jI v2), some (jI v3)] [jI u0] M Q :=
  (x_zeq c398_26 H.1 (fun h1 => (x_inc (l' := [some (jR 133), some (jI v1), some (jI (v2 + 1)), some (jI v3)]) c398_59 rfl rfl (x_goto c398_62 (wp_wk (l' := [some (jR 133), some (jI v1), some (jI (v2 + 1)), none]) ⟨rfl, ⟨rfl, ⟨rfl, trivial⟩⟩⟩ (H.2.1 h1))))) (fun h2 => (x_aldn c398_29 rfl (x_gfr c398_30 k_133_46 (x_ildn c398_33 rfl (wp_wk (l' := [some (jR 133), some (jI v1), some (jI v2), some (jI v3)]) ⟨rfl, ⟨rfl, ⟨rfl, ⟨rfl, trivial⟩⟩⟩⟩ (x_cs (As := [jI v3]) (st := [jR 155]) c398_34 (by decide) rfl (Nat.le_of_ble_eq_true rfl) mx399 (Nat.le_refl _) (H.2.2 h2))))))))
theorem s398_37 {kc : List va_E} {d : Nat} {v1 v2 v3 u0 : Int} {M : fx_M} {Q : Option fx_V → fx_M → Prop} (H : (((0 : Int) ≤ u0 ∧ u0 < 9)) ∧ wc kc d 400 [jI v3] M (fun v M1 => wp kc (d + 1) 398 42 [some (jR 133), some (jI v1), some (jI v2), some (jI v3)] (v.toList ++ [jI (M 155 u0)]) M1 Q)) : wp kc (d + 1) 398 37 [some (jR 133), some (jI v1), some (jI v2), some (jI v3)] [jI u0, jR 155] M Q :=
  (x_iald c398_37 a_155 H.1 (by decide) (x_ildn c398_38 rfl (wp_wk (l' := [some (jR 133), some (jI v1), some (jI v2), some (jI v3)]) ⟨rfl, ⟨rfl, ⟨rfl, ⟨rfl, trivial⟩⟩⟩⟩ (x_cs (As := [jI v3]) (st := [jI (M 155 u0)]) c398_39 (by decide) rfl (Nat.le_of_ble_eq_true rfl) mx400 (Nat.le_refl _) H.2))))
theorem s398_42 {kc : List va_E} {d : Nat} {v1 v2 v3 u0 u1 : Int} {M : fx_M} {Q : Option fx_V → fx_M → Prop} (H : ((fx_in32 u1)) ∧ ((fx_in32 u0)) ∧ wc kc d 401 [jI v3] M (fun v M1 => wp kc (d + 1) 398 54 [some (jR 133), some (jI v1), some (jI v2), none] (v.toList ++ [jI (if u1 = u0 then (1 : Int) else 0)]) M1 Q)) : wp kc (d + 1) 398 42 [some (jR 133), some (jI v1), some (jI v2), some (jI v3)] [jI u0, jI u1] M Q :=
  (have K : wp kc (d + 1) 398 50 [some (jR 133), some (jI v1), some (jI v2), some (jI v3)] [jI (if u1 = u0 then (1 : Int) else 0)] M Q := (x_ildn c398_50 rfl (wp_wk (l' := [some (jR 133), some (jI v1), some (jI v2), none]) ⟨rfl, ⟨rfl, ⟨rfl, trivial⟩⟩⟩ (x_cs (As := [jI v3]) (st := [jI (if u1 = u0 then (1 : Int) else 0)]) c398_51 (by decide) rfl (Nat.le_of_ble_eq_true rfl) mx401 (Nat.le_refl _) H.2.2))); (x_cne c398_42 H.1 H.2.1 (fun (h1 : u1 ≠ u0) => (x_ci c398_49 (wp_wk (l' := [some (jR 133), some (jI v1), some (jI v2), some (jI v3)]) ⟨rfl, ⟨rfl, ⟨rfl, ⟨rfl, trivial⟩⟩⟩⟩ (by have K := K; first | (simp only [if_neg h1] at K ⊢; exact K) | (exfalso; omega))))) (fun (h2 : u1 = u0) => (x_ci c398_45 (x_goto c398_46 (wp_wk (l' := [some (jR 133), some (jI v1), some (jI v2), some (jI v3)]) ⟨rfl, ⟨rfl, ⟨rfl, ⟨rfl, trivial⟩⟩⟩⟩ (by have K := K; first | (simp only [if_pos h2] at K ⊢; exact K) | (exfalso; omega))))))))
theorem s398_54 {kc : List va_E} {d : Nat} {v1 v2 u0 u1 : Int} {M : fx_M} {Q : Option fx_V → fx_M → Prop} (H : ((fx_in32 u1) ∧ (fx_in32 u0)) ∧ (u1 ≠ u0 → wp kc (d + 1) 398 2 [some (jR 133), some (jI v1), some (jI (v2 + 1)), none] [] M Q) ∧ (u1 = u0 → Q (some (jI 1)) M)) : wp kc (d + 1) 398 54 [some (jR 133), some (jI v1), some (jI v2), none] [jI u0, jI u1] M Q :=
  (x_cne c398_54 H.1.1 H.1.2 (fun h1 => (x_inc (l' := [some (jR 133), some (jI v1), some (jI (v2 + 1)), none]) c398_59 rfl rfl (x_goto c398_62 (wp_wk (l' := [some (jR 133), some (jI v1), some (jI (v2 + 1)), none]) ⟨rfl, ⟨rfl, ⟨rfl, trivial⟩⟩⟩ (H.2.1 h1))))) (fun h2 => (x_ci c398_57 (x_zrt c398_58 r398 (by decide) (H.2.2 h2)))))
theorem s398 {kc : List va_E} {d : Nat} {x1 : Int} {M : fx_M} {Q : Option fx_V → fx_M → Prop} (H : wp kc (d + 1) 398 2 [some (jR 133), some (jI x1), some (jI 0), none] [] M Q) : wc kc (d + 1) 398 [jR 133, jI x1] M Q :=
  wc_of (wp_wk (l' := [some (jR 133), some (jI x1), none, none]) ⟨rfl, ⟨rfl, trivial⟩⟩ (s398_0 H))

/- PuzzleHouseModel.cellOfLiteral(I)I -/
theorem c399_0 : fx_op 399 0 = some (.iload_n 0, 1, 0) := by decide +kernel
theorem c399_1 : fx_ci 399 1 = some (8, 3) := by decide +kernel
theorem c399_3 : fx_op 399 3 = some (.idiv, 4, 3) := by decide +kernel
theorem c399_4 : fx_op 399 4 = some (.ireturn, 5, 4) := by decide +kernel
theorem s399_0 {kc : List va_E} {d : Nat} {x0 : Int} {M : fx_M} {Q : Option fx_V → fx_M → Prop} (H : (((0 : Int) ≤ x0 ∧ x0 ≤ 2147483647)) ∧ Q (some (jI (x0 / 8))) M) : wp kc (d + 1) 399 0 [some (jI x0)] [] M Q :=
  (x_ildn c399_0 rfl (x_ci c399_1 (x_idiv c399_3 H.1 (by decide) (x_irt c399_4 r399 H.2))))
theorem s399 {kc : List va_E} {d : Nat} {x0 : Int} {M : fx_M} {Q : Option fx_V → fx_M → Prop} (H : (((0 : Int) ≤ x0 ∧ x0 ≤ 2147483647)) ∧ Q (some (jI (x0 / 8))) M) : wc kc (d + 1) 399 [jI x0] M Q :=
  wc_of (wp_wk (l' := [some (jI x0)]) ⟨rfl, trivial⟩ (s399_0 H))

/- PuzzleHouseModel.symbolOfLiteral(I)I -/
theorem c400_0 : fx_op 400 0 = some (.iload_n 0, 1, 0) := by decide +kernel
theorem c400_1 : fx_ci 400 1 = some (2, 2) := by decide +kernel
theorem c400_3 : fx_ci 400 3 = some (4, 4) := by decide +kernel
theorem c400_2 : fx_op 400 2 = some (.idiv, 3, 2) := by decide +kernel
theorem c400_4 : fx_op 400 4 = some (.irem, 5, 4) := by decide +kernel
theorem c400_5 : fx_op 400 5 = some (.ireturn, 6, 5) := by decide +kernel
theorem s400_0 {kc : List va_E} {d : Nat} {x0 : Int} {M : fx_M} {Q : Option fx_V → fx_M → Prop} (H : (((0 : Int) ≤ x0 ∧ x0 ≤ 2147483647)) ∧ (((0 : Int) ≤ x0 / 2 ∧ x0 / 2 ≤ 2147483647)) ∧ Q (some (jI ((x0 / 2) % 4))) M) : wp kc (d + 1) 400 0 [some (jI x0)] [] M Q :=
  (x_ildn c400_0 rfl (x_ci c400_1 (x_idiv c400_2 H.1 (by decide) (x_ci c400_3 (x_irem c400_4 H.2.1 (by decide) (x_irt c400_5 r400 H.2.2))))))
theorem s400 {kc : List va_E} {d : Nat} {x0 : Int} {M : fx_M} {Q : Option fx_V → fx_M → Prop} (H : (((0 : Int) ≤ x0 ∧ x0 ≤ 2147483647)) ∧ (((0 : Int) ≤ x0 / 2 ∧ x0 / 2 ≤ 2147483647)) ∧ Q (some (jI ((x0 / 2) % 4))) M) : wc kc (d + 1) 400 [jI x0] M Q :=
  wc_of (wp_wk (l' := [some (jI x0)]) ⟨rfl, trivial⟩ (s400_0 H))

/- PuzzleHouseModel.isPlus(I)Z -/
theorem c401_0 : fx_op 401 0 = some (.iload_n 0, 1, 0) := by decide +kernel
theorem c401_1 : fx_ci 401 1 = some (2, 2) := by decide +kernel
theorem c401_3 : fx_ci 401 3 = some (1, 4) := by decide +kernel
theorem c401_4 : fx_op 401 4 = some (.if_icmp .ne 7, 7, 11) := by decide +kernel
theorem c401_11 : fx_ci 401 11 = some (0, 12) := by decide +kernel
theorem c401_7 : fx_ci 401 7 = some (1, 8) := by decide +kernel
theorem c401_8 : fx_op 401 8 = some (.goto 4, 11, 12) := by decide +kernel
theorem c401_2 : fx_op 401 2 = some (.irem, 3, 2) := by decide +kernel
theorem c401_12 : fx_op 401 12 = some (.ireturn, 13, 12) := by decide +kernel
theorem s401_0 {kc : List va_E} {d : Nat} {x0 : Int} {M : fx_M} {Q : Option fx_V → fx_M → Prop} (H : (((0 : Int) ≤ x0 ∧ x0 ≤ 2147483647)) ∧ ((fx_in32 (x0 % 2))) ∧ ((0 : Int) ≤ (if x0 % 2 = 1 then (1 : Int) else 0) ∧ (if x0 % 2 = 1 then (1 : Int) else 0) ≤ 1) ∧ Q (some (jI (if x0 % 2 = 1 then (1 : Int) else 0))) M) : wp kc (d + 1) 401 0 [some (jI x0)] [] M Q :=
  (x_ildn c401_0 rfl (x_ci c401_1 (x_irem c401_2 H.1 (by decide) (x_ci c401_3 (have K : wp kc (d + 1) 401 12 [none] [jI (if x0 % 2 = 1 then (1 : Int) else 0)] M Q := (x_zrt c401_12 r401 H.2.2.1 H.2.2.2); (x_cne c401_4 H.2.1 (by decide) (fun (h1 : x0 % 2 ≠ 1) => (x_ci c401_11 (wp_wk (l' := [none]) trivial (by have K := K; first | (simp only [if_neg h1] at K ⊢; exact K) | (exfalso; omega))))) (fun (h2 : x0 % 2 = 1) => (x_ci c401_7 (x_goto c401_8 (wp_wk (l' := [none]) trivial (by have K := K; first | (simp only [if_pos h2] at K ⊢; exact K) | (exfalso; omega))))))))))))
theorem s401 {kc : List va_E} {d : Nat} {x0 : Int} {M : fx_M} {Q : Option fx_V → fx_M → Prop} (H : (((0 : Int) ≤ x0 ∧ x0 ≤ 2147483647)) ∧ ((fx_in32 (x0 % 2))) ∧ ((0 : Int) ≤ (if x0 % 2 = 1 then (1 : Int) else 0) ∧ (if x0 % 2 = 1 then (1 : Int) else 0) ≤ 1) ∧ Q (some (jI (if x0 % 2 = 1 then (1 : Int) else 0))) M) : wc kc (d + 1) 401 [jI x0] M Q :=
  wc_of (wp_wk (l' := [some (jI x0)]) ⟨rfl, trivial⟩ (s401_0 H))

/- PuzzleHouseModel.isByUnits(I)Z -/
theorem c402_0 : fx_ci 402 0 = some (0, 1) := by decide +kernel
theorem c402_1 : fx_op 402 1 = some (.istore_n 2, 2, 1) := by decide +kernel
theorem c402_2 : fx_op 402 2 = some (.iload_n 2, 3, 2) := by decide +kernel
theorem c402_3 : fx_op 402 3 = some (.aload_n 0, 4, 3) := by decide +kernel
theorem c402_4 : fx_ca 402 4 = some (248, 1, 2, 7) := by decide +kernel
theorem c402_7 : fx_op 402 7 = some (.if_icmp .ge 19, 10, 26) := by decide +kernel
theorem c402_10 : fx_op 402 10 = some (.aload_n 0, 11, 10) := by decide +kernel
theorem c402_11 : fx_gf 402 11 = some (12, 47, 14) := by decide +kernel
theorem c402_14 : fx_op 402 14 = some (.iload_n 2, 15, 14) := by decide +kernel
theorem c402_15 : fx_op 402 15 = some (.aload_n 0, 16, 15) := by decide +kernel
theorem c402_26 : fx_ci 402 26 = some (0, 27) := by decide +kernel
theorem c402_27 : fx_op 402 27 = some (.istore_n 2, 28, 27) := by decide +kernel
theorem c402_16 : fx_ca 402 16 = some (296, 1, 2, 19) := by decide +kernel
theorem c402_28 : fx_op 402 28 = some (.iload_n 2, 29, 28) := by decide +kernel
theorem c402_29 : fx_op 402 29 = some (.aload_n 0, 30, 29) := by decide +kernel
theorem c402_30 : fx_op 402 30 = some (.iload_n 1, 31, 30) := by decide +kernel
theorem c402_31 : fx_ca 402 31 = some (394, 2, 2, 34) := by decide +kernel
theorem c402_20 : fx_op 402 20 = some (.iinc 2 1, 23, 20) := by decide +kernel
theorem c402_19 : fx_op 402 19 = some (.iastore, 20, 19) := by decide +kernel
theorem c402_23 : fx_op 402 23 = some (.goto (-21), 26, 2) := by decide +kernel
theorem c402_34 : fx_op 402 34 = some (.if_icmp .ge 20, 37, 54) := by decide +kernel
theorem c402_37 : fx_op 402 37 = some (.aload_n 0, 38, 37) := by decide +kernel
theorem c402_38 : fx_op 402 38 = some (.aload_n 0, 39, 38) := by decide +kernel
theorem c402_39 : fx_op 402 39 = some (.iload_n 1, 40, 39) := by decide +kernel
theorem c402_40 : fx_op 402 40 = some (.iload_n 2, 41, 40) := by decide +kernel
theorem c402_54 : fx_ci 402 54 = some (1, 55) := by decide +kernel
theorem c402_55 : fx_op 402 55 = some (.istore_n 2, 56, 55) := by decide +kernel
theorem c402_41 : fx_ca 402 41 = some (395, 3, 2, 44) := by decide +kernel
theorem c402_56 : fx_op 402 56 = some (.iload_n 2, 57, 56) := by decide +kernel
theorem c402_57 : fx_op 402 57 = some (.ifCond .eq 66, 60, 123) := by decide +kernel
theorem c402_123 : fx_op 402 123 = some (.aload_n 0, 124, 123) := by decide +kernel
theorem c402_60 : fx_op 402 60 = some (.aload_n 0, 61, 60) := by decide +kernel
theorem c402_124 : fx_ca 402 124 = some (314, 1, 2, 127) := by decide +kernel
theorem c402_61 : fx_ca 402 61 = some (314, 1, 2, 64) := by decide +kernel
theorem c402_44 : fx_ci 402 44 = some (0, 45) := by decide +kernel
theorem c402_45 : fx_ca 402 45 = some (403, 3, 2, 48) := by decide +kernel
theorem c402_127 : fx_op 402 127 = some (.ifCond .ne 7, 130, 134) := by decide +kernel
theorem c402_134 : fx_ci 402 134 = some (0, 135) := by decide +kernel
theorem c402_130 : fx_ci 402 130 = some (1, 131) := by decide +kernel
theorem c402_131 : fx_op 402 131 = some (.goto 4, 134, 135) := by decide +kernel
theorem c402_135 : fx_op 402 135 = some (.ireturn, 136, 135) := by decide +kernel
theorem c402_64 : fx_op 402 64 = some (.ifCond .eq 59, 67, 123) := by decide +kernel
theorem c402_67 : fx_ci 402 67 = some (0, 68) := by decide +kernel
theorem c402_68 : fx_op 402 68 = some (.istore_n 2, 69, 68) := by decide +kernel
theorem c402_69 : fx_ci 402 69 = some (0, 70) := by decide +kernel
theorem c402_70 : fx_op 402 70 = some (.istore_n 3, 71, 70) := by decide +kernel
theorem c402_48 : fx_op 402 48 = some (.iinc 2 1, 51, 48) := by decide +kernel
theorem c402_51 : fx_op 402 51 = some (.goto (-23), 54, 28) := by decide +kernel
theorem c402_71 : fx_op 402 71 = some (.iload_n 3, 72, 71) := by decide +kernel
theorem c402_72 : fx_op 402 72 = some (.iload_n 1, 73, 72) := by decide +kernel
theorem c402_73 : fx_op 402 73 = some (.if_icmp .ge 47, 76, 120) := by decide +kernel
theorem c402_76 : fx_op 402 76 = some (.aload_n 0, 77, 76) := by decide +kernel
theorem c402_120 : fx_op 402 120 = some (.goto (-64), 123, 56) := by decide +kernel
theorem c402_77 : fx_ca 402 77 = some (314, 1, 2, 80) := by decide +kernel
theorem c402_80 : fx_op 402 80 = some (.ifCond .eq 40, 83, 120) := by decide +kernel
theorem c402_83 : fx_op 402 83 = some (.aload_n 0, 84, 83) := by decide +kernel
theorem c402_84 : fx_op 402 84 = some (.iload_n 3, 85, 84) := by decide +kernel
theorem c402_85 : fx_ca 402 85 = some (404, 2, 2, 88) := by decide +kernel
theorem c402_88 : fx_op 402 88 = some (.istore 4, 90, 88) := by decide +kernel
theorem c402_90 : fx_op 402 90 = some (.iload 4, 92, 90) := by decide +kernel
theorem c402_92 : fx_ci 402 92 = some (2, 93) := by decide +kernel
theorem c402_93 : fx_op 402 93 = some (.if_icmp .ne 5, 96, 98) := by decide +kernel
theorem c402_98 : fx_op 402 98 = some (.iload_n 2, 99, 98) := by decide +kernel
theorem c402_99 : fx_op 402 99 = some (.ifCond .ne 9, 102, 108) := by decide +kernel
theorem c402_108 : fx_ci 402 108 = some (1, 109) := by decide +kernel
theorem c402_109 : fx_op 402 109 = some (.goto 4, 112, 113) := by decide +kernel
theorem c402_102 : fx_op 402 102 = some (.iload 4, 104, 102) := by decide +kernel
theorem c402_104 : fx_ci 402 104 = some (1, 105) := by decide +kernel
theorem c402_105 : fx_op 402 105 = some (.if_icmp .ne 7, 108, 112) := by decide +kernel
theorem c402_112 : fx_ci 402 112 = some (0, 113) := by decide +kernel
theorem c402_113 : fx_op 402 113 = some (.istore_n 2, 114, 113) := by decide +kernel
theorem c402_114 : fx_op 402 114 = some (.iinc 3 1, 117, 114) := by decide +kernel
theorem c402_96 : fx_ci 402 96 = some (1, 97) := by decide +kernel
theorem c402_117 : fx_op 402 117 = some (.goto (-46), 120, 71) := by decide +kernel
theorem c402_97 : fx_op 402 97 = some (.ireturn, 98, 97) := by decide +kernel
theorem s402_0 {kc : List va_E} {d : Nat} {x1 : Int} {M : fx_M} {Q : Option fx_V → fx_M → Prop} (H : wp kc (d + 1) 402 2 [some (jR 133), some (jI x1), some (jI 0), none, none] [] M Q) : wp kc (d + 1) 402 0 [some (jR 133), some (jI x1), none, none, none] [] M Q :=
  (x_ci c402_0 (x_istn (l' := [some (jR 133), some (jI x1), some (jI 0), none, none]) c402_1 rfl (wp_wk (l' := [some (jR 133), some (jI x1), some (jI 0), none, none]) ⟨rfl, ⟨rfl, ⟨rfl, trivial⟩⟩⟩ H)))
theorem s402_2 {kc : List va_E} {d : Nat} {v1 v2 : Int} {M : fx_M} {Q : Option fx_V → fx_M → Prop} (H : wc kc d 248 [jR 133] M (fun v M1 => wp kc (d + 1) 402 7 [some (jR 133), some (jI v1), some (jI v2), none, none] (v.toList ++ [jI v2]) M1 Q)) : wp kc (d + 1) 402 2 [some (jR 133), some (jI v1), some (jI v2), none, none] [] M Q :=
  (x_ildn c402_2 rfl (x_aldn c402_3 rfl (wp_wk (l' := [some (jR 133), some (jI v1), some (jI v2), none, none]) ⟨rfl, ⟨rfl, ⟨rfl, trivial⟩⟩⟩ (x_cv (As := []) (st := [jI v2]) c402_4 cl_133 kl248 rfl (Nat.le_of_ble_eq_true rfl) mx248 (Nat.le_refl _) H))))
theorem s402_7 {kc : List va_E} {d : Nat} {v1 v2 u0 u1 : Int} {M : fx_M} {Q : Option fx_V → fx_M → Prop} (H : ((fx_in32 u1) ∧ (fx_in32 u0)) ∧ (u0 ≤ u1 → wp kc (d + 1) 402 28 [some (jR 133), some (jI v1), some (jI 0), none, none] [] M Q) ∧ (u1 < u0 → wc kc d 296 [jR 133] M (fun v M1 => wp kc (d + 1) 402 19 [some (jR 133), some (jI v1), some (jI v2), none, none] (v.toList ++ [jI v2, jR 156]) M1 Q))) : wp kc (d + 1) 402 7 [some (jR 133), some (jI v1), some (jI v2), none, none] [jI u0, jI u1] M Q :=
  (x_cge c402_7 H.1.1 H.1.2 (fun h1 => (x_ci c402_26 (x_istn (l' := [some (jR 133), some (jI v1), some (jI 0), none, none]) c402_27 rfl (wp_wk (l' := [some (jR 133), some (jI v1), some (jI 0), none, none]) ⟨rfl, ⟨rfl, ⟨rfl, trivial⟩⟩⟩ (H.2.1 h1))))) (fun h2 => (x_aldn c402_10 rfl (x_gfr c402_11 k_133_47 (x_ildn c402_14 rfl (x_aldn c402_15 rfl (wp_wk (l' := [some (jR 133), some (jI v1), some (jI v2), none, none]) ⟨rfl, ⟨rfl, ⟨rfl, trivial⟩⟩⟩ (x_cv (As := []) (st := [jI v2, jR 156]) c402_16 cl_133 kl296 rfl (Nat.le_of_ble_eq_true rfl) mx296 (Nat.le_refl _) (H.2.2 h2)))))))))
theorem s402_19 {kc : List va_E} {d : Nat} {v1 v2 u0 u1 : Int} {M : fx_M} {Q : Option fx_V → fx_M → Prop} (H : (((0 : Int) ≤ u1 ∧ u1 < 9)) ∧ wp kc (d + 1) 402 2 [some (jR 133), some (jI v1), some (jI (v2 + 1)), none, none] [] (fx_up M 156 u1 u0) Q) : wp kc (d + 1) 402 19 [some (jR 133), some (jI v1), some (jI v2), none, none] [jI u0, jI u1, jR 156] M Q :=
  (x_iast c402_19 a_156 H.1 (by decide) (x_inc (l' := [some (jR 133), some (jI v1), some (jI (v2 + 1)), none, none]) c402_20 rfl rfl (x_goto c402_23 (wp_wk (l' := [some (jR 133), some (jI v1), some (jI (v2 + 1)), none, none]) ⟨rfl, ⟨rfl, ⟨rfl, trivial⟩⟩⟩ H.2))))
theorem s402_28 {kc : List va_E} {d : Nat} {v1 v2 : Int} {M : fx_M} {Q : Option fx_V → fx_M → Prop} (H : wc kc d 394 [jR 133, jI v1] M (fun v M1 => wp kc (d + 1) 402 34 [some (jR 133), some (jI v1), some (jI v2), none, none] (v.toList ++ [jI v2]) M1 Q)) : wp kc (d + 1) 402 28 [some (jR 133), some (jI v1), some (jI v2), none, none] [] M Q :=
  (x_ildn c402_28 rfl (x_aldn c402_29 rfl (x_ildn c402_30 rfl (wp_wk (l' := [some (jR 133), some (jI v1), some (jI v2), none, none]) ⟨rfl, ⟨rfl, ⟨rfl, trivial⟩⟩⟩ (x_cv (As := [jI v1]) (st := [jI v2]) c402_31 cl_133 kl394 rfl (Nat.le_of_ble_eq_true rfl) mx394 (Nat.le_refl _) H)))))
theorem s402_34 {kc : List va_E} {d : Nat} {v1 v2 u0 u1 : Int} {M : fx_M} {Q : Option fx_V → fx_M → Prop} (H : ((fx_in32 u1) ∧ (fx_in32 u0)) ∧ (u0 ≤ u1 → wp kc (d + 1) 402 56 [some (jR 133), some (jI v1), some (jI 1), none, none] [] M Q) ∧ (u1 < u0 → wc kc d 395 [jR 133, jI v1, jI v2] M (fun v M1 => wp kc (d + 1) 402 44 [some (jR 133), some (jI v1), some (jI v2), none, none] (v.toList ++ [jR 133]) M1 Q))) : wp kc (d + 1) 402 34 [some (jR 133), some (jI v1), some (jI v2), none, none] [jI u0, jI u1] M Q :=
  (x_cge c402_34 H.1.1 H.1.2 (fun h1 => (x_ci c402_54 (x_istn (l' := [some (jR 133), some (jI v1), some (jI 1), none, none]) c402_55 rfl (wp_wk (l' := [some (jR 133), some (jI v1), some (jI 1), none, none]) ⟨rfl, ⟨rfl, ⟨rfl, trivial⟩⟩⟩ (H.2.1 h1))))) (fun h2 => (x_aldn c402_37 rfl (x_aldn c402_38 rfl (x_ildn c402_39 rfl (x_ildn c402_40 rfl (wp_wk (l' := [some (jR 133), some (jI v1), some (jI v2), none, none]) ⟨rfl, ⟨rfl, ⟨rfl, trivial⟩⟩⟩ (x_cv (As := [jI v1, jI v2]) (st := [jR 133]) c402_41 cl_133 kl395 rfl (Nat.le_of_ble_eq_true rfl) mx395 (Nat.le_refl _) (H.2.2 h2)))))))))
theorem s402_44 {kc : List va_E} {d : Nat} {v1 v2 u0 : Int} {M : fx_M} {Q : Option fx_V → fx_M → Prop} (H : wc kc d 403 [jR 133, jI u0, jI 0] M (fun v M1 => wp kc (d + 1) 402 48 [some (jR 133), some (jI v1), some (jI v2), none, none] (v.toList ++ []) M1 Q)) : wp kc (d + 1) 402 44 [some (jR 133), some (jI v1), some (jI v2), none, none] [jI u0, jR 133] M Q :=
  (x_ci c402_44 (wp_wk (l' := [some (jR 133), some (jI v1), some (jI v2), none, none]) ⟨rfl, ⟨rfl, ⟨rfl, trivial⟩⟩⟩ (x_cv (As := [jI u0, jI 0]) (st := []) c402_45 cl_133 kl403 rfl (Nat.le_of_ble_eq_true rfl) mx403 (Nat.le_refl _) H)))
theorem s402_48 {kc : List va_E} {d : Nat} {v1 v2 : Int} {M : fx_M} {Q : Option fx_V → fx_M → Prop} (H : wp kc (d + 1) 402 28 [some (jR 133), some (jI v1), some (jI (v2 + 1)), none, none] [] M Q) : wp kc (d + 1) 402 48 [some (jR 133), some (jI v1), some (jI v2), none, none] [] M Q :=
  (x_inc (l' := [some (jR 133), some (jI v1), some (jI (v2 + 1)), none, none]) c402_48 rfl rfl (x_goto c402_51 (wp_wk (l' := [some (jR 133), some (jI v1), some (jI (v2 + 1)), none, none]) ⟨rfl, ⟨rfl, ⟨rfl, trivial⟩⟩⟩ H)))
theorem s402_56 {kc : List va_E} {d : Nat} {v1 v2 : Int} {M : fx_M} {Q : Option fx_V → fx_M → Prop} (H : ((fx_in32 v2)) ∧ (v2 = 0 → wc kc d 314 [jR 133] M (fun v M1 => wp kc (d + 1) 402 127 [none, none, none, none, none] (v.toList ++ []) M1 Q)) ∧ (v2 ≠ 0 → wc kc d 314 [jR 133] M (fun v M1 => wp kc (d + 1) 402 64 [some (jR 133), some (jI v1), none, none, none] (v.toList ++ []) M1 Q))) : wp kc (d + 1) 402 56 [some (jR 133), some (jI v1), some (jI v2), none, none] [] M Q :=
  (x_ildn c402_56 rfl (x_zeq c402_57 H.1 (fun h1 => (x_aldn c402_123 rfl (wp_wk (l' := [none, none, none, none, none]) trivial (x_cv (As := []) (st := []) c402_124 cl_133 kl314 rfl (Nat.le_of_ble_eq_true rfl) mx314 (Nat.le_refl _) (H.2.1 h1))))) (fun h2 => (x_aldn c402_60 rfl (wp_wk (l' := [some (jR 133), some (jI v1), none, none, none]) ⟨rfl, ⟨rfl, trivial⟩⟩ (x_cv (As := []) (st := []) c402_61 cl_133 kl314 rfl (Nat.le_of_ble_eq_true rfl) mx314 (Nat.le_refl _) (H.2.2 h2)))))))
theorem s402_64 {kc : List va_E} {d : Nat} {v1 u0 : Int} {M : fx_M} {Q : Option fx_V → fx_M → Prop} (H : ((fx_in32 u0)) ∧ (u0 = 0 → wc kc d 314 [jR 133] M (fun v M1 => wp kc (d + 1) 402 127 [none, none, none, none, none] (v.toList ++ []) M1 Q)) ∧ (u0 ≠ 0 → wp kc (d + 1) 402 71 [some (jR 133), some (jI v1), some (jI 0), some (jI 0), none] [] M Q)) : wp kc (d + 1) 402 64 [some (jR 133), some (jI v1), none, none, none] [jI u0] M Q :=
  (x_zeq c402_64 H.1 (fun h1 => (x_aldn c402_123 rfl (wp_wk (l' := [none, none, none, none, none]) trivial (x_cv (As := []) (st := []) c402_124 cl_133 kl314 rfl (Nat.le_of_ble_eq_true rfl) mx314 (Nat.le_refl _) (H.2.1 h1))))) (fun h2 => (x_ci c402_67 (x_istn (l' := [some (jR 133), some (jI v1), some (jI 0), none, none]) c402_68 rfl (x_ci c402_69 (x_istn (l' := [some (jR 133), some (jI v1), some (jI 0), some (jI 0), none]) c402_70 rfl (wp_wk (l' := [some (jR 133), some (jI v1), some (jI 0), some (jI 0), none]) ⟨rfl, ⟨rfl, ⟨rfl, ⟨rfl, trivial⟩⟩⟩⟩ (H.2.2 h2))))))))
theorem s402_71 {kc : List va_E} {d : Nat} {v1 v2 v3 : Int} {M : fx_M} {Q : Option fx_V → fx_M → Prop} (H : ((fx_in32 v3) ∧ (fx_in32 v1)) ∧ (v1 ≤ v3 → wp kc (d + 1) 402 56 [some (jR 133), some (jI v1), some (jI v2), none, none] [] M Q) ∧ (v3 < v1 → wc kc d 314 [jR 133] M (fun v M1 => wp kc (d + 1) 402 80 [some (jR 133), some (jI v1), some (jI v2), some (jI v3), none] (v.toList ++ []) M1 Q))) : wp kc (d + 1) 402 71 [some (jR 133), some (jI v1), some (jI v2), some (jI v3), none] [] M Q :=
  (x_ildn c402_71 rfl (x_ildn c402_72 rfl (x_cge c402_73 H.1.1 H.1.2 (fun h1 => (x_goto c402_120 (wp_wk (l' := [some (jR 133), some (jI v1), some (jI v2), none, none]) ⟨rfl, ⟨rfl, ⟨rfl, trivial⟩⟩⟩ (H.2.1 h1)))) (fun h2 => (x_aldn c402_76 rfl (wp_wk (l' := [some (jR 133), some (jI v1), some (jI v2), some (jI v3), none]) ⟨rfl, ⟨rfl, ⟨rfl, ⟨rfl, trivial⟩⟩⟩⟩ (x_cv (As := []) (st := []) c402_77 cl_133 kl314 rfl (Nat.le_of_ble_eq_true rfl) mx314 (Nat.le_refl _) (H.2.2 h2))))))))
theorem s402_80 {kc : List va_E} {d : Nat} {v1 v2 v3 u0 : Int} {M : fx_M} {Q : Option fx_V → fx_M → Prop} (H : ((fx_in32 u0)) ∧ (u0 = 0 → wp kc (d + 1) 402 56 [some (jR 133), some (jI v1), some (jI v2), none, none] [] M Q) ∧ (u0 ≠ 0 → wc kc d 404 [jR 133, jI v3] M (fun v M1 => wp kc (d + 1) 402 88 [some (jR 133), some (jI v1), some (jI v2), some (jI v3), none] (v.toList ++ []) M1 Q))) : wp kc (d + 1) 402 80 [some (jR 133), some (jI v1), some (jI v2), some (jI v3), none] [jI u0] M Q :=
  (x_zeq c402_80 H.1 (fun h1 => (x_goto c402_120 (wp_wk (l' := [some (jR 133), some (jI v1), some (jI v2), none, none]) ⟨rfl, ⟨rfl, ⟨rfl, trivial⟩⟩⟩ (H.2.1 h1)))) (fun h2 => (x_aldn c402_83 rfl (x_ildn c402_84 rfl (wp_wk (l' := [some (jR 133), some (jI v1), some (jI v2), some (jI v3), none]) ⟨rfl, ⟨rfl, ⟨rfl, ⟨rfl, trivial⟩⟩⟩⟩ (x_cv (As := [jI v3]) (st := []) c402_85 cl_133 kl404 rfl (Nat.le_of_ble_eq_true rfl) mx404 (Nat.le_refl _) (H.2.2 h2)))))))
theorem s402_88 {kc : List va_E} {d : Nat} {v1 v2 v3 u0 : Int} {M : fx_M} {Q : Option fx_V → fx_M → Prop} (H : ((fx_in32 u0)) ∧ (u0 ≠ 2 → ((fx_in32 v2)) ∧ (v2 = 0 → (fx_in32 u0)) ∧ wp kc (d + 1) 402 71 [some (jR 133), some (jI v1), some (jI (if v2 = 0 then ((if u0 = 1 then (1 : Int) else 0) : Int) else 1)), some (jI (v3 + 1)), none] [] M Q) ∧ (u0 = 2 → Q (some (jI 1)) M)) : wp kc (d + 1) 402 88 [some (jR 133), some (jI v1), some (jI v2), some (jI v3), none] [jI u0] M Q :=
  (x_ist (l' := [some (jR 133), some (jI v1), some (jI v2), some (jI v3), some (jI u0)]) c402_88 rfl (x_ild c402_90 rfl (x_ci c402_92 (x_cne c402_93 H.1 (by decide) (fun h1 => (x_ildn c402_98 rfl (have K : wp kc (d + 1) 402 113 [some (jR 133), some (jI v1), none, some (jI v3), none] [jI (if v2 = 0 then ((if u0 = 1 then (1 : Int) else 0) : Int) else 1)] M Q := (x_istn (l' := [some (jR 133), some (jI v1), some (jI (if v2 = 0 then ((if u0 = 1 then (1 : Int) else 0) : Int) else 1)), some (jI v3), none]) c402_113 rfl (x_inc (l' := [some (jR 133), some (jI v1), some (jI (if v2 = 0 then ((if u0 = 1 then (1 : Int) else 0) : Int) else 1)), some (jI (v3 + 1)), none]) c402_114 rfl rfl (x_goto c402_117 (wp_wk (l' := [some (jR 133), some (jI v1), some (jI (if v2 = 0 then ((if u0 = 1 then (1 : Int) else 0) : Int) else 1)), some (jI (v3 + 1)), none]) ⟨rfl, ⟨rfl, ⟨rfl, ⟨rfl, trivial⟩⟩⟩⟩ (H.2.1 h1).2.2)))); (x_zne c402_99 (H.2.1 h1).1 (fun (h3 : v2 ≠ 0) => (x_ci c402_108 (x_goto c402_109 (wp_wk (l' := [some (jR 133), some (jI v1), none, some (jI v3), none]) ⟨rfl, ⟨rfl, ⟨rfl, trivial⟩⟩⟩ (by have K := K; first | (simp only [if_neg h3] at K ⊢; exact K) | (exfalso; omega)))))) (fun (h4 : v2 = 0) => (x_ild c402_102 rfl (x_ci c402_104 (x_cne c402_105 ((H.2.1 h1).2.1 h4) (by decide) (fun (h5 : u0 ≠ 1) => (x_ci c402_112 (wp_wk (l' := [some (jR 133), some (jI v1), none, some (jI v3), none]) ⟨rfl, ⟨rfl, ⟨rfl, trivial⟩⟩⟩ (by have K := K; first | (simp only [if_pos h4, if_neg h5] at K ⊢; exact K) | (exfalso; omega))))) (fun (h6 : u0 = 1) => (x_ci c402_108 (x_goto c402_109 (wp_wk (l' := [some (jR 133), some (jI v1), none, some (jI v3), none]) ⟨rfl, ⟨rfl, ⟨rfl, trivial⟩⟩⟩ (by have K := K; first | (simp only [if_pos h4, if_pos h6] at K ⊢; exact K) | (exfalso; omega)))))))))))))) (fun h2 => (x_ci c402_96 (x_zrt c402_97 r402 (by decide) (H.2.2 h2))))))))
theorem s402_127 {kc : List va_E} {d : Nat} {u0 : Int} {M : fx_M} {Q : Option fx_V → fx_M → Prop} (H : ((fx_in32 u0)) ∧ ((0 : Int) ≤ (if u0 = 0 then (1 : Int) else 0) ∧ (if u0 = 0 then (1 : Int) else 0) ≤ 1) ∧ Q (some (jI (if u0 = 0 then (1 : Int) else 0))) M) : wp kc (d + 1) 402 127 [none, none, none, none, none] [jI u0] M Q :=
  (have K : wp kc (d + 1) 402 135 [none, none, none, none, none] [jI (if u0 = 0 then (1 : Int) else 0)] M Q := (x_zrt c402_135 r402 H.2.1 H.2.2); (x_zne c402_127 H.1 (fun (h1 : u0 ≠ 0) => (x_ci c402_134 (wp_wk (l' := [none, none, none, none, none]) trivial (by have K := K; first | (simp only [if_neg h1] at K ⊢; exact K) | (exfalso; omega))))) (fun (h2 : u0 = 0) => (x_ci c402_130 (x_goto c402_131 (wp_wk (l' := [none, none, none, none, none]) trivial (by have K := K; first | (simp only [if_pos h2] at K ⊢; exact K) | (exfalso; omega))))))))
theorem s402 {kc : List va_E} {d : Nat} {x1 : Int} {M : fx_M} {Q : Option fx_V → fx_M → Prop} (H : wp kc (d + 1) 402 2 [some (jR 133), some (jI x1), some (jI 0), none, none] [] M Q) : wc kc (d + 1) 402 [jR 133, jI x1] M Q :=
  wc_of (wp_wk (l' := [some (jR 133), some (jI x1), none, none, none]) ⟨rfl, ⟨rfl, trivial⟩⟩ (s402_0 H))
