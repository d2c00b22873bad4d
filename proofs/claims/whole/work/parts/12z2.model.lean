/-! SEGMENTS of the model, 2 (by gen/emit_segs.py) -/
/- PuzzleHouseModel.sayChange(I)V -/
theorem c258_0 : fx_op 258 0 = some (.aload_n 0, 1, 0) := by decide +kernel
theorem c258_1 : fx_gf 258 1 = some (12, 40, 4) := by decide +kernel
theorem c258_4 : fx_ci 258 4 = some (0, 5) := by decide +kernel
theorem c258_5 : fx_op 258 5 = some (.iaload, 6, 5) := by decide +kernel
theorem c258_6 : fx_op 258 6 = some (.istore_n 2, 7, 6) := by decide +kernel
theorem c258_7 : fx_op 258 7 = some (.iload_n 1, 8, 7) := by decide +kernel
theorem c258_8 : fx_op 258 8 = some (.ifCond .ne 23, 11, 31) := by decide +kernel
theorem c258_31 : fx_op 258 31 = some (.iload_n 1, 32, 31) := by decide +kernel
theorem c258_32 : fx_ci 258 32 = some (1, 33) := by decide +kernel
theorem c258_33 : fx_op 258 33 = some (.if_icmp .ne 11, 36, 44) := by decide +kernel
theorem c258_44 : fx_op 258 44 = some (.iload_n 1, 45, 44) := by decide +kernel
theorem c258_45 : fx_ci 258 45 = some (2, 46) := by decide +kernel
theorem c258_46 : fx_op 258 46 = some (.if_icmp .ne 11, 49, 57) := by decide +kernel
theorem c258_57 : fx_op 258 57 = some (.aload_n 0, 58, 57) := by decide +kernel
theorem c258_58 : fx_ci 258 58 = some (0, 59) := by decide +kernel
theorem c258_59 : fx_op 258 59 = some (.aload_n 0, 60, 59) := by decide +kernel
theorem c258_60 : fx_gf 258 60 = some (12, 20, 63) := by decide +kernel
theorem c258_63 : fx_op 258 63 = some (.aload_n 0, 64, 63) := by decide +kernel
theorem c258_64 : fx_gf 258 64 = some (12, 8, 67) := by decide +kernel
theorem c258_49 : fx_op 258 49 = some (.aload_n 0, 50, 49) := by decide +kernel
theorem c258_50 : fx_ci 258 50 = some (0, 51) := by decide +kernel
theorem c258_36 : fx_op 258 36 = some (.aload_n 0, 37, 36) := by decide +kernel
theorem c258_37 : fx_ci 258 37 = some (0, 38) := by decide +kernel
theorem c258_11 : fx_op 258 11 = some (.aload_n 0, 12, 11) := by decide +kernel
theorem c258_12 : fx_ci 258 12 = some (0, 13) := by decide +kernel
theorem c258_13 : fx_op 258 13 = some (.aload_n 0, 14, 13) := by decide +kernel
theorem c258_14 : fx_gf 258 14 = some (12, 17, 17) := by decide +kernel
theorem c258_17 : fx_op 258 17 = some (.aload_n 0, 18, 17) := by decide +kernel
theorem c258_18 : fx_gf 258 18 = some (12, 18, 21) := by decide +kernel
theorem c258_21 : fx_op 258 21 = some (.aload_n 0, 22, 21) := by decide +kernel
theorem c258_22 : fx_gf 258 22 = some (12, 19, 25) := by decide +kernel
theorem c258_67 : fx_ca 258 67 = some (245, 4, 2, 70) := by decide +kernel
theorem c258_51 : fx_ca 258 51 = some (243, 2, 2, 54) := by decide +kernel
theorem c258_38 : fx_ca 258 38 = some (240, 2, 2, 41) := by decide +kernel
theorem c258_25 : fx_ca 258 25 = some (214, 5, 2, 28) := by decide +kernel
theorem c258_70 : fx_op 258 70 = some (.istore_n 3, 71, 70) := by decide +kernel
theorem c258_71 : fx_op 258 71 = some (.iload_n 3, 72, 71) := by decide +kernel
theorem c258_72 : fx_op 258 72 = some (.ifCond .ne 7, 75, 79) := by decide +kernel
theorem c258_75 : fx_op 258 75 = some (.aload_n 0, 76, 75) := by decide +kernel
theorem c258_79 : fx_op 258 79 = some (.iload_n 3, 80, 79) := by decide +kernel
theorem c258_80 : fx_op 258 80 = some (.ifCond .ne 20, 83, 100) := by decide +kernel
theorem c258_100 : fx_op 258 100 = some (.iload_n 3, 101, 100) := by decide +kernel
theorem c258_101 : fx_op 258 101 = some (.ifCond .ne 26, 104, 127) := by decide +kernel
theorem c258_127 : fx_op 258 127 = some (.aload_n 0, 128, 127) := by decide +kernel
theorem c258_128 : fx_op 258 128 = some (.iload_n 3, 129, 128) := by decide +kernel
theorem c258_104 : fx_op 258 104 = some (.iload_n 1, 105, 104) := by decide +kernel
theorem c258_105 : fx_ci 258 105 = some (2, 106) := by decide +kernel
theorem c258_106 : fx_op 258 106 = some (.if_icmp .ne 21, 109, 127) := by decide +kernel
theorem c258_109 : fx_op 258 109 = some (.aload_n 0, 110, 109) := by decide +kernel
theorem c258_110 : fx_cj 258 110 = some (491596309875, 113) := by decide +kernel
theorem c258_113 : fx_op 258 113 = some (.aload_n 0, 114, 113) := by decide +kernel
theorem c258_114 : fx_gf 258 114 = some (12, 40, 117) := by decide +kernel
theorem c258_117 : fx_ci 258 117 = some (0, 118) := by decide +kernel
theorem c258_118 : fx_op 258 118 = some (.iaload, 119, 118) := by decide +kernel
theorem c258_119 : fx_op 258 119 = some (.iload_n 2, 120, 119) := by decide +kernel
theorem c258_120 : fx_op 258 120 = some (.isub, 121, 120) := by decide +kernel
theorem c258_83 : fx_op 258 83 = some (.iload_n 1, 84, 83) := by decide +kernel
theorem c258_84 : fx_ci 258 84 = some (1, 85) := by decide +kernel
theorem c258_85 : fx_op 258 85 = some (.if_icmp .ne 15, 88, 100) := by decide +kernel
theorem c258_88 : fx_op 258 88 = some (.aload_n 0, 89, 88) := by decide +kernel
theorem c258_89 : fx_ci 258 89 = some (1, 90) := by decide +kernel
theorem c258_129 : fx_ca 258 129 = some (259, 2, 2, 132) := by decide +kernel
theorem c258_121 : fx_ca 258 121 = some (252, 3, 2, 124) := by decide +kernel
theorem c258_90 : fx_ca 258 90 = some (221, 1, 0, 93) := by decide +kernel
theorem c258_76 : fx_ca 258 76 = some (215, 1, 2, 79) := by decide +kernel
theorem c258_54 : fx_op 258 54 = some (.goto 16, 57, 70) := by decide +kernel
theorem c258_41 : fx_op 258 41 = some (.goto 29, 44, 70) := by decide +kernel
theorem c258_28 : fx_op 258 28 = some (.goto 42, 31, 70) := by decide +kernel
theorem c258_132 : fx_op 258 132 = some (.return_, 133, 132) := by decide +kernel
theorem c258_124 : fx_op 258 124 = some (.goto 8, 127, 132) := by decide +kernel
theorem c258_93 : fx_op 258 93 = some (.iload_n 2, 94, 93) := by decide +kernel
theorem c258_94 : fx_ca 258 94 = some (252, 3, 2, 97) := by decide +kernel
theorem c258_97 : fx_op 258 97 = some (.goto 35, 100, 132) := by decide +kernel
theorem s258_0 {kc : List va_E} {d : Nat} {x1 : Int} {M : fx_M} {Q : Option fx_V → fx_M → Prop} (H : ((fx_in32 x1)) ∧ (x1 ≠ 0 → ((fx_in32 x1)) ∧ (x1 ≠ 1 → ((fx_in32 x1)) ∧ (x1 ≠ 2 → wc kc d 245 [jR 133, jI 0, jI (M 133 20), jI (M 133 8)] M (fun v M1 => wp kc (d + 1) 258 70 [some (jR 133), some (jI x1), some (jI (M 149 0)), none] (v.toList ++ []) M1 Q)) ∧ (x1 = 2 → wc kc d 243 [jR 133, jI 0] M (fun v M1 => wp kc (d + 1) 258 54 [some (jR 133), some (jI x1), some (jI (M 149 0)), none] (v.toList ++ []) M1 Q))) ∧ (x1 = 1 → wc kc d 240 [jR 133, jI 0] M (fun v M1 => wp kc (d + 1) 258 41 [some (jR 133), some (jI x1), some (jI (M 149 0)), none] (v.toList ++ []) M1 Q))) ∧ (x1 = 0 → wc kc d 214 [jR 133, jI 0, jI (M 133 17), jI (M 133 18), jI (M 133 19)] M (fun v M1 => wp kc (d + 1) 258 28 [some (jR 133), some (jI x1), some (jI (M 149 0)), none] (v.toList ++ []) M1 Q))) : wp kc (d + 1) 258 0 [some (jR 133), some (jI x1), none, none] [] M Q :=
  (x_aldn c258_0 rfl (x_gfr c258_1 k_133_40 (x_ci c258_4 (x_iald c258_5 a_149 (by decide) (by decide) (x_istn (l' := [some (jR 133), some (jI x1), some (jI (M 149 0)), none]) c258_6 rfl (x_ildn c258_7 rfl (x_zne c258_8 H.1 (fun h5 => (x_ildn c258_31 rfl (x_ci c258_32 (x_cne c258_33 (H.2.1 h5).1 (by decide) (fun h3 => (x_ildn c258_44 rfl (x_ci c258_45 (x_cne c258_46 ((H.2.1 h5).2.1 h3).1 (by decide) (fun h1 => (x_aldn c258_57 rfl (x_ci c258_58 (x_aldn c258_59 rfl (x_gfi c258_60 k_133_20 (x_aldn c258_63 rfl (x_gfi c258_64 k_133_8 (wp_wk (l' := [some (jR 133), some (jI x1), some (jI (M 149 0)), none]) ⟨rfl, ⟨rfl, ⟨rfl, trivial⟩⟩⟩ (x_cv (As := [jI 0, jI (M 133 20), jI (M 133 8)]) (st := []) c258_67 cl_133 kl245 rfl (Nat.le_of_ble_eq_true rfl) mx245 (Nat.le_refl _) (((H.2.1 h5).2.1 h3).2.1 h1)))))))))) (fun h2 => (x_aldn c258_49 rfl (x_ci c258_50 (wp_wk (l' := [some (jR 133), some (jI x1), some (jI (M 149 0)), none]) ⟨rfl, ⟨rfl, ⟨rfl, trivial⟩⟩⟩ (x_cv (As := [jI 0]) (st := []) c258_51 cl_133 kl243 rfl (Nat.le_of_ble_eq_true rfl) mx243 (Nat.le_refl _) (((H.2.1 h5).2.1 h3).2.2 h2)))))))))) (fun h4 => (x_aldn c258_36 rfl (x_ci c258_37 (wp_wk (l' := [some (jR 133), some (jI x1), some (jI (M 149 0)), none]) ⟨rfl, ⟨rfl, ⟨rfl, trivial⟩⟩⟩ (x_cv (As := [jI 0]) (st := []) c258_38 cl_133 kl240 rfl (Nat.le_of_ble_eq_true rfl) mx240 (Nat.le_refl _) ((H.2.1 h5).2.2 h4)))))))))) (fun h6 => (x_aldn c258_11 rfl (x_ci c258_12 (x_aldn c258_13 rfl (x_gfi c258_14 k_133_17 (x_aldn c258_17 rfl (x_gfi c258_18 k_133_18 (x_aldn c258_21 rfl (x_gfi c258_22 k_133_19 (wp_wk (l' := [some (jR 133), some (jI x1), some (jI (M 149 0)), none]) ⟨rfl, ⟨rfl, ⟨rfl, trivial⟩⟩⟩ (x_cv (As := [jI 0, jI (M 133 17), jI (M 133 18), jI (M 133 19)]) (st := []) c258_25 cl_133 kl214 rfl (Nat.le_of_ble_eq_true rfl) mx214 (Nat.le_refl _) (H.2.2 h6)))))))))))))))))))
theorem s258_28 {kc : List va_E} {d : Nat} {v1 v2 u0 : Int} {M : fx_M} {Q : Option fx_V → fx_M → Prop} (H : ((fx_in32 u0)) ∧ (u0 ≠ 0 → ((fx_in32 u0)) ∧ (u0 ≠ 0 → ((fx_in32 u0)) ∧ (u0 ≠ 0 → wc kc d 259 [jR 133, jI u0] M (fun v M1 => wp kc (d + 1) 258 132 [none, none, none, none] (v.toList ++ []) M1 Q)) ∧ (u0 = 0 → ((fx_in32 v1)) ∧ (v1 ≠ 2 → wc kc d 259 [jR 133, jI u0] M (fun v M1 => wp kc (d + 1) 258 132 [none, none, none, none] (v.toList ++ []) M1 Q)) ∧ (v1 = 2 → wc kc d 252 [jR 133, jL 491596309875, jI ((M 149 0) - v2)] M (fun v M1 => wp kc (d + 1) 258 124 [none, none, none, none] (v.toList ++ []) M1 Q)))) ∧ (u0 = 0 → ((fx_in32 v1)) ∧ (v1 ≠ 1 → ((fx_in32 u0)) ∧ (u0 ≠ 0 → wc kc d 259 [jR 133, jI u0] M (fun v M1 => wp kc (d + 1) 258 132 [none, none, none, none] (v.toList ++ []) M1 Q)) ∧ (u0 = 0 → ((fx_in32 v1)) ∧ (v1 ≠ 2 → wc kc d 259 [jR 133, jI u0] M (fun v M1 => wp kc (d + 1) 258 132 [none, none, none, none] (v.toList ++ []) M1 Q)) ∧ (v1 = 2 → wc kc d 252 [jR 133, jL 491596309875, jI ((M 149 0) - v2)] M (fun v M1 => wp kc (d + 1) 258 124 [none, none, none, none] (v.toList ++ []) M1 Q)))) ∧ (v1 = 1 → wc kc d 221 [jI 1] M (fun v M1 => wp kc (d + 1) 258 93 [none, none, some (jI v2), none] (v.toList ++ [jR 133]) M1 Q)))) ∧ (u0 = 0 → wc kc d 215 [jR 133] M (fun v M1 => wp kc (d + 1) 258 79 [some (jR 133), some (jI v1), some (jI v2), some (jI u0)] (v.toList ++ []) M1 Q))) : wp kc (d + 1) 258 28 [some (jR 133), some (jI v1), some (jI v2), none] [jI u0] M Q :=
  (x_goto c258_28 (x_istn (l' := [some (jR 133), some (jI v1), some (jI v2), some (jI u0)]) c258_70 rfl (x_ildn c258_71 rfl (x_zne c258_72 H.1 (fun h13 => (x_ildn c258_79 rfl (x_zne c258_80 (H.2.1 h13).1 (fun h11 => (x_ildn c258_100 rfl (x_zne c258_101 ((H.2.1 h13).2.1 h11).1 (fun h3 => (x_aldn c258_127 rfl (x_ildn c258_128 rfl (wp_wk (l' := [none, none, none, none]) trivial (x_cv (As := [jI u0]) (st := []) c258_129 cl_133 kl259 rfl (Nat.le_of_ble_eq_true rfl) mx259 (Nat.le_refl _) (((H.2.1 h13).2.1 h11).2.1 h3)))))) (fun h4 => (x_ildn c258_104 rfl (x_ci c258_105 (x_cne c258_106 (((H.2.1 h13).2.1 h11).2.2 h4).1 (by decide) (fun h1 => (x_aldn c258_127 rfl (x_ildn c258_128 rfl (wp_wk (l' := [none, none, none, none]) trivial (x_cv (As := [jI u0]) (st := []) c258_129 cl_133 kl259 rfl (Nat.le_of_ble_eq_true rfl) mx259 (Nat.le_refl _) ((((H.2.1 h13).2.1 h11).2.2 h4).2.1 h1)))))) (fun h2 => (x_aldn c258_109 rfl (x_cj c258_110 (x_aldn c258_113 rfl (x_gfr c258_114 k_133_40 (x_ci c258_117 (x_iald c258_118 a_149 (by decide) (by decide) (x_ildn c258_119 rfl (x_isub c258_120 (wp_wk (l' := [none, none, none, none]) trivial (x_cv (As := [jL 491596309875, jI ((M 149 0) - v2)]) (st := []) c258_121 cl_133 kl252 rfl (Nat.le_of_ble_eq_true rfl) mx252 (Nat.le_refl _) ((((H.2.1 h13).2.1 h11).2.2 h4).2.2 h2))))))))))))))))))) (fun h12 => (x_ildn c258_83 rfl (x_ci c258_84 (x_cne c258_85 ((H.2.1 h13).2.2 h12).1 (by decide) (fun h9 => (x_ildn c258_100 rfl (x_zne c258_101 (((H.2.1 h13).2.2 h12).2.1 h9).1 (fun h7 => (x_aldn c258_127 rfl (x_ildn c258_128 rfl (wp_wk (l' := [none, none, none, none]) trivial (x_cv (As := [jI u0]) (st := []) c258_129 cl_133 kl259 rfl (Nat.le_of_ble_eq_true rfl) mx259 (Nat.le_refl _) ((((H.2.1 h13).2.2 h12).2.1 h9).2.1 h7)))))) (fun h8 => (x_ildn c258_104 rfl (x_ci c258_105 (x_cne c258_106 ((((H.2.1 h13).2.2 h12).2.1 h9).2.2 h8).1 (by decide) (fun h5 => (x_aldn c258_127 rfl (x_ildn c258_128 rfl (wp_wk (l' := [none, none, none, none]) trivial (x_cv (As := [jI u0]) (st := []) c258_129 cl_133 kl259 rfl (Nat.le_of_ble_eq_true rfl) mx259 (Nat.le_refl _) (((((H.2.1 h13).2.2 h12).2.1 h9).2.2 h8).2.1 h5)))))) (fun h6 => (x_aldn c258_109 rfl (x_cj c258_110 (x_aldn c258_113 rfl (x_gfr c258_114 k_133_40 (x_ci c258_117 (x_iald c258_118 a_149 (by decide) (by decide) (x_ildn c258_119 rfl (x_isub c258_120 (wp_wk (l' := [none, none, none, none]) trivial (x_cv (As := [jL 491596309875, jI ((M 149 0) - v2)]) (st := []) c258_121 cl_133 kl252 rfl (Nat.le_of_ble_eq_true rfl) mx252 (Nat.le_refl _) (((((H.2.1 h13).2.2 h12).2.1 h9).2.2 h8).2.2 h6))))))))))))))))))) (fun h10 => (x_aldn c258_88 rfl (x_ci c258_89 (wp_wk (l' := [none, none, some (jI v2), none]) ⟨rfl, trivial⟩ (x_cs (As := [jI 1]) (st := [jR 133]) c258_90 (by decide) rfl (Nat.le_of_ble_eq_true rfl) mx221 (Nat.le_refl _) (((H.2.1 h13).2.2 h12).2.2 h10))))))))))))) (fun h14 => (x_aldn c258_75 rfl (wp_wk (l' := [some (jR 133), some (jI v1), some (jI v2), some (jI u0)]) ⟨rfl, ⟨rfl, ⟨rfl, ⟨rfl, trivial⟩⟩⟩⟩ (x_cv (As := []) (st := []) c258_76 cl_133 kl215 rfl (Nat.le_of_ble_eq_true rfl) mx215 (Nat.le_refl _) (H.2.2 h14)))))))))
theorem s258_41 {kc : List va_E} {d : Nat} {v1 v2 u0 : Int} {M : fx_M} {Q : Option fx_V → fx_M → Prop} (H : ((fx_in32 u0)) ∧ (u0 ≠ 0 → ((fx_in32 u0)) ∧ (u0 ≠ 0 → ((fx_in32 u0)) ∧ (u0 ≠ 0 → wc kc d 259 [jR 133, jI u0] M (fun v M1 => wp kc (d + 1) 258 132 [none, none, none, none] (v.toList ++ []) M1 Q)) ∧ (u0 = 0 → ((fx_in32 v1)) ∧ (v1 ≠ 2 → wc kc d 259 [jR 133, jI u0] M (fun v M1 => wp kc (d + 1) 258 132 [none, none, none, none] (v.toList ++ []) M1 Q)) ∧ (v1 = 2 → wc kc d 252 [jR 133, jL 491596309875, jI ((M 149 0) - v2)] M (fun v M1 => wp kc (d + 1) 258 124 [none, none, none, none] (v.toList ++ []) M1 Q)))) ∧ (u0 = 0 → ((fx_in32 v1)) ∧ (v1 ≠ 1 → ((fx_in32 u0)) ∧ (u0 ≠ 0 → wc kc d 259 [jR 133, jI u0] M (fun v M1 => wp kc (d + 1) 258 132 [none, none, none, none] (v.toList ++ []) M1 Q)) ∧ (u0 = 0 → ((fx_in32 v1)) ∧ (v1 ≠ 2 → wc kc d 259 [jR 133, jI u0] M (fun v M1 => wp kc (d + 1) 258 132 [none, none, none, none] (v.toList ++ []) M1 Q)) ∧ (v1 = 2 → wc kc d 252 [jR 133, jL 491596309875, jI ((M 149 0) - v2)] M (fun v M1 => wp kc (d + 1) 258 124 [none, none, none, none] (v.toList ++ []) M1 Q)))) ∧ (v1 = 1 → wc kc d 221 [jI 1] M (fun v M1 => wp kc (d + 1) 258 93 [none, none, some (jI v2), none] (v.toList ++ [jR 133]) M1 Q)))) ∧ (u0 = 0 → wc kc d 215 [jR 133] M (fun v M1 => wp kc (d + 1) 258 79 [some (jR 133), some (jI v1), some (jI v2), some (jI u0)] (v.toList ++ []) M1 Q))) : wp kc (d + 1) 258 41 [some (jR 133), some (jI v1), some (jI v2), none] [jI u0] M Q :=
  (x_goto c258_41 (x_istn (l' := [some (jR 133), some (jI v1), some (jI v2), some (jI u0)]) c258_70 rfl (x_ildn c258_71 rfl (x_zne c258_72 H.1 (fun h13 => (x_ildn c258_79 rfl (x_zne c258_80 (H.2.1 h13).1 (fun h11 => (x_ildn c258_100 rfl (x_zne c258_101 ((H.2.1 h13).2.1 h11).1 (fun h3 => (x_aldn c258_127 rfl (x_ildn c258_128 rfl (wp_wk (l' := [none, none, none, none]) trivial (x_cv (As := [jI u0]) (st := []) c258_129 cl_133 kl259 rfl (Nat.le_of_ble_eq_true rfl) mx259 (Nat.le_refl _) (((H.2.1 h13).2.1 h11).2.1 h3)))))) (fun h4 => (x_ildn c258_104 rfl (x_ci c258_105 (x_cne c258_106 (((H.2.1 h13).2.1 h11).2.2 h4).1 (by decide) (fun h1 => (x_aldn c258_127 rfl (x_ildn c258_128 rfl (wp_wk (l' := [none, none, none, none]) trivial (x_cv (As := [jI u0]) (st := []) c258_129 cl_133 kl259 rfl (Nat.le_of_ble_eq_true rfl) mx259 (Nat.le_refl _) ((((H.2.1 h13).2.1 h11).2.2 h4).2.1 h1)))))) (fun h2 => (x_aldn c258_109 rfl (x_cj c258_110 (x_aldn c258_113 rfl (x_gfr c258_114 k_133_40 (x_ci c258_117 (x_iald c258_118 a_149 (by decide) (by decide) (x_ildn c258_119 rfl (x_isub c258_120 (wp_wk (l' := [none, none, none, none]) trivial (x_cv (As := [jL 491596309875, jI ((M 149 0) - v2)]) (st := []) c258_121 cl_133 kl252 rfl (Nat.le_of_ble_eq_true rfl) mx252 (Nat.le_refl _) ((((H.2.1 h13).2.1 h11).2.2 h4).2.2 h2))))))))))))))))))) (fun h12 => (x_ildn c258_83 rfl (x_ci c258_84 (x_cne c258_85 ((H.2.1 h13).2.2 h12).1 (by decide) (fun h9 => (x_ildn c258_100 rfl (x_zne c258_101 (((H.2.1 h13).2.2 h12).2.1 h9).1 (fun h7 => (x_aldn c258_127 rfl (x_ildn c258_128 rfl (wp_wk (l' := [none, none, none, none]) trivial (x_cv (As := [jI u0]) (st := []) c258_129 cl_133 kl259 rfl (Nat.le_of_ble_eq_true rfl) mx259 (Nat.le_refl _) ((((H.2.1 h13).2.2 h12).2.1 h9).2.1 h7)))))) (fun h8 => (x_ildn c258_104 rfl (x_ci c258_105 (x_cne c258_106 ((((H.2.1 h13).2.2 h12).2.1 h9).2.2 h8).1 (by decide) (fun h5 => (x_aldn c258_127 rfl (x_ildn c258_128 rfl (wp_wk (l' := [none, none, none, none]) trivial (x_cv (As := [jI u0]) (st := []) c258_129 cl_133 kl259 rfl (Nat.le_of_ble_eq_true rfl) mx259 (Nat.le_refl _) (((((H.2.1 h13).2.2 h12).2.1 h9).2.2 h8).2.1 h5)))))) (fun h6 => (x_aldn c258_109 rfl (x_cj c258_110 (x_aldn c258_113 rfl (x_gfr c258_114 k_133_40 (x_ci c258_117 (x_iald c258_118 a_149 (by decide) (by decide) (x_ildn c258_119 rfl (x_isub c258_120 (wp_wk (l' := [none, none, none, none]) trivial (x_cv (As := [jL 491596309875, jI ((M 149 0) - v2)]) (st := []) c258_121 cl_133 kl252 rfl (Nat.le_of_ble_eq_true rfl) mx252 (Nat.le_refl _) (((((H.2.1 h13).2.2 h12).2.1 h9).2.2 h8).2.2 h6))))))))))))))))))) (fun h10 => (x_aldn c258_88 rfl (x_ci c258_89 (wp_wk (l' := [none, none, some (jI v2), none]) ⟨rfl, trivial⟩ (x_cs (As := [jI 1]) (st := [jR 133]) c258_90 (by decide) rfl (Nat.le_of_ble_eq_true rfl) mx221 (Nat.le_refl _) (((H.2.1 h13).2.2 h12).2.2 h10))))))))))))) (fun h14 => (x_aldn c258_75 rfl (wp_wk (l' := [some (jR 133), some (jI v1), some (jI v2), some (jI u0)]) ⟨rfl, ⟨rfl, ⟨rfl, ⟨rfl, trivial⟩⟩⟩⟩ (x_cv (As := []) (st := []) c258_76 cl_133 kl215 rfl (Nat.le_of_ble_eq_true rfl) mx215 (Nat.le_refl _) (H.2.2 h14)))))))))
theorem s258_54 {kc : List va_E} {d : Nat} {v1 v2 u0 : Int} {M : fx_M} {Q : Option fx_V → fx_M → Prop} (H : ((fx_in32 u0)) ∧ (u0 ≠ 0 → ((fx_in32 u0)) ∧ (u0 ≠ 0 → ((fx_in32 u0)) ∧ (u0 ≠ 0 → wc kc d 259 [jR 133, jI u0] M (fun v M1 => wp kc (d + 1) 258 132 [none, none, none, none] (v.toList ++ []) M1 Q)) ∧ (u0 = 0 → ((fx_in32 v1)) ∧ (v1 ≠ 2 → wc kc d 259 [jR 133, jI u0] M (fun v M1 => wp kc (d + 1) 258 132 [none, none, none, none] (v.toList ++ []) M1 Q)) ∧ (v1 = 2 → wc kc d 252 [jR 133, jL 491596309875, jI ((M 149 0) - v2)] M (fun v M1 => wp kc (d + 1) 258 124 [none, none, none, none] (v.toList ++ []) M1 Q)))) ∧ (u0 = 0 → ((fx_in32 v1)) ∧ (v1 ≠ 1 → ((fx_in32 u0)) ∧ (u0 ≠ 0 → wc kc d 259 [jR 133, jI u0] M (fun v M1 => wp kc (d + 1) 258 132 [none, none, none, none] (v.toList ++ []) M1 Q)) ∧ (u0 = 0 → ((fx_in32 v1)) ∧ (v1 ≠ 2 → wc kc d 259 [jR 133, jI u0] M (fun v M1 => wp kc (d + 1) 258 132 [none, none, none, none] (v.toList ++ []) M1 Q)) ∧ (v1 = 2 → wc kc d 252 [jR 133, jL 491596309875, jI ((M 149 0) - v2)] M (fun v M1 => wp kc (d + 1) 258 124 [none, none, none, none] (v.toList ++ []) M1 Q)))) ∧ (v1 = 1 → wc kc d 221 [jI 1] M (fun v M1 => wp kc (d + 1) 258 93 [none, none, some (jI v2), none] (v.toList ++ [jR 133]) M1 Q)))) ∧ (u0 = 0 → wc kc d 215 [jR 133] M (fun v M1 => wp kc (d + 1) 258 79 [some (jR 133), some (jI v1), some (jI v2), some (jI u0)] (v.toList ++ []) M1 Q))) : wp kc (d + 1) 258 54 [some (jR 133), some (jI v1), some (jI v2), none] [jI u0] M Q :=
  (x_goto c258_54 (x_istn (l' := [some (jR 133), some (jI v1), some (jI v2), some (jI u0)]) c258_70 rfl (x_ildn c258_71 rfl (x_zne c258_72 H.1 (fun h13 => (x_ildn c258_79 rfl (x_zne c258_80 (H.2.1 h13).1 (fun h11 => (x_ildn c258_100 rfl (x_zne c258_101 ((H.2.1 h13).2.1 h11).1 (fun h3 => (x_aldn c258_127 rfl (x_ildn c258_128 rfl (wp_wk (l' := [none, none, none, none]) trivial (x_cv (As := [jI u0]) (st := []) c258_129 cl_133 kl259 rfl (Nat.le_of_ble_eq_true rfl) mx259 (Nat.le_refl _) (((H.2.1 h13).2.1 h11).2.1 h3)))))) (fun h4 => (x_ildn c258_104 rfl (x_ci c258_105 (x_cne c258_106 (((H.2.1 h13).2.1 h11).2.2 h4).1 (by decide) (fun h1 => (x_aldn c258_127 rfl (x_ildn c258_128 rfl (wp_wk (l' := [none, none, none, none]) trivial (x_cv (As := [jI u0]) (st := []) c258_129 cl_133 kl259 rfl (Nat.le_of_ble_eq_true rfl) mx259 (Nat.le_refl _) ((((H.2.1 h13).2.1 h11).2.2 h4).2.1 h1)))))) (fun h2 => (x_aldn c258_109 rfl (x_cj c258_110 (x_aldn c258_113 rfl (x_gfr c258_114 k_133_40 (x_ci c258_117 (x_iald c258_118 a_149 (by decide) (by decide) (x_ildn c258_119 rfl (x_isub c258_120 (wp_wk (l' := [none, none, none, none]) trivial (x_cv (As := [jL 491596309875, jI ((M 149 0) - v2)]) (st := []) c258_121 cl_133 kl252 rfl (Nat.le_of_ble_eq_true rfl) mx252 (Nat.le_refl _) ((((H.2.1 h13).2.1 h11).2.2 h4).2.2 h2))))))))))))))))))) (fun h12 => (x_ildn c258_83 rfl (x_ci c258_84 (x_cne c258_85 ((H.2.1 h13).2.2 h12).1 (by decide) (fun h9 => (x_ildn c258_100 rfl (x_zne c258_101 (((H.2.1 h13).2.2 h12).2.1 h9).1 (fun h7 => (x_aldn c258_127 rfl (x_ildn c258_128 rfl (wp_wk (l' := [none, none, none, none]) trivial (x_cv (As := [jI u0]) (st := []) c258_129 cl_133 kl259 rfl (Nat.le_of_ble_eq_true rfl) mx259 (Nat.le_refl _) ((((H.2.1 h13).2.2 h12).2.1 h9).2.1 h7)))))) (fun h8 => (x_ildn c258_104 rfl (x_ci c258_105 (x_cne c258_106 ((((H.2.1 h13).2.2 h12).2.1 h9).2.2 h8).1 (by decide) (fun h5 => (x_aldn c258_127 rfl (x_ildn c258_128 rfl (wp_wk (l' := [none, none, none, none]) trivial (x_cv (As := [jI u0]) (st := []) c258_129 cl_133 kl259 rfl (Nat.le_of_ble_eq_true rfl) mx259 (Nat.le_refl _) (((((H.2.1 h13).2.2 h12).2.1 h9).2.2 h8).2.1 h5)))))) (fun h6 => (x_aldn c258_109 rfl (x_cj c258_110 (x_aldn c258_113 rfl (x_gfr c258_114 k_133_40 (x_ci c258_117 (x_iald c258_118 a_149 (by decide) (by decide) (x_ildn c258_119 rfl (x_isub c258_120 (wp_wk (l' := [none, none, none, none]) trivial (x_cv (As := [jL 491596309875, jI ((M 149 0) - v2)]) (st := []) c258_121 cl_133 kl252 rfl (Nat.le_of_ble_eq_true rfl) mx252 (Nat.le_refl _) (((((H.2.1 h13).2.2 h12).2.1 h9).2.2 h8).2.2 h6))))))))))))))))))) (fun h10 => (x_aldn c258_88 rfl (x_ci c258_89 (wp_wk (l' := [none, none, some (jI v2), none]) ⟨rfl, trivial⟩ (x_cs (As := [jI 1]) (st := [jR 133]) c258_90 (by decide) rfl (Nat.le_of_ble_eq_true rfl) mx221 (Nat.le_refl _) (((H.2.1 h13).2.2 h12).2.2 h10))))))))))))) (fun h14 => (x_aldn c258_75 rfl (wp_wk (l' := [some (jR 133), some (jI v1), some (jI v2), some (jI u0)]) ⟨rfl, ⟨rfl, ⟨rfl, ⟨rfl, trivial⟩⟩⟩⟩ (x_cv (As := []) (st := []) c258_76 cl_133 kl215 rfl (Nat.le_of_ble_eq_true rfl) mx215 (Nat.le_refl _) (H.2.2 h14)))))))))
theorem s258_70 {kc : List va_E} {d : Nat} {v1 v2 u0 : Int} {M : fx_M} {Q : Option fx_V → fx_M → Prop} (H : ((fx_in32 u0)) ∧ (u0 ≠ 0 → ((fx_in32 u0)) ∧ (u0 ≠ 0 → ((fx_in32 u0)) ∧ (u0 ≠ 0 → wc kc d 259 [jR 133, jI u0] M (fun v M1 => wp kc (d + 1) 258 132 [none, none, none, none] (v.toList ++ []) M1 Q)) ∧ (u0 = 0 → ((fx_in32 v1)) ∧ (v1 ≠ 2 → wc kc d 259 [jR 133, jI u0] M (fun v M1 => wp kc (d + 1) 258 132 [none, none, none, none] (v.toList ++ []) M1 Q)) ∧ (v1 = 2 → wc kc d 252 [jR 133, jL 491596309875, jI ((M 149 0) - v2)] M (fun v M1 => wp kc (d + 1) 258 124 [none, none, none, none] (v.toList ++ []) M1 Q)))) ∧ (u0 = 0 → ((fx_in32 v1)) ∧ (v1 ≠ 1 → ((fx_in32 u0)) ∧ (u0 ≠ 0 → wc kc d 259 [jR 133, jI u0] M (fun v M1 => wp kc (d + 1) 258 132 [none, none, none, none] (v.toList ++ []) M1 Q)) ∧ (u0 = 0 → ((fx_in32 v1)) ∧ (v1 ≠ 2 → wc kc d 259 [jR 133, jI u0] M (fun v M1 => wp kc (d + 1) 258 132 [none, none, none, none] (v.toList ++ []) M1 Q)) ∧ (v1 = 2 → wc kc d 252 [jR 133, jL 491596309875, jI ((M 149 0) - v2)] M (fun v M1 => wp kc (d + 1) 258 124 [none, none, none, none] (v.toList ++ []) M1 Q)))) ∧ (v1 = 1 → wc kc d 221 [jI 1] M (fun v M1 => wp kc (d + 1) 258 93 [none, none, some (jI v2), none] (v.toList ++ [jR 133]) M1 Q)))) ∧ (u0 = 0 → wc kc d 215 [jR 133] M (fun v M1 => wp kc (d + 1) 258 79 [some (jR 133), some (jI v1), some (jI v2), some (jI u0)] (v.toList ++ []) M1 Q))) : wp kc (d + 1) 258 70 [some (jR 133), some (jI v1), some (jI v2), none] [jI u0] M Q :=
  (x_istn (l' := [some (jR 133), some (jI v1), some (jI v2), some (jI u0)]) c258_70 rfl (x_ildn c258_71 rfl (x_zne c258_72 H.1 (fun h13 => (x_ildn c258_79 rfl (x_zne c258_80 (H.2.1 h13).1 (fun h11 => (x_ildn c258_100 rfl (x_zne c258_101 ((H.2.1 h13).2.1 h11).1 (fun h3 => (x_aldn c258_127 rfl (x_ildn c258_128 rfl (wp_wk (l' := [none, none, none, none]) trivial (x_cv (As := [jI u0]) (st := []) c258_129 cl_133 kl259 rfl (Nat.le_of_ble_eq_true rfl) mx259 (Nat.le_refl _) (((H.2.1 h13).2.1 h11).2.1 h3)))))) (fun h4 => (x_ildn c258_104 rfl (x_ci c258_105 (x_cne c258_106 (((H.2.1 h13).2.1 h11).2.2 h4).1 (by decide) (fun h1 => (x_aldn c258_127 rfl (x_ildn c258_128 rfl (wp_wk (l' := [none, none, none, none]) trivial (x_cv (As := [jI u0]) (st := []) c258_129 cl_133 kl259 rfl (Nat.le_of_ble_eq_true rfl) mx259 (Nat.le_refl _) ((((H.2.1 h13).2.1 h11).2.2 h4).2.1 h1)))))) (fun h2 => (x_aldn c258_109 rfl (x_cj c258_110 (x_aldn c258_113 rfl (x_gfr c258_114 k_133_40 (x_ci c258_117 (x_iald c258_118 a_149 (by decide) (by decide) (x_ildn c258_119 rfl (x_isub c258_120 (wp_wk (l' := [none, none, none, none]) trivial (x_cv (As := [jL 491596309875, jI ((M 149 0) - v2)]) (st := []) c258_121 cl_133 kl252 rfl (Nat.le_of_ble_eq_true rfl) mx252 (Nat.le_refl _) ((((H.2.1 h13).2.1 h11).2.2 h4).2.2 h2))))))))))))))))))) (fun h12 => (x_ildn c258_83 rfl (x_ci c258_84 (x_cne c258_85 ((H.2.1 h13).2.2 h12).1 (by decide) (fun h9 => (x_ildn c258_100 rfl (x_zne c258_101 (((H.2.1 h13).2.2 h12).2.1 h9).1 (fun h7 => (x_aldn c258_127 rfl (x_ildn c258_128 rfl (wp_wk (l' := [none, none, none, none]) trivial (x_cv (As := [jI u0]) (st := []) c258_129 cl_133 kl259 rfl (Nat.le_of_ble_eq_true rfl) mx259 (Nat.le_refl _) ((((H.2.1 h13).2.2 h12).2.1 h9).2.1 h7)))))) (fun h8 => (x_ildn c258_104 rfl (x_ci c258_105 (x_cne c258_106 ((((H.2.1 h13).2.2 h12).2.1 h9).2.2 h8).1 (by decide) (fun h5 => (x_aldn c258_127 rfl (x_ildn c258_128 rfl (wp_wk (l' := [none, none, none, none]) trivial (x_cv (As := [jI u0]) (st := []) c258_129 cl_133 kl259 rfl (Nat.le_of_ble_eq_true rfl) mx259 (Nat.le_refl _) (((((H.2.1 h13).2.2 h12).2.1 h9).2.2 h8).2.1 h5)))))) (fun h6 => (x_aldn c258_109 rfl (x_cj c258_110 (x_aldn c258_113 rfl (x_gfr c258_114 k_133_40 (x_ci c258_117 (x_iald c258_118 a_149 (by decide) (by decide) (x_ildn c258_119 rfl (x_isub c258_120 (wp_wk (l' := [none, none, none, none]) trivial (x_cv (As := [jL 491596309875, jI ((M 149 0) - v2)]) (st := []) c258_121 cl_133 kl252 rfl (Nat.le_of_ble_eq_true rfl) mx252 (Nat.le_refl _) (((((H.2.1 h13).2.2 h12).2.1 h9).2.2 h8).2.2 h6))))))))))))))))))) (fun h10 => (x_aldn c258_88 rfl (x_ci c258_89 (wp_wk (l' := [none, none, some (jI v2), none]) ⟨rfl, trivial⟩ (x_cs (As := [jI 1]) (st := [jR 133]) c258_90 (by decide) rfl (Nat.le_of_ble_eq_true rfl) mx221 (Nat.le_refl _) (((H.2.1 h13).2.2 h12).2.2 h10))))))))))))) (fun h14 => (x_aldn c258_75 rfl (wp_wk (l' := [some (jR 133), some (jI v1), some (jI v2), some (jI u0)]) ⟨rfl, ⟨rfl, ⟨rfl, ⟨rfl, trivial⟩⟩⟩⟩ (x_cv (As := []) (st := []) c258_76 cl_133 kl215 rfl (Nat.le_of_ble_eq_true rfl) mx215 (Nat.le_refl _) (H.2.2 h14))))))))
theorem s258_79 {kc : List va_E} {d : Nat} {v1 v2 v3 : Int} {M : fx_M} {Q : Option fx_V → fx_M → Prop} (H : ((fx_in32 v3)) ∧ (v3 ≠ 0 → ((fx_in32 v3)) ∧ (v3 ≠ 0 → wc kc d 259 [jR 133, jI v3] M (fun v M1 => wp kc (d + 1) 258 132 [none, none, none, none] (v.toList ++ []) M1 Q)) ∧ (v3 = 0 → ((fx_in32 v1)) ∧ (v1 ≠ 2 → wc kc d 259 [jR 133, jI v3] M (fun v M1 => wp kc (d + 1) 258 132 [none, none, none, none] (v.toList ++ []) M1 Q)) ∧ (v1 = 2 → wc kc d 252 [jR 133, jL 491596309875, jI ((M 149 0) - v2)] M (fun v M1 => wp kc (d + 1) 258 124 [none, none, none, none] (v.toList ++ []) M1 Q)))) ∧ (v3 = 0 → ((fx_in32 v1)) ∧ (v1 ≠ 1 → ((fx_in32 v3)) ∧ (v3 ≠ 0 → wc kc d 259 [jR 133, jI v3] M (fun v M1 => wp kc (d + 1) 258 132 [none, none, none, none] (v.toList ++ []) M1 Q)) ∧ (v3 = 0 → ((fx_in32 v1)) ∧ (v1 ≠ 2 → wc kc d 259 [jR 133, jI v3] M (fun v M1 => wp kc (d + 1) 258 132 [none, none, none, none] (v.toList ++ []) M1 Q)) ∧ (v1 = 2 → wc kc d 252 [jR 133, jL 491596309875, jI ((M 149 0) - v2)] M (fun v M1 => wp kc (d + 1) 258 124 [none, none, none, none] (v.toList ++ []) M1 Q)))) ∧ (v1 = 1 → wc kc d 221 [jI 1] M (fun v M1 => wp kc (d + 1) 258 93 [none, none, some (jI v2), none] (v.toList ++ [jR 133]) M1 Q)))) : wp kc (d + 1) 258 79 [some (jR 133), some (jI v1), some (jI v2), some (jI v3)] [] M Q :=
  (x_ildn c258_79 rfl (x_zne c258_80 H.1 (fun h11 => (x_ildn c258_100 rfl (x_zne c258_101 (H.2.1 h11).1 (fun h3 => (x_aldn c258_127 rfl (x_ildn c258_128 rfl (wp_wk (l' := [none, none, none, none]) trivial (x_cv (As := [jI v3]) (st := []) c258_129 cl_133 kl259 rfl (Nat.le_of_ble_eq_true rfl) mx259 (Nat.le_refl _) ((H.2.1 h11).2.1 h3)))))) (fun h4 => (x_ildn c258_104 rfl (x_ci c258_105 (x_cne c258_106 ((H.2.1 h11).2.2 h4).1 (by decide) (fun h1 => (x_aldn c258_127 rfl (x_ildn c258_128 rfl (wp_wk (l' := [none, none, none, none]) trivial (x_cv (As := [jI v3]) (st := []) c258_129 cl_133 kl259 rfl (Nat.le_of_ble_eq_true rfl) mx259 (Nat.le_refl _) (((H.2.1 h11).2.2 h4).2.1 h1)))))) (fun h2 => (x_aldn c258_109 rfl (x_cj c258_110 (x_aldn c258_113 rfl (x_gfr c258_114 k_133_40 (x_ci c258_117 (x_iald c258_118 a_149 (by decide) (by decide) (x_ildn c258_119 rfl (x_isub c258_120 (wp_wk (l' := [none, none, none, none]) trivial (x_cv (As := [jL 491596309875, jI ((M 149 0) - v2)]) (st := []) c258_121 cl_133 kl252 rfl (Nat.le_of_ble_eq_true rfl) mx252 (Nat.le_refl _) (((H.2.1 h11).2.2 h4).2.2 h2))))))))))))))))))) (fun h12 => (x_ildn c258_83 rfl (x_ci c258_84 (x_cne c258_85 (H.2.2 h12).1 (by decide) (fun h9 => (x_ildn c258_100 rfl (x_zne c258_101 ((H.2.2 h12).2.1 h9).1 (fun h7 => (x_aldn c258_127 rfl (x_ildn c258_128 rfl (wp_wk (l' := [none, none, none, none]) trivial (x_cv (As := [jI v3]) (st := []) c258_129 cl_133 kl259 rfl (Nat.le_of_ble_eq_true rfl) mx259 (Nat.le_refl _) (((H.2.2 h12).2.1 h9).2.1 h7)))))) (fun h8 => (x_ildn c258_104 rfl (x_ci c258_105 (x_cne c258_106 (((H.2.2 h12).2.1 h9).2.2 h8).1 (by decide) (fun h5 => (x_aldn c258_127 rfl (x_ildn c258_128 rfl (wp_wk (l' := [none, none, none, none]) trivial (x_cv (As := [jI v3]) (st := []) c258_129 cl_133 kl259 rfl (Nat.le_of_ble_eq_true rfl) mx259 (Nat.le_refl _) ((((H.2.2 h12).2.1 h9).2.2 h8).2.1 h5)))))) (fun h6 => (x_aldn c258_109 rfl (x_cj c258_110 (x_aldn c258_113 rfl (x_gfr c258_114 k_133_40 (x_ci c258_117 (x_iald c258_118 a_149 (by decide) (by decide) (x_ildn c258_119 rfl (x_isub c258_120 (wp_wk (l' := [none, none, none, none]) trivial (x_cv (As := [jL 491596309875, jI ((M 149 0) - v2)]) (st := []) c258_121 cl_133 kl252 rfl (Nat.le_of_ble_eq_true rfl) mx252 (Nat.le_refl _) ((((H.2.2 h12).2.1 h9).2.2 h8).2.2 h6))))))))))))))))))) (fun h10 => (x_aldn c258_88 rfl (x_ci c258_89 (wp_wk (l' := [none, none, some (jI v2), none]) ⟨rfl, trivial⟩ (x_cs (As := [jI 1]) (st := [jR 133]) c258_90 (by decide) rfl (Nat.le_of_ble_eq_true rfl) mx221 (Nat.le_refl _) ((H.2.2 h12).2.2 h10))))))))))))
theorem s258_93 {kc : List va_E} {d : Nat} {v2 u0 : Int} {M : fx_M} {Q : Option fx_V → fx_M → Prop} (H : wc kc d 252 [jR 133, jL u0, jI v2] M (fun v M1 => wp kc (d + 1) 258 97 [none, none, none, none] (v.toList ++ []) M1 Q)) : wp kc (d + 1) 258 93 [none, none, some (jI v2), none] [jL u0, jR 133] M Q :=
  (x_ildn c258_93 rfl (wp_wk (l' := [none, none, none, none]) trivial (x_cv (As := [jL u0, jI v2]) (st := []) c258_94 cl_133 kl252 rfl (Nat.le_of_ble_eq_true rfl) mx252 (Nat.le_refl _) H)))
theorem s258_97 {kc : List va_E} {d : Nat} {M : fx_M} {Q : Option fx_V → fx_M → Prop} (H : Q none M) : wp kc (d + 1) 258 97 [none, none, none, none] [] M Q :=
  (x_goto c258_97 (x_vr c258_132 r258 H))
theorem s258_124 {kc : List va_E} {d : Nat} {M : fx_M} {Q : Option fx_V → fx_M → Prop} (H : Q none M) : wp kc (d + 1) 258 124 [none, none, none, none] [] M Q :=
  (x_goto c258_124 (x_vr c258_132 r258 H))
theorem s258_132 {kc : List va_E} {d : Nat} {M : fx_M} {Q : Option fx_V → fx_M → Prop} (H : Q none M) : wp kc (d + 1) 258 132 [none, none, none, none] [] M Q :=
  (x_vr c258_132 r258 H)
theorem s258 {kc : List va_E} {d : Nat} {x1 : Int} {M : fx_M} {Q : Option fx_V → fx_M → Prop} (H : ((fx_in32 x1)) ∧ (x1 ≠ 0 → ((fx_in32 x1)) ∧ (x1 ≠ 1 → ((fx_in32 x1)) ∧ (x1 ≠ 2 → wc kc d 245 [jR 133, jI 0, jI (M 133 20), jI (M 133 8)] M (fun v M1 => wp kc (d + 1) 258 70 [some (jR 133), some (jI x1), some (jI (M 149 0)), none] (v.toList ++ []) M1 Q)) ∧ (x1 = 2 → wc kc d 243 [jR 133, jI 0] M (fun v M1 => wp kc (d + 1) 258 54 [some (jR 133), some (jI x1), some (jI (M 149 0)), none] (v.toList ++ []) M1 Q))) ∧ (x1 = 1 → wc kc d 240 [jR 133, jI 0] M (fun v M1 => wp kc (d + 1) 258 41 [some (jR 133), some (jI x1), some (jI (M 149 0)), none] (v.toList ++ []) M1 Q))) ∧ (x1 = 0 → wc kc d 214 [jR 133, jI 0, jI (M 133 17), jI (M 133 18), jI (M 133 19)] M (fun v M1 => wp kc (d + 1) 258 28 [some (jR 133), some (jI x1), some (jI (M 149 0)), none] (v.toList ++ []) M1 Q))) : wc kc (d + 1) 258 [jR 133, jI x1] M Q :=
  wc_of (wp_wk (l' := [some (jR 133), some (jI x1), none, none]) ⟨rfl, ⟨rfl, trivial⟩⟩ (s258_0 H))

/- PuzzleHouseModel.sayRefusal(I)V -/
theorem c259_0 : fx_op 259 0 = some (.iload_n 1, 1, 0) := by decide +kernel
theorem c259_36 : fx_op 259 36 = some (.aload_n 0, 37, 36) := by decide +kernel
theorem c259_37 : fx_cj 259 37 = some (1936292453, 40) := by decide +kernel
theorem c259_46 : fx_op 259 46 = some (.aload_n 0, 47, 46) := by decide +kernel
theorem c259_47 : fx_cj 259 47 = some (1667591276, 50) := by decide +kernel
theorem c259_56 : fx_op 259 56 = some (.aload_n 0, 57, 56) := by decide +kernel
theorem c259_57 : fx_cj 259 57 = some (121450625394034, 60) := by decide +kernel
theorem c259_66 : fx_op 259 66 = some (.aload_n 0, 67, 66) := by decide +kernel
theorem c259_67 : fx_cj 259 67 = some (1919905645, 70) := by decide +kernel
theorem c259_76 : fx_op 259 76 = some (.aload_n 0, 77, 76) := by decide +kernel
theorem c259_77 : fx_cj 259 77 = some (126965363404652, 80) := by decide +kernel
theorem c259_86 : fx_op 259 86 = some (.aload_n 0, 87, 86) := by decide +kernel
theorem c259_40 : fx_ca 259 40 = some (260, 2, 2, 43) := by decide +kernel
theorem c259_50 : fx_ca 259 50 = some (260, 2, 2, 53) := by decide +kernel
theorem c259_60 : fx_ca 259 60 = some (260, 2, 2, 63) := by decide +kernel
theorem c259_70 : fx_ca 259 70 = some (260, 2, 2, 73) := by decide +kernel
theorem c259_80 : fx_ca 259 80 = some (260, 2, 2, 83) := by decide +kernel
theorem c259_1 : fx_ts 259 1 = some (1, [36, 46, 56, 66, 76], 86) := by decide +kernel
theorem c259_87 : fx_ca 259 87 = some (261, 1, 2, 90) := by decide +kernel
theorem c259_43 : fx_op 259 43 = some (.goto 47, 46, 90) := by decide +kernel
theorem c259_90 : fx_op 259 90 = some (.return_, 91, 90) := by decide +kernel
theorem c259_53 : fx_op 259 53 = some (.goto 37, 56, 90) := by decide +kernel
theorem c259_63 : fx_op 259 63 = some (.goto 27, 66, 90) := by decide +kernel
theorem c259_73 : fx_op 259 73 = some (.goto 17, 76, 90) := by decide +kernel
theorem c259_83 : fx_op 259 83 = some (.goto 7, 86, 90) := by decide +kernel
theorem s259_0 {kc : List va_E} {d : Nat} {x1 : Int} {M : fx_M} {Q : Option fx_V → fx_M → Prop} (H : fx_in32 x1 ∧ (x1 = 1 → wc kc d 260 [jR 133, jL 1936292453] M (fun v M1 => wp kc (d + 1) 259 43 [none, none] (v.toList ++ []) M1 Q)) ∧ (x1 = 2 → wc kc d 260 [jR 133, jL 1667591276] M (fun v M1 => wp kc (d + 1) 259 53 [none, none] (v.toList ++ []) M1 Q)) ∧ (x1 = 3 → wc kc d 260 [jR 133, jL 121450625394034] M (fun v M1 => wp kc (d + 1) 259 63 [none, none] (v.toList ++ []) M1 Q)) ∧ (x1 = 4 → wc kc d 260 [jR 133, jL 1919905645] M (fun v M1 => wp kc (d + 1) 259 73 [none, none] (v.toList ++ []) M1 Q)) ∧ (x1 = 5 → wc kc d 260 [jR 133, jL 126965363404652] M (fun v M1 => wp kc (d + 1) 259 83 [none, none] (v.toList ++ []) M1 Q)) ∧ ((x1 < 1 ∨ 6 ≤ x1) → wc kc d 261 [jR 133] M (fun v M1 => wp kc (d + 1) 259 90 [none, none] (v.toList ++ []) M1 Q))) : wp kc (d + 1) 259 0 [some (jR 133), some (jI x1)] [] M Q :=
  (x_ildn c259_0 rfl (x_sw c259_1 H.1 ⟨fun h1 => (x_aldn c259_36 rfl (x_cj c259_37 (wp_wk (l' := [none, none]) trivial (x_cv (As := [jL 1936292453]) (st := []) c259_40 cl_133 kl260 rfl (Nat.le_of_ble_eq_true rfl) mx260 (Nat.le_refl _) (H.2.1 h1))))), ⟨fun h2 => (x_aldn c259_46 rfl (x_cj c259_47 (wp_wk (l' := [none, none]) trivial (x_cv (As := [jL 1667591276]) (st := []) c259_50 cl_133 kl260 rfl (Nat.le_of_ble_eq_true rfl) mx260 (Nat.le_refl _) (H.2.2.1 h2))))), ⟨fun h3 => (x_aldn c259_56 rfl (x_cj c259_57 (wp_wk (l' := [none, none]) trivial (x_cv (As := [jL 121450625394034]) (st := []) c259_60 cl_133 kl260 rfl (Nat.le_of_ble_eq_true rfl) mx260 (Nat.le_refl _) (H.2.2.2.1 h3))))), ⟨fun h4 => (x_aldn c259_66 rfl (x_cj c259_67 (wp_wk (l' := [none, none]) trivial (x_cv (As := [jL 1919905645]) (st := []) c259_70 cl_133 kl260 rfl (Nat.le_of_ble_eq_true rfl) mx260 (Nat.le_refl _) (H.2.2.2.2.1 h4))))), ⟨fun h5 => (x_aldn c259_76 rfl (x_cj c259_77 (wp_wk (l' := [none, none]) trivial (x_cv (As := [jL 126965363404652]) (st := []) c259_80 cl_133 kl260 rfl (Nat.le_of_ble_eq_true rfl) mx260 (Nat.le_refl _) (H.2.2.2.2.2.1 h5))))), trivial⟩⟩⟩⟩⟩ (fun h6 => (x_aldn c259_86 rfl (wp_wk (l' := [none, none]) trivial (x_cv (As := []) (st := []) c259_87 cl_133 kl261 rfl (Nat.le_of_ble_eq_true rfl) mx261 (Nat.le_refl _) (H.2.2.2.2.2.2 h6)))))))
theorem s259_43 {kc : List va_E} {d : Nat} {M : fx_M} {Q : Option fx_V → fx_M → Prop} (H : Q none M) : wp kc (d + 1) 259 43 [none, none] [] M Q :=
  (x_goto c259_43 (x_vr c259_90 r259 H))
theorem s259_53 {kc : List va_E} {d : Nat} {M : fx_M} {Q : Option fx_V → fx_M → Prop} (H : Q none M) : wp kc (d + 1) 259 53 [none, none] [] M Q :=
  (x_goto c259_53 (x_vr c259_90 r259 H))
theorem s259_63 {kc : List va_E} {d : Nat} {M : fx_M} {Q : Option fx_V → fx_M → Prop} (H : Q none M) : wp kc (d + 1) 259 63 [none, none] [] M Q :=
  (x_goto c259_63 (x_vr c259_90 r259 H))
theorem s259_73 {kc : List va_E} {d : Nat} {M : fx_M} {Q : Option fx_V → fx_M → Prop} (H : Q none M) : wp kc (d + 1) 259 73 [none, none] [] M Q :=
  (x_goto c259_73 (x_vr c259_90 r259 H))
theorem s259_83 {kc : List va_E} {d : Nat} {M : fx_M} {Q : Option fx_V → fx_M → Prop} (H : Q none M) : wp kc (d + 1) 259 83 [none, none] [] M Q :=
  (x_goto c259_83 (x_vr c259_90 r259 H))
theorem s259_90 {kc : List va_E} {d : Nat} {M : fx_M} {Q : Option fx_V → fx_M → Prop} (H : Q none M) : wp kc (d + 1) 259 90 [none, none] [] M Q :=
  (x_vr c259_90 r259 H)
theorem s259 {kc : List va_E} {d : Nat} {x1 : Int} {M : fx_M} {Q : Option fx_V → fx_M → Prop} (H : fx_in32 x1 ∧ (x1 = 1 → wc kc d 260 [jR 133, jL 1936292453] M (fun v M1 => wp kc (d + 1) 259 43 [none, none] (v.toList ++ []) M1 Q)) ∧ (x1 = 2 → wc kc d 260 [jR 133, jL 1667591276] M (fun v M1 => wp kc (d + 1) 259 53 [none, none] (v.toList ++ []) M1 Q)) ∧ (x1 = 3 → wc kc d 260 [jR 133, jL 121450625394034] M (fun v M1 => wp kc (d + 1) 259 63 [none, none] (v.toList ++ []) M1 Q)) ∧ (x1 = 4 → wc kc d 260 [jR 133, jL 1919905645] M (fun v M1 => wp kc (d + 1) 259 73 [none, none] (v.toList ++ []) M1 Q)) ∧ (x1 = 5 → wc kc d 260 [jR 133, jL 126965363404652] M (fun v M1 => wp kc (d + 1) 259 83 [none, none] (v.toList ++ []) M1 Q)) ∧ ((x1 < 1 ∨ 6 ≤ x1) → wc kc d 261 [jR 133] M (fun v M1 => wp kc (d + 1) 259 90 [none, none] (v.toList ++ []) M1 Q))) : wc kc (d + 1) 259 [jR 133, jI x1] M Q :=
  wc_of (wp_wk (l' := [some (jR 133), some (jI x1)]) ⟨rfl, ⟨rfl, trivial⟩⟩ (s259_0 H))

/- PuzzleHouseModel.sayNo(J)V -/
theorem c260_0 : fx_op 260 0 = some (.aload_n 0, 1, 0) := by decide +kernel
theorem c260_1 : fx_cj 260 1 = some (28271, 4) := by decide +kernel
theorem c260_4 : fx_ca 260 4 = some (253, 2, 2, 7) := by decide +kernel
theorem c260_7 : fx_op 260 7 = some (.aload_n 0, 8, 7) := by decide +kernel
theorem c260_8 : fx_ci 260 8 = some (32, 10) := by decide +kernel
theorem c260_10 : fx_ca 260 10 = some (254, 2, 2, 13) := by decide +kernel
theorem c260_13 : fx_op 260 13 = some (.aload_n 0, 14, 13) := by decide +kernel
theorem c260_14 : fx_op 260 14 = some (.lload_n 1, 15, 14) := by decide +kernel
theorem c260_15 : fx_ca 260 15 = some (253, 2, 2, 18) := by decide +kernel
theorem c260_18 : fx_op 260 18 = some (.return_, 19, 18) := by decide +kernel
theorem s260_0 {kc : List va_E} {d : Nat} {x1 : Int} {M : fx_M} {Q : Option fx_V → fx_M → Prop} (H : wc kc d 253 [jR 133, jL 28271] M (fun v M1 => wp kc (d + 1) 260 7 [some (jR 133), some (jL x1), none] (v.toList ++ []) M1 Q)) : wp kc (d + 1) 260 0 [some (jR 133), some (jL x1), none] [] M Q :=
  (x_aldn c260_0 rfl (x_cj c260_1 (wp_wk (l' := [some (jR 133), some (jL x1), none]) ⟨rfl, ⟨rfl, trivial⟩⟩ (x_cv (As := [jL 28271]) (st := []) c260_4 cl_133 kl253 rfl (Nat.le_of_ble_eq_true rfl) mx253 (Nat.le_refl _) H))))
theorem s260_7 {kc : List va_E} {d : Nat} {v1 : Int} {M : fx_M} {Q : Option fx_V → fx_M → Prop} (H : wc kc d 254 [jR 133, jI 32] M (fun v M1 => wp kc (d + 1) 260 13 [some (jR 133), some (jL v1), none] (v.toList ++ []) M1 Q)) : wp kc (d + 1) 260 7 [some (jR 133), some (jL v1), none] [] M Q :=
  (x_aldn c260_7 rfl (x_ci c260_8 (wp_wk (l' := [some (jR 133), some (jL v1), none]) ⟨rfl, ⟨rfl, trivial⟩⟩ (x_cv (As := [jI 32]) (st := []) c260_10 cl_133 kl254 rfl (Nat.le_of_ble_eq_true rfl) mx254 (Nat.le_refl _) H))))
theorem s260_13 {kc : List va_E} {d : Nat} {v1 : Int} {M : fx_M} {Q : Option fx_V → fx_M → Prop} (H : wc kc d 253 [jR 133, jL v1] M (fun v M1 => wp kc (d + 1) 260 18 [none, none, none] (v.toList ++ []) M1 Q)) : wp kc (d + 1) 260 13 [some (jR 133), some (jL v1), none] [] M Q :=
  (x_aldn c260_13 rfl (x_lldn c260_14 rfl (wp_wk (l' := [none, none, none]) trivial (x_cv (As := [jL v1]) (st := []) c260_15 cl_133 kl253 rfl (Nat.le_of_ble_eq_true rfl) mx253 (Nat.le_refl _) H))))
theorem s260_18 {kc : List va_E} {d : Nat} {M : fx_M} {Q : Option fx_V → fx_M → Prop} (H : Q none M) : wp kc (d + 1) 260 18 [none, none, none] [] M Q :=
  (x_vr c260_18 r260 H)
theorem s260 {kc : List va_E} {d : Nat} {x1 : Int} {M : fx_M} {Q : Option fx_V → fx_M → Prop} (H : wc kc d 253 [jR 133, jL 28271] M (fun v M1 => wp kc (d + 1) 260 7 [some (jR 133), some (jL x1), none] (v.toList ++ []) M1 Q)) : wc kc (d + 1) 260 [jR 133, jL x1] M Q :=
  wc_of (wp_wk (l' := [some (jR 133), some (jL x1), none]) ⟨rfl, ⟨rfl, trivial⟩⟩ (s260_0 H))

/- PuzzleHouseModel.sayOk()V -/
theorem c261_0 : fx_op 261 0 = some (.aload_n 0, 1, 0) := by decide +kernel
theorem c261_1 : fx_cj 261 1 = some (28523, 4) := by decide +kernel
theorem c261_4 : fx_ca 261 4 = some (253, 2, 2, 7) := by decide +kernel
theorem c261_7 : fx_op 261 7 = some (.return_, 8, 7) := by decide +kernel
theorem s261_0 {kc : List va_E} {d : Nat} {M : fx_M} {Q : Option fx_V → fx_M → Prop} (H : wc kc d 253 [jR 133, jL 28523] M (fun v M1 => wp kc (d + 1) 261 7 [none] (v.toList ++ []) M1 Q)) : wp kc (d + 1) 261 0 [some (jR 133)] [] M Q :=
  (x_aldn c261_0 rfl (x_cj c261_1 (wp_wk (l' := [none]) trivial (x_cv (As := [jL 28523]) (st := []) c261_4 cl_133 kl253 rfl (Nat.le_of_ble_eq_true rfl) mx253 (Nat.le_refl _) H))))
theorem s261_7 {kc : List va_E} {d : Nat} {M : fx_M} {Q : Option fx_V → fx_M → Prop} (H : Q none M) : wp kc (d + 1) 261 7 [none] [] M Q :=
  (x_vr c261_7 r261 H)
theorem s261 {kc : List va_E} {d : Nat} {M : fx_M} {Q : Option fx_V → fx_M → Prop} (H : wc kc d 253 [jR 133, jL 28523] M (fun v M1 => wp kc (d + 1) 261 7 [none] (v.toList ++ []) M1 Q)) : wc kc (d + 1) 261 [jR 133] M Q :=
  wc_of (wp_wk (l' := [some (jR 133)]) ⟨rfl, trivial⟩ (s261_0 H))

/- PuzzleHouseModel.sayDrop()V -/
theorem c262_0 : fx_op 262 0 = some (.aload_n 0, 1, 0) := by decide +kernel
theorem c262_1 : fx_gf 262 1 = some (12, 40, 4) := by decide +kernel
theorem c262_4 : fx_ci 262 4 = some (0, 5) := by decide +kernel
theorem c262_5 : fx_op 262 5 = some (.iaload, 6, 5) := by decide +kernel
theorem c262_6 : fx_op 262 6 = some (.ifCond .ne 12, 9, 18) := by decide +kernel
theorem c262_18 : fx_op 262 18 = some (.aload_n 0, 19, 18) := by decide +kernel
theorem c262_19 : fx_gf 262 19 = some (12, 40, 22) := by decide +kernel
theorem c262_22 : fx_ci 262 22 = some (0, 23) := by decide +kernel
theorem c262_23 : fx_op 262 23 = some (.dup2, 24, 23) := by decide +kernel
theorem c262_24 : fx_op 262 24 = some (.iaload, 25, 24) := by decide +kernel
theorem c262_25 : fx_ci 262 25 = some (1, 26) := by decide +kernel
theorem c262_26 : fx_op 262 26 = some (.isub, 27, 26) := by decide +kernel
theorem c262_28 : fx_op 262 28 = some (.aload_n 0, 29, 28) := by decide +kernel
theorem c262_9 : fx_op 262 9 = some (.aload_n 0, 10, 9) := by decide +kernel
theorem c262_10 : fx_ci 262 10 = some (1, 11) := by decide +kernel
theorem c262_27 : fx_op 262 27 = some (.iastore, 28, 27) := by decide +kernel
theorem c262_29 : fx_ca 262 29 = some (215, 1, 2, 32) := by decide +kernel
theorem c262_11 : fx_ca 262 11 = some (221, 1, 0, 14) := by decide +kernel
theorem c262_32 : fx_op 262 32 = some (.aload_n 0, 33, 32) := by decide +kernel
theorem c262_33 : fx_ca 262 33 = some (261, 1, 2, 36) := by decide +kernel
theorem c262_14 : fx_ca 262 14 = some (260, 2, 2, 17) := by decide +kernel
theorem c262_36 : fx_op 262 36 = some (.return_, 37, 36) := by decide +kernel
theorem c262_17 : fx_op 262 17 = some (.return_, 18, 17) := by decide +kernel
theorem s262_0 {kc : List va_E} {d : Nat} {M : fx_M} {Q : Option fx_V → fx_M → Prop} (H : ((fx_in32 (M 149 0))) ∧ (M 149 0 ≠ 0 → wc kc d 215 [jR 133] (fx_up M 149 0 ((M 149 0) - 1)) (fun v M1 => wp kc (d + 1) 262 32 [some (jR 133)] (v.toList ++ []) M1 Q)) ∧ (M 149 0 = 0 → wc kc d 221 [jI 1] M (fun v M1 => wp kc (d + 1) 262 14 [none] (v.toList ++ [jR 133]) M1 Q))) : wp kc (d + 1) 262 0 [some (jR 133)] [] M Q :=
  (x_aldn c262_0 rfl (x_gfr c262_1 k_133_40 (x_ci c262_4 (x_iald c262_5 a_149 (by decide) (by decide) (x_zne c262_6 H.1 (fun h1 => (x_aldn c262_18 rfl (x_gfr c262_19 k_133_40 (x_ci c262_22 (x_dup2 c262_23 (x_iald c262_24 a_149 (by decide) (by decide) (x_ci c262_25 (x_isub c262_26 (x_iast c262_27 a_149 (by decide) (by decide) (x_aldn c262_28 rfl (wp_wk (l' := [some (jR 133)]) ⟨rfl, trivial⟩ (x_cv (As := []) (st := []) c262_29 cl_133 kl215 rfl (Nat.le_of_ble_eq_true rfl) mx215 (Nat.le_refl _) (H.2.1 h1))))))))))))) (fun h2 => (x_aldn c262_9 rfl (x_ci c262_10 (wp_wk (l' := [none]) trivial (x_cs (As := [jI 1]) (st := [jR 133]) c262_11 (by decide) rfl (Nat.le_of_ble_eq_true rfl) mx221 (Nat.le_refl _) (H.2.2 h2)))))))))))
theorem s262_14 {kc : List va_E} {d : Nat} {u0 : Int} {M : fx_M} {Q : Option fx_V → fx_M → Prop} (H : wc kc d 260 [jR 133, jL u0] M (fun v M1 => wp kc (d + 1) 262 17 [none] (v.toList ++ []) M1 Q)) : wp kc (d + 1) 262 14 [none] [jL u0, jR 133] M Q :=
  (wp_wk (l' := [none]) trivial (x_cv (As := [jL u0]) (st := []) c262_14 cl_133 kl260 rfl (Nat.le_of_ble_eq_true rfl) mx260 (Nat.le_refl _) H))
theorem s262_17 {kc : List va_E} {d : Nat} {M : fx_M} {Q : Option fx_V → fx_M → Prop} (H : Q none M) : wp kc (d + 1) 262 17 [none] [] M Q :=
  (x_vr c262_17 r262 H)
theorem s262_32 {kc : List va_E} {d : Nat} {M : fx_M} {Q : Option fx_V → fx_M → Prop} (H : wc kc d 261 [jR 133] M (fun v M1 => wp kc (d + 1) 262 36 [none] (v.toList ++ []) M1 Q)) : wp kc (d + 1) 262 32 [some (jR 133)] [] M Q :=
  (x_aldn c262_32 rfl (wp_wk (l' := [none]) trivial (x_cv (As := []) (st := []) c262_33 cl_133 kl261 rfl (Nat.le_of_ble_eq_true rfl) mx261 (Nat.le_refl _) H)))
theorem s262_36 {kc : List va_E} {d : Nat} {M : fx_M} {Q : Option fx_V → fx_M → Prop} (H : Q none M) : wp kc (d + 1) 262 36 [none] [] M Q :=
  (x_vr c262_36 r262 H)
theorem s262 {kc : List va_E} {d : Nat} {M : fx_M} {Q : Option fx_V → fx_M → Prop} (H : ((fx_in32 (M 149 0))) ∧ (M 149 0 ≠ 0 → wc kc d 215 [jR 133] (fx_up M 149 0 ((M 149 0) - 1)) (fun v M1 => wp kc (d + 1) 262 32 [some (jR 133)] (v.toList ++ []) M1 Q)) ∧ (M 149 0 = 0 → wc kc d 221 [jI 1] M (fun v M1 => wp kc (d + 1) 262 14 [none] (v.toList ++ [jR 133]) M1 Q))) : wc kc (d + 1) 262 [jR 133] M Q :=
  wc_of (wp_wk (l' := [some (jR 133)]) ⟨rfl, trivial⟩ (s262_0 H))

/- PuzzleHouseModel.sayLoad()V -/
theorem c263_0 : fx_op 263 0 = some (.aload_n 0, 1, 0) := by decide +kernel
theorem c263_1 : fx_ci 263 1 = some (1, 2) := by decide +kernel
theorem c263_2 : fx_ca 263 2 = some (238, 2, 2, 5) := by decide +kernel
theorem c263_5 : fx_op 263 5 = some (.pop, 6, 5) := by decide +kernel
theorem c263_6 : fx_op 263 6 = some (.aload_n 0, 7, 6) := by decide +kernel
theorem c263_7 : fx_gf 263 7 = some (12, 23, 10) := by decide +kernel
theorem c263_10 : fx_op 263 10 = some (.ifCond .ne 13, 13, 23) := by decide +kernel
theorem c263_13 : fx_op 263 13 = some (.aload_n 0, 14, 13) := by decide +kernel
theorem c263_14 : fx_ci 263 14 = some (1, 15) := by decide +kernel
theorem c263_15 : fx_ci 263 15 = some (0, 16) := by decide +kernel
theorem c263_23 : fx_op 263 23 = some (.aload_n 0, 24, 23) := by decide +kernel
theorem c263_24 : fx_op 263 24 = some (.aload_n 0, 25, 24) := by decide +kernel
theorem c263_25 : fx_gf 263 25 = some (12, 23, 28) := by decide +kernel
theorem c263_28 : fx_ca 263 28 = some (259, 2, 2, 31) := by decide +kernel
theorem c263_16 : fx_ca 263 16 = some (264, 3, 2, 19) := by decide +kernel
theorem c263_31 : fx_op 263 31 = some (.return_, 32, 31) := by decide +kernel
theorem c263_19 : fx_op 263 19 = some (.aload_n 0, 20, 19) := by decide +kernel
theorem c263_20 : fx_ca 263 20 = some (215, 1, 2, 23) := by decide +kernel
theorem s263_0 {kc : List va_E} {d : Nat} {M : fx_M} {Q : Option fx_V → fx_M → Prop} (H : wc kc d 238 [jR 133, jI 1] M (fun v M1 => wp kc (d + 1) 263 5 [some (jR 133)] (v.toList ++ []) M1 Q)) : wp kc (d + 1) 263 0 [some (jR 133)] [] M Q :=
  (x_aldn c263_0 rfl (x_ci c263_1 (wp_wk (l' := [some (jR 133)]) ⟨rfl, trivial⟩ (x_cv (As := [jI 1]) (st := []) c263_2 cl_133 kl238 rfl (Nat.le_of_ble_eq_true rfl) mx238 (Nat.le_refl _) H))))
theorem s263_5 {kc : List va_E} {d : Nat} {u0 : Int} {M : fx_M} {Q : Option fx_V → fx_M → Prop} (H : ((fx_in32 (M 133 23))) ∧ (M 133 23 ≠ 0 → wc kc d 259 [jR 133, jI (M 133 23)] M (fun v M1 => wp kc (d + 1) 263 31 [none] (v.toList ++ []) M1 Q)) ∧ (M 133 23 = 0 → wc kc d 264 [jR 133, jI 1, jI 0] M (fun v M1 => wp kc (d + 1) 263 19 [some (jR 133)] (v.toList ++ []) M1 Q))) : wp kc (d + 1) 263 5 [some (jR 133)] [jI u0] M Q :=
  (x_popi c263_5 (x_aldn c263_6 rfl (x_gfi c263_7 k_133_23 (x_zne c263_10 H.1 (fun h1 => (x_aldn c263_23 rfl (x_aldn c263_24 rfl (x_gfi c263_25 k_133_23 (wp_wk (l' := [none]) trivial (x_cv (As := [jI (M 133 23)]) (st := []) c263_28 cl_133 kl259 rfl (Nat.le_of_ble_eq_true rfl) mx259 (Nat.le_refl _) (H.2.1 h1))))))) (fun h2 => (x_aldn c263_13 rfl (x_ci c263_14 (x_ci c263_15 (wp_wk (l' := [some (jR 133)]) ⟨rfl, trivial⟩ (x_cv (As := [jI 1, jI 0]) (st := []) c263_16 cl_133 kl264 rfl (Nat.le_of_ble_eq_true rfl) mx264 (Nat.le_refl _) (H.2.2 h2)))))))))))
theorem s263_19 {kc : List va_E} {d : Nat} {M : fx_M} {Q : Option fx_V → fx_M → Prop} (H : wc kc d 215 [jR 133] M (fun v M1 => wp kc (d + 1) 263 23 [some (jR 133)] (v.toList ++ []) M1 Q)) : wp kc (d + 1) 263 19 [some (jR 133)] [] M Q :=
  (x_aldn c263_19 rfl (wp_wk (l' := [some (jR 133)]) ⟨rfl, trivial⟩ (x_cv (As := []) (st := []) c263_20 cl_133 kl215 rfl (Nat.le_of_ble_eq_true rfl) mx215 (Nat.le_refl _) H)))
theorem s263_23 {kc : List va_E} {d : Nat} {M : fx_M} {Q : Option fx_V → fx_M → Prop} (H : wc kc d 259 [jR 133, jI (M 133 23)] M (fun v M1 => wp kc (d + 1) 263 31 [none] (v.toList ++ []) M1 Q)) : wp kc (d + 1) 263 23 [some (jR 133)] [] M Q :=
  (x_aldn c263_23 rfl (x_aldn c263_24 rfl (x_gfi c263_25 k_133_23 (wp_wk (l' := [none]) trivial (x_cv (As := [jI (M 133 23)]) (st := []) c263_28 cl_133 kl259 rfl (Nat.le_of_ble_eq_true rfl) mx259 (Nat.le_refl _) H)))))
theorem s263_31 {kc : List va_E} {d : Nat} {M : fx_M} {Q : Option fx_V → fx_M → Prop} (H : Q none M) : wp kc (d + 1) 263 31 [none] [] M Q :=
  (x_vr c263_31 r263 H)
theorem s263 {kc : List va_E} {d : Nat} {M : fx_M} {Q : Option fx_V → fx_M → Prop} (H : wc kc d 238 [jR 133, jI 1] M (fun v M1 => wp kc (d + 1) 263 5 [some (jR 133)] (v.toList ++ []) M1 Q)) : wc kc (d + 1) 263 [jR 133] M Q :=
  wc_of (wp_wk (l' := [some (jR 133)]) ⟨rfl, trivial⟩ (s263_0 H))

/- PuzzleHouseModel.copy(II)V -/
theorem c264_0 : fx_op 264 0 = some (.aload_n 0, 1, 0) := by decide +kernel
theorem c264_1 : fx_gf 264 1 = some (12, 37, 4) := by decide +kernel
theorem c264_4 : fx_op 264 4 = some (.iload_n 2, 5, 4) := by decide +kernel
theorem c264_5 : fx_op 264 5 = some (.aload_n 0, 6, 5) := by decide +kernel
theorem c264_6 : fx_gf 264 6 = some (12, 37, 9) := by decide +kernel
theorem c264_9 : fx_op 264 9 = some (.iload_n 1, 10, 9) := by decide +kernel
theorem c264_12 : fx_op 264 12 = some (.aload_n 0, 13, 12) := by decide +kernel
theorem c264_13 : fx_gf 264 13 = some (12, 38, 16) := by decide +kernel
theorem c264_16 : fx_op 264 16 = some (.iload_n 2, 17, 16) := by decide +kernel
theorem c264_17 : fx_op 264 17 = some (.aload_n 0, 18, 17) := by decide +kernel
theorem c264_18 : fx_gf 264 18 = some (12, 38, 21) := by decide +kernel
theorem c264_21 : fx_op 264 21 = some (.iload_n 1, 22, 21) := by decide +kernel
theorem c264_24 : fx_op 264 24 = some (.aload_n 0, 25, 24) := by decide +kernel
theorem c264_25 : fx_gf 264 25 = some (12, 39, 28) := by decide +kernel
theorem c264_28 : fx_op 264 28 = some (.iload_n 2, 29, 28) := by decide +kernel
theorem c264_29 : fx_op 264 29 = some (.aload_n 0, 30, 29) := by decide +kernel
theorem c264_30 : fx_gf 264 30 = some (12, 39, 33) := by decide +kernel
theorem c264_33 : fx_op 264 33 = some (.iload_n 1, 34, 33) := by decide +kernel
theorem c264_36 : fx_op 264 36 = some (.aload_n 0, 37, 36) := by decide +kernel
theorem c264_37 : fx_gf 264 37 = some (12, 40, 40) := by decide +kernel
theorem c264_40 : fx_op 264 40 = some (.iload_n 2, 41, 40) := by decide +kernel
theorem c264_41 : fx_op 264 41 = some (.aload_n 0, 42, 41) := by decide +kernel
theorem c264_42 : fx_gf 264 42 = some (12, 40, 45) := by decide +kernel
theorem c264_45 : fx_op 264 45 = some (.iload_n 1, 46, 45) := by decide +kernel
theorem c264_48 : fx_ci 264 48 = some (0, 49) := by decide +kernel
theorem c264_49 : fx_op 264 49 = some (.istore_n 3, 50, 49) := by decide +kernel
theorem c264_10 : fx_op 264 10 = some (.iaload, 11, 10) := by decide +kernel
theorem c264_11 : fx_op 264 11 = some (.iastore, 12, 11) := by decide +kernel
theorem c264_22 : fx_op 264 22 = some (.iaload, 23, 22) := by decide +kernel
theorem c264_23 : fx_op 264 23 = some (.iastore, 24, 23) := by decide +kernel
theorem c264_34 : fx_op 264 34 = some (.iaload, 35, 34) := by decide +kernel
theorem c264_35 : fx_op 264 35 = some (.iastore, 36, 35) := by decide +kernel
theorem c264_46 : fx_op 264 46 = some (.iaload, 47, 46) := by decide +kernel
theorem c264_47 : fx_op 264 47 = some (.iastore, 48, 47) := by decide +kernel
theorem c264_50 : fx_op 264 50 = some (.iload_n 3, 51, 50) := by decide +kernel
theorem c264_51 : fx_ci 264 51 = some (12, 53) := by decide +kernel
theorem c264_53 : fx_op 264 53 = some (.if_icmp .ge 25, 56, 78) := by decide +kernel
theorem c264_56 : fx_op 264 56 = some (.aload_n 0, 57, 56) := by decide +kernel
theorem c264_57 : fx_ci 264 57 = some (12, 59) := by decide +kernel
theorem c264_59 : fx_op 264 59 = some (.iload_n 1, 60, 59) := by decide +kernel
theorem c264_60 : fx_op 264 60 = some (.imul, 61, 60) := by decide +kernel
theorem c264_61 : fx_op 264 61 = some (.iload_n 3, 62, 61) := by decide +kernel
theorem c264_62 : fx_op 264 62 = some (.iadd, 63, 62) := by decide +kernel
theorem c264_63 : fx_ci 264 63 = some (12, 65) := by decide +kernel
theorem c264_65 : fx_op 264 65 = some (.iload_n 2, 66, 65) := by decide +kernel
theorem c264_66 : fx_op 264 66 = some (.imul, 67, 66) := by decide +kernel
theorem c264_67 : fx_op 264 67 = some (.iload_n 3, 68, 67) := by decide +kernel
theorem c264_68 : fx_op 264 68 = some (.iadd, 69, 68) := by decide +kernel
theorem c264_78 : fx_ci 264 78 = some (0, 79) := by decide +kernel
theorem c264_79 : fx_op 264 79 = some (.istore_n 3, 80, 79) := by decide +kernel
theorem c264_69 : fx_ca 264 69 = some (265, 3, 2, 72) := by decide +kernel
theorem c264_80 : fx_op 264 80 = some (.iload_n 3, 81, 80) := by decide +kernel
theorem c264_81 : fx_ci 264 81 = some (9, 83) := by decide +kernel
theorem c264_83 : fx_op 264 83 = some (.if_icmp .ge 31, 86, 114) := by decide +kernel
theorem c264_86 : fx_op 264 86 = some (.aload_n 0, 87, 86) := by decide +kernel
theorem c264_87 : fx_gf 264 87 = some (12, 45, 90) := by decide +kernel
theorem c264_90 : fx_ci 264 90 = some (9, 92) := by decide +kernel
theorem c264_92 : fx_op 264 92 = some (.iload_n 2, 93, 92) := by decide +kernel
theorem c264_93 : fx_op 264 93 = some (.imul, 94, 93) := by decide +kernel
theorem c264_94 : fx_op 264 94 = some (.iload_n 3, 95, 94) := by decide +kernel
theorem c264_95 : fx_op 264 95 = some (.iadd, 96, 95) := by decide +kernel
theorem c264_96 : fx_op 264 96 = some (.aload_n 0, 97, 96) := by decide +kernel
theorem c264_97 : fx_gf 264 97 = some (12, 45, 100) := by decide +kernel
theorem c264_100 : fx_ci 264 100 = some (9, 102) := by decide +kernel
theorem c264_102 : fx_op 264 102 = some (.iload_n 1, 103, 102) := by decide +kernel
theorem c264_103 : fx_op 264 103 = some (.imul, 104, 103) := by decide +kernel
theorem c264_104 : fx_op 264 104 = some (.iload_n 3, 105, 104) := by decide +kernel
theorem c264_105 : fx_op 264 105 = some (.iadd, 106, 105) := by decide +kernel
theorem c264_106 : fx_op 264 106 = some (.iaload, 107, 106) := by decide +kernel
theorem c264_108 : fx_op 264 108 = some (.iinc 3 1, 111, 108) := by decide +kernel
theorem c264_114 : fx_op 264 114 = some (.return_, 115, 114) := by decide +kernel
theorem c264_107 : fx_op 264 107 = some (.iastore, 108, 107) := by decide +kernel
theorem c264_111 : fx_op 264 111 = some (.goto (-31), 114, 80) := by decide +kernel
theorem c264_72 : fx_op 264 72 = some (.iinc 3 1, 75, 72) := by decide +kernel
theorem c264_75 : fx_op 264 75 = some (.goto (-25), 78, 50) := by decide +kernel
theorem s264_0 {kc : List va_E} {d : Nat} {x1 x2 : Int} {M : fx_M} {Q : Option fx_V → fx_M → Prop} (H : (((0 : Int) ≤ x1 ∧ x1 < 10)) ∧ (((0 : Int) ≤ x2 ∧ x2 < 10)) ∧ (((0 : Int) ≤ x1 ∧ x1 < 10)) ∧ (((0 : Int) ≤ x2 ∧ x2 < 10)) ∧ (((0 : Int) ≤ x1 ∧ x1 < 10)) ∧ (((0 : Int) ≤ x2 ∧ x2 < 10)) ∧ (((0 : Int) ≤ x1 ∧ x1 < 10)) ∧ (((0 : Int) ≤ x2 ∧ x2 < 10)) ∧ wp kc (d + 1) 264 50 [some (jR 133), some (jI x1), some (jI x2), some (jI 0)] [] (fx_up (fx_up (fx_up (fx_up M 146 x2 (M 146 x1)) 147 x2 (M 147 x1)) 148 x2 (M 148 x1)) 149 x2 (M 149 x1)) Q) : wp kc (d + 1) 264 0 [some (jR 133), some (jI x1), some (jI x2), none] [] M Q :=
  (x_aldn c264_0 rfl (x_gfr c264_1 k_133_37 (x_ildn c264_4 rfl (x_aldn c264_5 rfl (x_gfr c264_6 k_133_37 (x_ildn c264_9 rfl (x_iald c264_10 a_146 H.1 (by decide) (x_iast c264_11 a_146 H.2.1 (by decide) (x_aldn c264_12 rfl (x_gfr c264_13 k_133_38 (x_ildn c264_16 rfl (x_aldn c264_17 rfl (x_gfr c264_18 k_133_38 (x_ildn c264_21 rfl (x_iald c264_22 a_147 H.2.2.1 (by decide) (wp_vI (fx_upA (by decide)) (x_iast c264_23 a_147 H.2.2.2.1 (by decide) (x_aldn c264_24 rfl (x_gfr c264_25 k_133_39 (x_ildn c264_28 rfl (x_aldn c264_29 rfl (x_gfr c264_30 k_133_39 (x_ildn c264_33 rfl (x_iald c264_34 a_148 H.2.2.2.2.1 (by decide) (wp_vI (((fx_upA (by decide)).trans (fx_upA (by decide)))) (x_iast c264_35 a_148 H.2.2.2.2.2.1 (by decide) (x_aldn c264_36 rfl (x_gfr c264_37 k_133_40 (x_ildn c264_40 rfl (x_aldn c264_41 rfl (x_gfr c264_42 k_133_40 (x_ildn c264_45 rfl (x_iald c264_46 a_149 H.2.2.2.2.2.2.1 (by decide) (wp_vI (((fx_upA (by decide)).trans ((fx_upA (by decide)).trans (fx_upA (by decide))))) (x_iast c264_47 a_149 H.2.2.2.2.2.2.2.1 (by decide) (x_ci c264_48 (x_istn (l' := [some (jR 133), some (jI x1), some (jI x2), some (jI 0)]) c264_49 rfl (wp_wk (l' := [some (jR 133), some (jI x1), some (jI x2), some (jI 0)]) ⟨rfl, ⟨rfl, ⟨rfl, ⟨rfl, trivial⟩⟩⟩⟩ H.2.2.2.2.2.2.2.2))))))))))))))))))))))))))))))))))))))
theorem s264_50 {kc : List va_E} {d : Nat} {v1 v2 v3 : Int} {M : fx_M} {Q : Option fx_V → fx_M → Prop} (H : ((fx_in32 v3)) ∧ (12 ≤ v3 → wp kc (d + 1) 264 80 [some (jR 133), some (jI v1), some (jI v2), some (jI 0)] [] M Q) ∧ (v3 < 12 → wc kc d 265 [jR 133, jI ((12 * v1) + v3), jI ((12 * v2) + v3)] M (fun v M1 => wp kc (d + 1) 264 72 [some (jR 133), some (jI v1), some (jI v2), some (jI v3)] (v.toList ++ []) M1 Q))) : wp kc (d + 1) 264 50 [some (jR 133), some (jI v1), some (jI v2), some (jI v3)] [] M Q :=
  (x_ildn c264_50 rfl (x_ci c264_51 (x_cge c264_53 H.1 (by decide) (fun h1 => (x_ci c264_78 (x_istn (l' := [some (jR 133), some (jI v1), some (jI v2), some (jI 0)]) c264_79 rfl (wp_wk (l' := [some (jR 133), some (jI v1), some (jI v2), some (jI 0)]) ⟨rfl, ⟨rfl, ⟨rfl, ⟨rfl, trivial⟩⟩⟩⟩ (H.2.1 h1))))) (fun h2 => (x_aldn c264_56 rfl (x_ci c264_57 (x_ildn c264_59 rfl (x_imul c264_60 (x_ildn c264_61 rfl (x_iadd c264_62 (x_ci c264_63 (x_ildn c264_65 rfl (x_imul c264_66 (x_ildn c264_67 rfl (x_iadd c264_68 (wp_wk (l' := [some (jR 133), some (jI v1), some (jI v2), some (jI v3)]) ⟨rfl, ⟨rfl, ⟨rfl, ⟨rfl, trivial⟩⟩⟩⟩ (x_cv (As := [jI ((12 * v1) + v3), jI ((12 * v2) + v3)]) (st := []) c264_69 cl_133 kl265 rfl (Nat.le_of_ble_eq_true rfl) mx265 (Nat.le_refl _) (H.2.2 h2))))))))))))))))))
theorem s264_72 {kc : List va_E} {d : Nat} {v1 v2 v3 : Int} {M : fx_M} {Q : Option fx_V → fx_M → Prop} (H : wp kc (d + 1) 264 50 [some (jR 133), some (jI v1), some (jI v2), some (jI (v3 + 1))] [] M Q) : wp kc (d + 1) 264 72 [some (jR 133), some (jI v1), some (jI v2), some (jI v3)] [] M Q :=
  (x_inc (l' := [some (jR 133), some (jI v1), some (jI v2), some (jI (v3 + 1))]) c264_72 rfl rfl (x_goto c264_75 (wp_wk (l' := [some (jR 133), some (jI v1), some (jI v2), some (jI (v3 + 1))]) ⟨rfl, ⟨rfl, ⟨rfl, ⟨rfl, trivial⟩⟩⟩⟩ H)))
theorem s264_80 {kc : List va_E} {d : Nat} {v1 v2 v3 : Int} {M : fx_M} {Q : Option fx_V → fx_M → Prop} (H : ((fx_in32 v3)) ∧ (9 ≤ v3 → Q none M) ∧ (v3 < 9 → (((0 : Int) ≤ (9 * v1) + v3 ∧ (9 * v1) + v3 < 90)) ∧ (((0 : Int) ≤ (9 * v2) + v3 ∧ (9 * v2) + v3 < 90)) ∧ wp kc (d + 1) 264 80 [some (jR 133), some (jI v1), some (jI v2), some (jI (v3 + 1))] [] (fx_up M 154 ((9 * v2) + v3) (M 154 ((9 * v1) + v3))) Q)) : wp kc (d + 1) 264 80 [some (jR 133), some (jI v1), some (jI v2), some (jI v3)] [] M Q :=
  (x_ildn c264_80 rfl (x_ci c264_81 (x_cge c264_83 H.1 (by decide) (fun h1 => (x_vr c264_114 r264 (H.2.1 h1))) (fun h2 => (x_aldn c264_86 rfl (x_gfr c264_87 k_133_45 (x_ci c264_90 (x_ildn c264_92 rfl (x_imul c264_93 (x_ildn c264_94 rfl (x_iadd c264_95 (x_aldn c264_96 rfl (x_gfr c264_97 k_133_45 (x_ci c264_100 (x_ildn c264_102 rfl (x_imul c264_103 (x_ildn c264_104 rfl (x_iadd c264_105 (x_iald c264_106 a_154 (H.2.2 h2).1 (by decide) (x_iast c264_107 a_154 (H.2.2 h2).2.1 (by decide) (x_inc (l' := [some (jR 133), some (jI v1), some (jI v2), some (jI (v3 + 1))]) c264_108 rfl rfl (x_goto c264_111 (wp_wk (l' := [some (jR 133), some (jI v1), some (jI v2), some (jI (v3 + 1))]) ⟨rfl, ⟨rfl, ⟨rfl, ⟨rfl, trivial⟩⟩⟩⟩ (H.2.2 h2).2.2)))))))))))))))))))))))
theorem s264 {kc : List va_E} {d : Nat} {x1 x2 : Int} {M : fx_M} {Q : Option fx_V → fx_M → Prop} (H : (((0 : Int) ≤ x1 ∧ x1 < 10)) ∧ (((0 : Int) ≤ x2 ∧ x2 < 10)) ∧ (((0 : Int) ≤ x1 ∧ x1 < 10)) ∧ (((0 : Int) ≤ x2 ∧ x2 < 10)) ∧ (((0 : Int) ≤ x1 ∧ x1 < 10)) ∧ (((0 : Int) ≤ x2 ∧ x2 < 10)) ∧ (((0 : Int) ≤ x1 ∧ x1 < 10)) ∧ (((0 : Int) ≤ x2 ∧ x2 < 10)) ∧ wp kc (d + 1) 264 50 [some (jR 133), some (jI x1), some (jI x2), some (jI 0)] [] (fx_up (fx_up (fx_up (fx_up M 146 x2 (M 146 x1)) 147 x2 (M 147 x1)) 148 x2 (M 148 x1)) 149 x2 (M 149 x1)) Q) : wc kc (d + 1) 264 [jR 133, jI x1, jI x2] M Q :=
  wc_of (wp_wk (l' := [some (jR 133), some (jI x1), some (jI x2), none]) ⟨rfl, ⟨rfl, ⟨rfl, trivial⟩⟩⟩ (s264_0 H))

/- PuzzleHouseModel.copyRule(II)V -/
theorem c265_0 : fx_op 265 0 = some (.aload_n 0, 1, 0) := by decide +kernel
theorem c265_1 : fx_gf 265 1 = some (12, 41, 4) := by decide +kernel
theorem c265_4 : fx_op 265 4 = some (.iload_n 2, 5, 4) := by decide +kernel
theorem c265_5 : fx_op 265 5 = some (.aload_n 0, 6, 5) := by decide +kernel
theorem c265_6 : fx_gf 265 6 = some (12, 41, 9) := by decide +kernel
theorem c265_9 : fx_op 265 9 = some (.iload_n 1, 10, 9) := by decide +kernel
theorem c265_12 : fx_op 265 12 = some (.aload_n 0, 13, 12) := by decide +kernel
theorem c265_13 : fx_gf 265 13 = some (12, 42, 16) := by decide +kernel
theorem c265_16 : fx_op 265 16 = some (.iload_n 2, 17, 16) := by decide +kernel
theorem c265_17 : fx_op 265 17 = some (.aload_n 0, 18, 17) := by decide +kernel
theorem c265_18 : fx_gf 265 18 = some (12, 42, 21) := by decide +kernel
theorem c265_21 : fx_op 265 21 = some (.iload_n 1, 22, 21) := by decide +kernel
theorem c265_24 : fx_op 265 24 = some (.aload_n 0, 25, 24) := by decide +kernel
theorem c265_25 : fx_gf 265 25 = some (12, 43, 28) := by decide +kernel
theorem c265_28 : fx_op 265 28 = some (.iload_n 2, 29, 28) := by decide +kernel
theorem c265_29 : fx_op 265 29 = some (.aload_n 0, 30, 29) := by decide +kernel
theorem c265_30 : fx_gf 265 30 = some (12, 43, 33) := by decide +kernel
theorem c265_33 : fx_op 265 33 = some (.iload_n 1, 34, 33) := by decide +kernel
theorem c265_36 : fx_ci 265 36 = some (0, 37) := by decide +kernel
theorem c265_37 : fx_op 265 37 = some (.istore_n 3, 38, 37) := by decide +kernel
theorem c265_10 : fx_op 265 10 = some (.iaload, 11, 10) := by decide +kernel
theorem c265_11 : fx_op 265 11 = some (.iastore, 12, 11) := by decide +kernel
theorem c265_22 : fx_op 265 22 = some (.iaload, 23, 22) := by decide +kernel
theorem c265_23 : fx_op 265 23 = some (.iastore, 24, 23) := by decide +kernel
theorem c265_34 : fx_op 265 34 = some (.iaload, 35, 34) := by decide +kernel
theorem c265_35 : fx_op 265 35 = some (.iastore, 36, 35) := by decide +kernel
theorem c265_38 : fx_op 265 38 = some (.iload_n 3, 39, 38) := by decide +kernel
theorem c265_39 : fx_ci 265 39 = some (4, 40) := by decide +kernel
theorem c265_40 : fx_op 265 40 = some (.if_icmp .ge 29, 43, 69) := by decide +kernel
theorem c265_43 : fx_op 265 43 = some (.aload_n 0, 44, 43) := by decide +kernel
theorem c265_44 : fx_gf 265 44 = some (12, 44, 47) := by decide +kernel
theorem c265_47 : fx_ci 265 47 = some (4, 48) := by decide +kernel
theorem c265_48 : fx_op 265 48 = some (.iload_n 2, 49, 48) := by decide +kernel
theorem c265_49 : fx_op 265 49 = some (.imul, 50, 49) := by decide +kernel
theorem c265_50 : fx_op 265 50 = some (.iload_n 3, 51, 50) := by decide +kernel
theorem c265_51 : fx_op 265 51 = some (.iadd, 52, 51) := by decide +kernel
theorem c265_52 : fx_op 265 52 = some (.aload_n 0, 53, 52) := by decide +kernel
theorem c265_53 : fx_gf 265 53 = some (12, 44, 56) := by decide +kernel
theorem c265_56 : fx_ci 265 56 = some (4, 57) := by decide +kernel
theorem c265_57 : fx_op 265 57 = some (.iload_n 1, 58, 57) := by decide +kernel
theorem c265_58 : fx_op 265 58 = some (.imul, 59, 58) := by decide +kernel
theorem c265_59 : fx_op 265 59 = some (.iload_n 3, 60, 59) := by decide +kernel
theorem c265_60 : fx_op 265 60 = some (.iadd, 61, 60) := by decide +kernel
theorem c265_61 : fx_op 265 61 = some (.iaload, 62, 61) := by decide +kernel
theorem c265_63 : fx_op 265 63 = some (.iinc 3 1, 66, 63) := by decide +kernel
theorem c265_69 : fx_op 265 69 = some (.return_, 70, 69) := by decide +kernel
theorem c265_62 : fx_op 265 62 = some (.iastore, 63, 62) := by decide +kernel
theorem c265_66 : fx_op 265 66 = some (.goto (-28), 69, 38) := by decide +kernel
theorem s265_0 {kc : List va_E} {d : Nat} {x1 x2 : Int} {M : fx_M} {Q : Option fx_V → fx_M → Prop} (H : (((0 : Int) ≤ x1 ∧ x1 < 120)) ∧ (((0 : Int) ≤ x2 ∧ x2 < 120)) ∧ (((0 : Int) ≤ x1 ∧ x1 < 120)) ∧ (((0 : Int) ≤ x2 ∧ x2 < 120)) ∧ (((0 : Int) ≤ x1 ∧ x1 < 120)) ∧ (((0 : Int) ≤ x2 ∧ x2 < 120)) ∧ wp kc (d + 1) 265 38 [some (jR 133), some (jI x1), some (jI x2), some (jI 0)] [] (fx_up (fx_up (fx_up M 150 x2 (M 150 x1)) 151 x2 (M 151 x1)) 152 x2 (M 152 x1)) Q) : wp kc (d + 1) 265 0 [some (jR 133), some (jI x1), some (jI x2), none] [] M Q :=
  (x_aldn c265_0 rfl (x_gfr c265_1 k_133_41 (x_ildn c265_4 rfl (x_aldn c265_5 rfl (x_gfr c265_6 k_133_41 (x_ildn c265_9 rfl (x_iald c265_10 a_150 H.1 (by decide) (x_iast c265_11 a_150 H.2.1 (by decide) (x_aldn c265_12 rfl (x_gfr c265_13 k_133_42 (x_ildn c265_16 rfl (x_aldn c265_17 rfl (x_gfr c265_18 k_133_42 (x_ildn c265_21 rfl (x_iald c265_22 a_151 H.2.2.1 (by decide) (wp_vI (fx_upA (by decide)) (x_iast c265_23 a_151 H.2.2.2.1 (by decide) (x_aldn c265_24 rfl (x_gfr c265_25 k_133_43 (x_ildn c265_28 rfl (x_aldn c265_29 rfl (x_gfr c265_30 k_133_43 (x_ildn c265_33 rfl (x_iald c265_34 a_152 H.2.2.2.2.1 (by decide) (wp_vI (((fx_upA (by decide)).trans (fx_upA (by decide)))) (x_iast c265_35 a_152 H.2.2.2.2.2.1 (by decide) (x_ci c265_36 (x_istn (l' := [some (jR 133), some (jI x1), some (jI x2), some (jI 0)]) c265_37 rfl (wp_wk (l' := [some (jR 133), some (jI x1), some (jI x2), some (jI 0)]) ⟨rfl, ⟨rfl, ⟨rfl, ⟨rfl, trivial⟩⟩⟩⟩ H.2.2.2.2.2.2)))))))))))))))))))))))))))))
theorem s265_38 {kc : List va_E} {d : Nat} {v1 v2 v3 : Int} {M : fx_M} {Q : Option fx_V → fx_M → Prop} (H : ((fx_in32 v3)) ∧ (4 ≤ v3 → Q none M) ∧ (v3 < 4 → (((0 : Int) ≤ (4 * v1) + v3 ∧ (4 * v1) + v3 < 480)) ∧ (((0 : Int) ≤ (4 * v2) + v3 ∧ (4 * v2) + v3 < 480)) ∧ wp kc (d + 1) 265 38 [some (jR 133), some (jI v1), some (jI v2), some (jI (v3 + 1))] [] (fx_up M 153 ((4 * v2) + v3) (M 153 ((4 * v1) + v3))) Q)) : wp kc (d + 1) 265 38 [some (jR 133), some (jI v1), some (jI v2), some (jI v3)] [] M Q :=
  (x_ildn c265_38 rfl (x_ci c265_39 (x_cge c265_40 H.1 (by decide) (fun h1 => (x_vr c265_69 r265 (H.2.1 h1))) (fun h2 => (x_aldn c265_43 rfl (x_gfr c265_44 k_133_44 (x_ci c265_47 (x_ildn c265_48 rfl (x_imul c265_49 (x_ildn c265_50 rfl (x_iadd c265_51 (x_aldn c265_52 rfl (x_gfr c265_53 k_133_44 (x_ci c265_56 (x_ildn c265_57 rfl (x_imul c265_58 (x_ildn c265_59 rfl (x_iadd c265_60 (x_iald c265_61 a_153 (H.2.2 h2).1 (by decide) (x_iast c265_62 a_153 (H.2.2 h2).2.1 (by decide) (x_inc (l' := [some (jR 133), some (jI v1), some (jI v2), some (jI (v3 + 1))]) c265_63 rfl rfl (x_goto c265_66 (wp_wk (l' := [some (jR 133), some (jI v1), some (jI v2), some (jI (v3 + 1))]) ⟨rfl, ⟨rfl, ⟨rfl, ⟨rfl, trivial⟩⟩⟩⟩ (H.2.2 h2).2.2)))))))))))))))))))))))
theorem s265 {kc : List va_E} {d : Nat} {x1 x2 : Int} {M : fx_M} {Q : Option fx_V → fx_M → Prop} (H : (((0 : Int) ≤ x1 ∧ x1 < 120)) ∧ (((0 : Int) ≤ x2 ∧ x2 < 120)) ∧ (((0 : Int) ≤ x1 ∧ x1 < 120)) ∧ (((0 : Int) ≤ x2 ∧ x2 < 120)) ∧ (((0 : Int) ≤ x1 ∧ x1 < 120)) ∧ (((0 : Int) ≤ x2 ∧ x2 < 120)) ∧ wp kc (d + 1) 265 38 [some (jR 133), some (jI x1), some (jI x2), some (jI 0)] [] (fx_up (fx_up (fx_up M 150 x2 (M 150 x1)) 151 x2 (M 151 x1)) 152 x2 (M 152 x1)) Q) : wc kc (d + 1) 265 [jR 133, jI x1, jI x2] M Q :=
  wc_of (wp_wk (l' := [some (jR 133), some (jI x1), some (jI x2), none]) ⟨rfl, ⟨rfl, ⟨rfl, trivial⟩⟩⟩ (s265_0 H))

/- PuzzleHouseModel.sayMade(I)V -/
theorem c266_0 : fx_op 266 0 = some (.iload_n 1, 1, 0) := by decide +kernel
theorem c266_1 : fx_ci 266 1 = some (18, 3) := by decide +kernel
theorem c266_3 : fx_op 266 3 = some (.if_icmp .ne 10, 6, 13) := by decide +kernel
theorem c266_13 : fx_op 266 13 = some (.iload_n 1, 14, 13) := by decide +kernel
theorem c266_14 : fx_ci 266 14 = some (19, 16) := by decide +kernel
theorem c266_16 : fx_op 266 16 = some (.if_icmp .ne 18, 19, 34) := by decide +kernel
theorem c266_34 : fx_op 266 34 = some (.aload_n 0, 35, 34) := by decide +kernel
theorem c266_35 : fx_op 266 35 = some (.aload_n 0, 36, 35) := by decide +kernel
theorem c266_36 : fx_gf 266 36 = some (12, 8, 39) := by decide +kernel
theorem c266_19 : fx_op 266 19 = some (.aload_n 0, 20, 19) := by decide +kernel
theorem c266_20 : fx_op 266 20 = some (.aload_n 0, 21, 20) := by decide +kernel
theorem c266_21 : fx_gf 266 21 = some (12, 20, 24) := by decide +kernel
theorem c266_24 : fx_op 266 24 = some (.aload_n 0, 25, 24) := by decide +kernel
theorem c266_25 : fx_gf 266 25 = some (12, 8, 28) := by decide +kernel
theorem c266_6 : fx_op 266 6 = some (.aload_n 0, 7, 6) := by decide +kernel
theorem c266_39 : fx_ca 266 39 = some (286, 2, 2, 42) := by decide +kernel
theorem c266_28 : fx_ca 266 28 = some (281, 3, 2, 31) := by decide +kernel
theorem c266_7 : fx_ca 266 7 = some (267, 1, 2, 10) := by decide +kernel
theorem c266_42 : fx_op 266 42 = some (.return_, 43, 42) := by decide +kernel
theorem c266_31 : fx_op 266 31 = some (.goto 11, 34, 42) := by decide +kernel
theorem c266_10 : fx_op 266 10 = some (.goto 32, 13, 42) := by decide +kernel
theorem s266_0 {kc : List va_E} {d : Nat} {x1 : Int} {M : fx_M} {Q : Option fx_V → fx_M → Prop} (H : ((fx_in32 x1)) ∧ (x1 ≠ 18 → ((fx_in32 x1)) ∧ (x1 ≠ 19 → wc kc d 286 [jR 133, jI (M 133 8)] M (fun v M1 => wp kc (d + 1) 266 42 [none, none] (v.toList ++ []) M1 Q)) ∧ (x1 = 19 → wc kc d 281 [jR 133, jI (M 133 20), jI (M 133 8)] M (fun v M1 => wp kc (d + 1) 266 31 [none, none] (v.toList ++ []) M1 Q))) ∧ (x1 = 18 → wc kc d 267 [jR 133] M (fun v M1 => wp kc (d + 1) 266 10 [none, none] (v.toList ++ []) M1 Q))) : wp kc (d + 1) 266 0 [some (jR 133), some (jI x1)] [] M Q :=
  (x_ildn c266_0 rfl (x_ci c266_1 (x_cne c266_3 H.1 (by decide) (fun h3 => (x_ildn c266_13 rfl (x_ci c266_14 (x_cne c266_16 (H.2.1 h3).1 (by decide) (fun h1 => (x_aldn c266_34 rfl (x_aldn c266_35 rfl (x_gfi c266_36 k_133_8 (wp_wk (l' := [none, none]) trivial (x_cv (As := [jI (M 133 8)]) (st := []) c266_39 cl_133 kl286 rfl (Nat.le_of_ble_eq_true rfl) mx286 (Nat.le_refl _) ((H.2.1 h3).2.1 h1))))))) (fun h2 => (x_aldn c266_19 rfl (x_aldn c266_20 rfl (x_gfi c266_21 k_133_20 (x_aldn c266_24 rfl (x_gfi c266_25 k_133_8 (wp_wk (l' := [none, none]) trivial (x_cv (As := [jI (M 133 20), jI (M 133 8)]) (st := []) c266_28 cl_133 kl281 rfl (Nat.le_of_ble_eq_true rfl) mx281 (Nat.le_refl _) ((H.2.1 h3).2.2 h2))))))))))))) (fun h4 => (x_aldn c266_6 rfl (wp_wk (l' := [none, none]) trivial (x_cv (As := []) (st := []) c266_7 cl_133 kl267 rfl (Nat.le_of_ble_eq_true rfl) mx267 (Nat.le_refl _) (H.2.2 h4))))))))
theorem s266_10 {kc : List va_E} {d : Nat} {M : fx_M} {Q : Option fx_V → fx_M → Prop} (H : Q none M) : wp kc (d + 1) 266 10 [none, none] [] M Q :=
  (x_goto c266_10 (x_vr c266_42 r266 H))
theorem s266_31 {kc : List va_E} {d : Nat} {M : fx_M} {Q : Option fx_V → fx_M → Prop} (H : Q none M) : wp kc (d + 1) 266 31 [none, none] [] M Q :=
  (x_goto c266_31 (x_vr c266_42 r266 H))
theorem s266_42 {kc : List va_E} {d : Nat} {M : fx_M} {Q : Option fx_V → fx_M → Prop} (H : Q none M) : wp kc (d + 1) 266 42 [none, none] [] M Q :=
  (x_vr c266_42 r266 H)
theorem s266 {kc : List va_E} {d : Nat} {x1 : Int} {M : fx_M} {Q : Option fx_V → fx_M → Prop} (H : ((fx_in32 x1)) ∧ (x1 ≠ 18 → ((fx_in32 x1)) ∧ (x1 ≠ 19 → wc kc d 286 [jR 133, jI (M 133 8)] M (fun v M1 => wp kc (d + 1) 266 42 [none, none] (v.toList ++ []) M1 Q)) ∧ (x1 = 19 → wc kc d 281 [jR 133, jI (M 133 20), jI (M 133 8)] M (fun v M1 => wp kc (d + 1) 266 31 [none, none] (v.toList ++ []) M1 Q))) ∧ (x1 = 18 → wc kc d 267 [jR 133] M (fun v M1 => wp kc (d + 1) 266 10 [none, none] (v.toList ++ []) M1 Q))) : wc kc (d + 1) 266 [jR 133, jI x1] M Q :=
  wc_of (wp_wk (l' := [some (jR 133), some (jI x1)]) ⟨rfl, ⟨rfl, trivial⟩⟩ (s266_0 H))

/- PuzzleHouseModel.sayLeast()V -/
theorem c267_0 : fx_op 267 0 = some (.aload_n 0, 1, 0) := by decide +kernel
theorem c267_1 : fx_ci 267 1 = some (2, 2) := by decide +kernel
theorem c267_2 : fx_ca 267 2 = some (268, 2, 2, 5) := by decide +kernel
theorem c267_5 : fx_ci 267 5 = some (1, 6) := by decide +kernel
theorem c267_6 : fx_op 267 6 = some (.if_icmp .eq 8, 9, 14) := by decide +kernel
theorem c267_14 : fx_ci 267 14 = some (0, 15) := by decide +kernel
theorem c267_15 : fx_op 267 15 = some (.istore_n 1, 16, 15) := by decide +kernel
theorem c267_9 : fx_op 267 9 = some (.aload_n 0, 10, 9) := by decide +kernel
theorem c267_10 : fx_ca 267 10 = some (279, 1, 2, 13) := by decide +kernel
theorem c267_16 : fx_op 267 16 = some (.iload_n 1, 17, 16) := by decide +kernel
theorem c267_17 : fx_op 267 17 = some (.aload_n 0, 18, 17) := by decide +kernel
theorem c267_18 : fx_ca 267 18 = some (248, 1, 2, 21) := by decide +kernel
theorem c267_13 : fx_op 267 13 = some (.return_, 14, 13) := by decide +kernel
theorem c267_21 : fx_op 267 21 = some (.if_icmp .ge 45, 24, 66) := by decide +kernel
theorem c267_24 : fx_op 267 24 = some (.aload_n 0, 25, 24) := by decide +kernel
theorem c267_25 : fx_op 267 25 = some (.iload_n 1, 26, 25) := by decide +kernel
theorem c267_66 : fx_op 267 66 = some (.aload_n 0, 67, 66) := by decide +kernel
theorem c267_67 : fx_ca 267 67 = some (215, 1, 2, 70) := by decide +kernel
theorem c267_26 : fx_ca 267 26 = some (271, 2, 2, 29) := by decide +kernel
theorem c267_70 : fx_op 267 70 = some (.aload_n 0, 71, 70) := by decide +kernel
theorem c267_71 : fx_ci 267 71 = some (18, 73) := by decide +kernel
theorem c267_73 : fx_ca 267 73 = some (221, 1, 0, 76) := by decide +kernel
theorem c267_29 : fx_op 267 29 = some (.istore_n 2, 30, 29) := by decide +kernel
theorem c267_30 : fx_op 267 30 = some (.iload_n 2, 31, 30) := by decide +kernel
theorem c267_31 : fx_op 267 31 = some (.ifCond .ge 6, 34, 37) := by decide +kernel
theorem c267_37 : fx_op 267 37 = some (.aload_n 0, 38, 37) := by decide +kernel
theorem c267_38 : fx_gf 267 38 = some (12, 45, 41) := by decide +kernel
theorem c267_41 : fx_op 267 41 = some (.iload_n 1, 42, 41) := by decide +kernel
theorem c267_42 : fx_ci 267 42 = some ((-1), 43) := by decide +kernel
theorem c267_44 : fx_op 267 44 = some (.aload_n 0, 45, 44) := by decide +kernel
theorem c267_45 : fx_ci 267 45 = some (2, 46) := by decide +kernel
theorem c267_60 : fx_op 267 60 = some (.iinc 1 1, 63, 60) := by decide +kernel
theorem c267_43 : fx_op 267 43 = some (.iastore, 44, 43) := by decide +kernel
theorem c267_46 : fx_ca 267 46 = some (268, 2, 2, 49) := by decide +kernel
theorem c267_34 : fx_op 267 34 = some (.goto 26, 37, 60) := by decide +kernel
theorem c267_63 : fx_op 267 63 = some (.goto (-47), 66, 16) := by decide +kernel
theorem c267_76 : fx_op 267 76 = some (.aload_n 0, 77, 76) := by decide +kernel
theorem c267_77 : fx_ca 267 77 = some (280, 1, 2, 80) := by decide +kernel
theorem c267_49 : fx_ci 267 49 = some (1, 50) := by decide +kernel
theorem c267_50 : fx_op 267 50 = some (.if_icmp .eq 10, 53, 60) := by decide +kernel
theorem c267_53 : fx_op 267 53 = some (.aload_n 0, 54, 53) := by decide +kernel
theorem c267_54 : fx_gf 267 54 = some (12, 45, 57) := by decide +kernel
theorem c267_57 : fx_op 267 57 = some (.iload_n 1, 58, 57) := by decide +kernel
theorem c267_58 : fx_op 267 58 = some (.iload_n 2, 59, 58) := by decide +kernel
theorem c267_59 : fx_op 267 59 = some (.iastore, 60, 59) := by decide +kernel
theorem c267_80 : fx_ca 267 80 = some (252, 3, 2, 83) := by decide +kernel
theorem c267_83 : fx_op 267 83 = some (.return_, 84, 83) := by decide +kernel
theorem s267_0 {kc : List va_E} {d : Nat} {M : fx_M} {Q : Option fx_V → fx_M → Prop} (H : wc kc d 268 [jR 133, jI 2] M (fun v M1 => wp kc (d + 1) 267 5 [some (jR 133), none, none] (v.toList ++ []) M1 Q)) : wp kc (d + 1) 267 0 [some (jR 133), none, none] [] M Q :=
  (x_aldn c267_0 rfl (x_ci c267_1 (wp_wk (l' := [some (jR 133), none, none]) ⟨rfl, trivial⟩ (x_cv (As := [jI 2]) (st := []) c267_2 cl_133 kl268 rfl (Nat.le_of_ble_eq_true rfl) mx268 (Nat.le_refl _) H))))
theorem s267_5 {kc : List va_E} {d : Nat} {u0 : Int} {M : fx_M} {Q : Option fx_V → fx_M → Prop} (H : ((fx_in32 u0)) ∧ (u0 = 1 → wp kc (d + 1) 267 16 [some (jR 133), some (jI 0), none] [] M Q) ∧ (u0 ≠ 1 → wc kc d 279 [jR 133] M (fun v M1 => wp kc (d + 1) 267 13 [none, none, none] (v.toList ++ []) M1 Q))) : wp kc (d + 1) 267 5 [some (jR 133), none, none] [jI u0] M Q :=
  (x_ci c267_5 (x_ceq c267_6 H.1 (by decide) (fun h1 => (x_ci c267_14 (x_istn (l' := [some (jR 133), some (jI 0), none]) c267_15 rfl (wp_wk (l' := [some (jR 133), some (jI 0), none]) ⟨rfl, ⟨rfl, trivial⟩⟩ (H.2.1 h1))))) (fun h2 => (x_aldn c267_9 rfl (wp_wk (l' := [none, none, none]) trivial (x_cv (As := []) (st := []) c267_10 cl_133 kl279 rfl (Nat.le_of_ble_eq_true rfl) mx279 (Nat.le_refl _) (H.2.2 h2)))))))
theorem s267_13 {kc : List va_E} {d : Nat} {M : fx_M} {Q : Option fx_V → fx_M → Prop} (H : Q none M) : wp kc (d + 1) 267 13 [none, none, none] [] M Q :=
  (x_vr c267_13 r267 H)
theorem s267_16 {kc : List va_E} {d : Nat} {v1 : Int} {M : fx_M} {Q : Option fx_V → fx_M → Prop} (H : wc kc d 248 [jR 133] M (fun v M1 => wp kc (d + 1) 267 21 [some (jR 133), some (jI v1), none] (v.toList ++ [jI v1]) M1 Q)) : wp kc (d + 1) 267 16 [some (jR 133), some (jI v1), none] [] M Q :=
  (x_ildn c267_16 rfl (x_aldn c267_17 rfl (wp_wk (l' := [some (jR 133), some (jI v1), none]) ⟨rfl, ⟨rfl, trivial⟩⟩ (x_cv (As := []) (st := [jI v1]) c267_18 cl_133 kl248 rfl (Nat.le_of_ble_eq_true rfl) mx248 (Nat.le_refl _) H))))
theorem s267_21 {kc : List va_E} {d : Nat} {v1 u0 u1 : Int} {M : fx_M} {Q : Option fx_V → fx_M → Prop} (H : ((fx_in32 u1) ∧ (fx_in32 u0)) ∧ (u0 ≤ u1 → wc kc d 215 [jR 133] M (fun v M1 => wp kc (d + 1) 267 70 [some (jR 133), none, none] (v.toList ++ []) M1 Q)) ∧ (u1 < u0 → wc kc d 271 [jR 133, jI v1] M (fun v M1 => wp kc (d + 1) 267 29 [some (jR 133), some (jI v1), none] (v.toList ++ []) M1 Q))) : wp kc (d + 1) 267 21 [some (jR 133), some (jI v1), none] [jI u0, jI u1] M Q :=
  (x_cge c267_21 H.1.1 H.1.2 (fun h1 => (x_aldn c267_66 rfl (wp_wk (l' := [some (jR 133), none, none]) ⟨rfl, trivial⟩ (x_cv (As := []) (st := []) c267_67 cl_133 kl215 rfl (Nat.le_of_ble_eq_true rfl) mx215 (Nat.le_refl _) (H.2.1 h1))))) (fun h2 => (x_aldn c267_24 rfl (x_ildn c267_25 rfl (wp_wk (l' := [some (jR 133), some (jI v1), none]) ⟨rfl, ⟨rfl, trivial⟩⟩ (x_cv (As := [jI v1]) (st := []) c267_26 cl_133 kl271 rfl (Nat.le_of_ble_eq_true rfl) mx271 (Nat.le_refl _) (H.2.2 h2)))))))
theorem s267_29 {kc : List va_E} {d : Nat} {v1 u0 : Int} {M : fx_M} {Q : Option fx_V → fx_M → Prop} (H : ((fx_in32 u0)) ∧ (0 ≤ u0 → (((0 : Int) ≤ v1 ∧ v1 < 90)) ∧ wc kc d 268 [jR 133, jI 2] (fx_up M 154 v1 (-1)) (fun v M1 => wp kc (d + 1) 267 49 [some (jR 133), some (jI v1), some (jI u0)] (v.toList ++ []) M1 Q)) ∧ (u0 < 0 → wp kc (d + 1) 267 16 [some (jR 133), some (jI (v1 + 1)), none] [] M Q)) : wp kc (d + 1) 267 29 [some (jR 133), some (jI v1), none] [jI u0] M Q :=
  (x_istn (l' := [some (jR 133), some (jI v1), some (jI u0)]) c267_29 rfl (x_ildn c267_30 rfl (x_zge c267_31 H.1 (fun h1 => (x_aldn c267_37 rfl (x_gfr c267_38 k_133_45 (x_ildn c267_41 rfl (x_ci c267_42 (x_iast c267_43 a_154 (H.2.1 h1).1 (by decide) (x_aldn c267_44 rfl (x_ci c267_45 (wp_wk (l' := [some (jR 133), some (jI v1), some (jI u0)]) ⟨rfl, ⟨rfl, ⟨rfl, trivial⟩⟩⟩ (x_cv (As := [jI 2]) (st := []) c267_46 cl_133 kl268 rfl (Nat.le_of_ble_eq_true rfl) mx268 (Nat.le_refl _) (H.2.1 h1).2)))))))))) (fun h2 => (x_goto c267_34 (x_inc (l' := [some (jR 133), some (jI (v1 + 1)), some (jI u0)]) c267_60 rfl rfl (x_goto c267_63 (wp_wk (l' := [some (jR 133), some (jI (v1 + 1)), none]) ⟨rfl, ⟨rfl, trivial⟩⟩ (H.2.2 h2)))))))))
theorem s267_49 {kc : List va_E} {d : Nat} {v1 v2 u0 : Int} {M : fx_M} {Q : Option fx_V → fx_M → Prop} (H : ((fx_in32 u0)) ∧ (u0 = 1 → wp kc (d + 1) 267 16 [some (jR 133), some (jI (v1 + 1)), none] [] M Q) ∧ (u0 ≠ 1 → (((0 : Int) ≤ v1 ∧ v1 < 90)) ∧ wp kc (d + 1) 267 16 [some (jR 133), some (jI (v1 + 1)), none] [] (fx_up M 154 v1 v2) Q)) : wp kc (d + 1) 267 49 [some (jR 133), some (jI v1), some (jI v2)] [jI u0] M Q :=
  (x_ci c267_49 (x_ceq c267_50 H.1 (by decide) (fun h1 => (x_inc (l' := [some (jR 133), some (jI (v1 + 1)), some (jI v2)]) c267_60 rfl rfl (x_goto c267_63 (wp_wk (l' := [some (jR 133), some (jI (v1 + 1)), none]) ⟨rfl, ⟨rfl, trivial⟩⟩ (H.2.1 h1))))) (fun h2 => (x_aldn c267_53 rfl (x_gfr c267_54 k_133_45 (x_ildn c267_57 rfl (x_ildn c267_58 rfl (x_iast c267_59 a_154 (H.2.2 h2).1 (by decide) (x_inc (l' := [some (jR 133), some (jI (v1 + 1)), some (jI v2)]) c267_60 rfl rfl (x_goto c267_63 (wp_wk (l' := [some (jR 133), some (jI (v1 + 1)), none]) ⟨rfl, ⟨rfl, trivial⟩⟩ (H.2.2 h2).2)))))))))))
theorem s267_70 {kc : List va_E} {d : Nat} {M : fx_M} {Q : Option fx_V → fx_M → Prop} (H : wc kc d 221 [jI 18] M (fun v M1 => wp kc (d + 1) 267 76 [some (jR 133), none, none] (v.toList ++ [jR 133]) M1 Q)) : wp kc (d + 1) 267 70 [some (jR 133), none, none] [] M Q :=
  (x_aldn c267_70 rfl (x_ci c267_71 (wp_wk (l' := [some (jR 133), none, none]) ⟨rfl, trivial⟩ (x_cs (As := [jI 18]) (st := [jR 133]) c267_73 (by decide) rfl (Nat.le_of_ble_eq_true rfl) mx221 (Nat.le_refl _) H))))
theorem s267_76 {kc : List va_E} {d : Nat} {u0 : Int} {M : fx_M} {Q : Option fx_V → fx_M → Prop} (H : wc kc d 280 [jR 133] M (fun v M1 => wp kc (d + 1) 267 80 [none, none, none] (v.toList ++ [jL u0, jR 133]) M1 Q)) : wp kc (d + 1) 267 76 [some (jR 133), none, none] [jL u0, jR 133] M Q :=
  (x_aldn c267_76 rfl (wp_wk (l' := [none, none, none]) trivial (x_cv (As := []) (st := [jL u0, jR 133]) c267_77 cl_133 kl280 rfl (Nat.le_of_ble_eq_true rfl) mx280 (Nat.le_refl _) H)))
theorem s267_80 {kc : List va_E} {d : Nat} {u0 u1 : Int} {M : fx_M} {Q : Option fx_V → fx_M → Prop} (H : wc kc d 252 [jR 133, jL u1, jI u0] M (fun v M1 => wp kc (d + 1) 267 83 [none, none, none] (v.toList ++ []) M1 Q)) : wp kc (d + 1) 267 80 [none, none, none] [jI u0, jL u1, jR 133] M Q :=
  (wp_wk (l' := [none, none, none]) trivial (x_cv (As := [jL u1, jI u0]) (st := []) c267_80 cl_133 kl252 rfl (Nat.le_of_ble_eq_true rfl) mx252 (Nat.le_refl _) H))
theorem s267_83 {kc : List va_E} {d : Nat} {M : fx_M} {Q : Option fx_V → fx_M → Prop} (H : Q none M) : wp kc (d + 1) 267 83 [none, none, none] [] M Q :=
  (x_vr c267_83 r267 H)
theorem s267 {kc : List va_E} {d : Nat} {M : fx_M} {Q : Option fx_V → fx_M → Prop} (H : wc kc d 268 [jR 133, jI 2] M (fun v M1 => wp kc (d + 1) 267 5 [some (jR 133), none, none] (v.toList ++ []) M1 Q)) : wc kc (d + 1) 267 [jR 133] M Q :=
  wc_of (wp_wk (l' := [some (jR 133), none, none]) ⟨rfl, trivial⟩ (s267_0 H))

/- PuzzleHouseModel.countAnswers(I)I -/
theorem c268_0 : fx_ci 268 0 = some (0, 1) := by decide +kernel
theorem c268_1 : fx_op 268 1 = some (.istore_n 2, 2, 1) := by decide +kernel
theorem c268_2 : fx_op 268 2 = some (.aload_n 0, 3, 2) := by decide +kernel
theorem c268_3 : fx_ci 268 3 = some (1, 4) := by decide +kernel
theorem c268_4 : fx_ca 268 4 = some (269, 2, 2, 7) := by decide +kernel
theorem c268_7 : fx_op 268 7 = some (.istore_n 3, 8, 7) := by decide +kernel
theorem c268_8 : fx_op 268 8 = some (.iload_n 3, 9, 8) := by decide +kernel
theorem c268_9 : fx_op 268 9 = some (.ifCond .eq 28, 12, 37) := by decide +kernel
theorem c268_12 : fx_op 268 12 = some (.iinc 2 1, 15, 12) := by decide +kernel
theorem c268_15 : fx_op 268 15 = some (.iload_n 2, 16, 15) := by decide +kernel
theorem c268_16 : fx_op 268 16 = some (.iload_n 1, 17, 16) := by decide +kernel
theorem c268_17 : fx_op 268 17 = some (.if_icmp .ge 15, 20, 32) := by decide +kernel
theorem c268_32 : fx_ci 268 32 = some (0, 33) := by decide +kernel
theorem c268_33 : fx_op 268 33 = some (.istore_n 3, 34, 33) := by decide +kernel
theorem c268_37 : fx_op 268 37 = some (.iload_n 2, 38, 37) := by decide +kernel
theorem c268_20 : fx_op 268 20 = some (.aload_n 0, 21, 20) := by decide +kernel
theorem c268_21 : fx_ci 268 21 = some (0, 22) := by decide +kernel
theorem c268_38 : fx_op 268 38 = some (.ireturn, 39, 38) := by decide +kernel
theorem c268_34 : fx_op 268 34 = some (.goto (-26), 37, 8) := by decide +kernel
theorem c268_22 : fx_ca 268 22 = some (269, 2, 2, 25) := by decide +kernel
theorem c268_25 : fx_op 268 25 = some (.ifCond .eq 7, 28, 32) := by decide +kernel
theorem c268_28 : fx_ci 268 28 = some (1, 29) := by decide +kernel
theorem c268_29 : fx_op 268 29 = some (.goto 4, 32, 33) := by decide +kernel
theorem s268_0 {kc : List va_E} {d : Nat} {x1 : Int} {M : fx_M} {Q : Option fx_V → fx_M → Prop} (H : wc kc d 269 [jR 133, jI 1] M (fun v M1 => wp kc (d + 1) 268 7 [some (jR 133), some (jI x1), some (jI 0), none] (v.toList ++ []) M1 Q)) : wp kc (d + 1) 268 0 [some (jR 133), some (jI x1), none, none] [] M Q :=
  (x_ci c268_0 (x_istn (l' := [some (jR 133), some (jI x1), some (jI 0), none]) c268_1 rfl (x_aldn c268_2 rfl (x_ci c268_3 (wp_wk (l' := [some (jR 133), some (jI x1), some (jI 0), none]) ⟨rfl, ⟨rfl, ⟨rfl, trivial⟩⟩⟩ (x_cv (As := [jI 1]) (st := []) c268_4 cl_133 kl269 rfl (Nat.le_of_ble_eq_true rfl) mx269 (Nat.le_refl _) H))))))
theorem s268_7 {kc : List va_E} {d : Nat} {v1 v2 u0 : Int} {M : fx_M} {Q : Option fx_V → fx_M → Prop} (H : wp kc (d + 1) 268 8 [some (jR 133), some (jI v1), some (jI v2), some (jI u0)] [] M Q) : wp kc (d + 1) 268 7 [some (jR 133), some (jI v1), some (jI v2), none] [jI u0] M Q :=
  (x_istn (l' := [some (jR 133), some (jI v1), some (jI v2), some (jI u0)]) c268_7 rfl (wp_wk (l' := [some (jR 133), some (jI v1), some (jI v2), some (jI u0)]) ⟨rfl, ⟨rfl, ⟨rfl, ⟨rfl, trivial⟩⟩⟩⟩ H))
theorem s268_8 {kc : List va_E} {d : Nat} {v1 v2 v3 : Int} {M : fx_M} {Q : Option fx_V → fx_M → Prop} (H : ((fx_in32 v3)) ∧ (v3 = 0 → Q (some (jI v2)) M) ∧ (v3 ≠ 0 → ((fx_in32 (v2 + 1)) ∧ (fx_in32 v1)) ∧ (v1 ≤ v2 + 1 → wp kc (d + 1) 268 8 [some (jR 133), some (jI v1), some (jI (v2 + 1)), some (jI 0)] [] M Q) ∧ (v2 + 1 < v1 → wc kc d 269 [jR 133, jI 0] M (fun v M1 => wp kc (d + 1) 268 25 [some (jR 133), some (jI v1), some (jI (v2 + 1)), none] (v.toList ++ []) M1 Q)))) : wp kc (d + 1) 268 8 [some (jR 133), some (jI v1), some (jI v2), some (jI v3)] [] M Q :=
  (x_ildn c268_8 rfl (x_zeq c268_9 H.1 (fun h3 => (x_ildn c268_37 rfl (x_irt c268_38 r268 (H.2.1 h3)))) (fun h4 => (x_inc (l' := [some (jR 133), some (jI v1), some (jI (v2 + 1)), some (jI v3)]) c268_12 rfl rfl (x_ildn c268_15 rfl (x_ildn c268_16 rfl (x_cge c268_17 (H.2.2 h4).1.1 (H.2.2 h4).1.2 (fun h1 => (x_ci c268_32 (x_istn (l' := [some (jR 133), some (jI v1), some (jI (v2 + 1)), some (jI 0)]) c268_33 rfl (x_goto c268_34 (wp_wk (l' := [some (jR 133), some (jI v1), some (jI (v2 + 1)), some (jI 0)]) ⟨rfl, ⟨rfl, ⟨rfl, ⟨rfl, trivial⟩⟩⟩⟩ ((H.2.2 h4).2.1 h1)))))) (fun h2 => (x_aldn c268_20 rfl (x_ci c268_21 (wp_wk (l' := [some (jR 133), some (jI v1), some (jI (v2 + 1)), none]) ⟨rfl, ⟨rfl, ⟨rfl, trivial⟩⟩⟩ (x_cv (As := [jI 0]) (st := []) c268_22 cl_133 kl269 rfl (Nat.le_of_ble_eq_true rfl) mx269 (Nat.le_refl _) ((H.2.2 h4).2.2 h2)))))))))))))
theorem s268_25 {kc : List va_E} {d : Nat} {v1 v2 u0 : Int} {M : fx_M} {Q : Option fx_V → fx_M → Prop} (H : ((fx_in32 u0)) ∧ wp kc (d + 1) 268 8 [some (jR 133), some (jI v1), some (jI v2), some (jI (if u0 = 0 then (0 : Int) else 1))] [] M Q) : wp kc (d + 1) 268 25 [some (jR 133), some (jI v1), some (jI v2), none] [jI u0] M Q :=
  (have K : wp kc (d + 1) 268 33 [some (jR 133), some (jI v1), some (jI v2), none] [jI (if u0 = 0 then (0 : Int) else 1)] M Q := (x_istn (l' := [some (jR 133), some (jI v1), some (jI v2), some (jI (if u0 = 0 then (0 : Int) else 1))]) c268_33 rfl (x_goto c268_34 (wp_wk (l' := [some (jR 133), some (jI v1), some (jI v2), some (jI (if u0 = 0 then (0 : Int) else 1))]) ⟨rfl, ⟨rfl, ⟨rfl, ⟨rfl, trivial⟩⟩⟩⟩ H.2))); (x_zeq c268_25 H.1 (fun (h1 : u0 = 0) => (x_ci c268_32 (wp_wk (l' := [some (jR 133), some (jI v1), some (jI v2), none]) ⟨rfl, ⟨rfl, ⟨rfl, trivial⟩⟩⟩ (by have K := K; first | (simp only [if_pos h1] at K ⊢; exact K) | (exfalso; omega))))) (fun (h2 : u0 ≠ 0) => (x_ci c268_28 (x_goto c268_29 (wp_wk (l' := [some (jR 133), some (jI v1), some (jI v2), none]) ⟨rfl, ⟨rfl, ⟨rfl, trivial⟩⟩⟩ (by have K := K; first | (simp only [if_neg h2] at K ⊢; exact K) | (exfalso; omega))))))))
theorem s268 {kc : List va_E} {d : Nat} {x1 : Int} {M : fx_M} {Q : Option fx_V → fx_M → Prop} (H : wc kc d 269 [jR 133, jI 1] M (fun v M1 => wp kc (d + 1) 268 7 [some (jR 133), some (jI x1), some (jI 0), none] (v.toList ++ []) M1 Q)) : wc kc (d + 1) 268 [jR 133, jI x1] M Q :=
  wc_of (wp_wk (l' := [some (jR 133), some (jI x1), none, none]) ⟨rfl, ⟨rfl, trivial⟩⟩ (s268_0 H))

/- PuzzleHouseModel.seek(Z)Z -/
theorem c269_0 : fx_op 269 0 = some (.iload_n 1, 1, 0) := by decide +kernel
theorem c269_1 : fx_op 269 1 = some (.ifCond .eq 7, 4, 8) := by decide +kernel
theorem c269_8 : fx_op 269 8 = some (.aload_n 0, 9, 8) := by decide +kernel
theorem c269_4 : fx_ci 269 4 = some (0, 5) := by decide +kernel
theorem c269_14 : fx_op 269 14 = some (.istore_n 2, 15, 14) := by decide +kernel
theorem c269_15 : fx_op 269 15 = some (.iload_n 1, 16, 15) := by decide +kernel
theorem c269_16 : fx_op 269 16 = some (.ifCond .eq 101, 19, 117) := by decide +kernel
theorem c269_19 : fx_op 269 19 = some (.aload_n 0, 20, 19) := by decide +kernel
theorem c269_20 : fx_gf 269 20 = some (12, 46, 23) := by decide +kernel
theorem c269_23 : fx_ci 269 23 = some (0, 24) := by decide +kernel
theorem c269_24 : fx_ci 269 24 = some ((-1), 25) := by decide +kernel
theorem c269_26 : fx_ci 269 26 = some (0, 27) := by decide +kernel
theorem c269_27 : fx_op 269 27 = some (.istore_n 3, 28, 27) := by decide +kernel
theorem c269_9 : fx_ca 269 9 = some (248, 1, 2, 12) := by decide +kernel
theorem c269_5 : fx_op 269 5 = some (.goto 9, 8, 14) := by decide +kernel
theorem c269_25 : fx_op 269 25 = some (.iastore, 26, 25) := by decide +kernel
theorem c269_117 : fx_op 269 117 = some (.iload_n 2, 118, 117) := by decide +kernel
theorem c269_118 : fx_op 269 118 = some (.ifCond .lt 66, 121, 184) := by decide +kernel
theorem c269_184 : fx_ci 269 184 = some (0, 185) := by decide +kernel
theorem c269_121 : fx_op 269 121 = some (.aload_n 0, 122, 121) := by decide +kernel
theorem c269_122 : fx_gf 269 122 = some (12, 46, 125) := by decide +kernel
theorem c269_125 : fx_op 269 125 = some (.iload_n 2, 126, 125) := by decide +kernel
theorem c269_126 : fx_op 269 126 = some (.aload_n 0, 127, 126) := by decide +kernel
theorem c269_127 : fx_op 269 127 = some (.iload_n 2, 128, 127) := by decide +kernel
theorem c269_185 : fx_op 269 185 = some (.ireturn, 186, 185) := by decide +kernel
theorem c269_128 : fx_ca 269 128 = some (270, 2, 2, 131) := by decide +kernel
theorem c269_28 : fx_op 269 28 = some (.iload_n 3, 29, 28) := by decide +kernel
theorem c269_29 : fx_op 269 29 = some (.aload_n 0, 30, 29) := by decide +kernel
theorem c269_30 : fx_gf 269 30 = some (12, 40, 33) := by decide +kernel
theorem c269_33 : fx_ci 269 33 = some (0, 34) := by decide +kernel
theorem c269_34 : fx_op 269 34 = some (.iaload, 35, 34) := by decide +kernel
theorem c269_35 : fx_op 269 35 = some (.if_icmp .ge 82, 38, 117) := by decide +kernel
theorem c269_38 : fx_op 269 38 = some (.aload_n 0, 39, 38) := by decide +kernel
theorem c269_39 : fx_gf 269 39 = some (12, 55, 42) := by decide +kernel
theorem c269_42 : fx_op 269 42 = some (.iload_n 3, 43, 42) := by decide +kernel
theorem c269_43 : fx_ci 269 43 = some (0, 44) := by decide +kernel
theorem c269_45 : fx_ci 269 45 = some (0, 46) := by decide +kernel
theorem c269_46 : fx_op 269 46 = some (.istore 4, 48, 46) := by decide +kernel
theorem c269_44 : fx_op 269 44 = some (.iastore, 45, 44) := by decide +kernel
theorem c269_12 : fx_ci 269 12 = some (1, 13) := by decide +kernel
theorem c269_13 : fx_op 269 13 = some (.isub, 14, 13) := by decide +kernel
theorem c269_132 : fx_op 269 132 = some (.aload_n 0, 133, 132) := by decide +kernel
theorem c269_133 : fx_gf 269 133 = some (12, 46, 136) := by decide +kernel
theorem c269_136 : fx_op 269 136 = some (.iload_n 2, 137, 136) := by decide +kernel
theorem c269_138 : fx_op 269 138 = some (.aload_n 0, 139, 138) := by decide +kernel
theorem c269_139 : fx_gf 269 139 = some (12, 39, 142) := by decide +kernel
theorem c269_142 : fx_ci 269 142 = some (0, 143) := by decide +kernel
theorem c269_143 : fx_op 269 143 = some (.iaload, 144, 143) := by decide +kernel
theorem c269_144 : fx_op 269 144 = some (.if_icmp .lt 9, 147, 153) := by decide +kernel
theorem c269_153 : fx_op 269 153 = some (.aload_n 0, 154, 153) := by decide +kernel
theorem c269_154 : fx_op 269 154 = some (.iload_n 2, 155, 154) := by decide +kernel
theorem c269_147 : fx_op 269 147 = some (.iinc 2 (-1), 150, 147) := by decide +kernel
theorem c269_131 : fx_op 269 131 = some (.iastore, 132, 131) := by decide +kernel
theorem c269_137 : fx_op 269 137 = some (.iaload, 138, 137) := by decide +kernel
theorem c269_155 : fx_ca 269 155 = some (272, 2, 2, 158) := by decide +kernel
theorem c269_150 : fx_op 269 150 = some (.goto (-33), 153, 117) := by decide +kernel
theorem c269_48 : fx_op 269 48 = some (.iload 4, 50, 48) := by decide +kernel
theorem c269_50 : fx_op 269 50 = some (.aload_n 0, 51, 50) := by decide +kernel
theorem c269_51 : fx_gf 269 51 = some (12, 43, 54) := by decide +kernel
theorem c269_54 : fx_op 269 54 = some (.iload_n 3, 55, 54) := by decide +kernel
theorem c269_56 : fx_op 269 56 = some (.if_icmp .ge 55, 59, 111) := by decide +kernel
theorem c269_59 : fx_op 269 59 = some (.aload_n 0, 60, 59) := by decide +kernel
theorem c269_60 : fx_gf 269 60 = some (12, 55, 63) := by decide +kernel
theorem c269_63 : fx_op 269 63 = some (.iload_n 3, 64, 63) := by decide +kernel
theorem c269_64 : fx_op 269 64 = some (.aload_n 0, 65, 64) := by decide +kernel
theorem c269_65 : fx_gf 269 65 = some (12, 44, 68) := by decide +kernel
theorem c269_68 : fx_ci 269 68 = some (4, 69) := by decide +kernel
theorem c269_69 : fx_op 269 69 = some (.iload_n 3, 70, 69) := by decide +kernel
theorem c269_70 : fx_op 269 70 = some (.imul, 71, 70) := by decide +kernel
theorem c269_71 : fx_op 269 71 = some (.iload 4, 73, 71) := by decide +kernel
theorem c269_73 : fx_op 269 73 = some (.iadd, 74, 73) := by decide +kernel
theorem c269_74 : fx_op 269 74 = some (.iaload, 75, 74) := by decide +kernel
theorem c269_75 : fx_op 269 75 = some (.aload_n 0, 76, 75) := by decide +kernel
theorem c269_76 : fx_gf 269 76 = some (12, 55, 79) := by decide +kernel
theorem c269_79 : fx_op 269 79 = some (.iload_n 3, 80, 79) := by decide +kernel
theorem c269_80 : fx_op 269 80 = some (.iaload, 81, 80) := by decide +kernel
theorem c269_81 : fx_op 269 81 = some (.if_icmp .le 17, 84, 98) := by decide +kernel
theorem c269_98 : fx_op 269 98 = some (.aload_n 0, 99, 98) := by decide +kernel
theorem c269_99 : fx_gf 269 99 = some (12, 55, 102) := by decide +kernel
theorem c269_102 : fx_op 269 102 = some (.iload_n 3, 103, 102) := by decide +kernel
theorem c269_103 : fx_op 269 103 = some (.iaload, 104, 103) := by decide +kernel
theorem c269_111 : fx_op 269 111 = some (.iinc 3 1, 114, 111) := by decide +kernel
theorem c269_84 : fx_op 269 84 = some (.aload_n 0, 85, 84) := by decide +kernel
theorem c269_85 : fx_gf 269 85 = some (12, 44, 88) := by decide +kernel
theorem c269_88 : fx_ci 269 88 = some (4, 89) := by decide +kernel
theorem c269_89 : fx_op 269 89 = some (.iload_n 3, 90, 89) := by decide +kernel
theorem c269_90 : fx_op 269 90 = some (.imul, 91, 90) := by decide +kernel
theorem c269_91 : fx_op 269 91 = some (.iload 4, 93, 91) := by decide +kernel
theorem c269_93 : fx_op 269 93 = some (.iadd, 94, 93) := by decide +kernel
theorem c269_94 : fx_op 269 94 = some (.iaload, 95, 94) := by decide +kernel
theorem c269_95 : fx_op 269 95 = some (.goto 9, 98, 104) := by decide +kernel
theorem c269_105 : fx_op 269 105 = some (.iinc 4 1, 108, 105) := by decide +kernel
theorem c269_55 : fx_op 269 55 = some (.iaload, 56, 55) := by decide +kernel
theorem c269_114 : fx_op 269 114 = some (.goto (-86), 117, 28) := by decide +kernel
theorem c269_104 : fx_op 269 104 = some (.iastore, 105, 104) := by decide +kernel
theorem c269_108 : fx_op 269 108 = some (.goto (-60), 111, 48) := by decide +kernel
theorem c269_158 : fx_op 269 158 = some (.ifCond .eq (-41), 161, 117) := by decide +kernel
theorem c269_161 : fx_op 269 161 = some (.iinc 2 1, 164, 161) := by decide +kernel
theorem c269_164 : fx_op 269 164 = some (.iload_n 2, 165, 164) := by decide +kernel
theorem c269_165 : fx_op 269 165 = some (.aload_n 0, 166, 165) := by decide +kernel
theorem c269_166 : fx_ca 269 166 = some (248, 1, 2, 169) := by decide +kernel
theorem c269_169 : fx_op 269 169 = some (.if_icmp .ne 5, 172, 174) := by decide +kernel
theorem c269_174 : fx_op 269 174 = some (.aload_n 0, 175, 174) := by decide +kernel
theorem c269_175 : fx_gf 269 175 = some (12, 46, 178) := by decide +kernel
theorem c269_178 : fx_op 269 178 = some (.iload_n 2, 179, 178) := by decide +kernel
theorem c269_179 : fx_ci 269 179 = some ((-1), 180) := by decide +kernel
theorem c269_172 : fx_ci 269 172 = some (1, 173) := by decide +kernel
theorem c269_180 : fx_op 269 180 = some (.iastore, 181, 180) := by decide +kernel
theorem c269_181 : fx_op 269 181 = some (.goto (-64), 184, 117) := by decide +kernel
theorem c269_173 : fx_op 269 173 = some (.ireturn, 174, 173) := by decide +kernel
theorem s269_0 {kc : List va_E} {d : Nat} {x1 : Int} {M : fx_M} {Q : Option fx_V → fx_M → Prop} (H : ((fx_in32 x1)) ∧ (x1 = 0 → wc kc d 248 [jR 133] M (fun v M1 => wp kc (d + 1) 269 12 [some (jR 133), some (jI x1), none, none, none] (v.toList ++ []) M1 Q)) ∧ (x1 ≠ 0 → ((fx_in32 x1)) ∧ (x1 = 0 → wp kc (d + 1) 269 117 [some (jR 133), none, some (jI 0), none, none] [] M Q) ∧ (x1 ≠ 0 → wp kc (d + 1) 269 28 [some (jR 133), none, some (jI 0), some (jI 0), none] [] (fx_up M 155 0 (-1)) Q))) : wp kc (d + 1) 269 0 [some (jR 133), some (jI x1), none, none, none] [] M Q :=
  (x_ildn c269_0 rfl (x_zeq c269_1 H.1 (fun h3 => (x_aldn c269_8 rfl (wp_wk (l' := [some (jR 133), some (jI x1), none, none, none]) ⟨rfl, ⟨rfl, trivial⟩⟩ (x_cv (As := []) (st := []) c269_9 cl_133 kl248 rfl (Nat.le_of_ble_eq_true rfl) mx248 (Nat.le_refl _) (H.2.1 h3))))) (fun h4 => (x_ci c269_4 (x_goto c269_5 (x_istn (l' := [some (jR 133), some (jI x1), some (jI 0), none, none]) c269_14 rfl (x_ildn c269_15 rfl (x_zeq c269_16 (H.2.2 h4).1 (fun h1 => (wp_wk (l' := [some (jR 133), none, some (jI 0), none, none]) ⟨rfl, ⟨rfl, trivial⟩⟩ ((H.2.2 h4).2.1 h1))) (fun h2 => (x_aldn c269_19 rfl (x_gfr c269_20 k_133_46 (x_ci c269_23 (x_ci c269_24 (x_iast c269_25 a_155 (by decide) (by decide) (x_ci c269_26 (x_istn (l' := [some (jR 133), some (jI x1), some (jI 0), some (jI 0), none]) c269_27 rfl (wp_wk (l' := [some (jR 133), none, some (jI 0), some (jI 0), none]) ⟨rfl, ⟨rfl, ⟨rfl, trivial⟩⟩⟩ ((H.2.2 h4).2.2 h2))))))))))))))))))
theorem s269_12 {kc : List va_E} {d : Nat} {v1 u0 : Int} {M : fx_M} {Q : Option fx_V → fx_M → Prop} (H : ((fx_in32 v1)) ∧ (v1 = 0 → wp kc (d + 1) 269 117 [some (jR 133), none, some (jI (u0 - 1)), none, none] [] M Q) ∧ (v1 ≠ 0 → wp kc (d + 1) 269 28 [some (jR 133), none, some (jI (u0 - 1)), some (jI 0), none] [] (fx_up M 155 0 (-1)) Q)) : wp kc (d + 1) 269 12 [some (jR 133), some (jI v1), none, none, none] [jI u0] M Q :=
  (x_ci c269_12 (x_isub c269_13 (x_istn (l' := [some (jR 133), some (jI v1), some (jI (u0 - 1)), none, none]) c269_14 rfl (x_ildn c269_15 rfl (x_zeq c269_16 H.1 (fun h1 => (wp_wk (l' := [some (jR 133), none, some (jI (u0 - 1)), none, none]) ⟨rfl, ⟨rfl, trivial⟩⟩ (H.2.1 h1))) (fun h2 => (x_aldn c269_19 rfl (x_gfr c269_20 k_133_46 (x_ci c269_23 (x_ci c269_24 (x_iast c269_25 a_155 (by decide) (by decide) (x_ci c269_26 (x_istn (l' := [some (jR 133), some (jI v1), some (jI (u0 - 1)), some (jI 0), none]) c269_27 rfl (wp_wk (l' := [some (jR 133), none, some (jI (u0 - 1)), some (jI 0), none]) ⟨rfl, ⟨rfl, ⟨rfl, trivial⟩⟩⟩ (H.2.2 h2)))))))))))))))
theorem s269_28 {kc : List va_E} {d : Nat} {v2 v3 : Int} {M : fx_M} {Q : Option fx_V → fx_M → Prop} (H : ((fx_in32 v3) ∧ (fx_in32 (M 149 0))) ∧ (M 149 0 ≤ v3 → wp kc (d + 1) 269 117 [some (jR 133), none, some (jI v2), none, none] [] M Q) ∧ (v3 < M 149 0 → (((0 : Int) ≤ v3 ∧ v3 < 12)) ∧ wp kc (d + 1) 269 48 [some (jR 133), none, some (jI v2), some (jI v3), some (jI 0)] [] (fx_up M 159 v3 0) Q)) : wp kc (d + 1) 269 28 [some (jR 133), none, some (jI v2), some (jI v3), none] [] M Q :=
  (x_ildn c269_28 rfl (x_aldn c269_29 rfl (x_gfr c269_30 k_133_40 (x_ci c269_33 (x_iald c269_34 a_149 (by decide) (by decide) (x_cge c269_35 H.1.1 H.1.2 (fun h1 => (wp_wk (l' := [some (jR 133), none, some (jI v2), none, none]) ⟨rfl, ⟨rfl, trivial⟩⟩ (H.2.1 h1))) (fun h2 => (x_aldn c269_38 rfl (x_gfr c269_39 k_133_55 (x_ildn c269_42 rfl (x_ci c269_43 (x_iast c269_44 a_159 (H.2.2 h2).1 (by decide) (x_ci c269_45 (x_ist (l' := [some (jR 133), none, some (jI v2), some (jI v3), some (jI 0)]) c269_46 rfl (wp_wk (l' := [some (jR 133), none, some (jI v2), some (jI v3), some (jI 0)]) ⟨rfl, ⟨rfl, ⟨rfl, ⟨rfl, trivial⟩⟩⟩⟩ (H.2.2 h2).2)))))))))))))))
theorem s269_48 {kc : List va_E} {d : Nat} {v2 v3 v4 : Int} {M : fx_M} {Q : Option fx_V → fx_M → Prop} (H : (((0 : Int) ≤ v3 ∧ v3 < 120)) ∧ ((fx_in32 v4) ∧ (fx_in32 (M 152 v3))) ∧ (M 152 v3 ≤ v4 → wp kc (d + 1) 269 28 [some (jR 133), none, some (jI v2), some (jI (v3 + 1)), none] [] M Q) ∧ (v4 < M 152 v3 → (((0 : Int) ≤ (4 * v3) + v4 ∧ (4 * v3) + v4 < 480)) ∧ (((0 : Int) ≤ v3 ∧ v3 < 12)) ∧ ((fx_in32 (M 153 ((4 * v3) + v4)))) ∧ ((fx_in32 (M 159 v3))) ∧ (M 153 ((4 * v3) + v4) ≤ M 159 v3 → ((((0 : Int) ≤ v3 ∧ v3 < 12)))) ∧ (M 159 v3 < M 153 ((4 * v3) + v4) → ((((0 : Int) ≤ (4 * v3) + v4 ∧ (4 * v3) + v4 < 480)))) ∧ (((0 : Int) ≤ v3 ∧ v3 < 12)) ∧ wp kc (d + 1) 269 48 [some (jR 133), none, some (jI v2), some (jI v3), some (jI (v4 + 1))] [] (fx_up M 159 v3 (if M 159 v3 < M 153 ((4 * v3) + v4) then (M 153 ((4 * v3) + v4) : Int) else M 159 v3)) Q)) : wp kc (d + 1) 269 48 [some (jR 133), none, some (jI v2), some (jI v3), some (jI v4)] [] M Q :=
  (x_ild c269_48 rfl (x_aldn c269_50 rfl (x_gfr c269_51 k_133_43 (x_ildn c269_54 rfl (x_iald c269_55 a_152 H.1 (by decide) (x_cge c269_56 H.2.1.1 H.2.1.2 (fun h1 => (x_inc (l' := [some (jR 133), none, some (jI v2), some (jI (v3 + 1)), some (jI v4)]) c269_111 rfl rfl (x_goto c269_114 (wp_wk (l' := [some (jR 133), none, some (jI v2), some (jI (v3 + 1)), none]) ⟨rfl, ⟨rfl, ⟨rfl, trivial⟩⟩⟩ (H.2.2.1 h1))))) (fun h2 => (x_aldn c269_59 rfl (x_gfr c269_60 k_133_55 (x_ildn c269_63 rfl (x_aldn c269_64 rfl (x_gfr c269_65 k_133_44 (x_ci c269_68 (x_ildn c269_69 rfl (x_imul c269_70 (x_ild c269_71 rfl (x_iadd c269_73 (x_iald c269_74 a_153 (H.2.2.2 h2).1 (by decide) (x_aldn c269_75 rfl (x_gfr c269_76 k_133_55 (x_ildn c269_79 rfl (x_iald c269_80 a_159 (H.2.2.2 h2).2.1 (by decide) (have K : wp kc (d + 1) 269 104 [some (jR 133), none, some (jI v2), some (jI v3), some (jI v4)] [jI (if M 159 v3 < M 153 ((4 * v3) + v4) then (M 153 ((4 * v3) + v4) : Int) else M 159 v3), jI v3, jR 159] M Q := (x_iast c269_104 a_159 (H.2.2.2 h2).2.2.2.2.2.2.1 (by decide) (x_inc (l' := [some (jR 133), none, some (jI v2), some (jI v3), some (jI (v4 + 1))]) c269_105 rfl rfl (x_goto c269_108 (wp_wk (l' := [some (jR 133), none, some (jI v2), some (jI v3), some (jI (v4 + 1))]) ⟨rfl, ⟨rfl, ⟨rfl, ⟨rfl, trivial⟩⟩⟩⟩ (H.2.2.2 h2).2.2.2.2.2.2.2)))); (x_cle c269_81 (H.2.2.2 h2).2.2.1 (H.2.2.2 h2).2.2.2.1 (fun (h3 : M 153 ((4 * v3) + v4) ≤ M 159 v3) => (x_aldn c269_98 rfl (x_gfr c269_99 k_133_55 (x_ildn c269_102 rfl (x_iald c269_103 a_159 ((H.2.2.2 h2).2.2.2.2.1 h3) (by decide) (wp_wk (l' := [some (jR 133), none, some (jI v2), some (jI v3), some (jI v4)]) ⟨rfl, ⟨rfl, ⟨rfl, ⟨rfl, trivial⟩⟩⟩⟩ (by have K := K; first | (simp only [if_neg (Int.not_lt.mpr h3)] at K ⊢; exact K) | (exfalso; omega)))))))) (fun (h4 : M 159 v3 < M 153 ((4 * v3) + v4)) => (x_aldn c269_84 rfl (x_gfr c269_85 k_133_44 (x_ci c269_88 (x_ildn c269_89 rfl (x_imul c269_90 (x_ild c269_91 rfl (x_iadd c269_93 (x_iald c269_94 a_153 ((H.2.2.2 h2).2.2.2.2.2.1 h4) (by decide) (x_goto c269_95 (wp_wk (l' := [some (jR 133), none, some (jI v2), some (jI v3), some (jI v4)]) ⟨rfl, ⟨rfl, ⟨rfl, ⟨rfl, trivial⟩⟩⟩⟩ (by have K := K; first | (simp only [if_pos h4] at K ⊢; exact K) | (exfalso; omega)))))))))))))))))))))))))))))))))))))
theorem s269_117 {kc : List va_E} {d : Nat} {v2 : Int} {M : fx_M} {Q : Option fx_V → fx_M → Prop} (H : ((fx_in32 v2)) ∧ (v2 < 0 → Q (some (jI 0)) M) ∧ (0 ≤ v2 → wc kc d 270 [jR 133, jI v2] M (fun v M1 => wp kc (d + 1) 269 131 [some (jR 133), none, some (jI v2), none, none] (v.toList ++ [jI v2, jR 155]) M1 Q))) : wp kc (d + 1) 269 117 [some (jR 133), none, some (jI v2), none, none] [] M Q :=
  (x_ildn c269_117 rfl (x_zlt c269_118 H.1 (fun h1 => (x_ci c269_184 (x_zrt c269_185 r269 (by decide) (H.2.1 h1)))) (fun h2 => (x_aldn c269_121 rfl (x_gfr c269_122 k_133_46 (x_ildn c269_125 rfl (x_aldn c269_126 rfl (x_ildn c269_127 rfl (wp_wk (l' := [some (jR 133), none, some (jI v2), none, none]) ⟨rfl, ⟨rfl, trivial⟩⟩ (x_cv (As := [jI v2]) (st := [jI v2, jR 155]) c269_128 cl_133 kl270 rfl (Nat.le_of_ble_eq_true rfl) mx270 (Nat.le_refl _) (H.2.2 h2)))))))))))
theorem s269_131 {kc : List va_E} {d : Nat} {v2 u0 u1 : Int} {M : fx_M} {Q : Option fx_V → fx_M → Prop} (H : (((0 : Int) ≤ u1 ∧ u1 < 9)) ∧ (((0 : Int) ≤ v2 ∧ v2 < 9)) ∧ ((fx_in32 ((fx_up M 155 u1 u0) 155 v2)) ∧ (fx_in32 (M 148 0))) ∧ ((fx_up M 155 u1 u0) 155 v2 < M 148 0 → wc kc d 272 [jR 133, jI v2] (fx_up M 155 u1 u0) (fun v M1 => wp kc (d + 1) 269 158 [some (jR 133), none, some (jI v2), none, none] (v.toList ++ []) M1 Q)) ∧ (M 148 0 ≤ (fx_up M 155 u1 u0) 155 v2 → wp kc (d + 1) 269 117 [some (jR 133), none, some (jI (v2 + (-1))), none, none] [] (fx_up M 155 u1 u0) Q)) : wp kc (d + 1) 269 131 [some (jR 133), none, some (jI v2), none, none] [jI u0, jI u1, jR 155] M Q :=
  (x_iast c269_131 a_155 H.1 (by decide) (x_aldn c269_132 rfl (x_gfr c269_133 k_133_46 (x_ildn c269_136 rfl (x_iald c269_137 a_155 H.2.1 (by decide) (x_aldn c269_138 rfl (x_gfr c269_139 k_133_39 (x_ci c269_142 (x_iald c269_143 a_148 (by decide) (by decide) (wp_vI (fx_upA (by decide)) (x_clt c269_144 H.2.2.1.1 H.2.2.1.2 (fun h1 => (x_aldn c269_153 rfl (x_ildn c269_154 rfl (wp_wk (l' := [some (jR 133), none, some (jI v2), none, none]) ⟨rfl, ⟨rfl, trivial⟩⟩ (x_cv (As := [jI v2]) (st := []) c269_155 cl_133 kl272 rfl (Nat.le_of_ble_eq_true rfl) mx272 (Nat.le_refl _) (H.2.2.2.1 h1)))))) (fun h2 => (x_inc (l' := [some (jR 133), none, some (jI (v2 + (-1))), none, none]) c269_147 rfl rfl (x_goto c269_150 (wp_wk (l' := [some (jR 133), none, some (jI (v2 + (-1))), none, none]) ⟨rfl, ⟨rfl, trivial⟩⟩ (H.2.2.2.2 h2))))))))))))))))
theorem s269_158 {kc : List va_E} {d : Nat} {v2 u0 : Int} {M : fx_M} {Q : Option fx_V → fx_M → Prop} (H : ((fx_in32 u0)) ∧ (u0 = 0 → wp kc (d + 1) 269 117 [some (jR 133), none, some (jI v2), none, none] [] M Q) ∧ (u0 ≠ 0 → wc kc d 248 [jR 133] M (fun v M1 => wp kc (d + 1) 269 169 [some (jR 133), none, some (jI (v2 + 1)), none, none] (v.toList ++ [jI (v2 + 1)]) M1 Q))) : wp kc (d + 1) 269 158 [some (jR 133), none, some (jI v2), none, none] [jI u0] M Q :=
  (x_zeq c269_158 H.1 (fun h1 => (wp_wk (l' := [some (jR 133), none, some (jI v2), none, none]) ⟨rfl, ⟨rfl, trivial⟩⟩ (H.2.1 h1))) (fun h2 => (x_inc (l' := [some (jR 133), none, some (jI (v2 + 1)), none, none]) c269_161 rfl rfl (x_ildn c269_164 rfl (x_aldn c269_165 rfl (wp_wk (l' := [some (jR 133), none, some (jI (v2 + 1)), none, none]) ⟨rfl, ⟨rfl, trivial⟩⟩ (x_cv (As := []) (st := [jI (v2 + 1)]) c269_166 cl_133 kl248 rfl (Nat.le_of_ble_eq_true rfl) mx248 (Nat.le_refl _) (H.2.2 h2))))))))
theorem s269_169 {kc : List va_E} {d : Nat} {v2 u0 u1 : Int} {M : fx_M} {Q : Option fx_V → fx_M → Prop} (H : ((fx_in32 u1) ∧ (fx_in32 u0)) ∧ (u1 ≠ u0 → (((0 : Int) ≤ v2 ∧ v2 < 9)) ∧ wp kc (d + 1) 269 117 [some (jR 133), none, some (jI v2), none, none] [] (fx_up M 155 v2 (-1)) Q) ∧ (u1 = u0 → Q (some (jI 1)) M)) : wp kc (d + 1) 269 169 [some (jR 133), none, some (jI v2), none, none] [jI u0, jI u1] M Q :=
  (x_cne c269_169 H.1.1 H.1.2 (fun h1 => (x_aldn c269_174 rfl (x_gfr c269_175 k_133_46 (x_ildn c269_178 rfl (x_ci c269_179 (x_iast c269_180 a_155 (H.2.1 h1).1 (by decide) (x_goto c269_181 (wp_wk (l' := [some (jR 133), none, some (jI v2), none, none]) ⟨rfl, ⟨rfl, trivial⟩⟩ (H.2.1 h1).2)))))))) (fun h2 => (x_ci c269_172 (x_zrt c269_173 r269 (by decide) (H.2.2 h2)))))
theorem s269 {kc : List va_E} {d : Nat} {x1 : Int} {M : fx_M} {Q : Option fx_V → fx_M → Prop} (H : ((fx_in32 x1)) ∧ (x1 = 0 → wc kc d 248 [jR 133] M (fun v M1 => wp kc (d + 1) 269 12 [some (jR 133), some (jI x1), none, none, none] (v.toList ++ []) M1 Q)) ∧ (x1 ≠ 0 → ((fx_in32 x1)) ∧ (x1 = 0 → wp kc (d + 1) 269 117 [some (jR 133), none, some (jI 0), none, none] [] M Q) ∧ (x1 ≠ 0 → wp kc (d + 1) 269 28 [some (jR 133), none, some (jI 0), some (jI 0), none] [] (fx_up M 155 0 (-1)) Q))) : wc kc (d + 1) 269 [jR 133, jI x1] M Q :=
  wc_of (wp_wk (l' := [some (jR 133), some (jI x1), none, none, none]) ⟨rfl, ⟨rfl, trivial⟩⟩ (s269_0 H))

/- PuzzleHouseModel.symbolBehind(I)I -/
theorem c270_0 : fx_op 270 0 = some (.aload_n 0, 1, 0) := by decide +kernel
theorem c270_1 : fx_gf 270 1 = some (12, 46, 4) := by decide +kernel
theorem c270_4 : fx_op 270 4 = some (.iload_n 1, 5, 4) := by decide +kernel
theorem c270_6 : fx_ci 270 6 = some (1, 7) := by decide +kernel
theorem c270_7 : fx_op 270 7 = some (.iadd, 8, 7) := by decide +kernel
theorem c270_8 : fx_op 270 8 = some (.istore_n 2, 9, 8) := by decide +kernel
theorem c270_9 : fx_op 270 9 = some (.aload_n 0, 10, 9) := by decide +kernel
theorem c270_10 : fx_op 270 10 = some (.iload_n 1, 11, 10) := by decide +kernel
theorem c270_5 : fx_op 270 5 = some (.iaload, 6, 5) := by decide +kernel
theorem c270_11 : fx_ca 270 11 = some (271, 2, 2, 14) := by decide +kernel
theorem c270_14 : fx_op 270 14 = some (.ifCond .lt 27, 17, 41) := by decide +kernel
theorem c270_17 : fx_op 270 17 = some (.iload_n 2, 18, 17) := by decide +kernel
theorem c270_18 : fx_op 270 18 = some (.aload_n 0, 19, 18) := by decide +kernel
theorem c270_19 : fx_op 270 19 = some (.iload_n 1, 20, 19) := by decide +kernel
theorem c270_41 : fx_op 270 41 = some (.iload_n 2, 42, 41) := by decide +kernel
theorem c270_42 : fx_op 270 42 = some (.ireturn, 43, 42) := by decide +kernel
theorem c270_20 : fx_ca 270 20 = some (271, 2, 2, 23) := by decide +kernel
theorem c270_23 : fx_op 270 23 = some (.if_icmp .gt 11, 26, 34) := by decide +kernel
theorem c270_34 : fx_op 270 34 = some (.aload_n 0, 35, 34) := by decide +kernel
theorem c270_35 : fx_gf 270 35 = some (12, 39, 38) := by decide +kernel
theorem c270_38 : fx_ci 270 38 = some (0, 39) := by decide +kernel
theorem c270_39 : fx_op 270 39 = some (.iaload, 40, 39) := by decide +kernel
theorem c270_26 : fx_op 270 26 = some (.aload_n 0, 27, 26) := by decide +kernel
theorem c270_27 : fx_op 270 27 = some (.iload_n 1, 28, 27) := by decide +kernel
theorem c270_40 : fx_op 270 40 = some (.istore_n 2, 41, 40) := by decide +kernel
theorem c270_28 : fx_ca 270 28 = some (271, 2, 2, 31) := by decide +kernel
theorem c270_31 : fx_op 270 31 = some (.goto 9, 34, 40) := by decide +kernel
theorem s270_0 {kc : List va_E} {d : Nat} {x1 : Int} {M : fx_M} {Q : Option fx_V → fx_M → Prop} (H : (((0 : Int) ≤ x1 ∧ x1 < 9)) ∧ wc kc d 271 [jR 133, jI x1] M (fun v M1 => wp kc (d + 1) 270 14 [some (jR 133), some (jI x1), some (jI ((M 155 x1) + 1))] (v.toList ++ []) M1 Q)) : wp kc (d + 1) 270 0 [some (jR 133), some (jI x1), none] [] M Q :=
  (x_aldn c270_0 rfl (x_gfr c270_1 k_133_46 (x_ildn c270_4 rfl (x_iald c270_5 a_155 H.1 (by decide) (x_ci c270_6 (x_iadd c270_7 (x_istn (l' := [some (jR 133), some (jI x1), some (jI ((M 155 x1) + 1))]) c270_8 rfl (x_aldn c270_9 rfl (x_ildn c270_10 rfl (wp_wk (l' := [some (jR 133), some (jI x1), some (jI ((M 155 x1) + 1))]) ⟨rfl, ⟨rfl, ⟨rfl, trivial⟩⟩⟩ (x_cv (As := [jI x1]) (st := []) c270_11 cl_133 kl271 rfl (Nat.le_of_ble_eq_true rfl) mx271 (Nat.le_refl _) H.2)))))))))))
theorem s270_14 {kc : List va_E} {d : Nat} {v1 v2 u0 : Int} {M : fx_M} {Q : Option fx_V → fx_M → Prop} (H : ((fx_in32 u0)) ∧ (u0 < 0 → Q (some (jI v2)) M) ∧ (0 ≤ u0 → wc kc d 271 [jR 133, jI v1] M (fun v M1 => wp kc (d + 1) 270 23 [some (jR 133), some (jI v1), none] (v.toList ++ [jI v2]) M1 Q))) : wp kc (d + 1) 270 14 [some (jR 133), some (jI v1), some (jI v2)] [jI u0] M Q :=
  (x_zlt c270_14 H.1 (fun h1 => (x_ildn c270_41 rfl (x_irt c270_42 r270 (H.2.1 h1)))) (fun h2 => (x_ildn c270_17 rfl (x_aldn c270_18 rfl (x_ildn c270_19 rfl (wp_wk (l' := [some (jR 133), some (jI v1), none]) ⟨rfl, ⟨rfl, trivial⟩⟩ (x_cv (As := [jI v1]) (st := [jI v2]) c270_20 cl_133 kl271 rfl (Nat.le_of_ble_eq_true rfl) mx271 (Nat.le_refl _) (H.2.2 h2))))))))
theorem s270_23 {kc : List va_E} {d : Nat} {v1 u0 u1 : Int} {M : fx_M} {Q : Option fx_V → fx_M → Prop} (H : ((fx_in32 u1) ∧ (fx_in32 u0)) ∧ (u0 < u1 → Q (some (jI (M 148 0))) M) ∧ (u1 ≤ u0 → wc kc d 271 [jR 133, jI v1] M (fun v M1 => wp kc (d + 1) 270 31 [none, none, none] (v.toList ++ []) M1 Q))) : wp kc (d + 1) 270 23 [some (jR 133), some (jI v1), none] [jI u0, jI u1] M Q :=
  (x_cgt c270_23 H.1.1 H.1.2 (fun h1 => (x_aldn c270_34 rfl (x_gfr c270_35 k_133_39 (x_ci c270_38 (x_iald c270_39 a_148 (by decide) (by decide) (x_istn (l' := [some (jR 133), some (jI v1), some (jI (M 148 0))]) c270_40 rfl (x_ildn c270_41 rfl (x_irt c270_42 r270 (H.2.1 h1))))))))) (fun h2 => (x_aldn c270_26 rfl (x_ildn c270_27 rfl (wp_wk (l' := [none, none, none]) trivial (x_cv (As := [jI v1]) (st := []) c270_28 cl_133 kl271 rfl (Nat.le_of_ble_eq_true rfl) mx271 (Nat.le_refl _) (H.2.2 h2)))))))
theorem s270_31 {kc : List va_E} {d : Nat} {u0 : Int} {M : fx_M} {Q : Option fx_V → fx_M → Prop} (H : Q (some (jI u0)) M) : wp kc (d + 1) 270 31 [none, none, none] [jI u0] M Q :=
  (x_goto c270_31 (x_istn (l' := [none, none, some (jI u0)]) c270_40 rfl (x_ildn c270_41 rfl (x_irt c270_42 r270 H))))
theorem s270 {kc : List va_E} {d : Nat} {x1 : Int} {M : fx_M} {Q : Option fx_V → fx_M → Prop} (H : (((0 : Int) ≤ x1 ∧ x1 < 9)) ∧ wc kc d 271 [jR 133, jI x1] M (fun v M1 => wp kc (d + 1) 270 14 [some (jR 133), some (jI x1), some (jI ((M 155 x1) + 1))] (v.toList ++ []) M1 Q)) : wc kc (d + 1) 270 [jR 133, jI x1] M Q :=
  wc_of (wp_wk (l' := [some (jR 133), some (jI x1), none]) ⟨rfl, ⟨rfl, trivial⟩⟩ (s270_0 H))

/- PuzzleHouseModel.given(I)I -/
theorem c271_0 : fx_op 271 0 = some (.aload_n 0, 1, 0) := by decide +kernel
theorem c271_1 : fx_gf 271 1 = some (12, 45, 4) := by decide +kernel
theorem c271_4 : fx_op 271 4 = some (.iload_n 1, 5, 4) := by decide +kernel
theorem c271_5 : fx_op 271 5 = some (.iaload, 6, 5) := by decide +kernel
theorem c271_6 : fx_op 271 6 = some (.ireturn, 7, 6) := by decide +kernel
theorem s271_0 {kc : List va_E} {d : Nat} {x1 : Int} {M : fx_M} {Q : Option fx_V → fx_M → Prop} (H : (((0 : Int) ≤ x1 ∧ x1 < 90)) ∧ Q (some (jI (M 154 x1))) M) : wp kc (d + 1) 271 0 [some (jR 133), some (jI x1)] [] M Q :=
  (x_aldn c271_0 rfl (x_gfr c271_1 k_133_45 (x_ildn c271_4 rfl (x_iald c271_5 a_154 H.1 (by decide) (x_irt c271_6 r271 H.2)))))
theorem s271 {kc : List va_E} {d : Nat} {x1 : Int} {M : fx_M} {Q : Option fx_V → fx_M → Prop} (H : (((0 : Int) ≤ x1 ∧ x1 < 90)) ∧ Q (some (jI (M 154 x1))) M) : wc kc (d + 1) 271 [jR 133, jI x1] M Q :=
  wc_of (wp_wk (l' := [some (jR 133), some (jI x1)]) ⟨rfl, ⟨rfl, trivial⟩⟩ (s271_0 H))

/- PuzzleHouseModel.isFine(I)Z -/
theorem c272_0 : fx_ci 272 0 = some (0, 1) := by decide +kernel
theorem c272_1 : fx_op 272 1 = some (.istore_n 2, 2, 1) := by decide +kernel
theorem c272_2 : fx_op 272 2 = some (.iload_n 2, 3, 2) := by decide +kernel
theorem c272_3 : fx_op 272 3 = some (.aload_n 0, 4, 3) := by decide +kernel
theorem c272_4 : fx_gf 272 4 = some (12, 40, 7) := by decide +kernel
theorem c272_7 : fx_ci 272 7 = some (0, 8) := by decide +kernel
theorem c272_8 : fx_op 272 8 = some (.iaload, 9, 8) := by decide +kernel
theorem c272_9 : fx_op 272 9 = some (.if_icmp .ge 29, 12, 38) := by decide +kernel
theorem c272_38 : fx_ci 272 38 = some (1, 39) := by decide +kernel
theorem c272_12 : fx_op 272 12 = some (.aload_n 0, 13, 12) := by decide +kernel
theorem c272_13 : fx_gf 272 13 = some (12, 55, 16) := by decide +kernel
theorem c272_16 : fx_op 272 16 = some (.iload_n 2, 17, 16) := by decide +kernel
theorem c272_18 : fx_op 272 18 = some (.iload_n 1, 19, 18) := by decide +kernel
theorem c272_19 : fx_op 272 19 = some (.if_icmp .ne 13, 22, 32) := by decide +kernel
theorem c272_32 : fx_op 272 32 = some (.iinc 2 1, 35, 32) := by decide +kernel
theorem c272_22 : fx_op 272 22 = some (.aload_n 0, 23, 22) := by decide +kernel
theorem c272_23 : fx_op 272 23 = some (.iload_n 2, 24, 23) := by decide +kernel
theorem c272_39 : fx_op 272 39 = some (.ireturn, 40, 39) := by decide +kernel
theorem c272_17 : fx_op 272 17 = some (.iaload, 18, 17) := by decide +kernel
theorem c272_35 : fx_op 272 35 = some (.goto (-33), 38, 2) := by decide +kernel
theorem c272_24 : fx_ca 272 24 = some (273, 2, 2, 27) := by decide +kernel
theorem c272_27 : fx_op 272 27 = some (.ifCond .ne 5, 30, 32) := by decide +kernel
theorem c272_30 : fx_ci 272 30 = some (0, 31) := by decide +kernel
theorem c272_31 : fx_op 272 31 = some (.ireturn, 32, 31) := by decide +kernel
theorem s272_0 {kc : List va_E} {d : Nat} {x1 : Int} {M : fx_M} {Q : Option fx_V → fx_M → Prop} (H : wp kc (d + 1) 272 2 [some (jR 133), some (jI x1), some (jI 0)] [] M Q) : wp kc (d + 1) 272 0 [some (jR 133), some (jI x1), none] [] M Q :=
  (x_ci c272_0 (x_istn (l' := [some (jR 133), some (jI x1), some (jI 0)]) c272_1 rfl (wp_wk (l' := [some (jR 133), some (jI x1), some (jI 0)]) ⟨rfl, ⟨rfl, ⟨rfl, trivial⟩⟩⟩ H)))
theorem s272_2 {kc : List va_E} {d : Nat} {v1 v2 : Int} {M : fx_M} {Q : Option fx_V → fx_M → Prop} (H : ((fx_in32 v2) ∧ (fx_in32 (M 149 0))) ∧ (M 149 0 ≤ v2 → Q (some (jI 1)) M) ∧ (v2 < M 149 0 → (((0 : Int) ≤ v2 ∧ v2 < 12)) ∧ ((fx_in32 (M 159 v2)) ∧ (fx_in32 v1)) ∧ (M 159 v2 ≠ v1 → wp kc (d + 1) 272 2 [some (jR 133), some (jI v1), some (jI (v2 + 1))] [] M Q) ∧ (M 159 v2 = v1 → wc kc d 273 [jR 133, jI v2] M (fun v M1 => wp kc (d + 1) 272 27 [some (jR 133), some (jI v1), some (jI v2)] (v.toList ++ []) M1 Q)))) : wp kc (d + 1) 272 2 [some (jR 133), some (jI v1), some (jI v2)] [] M Q :=
  (x_ildn c272_2 rfl (x_aldn c272_3 rfl (x_gfr c272_4 k_133_40 (x_ci c272_7 (x_iald c272_8 a_149 (by decide) (by decide) (x_cge c272_9 H.1.1 H.1.2 (fun h3 => (x_ci c272_38 (x_zrt c272_39 r272 (by decide) (H.2.1 h3)))) (fun h4 => (x_aldn c272_12 rfl (x_gfr c272_13 k_133_55 (x_ildn c272_16 rfl (x_iald c272_17 a_159 (H.2.2 h4).1 (by decide) (x_ildn c272_18 rfl (x_cne c272_19 (H.2.2 h4).2.1.1 (H.2.2 h4).2.1.2 (fun h1 => (x_inc (l' := [some (jR 133), some (jI v1), some (jI (v2 + 1))]) c272_32 rfl rfl (x_goto c272_35 (wp_wk (l' := [some (jR 133), some (jI v1), some (jI (v2 + 1))]) ⟨rfl, ⟨rfl, ⟨rfl, trivial⟩⟩⟩ ((H.2.2 h4).2.2.1 h1))))) (fun h2 => (x_aldn c272_22 rfl (x_ildn c272_23 rfl (wp_wk (l' := [some (jR 133), some (jI v1), some (jI v2)]) ⟨rfl, ⟨rfl, ⟨rfl, trivial⟩⟩⟩ (x_cv (As := [jI v2]) (st := []) c272_24 cl_133 kl273 rfl (Nat.le_of_ble_eq_true rfl) mx273 (Nat.le_refl _) ((H.2.2 h4).2.2.2 h2)))))))))))))))))))
theorem s272_27 {kc : List va_E} {d : Nat} {v1 v2 u0 : Int} {M : fx_M} {Q : Option fx_V → fx_M → Prop} (H : ((fx_in32 u0)) ∧ (u0 ≠ 0 → wp kc (d + 1) 272 2 [some (jR 133), some (jI v1), some (jI (v2 + 1))] [] M Q) ∧ (u0 = 0 → Q (some (jI 0)) M)) : wp kc (d + 1) 272 27 [some (jR 133), some (jI v1), some (jI v2)] [jI u0] M Q :=
  (x_zne c272_27 H.1 (fun h1 => (x_inc (l' := [some (jR 133), some (jI v1), some (jI (v2 + 1))]) c272_32 rfl rfl (x_goto c272_35 (wp_wk (l' := [some (jR 133), some (jI v1), some (jI (v2 + 1))]) ⟨rfl, ⟨rfl, ⟨rfl, trivial⟩⟩⟩ (H.2.1 h1))))) (fun h2 => (x_ci c272_30 (x_zrt c272_31 r272 (by decide) (H.2.2 h2)))))
theorem s272 {kc : List va_E} {d : Nat} {x1 : Int} {M : fx_M} {Q : Option fx_V → fx_M → Prop} (H : wp kc (d + 1) 272 2 [some (jR 133), some (jI x1), some (jI 0)] [] M Q) : wc kc (d + 1) 272 [jR 133, jI x1] M Q :=
  wc_of (wp_wk (l' := [some (jR 133), some (jI x1), none]) ⟨rfl, ⟨rfl, trivial⟩⟩ (s272_0 H))

/- PuzzleHouseModel.isMet(I)Z -/
theorem c273_0 : fx_ci 273 0 = some (0, 1) := by decide +kernel
theorem c273_1 : fx_op 273 1 = some (.istore_n 2, 2, 1) := by decide +kernel
theorem c273_2 : fx_ci 273 2 = some (0, 3) := by decide +kernel
theorem c273_3 : fx_op 273 3 = some (.istore_n 3, 4, 3) := by decide +kernel
theorem c273_4 : fx_ci 273 4 = some (0, 5) := by decide +kernel
theorem c273_5 : fx_op 273 5 = some (.istore 4, 7, 5) := by decide +kernel
theorem c273_7 : fx_ci 273 7 = some ((-1), 8) := by decide +kernel
theorem c273_8 : fx_op 273 8 = some (.istore 5, 10, 8) := by decide +kernel
theorem c273_10 : fx_ci 273 10 = some (0, 11) := by decide +kernel
theorem c273_11 : fx_op 273 11 = some (.istore 6, 13, 11) := by decide +kernel
theorem c273_13 : fx_op 273 13 = some (.iload 6, 15, 13) := by decide +kernel
theorem c273_15 : fx_op 273 15 = some (.aload_n 0, 16, 15) := by decide +kernel
theorem c273_16 : fx_gf 273 16 = some (12, 43, 19) := by decide +kernel
theorem c273_19 : fx_op 273 19 = some (.iload_n 1, 20, 19) := by decide +kernel
theorem c273_21 : fx_op 273 21 = some (.if_icmp .ge 75, 24, 96) := by decide +kernel
theorem c273_24 : fx_op 273 24 = some (.aload_n 0, 25, 24) := by decide +kernel
theorem c273_25 : fx_op 273 25 = some (.iload_n 1, 26, 25) := by decide +kernel
theorem c273_26 : fx_op 273 26 = some (.iload 6, 28, 26) := by decide +kernel
theorem c273_96 : fx_op 273 96 = some (.aload_n 0, 97, 96) := by decide +kernel
theorem c273_97 : fx_gf 273 97 = some (12, 41, 100) := by decide +kernel
theorem c273_100 : fx_op 273 100 = some (.iload_n 1, 101, 100) := by decide +kernel
theorem c273_148 : fx_op 273 148 = some (.aload_n 0, 149, 148) := by decide +kernel
theorem c273_149 : fx_op 273 149 = some (.iload_n 1, 150, 149) := by decide +kernel
theorem c273_154 : fx_op 273 154 = some (.iload_n 3, 155, 154) := by decide +kernel
theorem c273_155 : fx_op 273 155 = some (.aload_n 0, 156, 155) := by decide +kernel
theorem c273_156 : fx_gf 273 156 = some (12, 43, 159) := by decide +kernel
theorem c273_159 : fx_op 273 159 = some (.iload_n 1, 160, 159) := by decide +kernel
theorem c273_161 : fx_op 273 161 = some (.if_icmp .ne 7, 164, 168) := by decide +kernel
theorem c273_168 : fx_ci 273 168 = some (0, 169) := by decide +kernel
theorem c273_164 : fx_ci 273 164 = some (1, 165) := by decide +kernel
theorem c273_165 : fx_op 273 165 = some (.goto 4, 168, 169) := by decide +kernel
theorem c273_170 : fx_op 273 170 = some (.aload_n 0, 171, 170) := by decide +kernel
theorem c273_171 : fx_op 273 171 = some (.iload_n 1, 172, 171) := by decide +kernel
theorem c273_225 : fx_op 273 225 = some (.aload_n 0, 226, 225) := by decide +kernel
theorem c273_226 : fx_op 273 226 = some (.iload_n 1, 227, 226) := by decide +kernel
theorem c273_176 : fx_op 273 176 = some (.iload_n 2, 177, 176) := by decide +kernel
theorem c273_177 : fx_op 273 177 = some (.aload_n 0, 178, 177) := by decide +kernel
theorem c273_178 : fx_gf 273 178 = some (12, 42, 181) := by decide +kernel
theorem c273_181 : fx_op 273 181 = some (.iload_n 1, 182, 181) := by decide +kernel
theorem c273_183 : fx_op 273 183 = some (.if_icmp .ne 7, 186, 190) := by decide +kernel
theorem c273_190 : fx_ci 273 190 = some (0, 191) := by decide +kernel
theorem c273_186 : fx_ci 273 186 = some (1, 187) := by decide +kernel
theorem c273_187 : fx_op 273 187 = some (.goto 4, 190, 191) := by decide +kernel
theorem c273_192 : fx_op 273 192 = some (.iload_n 3, 193, 192) := by decide +kernel
theorem c273_193 : fx_op 273 193 = some (.aload_n 0, 194, 193) := by decide +kernel
theorem c273_194 : fx_gf 273 194 = some (12, 42, 197) := by decide +kernel
theorem c273_197 : fx_op 273 197 = some (.iload_n 1, 198, 197) := by decide +kernel
theorem c273_199 : fx_op 273 199 = some (.if_icmp .ne 7, 202, 206) := by decide +kernel
theorem c273_206 : fx_ci 273 206 = some (0, 207) := by decide +kernel
theorem c273_202 : fx_ci 273 202 = some (1, 203) := by decide +kernel
theorem c273_203 : fx_op 273 203 = some (.goto 4, 206, 207) := by decide +kernel
theorem c273_208 : fx_op 273 208 = some (.iload 4, 210, 208) := by decide +kernel
theorem c273_210 : fx_op 273 210 = some (.aload_n 0, 211, 210) := by decide +kernel
theorem c273_211 : fx_gf 273 211 = some (12, 42, 214) := by decide +kernel
theorem c273_214 : fx_op 273 214 = some (.iload_n 1, 215, 214) := by decide +kernel
theorem c273_216 : fx_op 273 216 = some (.if_icmp .ne 7, 219, 223) := by decide +kernel
theorem c273_223 : fx_ci 273 223 = some (0, 224) := by decide +kernel
theorem c273_219 : fx_ci 273 219 = some (1, 220) := by decide +kernel
theorem c273_220 : fx_op 273 220 = some (.goto 4, 223, 224) := by decide +kernel
theorem c273_20 : fx_op 273 20 = some (.iaload, 21, 20) := by decide +kernel
theorem c273_101 : fx_op 273 101 = some (.iaload, 102, 101) := by decide +kernel
theorem c273_150 : fx_ca 273 150 = some (275, 2, 2, 153) := by decide +kernel
theorem c273_160 : fx_op 273 160 = some (.iaload, 161, 160) := by decide +kernel
theorem c273_169 : fx_op 273 169 = some (.ireturn, 170, 169) := by decide +kernel
theorem c273_172 : fx_ca 273 172 = some (276, 2, 2, 175) := by decide +kernel
theorem c273_227 : fx_ca 273 227 = some (278, 2, 2, 230) := by decide +kernel
theorem c273_182 : fx_op 273 182 = some (.iaload, 183, 182) := by decide +kernel
theorem c273_191 : fx_op 273 191 = some (.ireturn, 192, 191) := by decide +kernel
theorem c273_198 : fx_op 273 198 = some (.iaload, 199, 198) := by decide +kernel
theorem c273_207 : fx_op 273 207 = some (.ireturn, 208, 207) := by decide +kernel
theorem c273_215 : fx_op 273 215 = some (.iaload, 216, 215) := by decide +kernel
theorem c273_224 : fx_op 273 224 = some (.ireturn, 225, 224) := by decide +kernel
theorem c273_102 : fx_ts 273 102 = some (45, [148, 154, 170, 225, 176, 192, 225, 208], 225) := by decide +kernel
theorem c273_28 : fx_ca 273 28 = some (274, 3, 2, 31) := by decide +kernel
theorem c273_153 : fx_op 273 153 = some (.ireturn, 154, 153) := by decide +kernel
theorem c273_175 : fx_op 273 175 = some (.ireturn, 176, 175) := by decide +kernel
theorem c273_230 : fx_op 273 230 = some (.ireturn, 231, 230) := by decide +kernel
theorem c273_31 : fx_op 273 31 = some (.istore 7, 33, 31) := by decide +kernel
theorem c273_33 : fx_op 273 33 = some (.iload_n 2, 34, 33) := by decide +kernel
theorem c273_34 : fx_op 273 34 = some (.iload 7, 36, 34) := by decide +kernel
theorem c273_36 : fx_op 273 36 = some (.iadd, 37, 36) := by decide +kernel
theorem c273_37 : fx_op 273 37 = some (.istore_n 2, 38, 37) := by decide +kernel
theorem c273_38 : fx_op 273 38 = some (.iload_n 3, 39, 38) := by decide +kernel
theorem c273_39 : fx_op 273 39 = some (.iload 7, 41, 39) := by decide +kernel
theorem c273_41 : fx_op 273 41 = some (.aload_n 0, 42, 41) := by decide +kernel
theorem c273_42 : fx_op 273 42 = some (.iload_n 1, 43, 42) := by decide +kernel
theorem c273_43 : fx_ci 273 43 = some (0, 44) := by decide +kernel
theorem c273_44 : fx_ca 273 44 = some (274, 3, 2, 47) := by decide +kernel
theorem c273_47 : fx_op 273 47 = some (.if_icmp .ne 7, 50, 54) := by decide +kernel
theorem c273_54 : fx_ci 273 54 = some (0, 55) := by decide +kernel
theorem c273_50 : fx_ci 273 50 = some (1, 51) := by decide +kernel
theorem c273_51 : fx_op 273 51 = some (.goto 4, 54, 55) := by decide +kernel
theorem c273_55 : fx_op 273 55 = some (.iadd, 56, 55) := by decide +kernel
theorem c273_56 : fx_op 273 56 = some (.istore_n 3, 57, 56) := by decide +kernel
theorem c273_57 : fx_op 273 57 = some (.iload 4, 59, 57) := by decide +kernel
theorem c273_59 : fx_op 273 59 = some (.iload 7, 61, 59) := by decide +kernel
theorem c273_61 : fx_op 273 61 = some (.iload 5, 63, 61) := by decide +kernel
theorem c273_63 : fx_op 273 63 = some (.if_icmp .le 7, 66, 70) := by decide +kernel
theorem c273_70 : fx_ci 273 70 = some (0, 71) := by decide +kernel
theorem c273_66 : fx_ci 273 66 = some (1, 67) := by decide +kernel
theorem c273_67 : fx_op 273 67 = some (.goto 4, 70, 71) := by decide +kernel
theorem c273_71 : fx_op 273 71 = some (.iadd, 72, 71) := by decide +kernel
theorem c273_72 : fx_op 273 72 = some (.istore 4, 74, 72) := by decide +kernel
theorem c273_74 : fx_op 273 74 = some (.iload 7, 76, 74) := by decide +kernel
theorem c273_76 : fx_op 273 76 = some (.iload 5, 78, 76) := by decide +kernel
theorem c273_78 : fx_op 273 78 = some (.if_icmp .le 8, 81, 86) := by decide +kernel
theorem c273_86 : fx_op 273 86 = some (.iload 5, 88, 86) := by decide +kernel
theorem c273_81 : fx_op 273 81 = some (.iload 7, 83, 81) := by decide +kernel
theorem c273_83 : fx_op 273 83 = some (.goto 5, 86, 88) := by decide +kernel
theorem c273_88 : fx_op 273 88 = some (.istore 5, 90, 88) := by decide +kernel
theorem c273_90 : fx_op 273 90 = some (.iinc 6 1, 93, 90) := by decide +kernel
theorem c273_93 : fx_op 273 93 = some (.goto (-80), 96, 13) := by decide +kernel
theorem s273_0 {kc : List va_E} {d : Nat} {x1 : Int} {M : fx_M} {Q : Option fx_V → fx_M → Prop} (H : wp kc (d + 1) 273 13 [some (jR 133), some (jI x1), some (jI 0), some (jI 0), some (jI 0), some (jI (-1)), some (jI 0), none] [] M Q) : wp kc (d + 1) 273 0 [some (jR 133), some (jI x1), none, none, none, none, none, none] [] M Q :=
  (x_ci c273_0 (x_istn (l' := [some (jR 133), some (jI x1), some (jI 0), none, none, none, none, none]) c273_1 rfl (x_ci c273_2 (x_istn (l' := [some (jR 133), some (jI x1), some (jI 0), some (jI 0), none, none, none, none]) c273_3 rfl (x_ci c273_4 (x_ist (l' := [some (jR 133), some (jI x1), some (jI 0), some (jI 0), some (jI 0), none, none, none]) c273_5 rfl (x_ci c273_7 (x_ist (l' := [some (jR 133), some (jI x1), some (jI 0), some (jI 0), some (jI 0), some (jI (-1)), none, none]) c273_8 rfl (x_ci c273_10 (x_ist (l' := [some (jR 133), some (jI x1), some (jI 0), some (jI 0), some (jI 0), some (jI (-1)), some (jI 0), none]) c273_11 rfl (wp_wk (l' := [some (jR 133), some (jI x1), some (jI 0), some (jI 0), some (jI 0), some (jI (-1)), some (jI 0), none]) ⟨rfl, ⟨rfl, ⟨rfl, ⟨rfl, ⟨rfl, ⟨rfl, ⟨rfl, trivial⟩⟩⟩⟩⟩⟩⟩ H)))))))))))
theorem s273_13 {kc : List va_E} {d : Nat} {v1 v2 v3 v4 v5 v6 : Int} {M : fx_M} {Q : Option fx_V → fx_M → Prop} (H : (((0 : Int) ≤ v1 ∧ v1 < 120)) ∧ ((fx_in32 v6) ∧ (fx_in32 (M 152 v1))) ∧ (M 152 v1 ≤ v6 → (((0 : Int) ≤ v1 ∧ v1 < 120)) ∧ (fx_in32 (M 150 v1) ∧ (M 150 v1 = 45 → wc kc d 275 [jR 133, jI v1] M (fun v M1 => wp kc (d + 1) 273 153 [none, none, none, none, none, none, none, none] (v.toList ++ []) M1 Q)) ∧ (M 150 v1 = 46 → (((0 : Int) ≤ v1 ∧ v1 < 120)) ∧ ((fx_in32 v3)) ∧ ((fx_in32 (M 152 v1))) ∧ ((0 : Int) ≤ (if v3 = M 152 v1 then (1 : Int) else 0) ∧ (if v3 = M 152 v1 then (1 : Int) else 0) ≤ 1) ∧ Q (some (jI (if v3 = M 152 v1 then (1 : Int) else 0))) M) ∧ (M 150 v1 = 47 → wc kc d 276 [jR 133, jI v1] M (fun v M1 => wp kc (d + 1) 273 175 [none, none, none, none, none, none, none, none] (v.toList ++ []) M1 Q)) ∧ (M 150 v1 = 48 → wc kc d 278 [jR 133, jI v1] M (fun v M1 => wp kc (d + 1) 273 230 [none, none, none, none, none, none, none, none] (v.toList ++ []) M1 Q)) ∧ (M 150 v1 = 49 → (((0 : Int) ≤ v1 ∧ v1 < 120)) ∧ ((fx_in32 v2)) ∧ ((fx_in32 (M 151 v1))) ∧ ((0 : Int) ≤ (if v2 = M 151 v1 then (1 : Int) else 0) ∧ (if v2 = M 151 v1 then (1 : Int) else 0) ≤ 1) ∧ Q (some (jI (if v2 = M 151 v1 then (1 : Int) else 0))) M) ∧ (M 150 v1 = 50 → (((0 : Int) ≤ v1 ∧ v1 < 120)) ∧ ((fx_in32 v3)) ∧ ((fx_in32 (M 151 v1))) ∧ ((0 : Int) ≤ (if v3 = M 151 v1 then (1 : Int) else 0) ∧ (if v3 = M 151 v1 then (1 : Int) else 0) ≤ 1) ∧ Q (some (jI (if v3 = M 151 v1 then (1 : Int) else 0))) M) ∧ (M 150 v1 = 51 → wc kc d 278 [jR 133, jI v1] M (fun v M1 => wp kc (d + 1) 273 230 [none, none, none, none, none, none, none, none] (v.toList ++ []) M1 Q)) ∧ (M 150 v1 = 52 → (((0 : Int) ≤ v1 ∧ v1 < 120)) ∧ ((fx_in32 v4)) ∧ ((fx_in32 (M 151 v1))) ∧ ((0 : Int) ≤ (if v4 = M 151 v1 then (1 : Int) else 0) ∧ (if v4 = M 151 v1 then (1 : Int) else 0) ≤ 1) ∧ Q (some (jI (if v4 = M 151 v1 then (1 : Int) else 0))) M) ∧ ((M 150 v1 < 45 ∨ 53 ≤ M 150 v1) → wc kc d 278 [jR 133, jI v1] M (fun v M1 => wp kc (d + 1) 273 230 [none, none, none, none, none, none, none, none] (v.toList ++ []) M1 Q)))) ∧ (v6 < M 152 v1 → wc kc d 274 [jR 133, jI v1, jI v6] M (fun v M1 => wp kc (d + 1) 273 31 [some (jR 133), some (jI v1), some (jI v2), some (jI v3), some (jI v4), some (jI v5), some (jI v6), none] (v.toList ++ []) M1 Q))) : wp kc (d + 1) 273 13 [some (jR 133), some (jI v1), some (jI v2), some (jI v3), some (jI v4), some (jI v5), some (jI v6), none] [] M Q :=
  (x_ild c273_13 rfl (x_aldn c273_15 rfl (x_gfr c273_16 k_133_43 (x_ildn c273_19 rfl (x_iald c273_20 a_152 H.1 (by decide) (x_cge c273_21 H.2.1.1 H.2.1.2 (fun h1 => (x_aldn c273_96 rfl (x_gfr c273_97 k_133_41 (x_ildn c273_100 rfl (x_iald c273_101 a_150 (H.2.2.1 h1).1 (by decide) (x_sw c273_102 (H.2.2.1 h1).2.1 ⟨fun h3 => (x_aldn c273_148 rfl (x_ildn c273_149 rfl (wp_wk (l' := [none, none, none, none, none, none, none, none]) trivial (x_cv (As := [jI v1]) (st := []) c273_150 cl_133 kl275 rfl (Nat.le_of_ble_eq_true rfl) mx275 (Nat.le_refl _) ((H.2.2.1 h1).2.2.1 h3))))), ⟨fun h4 => (x_ildn c273_154 rfl (x_aldn c273_155 rfl (x_gfr c273_156 k_133_43 (x_ildn c273_159 rfl (x_iald c273_160 a_152 ((H.2.2.1 h1).2.2.2.1 h4).1 (by decide) (have K : wp kc (d + 1) 273 169 [none, none, none, none, none, none, none, none] [jI (if v3 = M 152 v1 then (1 : Int) else 0)] M Q := (x_zrt c273_169 r273 ((H.2.2.1 h1).2.2.2.1 h4).2.2.2.1 ((H.2.2.1 h1).2.2.2.1 h4).2.2.2.2); (x_cne c273_161 ((H.2.2.1 h1).2.2.2.1 h4).2.1 ((H.2.2.1 h1).2.2.2.1 h4).2.2.1 (fun (h5 : v3 ≠ M 152 v1) => (x_ci c273_168 (wp_wk (l' := [none, none, none, none, none, none, none, none]) trivial (by have K := K; first | (simp only [if_neg h5] at K ⊢; exact K) | (exfalso; omega))))) (fun (h6 : v3 = M 152 v1) => (x_ci c273_164 (x_goto c273_165 (wp_wk (l' := [none, none, none, none, none, none, none, none]) trivial (by have K := K; first | (simp only [if_pos h6] at K ⊢; exact K) | (exfalso; omega))))))))))))), ⟨fun h7 => (x_aldn c273_170 rfl (x_ildn c273_171 rfl (wp_wk (l' := [none, none, none, none, none, none, none, none]) trivial (x_cv (As := [jI v1]) (st := []) c273_172 cl_133 kl276 rfl (Nat.le_of_ble_eq_true rfl) mx276 (Nat.le_refl _) ((H.2.2.1 h1).2.2.2.2.1 h7))))), ⟨fun h8 => (x_aldn c273_225 rfl (x_ildn c273_226 rfl (wp_wk (l' := [none, none, none, none, none, none, none, none]) trivial (x_cv (As := [jI v1]) (st := []) c273_227 cl_133 kl278 rfl (Nat.le_of_ble_eq_true rfl) mx278 (Nat.le_refl _) ((H.2.2.1 h1).2.2.2.2.2.1 h8))))), ⟨fun h9 => (x_ildn c273_176 rfl (x_aldn c273_177 rfl (x_gfr c273_178 k_133_42 (x_ildn c273_181 rfl (x_iald c273_182 a_151 ((H.2.2.1 h1).2.2.2.2.2.2.1 h9).1 (by decide) (have K : wp kc (d + 1) 273 191 [none, none, none, none, none, none, none, none] [jI (if v2 = M 151 v1 then (1 : Int) else 0)] M Q := (x_zrt c273_191 r273 ((H.2.2.1 h1).2.2.2.2.2.2.1 h9).2.2.2.1 ((H.2.2.1 h1).2.2.2.2.2.2.1 h9).2.2.2.2); (x_cne c273_183 ((H.2.2.1 h1).2.2.2.2.2.2.1 h9).2.1 ((H.2.2.1 h1).2.2.2.2.2.2.1 h9).2.2.1 (fun (h10 : v2 ≠ M 151 v1) => (x_ci c273_190 (wp_wk (l' := [none, none, none, none, none, none, none, none]) trivial (by have K := K; first | (simp only [if_neg h10] at K ⊢; exact K) | (exfalso; omega))))) (fun (h11 : v2 = M 151 v1) => (x_ci c273_186 (x_goto c273_187 (wp_wk (l' := [none, none, none, none, none, none, none, none]) trivial (by have K := K; first | (simp only [if_pos h11] at K ⊢; exact K) | (exfalso; omega))))))))))))), ⟨fun h12 => (x_ildn c273_192 rfl (x_aldn c273_193 rfl (x_gfr c273_194 k_133_42 (x_ildn c273_197 rfl (x_iald c273_198 a_151 ((H.2.2.1 h1).2.2.2.2.2.2.2.1 h12).1 (by decide) (have K : wp kc (d + 1) 273 207 [none, none, none, none, none, none, none, none] [jI (if v3 = M 151 v1 then (1 : Int) else 0)] M Q := (x_zrt c273_207 r273 ((H.2.2.1 h1).2.2.2.2.2.2.2.1 h12).2.2.2.1 ((H.2.2.1 h1).2.2.2.2.2.2.2.1 h12).2.2.2.2); (x_cne c273_199 ((H.2.2.1 h1).2.2.2.2.2.2.2.1 h12).2.1 ((H.2.2.1 h1).2.2.2.2.2.2.2.1 h12).2.2.1 (fun (h13 : v3 ≠ M 151 v1) => (x_ci c273_206 (wp_wk (l' := [none, none, none, none, none, none, none, none]) trivial (by have K := K; first | (simp only [if_neg h13] at K ⊢; exact K) | (exfalso; omega))))) (fun (h14 : v3 = M 151 v1) => (x_ci c273_202 (x_goto c273_203 (wp_wk (l' := [none, none, none, none, none, none, none, none]) trivial (by have K := K; first | (simp only [if_pos h14] at K ⊢; exact K) | (exfalso; omega))))))))))))), ⟨fun h15 => (x_aldn c273_225 rfl (x_ildn c273_226 rfl (wp_wk (l' := [none, none, none, none, none, none, none, none]) trivial (x_cv (As := [jI v1]) (st := []) c273_227 cl_133 kl278 rfl (Nat.le_of_ble_eq_true rfl) mx278 (Nat.le_refl _) ((H.2.2.1 h1).2.2.2.2.2.2.2.2.1 h15))))), ⟨fun h16 => (x_ild c273_208 rfl (x_aldn c273_210 rfl (x_gfr c273_211 k_133_42 (x_ildn c273_214 rfl (x_iald c273_215 a_151 ((H.2.2.1 h1).2.2.2.2.2.2.2.2.2.1 h16).1 (by decide) (have K : wp kc (d + 1) 273 224 [none, none, none, none, none, none, none, none] [jI (if v4 = M 151 v1 then (1 : Int) else 0)] M Q := (x_zrt c273_224 r273 ((H.2.2.1 h1).2.2.2.2.2.2.2.2.2.1 h16).2.2.2.1 ((H.2.2.1 h1).2.2.2.2.2.2.2.2.2.1 h16).2.2.2.2); (x_cne c273_216 ((H.2.2.1 h1).2.2.2.2.2.2.2.2.2.1 h16).2.1 ((H.2.2.1 h1).2.2.2.2.2.2.2.2.2.1 h16).2.2.1 (fun (h17 : v4 ≠ M 151 v1) => (x_ci c273_223 (wp_wk (l' := [none, none, none, none, none, none, none, none]) trivial (by have K := K; first | (simp only [if_neg h17] at K ⊢; exact K) | (exfalso; omega))))) (fun (h18 : v4 = M 151 v1) => (x_ci c273_219 (x_goto c273_220 (wp_wk (l' := [none, none, none, none, none, none, none, none]) trivial (by have K := K; first | (simp only [if_pos h18] at K ⊢; exact K) | (exfalso; omega))))))))))))), trivial⟩⟩⟩⟩⟩⟩⟩⟩ (fun h19 => (x_aldn c273_225 rfl (x_ildn c273_226 rfl (wp_wk (l' := [none, none, none, none, none, none, none, none]) trivial (x_cv (As := [jI v1]) (st := []) c273_227 cl_133 kl278 rfl (Nat.le_of_ble_eq_true rfl) mx278 (Nat.le_refl _) ((H.2.2.1 h1).2.2.2.2.2.2.2.2.2.2 h19)))))))))))) (fun h2 => (x_aldn c273_24 rfl (x_ildn c273_25 rfl (x_ild c273_26 rfl (wp_wk (l' := [some (jR 133), some (jI v1), some (jI v2), some (jI v3), some (jI v4), some (jI v5), some (jI v6), none]) ⟨rfl, ⟨rfl, ⟨rfl, ⟨rfl, ⟨rfl, ⟨rfl, ⟨rfl, trivial⟩⟩⟩⟩⟩⟩⟩ (x_cv (As := [jI v1, jI v6]) (st := []) c273_28 cl_133 kl274 rfl (Nat.le_of_ble_eq_true rfl) mx274 (Nat.le_refl _) (H.2.2.2 h2)))))))))))))
theorem s273_31 {kc : List va_E} {d : Nat} {v1 v2 v3 v4 v5 v6 u0 : Int} {M : fx_M} {Q : Option fx_V → fx_M → Prop} (H : wc kc d 274 [jR 133, jI v1, jI 0] M (fun v M1 => wp kc (d + 1) 273 47 [some (jR 133), some (jI v1), some (jI (v2 + u0)), none, some (jI v4), some (jI v5), some (jI v6), some (jI u0)] (v.toList ++ [jI u0, jI v3]) M1 Q)) : wp kc (d + 1) 273 31 [some (jR 133), some (jI v1), some (jI v2), some (jI v3), some (jI v4), some (jI v5), some (jI v6), none] [jI u0] M Q :=
  (x_ist (l' := [some (jR 133), some (jI v1), some (jI v2), some (jI v3), some (jI v4), some (jI v5), some (jI v6), some (jI u0)]) c273_31 rfl (x_ildn c273_33 rfl (x_ild c273_34 rfl (x_iadd c273_36 (x_istn (l' := [some (jR 133), some (jI v1), some (jI (v2 + u0)), some (jI v3), some (jI v4), some (jI v5), some (jI v6), some (jI u0)]) c273_37 rfl (x_ildn c273_38 rfl (x_ild c273_39 rfl (x_aldn c273_41 rfl (x_ildn c273_42 rfl (x_ci c273_43 (wp_wk (l' := [some (jR 133), some (jI v1), some (jI (v2 + u0)), none, some (jI v4), some (jI v5), some (jI v6), some (jI u0)]) ⟨rfl, ⟨rfl, ⟨rfl, ⟨rfl, ⟨rfl, ⟨rfl, ⟨rfl, trivial⟩⟩⟩⟩⟩⟩⟩ (x_cv (As := [jI v1, jI 0]) (st := [jI u0, jI v3]) c273_44 cl_133 kl274 rfl (Nat.le_of_ble_eq_true rfl) mx274 (Nat.le_refl _) H))))))))))))
theorem s273_47 {kc : List va_E} {d : Nat} {v1 v2 v4 v5 v6 v7 u0 u1 u2 : Int} {M : fx_M} {Q : Option fx_V → fx_M → Prop} (H : ((fx_in32 u1)) ∧ ((fx_in32 u0)) ∧ ((fx_in32 v7)) ∧ ((fx_in32 v5)) ∧ ((fx_in32 v7)) ∧ ((fx_in32 v5)) ∧ wp kc (d + 1) 273 13 [some (jR 133), some (jI v1), some (jI v2), some (jI (u2 + (if u1 = u0 then (1 : Int) else 0))), some (jI (v4 + (if v5 < v7 then (1 : Int) else 0))), some (jI (if v5 < v7 then (v7 : Int) else v5)), some (jI (v6 + 1)), none] [] M Q) : wp kc (d + 1) 273 47 [some (jR 133), some (jI v1), some (jI v2), none, some (jI v4), some (jI v5), some (jI v6), some (jI v7)] [jI u0, jI u1, jI u2] M Q :=
  (have K : wp kc (d + 1) 273 55 [some (jR 133), some (jI v1), some (jI v2), none, some (jI v4), some (jI v5), some (jI v6), some (jI v7)] [jI (if u1 = u0 then (1 : Int) else 0), jI u2] M Q := (x_iadd c273_55 (x_istn (l' := [some (jR 133), some (jI v1), some (jI v2), some (jI (u2 + (if u1 = u0 then (1 : Int) else 0))), some (jI v4), some (jI v5), some (jI v6), some (jI v7)]) c273_56 rfl (x_ild c273_57 rfl (x_ild c273_59 rfl (x_ild c273_61 rfl (have K : wp kc (d + 1) 273 71 [some (jR 133), some (jI v1), some (jI v2), some (jI (u2 + (if u1 = u0 then (1 : Int) else 0))), none, some (jI v5), some (jI v6), some (jI v7)] [jI (if v5 < v7 then (1 : Int) else 0), jI v4] M Q := (x_iadd c273_71 (x_ist (l' := [some (jR 133), some (jI v1), some (jI v2), some (jI (u2 + (if u1 = u0 then (1 : Int) else 0))), some (jI (v4 + (if v5 < v7 then (1 : Int) else 0))), some (jI v5), some (jI v6), some (jI v7)]) c273_72 rfl (x_ild c273_74 rfl (x_ild c273_76 rfl (have K : wp kc (d + 1) 273 88 [some (jR 133), some (jI v1), some (jI v2), some (jI (u2 + (if u1 = u0 then (1 : Int) else 0))), some (jI (v4 + (if v5 < v7 then (1 : Int) else 0))), none, some (jI v6), none] [jI (if v5 < v7 then (v7 : Int) else v5)] M Q := (x_ist (l' := [some (jR 133), some (jI v1), some (jI v2), some (jI (u2 + (if u1 = u0 then (1 : Int) else 0))), some (jI (v4 + (if v5 < v7 then (1 : Int) else 0))), some (jI (if v5 < v7 then (v7 : Int) else v5)), some (jI v6), none]) c273_88 rfl (x_inc (l' := [some (jR 133), some (jI v1), some (jI v2), some (jI (u2 + (if u1 = u0 then (1 : Int) else 0))), some (jI (v4 + (if v5 < v7 then (1 : Int) else 0))), some (jI (if v5 < v7 then (v7 : Int) else v5)), some (jI (v6 + 1)), none]) c273_90 rfl rfl (x_goto c273_93 (wp_wk (l' := [some (jR 133), some (jI v1), some (jI v2), some (jI (u2 + (if u1 = u0 then (1 : Int) else 0))), some (jI (v4 + (if v5 < v7 then (1 : Int) else 0))), some (jI (if v5 < v7 then (v7 : Int) else v5)), some (jI (v6 + 1)), none]) ⟨rfl, ⟨rfl, ⟨rfl, ⟨rfl, ⟨rfl, ⟨rfl, ⟨rfl, trivial⟩⟩⟩⟩⟩⟩⟩ H.2.2.2.2.2.2)))); (x_cle c273_78 H.2.2.2.2.1 H.2.2.2.2.2.1 (fun (h5 : v7 ≤ v5) => (x_ild c273_86 rfl (wp_wk (l' := [some (jR 133), some (jI v1), some (jI v2), some (jI (u2 + (if u1 = u0 then (1 : Int) else 0))), some (jI (v4 + (if v5 < v7 then (1 : Int) else 0))), none, some (jI v6), none]) ⟨rfl, ⟨rfl, ⟨rfl, ⟨rfl, ⟨rfl, ⟨rfl, trivial⟩⟩⟩⟩⟩⟩ (by have K := K; first | (simp only [if_neg (Int.not_lt.mpr h5)] at K ⊢; exact K) | (exfalso; omega))))) (fun (h6 : v5 < v7) => (x_ild c273_81 rfl (x_goto c273_83 (wp_wk (l' := [some (jR 133), some (jI v1), some (jI v2), some (jI (u2 + (if u1 = u0 then (1 : Int) else 0))), some (jI (v4 + (if v5 < v7 then (1 : Int) else 0))), none, some (jI v6), none]) ⟨rfl, ⟨rfl, ⟨rfl, ⟨rfl, ⟨rfl, ⟨rfl, trivial⟩⟩⟩⟩⟩⟩ (by have K := K; first | (simp only [if_pos h6] at K ⊢; exact K) | (exfalso; omega)))))))))))); (x_cle c273_63 H.2.2.1 H.2.2.2.1 (fun (h3 : v7 ≤ v5) => (x_ci c273_70 (wp_wk (l' := [some (jR 133), some (jI v1), some (jI v2), some (jI (u2 + (if u1 = u0 then (1 : Int) else 0))), none, some (jI v5), some (jI v6), some (jI v7)]) ⟨rfl, ⟨rfl, ⟨rfl, ⟨rfl, ⟨rfl, ⟨rfl, ⟨rfl, trivial⟩⟩⟩⟩⟩⟩⟩ (by have K := K; first | (simp only [if_neg (Int.not_lt.mpr h3)] at K ⊢; exact K) | (exfalso; omega))))) (fun (h4 : v5 < v7) => (x_ci c273_66 (x_goto c273_67 (wp_wk (l' := [some (jR 133), some (jI v1), some (jI v2), some (jI (u2 + (if u1 = u0 then (1 : Int) else 0))), none, some (jI v5), some (jI v6), some (jI v7)]) ⟨rfl, ⟨rfl, ⟨rfl, ⟨rfl, ⟨rfl, ⟨rfl, ⟨rfl, trivial⟩⟩⟩⟩⟩⟩⟩ (by have K := K; first | (simp only [if_pos h4] at K ⊢; exact K) | (exfalso; omega))))))))))))); (x_cne c273_47 H.1 H.2.1 (fun (h1 : u1 ≠ u0) => (x_ci c273_54 (wp_wk (l' := [some (jR 133), some (jI v1), some (jI v2), none, some (jI v4), some (jI v5), some (jI v6), some (jI v7)]) ⟨rfl, ⟨rfl, ⟨rfl, ⟨rfl, ⟨rfl, ⟨rfl, ⟨rfl, trivial⟩⟩⟩⟩⟩⟩⟩ (by have K := K; first | (simp only [if_neg h1] at K ⊢; exact K) | (exfalso; omega))))) (fun (h2 : u1 = u0) => (x_ci c273_50 (x_goto c273_51 (wp_wk (l' := [some (jR 133), some (jI v1), some (jI v2), none, some (jI v4), some (jI v5), some (jI v6), some (jI v7)]) ⟨rfl, ⟨rfl, ⟨rfl, ⟨rfl, ⟨rfl, ⟨rfl, ⟨rfl, trivial⟩⟩⟩⟩⟩⟩⟩ (by have K := K; first | (simp only [if_pos h2] at K ⊢; exact K) | (exfalso; omega))))))))
theorem s273_153 {kc : List va_E} {d : Nat} {u0 : Int} {M : fx_M} {Q : Option fx_V → fx_M → Prop} (H : ((0 : Int) ≤ u0 ∧ u0 ≤ 1) ∧ Q (some (jI u0)) M) : wp kc (d + 1) 273 153 [none, none, none, none, none, none, none, none] [jI u0] M Q :=
  (x_zrt c273_153 r273 H.1 H.2)
theorem s273_175 {kc : List va_E} {d : Nat} {u0 : Int} {M : fx_M} {Q : Option fx_V → fx_M → Prop} (H : ((0 : Int) ≤ u0 ∧ u0 ≤ 1) ∧ Q (some (jI u0)) M) : wp kc (d + 1) 273 175 [none, none, none, none, none, none, none, none] [jI u0] M Q :=
  (x_zrt c273_175 r273 H.1 H.2)
theorem s273_230 {kc : List va_E} {d : Nat} {u0 : Int} {M : fx_M} {Q : Option fx_V → fx_M → Prop} (H : ((0 : Int) ≤ u0 ∧ u0 ≤ 1) ∧ Q (some (jI u0)) M) : wp kc (d + 1) 273 230 [none, none, none, none, none, none, none, none] [jI u0] M Q :=
  (x_zrt c273_230 r273 H.1 H.2)
theorem s273 {kc : List va_E} {d : Nat} {x1 : Int} {M : fx_M} {Q : Option fx_V → fx_M → Prop} (H : wp kc (d + 1) 273 13 [some (jR 133), some (jI x1), some (jI 0), some (jI 0), some (jI 0), some (jI (-1)), some (jI 0), none] [] M Q) : wc kc (d + 1) 273 [jR 133, jI x1] M Q :=
  wc_of (wp_wk (l' := [some (jR 133), some (jI x1), none, none, none, none, none, none]) ⟨rfl, ⟨rfl, trivial⟩⟩ (s273_0 H))

/- PuzzleHouseModel.triedAt(II)I -/
theorem c274_0 : fx_op 274 0 = some (.aload_n 0, 1, 0) := by decide +kernel
theorem c274_1 : fx_gf 274 1 = some (12, 46, 4) := by decide +kernel
theorem c274_4 : fx_op 274 4 = some (.aload_n 0, 5, 4) := by decide +kernel
theorem c274_5 : fx_gf 274 5 = some (12, 44, 8) := by decide +kernel
theorem c274_8 : fx_ci 274 8 = some (4, 9) := by decide +kernel
theorem c274_9 : fx_op 274 9 = some (.iload_n 1, 10, 9) := by decide +kernel
theorem c274_10 : fx_op 274 10 = some (.imul, 11, 10) := by decide +kernel
theorem c274_11 : fx_op 274 11 = some (.iload_n 2, 12, 11) := by decide +kernel
theorem c274_12 : fx_op 274 12 = some (.iadd, 13, 12) := by decide +kernel
theorem c274_13 : fx_op 274 13 = some (.iaload, 14, 13) := by decide +kernel
theorem c274_14 : fx_op 274 14 = some (.iaload, 15, 14) := by decide +kernel
theorem c274_15 : fx_op 274 15 = some (.ireturn, 16, 15) := by decide +kernel
theorem s274_0 {kc : List va_E} {d : Nat} {x1 x2 : Int} {M : fx_M} {Q : Option fx_V → fx_M → Prop} (H : (((0 : Int) ≤ (4 * x1) + x2 ∧ (4 * x1) + x2 < 480)) ∧ (((0 : Int) ≤ M 153 ((4 * x1) + x2) ∧ M 153 ((4 * x1) + x2) < 9)) ∧ Q (some (jI (M 155 (M 153 ((4 * x1) + x2))))) M) : wp kc (d + 1) 274 0 [some (jR 133), some (jI x1), some (jI x2)] [] M Q :=
  (x_aldn c274_0 rfl (x_gfr c274_1 k_133_46 (x_aldn c274_4 rfl (x_gfr c274_5 k_133_44 (x_ci c274_8 (x_ildn c274_9 rfl (x_imul c274_10 (x_ildn c274_11 rfl (x_iadd c274_12 (x_iald c274_13 a_153 H.1 (by decide) (x_iald c274_14 a_155 H.2.1 (by decide) (x_irt c274_15 r274 H.2.2))))))))))))
theorem s274 {kc : List va_E} {d : Nat} {x1 x2 : Int} {M : fx_M} {Q : Option fx_V → fx_M → Prop} (H : (((0 : Int) ≤ (4 * x1) + x2 ∧ (4 * x1) + x2 < 480)) ∧ (((0 : Int) ≤ M 153 ((4 * x1) + x2) ∧ M 153 ((4 * x1) + x2) < 9)) ∧ Q (some (jI (M 155 (M 153 ((4 * x1) + x2))))) M) : wc kc (d + 1) 274 [jR 133, jI x1, jI x2] M Q :=
  wc_of (wp_wk (l' := [some (jR 133), some (jI x1), some (jI x2)]) ⟨rfl, ⟨rfl, ⟨rfl, trivial⟩⟩⟩ (s274_0 H))

/- PuzzleHouseModel.isUnlike(I)Z -/
theorem c275_0 : fx_ci 275 0 = some (0, 1) := by decide +kernel
theorem c275_1 : fx_op 275 1 = some (.istore_n 2, 2, 1) := by decide +kernel
theorem c275_2 : fx_op 275 2 = some (.iload_n 2, 3, 2) := by decide +kernel
theorem c275_3 : fx_op 275 3 = some (.aload_n 0, 4, 3) := by decide +kernel
theorem c275_4 : fx_gf 275 4 = some (12, 43, 7) := by decide +kernel
theorem c275_7 : fx_op 275 7 = some (.iload_n 1, 8, 7) := by decide +kernel
theorem c275_9 : fx_op 275 9 = some (.if_icmp .ge 39, 12, 48) := by decide +kernel
theorem c275_48 : fx_ci 275 48 = some (1, 49) := by decide +kernel
theorem c275_12 : fx_ci 275 12 = some (0, 13) := by decide +kernel
theorem c275_13 : fx_op 275 13 = some (.istore_n 3, 14, 13) := by decide +kernel
theorem c275_8 : fx_op 275 8 = some (.iaload, 9, 8) := by decide +kernel
theorem c275_49 : fx_op 275 49 = some (.ireturn, 50, 49) := by decide +kernel
theorem c275_14 : fx_op 275 14 = some (.iload_n 3, 15, 14) := by decide +kernel
theorem c275_15 : fx_op 275 15 = some (.iload_n 2, 16, 15) := by decide +kernel
theorem c275_16 : fx_op 275 16 = some (.if_icmp .ge 26, 19, 42) := by decide +kernel
theorem c275_42 : fx_op 275 42 = some (.iinc 2 1, 45, 42) := by decide +kernel
theorem c275_19 : fx_op 275 19 = some (.aload_n 0, 20, 19) := by decide +kernel
theorem c275_20 : fx_op 275 20 = some (.iload_n 1, 21, 20) := by decide +kernel
theorem c275_21 : fx_op 275 21 = some (.iload_n 2, 22, 21) := by decide +kernel
theorem c275_45 : fx_op 275 45 = some (.goto (-43), 48, 2) := by decide +kernel
theorem c275_22 : fx_ca 275 22 = some (274, 3, 2, 25) := by decide +kernel
theorem c275_25 : fx_op 275 25 = some (.aload_n 0, 26, 25) := by decide +kernel
theorem c275_26 : fx_op 275 26 = some (.iload_n 1, 27, 26) := by decide +kernel
theorem c275_27 : fx_op 275 27 = some (.iload_n 3, 28, 27) := by decide +kernel
theorem c275_28 : fx_ca 275 28 = some (274, 3, 2, 31) := by decide +kernel
theorem c275_31 : fx_op 275 31 = some (.if_icmp .ne 5, 34, 36) := by decide +kernel
theorem c275_36 : fx_op 275 36 = some (.iinc 3 1, 39, 36) := by decide +kernel
theorem c275_34 : fx_ci 275 34 = some (0, 35) := by decide +kernel
theorem c275_39 : fx_op 275 39 = some (.goto (-25), 42, 14) := by decide +kernel
theorem c275_35 : fx_op 275 35 = some (.ireturn, 36, 35) := by decide +kernel
theorem s275_0 {kc : List va_E} {d : Nat} {x1 : Int} {M : fx_M} {Q : Option fx_V → fx_M → Prop} (H : wp kc (d + 1) 275 2 [some (jR 133), some (jI x1), some (jI 0), none] [] M Q) : wp kc (d + 1) 275 0 [some (jR 133), some (jI x1), none, none] [] M Q :=
  (x_ci c275_0 (x_istn (l' := [some (jR 133), some (jI x1), some (jI 0), none]) c275_1 rfl (wp_wk (l' := [some (jR 133), some (jI x1), some (jI 0), none]) ⟨rfl, ⟨rfl, ⟨rfl, trivial⟩⟩⟩ H)))
theorem s275_2 {kc : List va_E} {d : Nat} {v1 v2 : Int} {M : fx_M} {Q : Option fx_V → fx_M → Prop} (H : (((0 : Int) ≤ v1 ∧ v1 < 120)) ∧ ((fx_in32 v2) ∧ (fx_in32 (M 152 v1))) ∧ (M 152 v1 ≤ v2 → Q (some (jI 1)) M) ∧ (v2 < M 152 v1 → wp kc (d + 1) 275 14 [some (jR 133), some (jI v1), some (jI v2), some (jI 0)] [] M Q)) : wp kc (d + 1) 275 2 [some (jR 133), some (jI v1), some (jI v2), none] [] M Q :=
  (x_ildn c275_2 rfl (x_aldn c275_3 rfl (x_gfr c275_4 k_133_43 (x_ildn c275_7 rfl (x_iald c275_8 a_152 H.1 (by decide) (x_cge c275_9 H.2.1.1 H.2.1.2 (fun h1 => (x_ci c275_48 (x_zrt c275_49 r275 (by decide) (H.2.2.1 h1)))) (fun h2 => (x_ci c275_12 (x_istn (l' := [some (jR 133), some (jI v1), some (jI v2), some (jI 0)]) c275_13 rfl (wp_wk (l' := [some (jR 133), some (jI v1), some (jI v2), some (jI 0)]) ⟨rfl, ⟨rfl, ⟨rfl, ⟨rfl, trivial⟩⟩⟩⟩ (H.2.2.2 h2)))))))))))
theorem s275_14 {kc : List va_E} {d : Nat} {v1 v2 v3 : Int} {M : fx_M} {Q : Option fx_V → fx_M → Prop} (H : ((fx_in32 v3) ∧ (fx_in32 v2)) ∧ (v2 ≤ v3 → wp kc (d + 1) 275 2 [some (jR 133), some (jI v1), some (jI (v2 + 1)), none] [] M Q) ∧ (v3 < v2 → wc kc d 274 [jR 133, jI v1, jI v2] M (fun v M1 => wp kc (d + 1) 275 25 [some (jR 133), some (jI v1), some (jI v2), some (jI v3)] (v.toList ++ []) M1 Q))) : wp kc (d + 1) 275 14 [some (jR 133), some (jI v1), some (jI v2), some (jI v3)] [] M Q :=
  (x_ildn c275_14 rfl (x_ildn c275_15 rfl (x_cge c275_16 H.1.1 H.1.2 (fun h1 => (x_inc (l' := [some (jR 133), some (jI v1), some (jI (v2 + 1)), some (jI v3)]) c275_42 rfl rfl (x_goto c275_45 (wp_wk (l' := [some (jR 133), some (jI v1), some (jI (v2 + 1)), none]) ⟨rfl, ⟨rfl, ⟨rfl, trivial⟩⟩⟩ (H.2.1 h1))))) (fun h2 => (x_aldn c275_19 rfl (x_ildn c275_20 rfl (x_ildn c275_21 rfl (wp_wk (l' := [some (jR 133), some (jI v1), some (jI v2), some (jI v3)]) ⟨rfl, ⟨rfl, ⟨rfl, ⟨rfl, trivial⟩⟩⟩⟩ (x_cv (As := [jI v1, jI v2]) (st := []) c275_22 cl_133 kl274 rfl (Nat.le_of_ble_eq_true rfl) mx274 (Nat.le_refl _) (H.2.2 h2))))))))))
theorem s275_25 {kc : List va_E} {d : Nat} {v1 v2 v3 u0 : Int} {M : fx_M} {Q : Option fx_V → fx_M → Prop} (H : wc kc d 274 [jR 133, jI v1, jI v3] M (fun v M1 => wp kc (d + 1) 275 31 [some (jR 133), some (jI v1), some (jI v2), some (jI v3)] (v.toList ++ [jI u0]) M1 Q)) : wp kc (d + 1) 275 25 [some (jR 133), some (jI v1), some (jI v2), some (jI v3)] [jI u0] M Q :=
  (x_aldn c275_25 rfl (x_ildn c275_26 rfl (x_ildn c275_27 rfl (wp_wk (l' := [some (jR 133), some (jI v1), some (jI v2), some (jI v3)]) ⟨rfl, ⟨rfl, ⟨rfl, ⟨rfl, trivial⟩⟩⟩⟩ (x_cv (As := [jI v1, jI v3]) (st := [jI u0]) c275_28 cl_133 kl274 rfl (Nat.le_of_ble_eq_true rfl) mx274 (Nat.le_refl _) H)))))
theorem s275_31 {kc : List va_E} {d : Nat} {v1 v2 v3 u0 u1 : Int} {M : fx_M} {Q : Option fx_V → fx_M → Prop} (H : ((fx_in32 u1) ∧ (fx_in32 u0)) ∧ (u1 ≠ u0 → wp kc (d + 1) 275 14 [some (jR 133), some (jI v1), some (jI v2), some (jI (v3 + 1))] [] M Q) ∧ (u1 = u0 → Q (some (jI 0)) M)) : wp kc (d + 1) 275 31 [some (jR 133), some (jI v1), some (jI v2), some (jI v3)] [jI u0, jI u1] M Q :=
  (x_cne c275_31 H.1.1 H.1.2 (fun h1 => (x_inc (l' := [some (jR 133), some (jI v1), some (jI v2), some (jI (v3 + 1))]) c275_36 rfl rfl (x_goto c275_39 (wp_wk (l' := [some (jR 133), some (jI v1), some (jI v2), some (jI (v3 + 1))]) ⟨rfl, ⟨rfl, ⟨rfl, ⟨rfl, trivial⟩⟩⟩⟩ (H.2.1 h1))))) (fun h2 => (x_ci c275_34 (x_zrt c275_35 r275 (by decide) (H.2.2 h2)))))
theorem s275 {kc : List va_E} {d : Nat} {x1 : Int} {M : fx_M} {Q : Option fx_V → fx_M → Prop} (H : wp kc (d + 1) 275 2 [some (jR 133), some (jI x1), some (jI 0), none] [] M Q) : wc kc (d + 1) 275 [jR 133, jI x1] M Q :=
  wc_of (wp_wk (l' := [some (jR 133), some (jI x1), none, none]) ⟨rfl, ⟨rfl, trivial⟩⟩ (s275_0 H))

/- PuzzleHouseModel.isJoined(I)Z -/
theorem c276_0 : fx_ci 276 0 = some (0, 1) := by decide +kernel
theorem c276_1 : fx_op 276 1 = some (.istore_n 2, 2, 1) := by decide +kernel
theorem c276_2 : fx_ci 276 2 = some (0, 3) := by decide +kernel
theorem c276_3 : fx_op 276 3 = some (.istore_n 3, 4, 3) := by decide +kernel
theorem c276_4 : fx_op 276 4 = some (.iload_n 3, 5, 4) := by decide +kernel
theorem c276_5 : fx_op 276 5 = some (.aload_n 0, 6, 5) := by decide +kernel
theorem c276_6 : fx_gf 276 6 = some (12, 43, 9) := by decide +kernel
theorem c276_9 : fx_op 276 9 = some (.iload_n 1, 10, 9) := by decide +kernel
theorem c276_11 : fx_op 276 11 = some (.if_icmp .ge 29, 14, 40) := by decide +kernel
theorem c276_14 : fx_op 276 14 = some (.iload_n 2, 15, 14) := by decide +kernel
theorem c276_15 : fx_op 276 15 = some (.aload_n 0, 16, 15) := by decide +kernel
theorem c276_16 : fx_op 276 16 = some (.iload_n 1, 17, 16) := by decide +kernel
theorem c276_17 : fx_op 276 17 = some (.iload_n 3, 18, 17) := by decide +kernel
theorem c276_40 : fx_op 276 40 = some (.iload_n 2, 41, 40) := by decide +kernel
theorem c276_41 : fx_op 276 41 = some (.iload_n 2, 42, 41) := by decide +kernel
theorem c276_42 : fx_op 276 42 = some (.ineg, 43, 42) := by decide +kernel
theorem c276_43 : fx_op 276 43 = some (.iand, 44, 43) := by decide +kernel
theorem c276_44 : fx_op 276 44 = some (.istore_n 3, 45, 44) := by decide +kernel
theorem c276_45 : fx_ci 276 45 = some (0, 46) := by decide +kernel
theorem c276_46 : fx_op 276 46 = some (.istore 4, 48, 46) := by decide +kernel
theorem c276_10 : fx_op 276 10 = some (.iaload, 11, 10) := by decide +kernel
theorem c276_18 : fx_ca 276 18 = some (274, 3, 2, 21) := by decide +kernel
theorem c276_48 : fx_op 276 48 = some (.iload 4, 50, 48) := by decide +kernel
theorem c276_50 : fx_ci 276 50 = some (4, 51) := by decide +kernel
theorem c276_51 : fx_op 276 51 = some (.if_icmp .ge 107, 54, 158) := by decide +kernel
theorem c276_54 : fx_ci 276 54 = some (0, 55) := by decide +kernel
theorem c276_55 : fx_op 276 55 = some (.istore 5, 57, 55) := by decide +kernel
theorem c276_158 : fx_op 276 158 = some (.iload_n 3, 159, 158) := by decide +kernel
theorem c276_159 : fx_op 276 159 = some (.iload_n 2, 160, 159) := by decide +kernel
theorem c276_160 : fx_op 276 160 = some (.if_icmp .ne 7, 163, 167) := by decide +kernel
theorem c276_167 : fx_ci 276 167 = some (0, 168) := by decide +kernel
theorem c276_163 : fx_ci 276 163 = some (1, 164) := by decide +kernel
theorem c276_164 : fx_op 276 164 = some (.goto 4, 167, 168) := by decide +kernel
theorem c276_168 : fx_op 276 168 = some (.ireturn, 169, 168) := by decide +kernel
theorem c276_21 : fx_ci 276 21 = some (1, 22) := by decide +kernel
theorem c276_22 : fx_op 276 22 = some (.if_icmp .ne 9, 25, 31) := by decide +kernel
theorem c276_31 : fx_ci 276 31 = some (0, 32) := by decide +kernel
theorem c276_25 : fx_ci 276 25 = some (1, 26) := by decide +kernel
theorem c276_26 : fx_op 276 26 = some (.iload_n 3, 27, 26) := by decide +kernel
theorem c276_27 : fx_op 276 27 = some (.ishl, 28, 27) := by decide +kernel
theorem c276_28 : fx_op 276 28 = some (.goto 4, 31, 32) := by decide +kernel
theorem c276_32 : fx_op 276 32 = some (.ior, 33, 32) := by decide +kernel
theorem c276_33 : fx_op 276 33 = some (.istore_n 2, 34, 33) := by decide +kernel
theorem c276_34 : fx_op 276 34 = some (.iinc 3 1, 37, 34) := by decide +kernel
theorem c276_37 : fx_op 276 37 = some (.goto (-33), 40, 4) := by decide +kernel
theorem c276_57 : fx_op 276 57 = some (.iload 5, 59, 57) := by decide +kernel
theorem c276_59 : fx_op 276 59 = some (.aload_n 0, 60, 59) := by decide +kernel
theorem c276_60 : fx_gf 276 60 = some (12, 43, 63) := by decide +kernel
theorem c276_63 : fx_op 276 63 = some (.iload_n 1, 64, 63) := by decide +kernel
theorem c276_65 : fx_op 276 65 = some (.if_icmp .ge 87, 68, 152) := by decide +kernel
theorem c276_68 : fx_op 276 68 = some (.iload_n 3, 69, 68) := by decide +kernel
theorem c276_69 : fx_op 276 69 = some (.iload 5, 71, 69) := by decide +kernel
theorem c276_71 : fx_op 276 71 = some (.ishr, 72, 71) := by decide +kernel
theorem c276_72 : fx_ci 276 72 = some (1, 73) := by decide +kernel
theorem c276_73 : fx_op 276 73 = some (.iand, 74, 73) := by decide +kernel
theorem c276_74 : fx_op 276 74 = some (.ifCond .ne 6, 77, 80) := by decide +kernel
theorem c276_80 : fx_ci 276 80 = some (0, 81) := by decide +kernel
theorem c276_81 : fx_op 276 81 = some (.istore 6, 83, 81) := by decide +kernel
theorem c276_152 : fx_op 276 152 = some (.iinc 4 1, 155, 152) := by decide +kernel
theorem c276_146 : fx_op 276 146 = some (.iinc 5 1, 149, 146) := by decide +kernel
theorem c276_64 : fx_op 276 64 = some (.iaload, 65, 64) := by decide +kernel
theorem c276_155 : fx_op 276 155 = some (.goto (-107), 158, 48) := by decide +kernel
theorem c276_77 : fx_op 276 77 = some (.goto 69, 80, 146) := by decide +kernel
theorem c276_149 : fx_op 276 149 = some (.goto (-92), 152, 57) := by decide +kernel
theorem c276_83 : fx_op 276 83 = some (.iload 6, 85, 83) := by decide +kernel
theorem c276_85 : fx_op 276 85 = some (.aload_n 0, 86, 85) := by decide +kernel
theorem c276_86 : fx_gf 276 86 = some (12, 43, 89) := by decide +kernel
theorem c276_89 : fx_op 276 89 = some (.iload_n 1, 90, 89) := by decide +kernel
theorem c276_91 : fx_op 276 91 = some (.if_icmp .ge 55, 94, 146) := by decide +kernel
theorem c276_94 : fx_op 276 94 = some (.iload_n 2, 95, 94) := by decide +kernel
theorem c276_95 : fx_op 276 95 = some (.iload 6, 97, 95) := by decide +kernel
theorem c276_97 : fx_op 276 97 = some (.ishr, 98, 97) := by decide +kernel
theorem c276_98 : fx_ci 276 98 = some (1, 99) := by decide +kernel
theorem c276_99 : fx_op 276 99 = some (.iand, 100, 99) := by decide +kernel
theorem c276_100 : fx_ci 276 100 = some (1, 101) := by decide +kernel
theorem c276_101 : fx_op 276 101 = some (.if_icmp .ne 39, 104, 140) := by decide +kernel
theorem c276_140 : fx_op 276 140 = some (.iinc 6 1, 143, 140) := by decide +kernel
theorem c276_104 : fx_op 276 104 = some (.aload_n 0, 105, 104) := by decide +kernel
theorem c276_105 : fx_op 276 105 = some (.aload_n 0, 106, 105) := by decide +kernel
theorem c276_106 : fx_gf 276 106 = some (12, 44, 109) := by decide +kernel
theorem c276_109 : fx_ci 276 109 = some (4, 110) := by decide +kernel
theorem c276_110 : fx_op 276 110 = some (.iload_n 1, 111, 110) := by decide +kernel
theorem c276_111 : fx_op 276 111 = some (.imul, 112, 111) := by decide +kernel
theorem c276_112 : fx_op 276 112 = some (.iload 5, 114, 112) := by decide +kernel
theorem c276_114 : fx_op 276 114 = some (.iadd, 115, 114) := by decide +kernel
theorem c276_115 : fx_op 276 115 = some (.iaload, 116, 115) := by decide +kernel
theorem c276_116 : fx_op 276 116 = some (.aload_n 0, 117, 116) := by decide +kernel
theorem c276_117 : fx_gf 276 117 = some (12, 44, 120) := by decide +kernel
theorem c276_120 : fx_ci 276 120 = some (4, 121) := by decide +kernel
theorem c276_121 : fx_op 276 121 = some (.iload_n 1, 122, 121) := by decide +kernel
theorem c276_122 : fx_op 276 122 = some (.imul, 123, 122) := by decide +kernel
theorem c276_123 : fx_op 276 123 = some (.iload 6, 125, 123) := by decide +kernel
theorem c276_125 : fx_op 276 125 = some (.iadd, 126, 125) := by decide +kernel
theorem c276_126 : fx_op 276 126 = some (.iaload, 127, 126) := by decide +kernel
theorem c276_90 : fx_op 276 90 = some (.iaload, 91, 90) := by decide +kernel
theorem c276_143 : fx_op 276 143 = some (.goto (-60), 146, 83) := by decide +kernel
theorem c276_127 : fx_ca 276 127 = some (277, 3, 2, 130) := by decide +kernel
theorem c276_130 : fx_op 276 130 = some (.ifCond .eq 10, 133, 140) := by decide +kernel
theorem c276_133 : fx_op 276 133 = some (.iload_n 3, 134, 133) := by decide +kernel
theorem c276_134 : fx_ci 276 134 = some (1, 135) := by decide +kernel
theorem c276_135 : fx_op 276 135 = some (.iload 6, 137, 135) := by decide +kernel
theorem c276_137 : fx_op 276 137 = some (.ishl, 138, 137) := by decide +kernel
theorem c276_138 : fx_op 276 138 = some (.ior, 139, 138) := by decide +kernel
theorem c276_139 : fx_op 276 139 = some (.istore_n 3, 140, 139) := by decide +kernel
theorem s276_0 {kc : List va_E} {d : Nat} {x1 : Int} {M : fx_M} {Q : Option fx_V → fx_M → Prop} (H : wp kc (d + 1) 276 4 [some (jR 133), some (jI x1), some (jI 0), some (jI 0), none, none, none] [] M Q) : wp kc (d + 1) 276 0 [some (jR 133), some (jI x1), none, none, none, none, none] [] M Q :=
  (x_ci c276_0 (x_istn (l' := [some (jR 133), some (jI x1), some (jI 0), none, none, none, none]) c276_1 rfl (x_ci c276_2 (x_istn (l' := [some (jR 133), some (jI x1), some (jI 0), some (jI 0), none, none, none]) c276_3 rfl (wp_wk (l' := [some (jR 133), some (jI x1), some (jI 0), some (jI 0), none, none, none]) ⟨rfl, ⟨rfl, ⟨rfl, ⟨rfl, trivial⟩⟩⟩⟩ H)))))
theorem s276_4 {kc : List va_E} {d : Nat} {v1 v2 v3 : Int} {M : fx_M} {Q : Option fx_V → fx_M → Prop} (H : (((0 : Int) ≤ v1 ∧ v1 < 120)) ∧ ((fx_in32 v3) ∧ (fx_in32 (M 152 v1))) ∧ (M 152 v1 ≤ v3 → wp kc (d + 1) 276 48 [some (jR 133), some (jI v1), some (jI v2), some (jI (fx_and v2 (-v2))), some (jI 0), none, none] [] M Q) ∧ (v3 < M 152 v1 → wc kc d 274 [jR 133, jI v1, jI v3] M (fun v M1 => wp kc (d + 1) 276 21 [some (jR 133), some (jI v1), none, some (jI v3), none, none, none] (v.toList ++ [jI v2]) M1 Q))) : wp kc (d + 1) 276 4 [some (jR 133), some (jI v1), some (jI v2), some (jI v3), none, none, none] [] M Q :=
  (x_ildn c276_4 rfl (x_aldn c276_5 rfl (x_gfr c276_6 k_133_43 (x_ildn c276_9 rfl (x_iald c276_10 a_152 H.1 (by decide) (x_cge c276_11 H.2.1.1 H.2.1.2 (fun h1 => (x_ildn c276_40 rfl (x_ildn c276_41 rfl (x_ineg c276_42 (x_iand c276_43 (x_istn (l' := [some (jR 133), some (jI v1), some (jI v2), some (jI (fx_and v2 (-v2))), none, none, none]) c276_44 rfl (x_ci c276_45 (x_ist (l' := [some (jR 133), some (jI v1), some (jI v2), some (jI (fx_and v2 (-v2))), some (jI 0), none, none]) c276_46 rfl (wp_wk (l' := [some (jR 133), some (jI v1), some (jI v2), some (jI (fx_and v2 (-v2))), some (jI 0), none, none]) ⟨rfl, ⟨rfl, ⟨rfl, ⟨rfl, ⟨rfl, trivial⟩⟩⟩⟩⟩ (H.2.2.1 h1)))))))))) (fun h2 => (x_ildn c276_14 rfl (x_aldn c276_15 rfl (x_ildn c276_16 rfl (x_ildn c276_17 rfl (wp_wk (l' := [some (jR 133), some (jI v1), none, some (jI v3), none, none, none]) ⟨rfl, ⟨rfl, ⟨rfl, trivial⟩⟩⟩ (x_cv (As := [jI v1, jI v3]) (st := [jI v2]) c276_18 cl_133 kl274 rfl (Nat.le_of_ble_eq_true rfl) mx274 (Nat.le_refl _) (H.2.2.2 h2))))))))))))))
theorem s276_21 {kc : List va_E} {d : Nat} {v1 v3 u0 u1 : Int} {M : fx_M} {Q : Option fx_V → fx_M → Prop} (H : ((fx_in32 u0)) ∧ wp kc (d + 1) 276 4 [some (jR 133), some (jI v1), some (jI (fx_or u1 (if u0 = 1 then (fx_shl 1 v3 : Int) else 0))), some (jI (v3 + 1)), none, none, none] [] M Q) : wp kc (d + 1) 276 21 [some (jR 133), some (jI v1), none, some (jI v3), none, none, none] [jI u0, jI u1] M Q :=
  (x_ci c276_21 (have K : wp kc (d + 1) 276 32 [some (jR 133), some (jI v1), none, some (jI v3), none, none, none] [jI (if u0 = 1 then (fx_shl 1 v3 : Int) else 0), jI u1] M Q := (x_ior c276_32 (x_istn (l' := [some (jR 133), some (jI v1), some (jI (fx_or u1 (if u0 = 1 then (fx_shl 1 v3 : Int) else 0))), some (jI v3), none, none, none]) c276_33 rfl (x_inc (l' := [some (jR 133), some (jI v1), some (jI (fx_or u1 (if u0 = 1 then (fx_shl 1 v3 : Int) else 0))), some (jI (v3 + 1)), none, none, none]) c276_34 rfl rfl (x_goto c276_37 (wp_wk (l' := [some (jR 133), some (jI v1), some (jI (fx_or u1 (if u0 = 1 then (fx_shl 1 v3 : Int) else 0))), some (jI (v3 + 1)), none, none, none]) ⟨rfl, ⟨rfl, ⟨rfl, ⟨rfl, trivial⟩⟩⟩⟩ H.2))))); (x_cne c276_22 H.1 (by decide) (fun (h1 : u0 ≠ 1) => (x_ci c276_31 (wp_wk (l' := [some (jR 133), some (jI v1), none, some (jI v3), none, none, none]) ⟨rfl, ⟨rfl, ⟨rfl, trivial⟩⟩⟩ (by have K := K; first | (simp only [if_neg h1] at K ⊢; exact K) | (exfalso; omega))))) (fun (h2 : u0 = 1) => (x_ci c276_25 (x_ildn c276_26 rfl (x_ishl c276_27 (x_goto c276_28 (wp_wk (l' := [some (jR 133), some (jI v1), none, some (jI v3), none, none, none]) ⟨rfl, ⟨rfl, ⟨rfl, trivial⟩⟩⟩ (by have K := K; first | (simp only [if_pos h2] at K ⊢; exact K) | (exfalso; omega)))))))))))
theorem s276_48 {kc : List va_E} {d : Nat} {v1 v2 v3 v4 : Int} {M : fx_M} {Q : Option fx_V → fx_M → Prop} (H : ((fx_in32 v4)) ∧ (4 ≤ v4 → ((fx_in32 v3)) ∧ ((fx_in32 v2)) ∧ ((0 : Int) ≤ (if v3 = v2 then (1 : Int) else 0) ∧ (if v3 = v2 then (1 : Int) else 0) ≤ 1) ∧ Q (some (jI (if v3 = v2 then (1 : Int) else 0))) M) ∧ (v4 < 4 → wp kc (d + 1) 276 57 [some (jR 133), some (jI v1), some (jI v2), some (jI v3), some (jI v4), some (jI 0), none] [] M Q)) : wp kc (d + 1) 276 48 [some (jR 133), some (jI v1), some (jI v2), some (jI v3), some (jI v4), none, none] [] M Q :=
  (x_ild c276_48 rfl (x_ci c276_50 (x_cge c276_51 H.1 (by decide) (fun h1 => (x_ildn c276_158 rfl (x_ildn c276_159 rfl (have K : wp kc (d + 1) 276 168 [none, none, none, none, none, none, none] [jI (if v3 = v2 then (1 : Int) else 0)] M Q := (x_zrt c276_168 r276 (H.2.1 h1).2.2.1 (H.2.1 h1).2.2.2); (x_cne c276_160 (H.2.1 h1).1 (H.2.1 h1).2.1 (fun (h3 : v3 ≠ v2) => (x_ci c276_167 (wp_wk (l' := [none, none, none, none, none, none, none]) trivial (by have K := K; first | (simp only [if_neg h3] at K ⊢; exact K) | (exfalso; omega))))) (fun (h4 : v3 = v2) => (x_ci c276_163 (x_goto c276_164 (wp_wk (l' := [none, none, none, none, none, none, none]) trivial (by have K := K; first | (simp only [if_pos h4] at K ⊢; exact K) | (exfalso; omega))))))))))) (fun h2 => (x_ci c276_54 (x_ist (l' := [some (jR 133), some (jI v1), some (jI v2), some (jI v3), some (jI v4), some (jI 0), none]) c276_55 rfl (wp_wk (l' := [some (jR 133), some (jI v1), some (jI v2), some (jI v3), some (jI v4), some (jI 0), none]) ⟨rfl, ⟨rfl, ⟨rfl, ⟨rfl, ⟨rfl, ⟨rfl, trivial⟩⟩⟩⟩⟩⟩ (H.2.2 h2))))))))
theorem s276_57 {kc : List va_E} {d : Nat} {v1 v2 v3 v4 v5 : Int} {M : fx_M} {Q : Option fx_V → fx_M → Prop} (H : (((0 : Int) ≤ v1 ∧ v1 < 120)) ∧ ((fx_in32 v5) ∧ (fx_in32 (M 152 v1))) ∧ (M 152 v1 ≤ v5 → wp kc (d + 1) 276 48 [some (jR 133), some (jI v1), some (jI v2), some (jI v3), some (jI (v4 + 1)), none, none] [] M Q) ∧ (v5 < M 152 v1 → ((fx_in32 (fx_and (fx_shr v3 v5) 1))) ∧ (fx_and (fx_shr v3 v5) 1 ≠ 0 → wp kc (d + 1) 276 83 [some (jR 133), some (jI v1), some (jI v2), some (jI v3), some (jI v4), some (jI v5), some (jI 0)] [] M Q) ∧ (fx_and (fx_shr v3 v5) 1 = 0 → wp kc (d + 1) 276 57 [some (jR 133), some (jI v1), some (jI v2), some (jI v3), some (jI v4), some (jI (v5 + 1)), none] [] M Q))) : wp kc (d + 1) 276 57 [some (jR 133), some (jI v1), some (jI v2), some (jI v3), some (jI v4), some (jI v5), none] [] M Q :=
  (x_ild c276_57 rfl (x_aldn c276_59 rfl (x_gfr c276_60 k_133_43 (x_ildn c276_63 rfl (x_iald c276_64 a_152 H.1 (by decide) (x_cge c276_65 H.2.1.1 H.2.1.2 (fun h3 => (x_inc (l' := [some (jR 133), some (jI v1), some (jI v2), some (jI v3), some (jI (v4 + 1)), some (jI v5), none]) c276_152 rfl rfl (x_goto c276_155 (wp_wk (l' := [some (jR 133), some (jI v1), some (jI v2), some (jI v3), some (jI (v4 + 1)), none, none]) ⟨rfl, ⟨rfl, ⟨rfl, ⟨rfl, ⟨rfl, trivial⟩⟩⟩⟩⟩ (H.2.2.1 h3))))) (fun h4 => (x_ildn c276_68 rfl (x_ild c276_69 rfl (x_ishr c276_71 (x_ci c276_72 (x_iand c276_73 (x_zne c276_74 (H.2.2.2 h4).1 (fun h1 => (x_ci c276_80 (x_ist (l' := [some (jR 133), some (jI v1), some (jI v2), some (jI v3), some (jI v4), some (jI v5), some (jI 0)]) c276_81 rfl (wp_wk (l' := [some (jR 133), some (jI v1), some (jI v2), some (jI v3), some (jI v4), some (jI v5), some (jI 0)]) ⟨rfl, ⟨rfl, ⟨rfl, ⟨rfl, ⟨rfl, ⟨rfl, ⟨rfl, trivial⟩⟩⟩⟩⟩⟩⟩ ((H.2.2.2 h4).2.1 h1))))) (fun h2 => (x_goto c276_77 (x_inc (l' := [some (jR 133), some (jI v1), some (jI v2), some (jI v3), some (jI v4), some (jI (v5 + 1)), none]) c276_146 rfl rfl (x_goto c276_149 (wp_wk (l' := [some (jR 133), some (jI v1), some (jI v2), some (jI v3), some (jI v4), some (jI (v5 + 1)), none]) ⟨rfl, ⟨rfl, ⟨rfl, ⟨rfl, ⟨rfl, ⟨rfl, trivial⟩⟩⟩⟩⟩⟩ ((H.2.2.2 h4).2.2 h2)))))))))))))))))))
theorem s276_83 {kc : List va_E} {d : Nat} {v1 v2 v3 v4 v5 v6 : Int} {M : fx_M} {Q : Option fx_V → fx_M → Prop} (H : (((0 : Int) ≤ v1 ∧ v1 < 120)) ∧ ((fx_in32 v6) ∧ (fx_in32 (M 152 v1))) ∧ (M 152 v1 ≤ v6 → wp kc (d + 1) 276 57 [some (jR 133), some (jI v1), some (jI v2), some (jI v3), some (jI v4), some (jI (v5 + 1)), none] [] M Q) ∧ (v6 < M 152 v1 → ((fx_in32 (fx_and (fx_shr v2 v6) 1))) ∧ (fx_and (fx_shr v2 v6) 1 ≠ 1 → wp kc (d + 1) 276 83 [some (jR 133), some (jI v1), some (jI v2), some (jI v3), some (jI v4), some (jI v5), some (jI (v6 + 1))] [] M Q) ∧ (fx_and (fx_shr v2 v6) 1 = 1 → (((0 : Int) ≤ (4 * v1) + v5 ∧ (4 * v1) + v5 < 480)) ∧ (((0 : Int) ≤ (4 * v1) + v6 ∧ (4 * v1) + v6 < 480)) ∧ wc kc d 277 [jR 133, jI (M 153 ((4 * v1) + v5)), jI (M 153 ((4 * v1) + v6))] M (fun v M1 => wp kc (d + 1) 276 130 [some (jR 133), some (jI v1), some (jI v2), some (jI v3), some (jI v4), some (jI v5), some (jI v6)] (v.toList ++ []) M1 Q)))) : wp kc (d + 1) 276 83 [some (jR 133), some (jI v1), some (jI v2), some (jI v3), some (jI v4), some (jI v5), some (jI v6)] [] M Q :=
  (x_ild c276_83 rfl (x_aldn c276_85 rfl (x_gfr c276_86 k_133_43 (x_ildn c276_89 rfl (x_iald c276_90 a_152 H.1 (by decide) (x_cge c276_91 H.2.1.1 H.2.1.2 (fun h3 => (x_inc (l' := [some (jR 133), some (jI v1), some (jI v2), some (jI v3), some (jI v4), some (jI (v5 + 1)), some (jI v6)]) c276_146 rfl rfl (x_goto c276_149 (wp_wk (l' := [some (jR 133), some (jI v1), some (jI v2), some (jI v3), some (jI v4), some (jI (v5 + 1)), none]) ⟨rfl, ⟨rfl, ⟨rfl, ⟨rfl, ⟨rfl, ⟨rfl, trivial⟩⟩⟩⟩⟩⟩ (H.2.2.1 h3))))) (fun h4 => (x_ildn c276_94 rfl (x_ild c276_95 rfl (x_ishr c276_97 (x_ci c276_98 (x_iand c276_99 (x_ci c276_100 (x_cne c276_101 (H.2.2.2 h4).1 (by decide) (fun h1 => (x_inc (l' := [some (jR 133), some (jI v1), some (jI v2), some (jI v3), some (jI v4), some (jI v5), some (jI (v6 + 1))]) c276_140 rfl rfl (x_goto c276_143 (wp_wk (l' := [some (jR 133), some (jI v1), some (jI v2), some (jI v3), some (jI v4), some (jI v5), some (jI (v6 + 1))]) ⟨rfl, ⟨rfl, ⟨rfl, ⟨rfl, ⟨rfl, ⟨rfl, ⟨rfl, trivial⟩⟩⟩⟩⟩⟩⟩ ((H.2.2.2 h4).2.1 h1))))) (fun h2 => (x_aldn c276_104 rfl (x_aldn c276_105 rfl (x_gfr c276_106 k_133_44 (x_ci c276_109 (x_ildn c276_110 rfl (x_imul c276_111 (x_ild c276_112 rfl (x_iadd c276_114 (x_iald c276_115 a_153 ((H.2.2.2 h4).2.2 h2).1 (by decide) (x_aldn c276_116 rfl (x_gfr c276_117 k_133_44 (x_ci c276_120 (x_ildn c276_121 rfl (x_imul c276_122 (x_ild c276_123 rfl (x_iadd c276_125 (x_iald c276_126 a_153 ((H.2.2.2 h4).2.2 h2).2.1 (by decide) (wp_wk (l' := [some (jR 133), some (jI v1), some (jI v2), some (jI v3), some (jI v4), some (jI v5), some (jI v6)]) ⟨rfl, ⟨rfl, ⟨rfl, ⟨rfl, ⟨rfl, ⟨rfl, ⟨rfl, trivial⟩⟩⟩⟩⟩⟩⟩ (x_cv (As := [jI (M 153 ((4 * v1) + v5)), jI (M 153 ((4 * v1) + v6))]) (st := []) c276_127 cl_133 kl277 rfl (Nat.le_of_ble_eq_true rfl) mx277 (Nat.le_refl _) ((H.2.2.2 h4).2.2 h2).2.2))))))))))))))))))))))))))))))))))
theorem s276_130 {kc : List va_E} {d : Nat} {v1 v2 v3 v4 v5 v6 u0 : Int} {M : fx_M} {Q : Option fx_V → fx_M → Prop} (H : ((fx_in32 u0)) ∧ wp kc (d + 1) 276 83 [some (jR 133), some (jI v1), some (jI v2), some (jI (if u0 = 0 then (v3 : Int) else fx_or v3 (fx_shl 1 v6))), some (jI v4), some (jI v5), some (jI (v6 + 1))] [] M Q) : wp kc (d + 1) 276 130 [some (jR 133), some (jI v1), some (jI v2), some (jI v3), some (jI v4), some (jI v5), some (jI v6)] [jI u0] M Q :=
  (have K : wp kc (d + 1) 276 140 [some (jR 133), some (jI v1), some (jI v2), some (jI (if u0 = 0 then (v3 : Int) else fx_or v3 (fx_shl 1 v6))), some (jI v4), some (jI v5), some (jI v6)] [] M Q := (x_inc (l' := [some (jR 133), some (jI v1), some (jI v2), some (jI (if u0 = 0 then (v3 : Int) else fx_or v3 (fx_shl 1 v6))), some (jI v4), some (jI v5), some (jI (v6 + 1))]) c276_140 rfl rfl (x_goto c276_143 (wp_wk (l' := [some (jR 133), some (jI v1), some (jI v2), some (jI (if u0 = 0 then (v3 : Int) else fx_or v3 (fx_shl 1 v6))), some (jI v4), some (jI v5), some (jI (v6 + 1))]) ⟨rfl, ⟨rfl, ⟨rfl, ⟨rfl, ⟨rfl, ⟨rfl, ⟨rfl, trivial⟩⟩⟩⟩⟩⟩⟩ H.2))); (x_zeq c276_130 H.1 (fun (h1 : u0 = 0) => (wp_wk (l' := [some (jR 133), some (jI v1), some (jI v2), some (jI v3), some (jI v4), some (jI v5), some (jI v6)]) ⟨rfl, ⟨rfl, ⟨rfl, ⟨rfl, ⟨rfl, ⟨rfl, ⟨rfl, trivial⟩⟩⟩⟩⟩⟩⟩ (by have K := K; first | (simp only [if_pos h1] at K ⊢; exact K) | (exfalso; omega)))) (fun (h2 : u0 ≠ 0) => (x_ildn c276_133 rfl (x_ci c276_134 (x_ild c276_135 rfl (x_ishl c276_137 (x_ior c276_138 (x_istn (l' := [some (jR 133), some (jI v1), some (jI v2), some (jI (fx_or v3 (fx_shl 1 v6))), some (jI v4), some (jI v5), some (jI v6)]) c276_139 rfl (wp_wk (l' := [some (jR 133), some (jI v1), some (jI v2), some (jI (fx_or v3 (fx_shl 1 v6))), some (jI v4), some (jI v5), some (jI v6)]) ⟨rfl, ⟨rfl, ⟨rfl, ⟨rfl, ⟨rfl, ⟨rfl, ⟨rfl, trivial⟩⟩⟩⟩⟩⟩⟩ (by have K := K; first | (simp only [if_neg h2] at K ⊢; exact K) | (exfalso; omega))))))))))))
theorem s276 {kc : List va_E} {d : Nat} {x1 : Int} {M : fx_M} {Q : Option fx_V → fx_M → Prop} (H : wp kc (d + 1) 276 4 [some (jR 133), some (jI x1), some (jI 0), some (jI 0), none, none, none] [] M Q) : wc kc (d + 1) 276 [jR 133, jI x1] M Q :=
  wc_of (wp_wk (l' := [some (jR 133), some (jI x1), none, none, none, none, none]) ⟨rfl, ⟨rfl, trivial⟩⟩ (s276_0 H))

/- PuzzleHouseModel.areBeside(II)Z -/
theorem c277_0 : fx_op 277 0 = some (.iload_n 1, 1, 0) := by decide +kernel
theorem c277_1 : fx_op 277 1 = some (.aload_n 0, 2, 1) := by decide +kernel
theorem c277_2 : fx_gf 277 2 = some (12, 37, 5) := by decide +kernel
theorem c277_5 : fx_ci 277 5 = some (0, 6) := by decide +kernel
theorem c277_6 : fx_op 277 6 = some (.iaload, 7, 6) := by decide +kernel
theorem c277_8 : fx_op 277 8 = some (.iload_n 2, 9, 8) := by decide +kernel
theorem c277_9 : fx_op 277 9 = some (.aload_n 0, 10, 9) := by decide +kernel
theorem c277_10 : fx_gf 277 10 = some (12, 37, 13) := by decide +kernel
theorem c277_13 : fx_ci 277 13 = some (0, 14) := by decide +kernel
theorem c277_14 : fx_op 277 14 = some (.iaload, 15, 14) := by decide +kernel
theorem c277_16 : fx_op 277 16 = some (.isub, 17, 16) := by decide +kernel
theorem c277_17 : fx_op 277 17 = some (.istore_n 3, 18, 17) := by decide +kernel
theorem c277_18 : fx_op 277 18 = some (.iload_n 1, 19, 18) := by decide +kernel
theorem c277_19 : fx_op 277 19 = some (.aload_n 0, 20, 19) := by decide +kernel
theorem c277_20 : fx_gf 277 20 = some (12, 37, 23) := by decide +kernel
theorem c277_23 : fx_ci 277 23 = some (0, 24) := by decide +kernel
theorem c277_24 : fx_op 277 24 = some (.iaload, 25, 24) := by decide +kernel
theorem c277_26 : fx_op 277 26 = some (.iload_n 2, 27, 26) := by decide +kernel
theorem c277_27 : fx_op 277 27 = some (.aload_n 0, 28, 27) := by decide +kernel
theorem c277_28 : fx_gf 277 28 = some (12, 37, 31) := by decide +kernel
theorem c277_31 : fx_ci 277 31 = some (0, 32) := by decide +kernel
theorem c277_32 : fx_op 277 32 = some (.iaload, 33, 32) := by decide +kernel
theorem c277_34 : fx_op 277 34 = some (.isub, 35, 34) := by decide +kernel
theorem c277_35 : fx_op 277 35 = some (.istore 4, 37, 35) := by decide +kernel
theorem c277_37 : fx_op 277 37 = some (.iload_n 3, 38, 37) := by decide +kernel
theorem c277_38 : fx_op 277 38 = some (.iload_n 3, 39, 38) := by decide +kernel
theorem c277_39 : fx_op 277 39 = some (.imul, 40, 39) := by decide +kernel
theorem c277_40 : fx_op 277 40 = some (.iload 4, 42, 40) := by decide +kernel
theorem c277_42 : fx_op 277 42 = some (.iload 4, 44, 42) := by decide +kernel
theorem c277_44 : fx_op 277 44 = some (.imul, 45, 44) := by decide +kernel
theorem c277_45 : fx_op 277 45 = some (.iadd, 46, 45) := by decide +kernel
theorem c277_46 : fx_ci 277 46 = some (1, 47) := by decide +kernel
theorem c277_47 : fx_op 277 47 = some (.if_icmp .ne 7, 50, 54) := by decide +kernel
theorem c277_54 : fx_ci 277 54 = some (0, 55) := by decide +kernel
theorem c277_50 : fx_ci 277 50 = some (1, 51) := by decide +kernel
theorem c277_51 : fx_op 277 51 = some (.goto 4, 54, 55) := by decide +kernel
theorem c277_7 : fx_op 277 7 = some (.irem, 8, 7) := by decide +kernel
theorem c277_15 : fx_op 277 15 = some (.irem, 16, 15) := by decide +kernel
theorem c277_25 : fx_op 277 25 = some (.idiv, 26, 25) := by decide +kernel
theorem c277_33 : fx_op 277 33 = some (.idiv, 34, 33) := by decide +kernel
theorem c277_55 : fx_op 277 55 = some (.ireturn, 56, 55) := by decide +kernel
theorem s277_0 {kc : List va_E} {d : Nat} {x1 x2 : Int} {M : fx_M} {Q : Option fx_V → fx_M → Prop} (H : (((0 : Int) ≤ x1 ∧ x1 ≤ 2147483647) ∧ ((0 : Int) < M 146 0 ∧ M 146 0 ≤ 2147483647)) ∧ (((0 : Int) ≤ x2 ∧ x2 ≤ 2147483647) ∧ ((0 : Int) < M 146 0 ∧ M 146 0 ≤ 2147483647)) ∧ (((0 : Int) ≤ x1 ∧ x1 ≤ 2147483647) ∧ ((0 : Int) < M 146 0 ∧ M 146 0 ≤ 2147483647)) ∧ (((0 : Int) ≤ x2 ∧ x2 ≤ 2147483647) ∧ ((0 : Int) < M 146 0 ∧ M 146 0 ≤ 2147483647)) ∧ ((fx_in32 ((((x1 % (M 146 0)) - (x2 % (M 146 0))) * ((x1 % (M 146 0)) - (x2 % (M 146 0)))) + (((x1 / (M 146 0)) - (x2 / (M 146 0))) * ((x1 / (M 146 0)) - (x2 / (M 146 0))))))) ∧ ((0 : Int) ≤ (if (((x1 % (M 146 0)) - (x2 % (M 146 0))) * ((x1 % (M 146 0)) - (x2 % (M 146 0)))) + (((x1 / (M 146 0)) - (x2 / (M 146 0))) * ((x1 / (M 146 0)) - (x2 / (M 146 0)))) = 1 then (1 : Int) else 0) ∧ (if (((x1 % (M 146 0)) - (x2 % (M 146 0))) * ((x1 % (M 146 0)) - (x2 % (M 146 0)))) + (((x1 / (M 146 0)) - (x2 / (M 146 0))) * ((x1 / (M 146 0)) - (x2 / (M 146 0)))) = 1 then (1 : Int) else 0) ≤ 1) ∧ Q (some (jI (if (((x1 % (M 146 0)) - (x2 % (M 146 0))) * ((x1 % (M 146 0)) - (x2 % (M 146 0)))) + (((x1 / (M 146 0)) - (x2 / (M 146 0))) * ((x1 / (M 146 0)) - (x2 / (M 146 0)))) = 1 then (1 : Int) else 0))) M) : wp kc (d + 1) 277 0 [some (jR 133), some (jI x1), some (jI x2), none, none] [] M Q :=
  (x_ildn c277_0 rfl (x_aldn c277_1 rfl (x_gfr c277_2 k_133_37 (x_ci c277_5 (x_iald c277_6 a_146 (by decide) (by decide) (x_irem c277_7 H.1.1 H.1.2 (x_ildn c277_8 rfl (x_aldn c277_9 rfl (x_gfr c277_10 k_133_37 (x_ci c277_13 (x_iald c277_14 a_146 (by decide) (by decide) (x_irem c277_15 H.2.1.1 H.2.1.2 (x_isub c277_16 (x_istn (l' := [some (jR 133), some (jI x1), some (jI x2), some (jI ((x1 % (M 146 0)) - (x2 % (M 146 0)))), none]) c277_17 rfl (x_ildn c277_18 rfl (x_aldn c277_19 rfl (x_gfr c277_20 k_133_37 (x_ci c277_23 (x_iald c277_24 a_146 (by decide) (by decide) (x_idiv c277_25 H.2.2.1.1 H.2.2.1.2 (x_ildn c277_26 rfl (x_aldn c277_27 rfl (x_gfr c277_28 k_133_37 (x_ci c277_31 (x_iald c277_32 a_146 (by decide) (by decide) (x_idiv c277_33 H.2.2.2.1.1 H.2.2.2.1.2 (x_isub c277_34 (x_ist (l' := [some (jR 133), some (jI x1), some (jI x2), some (jI ((x1 % (M 146 0)) - (x2 % (M 146 0)))), some (jI ((x1 / (M 146 0)) - (x2 / (M 146 0))))]) c277_35 rfl (x_ildn c277_37 rfl (x_ildn c277_38 rfl (x_imul c277_39 (x_ild c277_40 rfl (x_ild c277_42 rfl (x_imul c277_44 (x_iadd c277_45 (x_ci c277_46 (have K : wp kc (d + 1) 277 55 [none, none, none, none, none] [jI (if (((x1 % (M 146 0)) - (x2 % (M 146 0))) * ((x1 % (M 146 0)) - (x2 % (M 146 0)))) + (((x1 / (M 146 0)) - (x2 / (M 146 0))) * ((x1 / (M 146 0)) - (x2 / (M 146 0)))) = 1 then (1 : Int) else 0)] M Q := (x_zrt c277_55 r277 H.2.2.2.2.2.1 H.2.2.2.2.2.2); (x_cne c277_47 H.2.2.2.2.1 (by decide) (fun (h1 : (((x1 % (M 146 0)) - (x2 % (M 146 0))) * ((x1 % (M 146 0)) - (x2 % (M 146 0)))) + (((x1 / (M 146 0)) - (x2 / (M 146 0))) * ((x1 / (M 146 0)) - (x2 / (M 146 0)))) ≠ 1) => (x_ci c277_54 (wp_wk (l' := [none, none, none, none, none]) trivial (by have K := K; first | (simp only [if_neg h1] at K ⊢; exact K) | (exfalso; omega))))) (fun (h2 : (((x1 % (M 146 0)) - (x2 % (M 146 0))) * ((x1 % (M 146 0)) - (x2 % (M 146 0)))) + (((x1 / (M 146 0)) - (x2 / (M 146 0))) * ((x1 / (M 146 0)) - (x2 / (M 146 0)))) = 1) => (x_ci c277_50 (x_goto c277_51 (wp_wk (l' := [none, none, none, none, none]) trivial (by have K := K; first | (simp only [if_pos h2] at K ⊢; exact K) | (exfalso; omega))))))))))))))))))))))))))))))))))))))))))))
theorem s277 {kc : List va_E} {d : Nat} {x1 x2 : Int} {M : fx_M} {Q : Option fx_V → fx_M → Prop} (H : (((0 : Int) ≤ x1 ∧ x1 ≤ 2147483647) ∧ ((0 : Int) < M 146 0 ∧ M 146 0 ≤ 2147483647)) ∧ (((0 : Int) ≤ x2 ∧ x2 ≤ 2147483647) ∧ ((0 : Int) < M 146 0 ∧ M 146 0 ≤ 2147483647)) ∧ (((0 : Int) ≤ x1 ∧ x1 ≤ 2147483647) ∧ ((0 : Int) < M 146 0 ∧ M 146 0 ≤ 2147483647)) ∧ (((0 : Int) ≤ x2 ∧ x2 ≤ 2147483647) ∧ ((0 : Int) < M 146 0 ∧ M 146 0 ≤ 2147483647)) ∧ ((fx_in32 ((((x1 % (M 146 0)) - (x2 % (M 146 0))) * ((x1 % (M 146 0)) - (x2 % (M 146 0)))) + (((x1 / (M 146 0)) - (x2 / (M 146 0))) * ((x1 / (M 146 0)) - (x2 / (M 146 0))))))) ∧ ((0 : Int) ≤ (if (((x1 % (M 146 0)) - (x2 % (M 146 0))) * ((x1 % (M 146 0)) - (x2 % (M 146 0)))) + (((x1 / (M 146 0)) - (x2 / (M 146 0))) * ((x1 / (M 146 0)) - (x2 / (M 146 0)))) = 1 then (1 : Int) else 0) ∧ (if (((x1 % (M 146 0)) - (x2 % (M 146 0))) * ((x1 % (M 146 0)) - (x2 % (M 146 0)))) + (((x1 / (M 146 0)) - (x2 / (M 146 0))) * ((x1 / (M 146 0)) - (x2 / (M 146 0)))) = 1 then (1 : Int) else 0) ≤ 1) ∧ Q (some (jI (if (((x1 % (M 146 0)) - (x2 % (M 146 0))) * ((x1 % (M 146 0)) - (x2 % (M 146 0)))) + (((x1 / (M 146 0)) - (x2 / (M 146 0))) * ((x1 / (M 146 0)) - (x2 / (M 146 0)))) = 1 then (1 : Int) else 0))) M) : wc kc (d + 1) 277 [jR 133, jI x1, jI x2] M Q :=
  wc_of (wp_wk (l' := [some (jR 133), some (jI x1), some (jI x2), none, none]) ⟨rfl, ⟨rfl, ⟨rfl, trivial⟩⟩⟩ (s277_0 H))

/- PuzzleHouseModel.isRow(I)Z -/
theorem c278_0 : fx_ci 278 0 = some (1, 1) := by decide +kernel
theorem c278_1 : fx_op 278 1 = some (.istore_n 2, 2, 1) := by decide +kernel
theorem c278_2 : fx_op 278 2 = some (.iload_n 2, 3, 2) := by decide +kernel
theorem c278_3 : fx_op 278 3 = some (.aload_n 0, 4, 3) := by decide +kernel
theorem c278_4 : fx_gf 278 4 = some (12, 43, 7) := by decide +kernel
theorem c278_7 : fx_op 278 7 = some (.iload_n 1, 8, 7) := by decide +kernel
theorem c278_9 : fx_op 278 9 = some (.if_icmp .ge 66, 12, 75) := by decide +kernel
theorem c278_75 : fx_ci 278 75 = some (1, 76) := by decide +kernel
theorem c278_12 : fx_op 278 12 = some (.aload_n 0, 13, 12) := by decide +kernel
theorem c278_13 : fx_op 278 13 = some (.iload_n 1, 14, 13) := by decide +kernel
theorem c278_14 : fx_op 278 14 = some (.iload_n 2, 15, 14) := by decide +kernel
theorem c278_8 : fx_op 278 8 = some (.iaload, 9, 8) := by decide +kernel
theorem c278_76 : fx_op 278 76 = some (.ireturn, 77, 76) := by decide +kernel
theorem c278_15 : fx_ca 278 15 = some (274, 3, 2, 18) := by decide +kernel
theorem c278_18 : fx_op 278 18 = some (.aload_n 0, 19, 18) := by decide +kernel
theorem c278_19 : fx_op 278 19 = some (.iload_n 1, 20, 19) := by decide +kernel
theorem c278_20 : fx_op 278 20 = some (.iload_n 2, 21, 20) := by decide +kernel
theorem c278_21 : fx_ci 278 21 = some (1, 22) := by decide +kernel
theorem c278_22 : fx_op 278 22 = some (.isub, 23, 22) := by decide +kernel
theorem c278_23 : fx_ca 278 23 = some (274, 3, 2, 26) := by decide +kernel
theorem c278_26 : fx_op 278 26 = some (.isub, 27, 26) := by decide +kernel
theorem c278_27 : fx_op 278 27 = some (.istore_n 3, 28, 27) := by decide +kernel
theorem c278_28 : fx_op 278 28 = some (.aload_n 0, 29, 28) := by decide +kernel
theorem c278_29 : fx_gf 278 29 = some (12, 41, 32) := by decide +kernel
theorem c278_32 : fx_op 278 32 = some (.iload_n 1, 33, 32) := by decide +kernel
theorem c278_34 : fx_ci 278 34 = some (48, 36) := by decide +kernel
theorem c278_36 : fx_op 278 36 = some (.if_icmp .ne 10, 39, 46) := by decide +kernel
theorem c278_46 : fx_op 278 46 = some (.iload_n 3, 47, 46) := by decide +kernel
theorem c278_47 : fx_op 278 47 = some (.aload_n 0, 48, 47) := by decide +kernel
theorem c278_48 : fx_gf 278 48 = some (12, 42, 51) := by decide +kernel
theorem c278_51 : fx_op 278 51 = some (.iload_n 1, 52, 51) := by decide +kernel
theorem c278_53 : fx_op 278 53 = some (.if_icmp .ge 16, 56, 69) := by decide +kernel
theorem c278_69 : fx_op 278 69 = some (.iinc 2 1, 72, 69) := by decide +kernel
theorem c278_56 : fx_op 278 56 = some (.iload_n 3, 57, 56) := by decide +kernel
theorem c278_57 : fx_op 278 57 = some (.ineg, 58, 57) := by decide +kernel
theorem c278_58 : fx_op 278 58 = some (.aload_n 0, 59, 58) := by decide +kernel
theorem c278_59 : fx_gf 278 59 = some (12, 42, 62) := by decide +kernel
theorem c278_62 : fx_op 278 62 = some (.iload_n 1, 63, 62) := by decide +kernel
theorem c278_64 : fx_op 278 64 = some (.if_icmp .ge 5, 67, 69) := by decide +kernel
theorem c278_67 : fx_ci 278 67 = some (0, 68) := by decide +kernel
theorem c278_39 : fx_op 278 39 = some (.iload_n 3, 40, 39) := by decide +kernel
theorem c278_40 : fx_op 278 40 = some (.ifCond .gt 29, 43, 69) := by decide +kernel
theorem c278_33 : fx_op 278 33 = some (.iaload, 34, 33) := by decide +kernel
theorem c278_52 : fx_op 278 52 = some (.iaload, 53, 52) := by decide +kernel
theorem c278_72 : fx_op 278 72 = some (.goto (-70), 75, 2) := by decide +kernel
theorem c278_63 : fx_op 278 63 = some (.iaload, 64, 63) := by decide +kernel
theorem c278_68 : fx_op 278 68 = some (.ireturn, 69, 68) := by decide +kernel
theorem c278_43 : fx_op 278 43 = some (.goto 24, 46, 67) := by decide +kernel
theorem s278_0 {kc : List va_E} {d : Nat} {x1 : Int} {M : fx_M} {Q : Option fx_V → fx_M → Prop} (H : wp kc (d + 1) 278 2 [some (jR 133), some (jI x1), some (jI 1), none] [] M Q) : wp kc (d + 1) 278 0 [some (jR 133), some (jI x1), none, none] [] M Q :=
  (x_ci c278_0 (x_istn (l' := [some (jR 133), some (jI x1), some (jI 1), none]) c278_1 rfl (wp_wk (l' := [some (jR 133), some (jI x1), some (jI 1), none]) ⟨rfl, ⟨rfl, ⟨rfl, trivial⟩⟩⟩ H)))
theorem s278_2 {kc : List va_E} {d : Nat} {v1 v2 : Int} {M : fx_M} {Q : Option fx_V → fx_M → Prop} (H : (((0 : Int) ≤ v1 ∧ v1 < 120)) ∧ ((fx_in32 v2) ∧ (fx_in32 (M 152 v1))) ∧ (M 152 v1 ≤ v2 → Q (some (jI 1)) M) ∧ (v2 < M 152 v1 → wc kc d 274 [jR 133, jI v1, jI v2] M (fun v M1 => wp kc (d + 1) 278 18 [some (jR 133), some (jI v1), some (jI v2), none] (v.toList ++ []) M1 Q))) : wp kc (d + 1) 278 2 [some (jR 133), some (jI v1), some (jI v2), none] [] M Q :=
  (x_ildn c278_2 rfl (x_aldn c278_3 rfl (x_gfr c278_4 k_133_43 (x_ildn c278_7 rfl (x_iald c278_8 a_152 H.1 (by decide) (x_cge c278_9 H.2.1.1 H.2.1.2 (fun h1 => (x_ci c278_75 (x_zrt c278_76 r278 (by decide) (H.2.2.1 h1)))) (fun h2 => (x_aldn c278_12 rfl (x_ildn c278_13 rfl (x_ildn c278_14 rfl (wp_wk (l' := [some (jR 133), some (jI v1), some (jI v2), none]) ⟨rfl, ⟨rfl, ⟨rfl, trivial⟩⟩⟩ (x_cv (As := [jI v1, jI v2]) (st := []) c278_15 cl_133 kl274 rfl (Nat.le_of_ble_eq_true rfl) mx274 (Nat.le_refl _) (H.2.2.2 h2)))))))))))))
theorem s278_18 {kc : List va_E} {d : Nat} {v1 v2 u0 : Int} {M : fx_M} {Q : Option fx_V → fx_M → Prop} (H : wc kc d 274 [jR 133, jI v1, jI (v2 - 1)] M (fun v M1 => wp kc (d + 1) 278 26 [some (jR 133), some (jI v1), some (jI v2), none] (v.toList ++ [jI u0]) M1 Q)) : wp kc (d + 1) 278 18 [some (jR 133), some (jI v1), some (jI v2), none] [jI u0] M Q :=
  (x_aldn c278_18 rfl (x_ildn c278_19 rfl (x_ildn c278_20 rfl (x_ci c278_21 (x_isub c278_22 (wp_wk (l' := [some (jR 133), some (jI v1), some (jI v2), none]) ⟨rfl, ⟨rfl, ⟨rfl, trivial⟩⟩⟩ (x_cv (As := [jI v1, jI (v2 - 1)]) (st := [jI u0]) c278_23 cl_133 kl274 rfl (Nat.le_of_ble_eq_true rfl) mx274 (Nat.le_refl _) H)))))))
theorem s278_26 {kc : List va_E} {d : Nat} {v1 v2 u0 u1 : Int} {M : fx_M} {Q : Option fx_V → fx_M → Prop} (H : (((0 : Int) ≤ v1 ∧ v1 < 120)) ∧ ((fx_in32 (M 150 v1))) ∧ (M 150 v1 ≠ 48 → (((0 : Int) ≤ v1 ∧ v1 < 120)) ∧ ((fx_in32 (u1 - u0)) ∧ (fx_in32 (M 151 v1))) ∧ (M 151 v1 ≤ u1 - u0 → wp kc (d + 1) 278 2 [some (jR 133), some (jI v1), some (jI (v2 + 1)), none] [] M Q) ∧ (u1 - u0 < M 151 v1 → (((0 : Int) ≤ v1 ∧ v1 < 120)) ∧ ((fx_in32 (-(u1 - u0))) ∧ (fx_in32 (M 151 v1))) ∧ (M 151 v1 ≤ -(u1 - u0) → wp kc (d + 1) 278 2 [some (jR 133), some (jI v1), some (jI (v2 + 1)), none] [] M Q) ∧ (-(u1 - u0) < M 151 v1 → Q (some (jI 0)) M))) ∧ (M 150 v1 = 48 → ((fx_in32 (u1 - u0))) ∧ (0 < u1 - u0 → wp kc (d + 1) 278 2 [some (jR 133), some (jI v1), some (jI (v2 + 1)), none] [] M Q) ∧ (u1 - u0 ≤ 0 → Q (some (jI 0)) M))) : wp kc (d + 1) 278 26 [some (jR 133), some (jI v1), some (jI v2), none] [jI u0, jI u1] M Q :=
  (x_isub c278_26 (x_istn (l' := [some (jR 133), some (jI v1), some (jI v2), some (jI (u1 - u0))]) c278_27 rfl (x_aldn c278_28 rfl (x_gfr c278_29 k_133_41 (x_ildn c278_32 rfl (x_iald c278_33 a_150 H.1 (by decide) (x_ci c278_34 (x_cne c278_36 H.2.1 (by decide) (fun h7 => (x_ildn c278_46 rfl (x_aldn c278_47 rfl (x_gfr c278_48 k_133_42 (x_ildn c278_51 rfl (x_iald c278_52 a_151 (H.2.2.1 h7).1 (by decide) (x_cge c278_53 (H.2.2.1 h7).2.1.1 (H.2.2.1 h7).2.1.2 (fun h3 => (x_inc (l' := [some (jR 133), some (jI v1), some (jI (v2 + 1)), some (jI (u1 - u0))]) c278_69 rfl rfl (x_goto c278_72 (wp_wk (l' := [some (jR 133), some (jI v1), some (jI (v2 + 1)), none]) ⟨rfl, ⟨rfl, ⟨rfl, trivial⟩⟩⟩ ((H.2.2.1 h7).2.2.1 h3))))) (fun h4 => (x_ildn c278_56 rfl (x_ineg c278_57 (x_aldn c278_58 rfl (x_gfr c278_59 k_133_42 (x_ildn c278_62 rfl (x_iald c278_63 a_151 ((H.2.2.1 h7).2.2.2 h4).1 (by decide) (x_cge c278_64 ((H.2.2.1 h7).2.2.2 h4).2.1.1 ((H.2.2.1 h7).2.2.2 h4).2.1.2 (fun h1 => (x_inc (l' := [some (jR 133), some (jI v1), some (jI (v2 + 1)), some (jI (u1 - u0))]) c278_69 rfl rfl (x_goto c278_72 (wp_wk (l' := [some (jR 133), some (jI v1), some (jI (v2 + 1)), none]) ⟨rfl, ⟨rfl, ⟨rfl, trivial⟩⟩⟩ (((H.2.2.1 h7).2.2.2 h4).2.2.1 h1))))) (fun h2 => (x_ci c278_67 (x_zrt c278_68 r278 (by decide) (((H.2.2.1 h7).2.2.2 h4).2.2.2 h2))))))))))))))))))) (fun h8 => (x_ildn c278_39 rfl (x_zgt c278_40 (H.2.2.2 h8).1 (fun h5 => (x_inc (l' := [some (jR 133), some (jI v1), some (jI (v2 + 1)), some (jI (u1 - u0))]) c278_69 rfl rfl (x_goto c278_72 (wp_wk (l' := [some (jR 133), some (jI v1), some (jI (v2 + 1)), none]) ⟨rfl, ⟨rfl, ⟨rfl, trivial⟩⟩⟩ ((H.2.2.2 h8).2.1 h5))))) (fun h6 => (x_goto c278_43 (x_ci c278_67 (x_zrt c278_68 r278 (by decide) ((H.2.2.2 h8).2.2 h6))))))))))))))))
theorem s278 {kc : List va_E} {d : Nat} {x1 : Int} {M : fx_M} {Q : Option fx_V → fx_M → Prop} (H : wp kc (d + 1) 278 2 [some (jR 133), some (jI x1), some (jI 1), none] [] M Q) : wc kc (d + 1) 278 [jR 133, jI x1] M Q :=
  wc_of (wp_wk (l' := [some (jR 133), some (jI x1), none, none]) ⟨rfl, ⟨rfl, trivial⟩⟩ (s278_0 H))

/- PuzzleHouseModel.sayNotOne()V -/
theorem c279_0 : fx_op 279 0 = some (.aload_n 0, 1, 0) := by decide +kernel
theorem c279_1 : fx_cj 279 1 = some (7237492, 4) := by decide +kernel
theorem c279_4 : fx_ca 279 4 = some (253, 2, 2, 7) := by decide +kernel
theorem c279_7 : fx_op 279 7 = some (.aload_n 0, 8, 7) := by decide +kernel
theorem c279_8 : fx_ci 279 8 = some (32, 10) := by decide +kernel
theorem c279_10 : fx_ca 279 10 = some (254, 2, 2, 13) := by decide +kernel
theorem c279_13 : fx_op 279 13 = some (.aload_n 0, 14, 13) := by decide +kernel
theorem c279_14 : fx_cj 279 14 = some (7302757, 17) := by decide +kernel
theorem c279_17 : fx_ca 279 17 = some (253, 2, 2, 20) := by decide +kernel
theorem c279_20 : fx_op 279 20 = some (.return_, 21, 20) := by decide +kernel
theorem s279_0 {kc : List va_E} {d : Nat} {M : fx_M} {Q : Option fx_V → fx_M → Prop} (H : wc kc d 253 [jR 133, jL 7237492] M (fun v M1 => wp kc (d + 1) 279 7 [some (jR 133)] (v.toList ++ []) M1 Q)) : wp kc (d + 1) 279 0 [some (jR 133)] [] M Q :=
  (x_aldn c279_0 rfl (x_cj c279_1 (wp_wk (l' := [some (jR 133)]) ⟨rfl, trivial⟩ (x_cv (As := [jL 7237492]) (st := []) c279_4 cl_133 kl253 rfl (Nat.le_of_ble_eq_true rfl) mx253 (Nat.le_refl _) H))))
theorem s279_7 {kc : List va_E} {d : Nat} {M : fx_M} {Q : Option fx_V → fx_M → Prop} (H : wc kc d 254 [jR 133, jI 32] M (fun v M1 => wp kc (d + 1) 279 13 [some (jR 133)] (v.toList ++ []) M1 Q)) : wp kc (d + 1) 279 7 [some (jR 133)] [] M Q :=
  (x_aldn c279_7 rfl (x_ci c279_8 (wp_wk (l' := [some (jR 133)]) ⟨rfl, trivial⟩ (x_cv (As := [jI 32]) (st := []) c279_10 cl_133 kl254 rfl (Nat.le_of_ble_eq_true rfl) mx254 (Nat.le_refl _) H))))
theorem s279_13 {kc : List va_E} {d : Nat} {M : fx_M} {Q : Option fx_V → fx_M → Prop} (H : wc kc d 253 [jR 133, jL 7302757] M (fun v M1 => wp kc (d + 1) 279 20 [none] (v.toList ++ []) M1 Q)) : wp kc (d + 1) 279 13 [some (jR 133)] [] M Q :=
  (x_aldn c279_13 rfl (x_cj c279_14 (wp_wk (l' := [none]) trivial (x_cv (As := [jL 7302757]) (st := []) c279_17 cl_133 kl253 rfl (Nat.le_of_ble_eq_true rfl) mx253 (Nat.le_refl _) H))))
theorem s279_20 {kc : List va_E} {d : Nat} {M : fx_M} {Q : Option fx_V → fx_M → Prop} (H : Q none M) : wp kc (d + 1) 279 20 [none] [] M Q :=
  (x_vr c279_20 r279 H)
theorem s279 {kc : List va_E} {d : Nat} {M : fx_M} {Q : Option fx_V → fx_M → Prop} (H : wc kc d 253 [jR 133, jL 7237492] M (fun v M1 => wp kc (d + 1) 279 7 [some (jR 133)] (v.toList ++ []) M1 Q)) : wc kc (d + 1) 279 [jR 133] M Q :=
  wc_of (wp_wk (l' := [some (jR 133)]) ⟨rfl, trivial⟩ (s279_0 H))

/- PuzzleHouseModel.countGivens()I -/
theorem c280_0 : fx_ci 280 0 = some (0, 1) := by decide +kernel
theorem c280_1 : fx_op 280 1 = some (.istore_n 1, 2, 1) := by decide +kernel
theorem c280_2 : fx_ci 280 2 = some (0, 3) := by decide +kernel
theorem c280_3 : fx_op 280 3 = some (.istore_n 2, 4, 3) := by decide +kernel
theorem c280_4 : fx_op 280 4 = some (.iload_n 2, 5, 4) := by decide +kernel
theorem c280_5 : fx_op 280 5 = some (.aload_n 0, 6, 5) := by decide +kernel
theorem c280_6 : fx_ca 280 6 = some (248, 1, 2, 9) := by decide +kernel
theorem c280_9 : fx_op 280 9 = some (.if_icmp .ge 25, 12, 34) := by decide +kernel
theorem c280_12 : fx_op 280 12 = some (.iload_n 1, 13, 12) := by decide +kernel
theorem c280_13 : fx_op 280 13 = some (.aload_n 0, 14, 13) := by decide +kernel
theorem c280_14 : fx_op 280 14 = some (.iload_n 2, 15, 14) := by decide +kernel
theorem c280_34 : fx_op 280 34 = some (.iload_n 1, 35, 34) := by decide +kernel
theorem c280_35 : fx_op 280 35 = some (.ireturn, 36, 35) := by decide +kernel
theorem c280_15 : fx_ca 280 15 = some (271, 2, 2, 18) := by decide +kernel
theorem c280_18 : fx_op 280 18 = some (.ifCond .lt 7, 21, 25) := by decide +kernel
theorem c280_25 : fx_ci 280 25 = some (0, 26) := by decide +kernel
theorem c280_21 : fx_ci 280 21 = some (1, 22) := by decide +kernel
theorem c280_22 : fx_op 280 22 = some (.goto 4, 25, 26) := by decide +kernel
theorem c280_26 : fx_op 280 26 = some (.iadd, 27, 26) := by decide +kernel
theorem c280_27 : fx_op 280 27 = some (.istore_n 1, 28, 27) := by decide +kernel
theorem c280_28 : fx_op 280 28 = some (.iinc 2 1, 31, 28) := by decide +kernel
theorem c280_31 : fx_op 280 31 = some (.goto (-27), 34, 4) := by decide +kernel
theorem s280_0 {kc : List va_E} {d : Nat} {M : fx_M} {Q : Option fx_V → fx_M → Prop} (H : wp kc (d + 1) 280 4 [some (jR 133), some (jI 0), some (jI 0)] [] M Q) : wp kc (d + 1) 280 0 [some (jR 133), none, none] [] M Q :=
  (x_ci c280_0 (x_istn (l' := [some (jR 133), some (jI 0), none]) c280_1 rfl (x_ci c280_2 (x_istn (l' := [some (jR 133), some (jI 0), some (jI 0)]) c280_3 rfl (wp_wk (l' := [some (jR 133), some (jI 0), some (jI 0)]) ⟨rfl, ⟨rfl, ⟨rfl, trivial⟩⟩⟩ H)))))
theorem s280_4 {kc : List va_E} {d : Nat} {v1 v2 : Int} {M : fx_M} {Q : Option fx_V → fx_M → Prop} (H : wc kc d 248 [jR 133] M (fun v M1 => wp kc (d + 1) 280 9 [some (jR 133), some (jI v1), some (jI v2)] (v.toList ++ [jI v2]) M1 Q)) : wp kc (d + 1) 280 4 [some (jR 133), some (jI v1), some (jI v2)] [] M Q :=
  (x_ildn c280_4 rfl (x_aldn c280_5 rfl (wp_wk (l' := [some (jR 133), some (jI v1), some (jI v2)]) ⟨rfl, ⟨rfl, ⟨rfl, trivial⟩⟩⟩ (x_cv (As := []) (st := [jI v2]) c280_6 cl_133 kl248 rfl (Nat.le_of_ble_eq_true rfl) mx248 (Nat.le_refl _) H))))
theorem s280_9 {kc : List va_E} {d : Nat} {v1 v2 u0 u1 : Int} {M : fx_M} {Q : Option fx_V → fx_M → Prop} (H : ((fx_in32 u1) ∧ (fx_in32 u0)) ∧ (u0 ≤ u1 → Q (some (jI v1)) M) ∧ (u1 < u0 → wc kc d 271 [jR 133, jI v2] M (fun v M1 => wp kc (d + 1) 280 18 [some (jR 133), none, some (jI v2)] (v.toList ++ [jI v1]) M1 Q))) : wp kc (d + 1) 280 9 [some (jR 133), some (jI v1), some (jI v2)] [jI u0, jI u1] M Q :=
  (x_cge c280_9 H.1.1 H.1.2 (fun h1 => (x_ildn c280_34 rfl (x_irt c280_35 r280 (H.2.1 h1)))) (fun h2 => (x_ildn c280_12 rfl (x_aldn c280_13 rfl (x_ildn c280_14 rfl (wp_wk (l' := [some (jR 133), none, some (jI v2)]) ⟨rfl, ⟨rfl, trivial⟩⟩ (x_cv (As := [jI v2]) (st := [jI v1]) c280_15 cl_133 kl271 rfl (Nat.le_of_ble_eq_true rfl) mx271 (Nat.le_refl _) (H.2.2 h2))))))))
theorem s280_18 {kc : List va_E} {d : Nat} {v2 u0 u1 : Int} {M : fx_M} {Q : Option fx_V → fx_M → Prop} (H : ((fx_in32 u0)) ∧ wp kc (d + 1) 280 4 [some (jR 133), some (jI (u1 + (if u0 < 0 then (0 : Int) else 1))), some (jI (v2 + 1))] [] M Q) : wp kc (d + 1) 280 18 [some (jR 133), none, some (jI v2)] [jI u0, jI u1] M Q :=
  (have K : wp kc (d + 1) 280 26 [some (jR 133), none, some (jI v2)] [jI (if u0 < 0 then (0 : Int) else 1), jI u1] M Q := (x_iadd c280_26 (x_istn (l' := [some (jR 133), some (jI (u1 + (if u0 < 0 then (0 : Int) else 1))), some (jI v2)]) c280_27 rfl (x_inc (l' := [some (jR 133), some (jI (u1 + (if u0 < 0 then (0 : Int) else 1))), some (jI (v2 + 1))]) c280_28 rfl rfl (x_goto c280_31 (wp_wk (l' := [some (jR 133), some (jI (u1 + (if u0 < 0 then (0 : Int) else 1))), some (jI (v2 + 1))]) ⟨rfl, ⟨rfl, ⟨rfl, trivial⟩⟩⟩ H.2))))); (x_zlt c280_18 H.1 (fun (h1 : u0 < 0) => (x_ci c280_25 (wp_wk (l' := [some (jR 133), none, some (jI v2)]) ⟨rfl, ⟨rfl, trivial⟩⟩ (by have K := K; first | (simp only [if_pos h1] at K ⊢; exact K) | (exfalso; omega))))) (fun (h2 : 0 ≤ u0) => (x_ci c280_21 (x_goto c280_22 (wp_wk (l' := [some (jR 133), none, some (jI v2)]) ⟨rfl, ⟨rfl, trivial⟩⟩ (by have K := K; first | (simp only [if_neg (Int.not_lt.mpr h2)] at K ⊢; exact K) | (exfalso; omega))))))))
theorem s280 {kc : List va_E} {d : Nat} {M : fx_M} {Q : Option fx_V → fx_M → Prop} (H : wp kc (d + 1) 280 4 [some (jR 133), some (jI 0), some (jI 0)] [] M Q) : wc kc (d + 1) 280 [jR 133] M Q :=
  wc_of (wp_wk (l' := [some (jR 133), none, none]) ⟨rfl, trivial⟩ (s280_0 H))
