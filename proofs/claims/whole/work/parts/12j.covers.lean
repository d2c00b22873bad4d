/-! SEGMENTS of Covers (by gen/emit_segs.py) -/
/- PuzzleHouse$Covers.list(I)V -/
theorem c160_0 : fx_op 160 0 = some (.iload_n 1, 1, 0) := by decide +kernel
theorem c160_1 : fx_ci 160 1 = some (100, 3) := by decide +kernel
theorem c160_3 : fx_op 160 3 = some (.if_icmp .le 13, 6, 16) := by decide +kernel
theorem c160_16 : fx_op 160 16 = some (.aload_n 0, 17, 16) := by decide +kernel
theorem c160_17 : fx_op 160 17 = some (.iload_n 1, 18, 17) := by decide +kernel
theorem c160_18 : fx_pf 160 18 = some (8, 2, 0, 21) := by decide +kernel
theorem c160_21 : fx_op 160 21 = some (.aload_n 0, 22, 21) := by decide +kernel
theorem c160_22 : fx_ci 160 22 = some (0, 23) := by decide +kernel
theorem c160_23 : fx_pf 160 23 = some (8, 3, 0, 26) := by decide +kernel
theorem c160_26 : fx_op 160 26 = some (.aload_n 0, 27, 26) := by decide +kernel
theorem c160_27 : fx_ci 160 27 = some (0, 28) := by decide +kernel
theorem c160_28 : fx_ci 160 28 = some (1, 29) := by decide +kernel
theorem c160_29 : fx_op 160 29 = some (.aload_n 0, 30, 29) := by decide +kernel
theorem c160_30 : fx_gf 160 30 = some (8, 0, 33) := by decide +kernel
theorem c160_33 : fx_gf 160 33 = some (3, 2, 36) := by decide +kernel
theorem c160_36 : fx_op 160 36 = some (.ishl, 37, 36) := by decide +kernel
theorem c160_37 : fx_ci 160 37 = some (1, 38) := by decide +kernel
theorem c160_38 : fx_op 160 38 = some (.isub, 39, 38) := by decide +kernel
theorem c160_39 : fx_ci 160 39 = some (0, 40) := by decide +kernel
theorem c160_6 : fx_op 160 6 = some (.aload_n 0, 7, 6) := by decide +kernel
theorem c160_7 : fx_gf 160 7 = some (8, 1, 10) := by decide +kernel
theorem c160_10 : fx_cr 160 10 = some (1000115, 12) := by decide +kernel
theorem c160_40 : fx_ca 160 40 = some (161, 4, 2, 43) := by decide +kernel
theorem c160_12 : fx_ca 160 12 = some (64, 2, 2, 15) := by decide +kernel
theorem c160_43 : fx_op 160 43 = some (.aload_n 0, 44, 43) := by decide +kernel
theorem c160_44 : fx_gf 160 44 = some (8, 1, 47) := by decide +kernel
theorem c160_47 : fx_op 160 47 = some (.aload_n 0, 48, 47) := by decide +kernel
theorem c160_48 : fx_gf 160 48 = some (8, 3, 51) := by decide +kernel
theorem c160_51 : fx_op 160 51 = some (.aload_n 0, 52, 51) := by decide +kernel
theorem c160_52 : fx_gf 160 52 = some (8, 2, 55) := by decide +kernel
theorem c160_55 : fx_op 160 55 = some (.if_icmp .le 8, 58, 63) := by decide +kernel
theorem c160_63 : fx_cr 160 63 = some (1000119, 65) := by decide +kernel
theorem c160_58 : fx_cr 160 58 = some (1000117, 60) := by decide +kernel
theorem c160_60 : fx_op 160 60 = some (.goto 5, 63, 65) := by decide +kernel
theorem c160_65 : fx_ca 160 65 = some (64, 2, 2, 68) := by decide +kernel
theorem c160_15 : fx_op 160 15 = some (.return_, 16, 15) := by decide +kernel
theorem c160_68 : fx_op 160 68 = some (.return_, 69, 68) := by decide +kernel
theorem s160_0 {kc : List va_E} {d : Nat} {x1 : Int} {M : fx_M} {Q : Option fx_V → fx_M → Prop} (H : ((fx_in32 x1)) ∧ (x1 ≤ 100 → wc kc d 161 [jR 50, jI 0, jI ((fx_shl 1 (M 11 2)) - 1), jI 0] (fx_up (fx_up M 50 2 x1) 50 3 0) (fun v M1 => wp kc (d + 1) 160 43 [some (jR 50), none] (v.toList ++ []) M1 Q)) ∧ (100 < x1 → wc kc d 64 [jR 3, jR 1000115] M (fun v M1 => wp kc (d + 1) 160 15 [none, none] (v.toList ++ []) M1 Q))) : wp kc (d + 1) 160 0 [some (jR 50), some (jI x1)] [] M Q :=
  (x_ildn c160_0 rfl (x_ci c160_1 (x_cle c160_3 H.1 (by decide) (fun h1 => (x_aldn c160_16 rfl (x_ildn c160_17 rfl (x_pfi c160_18 k_50_2 (x_aldn c160_21 rfl (x_ci c160_22 (x_pfi c160_23 k_50_3 (x_aldn c160_26 rfl (x_ci c160_27 (x_ci c160_28 (x_aldn c160_29 rfl (x_gfr c160_30 k_50_0 (x_gfi c160_33 k_11_2 (wp_vI (((fx_upA (by decide)).trans (fx_upA (by decide)))) (x_ishl c160_36 (x_ci c160_37 (x_isub c160_38 (x_ci c160_39 (wp_wk (l' := [some (jR 50), none]) ⟨rfl, trivial⟩ (x_cv (As := [jI 0, jI ((fx_shl 1 (M 11 2)) - 1), jI 0]) (st := []) c160_40 cl_50 kl161 rfl (Nat.le_of_ble_eq_true rfl) mx161 (Nat.le_refl _) (H.2.1 h1))))))))))))))))))))) (fun h2 => (x_aldn c160_6 rfl (x_gfr c160_7 k_50_1 (x_cr c160_10 (wp_wk (l' := [none, none]) trivial (x_cv (As := [jR 1000115]) (st := []) c160_12 cl_3 kl64 rfl (Nat.le_of_ble_eq_true rfl) mx64 (Nat.le_refl _) (H.2.2 h2))))))))))
theorem s160_15 {kc : List va_E} {d : Nat} {M : fx_M} {Q : Option fx_V → fx_M → Prop} (H : Q none M) : wp kc (d + 1) 160 15 [none, none] [] M Q :=
  (x_vr c160_15 r160 H)
theorem s160_43 {kc : List va_E} {d : Nat} {M : fx_M} {Q : Option fx_V → fx_M → Prop} (H : ((fx_in32 (M 50 3)) ∧ (fx_in32 (M 50 2))) ∧ (M 50 3 ≤ M 50 2 → wc kc d 64 [jR 3, jR 1000119] M (fun v M1 => wp kc (d + 1) 160 68 [none, none] (v.toList ++ []) M1 Q)) ∧ (M 50 2 < M 50 3 → wc kc d 64 [jR 3, jR 1000117] M (fun v M1 => wp kc (d + 1) 160 68 [none, none] (v.toList ++ []) M1 Q))) : wp kc (d + 1) 160 43 [some (jR 50), none] [] M Q :=
  (x_aldn c160_43 rfl (x_gfr c160_44 k_50_1 (x_aldn c160_47 rfl (x_gfi c160_48 k_50_3 (x_aldn c160_51 rfl (x_gfi c160_52 k_50_2 (x_cle c160_55 H.1.1 H.1.2 (fun h1 => (x_cr c160_63 (wp_wk (l' := [none, none]) trivial (x_cv (As := [jR 1000119]) (st := []) c160_65 cl_3 kl64 rfl (Nat.le_of_ble_eq_true rfl) mx64 (Nat.le_refl _) (H.2.1 h1))))) (fun h2 => (x_cr c160_58 (x_goto c160_60 (wp_wk (l' := [none, none]) trivial (x_cv (As := [jR 1000117]) (st := []) c160_65 cl_3 kl64 rfl (Nat.le_of_ble_eq_true rfl) mx64 (Nat.le_refl _) (H.2.2 h2)))))))))))))
theorem s160_68 {kc : List va_E} {d : Nat} {M : fx_M} {Q : Option fx_V → fx_M → Prop} (H : Q none M) : wp kc (d + 1) 160 68 [none, none] [] M Q :=
  (x_vr c160_68 r160 H)
theorem s160 {kc : List va_E} {d : Nat} {x1 : Int} {M : fx_M} {Q : Option fx_V → fx_M → Prop} (H : ((fx_in32 x1)) ∧ (x1 ≤ 100 → wc kc d 161 [jR 50, jI 0, jI ((fx_shl 1 (M 11 2)) - 1), jI 0] (fx_up (fx_up M 50 2 x1) 50 3 0) (fun v M1 => wp kc (d + 1) 160 43 [some (jR 50), none] (v.toList ++ []) M1 Q)) ∧ (100 < x1 → wc kc d 64 [jR 3, jR 1000115] M (fun v M1 => wp kc (d + 1) 160 15 [none, none] (v.toList ++ []) M1 Q))) : wc kc (d + 1) 160 [jR 50, jI x1] M Q :=
  wc_of (wp_wk (l' := [some (jR 50), some (jI x1)]) ⟨rfl, ⟨rfl, trivial⟩⟩ (s160_0 H))

/- PuzzleHouse$Covers.cover(III)V -/
theorem c161_0 : fx_op 161 0 = some (.iload_n 2, 1, 0) := by decide +kernel
theorem c161_1 : fx_op 161 1 = some (.ifCond .eq 12, 4, 13) := by decide +kernel
theorem c161_13 : fx_op 161 13 = some (.aload_n 0, 14, 13) := by decide +kernel
theorem c161_14 : fx_op 161 14 = some (.dup, 15, 14) := by decide +kernel
theorem c161_15 : fx_gf 161 15 = some (8, 3, 18) := by decide +kernel
theorem c161_18 : fx_ci 161 18 = some (1, 19) := by decide +kernel
theorem c161_19 : fx_op 161 19 = some (.iadd, 20, 19) := by decide +kernel
theorem c161_20 : fx_pf 161 20 = some (8, 3, 0, 23) := by decide +kernel
theorem c161_23 : fx_op 161 23 = some (.aload_n 0, 24, 23) := by decide +kernel
theorem c161_24 : fx_gf 161 24 = some (8, 3, 27) := by decide +kernel
theorem c161_27 : fx_op 161 27 = some (.aload_n 0, 28, 27) := by decide +kernel
theorem c161_28 : fx_gf 161 28 = some (8, 2, 31) := by decide +kernel
theorem c161_31 : fx_op 161 31 = some (.if_icmp .gt 8, 34, 39) := by decide +kernel
theorem c161_34 : fx_op 161 34 = some (.aload_n 0, 35, 34) := by decide +kernel
theorem c161_35 : fx_op 161 35 = some (.iload_n 3, 36, 35) := by decide +kernel
theorem c161_4 : fx_op 161 4 = some (.iload_n 3, 5, 4) := by decide +kernel
theorem c161_5 : fx_op 161 5 = some (.aload_n 0, 6, 5) := by decide +kernel
theorem c161_6 : fx_gf 161 6 = some (8, 4, 9) := by decide +kernel
theorem c161_9 : fx_op 161 9 = some (.arraylength, 10, 9) := by decide +kernel
theorem c161_10 : fx_op 161 10 = some (.if_icmp .lt 30, 13, 40) := by decide +kernel
theorem c161_40 : fx_op 161 40 = some (.iload_n 1, 41, 40) := by decide +kernel
theorem c161_41 : fx_op 161 41 = some (.istore 4, 43, 41) := by decide +kernel
theorem c161_39 : fx_op 161 39 = some (.return_, 40, 39) := by decide +kernel
theorem c161_36 : fx_ca 161 36 = some (162, 2, 2, 39) := by decide +kernel
theorem c161_43 : fx_op 161 43 = some (.iload 4, 45, 43) := by decide +kernel
theorem c161_45 : fx_op 161 45 = some (.aload_n 0, 46, 45) := by decide +kernel
theorem c161_46 : fx_gf 161 46 = some (8, 0, 49) := by decide +kernel
theorem c161_49 : fx_gf 161 49 = some (3, 4, 52) := by decide +kernel
theorem c161_52 : fx_op 161 52 = some (.if_icmp .ge 70, 55, 122) := by decide +kernel
theorem c161_55 : fx_op 161 55 = some (.aload_n 0, 56, 55) := by decide +kernel
theorem c161_56 : fx_gf 161 56 = some (8, 3, 59) := by decide +kernel
theorem c161_59 : fx_op 161 59 = some (.aload_n 0, 60, 59) := by decide +kernel
theorem c161_60 : fx_gf 161 60 = some (8, 2, 63) := by decide +kernel
theorem c161_63 : fx_op 161 63 = some (.if_icmp .gt 59, 66, 122) := by decide +kernel
theorem c161_66 : fx_op 161 66 = some (.aload_n 0, 67, 66) := by decide +kernel
theorem c161_67 : fx_gf 161 67 = some (8, 0, 70) := by decide +kernel
theorem c161_70 : fx_gf 161 70 = some (3, 9, 73) := by decide +kernel
theorem c161_73 : fx_op 161 73 = some (.iload 4, 75, 73) := by decide +kernel
theorem c161_75 : fx_op 161 75 = some (.iaload, 76, 75) := by decide +kernel
theorem c161_76 : fx_op 161 76 = some (.iload_n 2, 77, 76) := by decide +kernel
theorem c161_77 : fx_ci 161 77 = some ((-1), 78) := by decide +kernel
theorem c161_78 : fx_op 161 78 = some (.ixor, 79, 78) := by decide +kernel
theorem c161_79 : fx_op 161 79 = some (.iand, 80, 79) := by decide +kernel
theorem c161_80 : fx_op 161 80 = some (.ifCond .ne 36, 83, 116) := by decide +kernel
theorem c161_116 : fx_op 161 116 = some (.iinc 4 1, 119, 116) := by decide +kernel
theorem c161_83 : fx_op 161 83 = some (.aload_n 0, 84, 83) := by decide +kernel
theorem c161_84 : fx_gf 161 84 = some (8, 4, 87) := by decide +kernel
theorem c161_87 : fx_op 161 87 = some (.iload_n 3, 88, 87) := by decide +kernel
theorem c161_88 : fx_op 161 88 = some (.iload 4, 90, 88) := by decide +kernel
theorem c161_91 : fx_op 161 91 = some (.aload_n 0, 92, 91) := by decide +kernel
theorem c161_92 : fx_op 161 92 = some (.iload 4, 94, 92) := by decide +kernel
theorem c161_94 : fx_ci 161 94 = some (1, 95) := by decide +kernel
theorem c161_95 : fx_op 161 95 = some (.iadd, 96, 95) := by decide +kernel
theorem c161_96 : fx_op 161 96 = some (.iload_n 2, 97, 96) := by decide +kernel
theorem c161_97 : fx_op 161 97 = some (.aload_n 0, 98, 97) := by decide +kernel
theorem c161_98 : fx_gf 161 98 = some (8, 0, 101) := by decide +kernel
theorem c161_101 : fx_gf 161 101 = some (3, 9, 104) := by decide +kernel
theorem c161_104 : fx_op 161 104 = some (.iload 4, 106, 104) := by decide +kernel
theorem c161_107 : fx_ci 161 107 = some ((-1), 108) := by decide +kernel
theorem c161_108 : fx_op 161 108 = some (.ixor, 109, 108) := by decide +kernel
theorem c161_109 : fx_op 161 109 = some (.iand, 110, 109) := by decide +kernel
theorem c161_110 : fx_op 161 110 = some (.iload_n 3, 111, 110) := by decide +kernel
theorem c161_111 : fx_ci 161 111 = some (1, 112) := by decide +kernel
theorem c161_112 : fx_op 161 112 = some (.iadd, 113, 112) := by decide +kernel
theorem c161_122 : fx_op 161 122 = some (.return_, 123, 122) := by decide +kernel
theorem c161_119 : fx_op 161 119 = some (.goto (-76), 122, 43) := by decide +kernel
theorem c161_90 : fx_op 161 90 = some (.iastore, 91, 90) := by decide +kernel
theorem c161_106 : fx_op 161 106 = some (.iaload, 107, 106) := by decide +kernel
theorem c161_113 : fx_ca 161 113 = some (161, 4, 2, 116) := by decide +kernel
theorem s161_0 {kc : List va_E} {d : Nat} {x1 x2 x3 : Int} {M : fx_M} {Q : Option fx_V → fx_M → Prop} (H : ((fx_in32 x2)) ∧ (x2 = 0 → ((fx_in32 ((M 50 3) + 1)) ∧ (fx_in32 (M 50 2))) ∧ (M 50 2 < (M 50 3) + 1 → Q none (fx_up M 50 3 ((M 50 3) + 1))) ∧ ((M 50 3) + 1 ≤ M 50 2 → wc kc d 162 [jR 50, jI x3] (fx_up M 50 3 ((M 50 3) + 1)) (fun v M1 => wp kc (d + 1) 161 39 [none, none, none, none, none] (v.toList ++ []) M1 Q))) ∧ (x2 ≠ 0 → ((fx_in32 x3)) ∧ (x3 < 10 → wp kc (d + 1) 161 43 [some (jR 50), none, some (jI x2), some (jI x3), some (jI x1)] [] M Q) ∧ (10 ≤ x3 → ((fx_in32 ((M 50 3) + 1)) ∧ (fx_in32 (M 50 2))) ∧ (M 50 2 < (M 50 3) + 1 → Q none (fx_up M 50 3 ((M 50 3) + 1))) ∧ ((M 50 3) + 1 ≤ M 50 2 → wc kc d 162 [jR 50, jI x3] (fx_up M 50 3 ((M 50 3) + 1)) (fun v M1 => wp kc (d + 1) 161 39 [none, none, none, none, none] (v.toList ++ []) M1 Q))))) : wp kc (d + 1) 161 0 [some (jR 50), some (jI x1), some (jI x2), some (jI x3), none] [] M Q :=
  (x_ildn c161_0 rfl (x_zeq c161_1 H.1 (fun h7 => (x_aldn c161_13 rfl (x_dupr c161_14 (x_gfi c161_15 k_50_3 (x_ci c161_18 (x_iadd c161_19 (x_pfi c161_20 k_50_3 (x_aldn c161_23 rfl (x_gfi c161_24 k_50_3 (wp_vI (fx_upS) (x_aldn c161_27 rfl (x_gfi c161_28 k_50_2 (wp_vI (fx_upK (by decide)) (x_cgt c161_31 (H.2.1 h7).1.1 (H.2.1 h7).1.2 (fun h1 => (x_vr c161_39 r161 ((H.2.1 h7).2.1 h1))) (fun h2 => (x_aldn c161_34 rfl (x_ildn c161_35 rfl (wp_wk (l' := [none, none, none, none, none]) trivial (x_cv (As := [jI x3]) (st := []) c161_36 cl_50 kl162 rfl (Nat.le_of_ble_eq_true rfl) mx162 (Nat.le_refl _) ((H.2.1 h7).2.2 h2)))))))))))))))))))) (fun h8 => (x_ildn c161_4 rfl (x_aldn c161_5 rfl (x_gfr c161_6 k_50_4 (x_len c161_9 a_51 (x_clt c161_10 (H.2.2 h8).1 (by decide) (fun h5 => (x_ildn c161_40 rfl (x_ist (l' := [some (jR 50), some (jI x1), some (jI x2), some (jI x3), some (jI x1)]) c161_41 rfl (wp_wk (l' := [some (jR 50), none, some (jI x2), some (jI x3), some (jI x1)]) ⟨rfl, ⟨rfl, ⟨rfl, ⟨rfl, trivial⟩⟩⟩⟩ ((H.2.2 h8).2.1 h5))))) (fun h6 => (x_aldn c161_13 rfl (x_dupr c161_14 (x_gfi c161_15 k_50_3 (x_ci c161_18 (x_iadd c161_19 (x_pfi c161_20 k_50_3 (x_aldn c161_23 rfl (x_gfi c161_24 k_50_3 (wp_vI (fx_upS) (x_aldn c161_27 rfl (x_gfi c161_28 k_50_2 (wp_vI (fx_upK (by decide)) (x_cgt c161_31 ((H.2.2 h8).2.2 h6).1.1 ((H.2.2 h8).2.2 h6).1.2 (fun h3 => (x_vr c161_39 r161 (((H.2.2 h8).2.2 h6).2.1 h3))) (fun h4 => (x_aldn c161_34 rfl (x_ildn c161_35 rfl (wp_wk (l' := [none, none, none, none, none]) trivial (x_cv (As := [jI x3]) (st := []) c161_36 cl_50 kl162 rfl (Nat.le_of_ble_eq_true rfl) mx162 (Nat.le_refl _) (((H.2.2 h8).2.2 h6).2.2 h4))))))))))))))))))))))))))))
theorem s161_39 {kc : List va_E} {d : Nat} {M : fx_M} {Q : Option fx_V → fx_M → Prop} (H : Q none M) : wp kc (d + 1) 161 39 [none, none, none, none, none] [] M Q :=
  (x_vr c161_39 r161 H)
theorem s161_43 {kc : List va_E} {d : Nat} {v2 v3 v4 : Int} {M : fx_M} {Q : Option fx_V → fx_M → Prop} (H : ((fx_in32 v4) ∧ (fx_in32 (M 11 4))) ∧ (M 11 4 ≤ v4 → Q none M) ∧ (v4 < M 11 4 → ((fx_in32 (M 50 3)) ∧ (fx_in32 (M 50 2))) ∧ (M 50 2 < M 50 3 → Q none M) ∧ (M 50 3 ≤ M 50 2 → (((0 : Int) ≤ v4 ∧ v4 < 12)) ∧ ((fx_in32 (fx_and (M 16 v4) (fx_xor v2 (-1))))) ∧ (fx_and (M 16 v4) (fx_xor v2 (-1)) ≠ 0 → wp kc (d + 1) 161 43 [some (jR 50), none, some (jI v2), some (jI v3), some (jI (v4 + 1))] [] M Q) ∧ (fx_and (M 16 v4) (fx_xor v2 (-1)) = 0 → (((0 : Int) ≤ v3 ∧ v3 < 10)) ∧ (((0 : Int) ≤ v4 ∧ v4 < 12)) ∧ wc kc d 161 [jR 50, jI (v4 + 1), jI (fx_and v2 (fx_xor (M 16 v4) (-1))), jI (v3 + 1)] (fx_up M 51 v3 v4) (fun v M1 => wp kc (d + 1) 161 116 [some (jR 50), none, some (jI v2), some (jI v3), some (jI v4)] (v.toList ++ []) M1 Q))))) : wp kc (d + 1) 161 43 [some (jR 50), none, some (jI v2), some (jI v3), some (jI v4)] [] M Q :=
  (x_ild c161_43 rfl (x_aldn c161_45 rfl (x_gfr c161_46 k_50_0 (x_gfi c161_49 k_11_4 (x_cge c161_52 H.1.1 H.1.2 (fun h5 => (x_vr c161_122 r161 (H.2.1 h5))) (fun h6 => (x_aldn c161_55 rfl (x_gfi c161_56 k_50_3 (x_aldn c161_59 rfl (x_gfi c161_60 k_50_2 (x_cgt c161_63 (H.2.2 h6).1.1 (H.2.2 h6).1.2 (fun h3 => (x_vr c161_122 r161 ((H.2.2 h6).2.1 h3))) (fun h4 => (x_aldn c161_66 rfl (x_gfr c161_67 k_50_0 (x_gfr c161_70 k_11_9 (x_ild c161_73 rfl (x_iald c161_75 a_16 ((H.2.2 h6).2.2 h4).1 (by decide) (x_ildn c161_76 rfl (x_ci c161_77 (x_ixor c161_78 (x_iand c161_79 (x_zne c161_80 ((H.2.2 h6).2.2 h4).2.1 (fun h1 => (x_inc (l' := [some (jR 50), none, some (jI v2), some (jI v3), some (jI (v4 + 1))]) c161_116 rfl rfl (x_goto c161_119 (wp_wk (l' := [some (jR 50), none, some (jI v2), some (jI v3), some (jI (v4 + 1))]) ⟨rfl, ⟨rfl, ⟨rfl, ⟨rfl, trivial⟩⟩⟩⟩ (((H.2.2 h6).2.2 h4).2.2.1 h1))))) (fun h2 => (x_aldn c161_83 rfl (x_gfr c161_84 k_50_4 (x_ildn c161_87 rfl (x_ild c161_88 rfl (x_iast c161_90 a_51 (((H.2.2 h6).2.2 h4).2.2.2 h2).1 (by decide) (x_aldn c161_91 rfl (x_ild c161_92 rfl (x_ci c161_94 (x_iadd c161_95 (x_ildn c161_96 rfl (x_aldn c161_97 rfl (x_gfr c161_98 k_50_0 (x_gfr c161_101 k_11_9 (x_ild c161_104 rfl (x_iald c161_106 a_16 (((H.2.2 h6).2.2 h4).2.2.2 h2).2.1 (by decide) (wp_vI (fx_upA (by decide)) (x_ci c161_107 (x_ixor c161_108 (x_iand c161_109 (x_ildn c161_110 rfl (x_ci c161_111 (x_iadd c161_112 (wp_wk (l' := [some (jR 50), none, some (jI v2), some (jI v3), some (jI v4)]) ⟨rfl, ⟨rfl, ⟨rfl, ⟨rfl, trivial⟩⟩⟩⟩ (x_cv (As := [jI (v4 + 1), jI (fx_and v2 (fx_xor (M 16 v4) (-1))), jI (v3 + 1)]) (st := []) c161_113 cl_50 kl161 rfl (Nat.le_of_ble_eq_true rfl) mx161 (Nat.le_refl _) (((H.2.2 h6).2.2 h4).2.2.2 h2).2.2)))))))))))))))))))))))))))))))))))))))))))))))
theorem s161_116 {kc : List va_E} {d : Nat} {v2 v3 v4 : Int} {M : fx_M} {Q : Option fx_V → fx_M → Prop} (H : wp kc (d + 1) 161 43 [some (jR 50), none, some (jI v2), some (jI v3), some (jI (v4 + 1))] [] M Q) : wp kc (d + 1) 161 116 [some (jR 50), none, some (jI v2), some (jI v3), some (jI v4)] [] M Q :=
  (x_inc (l' := [some (jR 50), none, some (jI v2), some (jI v3), some (jI (v4 + 1))]) c161_116 rfl rfl (x_goto c161_119 (wp_wk (l' := [some (jR 50), none, some (jI v2), some (jI v3), some (jI (v4 + 1))]) ⟨rfl, ⟨rfl, ⟨rfl, ⟨rfl, trivial⟩⟩⟩⟩ H)))
theorem s161 {kc : List va_E} {d : Nat} {x1 x2 x3 : Int} {M : fx_M} {Q : Option fx_V → fx_M → Prop} (H : ((fx_in32 x2)) ∧ (x2 = 0 → ((fx_in32 ((M 50 3) + 1)) ∧ (fx_in32 (M 50 2))) ∧ (M 50 2 < (M 50 3) + 1 → Q none (fx_up M 50 3 ((M 50 3) + 1))) ∧ ((M 50 3) + 1 ≤ M 50 2 → wc kc d 162 [jR 50, jI x3] (fx_up M 50 3 ((M 50 3) + 1)) (fun v M1 => wp kc (d + 1) 161 39 [none, none, none, none, none] (v.toList ++ []) M1 Q))) ∧ (x2 ≠ 0 → ((fx_in32 x3)) ∧ (x3 < 10 → wp kc (d + 1) 161 43 [some (jR 50), none, some (jI x2), some (jI x3), some (jI x1)] [] M Q) ∧ (10 ≤ x3 → ((fx_in32 ((M 50 3) + 1)) ∧ (fx_in32 (M 50 2))) ∧ (M 50 2 < (M 50 3) + 1 → Q none (fx_up M 50 3 ((M 50 3) + 1))) ∧ ((M 50 3) + 1 ≤ M 50 2 → wc kc d 162 [jR 50, jI x3] (fx_up M 50 3 ((M 50 3) + 1)) (fun v M1 => wp kc (d + 1) 161 39 [none, none, none, none, none] (v.toList ++ []) M1 Q))))) : wc kc (d + 1) 161 [jR 50, jI x1, jI x2, jI x3] M Q :=
  wc_of (wp_wk (l' := [some (jR 50), some (jI x1), some (jI x2), some (jI x3), none]) ⟨rfl, ⟨rfl, ⟨rfl, ⟨rfl, trivial⟩⟩⟩⟩ (s161_0 H))

/- PuzzleHouse$Covers.writeCover(I)V -/
theorem c162_0 : fx_ci 162 0 = some (0, 1) := by decide +kernel
theorem c162_1 : fx_op 162 1 = some (.istore_n 2, 2, 1) := by decide +kernel
theorem c162_2 : fx_op 162 2 = some (.iload_n 2, 3, 2) := by decide +kernel
theorem c162_3 : fx_op 162 3 = some (.iload_n 1, 4, 3) := by decide +kernel
theorem c162_4 : fx_op 162 4 = some (.if_icmp .ge 44, 7, 48) := by decide +kernel
theorem c162_7 : fx_op 162 7 = some (.iload_n 2, 8, 7) := by decide +kernel
theorem c162_8 : fx_op 162 8 = some (.aload_n 0, 9, 8) := by decide +kernel
theorem c162_9 : fx_gf 162 9 = some (8, 4, 12) := by decide +kernel
theorem c162_12 : fx_op 162 12 = some (.arraylength, 13, 12) := by decide +kernel
theorem c162_13 : fx_op 162 13 = some (.if_icmp .ge 35, 16, 48) := by decide +kernel
theorem c162_16 : fx_op 162 16 = some (.iload_n 2, 17, 16) := by decide +kernel
theorem c162_17 : fx_op 162 17 = some (.ifCond .le 12, 20, 29) := by decide +kernel
theorem c162_29 : fx_op 162 29 = some (.aload_n 0, 30, 29) := by decide +kernel
theorem c162_30 : fx_gf 162 30 = some (8, 1, 33) := by decide +kernel
theorem c162_33 : fx_op 162 33 = some (.aload_n 0, 34, 33) := by decide +kernel
theorem c162_34 : fx_gf 162 34 = some (8, 4, 37) := by decide +kernel
theorem c162_37 : fx_op 162 37 = some (.iload_n 2, 38, 37) := by decide +kernel
theorem c162_38 : fx_op 162 38 = some (.iaload, 39, 38) := by decide +kernel
theorem c162_48 : fx_op 162 48 = some (.aload_n 0, 49, 48) := by decide +kernel
theorem c162_49 : fx_gf 162 49 = some (8, 1, 52) := by decide +kernel
theorem c162_52 : fx_ci 162 52 = some (32, 54) := by decide +kernel
theorem c162_20 : fx_op 162 20 = some (.aload_n 0, 21, 20) := by decide +kernel
theorem c162_21 : fx_gf 162 21 = some (8, 1, 24) := by decide +kernel
theorem c162_24 : fx_ci 162 24 = some (43, 26) := by decide +kernel
theorem c162_54 : fx_ca 162 54 = some (69, 2, 2, 57) := by decide +kernel
theorem c162_39 : fx_ca 162 39 = some (65, 2, 2, 42) := by decide +kernel
theorem c162_26 : fx_ca 162 26 = some (69, 2, 2, 29) := by decide +kernel
theorem c162_57 : fx_op 162 57 = some (.return_, 58, 57) := by decide +kernel
theorem c162_42 : fx_op 162 42 = some (.iinc 2 1, 45, 42) := by decide +kernel
theorem c162_45 : fx_op 162 45 = some (.goto (-43), 48, 2) := by decide +kernel
theorem s162_0 {kc : List va_E} {d : Nat} {x1 : Int} {M : fx_M} {Q : Option fx_V → fx_M → Prop} (H : wp kc (d + 1) 162 2 [some (jR 50), some (jI x1), some (jI 0)] [] M Q) : wp kc (d + 1) 162 0 [some (jR 50), some (jI x1), none] [] M Q :=
  (x_ci c162_0 (x_istn (l' := [some (jR 50), some (jI x1), some (jI 0)]) c162_1 rfl (wp_wk (l' := [some (jR 50), some (jI x1), some (jI 0)]) ⟨rfl, ⟨rfl, ⟨rfl, trivial⟩⟩⟩ H)))
theorem s162_2 {kc : List va_E} {d : Nat} {v1 v2 : Int} {M : fx_M} {Q : Option fx_V → fx_M → Prop} (H : ((fx_in32 v2) ∧ (fx_in32 v1)) ∧ (v1 ≤ v2 → wc kc d 69 [jR 3, jI 32] M (fun v M1 => wp kc (d + 1) 162 57 [none, none, none] (v.toList ++ []) M1 Q)) ∧ (v2 < v1 → ((fx_in32 v2)) ∧ (10 ≤ v2 → wc kc d 69 [jR 3, jI 32] M (fun v M1 => wp kc (d + 1) 162 57 [none, none, none] (v.toList ++ []) M1 Q)) ∧ (v2 < 10 → ((fx_in32 v2)) ∧ (v2 ≤ 0 → (((0 : Int) ≤ v2 ∧ v2 < 10)) ∧ wc kc d 65 [jR 3, jI (M 51 v2)] M (fun v M1 => wp kc (d + 1) 162 42 [some (jR 50), some (jI v1), some (jI v2)] (v.toList ++ []) M1 Q)) ∧ (0 < v2 → wc kc d 69 [jR 3, jI 43] M (fun v M1 => wp kc (d + 1) 162 29 [some (jR 50), some (jI v1), some (jI v2)] (v.toList ++ []) M1 Q))))) : wp kc (d + 1) 162 2 [some (jR 50), some (jI v1), some (jI v2)] [] M Q :=
  (x_ildn c162_2 rfl (x_ildn c162_3 rfl (x_cge c162_4 H.1.1 H.1.2 (fun h5 => (x_aldn c162_48 rfl (x_gfr c162_49 k_50_1 (x_ci c162_52 (wp_wk (l' := [none, none, none]) trivial (x_cv (As := [jI 32]) (st := []) c162_54 cl_3 kl69 rfl (Nat.le_of_ble_eq_true rfl) mx69 (Nat.le_refl _) (H.2.1 h5))))))) (fun h6 => (x_ildn c162_7 rfl (x_aldn c162_8 rfl (x_gfr c162_9 k_50_4 (x_len c162_12 a_51 (x_cge c162_13 (H.2.2 h6).1 (by decide) (fun h3 => (x_aldn c162_48 rfl (x_gfr c162_49 k_50_1 (x_ci c162_52 (wp_wk (l' := [none, none, none]) trivial (x_cv (As := [jI 32]) (st := []) c162_54 cl_3 kl69 rfl (Nat.le_of_ble_eq_true rfl) mx69 (Nat.le_refl _) ((H.2.2 h6).2.1 h3))))))) (fun h4 => (x_ildn c162_16 rfl (x_zle c162_17 ((H.2.2 h6).2.2 h4).1 (fun h1 => (x_aldn c162_29 rfl (x_gfr c162_30 k_50_1 (x_aldn c162_33 rfl (x_gfr c162_34 k_50_4 (x_ildn c162_37 rfl (x_iald c162_38 a_51 (((H.2.2 h6).2.2 h4).2.1 h1).1 (by decide) (wp_wk (l' := [some (jR 50), some (jI v1), some (jI v2)]) ⟨rfl, ⟨rfl, ⟨rfl, trivial⟩⟩⟩ (x_cv (As := [jI (M 51 v2)]) (st := []) c162_39 cl_3 kl65 rfl (Nat.le_of_ble_eq_true rfl) mx65 (Nat.le_refl _) (((H.2.2 h6).2.2 h4).2.1 h1).2))))))))) (fun h2 => (x_aldn c162_20 rfl (x_gfr c162_21 k_50_1 (x_ci c162_24 (wp_wk (l' := [some (jR 50), some (jI v1), some (jI v2)]) ⟨rfl, ⟨rfl, ⟨rfl, trivial⟩⟩⟩ (x_cv (As := [jI 43]) (st := []) c162_26 cl_3 kl69 rfl (Nat.le_of_ble_eq_true rfl) mx69 (Nat.le_refl _) (((H.2.2 h6).2.2 h4).2.2 h2)))))))))))))))))))
theorem s162_29 {kc : List va_E} {d : Nat} {v1 v2 : Int} {M : fx_M} {Q : Option fx_V → fx_M → Prop} (H : (((0 : Int) ≤ v2 ∧ v2 < 10)) ∧ wc kc d 65 [jR 3, jI (M 51 v2)] M (fun v M1 => wp kc (d + 1) 162 42 [some (jR 50), some (jI v1), some (jI v2)] (v.toList ++ []) M1 Q)) : wp kc (d + 1) 162 29 [some (jR 50), some (jI v1), some (jI v2)] [] M Q :=
  (x_aldn c162_29 rfl (x_gfr c162_30 k_50_1 (x_aldn c162_33 rfl (x_gfr c162_34 k_50_4 (x_ildn c162_37 rfl (x_iald c162_38 a_51 H.1 (by decide) (wp_wk (l' := [some (jR 50), some (jI v1), some (jI v2)]) ⟨rfl, ⟨rfl, ⟨rfl, trivial⟩⟩⟩ (x_cv (As := [jI (M 51 v2)]) (st := []) c162_39 cl_3 kl65 rfl (Nat.le_of_ble_eq_true rfl) mx65 (Nat.le_refl _) H.2))))))))
theorem s162_42 {kc : List va_E} {d : Nat} {v1 v2 : Int} {M : fx_M} {Q : Option fx_V → fx_M → Prop} (H : wp kc (d + 1) 162 2 [some (jR 50), some (jI v1), some (jI (v2 + 1))] [] M Q) : wp kc (d + 1) 162 42 [some (jR 50), some (jI v1), some (jI v2)] [] M Q :=
  (x_inc (l' := [some (jR 50), some (jI v1), some (jI (v2 + 1))]) c162_42 rfl rfl (x_goto c162_45 (wp_wk (l' := [some (jR 50), some (jI v1), some (jI (v2 + 1))]) ⟨rfl, ⟨rfl, ⟨rfl, trivial⟩⟩⟩ H)))
theorem s162_57 {kc : List va_E} {d : Nat} {M : fx_M} {Q : Option fx_V → fx_M → Prop} (H : Q none M) : wp kc (d + 1) 162 57 [none, none, none] [] M Q :=
  (x_vr c162_57 r162 H)
theorem s162 {kc : List va_E} {d : Nat} {x1 : Int} {M : fx_M} {Q : Option fx_V → fx_M → Prop} (H : wp kc (d + 1) 162 2 [some (jR 50), some (jI x1), some (jI 0)] [] M Q) : wc kc (d + 1) 162 [jR 50, jI x1] M Q :=
  wc_of (wp_wk (l' := [some (jR 50), some (jI x1), none]) ⟨rfl, ⟨rfl, trivial⟩⟩ (s162_0 H))

/- PuzzleHouse$Covers.barred()V -/
theorem c163_0 : fx_ci 163 0 = some (2, 1) := by decide +kernel
theorem c163_1 : fx_op 163 1 = some (.istore_n 1, 2, 1) := by decide +kernel
theorem c163_2 : fx_op 163 2 = some (.iload_n 1, 3, 2) := by decide +kernel
theorem c163_3 : fx_ci 163 3 = some (3, 4) := by decide +kernel
theorem c163_4 : fx_op 163 4 = some (.if_icmp .gt 78, 7, 82) := by decide +kernel
theorem c163_82 : fx_op 163 82 = some (.aload_n 0, 83, 82) := by decide +kernel
theorem c163_83 : fx_gf 163 83 = some (8, 1, 86) := by decide +kernel
theorem c163_86 : fx_cr 163 86 = some (1000123, 88) := by decide +kernel
theorem c163_7 : fx_op 163 7 = some (.aload_n 0, 8, 7) := by decide +kernel
theorem c163_8 : fx_ci 163 8 = some (0, 9) := by decide +kernel
theorem c163_9 : fx_op 163 9 = some (.iload_n 1, 10, 9) := by decide +kernel
theorem c163_10 : fx_ci 163 10 = some (0, 11) := by decide +kernel
theorem c163_88 : fx_ca 163 88 = some (64, 2, 2, 91) := by decide +kernel
theorem c163_11 : fx_ca 163 11 = some (164, 4, 2, 14) := by decide +kernel
theorem c163_91 : fx_op 163 91 = some (.return_, 92, 91) := by decide +kernel
theorem c163_14 : fx_op 163 14 = some (.ifCond .eq 62, 17, 76) := by decide +kernel
theorem c163_76 : fx_op 163 76 = some (.iinc 1 1, 79, 76) := by decide +kernel
theorem c163_17 : fx_op 163 17 = some (.aload_n 0, 18, 17) := by decide +kernel
theorem c163_18 : fx_gf 163 18 = some (8, 1, 21) := by decide +kernel
theorem c163_21 : fx_cr 163 21 = some (1000121, 23) := by decide +kernel
theorem c163_79 : fx_op 163 79 = some (.goto (-77), 82, 2) := by decide +kernel
theorem c163_23 : fx_ca 163 23 = some (64, 2, 2, 26) := by decide +kernel
theorem c163_26 : fx_op 163 26 = some (.aload_n 0, 27, 26) := by decide +kernel
theorem c163_27 : fx_gf 163 27 = some (8, 1, 30) := by decide +kernel
theorem c163_30 : fx_op 163 30 = some (.iload_n 1, 31, 30) := by decide +kernel
theorem c163_31 : fx_ca 163 31 = some (65, 2, 2, 34) := by decide +kernel
theorem c163_34 : fx_op 163 34 = some (.aload_n 0, 35, 34) := by decide +kernel
theorem c163_35 : fx_gf 163 35 = some (8, 1, 38) := by decide +kernel
theorem c163_38 : fx_ci 163 38 = some (32, 40) := by decide +kernel
theorem c163_40 : fx_ca 163 40 = some (69, 2, 2, 43) := by decide +kernel
theorem c163_43 : fx_ci 163 43 = some (0, 44) := by decide +kernel
theorem c163_44 : fx_op 163 44 = some (.istore_n 2, 45, 44) := by decide +kernel
theorem c163_45 : fx_op 163 45 = some (.iload_n 2, 46, 45) := by decide +kernel
theorem c163_46 : fx_op 163 46 = some (.aload_n 0, 47, 46) := by decide +kernel
theorem c163_47 : fx_gf 163 47 = some (8, 0, 50) := by decide +kernel
theorem c163_50 : fx_gf 163 50 = some (3, 2, 53) := by decide +kernel
theorem c163_53 : fx_op 163 53 = some (.if_icmp .ge 22, 56, 75) := by decide +kernel
theorem c163_56 : fx_op 163 56 = some (.aload_n 0, 57, 56) := by decide +kernel
theorem c163_57 : fx_gf 163 57 = some (8, 1, 60) := by decide +kernel
theorem c163_60 : fx_op 163 60 = some (.aload_n 0, 61, 60) := by decide +kernel
theorem c163_61 : fx_gf 163 61 = some (8, 5, 64) := by decide +kernel
theorem c163_64 : fx_op 163 64 = some (.iload_n 2, 65, 64) := by decide +kernel
theorem c163_65 : fx_op 163 65 = some (.iaload, 66, 65) := by decide +kernel
theorem c163_75 : fx_op 163 75 = some (.return_, 76, 75) := by decide +kernel
theorem c163_66 : fx_ca 163 66 = some (65, 2, 2, 69) := by decide +kernel
theorem c163_69 : fx_op 163 69 = some (.iinc 2 1, 72, 69) := by decide +kernel
theorem c163_72 : fx_op 163 72 = some (.goto (-27), 75, 45) := by decide +kernel
theorem s163_0 {kc : List va_E} {d : Nat} {M : fx_M} {Q : Option fx_V → fx_M → Prop} (H : wp kc (d + 1) 163 2 [some (jR 50), some (jI 2), none] [] M Q) : wp kc (d + 1) 163 0 [some (jR 50), none, none] [] M Q :=
  (x_ci c163_0 (x_istn (l' := [some (jR 50), some (jI 2), none]) c163_1 rfl (wp_wk (l' := [some (jR 50), some (jI 2), none]) ⟨rfl, ⟨rfl, trivial⟩⟩ H)))
theorem s163_2 {kc : List va_E} {d : Nat} {v1 : Int} {M : fx_M} {Q : Option fx_V → fx_M → Prop} (H : ((fx_in32 v1)) ∧ (3 < v1 → wc kc d 64 [jR 3, jR 1000123] M (fun v M1 => wp kc (d + 1) 163 91 [none, none, none] (v.toList ++ []) M1 Q)) ∧ (v1 ≤ 3 → wc kc d 164 [jR 50, jI 0, jI v1, jI 0] M (fun v M1 => wp kc (d + 1) 163 14 [some (jR 50), some (jI v1), none] (v.toList ++ []) M1 Q))) : wp kc (d + 1) 163 2 [some (jR 50), some (jI v1), none] [] M Q :=
  (x_ildn c163_2 rfl (x_ci c163_3 (x_cgt c163_4 H.1 (by decide) (fun h1 => (x_aldn c163_82 rfl (x_gfr c163_83 k_50_1 (x_cr c163_86 (wp_wk (l' := [none, none, none]) trivial (x_cv (As := [jR 1000123]) (st := []) c163_88 cl_3 kl64 rfl (Nat.le_of_ble_eq_true rfl) mx64 (Nat.le_refl _) (H.2.1 h1))))))) (fun h2 => (x_aldn c163_7 rfl (x_ci c163_8 (x_ildn c163_9 rfl (x_ci c163_10 (wp_wk (l' := [some (jR 50), some (jI v1), none]) ⟨rfl, ⟨rfl, trivial⟩⟩ (x_cv (As := [jI 0, jI v1, jI 0]) (st := []) c163_11 cl_50 kl164 rfl (Nat.le_of_ble_eq_true rfl) mx164 (Nat.le_refl _) (H.2.2 h2)))))))))))
theorem s163_14 {kc : List va_E} {d : Nat} {v1 u0 : Int} {M : fx_M} {Q : Option fx_V → fx_M → Prop} (H : ((fx_in32 u0)) ∧ (u0 = 0 → wp kc (d + 1) 163 2 [some (jR 50), some (jI (v1 + 1)), none] [] M Q) ∧ (u0 ≠ 0 → wc kc d 64 [jR 3, jR 1000121] M (fun v M1 => wp kc (d + 1) 163 26 [some (jR 50), some (jI v1), none] (v.toList ++ []) M1 Q))) : wp kc (d + 1) 163 14 [some (jR 50), some (jI v1), none] [jI u0] M Q :=
  (x_zeq c163_14 H.1 (fun h1 => (x_inc (l' := [some (jR 50), some (jI (v1 + 1)), none]) c163_76 rfl rfl (x_goto c163_79 (wp_wk (l' := [some (jR 50), some (jI (v1 + 1)), none]) ⟨rfl, ⟨rfl, trivial⟩⟩ (H.2.1 h1))))) (fun h2 => (x_aldn c163_17 rfl (x_gfr c163_18 k_50_1 (x_cr c163_21 (wp_wk (l' := [some (jR 50), some (jI v1), none]) ⟨rfl, ⟨rfl, trivial⟩⟩ (x_cv (As := [jR 1000121]) (st := []) c163_23 cl_3 kl64 rfl (Nat.le_of_ble_eq_true rfl) mx64 (Nat.le_refl _) (H.2.2 h2))))))))
theorem s163_26 {kc : List va_E} {d : Nat} {v1 : Int} {M : fx_M} {Q : Option fx_V → fx_M → Prop} (H : wc kc d 65 [jR 3, jI v1] M (fun v M1 => wp kc (d + 1) 163 34 [some (jR 50), none, none] (v.toList ++ []) M1 Q)) : wp kc (d + 1) 163 26 [some (jR 50), some (jI v1), none] [] M Q :=
  (x_aldn c163_26 rfl (x_gfr c163_27 k_50_1 (x_ildn c163_30 rfl (wp_wk (l' := [some (jR 50), none, none]) ⟨rfl, trivial⟩ (x_cv (As := [jI v1]) (st := []) c163_31 cl_3 kl65 rfl (Nat.le_of_ble_eq_true rfl) mx65 (Nat.le_refl _) H)))))
theorem s163_34 {kc : List va_E} {d : Nat} {M : fx_M} {Q : Option fx_V → fx_M → Prop} (H : wc kc d 69 [jR 3, jI 32] M (fun v M1 => wp kc (d + 1) 163 43 [some (jR 50), none, none] (v.toList ++ []) M1 Q)) : wp kc (d + 1) 163 34 [some (jR 50), none, none] [] M Q :=
  (x_aldn c163_34 rfl (x_gfr c163_35 k_50_1 (x_ci c163_38 (wp_wk (l' := [some (jR 50), none, none]) ⟨rfl, trivial⟩ (x_cv (As := [jI 32]) (st := []) c163_40 cl_3 kl69 rfl (Nat.le_of_ble_eq_true rfl) mx69 (Nat.le_refl _) H)))))
theorem s163_43 {kc : List va_E} {d : Nat} {M : fx_M} {Q : Option fx_V → fx_M → Prop} (H : wp kc (d + 1) 163 45 [some (jR 50), none, some (jI 0)] [] M Q) : wp kc (d + 1) 163 43 [some (jR 50), none, none] [] M Q :=
  (x_ci c163_43 (x_istn (l' := [some (jR 50), none, some (jI 0)]) c163_44 rfl (wp_wk (l' := [some (jR 50), none, some (jI 0)]) ⟨rfl, ⟨rfl, trivial⟩⟩ H)))
theorem s163_45 {kc : List va_E} {d : Nat} {v2 : Int} {M : fx_M} {Q : Option fx_V → fx_M → Prop} (H : ((fx_in32 v2) ∧ (fx_in32 (M 11 2))) ∧ (M 11 2 ≤ v2 → Q none M) ∧ (v2 < M 11 2 → (((0 : Int) ≤ v2 ∧ v2 < 9)) ∧ wc kc d 65 [jR 3, jI (M 52 v2)] M (fun v M1 => wp kc (d + 1) 163 69 [some (jR 50), none, some (jI v2)] (v.toList ++ []) M1 Q))) : wp kc (d + 1) 163 45 [some (jR 50), none, some (jI v2)] [] M Q :=
  (x_ildn c163_45 rfl (x_aldn c163_46 rfl (x_gfr c163_47 k_50_0 (x_gfi c163_50 k_11_2 (x_cge c163_53 H.1.1 H.1.2 (fun h1 => (x_vr c163_75 r163 (H.2.1 h1))) (fun h2 => (x_aldn c163_56 rfl (x_gfr c163_57 k_50_1 (x_aldn c163_60 rfl (x_gfr c163_61 k_50_5 (x_ildn c163_64 rfl (x_iald c163_65 a_52 (H.2.2 h2).1 (by decide) (wp_wk (l' := [some (jR 50), none, some (jI v2)]) ⟨rfl, ⟨rfl, trivial⟩⟩ (x_cv (As := [jI (M 52 v2)]) (st := []) c163_66 cl_3 kl65 rfl (Nat.le_of_ble_eq_true rfl) mx65 (Nat.le_refl _) (H.2.2 h2).2))))))))))))))
theorem s163_69 {kc : List va_E} {d : Nat} {v2 : Int} {M : fx_M} {Q : Option fx_V → fx_M → Prop} (H : wp kc (d + 1) 163 45 [some (jR 50), none, some (jI (v2 + 1))] [] M Q) : wp kc (d + 1) 163 69 [some (jR 50), none, some (jI v2)] [] M Q :=
  (x_inc (l' := [some (jR 50), none, some (jI (v2 + 1))]) c163_69 rfl rfl (x_goto c163_72 (wp_wk (l' := [some (jR 50), none, some (jI (v2 + 1))]) ⟨rfl, ⟨rfl, trivial⟩⟩ H)))
theorem s163_91 {kc : List va_E} {d : Nat} {M : fx_M} {Q : Option fx_V → fx_M → Prop} (H : Q none M) : wp kc (d + 1) 163 91 [none, none, none] [] M Q :=
  (x_vr c163_91 r163 H)
theorem s163 {kc : List va_E} {d : Nat} {M : fx_M} {Q : Option fx_V → fx_M → Prop} (H : wp kc (d + 1) 163 2 [some (jR 50), some (jI 2), none] [] M Q) : wc kc (d + 1) 163 [jR 50] M Q :=
  wc_of (wp_wk (l' := [some (jR 50), none, none]) ⟨rfl, trivial⟩ (s163_0 H))

/- PuzzleHouse$Covers.paint(III)Z -/
theorem c164_0 : fx_op 164 0 = some (.iload_n 1, 1, 0) := by decide +kernel
theorem c164_1 : fx_op 164 1 = some (.aload_n 0, 2, 1) := by decide +kernel
theorem c164_2 : fx_gf 164 2 = some (8, 0, 5) := by decide +kernel
theorem c164_5 : fx_gf 164 5 = some (3, 2, 8) := by decide +kernel
theorem c164_8 : fx_op 164 8 = some (.if_icmp .ge 9, 11, 17) := by decide +kernel
theorem c164_17 : fx_op 164 17 = some (.iload_n 3, 18, 17) := by decide +kernel
theorem c164_18 : fx_op 164 18 = some (.iload_n 2, 19, 18) := by decide +kernel
theorem c164_11 : fx_op 164 11 = some (.iload_n 1, 12, 11) := by decide +kernel
theorem c164_12 : fx_ci 164 12 = some (9, 14) := by decide +kernel
theorem c164_14 : fx_op 164 14 = some (.if_icmp .lt 17, 17, 31) := by decide +kernel
theorem c164_31 : fx_ci 164 31 = some (0, 32) := by decide +kernel
theorem c164_32 : fx_op 164 32 = some (.istore 4, 34, 32) := by decide +kernel
theorem c164_19 : fx_ca 164 19 = some (165, 2, 0, 22) := by decide +kernel
theorem c164_34 : fx_op 164 34 = some (.iload 4, 36, 34) := by decide +kernel
theorem c164_36 : fx_op 164 36 = some (.iload_n 2, 37, 36) := by decide +kernel
theorem c164_37 : fx_op 164 37 = some (.if_icmp .ge 43, 40, 80) := by decide +kernel
theorem c164_80 : fx_ci 164 80 = some (0, 81) := by decide +kernel
theorem c164_40 : fx_op 164 40 = some (.aload_n 0, 41, 40) := by decide +kernel
theorem c164_41 : fx_gf 164 41 = some (8, 5, 44) := by decide +kernel
theorem c164_44 : fx_op 164 44 = some (.iload_n 1, 45, 44) := by decide +kernel
theorem c164_45 : fx_op 164 45 = some (.iload 4, 47, 45) := by decide +kernel
theorem c164_48 : fx_op 164 48 = some (.aload_n 0, 49, 48) := by decide +kernel
theorem c164_49 : fx_op 164 49 = some (.iload_n 1, 50, 49) := by decide +kernel
theorem c164_50 : fx_op 164 50 = some (.iload_n 2, 51, 50) := by decide +kernel
theorem c164_81 : fx_op 164 81 = some (.ireturn, 82, 81) := by decide +kernel
theorem c164_47 : fx_op 164 47 = some (.iastore, 48, 47) := by decide +kernel
theorem c164_51 : fx_ca 164 51 = some (166, 3, 2, 54) := by decide +kernel
theorem c164_22 : fx_op 164 22 = some (.ifCond .ne 7, 25, 29) := by decide +kernel
theorem c164_29 : fx_ci 164 29 = some (0, 30) := by decide +kernel
theorem c164_25 : fx_ci 164 25 = some (1, 26) := by decide +kernel
theorem c164_26 : fx_op 164 26 = some (.goto 4, 29, 30) := by decide +kernel
theorem c164_30 : fx_op 164 30 = some (.ireturn, 31, 30) := by decide +kernel
theorem c164_54 : fx_op 164 54 = some (.ifCond .eq 20, 57, 74) := by decide +kernel
theorem c164_74 : fx_op 164 74 = some (.iinc 4 1, 77, 74) := by decide +kernel
theorem c164_57 : fx_op 164 57 = some (.aload_n 0, 58, 57) := by decide +kernel
theorem c164_58 : fx_op 164 58 = some (.iload_n 1, 59, 58) := by decide +kernel
theorem c164_59 : fx_ci 164 59 = some (1, 60) := by decide +kernel
theorem c164_60 : fx_op 164 60 = some (.iadd, 61, 60) := by decide +kernel
theorem c164_61 : fx_op 164 61 = some (.iload_n 2, 62, 61) := by decide +kernel
theorem c164_62 : fx_op 164 62 = some (.iload_n 3, 63, 62) := by decide +kernel
theorem c164_63 : fx_op 164 63 = some (.iload 4, 65, 63) := by decide +kernel
theorem c164_65 : fx_op 164 65 = some (.iadd, 66, 65) := by decide +kernel
theorem c164_77 : fx_op 164 77 = some (.goto (-43), 80, 34) := by decide +kernel
theorem c164_66 : fx_ca 164 66 = some (164, 4, 2, 69) := by decide +kernel
theorem c164_69 : fx_op 164 69 = some (.ifCond .eq 5, 72, 74) := by decide +kernel
theorem c164_72 : fx_ci 164 72 = some (1, 73) := by decide +kernel
theorem c164_73 : fx_op 164 73 = some (.ireturn, 74, 73) := by decide +kernel
theorem s164_0 {kc : List va_E} {d : Nat} {x1 x2 x3 : Int} {M : fx_M} {Q : Option fx_V → fx_M → Prop} (H : ((fx_in32 x1) ∧ (fx_in32 (M 11 2))) ∧ (M 11 2 ≤ x1 → wc kc d 165 [jI x3, jI x2] M (fun v M1 => wp kc (d + 1) 164 22 [none, none, none, none, none] (v.toList ++ []) M1 Q)) ∧ (x1 < M 11 2 → ((fx_in32 x1)) ∧ (x1 < 9 → wp kc (d + 1) 164 34 [some (jR 50), some (jI x1), some (jI x2), some (jI x3), some (jI 0)] [] M Q) ∧ (9 ≤ x1 → wc kc d 165 [jI x3, jI x2] M (fun v M1 => wp kc (d + 1) 164 22 [none, none, none, none, none] (v.toList ++ []) M1 Q)))) : wp kc (d + 1) 164 0 [some (jR 50), some (jI x1), some (jI x2), some (jI x3), none] [] M Q :=
  (x_ildn c164_0 rfl (x_aldn c164_1 rfl (x_gfr c164_2 k_50_0 (x_gfi c164_5 k_11_2 (x_cge c164_8 H.1.1 H.1.2 (fun h3 => (x_ildn c164_17 rfl (x_ildn c164_18 rfl (wp_wk (l' := [none, none, none, none, none]) trivial (x_cs (As := [jI x3, jI x2]) (st := []) c164_19 (by decide) rfl (Nat.le_of_ble_eq_true rfl) mx165 (Nat.le_refl _) (H.2.1 h3)))))) (fun h4 => (x_ildn c164_11 rfl (x_ci c164_12 (x_clt c164_14 (H.2.2 h4).1 (by decide) (fun h1 => (x_ci c164_31 (x_ist (l' := [some (jR 50), some (jI x1), some (jI x2), some (jI x3), some (jI 0)]) c164_32 rfl (wp_wk (l' := [some (jR 50), some (jI x1), some (jI x2), some (jI x3), some (jI 0)]) ⟨rfl, ⟨rfl, ⟨rfl, ⟨rfl, ⟨rfl, trivial⟩⟩⟩⟩⟩ ((H.2.2 h4).2.1 h1))))) (fun h2 => (x_ildn c164_17 rfl (x_ildn c164_18 rfl (wp_wk (l' := [none, none, none, none, none]) trivial (x_cs (As := [jI x3, jI x2]) (st := []) c164_19 (by decide) rfl (Nat.le_of_ble_eq_true rfl) mx165 (Nat.le_refl _) ((H.2.2 h4).2.2 h2)))))))))))))))
theorem s164_22 {kc : List va_E} {d : Nat} {u0 : Int} {M : fx_M} {Q : Option fx_V → fx_M → Prop} (H : ((fx_in32 u0)) ∧ ((0 : Int) ≤ (if u0 = 0 then (1 : Int) else 0) ∧ (if u0 = 0 then (1 : Int) else 0) ≤ 1) ∧ Q (some (jI (if u0 = 0 then (1 : Int) else 0))) M) : wp kc (d + 1) 164 22 [none, none, none, none, none] [jI u0] M Q :=
  (have K : wp kc (d + 1) 164 30 [none, none, none, none, none] [jI (if u0 = 0 then (1 : Int) else 0)] M Q := (x_zrt c164_30 r164 H.2.1 H.2.2); (x_zne c164_22 H.1 (fun (h1 : u0 ≠ 0) => (x_ci c164_29 (wp_wk (l' := [none, none, none, none, none]) trivial (by have K := K; first | (simp only [if_neg h1] at K ⊢; exact K) | (exfalso; omega))))) (fun (h2 : u0 = 0) => (x_ci c164_25 (x_goto c164_26 (wp_wk (l' := [none, none, none, none, none]) trivial (by have K := K; first | (simp only [if_pos h2] at K ⊢; exact K) | (exfalso; omega))))))))
theorem s164_34 {kc : List va_E} {d : Nat} {v1 v2 v3 v4 : Int} {M : fx_M} {Q : Option fx_V → fx_M → Prop} (H : ((fx_in32 v4) ∧ (fx_in32 v2)) ∧ (v2 ≤ v4 → Q (some (jI 0)) M) ∧ (v4 < v2 → (((0 : Int) ≤ v1 ∧ v1 < 9)) ∧ wc kc d 166 [jR 50, jI v1, jI v2] (fx_up M 52 v1 v4) (fun v M1 => wp kc (d + 1) 164 54 [some (jR 50), some (jI v1), some (jI v2), some (jI v3), some (jI v4)] (v.toList ++ []) M1 Q))) : wp kc (d + 1) 164 34 [some (jR 50), some (jI v1), some (jI v2), some (jI v3), some (jI v4)] [] M Q :=
  (x_ild c164_34 rfl (x_ildn c164_36 rfl (x_cge c164_37 H.1.1 H.1.2 (fun h1 => (x_ci c164_80 (x_zrt c164_81 r164 (by decide) (H.2.1 h1)))) (fun h2 => (x_aldn c164_40 rfl (x_gfr c164_41 k_50_5 (x_ildn c164_44 rfl (x_ild c164_45 rfl (x_iast c164_47 a_52 (H.2.2 h2).1 (by decide) (x_aldn c164_48 rfl (x_ildn c164_49 rfl (x_ildn c164_50 rfl (wp_wk (l' := [some (jR 50), some (jI v1), some (jI v2), some (jI v3), some (jI v4)]) ⟨rfl, ⟨rfl, ⟨rfl, ⟨rfl, ⟨rfl, trivial⟩⟩⟩⟩⟩ (x_cv (As := [jI v1, jI v2]) (st := []) c164_51 cl_50 kl166 rfl (Nat.le_of_ble_eq_true rfl) mx166 (Nat.le_refl _) (H.2.2 h2).2))))))))))))))
theorem s164_54 {kc : List va_E} {d : Nat} {v1 v2 v3 v4 u0 : Int} {M : fx_M} {Q : Option fx_V → fx_M → Prop} (H : ((fx_in32 u0)) ∧ (u0 = 0 → wp kc (d + 1) 164 34 [some (jR 50), some (jI v1), some (jI v2), some (jI v3), some (jI (v4 + 1))] [] M Q) ∧ (u0 ≠ 0 → wc kc d 164 [jR 50, jI (v1 + 1), jI v2, jI (v3 + v4)] M (fun v M1 => wp kc (d + 1) 164 69 [some (jR 50), some (jI v1), some (jI v2), some (jI v3), some (jI v4)] (v.toList ++ []) M1 Q))) : wp kc (d + 1) 164 54 [some (jR 50), some (jI v1), some (jI v2), some (jI v3), some (jI v4)] [jI u0] M Q :=
  (x_zeq c164_54 H.1 (fun h1 => (x_inc (l' := [some (jR 50), some (jI v1), some (jI v2), some (jI v3), some (jI (v4 + 1))]) c164_74 rfl rfl (x_goto c164_77 (wp_wk (l' := [some (jR 50), some (jI v1), some (jI v2), some (jI v3), some (jI (v4 + 1))]) ⟨rfl, ⟨rfl, ⟨rfl, ⟨rfl, ⟨rfl, trivial⟩⟩⟩⟩⟩ (H.2.1 h1))))) (fun h2 => (x_aldn c164_57 rfl (x_ildn c164_58 rfl (x_ci c164_59 (x_iadd c164_60 (x_ildn c164_61 rfl (x_ildn c164_62 rfl (x_ild c164_63 rfl (x_iadd c164_65 (wp_wk (l' := [some (jR 50), some (jI v1), some (jI v2), some (jI v3), some (jI v4)]) ⟨rfl, ⟨rfl, ⟨rfl, ⟨rfl, ⟨rfl, trivial⟩⟩⟩⟩⟩ (x_cv (As := [jI (v1 + 1), jI v2, jI (v3 + v4)]) (st := []) c164_66 cl_50 kl164 rfl (Nat.le_of_ble_eq_true rfl) mx164 (Nat.le_refl _) (H.2.2 h2)))))))))))))
theorem s164_69 {kc : List va_E} {d : Nat} {v1 v2 v3 v4 u0 : Int} {M : fx_M} {Q : Option fx_V → fx_M → Prop} (H : ((fx_in32 u0)) ∧ (u0 = 0 → wp kc (d + 1) 164 34 [some (jR 50), some (jI v1), some (jI v2), some (jI v3), some (jI (v4 + 1))] [] M Q) ∧ (u0 ≠ 0 → Q (some (jI 1)) M)) : wp kc (d + 1) 164 69 [some (jR 50), some (jI v1), some (jI v2), some (jI v3), some (jI v4)] [jI u0] M Q :=
  (x_zeq c164_69 H.1 (fun h1 => (x_inc (l' := [some (jR 50), some (jI v1), some (jI v2), some (jI v3), some (jI (v4 + 1))]) c164_74 rfl rfl (x_goto c164_77 (wp_wk (l' := [some (jR 50), some (jI v1), some (jI v2), some (jI v3), some (jI (v4 + 1))]) ⟨rfl, ⟨rfl, ⟨rfl, ⟨rfl, ⟨rfl, trivial⟩⟩⟩⟩⟩ (H.2.1 h1))))) (fun h2 => (x_ci c164_72 (x_zrt c164_73 r164 (by decide) (H.2.2 h2)))))
theorem s164 {kc : List va_E} {d : Nat} {x1 x2 x3 : Int} {M : fx_M} {Q : Option fx_V → fx_M → Prop} (H : ((fx_in32 x1) ∧ (fx_in32 (M 11 2))) ∧ (M 11 2 ≤ x1 → wc kc d 165 [jI x3, jI x2] M (fun v M1 => wp kc (d + 1) 164 22 [none, none, none, none, none] (v.toList ++ []) M1 Q)) ∧ (x1 < M 11 2 → ((fx_in32 x1)) ∧ (x1 < 9 → wp kc (d + 1) 164 34 [some (jR 50), some (jI x1), some (jI x2), some (jI x3), some (jI 0)] [] M Q) ∧ (9 ≤ x1 → wc kc d 165 [jI x3, jI x2] M (fun v M1 => wp kc (d + 1) 164 22 [none, none, none, none, none] (v.toList ++ []) M1 Q)))) : wc kc (d + 1) 164 [jR 50, jI x1, jI x2, jI x3] M Q :=
  wc_of (wp_wk (l' := [some (jR 50), some (jI x1), some (jI x2), some (jI x3), none]) ⟨rfl, ⟨rfl, ⟨rfl, ⟨rfl, trivial⟩⟩⟩⟩ (s164_0 H))

/- PuzzleHouse$Covers.isMultiple(II)Z -/
theorem c165_0 : fx_op 165 0 = some (.iload_n 0, 1, 0) := by decide +kernel
theorem c165_1 : fx_op 165 1 = some (.iload_n 1, 2, 1) := by decide +kernel
theorem c165_2 : fx_ci 165 2 = some (1, 3) := by decide +kernel
theorem c165_7 : fx_op 165 7 = some (.ifCond .ne 7, 10, 14) := by decide +kernel
theorem c165_14 : fx_ci 165 14 = some (0, 15) := by decide +kernel
theorem c165_10 : fx_ci 165 10 = some (1, 11) := by decide +kernel
theorem c165_11 : fx_op 165 11 = some (.goto 4, 14, 15) := by decide +kernel
theorem c165_3 : fx_nt 165 3 = some (1, 6) := by decide +kernel
theorem c165_6 : fx_op 165 6 = some (.irem, 7, 6) := by decide +kernel
theorem c165_15 : fx_op 165 15 = some (.ireturn, 16, 15) := by decide +kernel
theorem n165_3 : xS 165 ((xI 165 3).getD .nop) = none := by decide +kernel
theorem s165_0 {kc : List va_E} {d : Nat} {x0 x1 : Int} {M : fx_M} {Q : Option fx_V → fx_M → Prop} (H : ((fx_in32 x1)) ∧ (((0 : Int) ≤ x0 ∧ x0 ≤ 2147483647) ∧ ((0 : Int) < (if x1 < 1 then (1 : Int) else x1) ∧ (if x1 < 1 then (1 : Int) else x1) ≤ 2147483647)) ∧ ((fx_in32 (x0 % (if x1 < 1 then (1 : Int) else x1)))) ∧ ((0 : Int) ≤ (if x0 % (if x1 < 1 then (1 : Int) else x1) = 0 then (1 : Int) else 0) ∧ (if x0 % (if x1 < 1 then (1 : Int) else x1) = 0 then (1 : Int) else 0) ≤ 1) ∧ Q (some (jI (if x0 % (if x1 < 1 then (1 : Int) else x1) = 0 then (1 : Int) else 0))) M) : wp kc (d + 1) 165 0 [some (jI x0), some (jI x1)] [] M Q :=
  (x_ildn c165_0 rfl (x_ildn c165_1 rfl (x_ci c165_2 (x_max c165_3 n165_3 H.1 (by decide) (Nat.le_of_ble_eq_true rfl) (x_irem c165_6 H.2.1.1 H.2.1.2 (have K : wp kc (d + 1) 165 15 [none, none] [jI (if x0 % (if x1 < 1 then (1 : Int) else x1) = 0 then (1 : Int) else 0)] M Q := (x_zrt c165_15 r165 H.2.2.2.1 H.2.2.2.2); (x_zne c165_7 H.2.2.1 (fun (h1 : x0 % (if x1 < 1 then (1 : Int) else x1) ≠ 0) => (x_ci c165_14 (wp_wk (l' := [none, none]) trivial (by have K := K; first | (simp only [if_neg h1] at K ⊢; exact K) | (exfalso; omega))))) (fun (h2 : x0 % (if x1 < 1 then (1 : Int) else x1) = 0) => (x_ci c165_10 (x_goto c165_11 (wp_wk (l' := [none, none]) trivial (by have K := K; first | (simp only [if_pos h2] at K ⊢; exact K) | (exfalso; omega)))))))))))))
theorem s165 {kc : List va_E} {d : Nat} {x0 x1 : Int} {M : fx_M} {Q : Option fx_V → fx_M → Prop} (H : ((fx_in32 x1)) ∧ (((0 : Int) ≤ x0 ∧ x0 ≤ 2147483647) ∧ ((0 : Int) < (if x1 < 1 then (1 : Int) else x1) ∧ (if x1 < 1 then (1 : Int) else x1) ≤ 2147483647)) ∧ ((fx_in32 (x0 % (if x1 < 1 then (1 : Int) else x1)))) ∧ ((0 : Int) ≤ (if x0 % (if x1 < 1 then (1 : Int) else x1) = 0 then (1 : Int) else 0) ∧ (if x0 % (if x1 < 1 then (1 : Int) else x1) = 0 then (1 : Int) else 0) ≤ 1) ∧ Q (some (jI (if x0 % (if x1 < 1 then (1 : Int) else x1) = 0 then (1 : Int) else 0))) M) : wc kc (d + 1) 165 [jI x0, jI x1] M Q :=
  wc_of (wp_wk (l' := [some (jI x0), some (jI x1)]) ⟨rfl, ⟨rfl, trivial⟩⟩ (s165_0 H))

/- PuzzleHouse$Covers.addUp(II)Z -/
theorem c166_0 : fx_ci 166 0 = some (0, 1) := by decide +kernel
theorem c166_1 : fx_op 166 1 = some (.istore_n 3, 2, 1) := by decide +kernel
theorem c166_2 : fx_op 166 2 = some (.iload_n 3, 3, 2) := by decide +kernel
theorem c166_3 : fx_op 166 3 = some (.aload_n 0, 4, 3) := by decide +kernel
theorem c166_4 : fx_gf 166 4 = some (8, 0, 7) := by decide +kernel
theorem c166_7 : fx_gf 166 7 = some (3, 4, 10) := by decide +kernel
theorem c166_10 : fx_op 166 10 = some (.if_icmp .ge 85, 13, 95) := by decide +kernel
theorem c166_95 : fx_ci 166 95 = some (1, 96) := by decide +kernel
theorem c166_13 : fx_op 166 13 = some (.aload_n 0, 14, 13) := by decide +kernel
theorem c166_14 : fx_gf 166 14 = some (8, 0, 17) := by decide +kernel
theorem c166_17 : fx_gf 166 17 = some (3, 9, 20) := by decide +kernel
theorem c166_20 : fx_op 166 20 = some (.iload_n 3, 21, 20) := by decide +kernel
theorem c166_22 : fx_op 166 22 = some (.iload_n 1, 23, 22) := by decide +kernel
theorem c166_23 : fx_op 166 23 = some (.ishr, 24, 23) := by decide +kernel
theorem c166_24 : fx_ci 166 24 = some (1, 25) := by decide +kernel
theorem c166_25 : fx_op 166 25 = some (.if_icmp .ne 64, 28, 89) := by decide +kernel
theorem c166_89 : fx_op 166 89 = some (.iinc 3 1, 92, 89) := by decide +kernel
theorem c166_28 : fx_ci 166 28 = some (0, 29) := by decide +kernel
theorem c166_29 : fx_op 166 29 = some (.istore 4, 31, 29) := by decide +kernel
theorem c166_31 : fx_ci 166 31 = some (0, 32) := by decide +kernel
theorem c166_32 : fx_op 166 32 = some (.istore 5, 34, 32) := by decide +kernel
theorem c166_96 : fx_op 166 96 = some (.ireturn, 97, 96) := by decide +kernel
theorem c166_21 : fx_op 166 21 = some (.iaload, 22, 21) := by decide +kernel
theorem c166_92 : fx_op 166 92 = some (.goto (-90), 95, 2) := by decide +kernel
theorem c166_34 : fx_op 166 34 = some (.iload 5, 36, 34) := by decide +kernel
theorem c166_36 : fx_op 166 36 = some (.aload_n 0, 37, 36) := by decide +kernel
theorem c166_37 : fx_gf 166 37 = some (8, 0, 40) := by decide +kernel
theorem c166_40 : fx_gf 166 40 = some (3, 7, 43) := by decide +kernel
theorem c166_43 : fx_op 166 43 = some (.iload_n 3, 44, 43) := by decide +kernel
theorem c166_45 : fx_op 166 45 = some (.if_icmp .ge 33, 48, 78) := by decide +kernel
theorem c166_48 : fx_op 166 48 = some (.iload 4, 50, 48) := by decide +kernel
theorem c166_50 : fx_op 166 50 = some (.aload_n 0, 51, 50) := by decide +kernel
theorem c166_51 : fx_gf 166 51 = some (8, 5, 54) := by decide +kernel
theorem c166_54 : fx_op 166 54 = some (.aload_n 0, 55, 54) := by decide +kernel
theorem c166_55 : fx_gf 166 55 = some (8, 0, 58) := by decide +kernel
theorem c166_58 : fx_gf 166 58 = some (3, 8, 61) := by decide +kernel
theorem c166_61 : fx_ci 166 61 = some (4, 62) := by decide +kernel
theorem c166_62 : fx_op 166 62 = some (.iload_n 3, 63, 62) := by decide +kernel
theorem c166_63 : fx_op 166 63 = some (.imul, 64, 63) := by decide +kernel
theorem c166_64 : fx_op 166 64 = some (.iload 5, 66, 64) := by decide +kernel
theorem c166_66 : fx_op 166 66 = some (.iadd, 67, 66) := by decide +kernel
theorem c166_67 : fx_op 166 67 = some (.iaload, 68, 67) := by decide +kernel
theorem c166_68 : fx_op 166 68 = some (.iaload, 69, 68) := by decide +kernel
theorem c166_69 : fx_op 166 69 = some (.iadd, 70, 69) := by decide +kernel
theorem c166_70 : fx_op 166 70 = some (.istore 4, 72, 70) := by decide +kernel
theorem c166_72 : fx_op 166 72 = some (.iinc 5 1, 75, 72) := by decide +kernel
theorem c166_78 : fx_op 166 78 = some (.iload 4, 80, 78) := by decide +kernel
theorem c166_80 : fx_op 166 80 = some (.iload_n 2, 81, 80) := by decide +kernel
theorem c166_44 : fx_op 166 44 = some (.iaload, 45, 44) := by decide +kernel
theorem c166_81 : fx_ca 166 81 = some (165, 2, 0, 84) := by decide +kernel
theorem c166_75 : fx_op 166 75 = some (.goto (-41), 78, 34) := by decide +kernel
theorem c166_84 : fx_op 166 84 = some (.ifCond .ne 5, 87, 89) := by decide +kernel
theorem c166_87 : fx_ci 166 87 = some (0, 88) := by decide +kernel
theorem c166_88 : fx_op 166 88 = some (.ireturn, 89, 88) := by decide +kernel
theorem s166_0 {kc : List va_E} {d : Nat} {x1 x2 : Int} {M : fx_M} {Q : Option fx_V → fx_M → Prop} (H : wp kc (d + 1) 166 2 [some (jR 50), some (jI x1), some (jI x2), some (jI 0), none, none] [] M Q) : wp kc (d + 1) 166 0 [some (jR 50), some (jI x1), some (jI x2), none, none, none] [] M Q :=
  (x_ci c166_0 (x_istn (l' := [some (jR 50), some (jI x1), some (jI x2), some (jI 0), none, none]) c166_1 rfl (wp_wk (l' := [some (jR 50), some (jI x1), some (jI x2), some (jI 0), none, none]) ⟨rfl, ⟨rfl, ⟨rfl, ⟨rfl, trivial⟩⟩⟩⟩ H)))
theorem s166_2 {kc : List va_E} {d : Nat} {v1 v2 v3 : Int} {M : fx_M} {Q : Option fx_V → fx_M → Prop} (H : ((fx_in32 v3) ∧ (fx_in32 (M 11 4))) ∧ (M 11 4 ≤ v3 → Q (some (jI 1)) M) ∧ (v3 < M 11 4 → (((0 : Int) ≤ v3 ∧ v3 < 12)) ∧ ((fx_in32 (fx_shr (M 16 v3) v1))) ∧ (fx_shr (M 16 v3) v1 ≠ 1 → wp kc (d + 1) 166 2 [some (jR 50), some (jI v1), some (jI v2), some (jI (v3 + 1)), none, none] [] M Q) ∧ (fx_shr (M 16 v3) v1 = 1 → wp kc (d + 1) 166 34 [some (jR 50), some (jI v1), some (jI v2), some (jI v3), some (jI 0), some (jI 0)] [] M Q))) : wp kc (d + 1) 166 2 [some (jR 50), some (jI v1), some (jI v2), some (jI v3), none, none] [] M Q :=
  (x_ildn c166_2 rfl (x_aldn c166_3 rfl (x_gfr c166_4 k_50_0 (x_gfi c166_7 k_11_4 (x_cge c166_10 H.1.1 H.1.2 (fun h3 => (x_ci c166_95 (x_zrt c166_96 r166 (by decide) (H.2.1 h3)))) (fun h4 => (x_aldn c166_13 rfl (x_gfr c166_14 k_50_0 (x_gfr c166_17 k_11_9 (x_ildn c166_20 rfl (x_iald c166_21 a_16 (H.2.2 h4).1 (by decide) (x_ildn c166_22 rfl (x_ishr c166_23 (x_ci c166_24 (x_cne c166_25 (H.2.2 h4).2.1 (by decide) (fun h1 => (x_inc (l' := [some (jR 50), some (jI v1), some (jI v2), some (jI (v3 + 1)), none, none]) c166_89 rfl rfl (x_goto c166_92 (wp_wk (l' := [some (jR 50), some (jI v1), some (jI v2), some (jI (v3 + 1)), none, none]) ⟨rfl, ⟨rfl, ⟨rfl, ⟨rfl, trivial⟩⟩⟩⟩ ((H.2.2 h4).2.2.1 h1))))) (fun h2 => (x_ci c166_28 (x_ist (l' := [some (jR 50), some (jI v1), some (jI v2), some (jI v3), some (jI 0), none]) c166_29 rfl (x_ci c166_31 (x_ist (l' := [some (jR 50), some (jI v1), some (jI v2), some (jI v3), some (jI 0), some (jI 0)]) c166_32 rfl (wp_wk (l' := [some (jR 50), some (jI v1), some (jI v2), some (jI v3), some (jI 0), some (jI 0)]) ⟨rfl, ⟨rfl, ⟨rfl, ⟨rfl, ⟨rfl, ⟨rfl, trivial⟩⟩⟩⟩⟩⟩ ((H.2.2 h4).2.2.2 h2))))))))))))))))))))))
theorem s166_34 {kc : List va_E} {d : Nat} {v1 v2 v3 v4 v5 : Int} {M : fx_M} {Q : Option fx_V → fx_M → Prop} (H : (((0 : Int) ≤ v3 ∧ v3 < 12)) ∧ ((fx_in32 v5) ∧ (fx_in32 (M 14 v3))) ∧ (M 14 v3 ≤ v5 → wc kc d 165 [jI v4, jI v2] M (fun v M1 => wp kc (d + 1) 166 84 [some (jR 50), some (jI v1), some (jI v2), some (jI v3), none, none] (v.toList ++ []) M1 Q)) ∧ (v5 < M 14 v3 → (((0 : Int) ≤ (4 * v3) + v5 ∧ (4 * v3) + v5 < 48)) ∧ (((0 : Int) ≤ M 15 ((4 * v3) + v5) ∧ M 15 ((4 * v3) + v5) < 9)) ∧ wp kc (d + 1) 166 34 [some (jR 50), some (jI v1), some (jI v2), some (jI v3), some (jI (v4 + (M 52 (M 15 ((4 * v3) + v5))))), some (jI (v5 + 1))] [] M Q)) : wp kc (d + 1) 166 34 [some (jR 50), some (jI v1), some (jI v2), some (jI v3), some (jI v4), some (jI v5)] [] M Q :=
  (x_ild c166_34 rfl (x_aldn c166_36 rfl (x_gfr c166_37 k_50_0 (x_gfr c166_40 k_11_7 (x_ildn c166_43 rfl (x_iald c166_44 a_14 H.1 (by decide) (x_cge c166_45 H.2.1.1 H.2.1.2 (fun h1 => (x_ild c166_78 rfl (x_ildn c166_80 rfl (wp_wk (l' := [some (jR 50), some (jI v1), some (jI v2), some (jI v3), none, none]) ⟨rfl, ⟨rfl, ⟨rfl, ⟨rfl, trivial⟩⟩⟩⟩ (x_cs (As := [jI v4, jI v2]) (st := []) c166_81 (by decide) rfl (Nat.le_of_ble_eq_true rfl) mx165 (Nat.le_refl _) (H.2.2.1 h1)))))) (fun h2 => (x_ild c166_48 rfl (x_aldn c166_50 rfl (x_gfr c166_51 k_50_5 (x_aldn c166_54 rfl (x_gfr c166_55 k_50_0 (x_gfr c166_58 k_11_8 (x_ci c166_61 (x_ildn c166_62 rfl (x_imul c166_63 (x_ild c166_64 rfl (x_iadd c166_66 (x_iald c166_67 a_15 (H.2.2.2 h2).1 (by decide) (x_iald c166_68 a_52 (H.2.2.2 h2).2.1 (by decide) (x_iadd c166_69 (x_ist (l' := [some (jR 50), some (jI v1), some (jI v2), some (jI v3), some (jI (v4 + (M 52 (M 15 ((4 * v3) + v5))))), some (jI v5)]) c166_70 rfl (x_inc (l' := [some (jR 50), some (jI v1), some (jI v2), some (jI v3), some (jI (v4 + (M 52 (M 15 ((4 * v3) + v5))))), some (jI (v5 + 1))]) c166_72 rfl rfl (x_goto c166_75 (wp_wk (l' := [some (jR 50), some (jI v1), some (jI v2), some (jI v3), some (jI (v4 + (M 52 (M 15 ((4 * v3) + v5))))), some (jI (v5 + 1))]) ⟨rfl, ⟨rfl, ⟨rfl, ⟨rfl, ⟨rfl, ⟨rfl, trivial⟩⟩⟩⟩⟩⟩ (H.2.2.2 h2).2.2))))))))))))))))))))))))))
theorem s166_84 {kc : List va_E} {d : Nat} {v1 v2 v3 u0 : Int} {M : fx_M} {Q : Option fx_V → fx_M → Prop} (H : ((fx_in32 u0)) ∧ (u0 ≠ 0 → wp kc (d + 1) 166 2 [some (jR 50), some (jI v1), some (jI v2), some (jI (v3 + 1)), none, none] [] M Q) ∧ (u0 = 0 → Q (some (jI 0)) M)) : wp kc (d + 1) 166 84 [some (jR 50), some (jI v1), some (jI v2), some (jI v3), none, none] [jI u0] M Q :=
  (x_zne c166_84 H.1 (fun h1 => (x_inc (l' := [some (jR 50), some (jI v1), some (jI v2), some (jI (v3 + 1)), none, none]) c166_89 rfl rfl (x_goto c166_92 (wp_wk (l' := [some (jR 50), some (jI v1), some (jI v2), some (jI (v3 + 1)), none, none]) ⟨rfl, ⟨rfl, ⟨rfl, ⟨rfl, trivial⟩⟩⟩⟩ (H.2.1 h1))))) (fun h2 => (x_ci c166_87 (x_zrt c166_88 r166 (by decide) (H.2.2 h2)))))
theorem s166 {kc : List va_E} {d : Nat} {x1 x2 : Int} {M : fx_M} {Q : Option fx_V → fx_M → Prop} (H : wp kc (d + 1) 166 2 [some (jR 50), some (jI x1), some (jI x2), some (jI 0), none, none] [] M Q) : wc kc (d + 1) 166 [jR 50, jI x1, jI x2] M Q :=
  wc_of (wp_wk (l' := [some (jR 50), some (jI x1), some (jI x2), none, none, none]) ⟨rfl, ⟨rfl, ⟨rfl, trivial⟩⟩⟩ (s166_0 H))
