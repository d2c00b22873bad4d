/-! SEGMENTS of Search (by gen/emit_segs.py) -/
/- PuzzleHouse$Search.list(I)V -/
theorem c80_0 : fx_op 80 0 = some (.iload_n 1, 1, 0) := by decide +kernel
theorem c80_1 : fx_ci 80 1 = some (100, 3) := by decide +kernel
theorem c80_3 : fx_op 80 3 = some (.if_icmp .le 13, 6, 16) := by decide +kernel
theorem c80_16 : fx_op 80 16 = some (.aload_n 0, 17, 16) := by decide +kernel
theorem c80_17 : fx_op 80 17 = some (.iload_n 1, 18, 17) := by decide +kernel
theorem c80_18 : fx_pf 80 18 = some (4, 2, 0, 21) := by decide +kernel
theorem c80_21 : fx_op 80 21 = some (.aload_n 0, 22, 21) := by decide +kernel
theorem c80_22 : fx_ci 80 22 = some (0, 23) := by decide +kernel
theorem c80_23 : fx_pf 80 23 = some (4, 3, 0, 26) := by decide +kernel
theorem c80_26 : fx_op 80 26 = some (.aload_n 0, 27, 26) := by decide +kernel
theorem c80_27 : fx_op 80 27 = some (.aload_n 0, 28, 27) := by decide +kernel
theorem c80_28 : fx_gf 80 28 = some (4, 0, 31) := by decide +kernel
theorem c80_6 : fx_op 80 6 = some (.aload_n 0, 7, 6) := by decide +kernel
theorem c80_7 : fx_gf 80 7 = some (4, 1, 10) := by decide +kernel
theorem c80_10 : fx_cr 80 10 = some (1000065, 12) := by decide +kernel
theorem c80_31 : fx_ca 80 31 = some (81, 1, 2, 34) := by decide +kernel
theorem c80_12 : fx_ca 80 12 = some (64, 2, 2, 15) := by decide +kernel
theorem c80_34 : fx_ci 80 34 = some (0, 35) := by decide +kernel
theorem c80_35 : fx_ca 80 35 = some (84, 3, 2, 38) := by decide +kernel
theorem c80_15 : fx_op 80 15 = some (.return_, 16, 15) := by decide +kernel
theorem c80_38 : fx_op 80 38 = some (.aload_n 0, 39, 38) := by decide +kernel
theorem c80_39 : fx_gf 80 39 = some (4, 1, 42) := by decide +kernel
theorem c80_42 : fx_op 80 42 = some (.aload_n 0, 43, 42) := by decide +kernel
theorem c80_43 : fx_gf 80 43 = some (4, 3, 46) := by decide +kernel
theorem c80_46 : fx_op 80 46 = some (.aload_n 0, 47, 46) := by decide +kernel
theorem c80_47 : fx_gf 80 47 = some (4, 2, 50) := by decide +kernel
theorem c80_50 : fx_op 80 50 = some (.if_icmp .le 8, 53, 58) := by decide +kernel
theorem c80_58 : fx_cr 80 58 = some (1000069, 60) := by decide +kernel
theorem c80_53 : fx_cr 80 53 = some (1000067, 55) := by decide +kernel
theorem c80_55 : fx_op 80 55 = some (.goto 5, 58, 60) := by decide +kernel
theorem c80_60 : fx_ca 80 60 = some (64, 2, 2, 63) := by decide +kernel
theorem c80_63 : fx_op 80 63 = some (.return_, 64, 63) := by decide +kernel
theorem s80_0 {kc : List va_E} {d : Nat} {x1 : Int} {M : fx_M} {Q : Option fx_V → fx_M → Prop} (H : ((fx_in32 x1)) ∧ (x1 ≤ 100 → wc kc d 81 [jR 11] (fx_up (fx_up M 29 2 x1) 29 3 0) (fun v M1 => wp kc (d + 1) 80 34 [some (jR 29), none] (v.toList ++ [jR 29]) M1 Q)) ∧ (100 < x1 → wc kc d 64 [jR 3, jR 1000065] M (fun v M1 => wp kc (d + 1) 80 15 [none, none] (v.toList ++ []) M1 Q))) : wp kc (d + 1) 80 0 [some (jR 29), some (jI x1)] [] M Q :=
  (x_ildn c80_0 rfl (x_ci c80_1 (x_cle c80_3 H.1 (by decide) (fun h1 => (x_aldn c80_16 rfl (x_ildn c80_17 rfl (x_pfi c80_18 k_29_2 (x_aldn c80_21 rfl (x_ci c80_22 (x_pfi c80_23 k_29_3 (x_aldn c80_26 rfl (x_aldn c80_27 rfl (x_gfr c80_28 k_29_0 (wp_wk (l' := [some (jR 29), none]) ⟨rfl, trivial⟩ (x_cv (As := []) (st := [jR 29]) c80_31 cl_11 kl81 rfl (Nat.le_of_ble_eq_true rfl) mx81 (Nat.le_refl _) (H.2.1 h1))))))))))))) (fun h2 => (x_aldn c80_6 rfl (x_gfr c80_7 k_29_1 (x_cr c80_10 (wp_wk (l' := [none, none]) trivial (x_cv (As := [jR 1000065]) (st := []) c80_12 cl_3 kl64 rfl (Nat.le_of_ble_eq_true rfl) mx64 (Nat.le_refl _) (H.2.2 h2))))))))))
theorem s80_15 {kc : List va_E} {d : Nat} {M : fx_M} {Q : Option fx_V → fx_M → Prop} (H : Q none M) : wp kc (d + 1) 80 15 [none, none] [] M Q :=
  (x_vr c80_15 r80 H)
theorem s80_34 {kc : List va_E} {d : Nat} {u0 : Int} {M : fx_M} {Q : Option fx_V → fx_M → Prop} (H : wc kc d 84 [jR 29, jL u0, jI 0] M (fun v M1 => wp kc (d + 1) 80 38 [some (jR 29), none] (v.toList ++ []) M1 Q)) : wp kc (d + 1) 80 34 [some (jR 29), none] [jL u0, jR 29] M Q :=
  (x_ci c80_34 (wp_wk (l' := [some (jR 29), none]) ⟨rfl, trivial⟩ (x_cv (As := [jL u0, jI 0]) (st := []) c80_35 cl_29 kl84 rfl (Nat.le_of_ble_eq_true rfl) mx84 (Nat.le_refl _) H)))
theorem s80_38 {kc : List va_E} {d : Nat} {M : fx_M} {Q : Option fx_V → fx_M → Prop} (H : ((fx_in32 (M 29 3)) ∧ (fx_in32 (M 29 2))) ∧ (M 29 3 ≤ M 29 2 → wc kc d 64 [jR 3, jR 1000069] M (fun v M1 => wp kc (d + 1) 80 63 [none, none] (v.toList ++ []) M1 Q)) ∧ (M 29 2 < M 29 3 → wc kc d 64 [jR 3, jR 1000067] M (fun v M1 => wp kc (d + 1) 80 63 [none, none] (v.toList ++ []) M1 Q))) : wp kc (d + 1) 80 38 [some (jR 29), none] [] M Q :=
  (x_aldn c80_38 rfl (x_gfr c80_39 k_29_1 (x_aldn c80_42 rfl (x_gfi c80_43 k_29_3 (x_aldn c80_46 rfl (x_gfi c80_47 k_29_2 (x_cle c80_50 H.1.1 H.1.2 (fun h1 => (x_cr c80_58 (wp_wk (l' := [none, none]) trivial (x_cv (As := [jR 1000069]) (st := []) c80_60 cl_3 kl64 rfl (Nat.le_of_ble_eq_true rfl) mx64 (Nat.le_refl _) (H.2.1 h1))))) (fun h2 => (x_cr c80_53 (x_goto c80_55 (wp_wk (l' := [none, none]) trivial (x_cv (As := [jR 1000067]) (st := []) c80_60 cl_3 kl64 rfl (Nat.le_of_ble_eq_true rfl) mx64 (Nat.le_refl _) (H.2.2 h2)))))))))))))
theorem s80_63 {kc : List va_E} {d : Nat} {M : fx_M} {Q : Option fx_V → fx_M → Prop} (H : Q none M) : wp kc (d + 1) 80 63 [none, none] [] M Q :=
  (x_vr c80_63 r80 H)
theorem s80 {kc : List va_E} {d : Nat} {x1 : Int} {M : fx_M} {Q : Option fx_V → fx_M → Prop} (H : ((fx_in32 x1)) ∧ (x1 ≤ 100 → wc kc d 81 [jR 11] (fx_up (fx_up M 29 2 x1) 29 3 0) (fun v M1 => wp kc (d + 1) 80 34 [some (jR 29), none] (v.toList ++ [jR 29]) M1 Q)) ∧ (100 < x1 → wc kc d 64 [jR 3, jR 1000065] M (fun v M1 => wp kc (d + 1) 80 15 [none, none] (v.toList ++ []) M1 Q))) : wc kc (d + 1) 80 [jR 29, jI x1] M Q :=
  wc_of (wp_wk (l' := [some (jR 29), some (jI x1)]) ⟨rfl, ⟨rfl, trivial⟩⟩ (s80_0 H))

/- PuzzleHouse$Search.listFrom(JI)V -/
theorem c84_0 : fx_op 84 0 = some (.iload_n 3, 1, 0) := by decide +kernel
theorem c84_1 : fx_op 84 1 = some (.aload_n 0, 2, 1) := by decide +kernel
theorem c84_2 : fx_gf 84 2 = some (4, 0, 5) := by decide +kernel
theorem c84_5 : fx_gf 84 5 = some (3, 2, 8) := by decide +kernel
theorem c84_8 : fx_op 84 8 = some (.if_icmp .lt 39, 11, 47) := by decide +kernel
theorem c84_47 : fx_ci 84 47 = some (0, 48) := by decide +kernel
theorem c84_48 : fx_op 84 48 = some (.istore 4, 50, 48) := by decide +kernel
theorem c84_11 : fx_op 84 11 = some (.aload_n 0, 12, 11) := by decide +kernel
theorem c84_12 : fx_op 84 12 = some (.dup, 13, 12) := by decide +kernel
theorem c84_13 : fx_gf 84 13 = some (4, 3, 16) := by decide +kernel
theorem c84_16 : fx_ci 84 16 = some (1, 17) := by decide +kernel
theorem c84_17 : fx_op 84 17 = some (.iadd, 18, 17) := by decide +kernel
theorem c84_18 : fx_pf 84 18 = some (4, 3, 0, 21) := by decide +kernel
theorem c84_21 : fx_op 84 21 = some (.aload_n 0, 22, 21) := by decide +kernel
theorem c84_22 : fx_gf 84 22 = some (4, 3, 25) := by decide +kernel
theorem c84_25 : fx_op 84 25 = some (.aload_n 0, 26, 25) := by decide +kernel
theorem c84_26 : fx_gf 84 26 = some (4, 2, 29) := by decide +kernel
theorem c84_29 : fx_op 84 29 = some (.if_icmp .gt 17, 32, 46) := by decide +kernel
theorem c84_32 : fx_op 84 32 = some (.aload_n 0, 33, 32) := by decide +kernel
theorem c84_33 : fx_op 84 33 = some (.lload_n 1, 34, 33) := by decide +kernel
theorem c84_46 : fx_op 84 46 = some (.return_, 47, 46) := by decide +kernel
theorem c84_34 : fx_ca 84 34 = some (85, 2, 2, 37) := by decide +kernel
theorem c84_50 : fx_op 84 50 = some (.iload 4, 52, 50) := by decide +kernel
theorem c84_52 : fx_ci 84 52 = some (4, 53) := by decide +kernel
theorem c84_53 : fx_op 84 53 = some (.if_icmp .ge 66, 56, 119) := by decide +kernel
theorem c84_56 : fx_op 84 56 = some (.aload_n 0, 57, 56) := by decide +kernel
theorem c84_57 : fx_gf 84 57 = some (4, 3, 60) := by decide +kernel
theorem c84_60 : fx_op 84 60 = some (.aload_n 0, 61, 60) := by decide +kernel
theorem c84_61 : fx_gf 84 61 = some (4, 2, 64) := by decide +kernel
theorem c84_64 : fx_op 84 64 = some (.if_icmp .gt 55, 67, 119) := by decide +kernel
theorem c84_67 : fx_op 84 67 = some (.lload_n 1, 68, 67) := by decide +kernel
theorem c84_68 : fx_op 84 68 = some (.iload_n 3, 69, 68) := by decide +kernel
theorem c84_119 : fx_op 84 119 = some (.return_, 120, 119) := by decide +kernel
theorem c84_69 : fx_ca 84 69 = some (86, 2, 1, 72) := by decide +kernel
theorem c84_37 : fx_op 84 37 = some (.aload_n 0, 38, 37) := by decide +kernel
theorem c84_38 : fx_gf 84 38 = some (4, 1, 41) := by decide +kernel
theorem c84_41 : fx_ci 84 41 = some (32, 43) := by decide +kernel
theorem c84_43 : fx_ca 84 43 = some (69, 2, 2, 46) := by decide +kernel
theorem c84_72 : fx_op 84 72 = some (.iload 4, 74, 72) := by decide +kernel
theorem c84_74 : fx_op 84 74 = some (.ishr, 75, 74) := by decide +kernel
theorem c84_75 : fx_ci 84 75 = some (1, 76) := by decide +kernel
theorem c84_76 : fx_op 84 76 = some (.iand, 77, 76) := by decide +kernel
theorem c84_77 : fx_op 84 77 = some (.ifCond .eq 36, 80, 113) := by decide +kernel
theorem c84_80 : fx_op 84 80 = some (.lload_n 1, 81, 80) := by decide +kernel
theorem c84_81 : fx_op 84 81 = some (.iload_n 3, 82, 81) := by decide +kernel
theorem c84_82 : fx_op 84 82 = some (.iload 4, 84, 82) := by decide +kernel
theorem c84_113 : fx_op 84 113 = some (.iinc 4 1, 116, 113) := by decide +kernel
theorem c84_116 : fx_op 84 116 = some (.goto (-66), 119, 50) := by decide +kernel
theorem c84_84 : fx_ca 84 84 = some (83, 3, 1, 87) := by decide +kernel
theorem c84_87 : fx_op 84 87 = some (.lstore 5, 89, 87) := by decide +kernel
theorem c84_89 : fx_op 84 89 = some (.aload_n 0, 90, 89) := by decide +kernel
theorem c84_90 : fx_gf 84 90 = some (4, 0, 93) := by decide +kernel
theorem c84_93 : fx_op 84 93 = some (.lload 5, 95, 93) := by decide +kernel
theorem c84_95 : fx_ci 84 95 = some (1, 96) := by decide +kernel
theorem c84_96 : fx_op 84 96 = some (.iload_n 3, 97, 96) := by decide +kernel
theorem c84_97 : fx_op 84 97 = some (.ishl, 98, 97) := by decide +kernel
theorem c84_98 : fx_ca 84 98 = some (88, 3, 2, 101) := by decide +kernel
theorem c84_101 : fx_op 84 101 = some (.ifCond .eq 12, 104, 113) := by decide +kernel
theorem c84_104 : fx_op 84 104 = some (.aload_n 0, 105, 104) := by decide +kernel
theorem c84_105 : fx_op 84 105 = some (.lload 5, 107, 105) := by decide +kernel
theorem c84_107 : fx_op 84 107 = some (.iload_n 3, 108, 107) := by decide +kernel
theorem c84_108 : fx_ci 84 108 = some (1, 109) := by decide +kernel
theorem c84_109 : fx_op 84 109 = some (.iadd, 110, 109) := by decide +kernel
theorem c84_110 : fx_ca 84 110 = some (84, 3, 2, 113) := by decide +kernel
theorem s84_0 {kc : List va_E} {d : Nat} {x1 x3 : Int} {M : fx_M} {Q : Option fx_V → fx_M → Prop} (H : ((fx_in32 x3) ∧ (fx_in32 (M 11 2))) ∧ (x3 < M 11 2 → wp kc (d + 1) 84 50 [some (jR 29), some (jL x1), none, some (jI x3), some (jI 0), none, none] [] M Q) ∧ (M 11 2 ≤ x3 → ((fx_in32 ((M 29 3) + 1)) ∧ (fx_in32 (M 29 2))) ∧ (M 29 2 < (M 29 3) + 1 → Q none (fx_up M 29 3 ((M 29 3) + 1))) ∧ ((M 29 3) + 1 ≤ M 29 2 → wc kc d 85 [jR 29, jL x1] (fx_up M 29 3 ((M 29 3) + 1)) (fun v M1 => wp kc (d + 1) 84 37 [some (jR 29), none, none, none, none, none, none] (v.toList ++ []) M1 Q)))) : wp kc (d + 1) 84 0 [some (jR 29), some (jL x1), none, some (jI x3), none, none, none] [] M Q :=
  (x_ildn c84_0 rfl (x_aldn c84_1 rfl (x_gfr c84_2 k_29_0 (x_gfi c84_5 k_11_2 (x_clt c84_8 H.1.1 H.1.2 (fun h3 => (x_ci c84_47 (x_ist (l' := [some (jR 29), some (jL x1), none, some (jI x3), some (jI 0), none, none]) c84_48 rfl (wp_wk (l' := [some (jR 29), some (jL x1), none, some (jI x3), some (jI 0), none, none]) ⟨rfl, ⟨rfl, ⟨rfl, ⟨rfl, trivial⟩⟩⟩⟩ (H.2.1 h3))))) (fun h4 => (x_aldn c84_11 rfl (x_dupr c84_12 (x_gfi c84_13 k_29_3 (x_ci c84_16 (x_iadd c84_17 (x_pfi c84_18 k_29_3 (x_aldn c84_21 rfl (x_gfi c84_22 k_29_3 (wp_vI (fx_upS) (x_aldn c84_25 rfl (x_gfi c84_26 k_29_2 (wp_vI (fx_upK (by decide)) (x_cgt c84_29 (H.2.2 h4).1.1 (H.2.2 h4).1.2 (fun h1 => (x_vr c84_46 r84 ((H.2.2 h4).2.1 h1))) (fun h2 => (x_aldn c84_32 rfl (x_lldn c84_33 rfl (wp_wk (l' := [some (jR 29), none, none, none, none, none, none]) ⟨rfl, trivial⟩ (x_cv (As := [jL x1]) (st := []) c84_34 cl_29 kl85 rfl (Nat.le_of_ble_eq_true rfl) mx85 (Nat.le_refl _) ((H.2.2 h4).2.2 h2)))))))))))))))))))))))))
theorem s84_37 {kc : List va_E} {d : Nat} {M : fx_M} {Q : Option fx_V → fx_M → Prop} (H : wc kc d 69 [jR 3, jI 32] M (fun v M1 => wp kc (d + 1) 84 46 [none, none, none, none, none, none, none] (v.toList ++ []) M1 Q)) : wp kc (d + 1) 84 37 [some (jR 29), none, none, none, none, none, none] [] M Q :=
  (x_aldn c84_37 rfl (x_gfr c84_38 k_29_1 (x_ci c84_41 (wp_wk (l' := [none, none, none, none, none, none, none]) trivial (x_cv (As := [jI 32]) (st := []) c84_43 cl_3 kl69 rfl (Nat.le_of_ble_eq_true rfl) mx69 (Nat.le_refl _) H)))))
theorem s84_46 {kc : List va_E} {d : Nat} {M : fx_M} {Q : Option fx_V → fx_M → Prop} (H : Q none M) : wp kc (d + 1) 84 46 [none, none, none, none, none, none, none] [] M Q :=
  (x_vr c84_46 r84 H)
theorem s84_50 {kc : List va_E} {d : Nat} {v1 v3 v4 : Int} {M : fx_M} {Q : Option fx_V → fx_M → Prop} (H : ((fx_in32 v4)) ∧ (4 ≤ v4 → Q none M) ∧ (v4 < 4 → ((fx_in32 (M 29 3)) ∧ (fx_in32 (M 29 2))) ∧ (M 29 2 < M 29 3 → Q none M) ∧ (M 29 3 ≤ M 29 2 → wc kc d 86 [jL v1, jI v3] M (fun v M1 => wp kc (d + 1) 84 72 [some (jR 29), some (jL v1), none, some (jI v3), some (jI v4), none, none] (v.toList ++ []) M1 Q)))) : wp kc (d + 1) 84 50 [some (jR 29), some (jL v1), none, some (jI v3), some (jI v4), none, none] [] M Q :=
  (x_ild c84_50 rfl (x_ci c84_52 (x_cge c84_53 H.1 (by decide) (fun h3 => (x_vr c84_119 r84 (H.2.1 h3))) (fun h4 => (x_aldn c84_56 rfl (x_gfi c84_57 k_29_3 (x_aldn c84_60 rfl (x_gfi c84_61 k_29_2 (x_cgt c84_64 (H.2.2 h4).1.1 (H.2.2 h4).1.2 (fun h1 => (x_vr c84_119 r84 ((H.2.2 h4).2.1 h1))) (fun h2 => (x_lldn c84_67 rfl (x_ildn c84_68 rfl (wp_wk (l' := [some (jR 29), some (jL v1), none, some (jI v3), some (jI v4), none, none]) ⟨rfl, ⟨rfl, ⟨rfl, ⟨rfl, trivial⟩⟩⟩⟩ (x_cs (As := [jL v1, jI v3]) (st := []) c84_69 (by decide) rfl (Nat.le_of_ble_eq_true rfl) mx86 (Nat.le_refl _) ((H.2.2 h4).2.2 h2)))))))))))))))
theorem s84_72 {kc : List va_E} {d : Nat} {v1 v3 v4 u0 : Int} {M : fx_M} {Q : Option fx_V → fx_M → Prop} (H : ((fx_in32 (fx_and (fx_shr u0 v4) 1))) ∧ (fx_and (fx_shr u0 v4) 1 = 0 → wp kc (d + 1) 84 50 [some (jR 29), some (jL v1), none, some (jI v3), some (jI (v4 + 1)), none, none] [] M Q) ∧ (fx_and (fx_shr u0 v4) 1 ≠ 0 → wc kc d 83 [jL v1, jI v3, jI v4] M (fun v M1 => wp kc (d + 1) 84 87 [some (jR 29), some (jL v1), none, some (jI v3), some (jI v4), none, none] (v.toList ++ []) M1 Q))) : wp kc (d + 1) 84 72 [some (jR 29), some (jL v1), none, some (jI v3), some (jI v4), none, none] [jI u0] M Q :=
  (x_ild c84_72 rfl (x_ishr c84_74 (x_ci c84_75 (x_iand c84_76 (x_zeq c84_77 H.1 (fun h1 => (x_inc (l' := [some (jR 29), some (jL v1), none, some (jI v3), some (jI (v4 + 1)), none, none]) c84_113 rfl rfl (x_goto c84_116 (wp_wk (l' := [some (jR 29), some (jL v1), none, some (jI v3), some (jI (v4 + 1)), none, none]) ⟨rfl, ⟨rfl, ⟨rfl, ⟨rfl, trivial⟩⟩⟩⟩ (H.2.1 h1))))) (fun h2 => (x_lldn c84_80 rfl (x_ildn c84_81 rfl (x_ild c84_82 rfl (wp_wk (l' := [some (jR 29), some (jL v1), none, some (jI v3), some (jI v4), none, none]) ⟨rfl, ⟨rfl, ⟨rfl, ⟨rfl, trivial⟩⟩⟩⟩ (x_cs (As := [jL v1, jI v3, jI v4]) (st := []) c84_84 (by decide) rfl (Nat.le_of_ble_eq_true rfl) mx83 (Nat.le_refl _) (H.2.2 h2))))))))))))
theorem s84_87 {kc : List va_E} {d : Nat} {v1 v3 v4 u0 : Int} {M : fx_M} {Q : Option fx_V → fx_M → Prop} (H : wc kc d 88 [jR 11, jL u0, jI (fx_shl 1 v3)] M (fun v M1 => wp kc (d + 1) 84 101 [some (jR 29), some (jL v1), none, some (jI v3), some (jI v4), some (jL u0), none] (v.toList ++ []) M1 Q)) : wp kc (d + 1) 84 87 [some (jR 29), some (jL v1), none, some (jI v3), some (jI v4), none, none] [jL u0] M Q :=
  (x_lst (l' := [some (jR 29), some (jL v1), none, some (jI v3), some (jI v4), some (jL u0), none]) c84_87 rfl (x_aldn c84_89 rfl (x_gfr c84_90 k_29_0 (x_lld c84_93 rfl (x_ci c84_95 (x_ildn c84_96 rfl (x_ishl c84_97 (wp_wk (l' := [some (jR 29), some (jL v1), none, some (jI v3), some (jI v4), some (jL u0), none]) ⟨rfl, ⟨rfl, ⟨rfl, ⟨rfl, ⟨rfl, trivial⟩⟩⟩⟩⟩ (x_cv (As := [jL u0, jI (fx_shl 1 v3)]) (st := []) c84_98 cl_11 kl88 rfl (Nat.le_of_ble_eq_true rfl) mx88 (Nat.le_refl _) H)))))))))
theorem s84_101 {kc : List va_E} {d : Nat} {v1 v3 v4 v5 u0 : Int} {M : fx_M} {Q : Option fx_V → fx_M → Prop} (H : ((fx_in32 u0)) ∧ (u0 = 0 → wp kc (d + 1) 84 50 [some (jR 29), some (jL v1), none, some (jI v3), some (jI (v4 + 1)), none, none] [] M Q) ∧ (u0 ≠ 0 → wc kc d 84 [jR 29, jL v5, jI (v3 + 1)] M (fun v M1 => wp kc (d + 1) 84 113 [some (jR 29), some (jL v1), none, some (jI v3), some (jI v4), none, none] (v.toList ++ []) M1 Q))) : wp kc (d + 1) 84 101 [some (jR 29), some (jL v1), none, some (jI v3), some (jI v4), some (jL v5), none] [jI u0] M Q :=
  (x_zeq c84_101 H.1 (fun h1 => (x_inc (l' := [some (jR 29), some (jL v1), none, some (jI v3), some (jI (v4 + 1)), some (jL v5), none]) c84_113 rfl rfl (x_goto c84_116 (wp_wk (l' := [some (jR 29), some (jL v1), none, some (jI v3), some (jI (v4 + 1)), none, none]) ⟨rfl, ⟨rfl, ⟨rfl, ⟨rfl, trivial⟩⟩⟩⟩ (H.2.1 h1))))) (fun h2 => (x_aldn c84_104 rfl (x_lld c84_105 rfl (x_ildn c84_107 rfl (x_ci c84_108 (x_iadd c84_109 (wp_wk (l' := [some (jR 29), some (jL v1), none, some (jI v3), some (jI v4), none, none]) ⟨rfl, ⟨rfl, ⟨rfl, ⟨rfl, trivial⟩⟩⟩⟩ (x_cv (As := [jL v5, jI (v3 + 1)]) (st := []) c84_110 cl_29 kl84 rfl (Nat.le_of_ble_eq_true rfl) mx84 (Nat.le_refl _) (H.2.2 h2))))))))))
theorem s84_113 {kc : List va_E} {d : Nat} {v1 v3 v4 : Int} {M : fx_M} {Q : Option fx_V → fx_M → Prop} (H : wp kc (d + 1) 84 50 [some (jR 29), some (jL v1), none, some (jI v3), some (jI (v4 + 1)), none, none] [] M Q) : wp kc (d + 1) 84 113 [some (jR 29), some (jL v1), none, some (jI v3), some (jI v4), none, none] [] M Q :=
  (x_inc (l' := [some (jR 29), some (jL v1), none, some (jI v3), some (jI (v4 + 1)), none, none]) c84_113 rfl rfl (x_goto c84_116 (wp_wk (l' := [some (jR 29), some (jL v1), none, some (jI v3), some (jI (v4 + 1)), none, none]) ⟨rfl, ⟨rfl, ⟨rfl, ⟨rfl, trivial⟩⟩⟩⟩ H)))
theorem s84 {kc : List va_E} {d : Nat} {x1 x3 : Int} {M : fx_M} {Q : Option fx_V → fx_M → Prop} (H : ((fx_in32 x3) ∧ (fx_in32 (M 11 2))) ∧ (x3 < M 11 2 → wp kc (d + 1) 84 50 [some (jR 29), some (jL x1), none, some (jI x3), some (jI 0), none, none] [] M Q) ∧ (M 11 2 ≤ x3 → ((fx_in32 ((M 29 3) + 1)) ∧ (fx_in32 (M 29 2))) ∧ (M 29 2 < (M 29 3) + 1 → Q none (fx_up M 29 3 ((M 29 3) + 1))) ∧ ((M 29 3) + 1 ≤ M 29 2 → wc kc d 85 [jR 29, jL x1] (fx_up M 29 3 ((M 29 3) + 1)) (fun v M1 => wp kc (d + 1) 84 37 [some (jR 29), none, none, none, none, none, none] (v.toList ++ []) M1 Q)))) : wc kc (d + 1) 84 [jR 29, jL x1, jI x3] M Q :=
  wc_of (wp_wk (l' := [some (jR 29), some (jL x1), none, some (jI x3), none, none, none]) ⟨rfl, ⟨rfl, ⟨rfl, trivial⟩⟩⟩ (s84_0 H))

/- PuzzleHouse$Search.writeFilling(J)V -/
theorem c85_0 : fx_ci 85 0 = some (0, 1) := by decide +kernel
theorem c85_1 : fx_op 85 1 = some (.istore_n 3, 2, 1) := by decide +kernel
theorem c85_2 : fx_op 85 2 = some (.iload_n 3, 3, 2) := by decide +kernel
theorem c85_3 : fx_op 85 3 = some (.aload_n 0, 4, 3) := by decide +kernel
theorem c85_4 : fx_gf 85 4 = some (4, 0, 7) := by decide +kernel
theorem c85_7 : fx_gf 85 7 = some (3, 2, 10) := by decide +kernel
theorem c85_10 : fx_op 85 10 = some (.if_icmp .ge 24, 13, 34) := by decide +kernel
theorem c85_13 : fx_op 85 13 = some (.aload_n 0, 14, 13) := by decide +kernel
theorem c85_14 : fx_gf 85 14 = some (4, 1, 17) := by decide +kernel
theorem c85_17 : fx_op 85 17 = some (.lload_n 1, 18, 17) := by decide +kernel
theorem c85_18 : fx_op 85 18 = some (.iload_n 3, 19, 18) := by decide +kernel
theorem c85_34 : fx_op 85 34 = some (.return_, 35, 34) := by decide +kernel
theorem c85_19 : fx_ca 85 19 = some (86, 2, 1, 22) := by decide +kernel
theorem c85_22 : fx_ca 85 22 = some (87, 1, 1, 25) := by decide +kernel
theorem c85_25 : fx_ca 85 25 = some (65, 2, 2, 28) := by decide +kernel
theorem c85_28 : fx_op 85 28 = some (.iinc 3 1, 31, 28) := by decide +kernel
theorem c85_31 : fx_op 85 31 = some (.goto (-29), 34, 2) := by decide +kernel
theorem s85_0 {kc : List va_E} {d : Nat} {x1 : Int} {M : fx_M} {Q : Option fx_V → fx_M → Prop} (H : wp kc (d + 1) 85 2 [some (jR 29), some (jL x1), none, some (jI 0)] [] M Q) : wp kc (d + 1) 85 0 [some (jR 29), some (jL x1), none, none] [] M Q :=
  (x_ci c85_0 (x_istn (l' := [some (jR 29), some (jL x1), none, some (jI 0)]) c85_1 rfl (wp_wk (l' := [some (jR 29), some (jL x1), none, some (jI 0)]) ⟨rfl, ⟨rfl, ⟨rfl, trivial⟩⟩⟩ H)))
theorem s85_2 {kc : List va_E} {d : Nat} {v1 v3 : Int} {M : fx_M} {Q : Option fx_V → fx_M → Prop} (H : ((fx_in32 v3) ∧ (fx_in32 (M 11 2))) ∧ (M 11 2 ≤ v3 → Q none M) ∧ (v3 < M 11 2 → wc kc d 86 [jL v1, jI v3] M (fun v M1 => wp kc (d + 1) 85 22 [some (jR 29), some (jL v1), none, some (jI v3)] (v.toList ++ [jR 3]) M1 Q))) : wp kc (d + 1) 85 2 [some (jR 29), some (jL v1), none, some (jI v3)] [] M Q :=
  (x_ildn c85_2 rfl (x_aldn c85_3 rfl (x_gfr c85_4 k_29_0 (x_gfi c85_7 k_11_2 (x_cge c85_10 H.1.1 H.1.2 (fun h1 => (x_vr c85_34 r85 (H.2.1 h1))) (fun h2 => (x_aldn c85_13 rfl (x_gfr c85_14 k_29_1 (x_lldn c85_17 rfl (x_ildn c85_18 rfl (wp_wk (l' := [some (jR 29), some (jL v1), none, some (jI v3)]) ⟨rfl, ⟨rfl, ⟨rfl, trivial⟩⟩⟩ (x_cs (As := [jL v1, jI v3]) (st := [jR 3]) c85_19 (by decide) rfl (Nat.le_of_ble_eq_true rfl) mx86 (Nat.le_refl _) (H.2.2 h2)))))))))))))
theorem s85_22 {kc : List va_E} {d : Nat} {v1 v3 u0 : Int} {M : fx_M} {Q : Option fx_V → fx_M → Prop} (H : wc kc d 87 [jI u0] M (fun v M1 => wp kc (d + 1) 85 25 [some (jR 29), some (jL v1), none, some (jI v3)] (v.toList ++ [jR 3]) M1 Q)) : wp kc (d + 1) 85 22 [some (jR 29), some (jL v1), none, some (jI v3)] [jI u0, jR 3] M Q :=
  (wp_wk (l' := [some (jR 29), some (jL v1), none, some (jI v3)]) ⟨rfl, ⟨rfl, ⟨rfl, trivial⟩⟩⟩ (x_cs (As := [jI u0]) (st := [jR 3]) c85_22 (by decide) rfl (Nat.le_of_ble_eq_true rfl) mx87 (Nat.le_refl _) H))
theorem s85_25 {kc : List va_E} {d : Nat} {v1 v3 u0 : Int} {M : fx_M} {Q : Option fx_V → fx_M → Prop} (H : wc kc d 65 [jR 3, jI u0] M (fun v M1 => wp kc (d + 1) 85 28 [some (jR 29), some (jL v1), none, some (jI v3)] (v.toList ++ []) M1 Q)) : wp kc (d + 1) 85 25 [some (jR 29), some (jL v1), none, some (jI v3)] [jI u0, jR 3] M Q :=
  (wp_wk (l' := [some (jR 29), some (jL v1), none, some (jI v3)]) ⟨rfl, ⟨rfl, ⟨rfl, trivial⟩⟩⟩ (x_cv (As := [jI u0]) (st := []) c85_25 cl_3 kl65 rfl (Nat.le_of_ble_eq_true rfl) mx65 (Nat.le_refl _) H))
theorem s85_28 {kc : List va_E} {d : Nat} {v1 v3 : Int} {M : fx_M} {Q : Option fx_V → fx_M → Prop} (H : wp kc (d + 1) 85 2 [some (jR 29), some (jL v1), none, some (jI (v3 + 1))] [] M Q) : wp kc (d + 1) 85 28 [some (jR 29), some (jL v1), none, some (jI v3)] [] M Q :=
  (x_inc (l' := [some (jR 29), some (jL v1), none, some (jI (v3 + 1))]) c85_28 rfl rfl (x_goto c85_31 (wp_wk (l' := [some (jR 29), some (jL v1), none, some (jI (v3 + 1))]) ⟨rfl, ⟨rfl, ⟨rfl, trivial⟩⟩⟩ H)))
theorem s85 {kc : List va_E} {d : Nat} {x1 : Int} {M : fx_M} {Q : Option fx_V → fx_M → Prop} (H : wp kc (d + 1) 85 2 [some (jR 29), some (jL x1), none, some (jI 0)] [] M Q) : wc kc (d + 1) 85 [jR 29, jL x1] M Q :=
  wc_of (wp_wk (l' := [some (jR 29), some (jL x1), none, none]) ⟨rfl, ⟨rfl, trivial⟩⟩ (s85_0 H))

/- PuzzleHouse$Search.count(JI)I -/
theorem c89_0 : fx_op 89 0 = some (.aload_n 0, 1, 0) := by decide +kernel
theorem c89_1 : fx_gf 89 1 = some (4, 0, 4) := by decide +kernel
theorem c89_4 : fx_op 89 4 = some (.lload_n 1, 5, 4) := by decide +kernel
theorem c89_5 : fx_ci 89 5 = some (1, 6) := by decide +kernel
theorem c89_6 : fx_op 89 6 = some (.aload_n 0, 7, 6) := by decide +kernel
theorem c89_7 : fx_gf 89 7 = some (4, 0, 10) := by decide +kernel
theorem c89_10 : fx_gf 89 10 = some (3, 2, 13) := by decide +kernel
theorem c89_13 : fx_op 89 13 = some (.ishl, 14, 13) := by decide +kernel
theorem c89_14 : fx_ci 89 14 = some (1, 15) := by decide +kernel
theorem c89_15 : fx_op 89 15 = some (.isub, 16, 15) := by decide +kernel
theorem c89_16 : fx_ca 89 16 = some (88, 3, 2, 19) := by decide +kernel
theorem c89_19 : fx_op 89 19 = some (.ifCond .ne 5, 22, 24) := by decide +kernel
theorem c89_24 : fx_ci 89 24 = some (0, 25) := by decide +kernel
theorem c89_25 : fx_op 89 25 = some (.istore 4, 27, 25) := by decide +kernel
theorem c89_27 : fx_ci 89 27 = some (0, 28) := by decide +kernel
theorem c89_28 : fx_op 89 28 = some (.istore 5, 30, 28) := by decide +kernel
theorem c89_22 : fx_ci 89 22 = some (0, 23) := by decide +kernel
theorem c89_23 : fx_op 89 23 = some (.ireturn, 24, 23) := by decide +kernel
theorem c89_30 : fx_op 89 30 = some (.iload 5, 32, 30) := by decide +kernel
theorem c89_32 : fx_op 89 32 = some (.aload_n 0, 33, 32) := by decide +kernel
theorem c89_33 : fx_gf 89 33 = some (4, 0, 36) := by decide +kernel
theorem c89_36 : fx_gf 89 36 = some (3, 2, 39) := by decide +kernel
theorem c89_39 : fx_op 89 39 = some (.if_icmp .ge 35, 42, 74) := by decide +kernel
theorem c89_42 : fx_op 89 42 = some (.iload 4, 44, 42) := by decide +kernel
theorem c89_44 : fx_op 89 44 = some (.lload_n 1, 45, 44) := by decide +kernel
theorem c89_45 : fx_op 89 45 = some (.iload 5, 47, 45) := by decide +kernel
theorem c89_74 : fx_ci 89 74 = some (1, 75) := by decide +kernel
theorem c89_75 : fx_op 89 75 = some (.istore 5, 77, 75) := by decide +kernel
theorem c89_77 : fx_ci 89 77 = some (0, 78) := by decide +kernel
theorem c89_78 : fx_op 89 78 = some (.istore 6, 80, 78) := by decide +kernel
theorem c89_47 : fx_ca 89 47 = some (86, 2, 1, 50) := by decide +kernel
theorem c89_80 : fx_op 89 80 = some (.iload 6, 82, 80) := by decide +kernel
theorem c89_82 : fx_ci 89 82 = some (9, 84) := by decide +kernel
theorem c89_84 : fx_op 89 84 = some (.if_icmp .ge 49, 87, 133) := by decide +kernel
theorem c89_87 : fx_op 89 87 = some (.iload 4, 89, 87) := by decide +kernel
theorem c89_89 : fx_op 89 89 = some (.ifCond .eq 44, 92, 133) := by decide +kernel
theorem c89_92 : fx_op 89 92 = some (.iload 5, 94, 92) := by decide +kernel
theorem c89_94 : fx_op 89 94 = some (.ifCond .le 39, 97, 133) := by decide +kernel
theorem c89_97 : fx_op 89 97 = some (.aload_n 0, 98, 97) := by decide +kernel
theorem c89_98 : fx_op 89 98 = some (.iload 4, 100, 98) := by decide +kernel
theorem c89_133 : fx_op 89 133 = some (.iload 5, 135, 133) := by decide +kernel
theorem c89_135 : fx_op 89 135 = some (.iload_n 3, 136, 135) := by decide +kernel
theorem c89_136 : fx_nt 89 136 = some (2, 139) := by decide +kernel
theorem c89_139 : fx_op 89 139 = some (.ireturn, 140, 139) := by decide +kernel
theorem c89_100 : fx_ca 89 100 = some (90, 2, 2, 103) := by decide +kernel
theorem c89_50 : fx_ca 89 50 = some (79, 1, 0, 53) := by decide +kernel
theorem c89_103 : fx_op 89 103 = some (.istore 7, 105, 103) := by decide +kernel
theorem c89_105 : fx_op 89 105 = some (.iload 5, 107, 105) := by decide +kernel
theorem c89_107 : fx_op 89 107 = some (.aload_n 0, 108, 107) := by decide +kernel
theorem c89_108 : fx_op 89 108 = some (.lload_n 1, 109, 108) := by decide +kernel
theorem c89_109 : fx_op 89 109 = some (.iload 7, 111, 109) := by decide +kernel
theorem c89_111 : fx_op 89 111 = some (.iload_n 3, 112, 111) := by decide +kernel
theorem c89_112 : fx_ca 89 112 = some (91, 4, 2, 115) := by decide +kernel
theorem c89_53 : fx_ci 89 53 = some (1, 54) := by decide +kernel
theorem c89_54 : fx_op 89 54 = some (.if_icmp .le 10, 57, 64) := by decide +kernel
theorem c89_64 : fx_ci 89 64 = some (0, 65) := by decide +kernel
theorem c89_57 : fx_ci 89 57 = some (1, 58) := by decide +kernel
theorem c89_58 : fx_op 89 58 = some (.iload 5, 60, 58) := by decide +kernel
theorem c89_60 : fx_op 89 60 = some (.ishl, 61, 60) := by decide +kernel
theorem c89_61 : fx_op 89 61 = some (.goto 4, 64, 65) := by decide +kernel
theorem c89_65 : fx_op 89 65 = some (.ior, 66, 65) := by decide +kernel
theorem c89_66 : fx_op 89 66 = some (.istore 4, 68, 66) := by decide +kernel
theorem c89_68 : fx_op 89 68 = some (.iinc 5 1, 71, 68) := by decide +kernel
theorem c89_71 : fx_op 89 71 = some (.goto (-41), 74, 30) := by decide +kernel
theorem c89_115 : fx_op 89 115 = some (.imul, 116, 115) := by decide +kernel
theorem c89_116 : fx_op 89 116 = some (.istore 5, 118, 116) := by decide +kernel
theorem c89_118 : fx_op 89 118 = some (.iload 4, 120, 118) := by decide +kernel
theorem c89_120 : fx_op 89 120 = some (.iload 7, 122, 120) := by decide +kernel
theorem c89_122 : fx_ci 89 122 = some ((-1), 123) := by decide +kernel
theorem c89_123 : fx_op 89 123 = some (.ixor, 124, 123) := by decide +kernel
theorem c89_124 : fx_op 89 124 = some (.iand, 125, 124) := by decide +kernel
theorem c89_125 : fx_op 89 125 = some (.istore 4, 127, 125) := by decide +kernel
theorem c89_127 : fx_op 89 127 = some (.iinc 6 1, 130, 127) := by decide +kernel
theorem c89_130 : fx_op 89 130 = some (.goto (-50), 133, 80) := by decide +kernel
theorem n89_136 : xS 89 ((xI 89 136).getD .nop) = none := by decide +kernel
theorem s89_0 {kc : List va_E} {d : Nat} {x1 x3 : Int} {M : fx_M} {Q : Option fx_V → fx_M → Prop} (H : wc kc d 88 [jR 11, jL x1, jI ((fx_shl 1 (M 11 2)) - 1)] M (fun v M1 => wp kc (d + 1) 89 19 [some (jR 29), some (jL x1), none, some (jI x3), none, none, none, none] (v.toList ++ []) M1 Q)) : wp kc (d + 1) 89 0 [some (jR 29), some (jL x1), none, some (jI x3), none, none, none, none] [] M Q :=
  (x_aldn c89_0 rfl (x_gfr c89_1 k_29_0 (x_lldn c89_4 rfl (x_ci c89_5 (x_aldn c89_6 rfl (x_gfr c89_7 k_29_0 (x_gfi c89_10 k_11_2 (x_ishl c89_13 (x_ci c89_14 (x_isub c89_15 (wp_wk (l' := [some (jR 29), some (jL x1), none, some (jI x3), none, none, none, none]) ⟨rfl, ⟨rfl, ⟨rfl, trivial⟩⟩⟩ (x_cv (As := [jL x1, jI ((fx_shl 1 (M 11 2)) - 1)]) (st := []) c89_16 cl_11 kl88 rfl (Nat.le_of_ble_eq_true rfl) mx88 (Nat.le_refl _) H))))))))))))
theorem s89_19 {kc : List va_E} {d : Nat} {v1 v3 u0 : Int} {M : fx_M} {Q : Option fx_V → fx_M → Prop} (H : ((fx_in32 u0)) ∧ (u0 ≠ 0 → wp kc (d + 1) 89 30 [some (jR 29), some (jL v1), none, some (jI v3), some (jI 0), some (jI 0), none, none] [] M Q) ∧ (u0 = 0 → Q (some (jI 0)) M)) : wp kc (d + 1) 89 19 [some (jR 29), some (jL v1), none, some (jI v3), none, none, none, none] [jI u0] M Q :=
  (x_zne c89_19 H.1 (fun h1 => (x_ci c89_24 (x_ist (l' := [some (jR 29), some (jL v1), none, some (jI v3), some (jI 0), none, none, none]) c89_25 rfl (x_ci c89_27 (x_ist (l' := [some (jR 29), some (jL v1), none, some (jI v3), some (jI 0), some (jI 0), none, none]) c89_28 rfl (wp_wk (l' := [some (jR 29), some (jL v1), none, some (jI v3), some (jI 0), some (jI 0), none, none]) ⟨rfl, ⟨rfl, ⟨rfl, ⟨rfl, ⟨rfl, trivial⟩⟩⟩⟩⟩ (H.2.1 h1))))))) (fun h2 => (x_ci c89_22 (x_irt c89_23 r89 (H.2.2 h2)))))
theorem s89_30 {kc : List va_E} {d : Nat} {v1 v3 v4 v5 : Int} {M : fx_M} {Q : Option fx_V → fx_M → Prop} (H : ((fx_in32 v5) ∧ (fx_in32 (M 11 2))) ∧ (M 11 2 ≤ v5 → wp kc (d + 1) 89 80 [some (jR 29), some (jL v1), none, some (jI v3), some (jI v4), some (jI 1), some (jI 0), none] [] M Q) ∧ (v5 < M 11 2 → wc kc d 86 [jL v1, jI v5] M (fun v M1 => wp kc (d + 1) 89 50 [some (jR 29), some (jL v1), none, some (jI v3), none, some (jI v5), none, none] (v.toList ++ [jI v4]) M1 Q))) : wp kc (d + 1) 89 30 [some (jR 29), some (jL v1), none, some (jI v3), some (jI v4), some (jI v5), none, none] [] M Q :=
  (x_ild c89_30 rfl (x_aldn c89_32 rfl (x_gfr c89_33 k_29_0 (x_gfi c89_36 k_11_2 (x_cge c89_39 H.1.1 H.1.2 (fun h1 => (x_ci c89_74 (x_ist (l' := [some (jR 29), some (jL v1), none, some (jI v3), some (jI v4), some (jI 1), none, none]) c89_75 rfl (x_ci c89_77 (x_ist (l' := [some (jR 29), some (jL v1), none, some (jI v3), some (jI v4), some (jI 1), some (jI 0), none]) c89_78 rfl (wp_wk (l' := [some (jR 29), some (jL v1), none, some (jI v3), some (jI v4), some (jI 1), some (jI 0), none]) ⟨rfl, ⟨rfl, ⟨rfl, ⟨rfl, ⟨rfl, ⟨rfl, trivial⟩⟩⟩⟩⟩⟩ (H.2.1 h1))))))) (fun h2 => (x_ild c89_42 rfl (x_lldn c89_44 rfl (x_ild c89_45 rfl (wp_wk (l' := [some (jR 29), some (jL v1), none, some (jI v3), none, some (jI v5), none, none]) ⟨rfl, ⟨rfl, ⟨rfl, ⟨rfl, trivial⟩⟩⟩⟩ (x_cs (As := [jL v1, jI v5]) (st := [jI v4]) c89_47 (by decide) rfl (Nat.le_of_ble_eq_true rfl) mx86 (Nat.le_refl _) (H.2.2 h2))))))))))))
theorem s89_50 {kc : List va_E} {d : Nat} {v1 v3 v5 u0 u1 : Int} {M : fx_M} {Q : Option fx_V → fx_M → Prop} (H : wc kc d 79 [jI u0] M (fun v M1 => wp kc (d + 1) 89 53 [some (jR 29), some (jL v1), none, some (jI v3), none, some (jI v5), none, none] (v.toList ++ [jI u1]) M1 Q)) : wp kc (d + 1) 89 50 [some (jR 29), some (jL v1), none, some (jI v3), none, some (jI v5), none, none] [jI u0, jI u1] M Q :=
  (wp_wk (l' := [some (jR 29), some (jL v1), none, some (jI v3), none, some (jI v5), none, none]) ⟨rfl, ⟨rfl, ⟨rfl, ⟨rfl, trivial⟩⟩⟩⟩ (x_cs (As := [jI u0]) (st := [jI u1]) c89_50 (by decide) rfl (Nat.le_of_ble_eq_true rfl) mx79 (Nat.le_refl _) H))
theorem s89_53 {kc : List va_E} {d : Nat} {v1 v3 v5 u0 u1 : Int} {M : fx_M} {Q : Option fx_V → fx_M → Prop} (H : ((fx_in32 u0)) ∧ wp kc (d + 1) 89 30 [some (jR 29), some (jL v1), none, some (jI v3), some (jI (fx_or u1 (if 1 < u0 then (fx_shl 1 v5 : Int) else 0))), some (jI (v5 + 1)), none, none] [] M Q) : wp kc (d + 1) 89 53 [some (jR 29), some (jL v1), none, some (jI v3), none, some (jI v5), none, none] [jI u0, jI u1] M Q :=
  (x_ci c89_53 (have K : wp kc (d + 1) 89 65 [some (jR 29), some (jL v1), none, some (jI v3), none, some (jI v5), none, none] [jI (if 1 < u0 then (fx_shl 1 v5 : Int) else 0), jI u1] M Q := (x_ior c89_65 (x_ist (l' := [some (jR 29), some (jL v1), none, some (jI v3), some (jI (fx_or u1 (if 1 < u0 then (fx_shl 1 v5 : Int) else 0))), some (jI v5), none, none]) c89_66 rfl (x_inc (l' := [some (jR 29), some (jL v1), none, some (jI v3), some (jI (fx_or u1 (if 1 < u0 then (fx_shl 1 v5 : Int) else 0))), some (jI (v5 + 1)), none, none]) c89_68 rfl rfl (x_goto c89_71 (wp_wk (l' := [some (jR 29), some (jL v1), none, some (jI v3), some (jI (fx_or u1 (if 1 < u0 then (fx_shl 1 v5 : Int) else 0))), some (jI (v5 + 1)), none, none]) ⟨rfl, ⟨rfl, ⟨rfl, ⟨rfl, ⟨rfl, trivial⟩⟩⟩⟩⟩ H.2))))); (x_cle c89_54 H.1 (by decide) (fun (h1 : u0 ≤ 1) => (x_ci c89_64 (wp_wk (l' := [some (jR 29), some (jL v1), none, some (jI v3), none, some (jI v5), none, none]) ⟨rfl, ⟨rfl, ⟨rfl, ⟨rfl, trivial⟩⟩⟩⟩ (by have K := K; first | (simp only [if_neg (Int.not_lt.mpr h1)] at K ⊢; exact K) | (exfalso; omega))))) (fun (h2 : 1 < u0) => (x_ci c89_57 (x_ild c89_58 rfl (x_ishl c89_60 (x_goto c89_61 (wp_wk (l' := [some (jR 29), some (jL v1), none, some (jI v3), none, some (jI v5), none, none]) ⟨rfl, ⟨rfl, ⟨rfl, ⟨rfl, trivial⟩⟩⟩⟩ (by have K := K; first | (simp only [if_pos h2] at K ⊢; exact K) | (exfalso; omega)))))))))))
theorem s89_80 {kc : List va_E} {d : Nat} {v1 v3 v4 v5 v6 : Int} {M : fx_M} {Q : Option fx_V → fx_M → Prop} (H : ((fx_in32 v6)) ∧ (9 ≤ v6 → ((fx_in32 v5) ∧ (fx_in32 v3)) ∧ Q (some (jI (if v3 < v5 then (v3 : Int) else v5))) M) ∧ (v6 < 9 → ((fx_in32 v4)) ∧ (v4 = 0 → ((fx_in32 v5) ∧ (fx_in32 v3)) ∧ Q (some (jI (if v3 < v5 then (v3 : Int) else v5))) M) ∧ (v4 ≠ 0 → ((fx_in32 v5)) ∧ (v5 ≤ 0 → ((fx_in32 v5) ∧ (fx_in32 v3)) ∧ Q (some (jI (if v3 < v5 then (v3 : Int) else v5))) M) ∧ (0 < v5 → wc kc d 90 [jR 29, jI v4] M (fun v M1 => wp kc (d + 1) 89 103 [some (jR 29), some (jL v1), none, some (jI v3), some (jI v4), some (jI v5), some (jI v6), none] (v.toList ++ []) M1 Q))))) : wp kc (d + 1) 89 80 [some (jR 29), some (jL v1), none, some (jI v3), some (jI v4), some (jI v5), some (jI v6), none] [] M Q :=
  (x_ild c89_80 rfl (x_ci c89_82 (x_cge c89_84 H.1 (by decide) (fun h5 => (x_ild c89_133 rfl (x_ildn c89_135 rfl (x_min c89_136 n89_136 (H.2.1 h5).1.1 (H.2.1 h5).1.2 (Nat.le_of_ble_eq_true rfl) (x_irt c89_139 r89 (H.2.1 h5).2))))) (fun h6 => (x_ild c89_87 rfl (x_zeq c89_89 (H.2.2 h6).1 (fun h3 => (x_ild c89_133 rfl (x_ildn c89_135 rfl (x_min c89_136 n89_136 ((H.2.2 h6).2.1 h3).1.1 ((H.2.2 h6).2.1 h3).1.2 (Nat.le_of_ble_eq_true rfl) (x_irt c89_139 r89 ((H.2.2 h6).2.1 h3).2))))) (fun h4 => (x_ild c89_92 rfl (x_zle c89_94 ((H.2.2 h6).2.2 h4).1 (fun h1 => (x_ild c89_133 rfl (x_ildn c89_135 rfl (x_min c89_136 n89_136 (((H.2.2 h6).2.2 h4).2.1 h1).1.1 (((H.2.2 h6).2.2 h4).2.1 h1).1.2 (Nat.le_of_ble_eq_true rfl) (x_irt c89_139 r89 (((H.2.2 h6).2.2 h4).2.1 h1).2))))) (fun h2 => (x_aldn c89_97 rfl (x_ild c89_98 rfl (wp_wk (l' := [some (jR 29), some (jL v1), none, some (jI v3), some (jI v4), some (jI v5), some (jI v6), none]) ⟨rfl, ⟨rfl, ⟨rfl, ⟨rfl, ⟨rfl, ⟨rfl, trivial⟩⟩⟩⟩⟩⟩ (x_cv (As := [jI v4]) (st := []) c89_100 cl_29 kl90 rfl (Nat.le_of_ble_eq_true rfl) mx90 (Nat.le_refl _) (((H.2.2 h6).2.2 h4).2.2 h2)))))))))))))))
theorem s89_103 {kc : List va_E} {d : Nat} {v1 v3 v4 v5 v6 u0 : Int} {M : fx_M} {Q : Option fx_V → fx_M → Prop} (H : wc kc d 91 [jR 29, jL v1, jI u0, jI v3] M (fun v M1 => wp kc (d + 1) 89 115 [some (jR 29), some (jL v1), none, some (jI v3), some (jI v4), none, some (jI v6), some (jI u0)] (v.toList ++ [jI v5]) M1 Q)) : wp kc (d + 1) 89 103 [some (jR 29), some (jL v1), none, some (jI v3), some (jI v4), some (jI v5), some (jI v6), none] [jI u0] M Q :=
  (x_ist (l' := [some (jR 29), some (jL v1), none, some (jI v3), some (jI v4), some (jI v5), some (jI v6), some (jI u0)]) c89_103 rfl (x_ild c89_105 rfl (x_aldn c89_107 rfl (x_lldn c89_108 rfl (x_ild c89_109 rfl (x_ildn c89_111 rfl (wp_wk (l' := [some (jR 29), some (jL v1), none, some (jI v3), some (jI v4), none, some (jI v6), some (jI u0)]) ⟨rfl, ⟨rfl, ⟨rfl, ⟨rfl, ⟨rfl, ⟨rfl, trivial⟩⟩⟩⟩⟩⟩ (x_cv (As := [jL v1, jI u0, jI v3]) (st := [jI v5]) c89_112 cl_29 kl91 rfl (Nat.le_of_ble_eq_true rfl) mx91 (Nat.le_refl _) H))))))))
theorem s89_115 {kc : List va_E} {d : Nat} {v1 v3 v4 v6 v7 u0 u1 : Int} {M : fx_M} {Q : Option fx_V → fx_M → Prop} (H : wp kc (d + 1) 89 80 [some (jR 29), some (jL v1), none, some (jI v3), some (jI (fx_and v4 (fx_xor v7 (-1)))), some (jI (u1 * u0)), some (jI (v6 + 1)), none] [] M Q) : wp kc (d + 1) 89 115 [some (jR 29), some (jL v1), none, some (jI v3), some (jI v4), none, some (jI v6), some (jI v7)] [jI u0, jI u1] M Q :=
  (x_imul c89_115 (x_ist (l' := [some (jR 29), some (jL v1), none, some (jI v3), some (jI v4), some (jI (u1 * u0)), some (jI v6), some (jI v7)]) c89_116 rfl (x_ild c89_118 rfl (x_ild c89_120 rfl (x_ci c89_122 (x_ixor c89_123 (x_iand c89_124 (x_ist (l' := [some (jR 29), some (jL v1), none, some (jI v3), some (jI (fx_and v4 (fx_xor v7 (-1)))), some (jI (u1 * u0)), some (jI v6), some (jI v7)]) c89_125 rfl (x_inc (l' := [some (jR 29), some (jL v1), none, some (jI v3), some (jI (fx_and v4 (fx_xor v7 (-1)))), some (jI (u1 * u0)), some (jI (v6 + 1)), some (jI v7)]) c89_127 rfl rfl (x_goto c89_130 (wp_wk (l' := [some (jR 29), some (jL v1), none, some (jI v3), some (jI (fx_and v4 (fx_xor v7 (-1)))), some (jI (u1 * u0)), some (jI (v6 + 1)), none]) ⟨rfl, ⟨rfl, ⟨rfl, ⟨rfl, ⟨rfl, ⟨rfl, trivial⟩⟩⟩⟩⟩⟩ H)))))))))))
theorem s89 {kc : List va_E} {d : Nat} {x1 x3 : Int} {M : fx_M} {Q : Option fx_V → fx_M → Prop} (H : wc kc d 88 [jR 11, jL x1, jI ((fx_shl 1 (M 11 2)) - 1)] M (fun v M1 => wp kc (d + 1) 89 19 [some (jR 29), some (jL x1), none, some (jI x3), none, none, none, none] (v.toList ++ []) M1 Q)) : wc kc (d + 1) 89 [jR 29, jL x1, jI x3] M Q :=
  wc_of (wp_wk (l' := [some (jR 29), some (jL x1), none, some (jI x3), none, none, none, none]) ⟨rfl, ⟨rfl, ⟨rfl, trivial⟩⟩⟩ (s89_0 H))

/- PuzzleHouse$Search.partOf(I)I -/
theorem c90_0 : fx_op 90 0 = some (.iload_n 1, 1, 0) := by decide +kernel
theorem c90_1 : fx_op 90 1 = some (.iload_n 1, 2, 1) := by decide +kernel
theorem c90_2 : fx_op 90 2 = some (.ineg, 3, 2) := by decide +kernel
theorem c90_3 : fx_op 90 3 = some (.iand, 4, 3) := by decide +kernel
theorem c90_4 : fx_op 90 4 = some (.istore_n 2, 5, 4) := by decide +kernel
theorem c90_5 : fx_ci 90 5 = some (0, 6) := by decide +kernel
theorem c90_6 : fx_op 90 6 = some (.istore_n 3, 7, 6) := by decide +kernel
theorem c90_7 : fx_op 90 7 = some (.iload_n 3, 8, 7) := by decide +kernel
theorem c90_8 : fx_ci 90 8 = some (9, 10) := by decide +kernel
theorem c90_10 : fx_op 90 10 = some (.if_icmp .ge 75, 13, 85) := by decide +kernel
theorem c90_85 : fx_op 90 85 = some (.iload_n 2, 86, 85) := by decide +kernel
theorem c90_13 : fx_op 90 13 = some (.iload_n 2, 14, 13) := by decide +kernel
theorem c90_14 : fx_op 90 14 = some (.istore 4, 16, 14) := by decide +kernel
theorem c90_16 : fx_ci 90 16 = some (0, 17) := by decide +kernel
theorem c90_17 : fx_op 90 17 = some (.istore 5, 19, 17) := by decide +kernel
theorem c90_86 : fx_op 90 86 = some (.ireturn, 87, 86) := by decide +kernel
theorem c90_19 : fx_op 90 19 = some (.iload 5, 21, 19) := by decide +kernel
theorem c90_21 : fx_op 90 21 = some (.aload_n 0, 22, 21) := by decide +kernel
theorem c90_22 : fx_gf 90 22 = some (4, 0, 25) := by decide +kernel
theorem c90_25 : fx_gf 90 25 = some (3, 4, 28) := by decide +kernel
theorem c90_28 : fx_op 90 28 = some (.if_icmp .ge 43, 31, 71) := by decide +kernel
theorem c90_31 : fx_op 90 31 = some (.iload_n 2, 32, 31) := by decide +kernel
theorem c90_32 : fx_op 90 32 = some (.aload_n 0, 33, 32) := by decide +kernel
theorem c90_33 : fx_gf 90 33 = some (4, 0, 36) := by decide +kernel
theorem c90_36 : fx_gf 90 36 = some (3, 9, 39) := by decide +kernel
theorem c90_39 : fx_op 90 39 = some (.iload 5, 41, 39) := by decide +kernel
theorem c90_41 : fx_op 90 41 = some (.iaload, 42, 41) := by decide +kernel
theorem c90_42 : fx_op 90 42 = some (.iload_n 2, 43, 42) := by decide +kernel
theorem c90_43 : fx_op 90 43 = some (.iand, 44, 43) := by decide +kernel
theorem c90_44 : fx_op 90 44 = some (.ifCond .eq 18, 47, 62) := by decide +kernel
theorem c90_62 : fx_ci 90 62 = some (0, 63) := by decide +kernel
theorem c90_63 : fx_op 90 63 = some (.ior, 64, 63) := by decide +kernel
theorem c90_64 : fx_op 90 64 = some (.istore_n 2, 65, 64) := by decide +kernel
theorem c90_65 : fx_op 90 65 = some (.iinc 5 1, 68, 65) := by decide +kernel
theorem c90_71 : fx_op 90 71 = some (.iload_n 2, 72, 71) := by decide +kernel
theorem c90_72 : fx_op 90 72 = some (.iload 4, 74, 72) := by decide +kernel
theorem c90_74 : fx_op 90 74 = some (.if_icmp .ne 5, 77, 79) := by decide +kernel
theorem c90_79 : fx_op 90 79 = some (.iinc 3 1, 82, 79) := by decide +kernel
theorem c90_77 : fx_op 90 77 = some (.iload_n 2, 78, 77) := by decide +kernel
theorem c90_47 : fx_op 90 47 = some (.aload_n 0, 48, 47) := by decide +kernel
theorem c90_48 : fx_gf 90 48 = some (4, 0, 51) := by decide +kernel
theorem c90_51 : fx_gf 90 51 = some (3, 9, 54) := by decide +kernel
theorem c90_54 : fx_op 90 54 = some (.iload 5, 56, 54) := by decide +kernel
theorem c90_56 : fx_op 90 56 = some (.iaload, 57, 56) := by decide +kernel
theorem c90_57 : fx_op 90 57 = some (.iload_n 1, 58, 57) := by decide +kernel
theorem c90_58 : fx_op 90 58 = some (.iand, 59, 58) := by decide +kernel
theorem c90_59 : fx_op 90 59 = some (.goto 4, 62, 63) := by decide +kernel
theorem c90_82 : fx_op 90 82 = some (.goto (-75), 85, 7) := by decide +kernel
theorem c90_78 : fx_op 90 78 = some (.ireturn, 79, 78) := by decide +kernel
theorem c90_68 : fx_op 90 68 = some (.goto (-49), 71, 19) := by decide +kernel
theorem s90_0 {kc : List va_E} {d : Nat} {x1 : Int} {M : fx_M} {Q : Option fx_V → fx_M → Prop} (H : wp kc (d + 1) 90 7 [some (jR 29), some (jI x1), some (jI (fx_and x1 (-x1))), some (jI 0), none, none] [] M Q) : wp kc (d + 1) 90 0 [some (jR 29), some (jI x1), none, none, none, none] [] M Q :=
  (x_ildn c90_0 rfl (x_ildn c90_1 rfl (x_ineg c90_2 (x_iand c90_3 (x_istn (l' := [some (jR 29), some (jI x1), some (jI (fx_and x1 (-x1))), none, none, none]) c90_4 rfl (x_ci c90_5 (x_istn (l' := [some (jR 29), some (jI x1), some (jI (fx_and x1 (-x1))), some (jI 0), none, none]) c90_6 rfl (wp_wk (l' := [some (jR 29), some (jI x1), some (jI (fx_and x1 (-x1))), some (jI 0), none, none]) ⟨rfl, ⟨rfl, ⟨rfl, ⟨rfl, trivial⟩⟩⟩⟩ H))))))))
theorem s90_7 {kc : List va_E} {d : Nat} {v1 v2 v3 : Int} {M : fx_M} {Q : Option fx_V → fx_M → Prop} (H : ((fx_in32 v3)) ∧ (9 ≤ v3 → Q (some (jI v2)) M) ∧ (v3 < 9 → wp kc (d + 1) 90 19 [some (jR 29), some (jI v1), some (jI v2), some (jI v3), some (jI v2), some (jI 0)] [] M Q)) : wp kc (d + 1) 90 7 [some (jR 29), some (jI v1), some (jI v2), some (jI v3), none, none] [] M Q :=
  (x_ildn c90_7 rfl (x_ci c90_8 (x_cge c90_10 H.1 (by decide) (fun h1 => (x_ildn c90_85 rfl (x_irt c90_86 r90 (H.2.1 h1)))) (fun h2 => (x_ildn c90_13 rfl (x_ist (l' := [some (jR 29), some (jI v1), some (jI v2), some (jI v3), some (jI v2), none]) c90_14 rfl (x_ci c90_16 (x_ist (l' := [some (jR 29), some (jI v1), some (jI v2), some (jI v3), some (jI v2), some (jI 0)]) c90_17 rfl (wp_wk (l' := [some (jR 29), some (jI v1), some (jI v2), some (jI v3), some (jI v2), some (jI 0)]) ⟨rfl, ⟨rfl, ⟨rfl, ⟨rfl, ⟨rfl, ⟨rfl, trivial⟩⟩⟩⟩⟩⟩ (H.2.2 h2))))))))))
theorem s90_19 {kc : List va_E} {d : Nat} {v1 v2 v3 v4 v5 : Int} {M : fx_M} {Q : Option fx_V → fx_M → Prop} (H : ((fx_in32 v5) ∧ (fx_in32 (M 11 4))) ∧ (M 11 4 ≤ v5 → ((fx_in32 v2) ∧ (fx_in32 v4)) ∧ (v2 ≠ v4 → wp kc (d + 1) 90 7 [some (jR 29), some (jI v1), some (jI v2), some (jI (v3 + 1)), none, none] [] M Q) ∧ (v2 = v4 → Q (some (jI v2)) M)) ∧ (v5 < M 11 4 → (((0 : Int) ≤ v5 ∧ v5 < 12)) ∧ ((fx_in32 (fx_and (M 16 v5) v2))) ∧ (fx_and (M 16 v5) v2 ≠ 0 → ((((0 : Int) ≤ v5 ∧ v5 < 12)))) ∧ wp kc (d + 1) 90 19 [some (jR 29), some (jI v1), some (jI (fx_or v2 (if fx_and (M 16 v5) v2 = 0 then (0 : Int) else fx_and (M 16 v5) v1))), some (jI v3), some (jI v4), some (jI (v5 + 1))] [] M Q)) : wp kc (d + 1) 90 19 [some (jR 29), some (jI v1), some (jI v2), some (jI v3), some (jI v4), some (jI v5)] [] M Q :=
  (x_ild c90_19 rfl (x_aldn c90_21 rfl (x_gfr c90_22 k_29_0 (x_gfi c90_25 k_11_4 (x_cge c90_28 H.1.1 H.1.2 (fun h3 => (x_ildn c90_71 rfl (x_ild c90_72 rfl (x_cne c90_74 (H.2.1 h3).1.1 (H.2.1 h3).1.2 (fun h1 => (x_inc (l' := [some (jR 29), some (jI v1), some (jI v2), some (jI (v3 + 1)), some (jI v4), some (jI v5)]) c90_79 rfl rfl (x_goto c90_82 (wp_wk (l' := [some (jR 29), some (jI v1), some (jI v2), some (jI (v3 + 1)), none, none]) ⟨rfl, ⟨rfl, ⟨rfl, ⟨rfl, trivial⟩⟩⟩⟩ ((H.2.1 h3).2.1 h1))))) (fun h2 => (x_ildn c90_77 rfl (x_irt c90_78 r90 ((H.2.1 h3).2.2 h2)))))))) (fun h4 => (x_ildn c90_31 rfl (x_aldn c90_32 rfl (x_gfr c90_33 k_29_0 (x_gfr c90_36 k_11_9 (x_ild c90_39 rfl (x_iald c90_41 a_16 (H.2.2 h4).1 (by decide) (x_ildn c90_42 rfl (x_iand c90_43 (have K : wp kc (d + 1) 90 63 [some (jR 29), some (jI v1), none, some (jI v3), some (jI v4), some (jI v5)] [jI (if fx_and (M 16 v5) v2 = 0 then (0 : Int) else fx_and (M 16 v5) v1), jI v2] M Q := (x_ior c90_63 (x_istn (l' := [some (jR 29), some (jI v1), some (jI (fx_or v2 (if fx_and (M 16 v5) v2 = 0 then (0 : Int) else fx_and (M 16 v5) v1))), some (jI v3), some (jI v4), some (jI v5)]) c90_64 rfl (x_inc (l' := [some (jR 29), some (jI v1), some (jI (fx_or v2 (if fx_and (M 16 v5) v2 = 0 then (0 : Int) else fx_and (M 16 v5) v1))), some (jI v3), some (jI v4), some (jI (v5 + 1))]) c90_65 rfl rfl (x_goto c90_68 (wp_wk (l' := [some (jR 29), some (jI v1), some (jI (fx_or v2 (if fx_and (M 16 v5) v2 = 0 then (0 : Int) else fx_and (M 16 v5) v1))), some (jI v3), some (jI v4), some (jI (v5 + 1))]) ⟨rfl, ⟨rfl, ⟨rfl, ⟨rfl, ⟨rfl, ⟨rfl, trivial⟩⟩⟩⟩⟩⟩ (H.2.2 h4).2.2.2))))); (x_zeq c90_44 (H.2.2 h4).2.1 (fun (h5 : fx_and (M 16 v5) v2 = 0) => (x_ci c90_62 (wp_wk (l' := [some (jR 29), some (jI v1), none, some (jI v3), some (jI v4), some (jI v5)]) ⟨rfl, ⟨rfl, ⟨rfl, ⟨rfl, ⟨rfl, trivial⟩⟩⟩⟩⟩ (by have K := K; first | (simp only [if_pos h5] at K ⊢; exact K) | (exfalso; omega))))) (fun (h6 : fx_and (M 16 v5) v2 ≠ 0) => (x_aldn c90_47 rfl (x_gfr c90_48 k_29_0 (x_gfr c90_51 k_11_9 (x_ild c90_54 rfl (x_iald c90_56 a_16 ((H.2.2 h4).2.2.1 h6) (by decide) (x_ildn c90_57 rfl (x_iand c90_58 (x_goto c90_59 (wp_wk (l' := [some (jR 29), some (jI v1), none, some (jI v3), some (jI v4), some (jI v5)]) ⟨rfl, ⟨rfl, ⟨rfl, ⟨rfl, ⟨rfl, trivial⟩⟩⟩⟩⟩ (by have K := K; first | (simp only [if_neg h6] at K ⊢; exact K) | (exfalso; omega))))))))))))))))))))))))))))
theorem s90 {kc : List va_E} {d : Nat} {x1 : Int} {M : fx_M} {Q : Option fx_V → fx_M → Prop} (H : wp kc (d + 1) 90 7 [some (jR 29), some (jI x1), some (jI (fx_and x1 (-x1))), some (jI 0), none, none] [] M Q) : wc kc (d + 1) 90 [jR 29, jI x1] M Q :=
  wc_of (wp_wk (l' := [some (jR 29), some (jI x1), none, none, none, none]) ⟨rfl, ⟨rfl, trivial⟩⟩ (s90_0 H))

/- PuzzleHouse$Search.countPart(JII)I -/
theorem c91_0 : fx_op 91 0 = some (.iload_n 3, 1, 0) := by decide +kernel
theorem c91_1 : fx_op 91 1 = some (.ifCond .ne 5, 4, 6) := by decide +kernel
theorem c91_6 : fx_op 91 6 = some (.iload_n 3, 7, 6) := by decide +kernel
theorem c91_4 : fx_ci 91 4 = some (1, 5) := by decide +kernel
theorem c91_7 : fx_ca 91 7 = some (87, 1, 1, 10) := by decide +kernel
theorem c91_5 : fx_op 91 5 = some (.ireturn, 6, 5) := by decide +kernel
theorem c91_10 : fx_op 91 10 = some (.istore 5, 12, 10) := by decide +kernel
theorem c91_12 : fx_ci 91 12 = some (0, 13) := by decide +kernel
theorem c91_13 : fx_op 91 13 = some (.istore 6, 15, 13) := by decide +kernel
theorem c91_15 : fx_ci 91 15 = some (0, 16) := by decide +kernel
theorem c91_16 : fx_op 91 16 = some (.istore 7, 18, 16) := by decide +kernel
theorem c91_18 : fx_op 91 18 = some (.iload 7, 20, 18) := by decide +kernel
theorem c91_20 : fx_ci 91 20 = some (4, 21) := by decide +kernel
theorem c91_21 : fx_op 91 21 = some (.if_icmp .ge 77, 24, 98) := by decide +kernel
theorem c91_24 : fx_op 91 24 = some (.iload 6, 26, 24) := by decide +kernel
theorem c91_26 : fx_op 91 26 = some (.iload 4, 28, 26) := by decide +kernel
theorem c91_28 : fx_op 91 28 = some (.if_icmp .ge 70, 31, 98) := by decide +kernel
theorem c91_31 : fx_op 91 31 = some (.lload_n 1, 32, 31) := by decide +kernel
theorem c91_32 : fx_op 91 32 = some (.iload 5, 34, 32) := by decide +kernel
theorem c91_98 : fx_op 91 98 = some (.iload 6, 100, 98) := by decide +kernel
theorem c91_100 : fx_op 91 100 = some (.ireturn, 101, 100) := by decide +kernel
theorem c91_34 : fx_ca 91 34 = some (86, 2, 1, 37) := by decide +kernel
theorem c91_37 : fx_op 91 37 = some (.iload 7, 39, 37) := by decide +kernel
theorem c91_39 : fx_op 91 39 = some (.ishr, 40, 39) := by decide +kernel
theorem c91_40 : fx_ci 91 40 = some (1, 41) := by decide +kernel
theorem c91_41 : fx_op 91 41 = some (.iand, 42, 41) := by decide +kernel
theorem c91_42 : fx_op 91 42 = some (.ifCond .eq 50, 45, 92) := by decide +kernel
theorem c91_45 : fx_op 91 45 = some (.lload_n 1, 46, 45) := by decide +kernel
theorem c91_46 : fx_op 91 46 = some (.iload 5, 48, 46) := by decide +kernel
theorem c91_48 : fx_op 91 48 = some (.iload 7, 50, 48) := by decide +kernel
theorem c91_92 : fx_op 91 92 = some (.iinc 7 1, 95, 92) := by decide +kernel
theorem c91_95 : fx_op 91 95 = some (.goto (-77), 98, 18) := by decide +kernel
theorem c91_50 : fx_ca 91 50 = some (83, 3, 1, 53) := by decide +kernel
theorem c91_53 : fx_op 91 53 = some (.lstore 8, 55, 53) := by decide +kernel
theorem c91_55 : fx_op 91 55 = some (.aload_n 0, 56, 55) := by decide +kernel
theorem c91_56 : fx_gf 91 56 = some (4, 0, 59) := by decide +kernel
theorem c91_59 : fx_op 91 59 = some (.lload 8, 61, 59) := by decide +kernel
theorem c91_61 : fx_ci 91 61 = some (1, 62) := by decide +kernel
theorem c91_62 : fx_op 91 62 = some (.iload 5, 64, 62) := by decide +kernel
theorem c91_64 : fx_op 91 64 = some (.ishl, 65, 64) := by decide +kernel
theorem c91_65 : fx_ca 91 65 = some (88, 3, 2, 68) := by decide +kernel
theorem c91_68 : fx_op 91 68 = some (.ifCond .eq 24, 71, 92) := by decide +kernel
theorem c91_71 : fx_op 91 71 = some (.iload 6, 73, 71) := by decide +kernel
theorem c91_73 : fx_op 91 73 = some (.aload_n 0, 74, 73) := by decide +kernel
theorem c91_74 : fx_op 91 74 = some (.lload 8, 76, 74) := by decide +kernel
theorem c91_76 : fx_op 91 76 = some (.iload_n 3, 77, 76) := by decide +kernel
theorem c91_77 : fx_op 91 77 = some (.iload_n 3, 78, 77) := by decide +kernel
theorem c91_78 : fx_ci 91 78 = some (1, 79) := by decide +kernel
theorem c91_79 : fx_op 91 79 = some (.isub, 80, 79) := by decide +kernel
theorem c91_80 : fx_op 91 80 = some (.iand, 81, 80) := by decide +kernel
theorem c91_81 : fx_op 91 81 = some (.iload 4, 83, 81) := by decide +kernel
theorem c91_83 : fx_op 91 83 = some (.iload 6, 85, 83) := by decide +kernel
theorem c91_85 : fx_op 91 85 = some (.isub, 86, 85) := by decide +kernel
theorem c91_86 : fx_ca 91 86 = some (91, 4, 2, 89) := by decide +kernel
theorem c91_89 : fx_op 91 89 = some (.iadd, 90, 89) := by decide +kernel
theorem c91_90 : fx_op 91 90 = some (.istore 6, 92, 90) := by decide +kernel
theorem s91_0 {kc : List va_E} {d : Nat} {x1 x3 x4 : Int} {M : fx_M} {Q : Option fx_V → fx_M → Prop} (H : ((fx_in32 x3)) ∧ (x3 ≠ 0 → wc kc d 87 [jI x3] M (fun v M1 => wp kc (d + 1) 91 10 [some (jR 29), some (jL x1), none, some (jI x3), some (jI x4), none, none, none, none, none] (v.toList ++ []) M1 Q)) ∧ (x3 = 0 → Q (some (jI 1)) M)) : wp kc (d + 1) 91 0 [some (jR 29), some (jL x1), none, some (jI x3), some (jI x4), none, none, none, none, none] [] M Q :=
  (x_ildn c91_0 rfl (x_zne c91_1 H.1 (fun h1 => (x_ildn c91_6 rfl (wp_wk (l' := [some (jR 29), some (jL x1), none, some (jI x3), some (jI x4), none, none, none, none, none]) ⟨rfl, ⟨rfl, ⟨rfl, ⟨rfl, trivial⟩⟩⟩⟩ (x_cs (As := [jI x3]) (st := []) c91_7 (by decide) rfl (Nat.le_of_ble_eq_true rfl) mx87 (Nat.le_refl _) (H.2.1 h1))))) (fun h2 => (x_ci c91_4 (x_irt c91_5 r91 (H.2.2 h2))))))
theorem s91_10 {kc : List va_E} {d : Nat} {v1 v3 v4 u0 : Int} {M : fx_M} {Q : Option fx_V → fx_M → Prop} (H : wp kc (d + 1) 91 18 [some (jR 29), some (jL v1), none, some (jI v3), some (jI v4), some (jI u0), some (jI 0), some (jI 0), none, none] [] M Q) : wp kc (d + 1) 91 10 [some (jR 29), some (jL v1), none, some (jI v3), some (jI v4), none, none, none, none, none] [jI u0] M Q :=
  (x_ist (l' := [some (jR 29), some (jL v1), none, some (jI v3), some (jI v4), some (jI u0), none, none, none, none]) c91_10 rfl (x_ci c91_12 (x_ist (l' := [some (jR 29), some (jL v1), none, some (jI v3), some (jI v4), some (jI u0), some (jI 0), none, none, none]) c91_13 rfl (x_ci c91_15 (x_ist (l' := [some (jR 29), some (jL v1), none, some (jI v3), some (jI v4), some (jI u0), some (jI 0), some (jI 0), none, none]) c91_16 rfl (wp_wk (l' := [some (jR 29), some (jL v1), none, some (jI v3), some (jI v4), some (jI u0), some (jI 0), some (jI 0), none, none]) ⟨rfl, ⟨rfl, ⟨rfl, ⟨rfl, ⟨rfl, ⟨rfl, ⟨rfl, trivial⟩⟩⟩⟩⟩⟩⟩ H))))))
theorem s91_18 {kc : List va_E} {d : Nat} {v1 v3 v4 v5 v6 v7 : Int} {M : fx_M} {Q : Option fx_V → fx_M → Prop} (H : ((fx_in32 v7)) ∧ (4 ≤ v7 → Q (some (jI v6)) M) ∧ (v7 < 4 → ((fx_in32 v6) ∧ (fx_in32 v4)) ∧ (v4 ≤ v6 → Q (some (jI v6)) M) ∧ (v6 < v4 → wc kc d 86 [jL v1, jI v5] M (fun v M1 => wp kc (d + 1) 91 37 [some (jR 29), some (jL v1), none, some (jI v3), some (jI v4), some (jI v5), some (jI v6), some (jI v7), none, none] (v.toList ++ []) M1 Q)))) : wp kc (d + 1) 91 18 [some (jR 29), some (jL v1), none, some (jI v3), some (jI v4), some (jI v5), some (jI v6), some (jI v7), none, none] [] M Q :=
  (x_ild c91_18 rfl (x_ci c91_20 (x_cge c91_21 H.1 (by decide) (fun h3 => (x_ild c91_98 rfl (x_irt c91_100 r91 (H.2.1 h3)))) (fun h4 => (x_ild c91_24 rfl (x_ild c91_26 rfl (x_cge c91_28 (H.2.2 h4).1.1 (H.2.2 h4).1.2 (fun h1 => (x_ild c91_98 rfl (x_irt c91_100 r91 ((H.2.2 h4).2.1 h1)))) (fun h2 => (x_lldn c91_31 rfl (x_ild c91_32 rfl (wp_wk (l' := [some (jR 29), some (jL v1), none, some (jI v3), some (jI v4), some (jI v5), some (jI v6), some (jI v7), none, none]) ⟨rfl, ⟨rfl, ⟨rfl, ⟨rfl, ⟨rfl, ⟨rfl, ⟨rfl, trivial⟩⟩⟩⟩⟩⟩⟩ (x_cs (As := [jL v1, jI v5]) (st := []) c91_34 (by decide) rfl (Nat.le_of_ble_eq_true rfl) mx86 (Nat.le_refl _) ((H.2.2 h4).2.2 h2)))))))))))))
theorem s91_37 {kc : List va_E} {d : Nat} {v1 v3 v4 v5 v6 v7 u0 : Int} {M : fx_M} {Q : Option fx_V → fx_M → Prop} (H : ((fx_in32 (fx_and (fx_shr u0 v7) 1))) ∧ (fx_and (fx_shr u0 v7) 1 = 0 → wp kc (d + 1) 91 18 [some (jR 29), some (jL v1), none, some (jI v3), some (jI v4), some (jI v5), some (jI v6), some (jI (v7 + 1)), none, none] [] M Q) ∧ (fx_and (fx_shr u0 v7) 1 ≠ 0 → wc kc d 83 [jL v1, jI v5, jI v7] M (fun v M1 => wp kc (d + 1) 91 53 [some (jR 29), some (jL v1), none, some (jI v3), some (jI v4), some (jI v5), some (jI v6), some (jI v7), none, none] (v.toList ++ []) M1 Q))) : wp kc (d + 1) 91 37 [some (jR 29), some (jL v1), none, some (jI v3), some (jI v4), some (jI v5), some (jI v6), some (jI v7), none, none] [jI u0] M Q :=
  (x_ild c91_37 rfl (x_ishr c91_39 (x_ci c91_40 (x_iand c91_41 (x_zeq c91_42 H.1 (fun h1 => (x_inc (l' := [some (jR 29), some (jL v1), none, some (jI v3), some (jI v4), some (jI v5), some (jI v6), some (jI (v7 + 1)), none, none]) c91_92 rfl rfl (x_goto c91_95 (wp_wk (l' := [some (jR 29), some (jL v1), none, some (jI v3), some (jI v4), some (jI v5), some (jI v6), some (jI (v7 + 1)), none, none]) ⟨rfl, ⟨rfl, ⟨rfl, ⟨rfl, ⟨rfl, ⟨rfl, ⟨rfl, trivial⟩⟩⟩⟩⟩⟩⟩ (H.2.1 h1))))) (fun h2 => (x_lldn c91_45 rfl (x_ild c91_46 rfl (x_ild c91_48 rfl (wp_wk (l' := [some (jR 29), some (jL v1), none, some (jI v3), some (jI v4), some (jI v5), some (jI v6), some (jI v7), none, none]) ⟨rfl, ⟨rfl, ⟨rfl, ⟨rfl, ⟨rfl, ⟨rfl, ⟨rfl, trivial⟩⟩⟩⟩⟩⟩⟩ (x_cs (As := [jL v1, jI v5, jI v7]) (st := []) c91_50 (by decide) rfl (Nat.le_of_ble_eq_true rfl) mx83 (Nat.le_refl _) (H.2.2 h2))))))))))))
theorem s91_53 {kc : List va_E} {d : Nat} {v1 v3 v4 v5 v6 v7 u0 : Int} {M : fx_M} {Q : Option fx_V → fx_M → Prop} (H : wc kc d 88 [jR 11, jL u0, jI (fx_shl 1 v5)] M (fun v M1 => wp kc (d + 1) 91 68 [some (jR 29), some (jL v1), none, some (jI v3), some (jI v4), some (jI v5), some (jI v6), some (jI v7), some (jL u0), none] (v.toList ++ []) M1 Q)) : wp kc (d + 1) 91 53 [some (jR 29), some (jL v1), none, some (jI v3), some (jI v4), some (jI v5), some (jI v6), some (jI v7), none, none] [jL u0] M Q :=
  (x_lst (l' := [some (jR 29), some (jL v1), none, some (jI v3), some (jI v4), some (jI v5), some (jI v6), some (jI v7), some (jL u0), none]) c91_53 rfl (x_aldn c91_55 rfl (x_gfr c91_56 k_29_0 (x_lld c91_59 rfl (x_ci c91_61 (x_ild c91_62 rfl (x_ishl c91_64 (wp_wk (l' := [some (jR 29), some (jL v1), none, some (jI v3), some (jI v4), some (jI v5), some (jI v6), some (jI v7), some (jL u0), none]) ⟨rfl, ⟨rfl, ⟨rfl, ⟨rfl, ⟨rfl, ⟨rfl, ⟨rfl, ⟨rfl, trivial⟩⟩⟩⟩⟩⟩⟩⟩ (x_cv (As := [jL u0, jI (fx_shl 1 v5)]) (st := []) c91_65 cl_11 kl88 rfl (Nat.le_of_ble_eq_true rfl) mx88 (Nat.le_refl _) H)))))))))
theorem s91_68 {kc : List va_E} {d : Nat} {v1 v3 v4 v5 v6 v7 v8 u0 : Int} {M : fx_M} {Q : Option fx_V → fx_M → Prop} (H : ((fx_in32 u0)) ∧ (u0 = 0 → wp kc (d + 1) 91 18 [some (jR 29), some (jL v1), none, some (jI v3), some (jI v4), some (jI v5), some (jI v6), some (jI (v7 + 1)), none, none] [] M Q) ∧ (u0 ≠ 0 → wc kc d 91 [jR 29, jL v8, jI (fx_and v3 (v3 - 1)), jI (v4 - v6)] M (fun v M1 => wp kc (d + 1) 91 89 [some (jR 29), some (jL v1), none, some (jI v3), some (jI v4), some (jI v5), none, some (jI v7), none, none] (v.toList ++ [jI v6]) M1 Q))) : wp kc (d + 1) 91 68 [some (jR 29), some (jL v1), none, some (jI v3), some (jI v4), some (jI v5), some (jI v6), some (jI v7), some (jL v8), none] [jI u0] M Q :=
  (x_zeq c91_68 H.1 (fun h1 => (x_inc (l' := [some (jR 29), some (jL v1), none, some (jI v3), some (jI v4), some (jI v5), some (jI v6), some (jI (v7 + 1)), some (jL v8), none]) c91_92 rfl rfl (x_goto c91_95 (wp_wk (l' := [some (jR 29), some (jL v1), none, some (jI v3), some (jI v4), some (jI v5), some (jI v6), some (jI (v7 + 1)), none, none]) ⟨rfl, ⟨rfl, ⟨rfl, ⟨rfl, ⟨rfl, ⟨rfl, ⟨rfl, trivial⟩⟩⟩⟩⟩⟩⟩ (H.2.1 h1))))) (fun h2 => (x_ild c91_71 rfl (x_aldn c91_73 rfl (x_lld c91_74 rfl (x_ildn c91_76 rfl (x_ildn c91_77 rfl (x_ci c91_78 (x_isub c91_79 (x_iand c91_80 (x_ild c91_81 rfl (x_ild c91_83 rfl (x_isub c91_85 (wp_wk (l' := [some (jR 29), some (jL v1), none, some (jI v3), some (jI v4), some (jI v5), none, some (jI v7), none, none]) ⟨rfl, ⟨rfl, ⟨rfl, ⟨rfl, ⟨rfl, ⟨rfl, trivial⟩⟩⟩⟩⟩⟩ (x_cv (As := [jL v8, jI (fx_and v3 (v3 - 1)), jI (v4 - v6)]) (st := [jI v6]) c91_86 cl_29 kl91 rfl (Nat.le_of_ble_eq_true rfl) mx91 (Nat.le_refl _) (H.2.2 h2))))))))))))))))
theorem s91_89 {kc : List va_E} {d : Nat} {v1 v3 v4 v5 v7 u0 u1 : Int} {M : fx_M} {Q : Option fx_V → fx_M → Prop} (H : wp kc (d + 1) 91 18 [some (jR 29), some (jL v1), none, some (jI v3), some (jI v4), some (jI v5), some (jI (u1 + u0)), some (jI (v7 + 1)), none, none] [] M Q) : wp kc (d + 1) 91 89 [some (jR 29), some (jL v1), none, some (jI v3), some (jI v4), some (jI v5), none, some (jI v7), none, none] [jI u0, jI u1] M Q :=
  (x_iadd c91_89 (x_ist (l' := [some (jR 29), some (jL v1), none, some (jI v3), some (jI v4), some (jI v5), some (jI (u1 + u0)), some (jI v7), none, none]) c91_90 rfl (x_inc (l' := [some (jR 29), some (jL v1), none, some (jI v3), some (jI v4), some (jI v5), some (jI (u1 + u0)), some (jI (v7 + 1)), none, none]) c91_92 rfl rfl (x_goto c91_95 (wp_wk (l' := [some (jR 29), some (jL v1), none, some (jI v3), some (jI v4), some (jI v5), some (jI (u1 + u0)), some (jI (v7 + 1)), none, none]) ⟨rfl, ⟨rfl, ⟨rfl, ⟨rfl, ⟨rfl, ⟨rfl, ⟨rfl, trivial⟩⟩⟩⟩⟩⟩⟩ H)))))
theorem s91 {kc : List va_E} {d : Nat} {x1 x3 x4 : Int} {M : fx_M} {Q : Option fx_V → fx_M → Prop} (H : ((fx_in32 x3)) ∧ (x3 ≠ 0 → wc kc d 87 [jI x3] M (fun v M1 => wp kc (d + 1) 91 10 [some (jR 29), some (jL x1), none, some (jI x3), some (jI x4), none, none, none, none, none] (v.toList ++ []) M1 Q)) ∧ (x3 = 0 → Q (some (jI 1)) M)) : wc kc (d + 1) 91 [jR 29, jL x1, jI x3, jI x4] M Q :=
  wc_of (wp_wk (l' := [some (jR 29), some (jL x1), none, some (jI x3), some (jI x4), none, none, none, none, none]) ⟨rfl, ⟨rfl, ⟨rfl, ⟨rfl, trivial⟩⟩⟩⟩ (s91_0 H))

/- PuzzleHouse$Search.writePick(I)V -/
theorem c92_0 : fx_op 92 0 = some (.aload_n 0, 1, 0) := by decide +kernel
theorem c92_1 : fx_gf 92 1 = some (4, 0, 4) := by decide +kernel
theorem c92_4 : fx_ca 92 4 = some (81, 1, 2, 7) := by decide +kernel
theorem c92_7 : fx_op 92 7 = some (.lstore_n 2, 8, 7) := by decide +kernel
theorem c92_8 : fx_op 92 8 = some (.iload_n 1, 9, 8) := by decide +kernel
theorem c92_9 : fx_op 92 9 = some (.aload_n 0, 10, 9) := by decide +kernel
theorem c92_10 : fx_op 92 10 = some (.lload_n 2, 11, 10) := by decide +kernel
theorem c92_11 : fx_ci 92 11 = some (1048576, 13) := by decide +kernel
theorem c92_13 : fx_ca 92 13 = some (89, 3, 2, 16) := by decide +kernel
theorem c92_16 : fx_op 92 16 = some (.if_icmp .lt 15, 19, 31) := by decide +kernel
theorem c92_31 : fx_op 92 31 = some (.aload_n 0, 32, 31) := by decide +kernel
theorem c92_32 : fx_op 92 32 = some (.aload_n 0, 33, 32) := by decide +kernel
theorem c92_33 : fx_op 92 33 = some (.lload_n 2, 34, 33) := by decide +kernel
theorem c92_34 : fx_op 92 34 = some (.iload_n 1, 35, 34) := by decide +kernel
theorem c92_19 : fx_op 92 19 = some (.aload_n 0, 20, 19) := by decide +kernel
theorem c92_20 : fx_gf 92 20 = some (4, 1, 23) := by decide +kernel
theorem c92_23 : fx_cr 92 23 = some (1000071, 25) := by decide +kernel
theorem c92_35 : fx_ca 92 35 = some (93, 3, 2, 38) := by decide +kernel
theorem c92_25 : fx_ca 92 25 = some (64, 2, 2, 28) := by decide +kernel
theorem c92_38 : fx_ca 92 38 = some (85, 2, 2, 41) := by decide +kernel
theorem c92_28 : fx_op 92 28 = some (.goto 13, 31, 41) := by decide +kernel
theorem c92_41 : fx_op 92 41 = some (.return_, 42, 41) := by decide +kernel
theorem s92_0 {kc : List va_E} {d : Nat} {x1 : Int} {M : fx_M} {Q : Option fx_V → fx_M → Prop} (H : wc kc d 81 [jR 11] M (fun v M1 => wp kc (d + 1) 92 7 [some (jR 29), some (jI x1), none, none] (v.toList ++ []) M1 Q)) : wp kc (d + 1) 92 0 [some (jR 29), some (jI x1), none, none] [] M Q :=
  (x_aldn c92_0 rfl (x_gfr c92_1 k_29_0 (wp_wk (l' := [some (jR 29), some (jI x1), none, none]) ⟨rfl, ⟨rfl, trivial⟩⟩ (x_cv (As := []) (st := []) c92_4 cl_11 kl81 rfl (Nat.le_of_ble_eq_true rfl) mx81 (Nat.le_refl _) H))))
theorem s92_7 {kc : List va_E} {d : Nat} {v1 u0 : Int} {M : fx_M} {Q : Option fx_V → fx_M → Prop} (H : wc kc d 89 [jR 29, jL u0, jI 1048576] M (fun v M1 => wp kc (d + 1) 92 16 [some (jR 29), some (jI v1), some (jL u0), none] (v.toList ++ [jI v1]) M1 Q)) : wp kc (d + 1) 92 7 [some (jR 29), some (jI v1), none, none] [jL u0] M Q :=
  (x_lstn (l' := [some (jR 29), some (jI v1), some (jL u0), none]) c92_7 rfl (x_ildn c92_8 rfl (x_aldn c92_9 rfl (x_lldn c92_10 rfl (x_ci c92_11 (wp_wk (l' := [some (jR 29), some (jI v1), some (jL u0), none]) ⟨rfl, ⟨rfl, ⟨rfl, trivial⟩⟩⟩ (x_cv (As := [jL u0, jI 1048576]) (st := [jI v1]) c92_13 cl_29 kl89 rfl (Nat.le_of_ble_eq_true rfl) mx89 (Nat.le_refl _) H)))))))
theorem s92_16 {kc : List va_E} {d : Nat} {v1 v2 u0 u1 : Int} {M : fx_M} {Q : Option fx_V → fx_M → Prop} (H : ((fx_in32 u1) ∧ (fx_in32 u0)) ∧ (u1 < u0 → wc kc d 93 [jR 29, jL v2, jI v1] M (fun v M1 => wp kc (d + 1) 92 38 [none, none, none, none] (v.toList ++ [jR 29]) M1 Q)) ∧ (u0 ≤ u1 → wc kc d 64 [jR 3, jR 1000071] M (fun v M1 => wp kc (d + 1) 92 28 [none, none, none, none] (v.toList ++ []) M1 Q))) : wp kc (d + 1) 92 16 [some (jR 29), some (jI v1), some (jL v2), none] [jI u0, jI u1] M Q :=
  (x_clt c92_16 H.1.1 H.1.2 (fun h1 => (x_aldn c92_31 rfl (x_aldn c92_32 rfl (x_lldn c92_33 rfl (x_ildn c92_34 rfl (wp_wk (l' := [none, none, none, none]) trivial (x_cv (As := [jL v2, jI v1]) (st := [jR 29]) c92_35 cl_29 kl93 rfl (Nat.le_of_ble_eq_true rfl) mx93 (Nat.le_refl _) (H.2.1 h1)))))))) (fun h2 => (x_aldn c92_19 rfl (x_gfr c92_20 k_29_1 (x_cr c92_23 (wp_wk (l' := [none, none, none, none]) trivial (x_cv (As := [jR 1000071]) (st := []) c92_25 cl_3 kl64 rfl (Nat.le_of_ble_eq_true rfl) mx64 (Nat.le_refl _) (H.2.2 h2))))))))
theorem s92_28 {kc : List va_E} {d : Nat} {M : fx_M} {Q : Option fx_V → fx_M → Prop} (H : Q none M) : wp kc (d + 1) 92 28 [none, none, none, none] [] M Q :=
  (x_goto c92_28 (x_vr c92_41 r92 H))
theorem s92_38 {kc : List va_E} {d : Nat} {u0 : Int} {M : fx_M} {Q : Option fx_V → fx_M → Prop} (H : wc kc d 85 [jR 29, jL u0] M (fun v M1 => wp kc (d + 1) 92 41 [none, none, none, none] (v.toList ++ []) M1 Q)) : wp kc (d + 1) 92 38 [none, none, none, none] [jL u0, jR 29] M Q :=
  (wp_wk (l' := [none, none, none, none]) trivial (x_cv (As := [jL u0]) (st := []) c92_38 cl_29 kl85 rfl (Nat.le_of_ble_eq_true rfl) mx85 (Nat.le_refl _) H))
theorem s92_41 {kc : List va_E} {d : Nat} {M : fx_M} {Q : Option fx_V → fx_M → Prop} (H : Q none M) : wp kc (d + 1) 92 41 [none, none, none, none] [] M Q :=
  (x_vr c92_41 r92 H)
theorem s92 {kc : List va_E} {d : Nat} {x1 : Int} {M : fx_M} {Q : Option fx_V → fx_M → Prop} (H : wc kc d 81 [jR 11] M (fun v M1 => wp kc (d + 1) 92 7 [some (jR 29), some (jI x1), none, none] (v.toList ++ []) M1 Q)) : wc kc (d + 1) 92 [jR 29, jI x1] M Q :=
  wc_of (wp_wk (l' := [some (jR 29), some (jI x1), none, none]) ⟨rfl, ⟨rfl, trivial⟩⟩ (s92_0 H))

/- PuzzleHouse$Search.pick(JI)J -/
theorem c93_0 : fx_op 93 0 = some (.lload_n 1, 1, 0) := by decide +kernel
theorem c93_1 : fx_op 93 1 = some (.lstore 4, 3, 1) := by decide +kernel
theorem c93_3 : fx_op 93 3 = some (.iload_n 3, 4, 3) := by decide +kernel
theorem c93_4 : fx_op 93 4 = some (.istore 6, 6, 4) := by decide +kernel
theorem c93_6 : fx_ci 93 6 = some (0, 7) := by decide +kernel
theorem c93_7 : fx_op 93 7 = some (.istore 7, 9, 7) := by decide +kernel
theorem c93_9 : fx_op 93 9 = some (.iload 7, 11, 9) := by decide +kernel
theorem c93_11 : fx_op 93 11 = some (.aload_n 0, 12, 11) := by decide +kernel
theorem c93_12 : fx_gf 93 12 = some (4, 0, 15) := by decide +kernel
theorem c93_15 : fx_gf 93 15 = some (3, 2, 18) := by decide +kernel
theorem c93_18 : fx_op 93 18 = some (.if_icmp .ge 85, 21, 103) := by decide +kernel
theorem c93_21 : fx_op 93 21 = some (.lload 4, 23, 21) := by decide +kernel
theorem c93_23 : fx_op 93 23 = some (.iload 7, 25, 23) := by decide +kernel
theorem c93_103 : fx_op 93 103 = some (.lload 4, 105, 103) := by decide +kernel
theorem c93_105 : fx_op 93 105 = some (.lreturn, 106, 105) := by decide +kernel
theorem c93_25 : fx_ca 93 25 = some (86, 2, 1, 28) := by decide +kernel
theorem c93_28 : fx_op 93 28 = some (.istore 8, 30, 28) := by decide +kernel
theorem c93_30 : fx_ci 93 30 = some (0, 31) := by decide +kernel
theorem c93_31 : fx_op 93 31 = some (.istore 9, 33, 31) := by decide +kernel
theorem c93_33 : fx_op 93 33 = some (.iload 9, 35, 33) := by decide +kernel
theorem c93_35 : fx_ci 93 35 = some (4, 36) := by decide +kernel
theorem c93_36 : fx_op 93 36 = some (.if_icmp .ge 61, 39, 97) := by decide +kernel
theorem c93_39 : fx_op 93 39 = some (.iload 8, 41, 39) := by decide +kernel
theorem c93_41 : fx_op 93 41 = some (.iload 9, 43, 41) := by decide +kernel
theorem c93_43 : fx_op 93 43 = some (.ishr, 44, 43) := by decide +kernel
theorem c93_44 : fx_ci 93 44 = some (1, 45) := by decide +kernel
theorem c93_45 : fx_op 93 45 = some (.iand, 46, 45) := by decide +kernel
theorem c93_46 : fx_op 93 46 = some (.ifCond .eq 45, 49, 91) := by decide +kernel
theorem c93_91 : fx_op 93 91 = some (.iinc 9 1, 94, 91) := by decide +kernel
theorem c93_97 : fx_op 93 97 = some (.iinc 7 1, 100, 97) := by decide +kernel
theorem c93_49 : fx_op 93 49 = some (.lload 4, 51, 49) := by decide +kernel
theorem c93_51 : fx_op 93 51 = some (.iload 7, 53, 51) := by decide +kernel
theorem c93_53 : fx_op 93 53 = some (.iload 9, 55, 53) := by decide +kernel
theorem c93_100 : fx_op 93 100 = some (.goto (-91), 103, 9) := by decide +kernel
theorem c93_94 : fx_op 93 94 = some (.goto (-61), 97, 33) := by decide +kernel
theorem c93_55 : fx_ca 93 55 = some (83, 3, 1, 58) := by decide +kernel
theorem c93_58 : fx_op 93 58 = some (.lstore 10, 60, 58) := by decide +kernel
theorem c93_60 : fx_op 93 60 = some (.aload_n 0, 61, 60) := by decide +kernel
theorem c93_61 : fx_op 93 61 = some (.lload 10, 63, 61) := by decide +kernel
theorem c93_63 : fx_ci 93 63 = some (1048576, 65) := by decide +kernel
theorem c93_65 : fx_ca 93 65 = some (89, 3, 2, 68) := by decide +kernel
theorem c93_68 : fx_op 93 68 = some (.istore 12, 70, 68) := by decide +kernel
theorem c93_70 : fx_op 93 70 = some (.iload 6, 72, 70) := by decide +kernel
theorem c93_72 : fx_op 93 72 = some (.iload 12, 74, 72) := by decide +kernel
theorem c93_74 : fx_op 93 74 = some (.if_icmp .ge 10, 77, 84) := by decide +kernel
theorem c93_84 : fx_op 93 84 = some (.iload 6, 86, 84) := by decide +kernel
theorem c93_86 : fx_op 93 86 = some (.iload 12, 88, 86) := by decide +kernel
theorem c93_88 : fx_op 93 88 = some (.isub, 89, 88) := by decide +kernel
theorem c93_89 : fx_op 93 89 = some (.istore 6, 91, 89) := by decide +kernel
theorem c93_77 : fx_op 93 77 = some (.lload 10, 79, 77) := by decide +kernel
theorem c93_79 : fx_op 93 79 = some (.lstore 4, 81, 79) := by decide +kernel
theorem c93_81 : fx_op 93 81 = some (.goto 16, 84, 97) := by decide +kernel
theorem s93_0 {kc : List va_E} {d : Nat} {x1 x3 : Int} {M : fx_M} {Q : Option fx_V → fx_M → Prop} (H : wp kc (d + 1) 93 9 [some (jR 29), none, none, none, some (jL x1), none, some (jI x3), some (jI 0), none, none, none, none, none] [] M Q) : wp kc (d + 1) 93 0 [some (jR 29), some (jL x1), none, some (jI x3), none, none, none, none, none, none, none, none, none] [] M Q :=
  (x_lldn c93_0 rfl (x_lst (l' := [some (jR 29), some (jL x1), none, some (jI x3), some (jL x1), none, none, none, none, none, none, none, none]) c93_1 rfl (x_ildn c93_3 rfl (x_ist (l' := [some (jR 29), some (jL x1), none, some (jI x3), some (jL x1), none, some (jI x3), none, none, none, none, none, none]) c93_4 rfl (x_ci c93_6 (x_ist (l' := [some (jR 29), some (jL x1), none, some (jI x3), some (jL x1), none, some (jI x3), some (jI 0), none, none, none, none, none]) c93_7 rfl (wp_wk (l' := [some (jR 29), none, none, none, some (jL x1), none, some (jI x3), some (jI 0), none, none, none, none, none]) ⟨rfl, ⟨rfl, ⟨rfl, ⟨rfl, trivial⟩⟩⟩⟩ H)))))))
theorem s93_9 {kc : List va_E} {d : Nat} {v4 v6 v7 : Int} {M : fx_M} {Q : Option fx_V → fx_M → Prop} (H : ((fx_in32 v7) ∧ (fx_in32 (M 11 2))) ∧ (M 11 2 ≤ v7 → Q (some (jL v4)) M) ∧ (v7 < M 11 2 → wc kc d 86 [jL v4, jI v7] M (fun v M1 => wp kc (d + 1) 93 28 [some (jR 29), none, none, none, some (jL v4), none, some (jI v6), some (jI v7), none, none, none, none, none] (v.toList ++ []) M1 Q))) : wp kc (d + 1) 93 9 [some (jR 29), none, none, none, some (jL v4), none, some (jI v6), some (jI v7), none, none, none, none, none] [] M Q :=
  (x_ild c93_9 rfl (x_aldn c93_11 rfl (x_gfr c93_12 k_29_0 (x_gfi c93_15 k_11_2 (x_cge c93_18 H.1.1 H.1.2 (fun h1 => (x_lld c93_103 rfl (x_lrt c93_105 r93 (H.2.1 h1)))) (fun h2 => (x_lld c93_21 rfl (x_ild c93_23 rfl (wp_wk (l' := [some (jR 29), none, none, none, some (jL v4), none, some (jI v6), some (jI v7), none, none, none, none, none]) ⟨rfl, ⟨rfl, ⟨rfl, ⟨rfl, trivial⟩⟩⟩⟩ (x_cs (As := [jL v4, jI v7]) (st := []) c93_25 (by decide) rfl (Nat.le_of_ble_eq_true rfl) mx86 (Nat.le_refl _) (H.2.2 h2)))))))))))
theorem s93_28 {kc : List va_E} {d : Nat} {v4 v6 v7 u0 : Int} {M : fx_M} {Q : Option fx_V → fx_M → Prop} (H : wp kc (d + 1) 93 33 [some (jR 29), none, none, none, some (jL v4), none, some (jI v6), some (jI v7), some (jI u0), some (jI 0), none, none, none] [] M Q) : wp kc (d + 1) 93 28 [some (jR 29), none, none, none, some (jL v4), none, some (jI v6), some (jI v7), none, none, none, none, none] [jI u0] M Q :=
  (x_ist (l' := [some (jR 29), none, none, none, some (jL v4), none, some (jI v6), some (jI v7), some (jI u0), none, none, none, none]) c93_28 rfl (x_ci c93_30 (x_ist (l' := [some (jR 29), none, none, none, some (jL v4), none, some (jI v6), some (jI v7), some (jI u0), some (jI 0), none, none, none]) c93_31 rfl (wp_wk (l' := [some (jR 29), none, none, none, some (jL v4), none, some (jI v6), some (jI v7), some (jI u0), some (jI 0), none, none, none]) ⟨rfl, ⟨rfl, ⟨rfl, ⟨rfl, ⟨rfl, ⟨rfl, trivial⟩⟩⟩⟩⟩⟩ H))))
theorem s93_33 {kc : List va_E} {d : Nat} {v4 v6 v7 v8 v9 : Int} {M : fx_M} {Q : Option fx_V → fx_M → Prop} (H : ((fx_in32 v9)) ∧ (4 ≤ v9 → wp kc (d + 1) 93 9 [some (jR 29), none, none, none, some (jL v4), none, some (jI v6), some (jI (v7 + 1)), none, none, none, none, none] [] M Q) ∧ (v9 < 4 → ((fx_in32 (fx_and (fx_shr v8 v9) 1))) ∧ (fx_and (fx_shr v8 v9) 1 = 0 → wp kc (d + 1) 93 33 [some (jR 29), none, none, none, some (jL v4), none, some (jI v6), some (jI v7), some (jI v8), some (jI (v9 + 1)), none, none, none] [] M Q) ∧ (fx_and (fx_shr v8 v9) 1 ≠ 0 → wc kc d 83 [jL v4, jI v7, jI v9] M (fun v M1 => wp kc (d + 1) 93 58 [some (jR 29), none, none, none, some (jL v4), none, some (jI v6), some (jI v7), some (jI v8), some (jI v9), none, none, none] (v.toList ++ []) M1 Q)))) : wp kc (d + 1) 93 33 [some (jR 29), none, none, none, some (jL v4), none, some (jI v6), some (jI v7), some (jI v8), some (jI v9), none, none, none] [] M Q :=
  (x_ild c93_33 rfl (x_ci c93_35 (x_cge c93_36 H.1 (by decide) (fun h3 => (x_inc (l' := [some (jR 29), none, none, none, some (jL v4), none, some (jI v6), some (jI (v7 + 1)), some (jI v8), some (jI v9), none, none, none]) c93_97 rfl rfl (x_goto c93_100 (wp_wk (l' := [some (jR 29), none, none, none, some (jL v4), none, some (jI v6), some (jI (v7 + 1)), none, none, none, none, none]) ⟨rfl, ⟨rfl, ⟨rfl, ⟨rfl, trivial⟩⟩⟩⟩ (H.2.1 h3))))) (fun h4 => (x_ild c93_39 rfl (x_ild c93_41 rfl (x_ishr c93_43 (x_ci c93_44 (x_iand c93_45 (x_zeq c93_46 (H.2.2 h4).1 (fun h1 => (x_inc (l' := [some (jR 29), none, none, none, some (jL v4), none, some (jI v6), some (jI v7), some (jI v8), some (jI (v9 + 1)), none, none, none]) c93_91 rfl rfl (x_goto c93_94 (wp_wk (l' := [some (jR 29), none, none, none, some (jL v4), none, some (jI v6), some (jI v7), some (jI v8), some (jI (v9 + 1)), none, none, none]) ⟨rfl, ⟨rfl, ⟨rfl, ⟨rfl, ⟨rfl, ⟨rfl, trivial⟩⟩⟩⟩⟩⟩ ((H.2.2 h4).2.1 h1))))) (fun h2 => (x_lld c93_49 rfl (x_ild c93_51 rfl (x_ild c93_53 rfl (wp_wk (l' := [some (jR 29), none, none, none, some (jL v4), none, some (jI v6), some (jI v7), some (jI v8), some (jI v9), none, none, none]) ⟨rfl, ⟨rfl, ⟨rfl, ⟨rfl, ⟨rfl, ⟨rfl, trivial⟩⟩⟩⟩⟩⟩ (x_cs (As := [jL v4, jI v7, jI v9]) (st := []) c93_55 (by decide) rfl (Nat.le_of_ble_eq_true rfl) mx83 (Nat.le_refl _) ((H.2.2 h4).2.2 h2)))))))))))))))))
theorem s93_58 {kc : List va_E} {d : Nat} {v4 v6 v7 v8 v9 u0 : Int} {M : fx_M} {Q : Option fx_V → fx_M → Prop} (H : wc kc d 89 [jR 29, jL u0, jI 1048576] M (fun v M1 => wp kc (d + 1) 93 68 [some (jR 29), none, none, none, some (jL v4), none, some (jI v6), some (jI v7), some (jI v8), some (jI v9), some (jL u0), none, none] (v.toList ++ []) M1 Q)) : wp kc (d + 1) 93 58 [some (jR 29), none, none, none, some (jL v4), none, some (jI v6), some (jI v7), some (jI v8), some (jI v9), none, none, none] [jL u0] M Q :=
  (x_lst (l' := [some (jR 29), none, none, none, some (jL v4), none, some (jI v6), some (jI v7), some (jI v8), some (jI v9), some (jL u0), none, none]) c93_58 rfl (x_aldn c93_60 rfl (x_lld c93_61 rfl (x_ci c93_63 (wp_wk (l' := [some (jR 29), none, none, none, some (jL v4), none, some (jI v6), some (jI v7), some (jI v8), some (jI v9), some (jL u0), none, none]) ⟨rfl, ⟨rfl, ⟨rfl, ⟨rfl, ⟨rfl, ⟨rfl, ⟨rfl, trivial⟩⟩⟩⟩⟩⟩⟩ (x_cv (As := [jL u0, jI 1048576]) (st := []) c93_65 cl_29 kl89 rfl (Nat.le_of_ble_eq_true rfl) mx89 (Nat.le_refl _) H))))))
theorem s93_68 {kc : List va_E} {d : Nat} {v4 v6 v7 v8 v9 v10 u0 : Int} {M : fx_M} {Q : Option fx_V → fx_M → Prop} (H : ((fx_in32 v6) ∧ (fx_in32 u0)) ∧ (u0 ≤ v6 → wp kc (d + 1) 93 33 [some (jR 29), none, none, none, some (jL v4), none, some (jI (v6 - u0)), some (jI v7), some (jI v8), some (jI (v9 + 1)), none, none, none] [] M Q) ∧ (v6 < u0 → wp kc (d + 1) 93 9 [some (jR 29), none, none, none, some (jL v10), none, some (jI v6), some (jI (v7 + 1)), none, none, none, none, none] [] M Q)) : wp kc (d + 1) 93 68 [some (jR 29), none, none, none, some (jL v4), none, some (jI v6), some (jI v7), some (jI v8), some (jI v9), some (jL v10), none, none] [jI u0] M Q :=
  (x_ist (l' := [some (jR 29), none, none, none, some (jL v4), none, some (jI v6), some (jI v7), some (jI v8), some (jI v9), some (jL v10), none, some (jI u0)]) c93_68 rfl (x_ild c93_70 rfl (x_ild c93_72 rfl (x_cge c93_74 H.1.1 H.1.2 (fun h1 => (x_ild c93_84 rfl (x_ild c93_86 rfl (x_isub c93_88 (x_ist (l' := [some (jR 29), none, none, none, some (jL v4), none, some (jI (v6 - u0)), some (jI v7), some (jI v8), some (jI v9), some (jL v10), none, some (jI u0)]) c93_89 rfl (x_inc (l' := [some (jR 29), none, none, none, some (jL v4), none, some (jI (v6 - u0)), some (jI v7), some (jI v8), some (jI (v9 + 1)), some (jL v10), none, some (jI u0)]) c93_91 rfl rfl (x_goto c93_94 (wp_wk (l' := [some (jR 29), none, none, none, some (jL v4), none, some (jI (v6 - u0)), some (jI v7), some (jI v8), some (jI (v9 + 1)), none, none, none]) ⟨rfl, ⟨rfl, ⟨rfl, ⟨rfl, ⟨rfl, ⟨rfl, trivial⟩⟩⟩⟩⟩⟩ (H.2.1 h1))))))))) (fun h2 => (x_lld c93_77 rfl (x_lst (l' := [some (jR 29), none, none, none, some (jL v10), none, some (jI v6), some (jI v7), some (jI v8), some (jI v9), some (jL v10), none, some (jI u0)]) c93_79 rfl (x_goto c93_81 (x_inc (l' := [some (jR 29), none, none, none, some (jL v10), none, some (jI v6), some (jI (v7 + 1)), some (jI v8), some (jI v9), some (jL v10), none, some (jI u0)]) c93_97 rfl rfl (x_goto c93_100 (wp_wk (l' := [some (jR 29), none, none, none, some (jL v10), none, some (jI v6), some (jI (v7 + 1)), none, none, none, none, none]) ⟨rfl, ⟨rfl, ⟨rfl, ⟨rfl, trivial⟩⟩⟩⟩ (H.2.2 h2))))))))))))
theorem s93 {kc : List va_E} {d : Nat} {x1 x3 : Int} {M : fx_M} {Q : Option fx_V → fx_M → Prop} (H : wp kc (d + 1) 93 9 [some (jR 29), none, none, none, some (jL x1), none, some (jI x3), some (jI 0), none, none, none, none, none] [] M Q) : wc kc (d + 1) 93 [jR 29, jL x1, jI x3] M Q :=
  wc_of (wp_wk (l' := [some (jR 29), some (jL x1), none, some (jI x3), none, none, none, none, none, none, none, none, none]) ⟨rfl, ⟨rfl, ⟨rfl, trivial⟩⟩⟩ (s93_0 H))

/- PuzzleHouse$Search.clash()V -/
theorem c94_0 : fx_op 94 0 = some (.aload_n 0, 1, 0) := by decide +kernel
theorem c94_1 : fx_gf 94 1 = some (4, 0, 4) := by decide +kernel
theorem c94_4 : fx_ca 94 4 = some (81, 1, 2, 7) := by decide +kernel
theorem c94_7 : fx_op 94 7 = some (.lstore_n 1, 8, 7) := by decide +kernel
theorem c94_8 : fx_op 94 8 = some (.aload_n 0, 9, 8) := by decide +kernel
theorem c94_9 : fx_op 94 9 = some (.lload_n 1, 10, 9) := by decide +kernel
theorem c94_10 : fx_ci 94 10 = some (1, 11) := by decide +kernel
theorem c94_11 : fx_ca 94 11 = some (89, 3, 2, 14) := by decide +kernel
theorem c94_14 : fx_op 94 14 = some (.ifCond .le 13, 17, 27) := by decide +kernel
theorem c94_27 : fx_op 94 27 = some (.aload_n 0, 28, 27) := by decide +kernel
theorem c94_28 : fx_gf 94 28 = some (4, 1, 31) := by decide +kernel
theorem c94_31 : fx_cr 94 31 = some (1000073, 33) := by decide +kernel
theorem c94_17 : fx_op 94 17 = some (.aload_n 0, 18, 17) := by decide +kernel
theorem c94_18 : fx_gf 94 18 = some (4, 1, 21) := by decide +kernel
theorem c94_21 : fx_cr 94 21 = some (1000071, 23) := by decide +kernel
theorem c94_33 : fx_ca 94 33 = some (64, 2, 2, 36) := by decide +kernel
theorem c94_23 : fx_ca 94 23 = some (64, 2, 2, 26) := by decide +kernel
theorem c94_36 : fx_ci 94 36 = some (0, 37) := by decide +kernel
theorem c94_37 : fx_op 94 37 = some (.istore_n 3, 38, 37) := by decide +kernel
theorem c94_26 : fx_op 94 26 = some (.return_, 27, 26) := by decide +kernel
theorem c94_38 : fx_op 94 38 = some (.iload_n 3, 39, 38) := by decide +kernel
theorem c94_39 : fx_op 94 39 = some (.aload_n 0, 40, 39) := by decide +kernel
theorem c94_40 : fx_gf 94 40 = some (4, 0, 43) := by decide +kernel
theorem c94_43 : fx_gf 94 43 = some (3, 2, 46) := by decide +kernel
theorem c94_46 : fx_op 94 46 = some (.if_icmp .ge 64, 49, 110) := by decide +kernel
theorem c94_49 : fx_op 94 49 = some (.aload_n 0, 50, 49) := by decide +kernel
theorem c94_50 : fx_gf 94 50 = some (4, 0, 53) := by decide +kernel
theorem c94_53 : fx_gf 94 53 = some (3, 10, 56) := by decide +kernel
theorem c94_56 : fx_op 94 56 = some (.iload_n 3, 57, 56) := by decide +kernel
theorem c94_57 : fx_op 94 57 = some (.iaload, 58, 57) := by decide +kernel
theorem c94_58 : fx_op 94 58 = some (.ifCond .lt 46, 61, 104) := by decide +kernel
theorem c94_104 : fx_op 94 104 = some (.iinc 3 1, 107, 104) := by decide +kernel
theorem c94_61 : fx_op 94 61 = some (.aload_n 0, 62, 61) := by decide +kernel
theorem c94_62 : fx_op 94 62 = some (.lload_n 1, 63, 62) := by decide +kernel
theorem c94_63 : fx_op 94 63 = some (.aload_n 0, 64, 63) := by decide +kernel
theorem c94_64 : fx_op 94 64 = some (.iload_n 3, 65, 64) := by decide +kernel
theorem c94_110 : fx_op 94 110 = some (.return_, 111, 110) := by decide +kernel
theorem c94_107 : fx_op 94 107 = some (.goto (-69), 110, 38) := by decide +kernel
theorem c94_65 : fx_ca 94 65 = some (95, 2, 2, 68) := by decide +kernel
theorem c94_68 : fx_op 94 68 = some (.lor, 69, 68) := by decide +kernel
theorem c94_69 : fx_ci 94 69 = some (1, 70) := by decide +kernel
theorem c94_70 : fx_ca 94 70 = some (89, 3, 2, 73) := by decide +kernel
theorem c94_73 : fx_op 94 73 = some (.ifCond .ne 14, 76, 87) := by decide +kernel
theorem c94_87 : fx_op 94 87 = some (.aload_n 0, 88, 87) := by decide +kernel
theorem c94_88 : fx_gf 94 88 = some (4, 1, 91) := by decide +kernel
theorem c94_91 : fx_ci 94 91 = some (32, 93) := by decide +kernel
theorem c94_76 : fx_op 94 76 = some (.lload_n 1, 77, 76) := by decide +kernel
theorem c94_77 : fx_op 94 77 = some (.aload_n 0, 78, 77) := by decide +kernel
theorem c94_78 : fx_op 94 78 = some (.iload_n 3, 79, 78) := by decide +kernel
theorem c94_93 : fx_ca 94 93 = some (69, 2, 2, 96) := by decide +kernel
theorem c94_79 : fx_ca 94 79 = some (95, 2, 2, 82) := by decide +kernel
theorem c94_96 : fx_op 94 96 = some (.aload_n 0, 97, 96) := by decide +kernel
theorem c94_97 : fx_gf 94 97 = some (4, 1, 100) := by decide +kernel
theorem c94_100 : fx_op 94 100 = some (.iload_n 3, 101, 100) := by decide +kernel
theorem c94_101 : fx_ca 94 101 = some (65, 2, 2, 104) := by decide +kernel
theorem c94_82 : fx_op 94 82 = some (.lor, 83, 82) := by decide +kernel
theorem c94_83 : fx_op 94 83 = some (.lstore_n 1, 84, 83) := by decide +kernel
theorem c94_84 : fx_op 94 84 = some (.goto 20, 87, 104) := by decide +kernel
theorem s94_0 {kc : List va_E} {d : Nat} {M : fx_M} {Q : Option fx_V → fx_M → Prop} (H : wc kc d 81 [jR 11] M (fun v M1 => wp kc (d + 1) 94 7 [some (jR 29), none, none, none] (v.toList ++ []) M1 Q)) : wp kc (d + 1) 94 0 [some (jR 29), none, none, none] [] M Q :=
  (x_aldn c94_0 rfl (x_gfr c94_1 k_29_0 (wp_wk (l' := [some (jR 29), none, none, none]) ⟨rfl, trivial⟩ (x_cv (As := []) (st := []) c94_4 cl_11 kl81 rfl (Nat.le_of_ble_eq_true rfl) mx81 (Nat.le_refl _) H))))
theorem s94_7 {kc : List va_E} {d : Nat} {u0 : Int} {M : fx_M} {Q : Option fx_V → fx_M → Prop} (H : wc kc d 89 [jR 29, jL u0, jI 1] M (fun v M1 => wp kc (d + 1) 94 14 [some (jR 29), some (jL u0), none, none] (v.toList ++ []) M1 Q)) : wp kc (d + 1) 94 7 [some (jR 29), none, none, none] [jL u0] M Q :=
  (x_lstn (l' := [some (jR 29), some (jL u0), none, none]) c94_7 rfl (x_aldn c94_8 rfl (x_lldn c94_9 rfl (x_ci c94_10 (wp_wk (l' := [some (jR 29), some (jL u0), none, none]) ⟨rfl, ⟨rfl, trivial⟩⟩ (x_cv (As := [jL u0, jI 1]) (st := []) c94_11 cl_29 kl89 rfl (Nat.le_of_ble_eq_true rfl) mx89 (Nat.le_refl _) H))))))
theorem s94_14 {kc : List va_E} {d : Nat} {v1 u0 : Int} {M : fx_M} {Q : Option fx_V → fx_M → Prop} (H : ((fx_in32 u0)) ∧ (u0 ≤ 0 → wc kc d 64 [jR 3, jR 1000073] M (fun v M1 => wp kc (d + 1) 94 36 [some (jR 29), some (jL v1), none, none] (v.toList ++ []) M1 Q)) ∧ (0 < u0 → wc kc d 64 [jR 3, jR 1000071] M (fun v M1 => wp kc (d + 1) 94 26 [none, none, none, none] (v.toList ++ []) M1 Q))) : wp kc (d + 1) 94 14 [some (jR 29), some (jL v1), none, none] [jI u0] M Q :=
  (x_zle c94_14 H.1 (fun h1 => (x_aldn c94_27 rfl (x_gfr c94_28 k_29_1 (x_cr c94_31 (wp_wk (l' := [some (jR 29), some (jL v1), none, none]) ⟨rfl, ⟨rfl, trivial⟩⟩ (x_cv (As := [jR 1000073]) (st := []) c94_33 cl_3 kl64 rfl (Nat.le_of_ble_eq_true rfl) mx64 (Nat.le_refl _) (H.2.1 h1))))))) (fun h2 => (x_aldn c94_17 rfl (x_gfr c94_18 k_29_1 (x_cr c94_21 (wp_wk (l' := [none, none, none, none]) trivial (x_cv (As := [jR 1000071]) (st := []) c94_23 cl_3 kl64 rfl (Nat.le_of_ble_eq_true rfl) mx64 (Nat.le_refl _) (H.2.2 h2))))))))
theorem s94_26 {kc : List va_E} {d : Nat} {M : fx_M} {Q : Option fx_V → fx_M → Prop} (H : Q none M) : wp kc (d + 1) 94 26 [none, none, none, none] [] M Q :=
  (x_vr c94_26 r94 H)
theorem s94_36 {kc : List va_E} {d : Nat} {v1 : Int} {M : fx_M} {Q : Option fx_V → fx_M → Prop} (H : wp kc (d + 1) 94 38 [some (jR 29), some (jL v1), none, some (jI 0)] [] M Q) : wp kc (d + 1) 94 36 [some (jR 29), some (jL v1), none, none] [] M Q :=
  (x_ci c94_36 (x_istn (l' := [some (jR 29), some (jL v1), none, some (jI 0)]) c94_37 rfl (wp_wk (l' := [some (jR 29), some (jL v1), none, some (jI 0)]) ⟨rfl, ⟨rfl, ⟨rfl, trivial⟩⟩⟩ H)))
theorem s94_38 {kc : List va_E} {d : Nat} {v1 v3 : Int} {M : fx_M} {Q : Option fx_V → fx_M → Prop} (H : ((fx_in32 v3) ∧ (fx_in32 (M 11 2))) ∧ (M 11 2 ≤ v3 → Q none M) ∧ (v3 < M 11 2 → (((0 : Int) ≤ v3 ∧ v3 < 9)) ∧ ((fx_in32 (M 17 v3))) ∧ (M 17 v3 < 0 → wp kc (d + 1) 94 38 [some (jR 29), some (jL v1), none, some (jI (v3 + 1))] [] M Q) ∧ (0 ≤ M 17 v3 → wc kc d 95 [jR 29, jI v3] M (fun v M1 => wp kc (d + 1) 94 68 [some (jR 29), some (jL v1), none, some (jI v3)] (v.toList ++ [jL v1, jR 29]) M1 Q)))) : wp kc (d + 1) 94 38 [some (jR 29), some (jL v1), none, some (jI v3)] [] M Q :=
  (x_ildn c94_38 rfl (x_aldn c94_39 rfl (x_gfr c94_40 k_29_0 (x_gfi c94_43 k_11_2 (x_cge c94_46 H.1.1 H.1.2 (fun h3 => (x_vr c94_110 r94 (H.2.1 h3))) (fun h4 => (x_aldn c94_49 rfl (x_gfr c94_50 k_29_0 (x_gfr c94_53 k_11_10 (x_ildn c94_56 rfl (x_iald c94_57 a_17 (H.2.2 h4).1 (by decide) (x_zlt c94_58 (H.2.2 h4).2.1 (fun h1 => (x_inc (l' := [some (jR 29), some (jL v1), none, some (jI (v3 + 1))]) c94_104 rfl rfl (x_goto c94_107 (wp_wk (l' := [some (jR 29), some (jL v1), none, some (jI (v3 + 1))]) ⟨rfl, ⟨rfl, ⟨rfl, trivial⟩⟩⟩ ((H.2.2 h4).2.2.1 h1))))) (fun h2 => (x_aldn c94_61 rfl (x_lldn c94_62 rfl (x_aldn c94_63 rfl (x_ildn c94_64 rfl (wp_wk (l' := [some (jR 29), some (jL v1), none, some (jI v3)]) ⟨rfl, ⟨rfl, ⟨rfl, trivial⟩⟩⟩ (x_cv (As := [jI v3]) (st := [jL v1, jR 29]) c94_65 cl_29 kl95 rfl (Nat.le_of_ble_eq_true rfl) mx95 (Nat.le_refl _) ((H.2.2 h4).2.2.2 h2))))))))))))))))))))
theorem s94_68 {kc : List va_E} {d : Nat} {v1 v3 u0 u1 : Int} {M : fx_M} {Q : Option fx_V → fx_M → Prop} (H : wc kc d 89 [jR 29, jL (fx_lor u1 u0), jI 1] M (fun v M1 => wp kc (d + 1) 94 73 [some (jR 29), some (jL v1), none, some (jI v3)] (v.toList ++ []) M1 Q)) : wp kc (d + 1) 94 68 [some (jR 29), some (jL v1), none, some (jI v3)] [jL u0, jL u1, jR 29] M Q :=
  (x_lor c94_68 (x_ci c94_69 (wp_wk (l' := [some (jR 29), some (jL v1), none, some (jI v3)]) ⟨rfl, ⟨rfl, ⟨rfl, trivial⟩⟩⟩ (x_cv (As := [jL (fx_lor u1 u0), jI 1]) (st := []) c94_70 cl_29 kl89 rfl (Nat.le_of_ble_eq_true rfl) mx89 (Nat.le_refl _) H))))
theorem s94_73 {kc : List va_E} {d : Nat} {v1 v3 u0 : Int} {M : fx_M} {Q : Option fx_V → fx_M → Prop} (H : ((fx_in32 u0)) ∧ (u0 ≠ 0 → wc kc d 69 [jR 3, jI 32] M (fun v M1 => wp kc (d + 1) 94 96 [some (jR 29), some (jL v1), none, some (jI v3)] (v.toList ++ []) M1 Q)) ∧ (u0 = 0 → wc kc d 95 [jR 29, jI v3] M (fun v M1 => wp kc (d + 1) 94 82 [some (jR 29), none, none, some (jI v3)] (v.toList ++ [jL v1]) M1 Q))) : wp kc (d + 1) 94 73 [some (jR 29), some (jL v1), none, some (jI v3)] [jI u0] M Q :=
  (x_zne c94_73 H.1 (fun h1 => (x_aldn c94_87 rfl (x_gfr c94_88 k_29_1 (x_ci c94_91 (wp_wk (l' := [some (jR 29), some (jL v1), none, some (jI v3)]) ⟨rfl, ⟨rfl, ⟨rfl, trivial⟩⟩⟩ (x_cv (As := [jI 32]) (st := []) c94_93 cl_3 kl69 rfl (Nat.le_of_ble_eq_true rfl) mx69 (Nat.le_refl _) (H.2.1 h1))))))) (fun h2 => (x_lldn c94_76 rfl (x_aldn c94_77 rfl (x_ildn c94_78 rfl (wp_wk (l' := [some (jR 29), none, none, some (jI v3)]) ⟨rfl, ⟨rfl, trivial⟩⟩ (x_cv (As := [jI v3]) (st := [jL v1]) c94_79 cl_29 kl95 rfl (Nat.le_of_ble_eq_true rfl) mx95 (Nat.le_refl _) (H.2.2 h2))))))))
theorem s94_82 {kc : List va_E} {d : Nat} {v3 u0 u1 : Int} {M : fx_M} {Q : Option fx_V → fx_M → Prop} (H : wp kc (d + 1) 94 38 [some (jR 29), some (jL (fx_lor u1 u0)), none, some (jI (v3 + 1))] [] M Q) : wp kc (d + 1) 94 82 [some (jR 29), none, none, some (jI v3)] [jL u0, jL u1] M Q :=
  (x_lor c94_82 (x_lstn (l' := [some (jR 29), some (jL (fx_lor u1 u0)), none, some (jI v3)]) c94_83 rfl (x_goto c94_84 (x_inc (l' := [some (jR 29), some (jL (fx_lor u1 u0)), none, some (jI (v3 + 1))]) c94_104 rfl rfl (x_goto c94_107 (wp_wk (l' := [some (jR 29), some (jL (fx_lor u1 u0)), none, some (jI (v3 + 1))]) ⟨rfl, ⟨rfl, ⟨rfl, trivial⟩⟩⟩ H))))))
theorem s94_96 {kc : List va_E} {d : Nat} {v1 v3 : Int} {M : fx_M} {Q : Option fx_V → fx_M → Prop} (H : wc kc d 65 [jR 3, jI v3] M (fun v M1 => wp kc (d + 1) 94 104 [some (jR 29), some (jL v1), none, some (jI v3)] (v.toList ++ []) M1 Q)) : wp kc (d + 1) 94 96 [some (jR 29), some (jL v1), none, some (jI v3)] [] M Q :=
  (x_aldn c94_96 rfl (x_gfr c94_97 k_29_1 (x_ildn c94_100 rfl (wp_wk (l' := [some (jR 29), some (jL v1), none, some (jI v3)]) ⟨rfl, ⟨rfl, ⟨rfl, trivial⟩⟩⟩ (x_cv (As := [jI v3]) (st := []) c94_101 cl_3 kl65 rfl (Nat.le_of_ble_eq_true rfl) mx65 (Nat.le_refl _) H)))))
theorem s94_104 {kc : List va_E} {d : Nat} {v1 v3 : Int} {M : fx_M} {Q : Option fx_V → fx_M → Prop} (H : wp kc (d + 1) 94 38 [some (jR 29), some (jL v1), none, some (jI (v3 + 1))] [] M Q) : wp kc (d + 1) 94 104 [some (jR 29), some (jL v1), none, some (jI v3)] [] M Q :=
  (x_inc (l' := [some (jR 29), some (jL v1), none, some (jI (v3 + 1))]) c94_104 rfl rfl (x_goto c94_107 (wp_wk (l' := [some (jR 29), some (jL v1), none, some (jI (v3 + 1))]) ⟨rfl, ⟨rfl, ⟨rfl, trivial⟩⟩⟩ H)))
theorem s94 {kc : List va_E} {d : Nat} {M : fx_M} {Q : Option fx_V → fx_M → Prop} (H : wc kc d 81 [jR 11] M (fun v M1 => wp kc (d + 1) 94 7 [some (jR 29), none, none, none] (v.toList ++ []) M1 Q)) : wc kc (d + 1) 94 [jR 29] M Q :=
  wc_of (wp_wk (l' := [some (jR 29), none, none, none]) ⟨rfl, trivial⟩ (s94_0 H))

/- PuzzleHouse$Search.all(I)J -/
theorem c95_0 : fx_cj 95 0 = some (1, 1) := by decide +kernel
theorem c95_1 : fx_op 95 1 = some (.aload_n 0, 2, 1) := by decide +kernel
theorem c95_2 : fx_gf 95 2 = some (4, 0, 5) := by decide +kernel
theorem c95_5 : fx_gf 95 5 = some (3, 3, 8) := by decide +kernel
theorem c95_8 : fx_op 95 8 = some (.lshl, 9, 8) := by decide +kernel
theorem c95_9 : fx_cj 95 9 = some (1, 10) := by decide +kernel
theorem c95_10 : fx_op 95 10 = some (.lsub, 11, 10) := by decide +kernel
theorem c95_11 : fx_ci 95 11 = some (4, 12) := by decide +kernel
theorem c95_12 : fx_op 95 12 = some (.iload_n 1, 13, 12) := by decide +kernel
theorem c95_13 : fx_op 95 13 = some (.imul, 14, 13) := by decide +kernel
theorem c95_14 : fx_op 95 14 = some (.lshl, 15, 14) := by decide +kernel
theorem c95_15 : fx_op 95 15 = some (.lreturn, 16, 15) := by decide +kernel
theorem s95_0 {kc : List va_E} {d : Nat} {x1 : Int} {M : fx_M} {Q : Option fx_V → fx_M → Prop} (H : Q (some (jL (fx_lshl ((fx_lshl 1 (M 11 3)) - 1) (4 * x1)))) M) : wp kc (d + 1) 95 0 [some (jR 29), some (jI x1)] [] M Q :=
  (x_cj c95_0 (x_aldn c95_1 rfl (x_gfr c95_2 k_29_0 (x_gfi c95_5 k_11_3 (x_lshl c95_8 (x_cj c95_9 (x_lsub c95_10 (x_ci c95_11 (x_ildn c95_12 rfl (x_imul c95_13 (x_lshl c95_14 (x_lrt c95_15 r95 H))))))))))))
theorem s95 {kc : List va_E} {d : Nat} {x1 : Int} {M : fx_M} {Q : Option fx_V → fx_M → Prop} (H : Q (some (jL (fx_lshl ((fx_lshl 1 (M 11 3)) - 1) (4 * x1)))) M) : wc kc (d + 1) 95 [jR 29, jI x1] M Q :=
  wc_of (wp_wk (l' := [some (jR 29), some (jI x1)]) ⟨rfl, ⟨rfl, trivial⟩⟩ (s95_0 H))

/- PuzzleHouse$Search.least()Z -/
theorem c96_0 : fx_op 96 0 = some (.aload_n 0, 1, 0) := by decide +kernel
theorem c96_1 : fx_gf 96 1 = some (4, 0, 4) := by decide +kernel
theorem c96_4 : fx_ca 96 4 = some (81, 1, 2, 7) := by decide +kernel
theorem c96_7 : fx_op 96 7 = some (.lstore_n 1, 8, 7) := by decide +kernel
theorem c96_8 : fx_op 96 8 = some (.aload_n 0, 9, 8) := by decide +kernel
theorem c96_9 : fx_op 96 9 = some (.lload_n 1, 10, 9) := by decide +kernel
theorem c96_10 : fx_ci 96 10 = some (2, 11) := by decide +kernel
theorem c96_11 : fx_ca 96 11 = some (89, 3, 2, 14) := by decide +kernel
theorem c96_14 : fx_ci 96 14 = some (1, 15) := by decide +kernel
theorem c96_15 : fx_op 96 15 = some (.if_icmp .eq 14, 18, 29) := by decide +kernel
theorem c96_29 : fx_ci 96 29 = some (0, 30) := by decide +kernel
theorem c96_30 : fx_op 96 30 = some (.istore_n 3, 31, 30) := by decide +kernel
theorem c96_18 : fx_op 96 18 = some (.aload_n 0, 19, 18) := by decide +kernel
theorem c96_19 : fx_gf 96 19 = some (4, 1, 22) := by decide +kernel
theorem c96_22 : fx_cr 96 22 = some (1000075, 24) := by decide +kernel
theorem c96_24 : fx_ca 96 24 = some (64, 2, 2, 27) := by decide +kernel
theorem c96_31 : fx_op 96 31 = some (.iload_n 3, 32, 31) := by decide +kernel
theorem c96_32 : fx_op 96 32 = some (.aload_n 0, 33, 32) := by decide +kernel
theorem c96_33 : fx_gf 96 33 = some (4, 0, 36) := by decide +kernel
theorem c96_36 : fx_gf 96 36 = some (3, 2, 39) := by decide +kernel
theorem c96_39 : fx_op 96 39 = some (.if_icmp .ge 55, 42, 94) := by decide +kernel
theorem c96_42 : fx_op 96 42 = some (.aload_n 0, 43, 42) := by decide +kernel
theorem c96_43 : fx_gf 96 43 = some (4, 0, 46) := by decide +kernel
theorem c96_46 : fx_gf 96 46 = some (3, 10, 49) := by decide +kernel
theorem c96_49 : fx_op 96 49 = some (.iload_n 3, 50, 49) := by decide +kernel
theorem c96_50 : fx_op 96 50 = some (.iaload, 51, 50) := by decide +kernel
theorem c96_51 : fx_op 96 51 = some (.ifCond .lt 37, 54, 88) := by decide +kernel
theorem c96_88 : fx_op 96 88 = some (.iinc 3 1, 91, 88) := by decide +kernel
theorem c96_94 : fx_op 96 94 = some (.aload_n 0, 95, 94) := by decide +kernel
theorem c96_95 : fx_gf 96 95 = some (4, 1, 98) := by decide +kernel
theorem c96_98 : fx_cr 96 98 = some (1000077, 100) := by decide +kernel
theorem c96_54 : fx_op 96 54 = some (.aload_n 0, 55, 54) := by decide +kernel
theorem c96_55 : fx_op 96 55 = some (.lload_n 1, 56, 55) := by decide +kernel
theorem c96_56 : fx_op 96 56 = some (.aload_n 0, 57, 56) := by decide +kernel
theorem c96_57 : fx_op 96 57 = some (.iload_n 3, 58, 57) := by decide +kernel
theorem c96_100 : fx_ca 96 100 = some (64, 2, 2, 103) := by decide +kernel
theorem c96_91 : fx_op 96 91 = some (.goto (-60), 94, 31) := by decide +kernel
theorem c96_58 : fx_ca 96 58 = some (95, 2, 2, 61) := by decide +kernel
theorem c96_27 : fx_ci 96 27 = some (0, 28) := by decide +kernel
theorem c96_28 : fx_op 96 28 = some (.ireturn, 29, 28) := by decide +kernel
theorem c96_103 : fx_op 96 103 = some (.aload_n 0, 104, 103) := by decide +kernel
theorem c96_104 : fx_gf 96 104 = some (4, 1, 107) := by decide +kernel
theorem c96_107 : fx_op 96 107 = some (.aload_n 0, 108, 107) := by decide +kernel
theorem c96_108 : fx_gf 96 108 = some (4, 0, 111) := by decide +kernel
theorem c96_111 : fx_ca 96 111 = some (97, 1, 2, 114) := by decide +kernel
theorem c96_61 : fx_op 96 61 = some (.lor, 62, 61) := by decide +kernel
theorem c96_62 : fx_ci 96 62 = some (2, 63) := by decide +kernel
theorem c96_63 : fx_ca 96 63 = some (89, 3, 2, 66) := by decide +kernel
theorem c96_114 : fx_ca 96 114 = some (65, 2, 2, 117) := by decide +kernel
theorem c96_66 : fx_ci 96 66 = some (1, 67) := by decide +kernel
theorem c96_67 : fx_op 96 67 = some (.if_icmp .ne 21, 70, 88) := by decide +kernel
theorem c96_70 : fx_op 96 70 = some (.lload_n 1, 71, 70) := by decide +kernel
theorem c96_71 : fx_op 96 71 = some (.aload_n 0, 72, 71) := by decide +kernel
theorem c96_72 : fx_op 96 72 = some (.iload_n 3, 73, 72) := by decide +kernel
theorem c96_73 : fx_ca 96 73 = some (95, 2, 2, 76) := by decide +kernel
theorem c96_117 : fx_ci 96 117 = some (1, 118) := by decide +kernel
theorem c96_118 : fx_op 96 118 = some (.ireturn, 119, 118) := by decide +kernel
theorem c96_76 : fx_op 96 76 = some (.lor, 77, 76) := by decide +kernel
theorem c96_77 : fx_op 96 77 = some (.lstore_n 1, 78, 77) := by decide +kernel
theorem c96_78 : fx_op 96 78 = some (.aload_n 0, 79, 78) := by decide +kernel
theorem c96_79 : fx_gf 96 79 = some (4, 0, 82) := by decide +kernel
theorem c96_82 : fx_gf 96 82 = some (3, 10, 85) := by decide +kernel
theorem c96_85 : fx_op 96 85 = some (.iload_n 3, 86, 85) := by decide +kernel
theorem c96_86 : fx_ci 96 86 = some ((-1), 87) := by decide +kernel
theorem c96_87 : fx_op 96 87 = some (.iastore, 88, 87) := by decide +kernel
theorem s96_0 {kc : List va_E} {d : Nat} {M : fx_M} {Q : Option fx_V → fx_M → Prop} (H : wc kc d 81 [jR 11] M (fun v M1 => wp kc (d + 1) 96 7 [some (jR 29), none, none, none] (v.toList ++ []) M1 Q)) : wp kc (d + 1) 96 0 [some (jR 29), none, none, none] [] M Q :=
  (x_aldn c96_0 rfl (x_gfr c96_1 k_29_0 (wp_wk (l' := [some (jR 29), none, none, none]) ⟨rfl, trivial⟩ (x_cv (As := []) (st := []) c96_4 cl_11 kl81 rfl (Nat.le_of_ble_eq_true rfl) mx81 (Nat.le_refl _) H))))
theorem s96_7 {kc : List va_E} {d : Nat} {u0 : Int} {M : fx_M} {Q : Option fx_V → fx_M → Prop} (H : wc kc d 89 [jR 29, jL u0, jI 2] M (fun v M1 => wp kc (d + 1) 96 14 [some (jR 29), some (jL u0), none, none] (v.toList ++ []) M1 Q)) : wp kc (d + 1) 96 7 [some (jR 29), none, none, none] [jL u0] M Q :=
  (x_lstn (l' := [some (jR 29), some (jL u0), none, none]) c96_7 rfl (x_aldn c96_8 rfl (x_lldn c96_9 rfl (x_ci c96_10 (wp_wk (l' := [some (jR 29), some (jL u0), none, none]) ⟨rfl, ⟨rfl, trivial⟩⟩ (x_cv (As := [jL u0, jI 2]) (st := []) c96_11 cl_29 kl89 rfl (Nat.le_of_ble_eq_true rfl) mx89 (Nat.le_refl _) H))))))
theorem s96_14 {kc : List va_E} {d : Nat} {v1 u0 : Int} {M : fx_M} {Q : Option fx_V → fx_M → Prop} (H : ((fx_in32 u0)) ∧ (u0 = 1 → wp kc (d + 1) 96 31 [some (jR 29), some (jL v1), none, some (jI 0)] [] M Q) ∧ (u0 ≠ 1 → wc kc d 64 [jR 3, jR 1000075] M (fun v M1 => wp kc (d + 1) 96 27 [none, none, none, none] (v.toList ++ []) M1 Q))) : wp kc (d + 1) 96 14 [some (jR 29), some (jL v1), none, none] [jI u0] M Q :=
  (x_ci c96_14 (x_ceq c96_15 H.1 (by decide) (fun h1 => (x_ci c96_29 (x_istn (l' := [some (jR 29), some (jL v1), none, some (jI 0)]) c96_30 rfl (wp_wk (l' := [some (jR 29), some (jL v1), none, some (jI 0)]) ⟨rfl, ⟨rfl, ⟨rfl, trivial⟩⟩⟩ (H.2.1 h1))))) (fun h2 => (x_aldn c96_18 rfl (x_gfr c96_19 k_29_1 (x_cr c96_22 (wp_wk (l' := [none, none, none, none]) trivial (x_cv (As := [jR 1000075]) (st := []) c96_24 cl_3 kl64 rfl (Nat.le_of_ble_eq_true rfl) mx64 (Nat.le_refl _) (H.2.2 h2)))))))))
theorem s96_27 {kc : List va_E} {d : Nat} {M : fx_M} {Q : Option fx_V → fx_M → Prop} (H : Q (some (jI 0)) M) : wp kc (d + 1) 96 27 [none, none, none, none] [] M Q :=
  (x_ci c96_27 (x_zrt c96_28 r96 (by decide) H))
theorem s96_31 {kc : List va_E} {d : Nat} {v1 v3 : Int} {M : fx_M} {Q : Option fx_V → fx_M → Prop} (H : ((fx_in32 v3) ∧ (fx_in32 (M 11 2))) ∧ (M 11 2 ≤ v3 → wc kc d 64 [jR 3, jR 1000077] M (fun v M1 => wp kc (d + 1) 96 103 [some (jR 29), none, none, none] (v.toList ++ []) M1 Q)) ∧ (v3 < M 11 2 → (((0 : Int) ≤ v3 ∧ v3 < 9)) ∧ ((fx_in32 (M 17 v3))) ∧ (M 17 v3 < 0 → wp kc (d + 1) 96 31 [some (jR 29), some (jL v1), none, some (jI (v3 + 1))] [] M Q) ∧ (0 ≤ M 17 v3 → wc kc d 95 [jR 29, jI v3] M (fun v M1 => wp kc (d + 1) 96 61 [some (jR 29), some (jL v1), none, some (jI v3)] (v.toList ++ [jL v1, jR 29]) M1 Q)))) : wp kc (d + 1) 96 31 [some (jR 29), some (jL v1), none, some (jI v3)] [] M Q :=
  (x_ildn c96_31 rfl (x_aldn c96_32 rfl (x_gfr c96_33 k_29_0 (x_gfi c96_36 k_11_2 (x_cge c96_39 H.1.1 H.1.2 (fun h3 => (x_aldn c96_94 rfl (x_gfr c96_95 k_29_1 (x_cr c96_98 (wp_wk (l' := [some (jR 29), none, none, none]) ⟨rfl, trivial⟩ (x_cv (As := [jR 1000077]) (st := []) c96_100 cl_3 kl64 rfl (Nat.le_of_ble_eq_true rfl) mx64 (Nat.le_refl _) (H.2.1 h3))))))) (fun h4 => (x_aldn c96_42 rfl (x_gfr c96_43 k_29_0 (x_gfr c96_46 k_11_10 (x_ildn c96_49 rfl (x_iald c96_50 a_17 (H.2.2 h4).1 (by decide) (x_zlt c96_51 (H.2.2 h4).2.1 (fun h1 => (x_inc (l' := [some (jR 29), some (jL v1), none, some (jI (v3 + 1))]) c96_88 rfl rfl (x_goto c96_91 (wp_wk (l' := [some (jR 29), some (jL v1), none, some (jI (v3 + 1))]) ⟨rfl, ⟨rfl, ⟨rfl, trivial⟩⟩⟩ ((H.2.2 h4).2.2.1 h1))))) (fun h2 => (x_aldn c96_54 rfl (x_lldn c96_55 rfl (x_aldn c96_56 rfl (x_ildn c96_57 rfl (wp_wk (l' := [some (jR 29), some (jL v1), none, some (jI v3)]) ⟨rfl, ⟨rfl, ⟨rfl, trivial⟩⟩⟩ (x_cv (As := [jI v3]) (st := [jL v1, jR 29]) c96_58 cl_29 kl95 rfl (Nat.le_of_ble_eq_true rfl) mx95 (Nat.le_refl _) ((H.2.2 h4).2.2.2 h2))))))))))))))))))))
theorem s96_61 {kc : List va_E} {d : Nat} {v1 v3 u0 u1 : Int} {M : fx_M} {Q : Option fx_V → fx_M → Prop} (H : wc kc d 89 [jR 29, jL (fx_lor u1 u0), jI 2] M (fun v M1 => wp kc (d + 1) 96 66 [some (jR 29), some (jL v1), none, some (jI v3)] (v.toList ++ []) M1 Q)) : wp kc (d + 1) 96 61 [some (jR 29), some (jL v1), none, some (jI v3)] [jL u0, jL u1, jR 29] M Q :=
  (x_lor c96_61 (x_ci c96_62 (wp_wk (l' := [some (jR 29), some (jL v1), none, some (jI v3)]) ⟨rfl, ⟨rfl, ⟨rfl, trivial⟩⟩⟩ (x_cv (As := [jL (fx_lor u1 u0), jI 2]) (st := []) c96_63 cl_29 kl89 rfl (Nat.le_of_ble_eq_true rfl) mx89 (Nat.le_refl _) H))))
theorem s96_66 {kc : List va_E} {d : Nat} {v1 v3 u0 : Int} {M : fx_M} {Q : Option fx_V → fx_M → Prop} (H : ((fx_in32 u0)) ∧ (u0 ≠ 1 → wp kc (d + 1) 96 31 [some (jR 29), some (jL v1), none, some (jI (v3 + 1))] [] M Q) ∧ (u0 = 1 → wc kc d 95 [jR 29, jI v3] M (fun v M1 => wp kc (d + 1) 96 76 [some (jR 29), none, none, some (jI v3)] (v.toList ++ [jL v1]) M1 Q))) : wp kc (d + 1) 96 66 [some (jR 29), some (jL v1), none, some (jI v3)] [jI u0] M Q :=
  (x_ci c96_66 (x_cne c96_67 H.1 (by decide) (fun h1 => (x_inc (l' := [some (jR 29), some (jL v1), none, some (jI (v3 + 1))]) c96_88 rfl rfl (x_goto c96_91 (wp_wk (l' := [some (jR 29), some (jL v1), none, some (jI (v3 + 1))]) ⟨rfl, ⟨rfl, ⟨rfl, trivial⟩⟩⟩ (H.2.1 h1))))) (fun h2 => (x_lldn c96_70 rfl (x_aldn c96_71 rfl (x_ildn c96_72 rfl (wp_wk (l' := [some (jR 29), none, none, some (jI v3)]) ⟨rfl, ⟨rfl, trivial⟩⟩ (x_cv (As := [jI v3]) (st := [jL v1]) c96_73 cl_29 kl95 rfl (Nat.le_of_ble_eq_true rfl) mx95 (Nat.le_refl _) (H.2.2 h2)))))))))
theorem s96_76 {kc : List va_E} {d : Nat} {v3 u0 u1 : Int} {M : fx_M} {Q : Option fx_V → fx_M → Prop} (H : (((0 : Int) ≤ v3 ∧ v3 < 9)) ∧ wp kc (d + 1) 96 31 [some (jR 29), some (jL (fx_lor u1 u0)), none, some (jI (v3 + 1))] [] (fx_up M 17 v3 (-1)) Q) : wp kc (d + 1) 96 76 [some (jR 29), none, none, some (jI v3)] [jL u0, jL u1] M Q :=
  (x_lor c96_76 (x_lstn (l' := [some (jR 29), some (jL (fx_lor u1 u0)), none, some (jI v3)]) c96_77 rfl (x_aldn c96_78 rfl (x_gfr c96_79 k_29_0 (x_gfr c96_82 k_11_10 (x_ildn c96_85 rfl (x_ci c96_86 (x_iast c96_87 a_17 H.1 (by decide) (x_inc (l' := [some (jR 29), some (jL (fx_lor u1 u0)), none, some (jI (v3 + 1))]) c96_88 rfl rfl (x_goto c96_91 (wp_wk (l' := [some (jR 29), some (jL (fx_lor u1 u0)), none, some (jI (v3 + 1))]) ⟨rfl, ⟨rfl, ⟨rfl, trivial⟩⟩⟩ H.2)))))))))))
theorem s96_103 {kc : List va_E} {d : Nat} {M : fx_M} {Q : Option fx_V → fx_M → Prop} (H : wc kc d 97 [jR 11] M (fun v M1 => wp kc (d + 1) 96 114 [none, none, none, none] (v.toList ++ [jR 3]) M1 Q)) : wp kc (d + 1) 96 103 [some (jR 29), none, none, none] [] M Q :=
  (x_aldn c96_103 rfl (x_gfr c96_104 k_29_1 (x_aldn c96_107 rfl (x_gfr c96_108 k_29_0 (wp_wk (l' := [none, none, none, none]) trivial (x_cv (As := []) (st := [jR 3]) c96_111 cl_11 kl97 rfl (Nat.le_of_ble_eq_true rfl) mx97 (Nat.le_refl _) H))))))
theorem s96_114 {kc : List va_E} {d : Nat} {u0 : Int} {M : fx_M} {Q : Option fx_V → fx_M → Prop} (H : wc kc d 65 [jR 3, jI u0] M (fun v M1 => wp kc (d + 1) 96 117 [none, none, none, none] (v.toList ++ []) M1 Q)) : wp kc (d + 1) 96 114 [none, none, none, none] [jI u0, jR 3] M Q :=
  (wp_wk (l' := [none, none, none, none]) trivial (x_cv (As := [jI u0]) (st := []) c96_114 cl_3 kl65 rfl (Nat.le_of_ble_eq_true rfl) mx65 (Nat.le_refl _) H))
theorem s96_117 {kc : List va_E} {d : Nat} {M : fx_M} {Q : Option fx_V → fx_M → Prop} (H : Q (some (jI 1)) M) : wp kc (d + 1) 96 117 [none, none, none, none] [] M Q :=
  (x_ci c96_117 (x_zrt c96_118 r96 (by decide) H))
theorem s96 {kc : List va_E} {d : Nat} {M : fx_M} {Q : Option fx_V → fx_M → Prop} (H : wc kc d 81 [jR 11] M (fun v M1 => wp kc (d + 1) 96 7 [some (jR 29), none, none, none] (v.toList ++ []) M1 Q)) : wc kc (d + 1) 96 [jR 29] M Q :=
  wc_of (wp_wk (l' := [some (jR 29), none, none, none]) ⟨rfl, trivial⟩ (s96_0 H))

/- PuzzleHouse$Search.make(II)Z -/
theorem c98_0 : fx_op 98 0 = some (.iload_n 2, 1, 0) := by decide +kernel
theorem c98_1 : fx_ci 98 1 = some (1, 2) := by decide +kernel
theorem c98_2 : fx_op 98 2 = some (.if_icmp .le 14, 5, 16) := by decide +kernel
theorem c98_16 : fx_op 98 16 = some (.aload_n 0, 17, 16) := by decide +kernel
theorem c98_17 : fx_gf 98 17 = some (4, 0, 20) := by decide +kernel
theorem c98_5 : fx_op 98 5 = some (.aload_n 0, 6, 5) := by decide +kernel
theorem c98_6 : fx_gf 98 6 = some (4, 1, 9) := by decide +kernel
theorem c98_9 : fx_cr 98 9 = some (1000079, 11) := by decide +kernel
theorem c98_20 : fx_ca 98 20 = some (82, 1, 2, 23) := by decide +kernel
theorem c98_11 : fx_ca 98 11 = some (64, 2, 2, 14) := by decide +kernel
theorem c98_23 : fx_op 98 23 = some (.lstore_n 3, 24, 23) := by decide +kernel
theorem c98_24 : fx_op 98 24 = some (.aload_n 0, 25, 24) := by decide +kernel
theorem c98_25 : fx_op 98 25 = some (.lload_n 3, 26, 25) := by decide +kernel
theorem c98_26 : fx_ci 98 26 = some (1048576, 28) := by decide +kernel
theorem c98_28 : fx_ca 98 28 = some (89, 3, 2, 31) := by decide +kernel
theorem c98_14 : fx_ci 98 14 = some (0, 15) := by decide +kernel
theorem c98_15 : fx_op 98 15 = some (.ireturn, 16, 15) := by decide +kernel
theorem c98_31 : fx_op 98 31 = some (.istore 5, 33, 31) := by decide +kernel
theorem c98_33 : fx_op 98 33 = some (.iload 5, 35, 33) := by decide +kernel
theorem c98_35 : fx_op 98 35 = some (.ifCond .ne 14, 38, 49) := by decide +kernel
theorem c98_49 : fx_op 98 49 = some (.aload_n 0, 50, 49) := by decide +kernel
theorem c98_50 : fx_op 98 50 = some (.iload_n 1, 51, 50) := by decide +kernel
theorem c98_52 : fx_pf 98 52 = some (4, 4, 1, 55) := by decide +kernel
theorem c98_55 : fx_op 98 55 = some (.aload_n 0, 56, 55) := by decide +kernel
theorem c98_56 : fx_op 98 56 = some (.lload_n 3, 57, 56) := by decide +kernel
theorem c98_57 : fx_op 98 57 = some (.aload_n 0, 58, 57) := by decide +kernel
theorem c98_58 : fx_op 98 58 = some (.iload 5, 60, 58) := by decide +kernel
theorem c98_38 : fx_op 98 38 = some (.aload_n 0, 39, 38) := by decide +kernel
theorem c98_39 : fx_gf 98 39 = some (4, 1, 42) := by decide +kernel
theorem c98_42 : fx_cr 98 42 = some (1000071, 44) := by decide +kernel
theorem c98_51 : fx_op 98 51 = some (.i2l, 52, 51) := by decide +kernel
theorem c98_60 : fx_ca 98 60 = some (99, 2, 2, 63) := by decide +kernel
theorem c98_44 : fx_ca 98 44 = some (64, 2, 2, 47) := by decide +kernel
theorem c98_63 : fx_ca 98 63 = some (93, 3, 2, 66) := by decide +kernel
theorem c98_47 : fx_ci 98 47 = some (0, 48) := by decide +kernel
theorem c98_48 : fx_op 98 48 = some (.ireturn, 49, 48) := by decide +kernel
theorem c98_66 : fx_op 98 66 = some (.lstore_n 3, 67, 66) := by decide +kernel
theorem c98_67 : fx_ci 98 67 = some (0, 68) := by decide +kernel
theorem c98_68 : fx_op 98 68 = some (.istore 6, 70, 68) := by decide +kernel
theorem c98_70 : fx_op 98 70 = some (.iload 6, 72, 70) := by decide +kernel
theorem c98_72 : fx_op 98 72 = some (.aload_n 0, 73, 72) := by decide +kernel
theorem c98_73 : fx_gf 98 73 = some (4, 0, 76) := by decide +kernel
theorem c98_76 : fx_gf 98 76 = some (3, 2, 79) := by decide +kernel
theorem c98_79 : fx_op 98 79 = some (.if_icmp .ge 37, 82, 116) := by decide +kernel
theorem c98_82 : fx_op 98 82 = some (.aload_n 0, 83, 82) := by decide +kernel
theorem c98_83 : fx_gf 98 83 = some (4, 0, 86) := by decide +kernel
theorem c98_86 : fx_gf 98 86 = some (3, 10, 89) := by decide +kernel
theorem c98_89 : fx_op 98 89 = some (.iload 6, 91, 89) := by decide +kernel
theorem c98_91 : fx_op 98 91 = some (.lload_n 3, 92, 91) := by decide +kernel
theorem c98_92 : fx_op 98 92 = some (.iload 6, 94, 92) := by decide +kernel
theorem c98_116 : fx_op 98 116 = some (.aload_n 0, 117, 116) := by decide +kernel
theorem c98_117 : fx_ca 98 117 = some (100, 1, 2, 120) := by decide +kernel
theorem c98_94 : fx_ca 98 94 = some (86, 2, 1, 97) := by decide +kernel
theorem c98_120 : fx_ci 98 120 = some (0, 121) := by decide +kernel
theorem c98_121 : fx_op 98 121 = some (.istore 6, 123, 121) := by decide +kernel
theorem c98_97 : fx_ca 98 97 = some (87, 1, 1, 100) := by decide +kernel
theorem c98_123 : fx_op 98 123 = some (.iload 6, 125, 123) := by decide +kernel
theorem c98_125 : fx_op 98 125 = some (.aload_n 0, 126, 125) := by decide +kernel
theorem c98_126 : fx_gf 98 126 = some (4, 0, 129) := by decide +kernel
theorem c98_129 : fx_gf 98 129 = some (3, 2, 132) := by decide +kernel
theorem c98_132 : fx_op 98 132 = some (.if_icmp .ge 117, 135, 249) := by decide +kernel
theorem c98_135 : fx_op 98 135 = some (.aload_n 0, 136, 135) := by decide +kernel
theorem c98_136 : fx_gf 98 136 = some (4, 5, 139) := by decide +kernel
theorem c98_139 : fx_op 98 139 = some (.iload 6, 141, 139) := by decide +kernel
theorem c98_141 : fx_op 98 141 = some (.iaload, 142, 141) := by decide +kernel
theorem c98_142 : fx_op 98 142 = some (.istore 7, 144, 142) := by decide +kernel
theorem c98_144 : fx_op 98 144 = some (.iload_n 2, 145, 144) := by decide +kernel
theorem c98_145 : fx_ci 98 145 = some (1, 146) := by decide +kernel
theorem c98_146 : fx_op 98 146 = some (.if_icmp .ne 18, 149, 164) := by decide +kernel
theorem c98_164 : fx_op 98 164 = some (.iload 7, 166, 164) := by decide +kernel
theorem c98_166 : fx_op 98 166 = some (.istore 8, 168, 166) := by decide +kernel
theorem c98_168 : fx_op 98 168 = some (.aload_n 0, 169, 168) := by decide +kernel
theorem c98_169 : fx_gf 98 169 = some (4, 0, 172) := by decide +kernel
theorem c98_172 : fx_gf 98 172 = some (3, 10, 175) := by decide +kernel
theorem c98_175 : fx_op 98 175 = some (.iload 7, 177, 175) := by decide +kernel
theorem c98_177 : fx_op 98 177 = some (.iaload, 178, 177) := by decide +kernel
theorem c98_178 : fx_op 98 178 = some (.ifCond .lt 65, 181, 243) := by decide +kernel
theorem c98_243 : fx_op 98 243 = some (.iinc 6 1, 246, 243) := by decide +kernel
theorem c98_249 : fx_op 98 249 = some (.aload_n 0, 250, 249) := by decide +kernel
theorem c98_250 : fx_gf 98 250 = some (4, 1, 253) := by decide +kernel
theorem c98_253 : fx_cr 98 253 = some (1000081, 255) := by decide +kernel
theorem c98_149 : fx_op 98 149 = some (.aload_n 0, 150, 149) := by decide +kernel
theorem c98_150 : fx_gf 98 150 = some (4, 0, 153) := by decide +kernel
theorem c98_153 : fx_gf 98 153 = some (3, 2, 156) := by decide +kernel
theorem c98_156 : fx_ci 98 156 = some (1, 157) := by decide +kernel
theorem c98_157 : fx_op 98 157 = some (.isub, 158, 157) := by decide +kernel
theorem c98_158 : fx_op 98 158 = some (.iload 7, 160, 158) := by decide +kernel
theorem c98_160 : fx_op 98 160 = some (.isub, 161, 160) := by decide +kernel
theorem c98_161 : fx_op 98 161 = some (.goto 5, 164, 166) := by decide +kernel
theorem c98_181 : fx_op 98 181 = some (.aload_n 0, 182, 181) := by decide +kernel
theorem c98_182 : fx_op 98 182 = some (.lload_n 3, 183, 182) := by decide +kernel
theorem c98_183 : fx_op 98 183 = some (.aload_n 0, 184, 183) := by decide +kernel
theorem c98_184 : fx_op 98 184 = some (.iload 7, 186, 184) := by decide +kernel
theorem c98_255 : fx_ca 98 255 = some (64, 2, 2, 258) := by decide +kernel
theorem c98_246 : fx_op 98 246 = some (.goto (-123), 249, 123) := by decide +kernel
theorem c98_186 : fx_ca 98 186 = some (95, 2, 2, 189) := by decide +kernel
theorem c98_101 : fx_op 98 101 = some (.aload_n 0, 102, 101) := by decide +kernel
theorem c98_102 : fx_gf 98 102 = some (4, 5, 105) := by decide +kernel
theorem c98_105 : fx_op 98 105 = some (.iload 6, 107, 105) := by decide +kernel
theorem c98_107 : fx_op 98 107 = some (.iload 6, 109, 107) := by decide +kernel
theorem c98_110 : fx_op 98 110 = some (.iinc 6 1, 113, 110) := by decide +kernel
theorem c98_100 : fx_op 98 100 = some (.iastore, 101, 100) := by decide +kernel
theorem c98_109 : fx_op 98 109 = some (.iastore, 110, 109) := by decide +kernel
theorem c98_113 : fx_op 98 113 = some (.goto (-43), 116, 70) := by decide +kernel
theorem c98_258 : fx_op 98 258 = some (.aload_n 0, 259, 258) := by decide +kernel
theorem c98_259 : fx_gf 98 259 = some (4, 1, 262) := by decide +kernel
theorem c98_262 : fx_op 98 262 = some (.aload_n 0, 263, 262) := by decide +kernel
theorem c98_263 : fx_gf 98 263 = some (4, 0, 266) := by decide +kernel
theorem c98_266 : fx_ca 98 266 = some (97, 1, 2, 269) := by decide +kernel
theorem c98_189 : fx_op 98 189 = some (.lor, 190, 189) := by decide +kernel
theorem c98_190 : fx_op 98 190 = some (.aload_n 0, 191, 190) := by decide +kernel
theorem c98_191 : fx_op 98 191 = some (.iload 8, 193, 191) := by decide +kernel
theorem c98_193 : fx_ca 98 193 = some (95, 2, 2, 196) := by decide +kernel
theorem c98_269 : fx_ca 98 269 = some (65, 2, 2, 272) := by decide +kernel
theorem c98_196 : fx_op 98 196 = some (.lor, 197, 196) := by decide +kernel
theorem c98_197 : fx_ci 98 197 = some (2, 198) := by decide +kernel
theorem c98_198 : fx_ca 98 198 = some (89, 3, 2, 201) := by decide +kernel
theorem c98_272 : fx_ci 98 272 = some (1, 273) := by decide +kernel
theorem c98_273 : fx_op 98 273 = some (.ireturn, 274, 273) := by decide +kernel
theorem c98_201 : fx_ci 98 201 = some (1, 202) := by decide +kernel
theorem c98_202 : fx_op 98 202 = some (.if_icmp .ne 41, 205, 243) := by decide +kernel
theorem c98_205 : fx_op 98 205 = some (.lload_n 3, 206, 205) := by decide +kernel
theorem c98_206 : fx_op 98 206 = some (.aload_n 0, 207, 206) := by decide +kernel
theorem c98_207 : fx_op 98 207 = some (.iload 7, 209, 207) := by decide +kernel
theorem c98_209 : fx_ca 98 209 = some (95, 2, 2, 212) := by decide +kernel
theorem c98_212 : fx_op 98 212 = some (.aload_n 0, 213, 212) := by decide +kernel
theorem c98_213 : fx_op 98 213 = some (.iload 8, 215, 213) := by decide +kernel
theorem c98_215 : fx_ca 98 215 = some (95, 2, 2, 218) := by decide +kernel
theorem c98_218 : fx_op 98 218 = some (.lor, 219, 218) := by decide +kernel
theorem c98_219 : fx_op 98 219 = some (.lor, 220, 219) := by decide +kernel
theorem c98_220 : fx_op 98 220 = some (.lstore_n 3, 221, 220) := by decide +kernel
theorem c98_221 : fx_op 98 221 = some (.aload_n 0, 222, 221) := by decide +kernel
theorem c98_222 : fx_gf 98 222 = some (4, 0, 225) := by decide +kernel
theorem c98_225 : fx_gf 98 225 = some (3, 10, 228) := by decide +kernel
theorem c98_228 : fx_op 98 228 = some (.iload 7, 230, 228) := by decide +kernel
theorem c98_230 : fx_ci 98 230 = some ((-1), 231) := by decide +kernel
theorem c98_232 : fx_op 98 232 = some (.aload_n 0, 233, 232) := by decide +kernel
theorem c98_233 : fx_gf 98 233 = some (4, 0, 236) := by decide +kernel
theorem c98_236 : fx_gf 98 236 = some (3, 10, 239) := by decide +kernel
theorem c98_239 : fx_op 98 239 = some (.iload 8, 241, 239) := by decide +kernel
theorem c98_241 : fx_ci 98 241 = some ((-1), 242) := by decide +kernel
theorem c98_231 : fx_op 98 231 = some (.iastore, 232, 231) := by decide +kernel
theorem c98_242 : fx_op 98 242 = some (.iastore, 243, 242) := by decide +kernel
theorem s98_0 {kc : List va_E} {d : Nat} {x1 x2 : Int} {M : fx_M} {Q : Option fx_V → fx_M → Prop} (H : ((fx_in32 x2)) ∧ (x2 ≤ 1 → wc kc d 82 [jR 11] M (fun v M1 => wp kc (d + 1) 98 23 [some (jR 29), some (jI x1), some (jI x2), none, none, none, none, none, none] (v.toList ++ []) M1 Q)) ∧ (1 < x2 → wc kc d 64 [jR 3, jR 1000079] M (fun v M1 => wp kc (d + 1) 98 14 [none, none, none, none, none, none, none, none, none] (v.toList ++ []) M1 Q))) : wp kc (d + 1) 98 0 [some (jR 29), some (jI x1), some (jI x2), none, none, none, none, none, none] [] M Q :=
  (x_ildn c98_0 rfl (x_ci c98_1 (x_cle c98_2 H.1 (by decide) (fun h1 => (x_aldn c98_16 rfl (x_gfr c98_17 k_29_0 (wp_wk (l' := [some (jR 29), some (jI x1), some (jI x2), none, none, none, none, none, none]) ⟨rfl, ⟨rfl, ⟨rfl, trivial⟩⟩⟩ (x_cv (As := []) (st := []) c98_20 cl_11 kl82 rfl (Nat.le_of_ble_eq_true rfl) mx82 (Nat.le_refl _) (H.2.1 h1)))))) (fun h2 => (x_aldn c98_5 rfl (x_gfr c98_6 k_29_1 (x_cr c98_9 (wp_wk (l' := [none, none, none, none, none, none, none, none, none]) trivial (x_cv (As := [jR 1000079]) (st := []) c98_11 cl_3 kl64 rfl (Nat.le_of_ble_eq_true rfl) mx64 (Nat.le_refl _) (H.2.2 h2))))))))))
theorem s98_14 {kc : List va_E} {d : Nat} {M : fx_M} {Q : Option fx_V → fx_M → Prop} (H : Q (some (jI 0)) M) : wp kc (d + 1) 98 14 [none, none, none, none, none, none, none, none, none] [] M Q :=
  (x_ci c98_14 (x_zrt c98_15 r98 (by decide) H))
theorem s98_23 {kc : List va_E} {d : Nat} {v1 v2 u0 : Int} {M : fx_M} {Q : Option fx_V → fx_M → Prop} (H : wc kc d 89 [jR 29, jL u0, jI 1048576] M (fun v M1 => wp kc (d + 1) 98 31 [some (jR 29), some (jI v1), some (jI v2), some (jL u0), none, none, none, none, none] (v.toList ++ []) M1 Q)) : wp kc (d + 1) 98 23 [some (jR 29), some (jI v1), some (jI v2), none, none, none, none, none, none] [jL u0] M Q :=
  (x_lstn (l' := [some (jR 29), some (jI v1), some (jI v2), some (jL u0), none, none, none, none, none]) c98_23 rfl (x_aldn c98_24 rfl (x_lldn c98_25 rfl (x_ci c98_26 (wp_wk (l' := [some (jR 29), some (jI v1), some (jI v2), some (jL u0), none, none, none, none, none]) ⟨rfl, ⟨rfl, ⟨rfl, ⟨rfl, trivial⟩⟩⟩⟩ (x_cv (As := [jL u0, jI 1048576]) (st := []) c98_28 cl_29 kl89 rfl (Nat.le_of_ble_eq_true rfl) mx89 (Nat.le_refl _) H))))))
theorem s98_31 {kc : List va_E} {d : Nat} {v1 v2 v3 u0 : Int} {M : fx_M} {Q : Option fx_V → fx_M → Prop} (H : ((fx_in32 u0)) ∧ (u0 ≠ 0 → ((fx_in32 v1)) ∧ wc kc d 99 [jR 29, jI u0] (fx_up M 29 4 v1) (fun v M1 => wp kc (d + 1) 98 63 [some (jR 29), none, some (jI v2), none, none, none, none, none, none] (v.toList ++ [jL v3, jR 29]) M1 Q)) ∧ (u0 = 0 → wc kc d 64 [jR 3, jR 1000071] M (fun v M1 => wp kc (d + 1) 98 47 [none, none, none, none, none, none, none, none, none] (v.toList ++ []) M1 Q))) : wp kc (d + 1) 98 31 [some (jR 29), some (jI v1), some (jI v2), some (jL v3), none, none, none, none, none] [jI u0] M Q :=
  (x_ist (l' := [some (jR 29), some (jI v1), some (jI v2), some (jL v3), none, some (jI u0), none, none, none]) c98_31 rfl (x_ild c98_33 rfl (x_zne c98_35 H.1 (fun h1 => (x_aldn c98_49 rfl (x_ildn c98_50 rfl (x_i2l c98_51 (H.2.1 h1).1 (x_pfl c98_52 k_29_4 (x_aldn c98_55 rfl (x_lldn c98_56 rfl (x_aldn c98_57 rfl (x_ild c98_58 rfl (wp_wk (l' := [some (jR 29), none, some (jI v2), none, none, none, none, none, none]) ⟨rfl, ⟨rfl, trivial⟩⟩ (x_cv (As := [jI u0]) (st := [jL v3, jR 29]) c98_60 cl_29 kl99 rfl (Nat.le_of_ble_eq_true rfl) mx99 (Nat.le_refl _) (H.2.1 h1).2))))))))))) (fun h2 => (x_aldn c98_38 rfl (x_gfr c98_39 k_29_1 (x_cr c98_42 (wp_wk (l' := [none, none, none, none, none, none, none, none, none]) trivial (x_cv (As := [jR 1000071]) (st := []) c98_44 cl_3 kl64 rfl (Nat.le_of_ble_eq_true rfl) mx64 (Nat.le_refl _) (H.2.2 h2))))))))))
theorem s98_47 {kc : List va_E} {d : Nat} {M : fx_M} {Q : Option fx_V → fx_M → Prop} (H : Q (some (jI 0)) M) : wp kc (d + 1) 98 47 [none, none, none, none, none, none, none, none, none] [] M Q :=
  (x_ci c98_47 (x_zrt c98_48 r98 (by decide) H))
theorem s98_63 {kc : List va_E} {d : Nat} {v2 u0 u1 : Int} {M : fx_M} {Q : Option fx_V → fx_M → Prop} (H : wc kc d 93 [jR 29, jL u1, jI u0] M (fun v M1 => wp kc (d + 1) 98 66 [some (jR 29), none, some (jI v2), none, none, none, none, none, none] (v.toList ++ []) M1 Q)) : wp kc (d + 1) 98 63 [some (jR 29), none, some (jI v2), none, none, none, none, none, none] [jI u0, jL u1, jR 29] M Q :=
  (wp_wk (l' := [some (jR 29), none, some (jI v2), none, none, none, none, none, none]) ⟨rfl, ⟨rfl, trivial⟩⟩ (x_cv (As := [jL u1, jI u0]) (st := []) c98_63 cl_29 kl93 rfl (Nat.le_of_ble_eq_true rfl) mx93 (Nat.le_refl _) H))
theorem s98_66 {kc : List va_E} {d : Nat} {v2 u0 : Int} {M : fx_M} {Q : Option fx_V → fx_M → Prop} (H : wp kc (d + 1) 98 70 [some (jR 29), none, some (jI v2), some (jL u0), none, none, some (jI 0), none, none] [] M Q) : wp kc (d + 1) 98 66 [some (jR 29), none, some (jI v2), none, none, none, none, none, none] [jL u0] M Q :=
  (x_lstn (l' := [some (jR 29), none, some (jI v2), some (jL u0), none, none, none, none, none]) c98_66 rfl (x_ci c98_67 (x_ist (l' := [some (jR 29), none, some (jI v2), some (jL u0), none, none, some (jI 0), none, none]) c98_68 rfl (wp_wk (l' := [some (jR 29), none, some (jI v2), some (jL u0), none, none, some (jI 0), none, none]) ⟨rfl, ⟨rfl, ⟨rfl, ⟨rfl, trivial⟩⟩⟩⟩ H))))
theorem s98_70 {kc : List va_E} {d : Nat} {v2 v3 v6 : Int} {M : fx_M} {Q : Option fx_V → fx_M → Prop} (H : ((fx_in32 v6) ∧ (fx_in32 (M 11 2))) ∧ (M 11 2 ≤ v6 → wc kc d 100 [jR 29] M (fun v M1 => wp kc (d + 1) 98 120 [some (jR 29), none, some (jI v2), some (jL v3), none, none, none, none, none] (v.toList ++ []) M1 Q)) ∧ (v6 < M 11 2 → wc kc d 86 [jL v3, jI v6] M (fun v M1 => wp kc (d + 1) 98 97 [some (jR 29), none, some (jI v2), some (jL v3), none, none, some (jI v6), none, none] (v.toList ++ [jI v6, jR 17]) M1 Q))) : wp kc (d + 1) 98 70 [some (jR 29), none, some (jI v2), some (jL v3), none, none, some (jI v6), none, none] [] M Q :=
  (x_ild c98_70 rfl (x_aldn c98_72 rfl (x_gfr c98_73 k_29_0 (x_gfi c98_76 k_11_2 (x_cge c98_79 H.1.1 H.1.2 (fun h1 => (x_aldn c98_116 rfl (wp_wk (l' := [some (jR 29), none, some (jI v2), some (jL v3), none, none, none, none, none]) ⟨rfl, ⟨rfl, ⟨rfl, trivial⟩⟩⟩ (x_cv (As := []) (st := []) c98_117 cl_29 kl100 rfl (Nat.le_of_ble_eq_true rfl) mx100 (Nat.le_refl _) (H.2.1 h1))))) (fun h2 => (x_aldn c98_82 rfl (x_gfr c98_83 k_29_0 (x_gfr c98_86 k_11_10 (x_ild c98_89 rfl (x_lldn c98_91 rfl (x_ild c98_92 rfl (wp_wk (l' := [some (jR 29), none, some (jI v2), some (jL v3), none, none, some (jI v6), none, none]) ⟨rfl, ⟨rfl, ⟨rfl, ⟨rfl, trivial⟩⟩⟩⟩ (x_cs (As := [jL v3, jI v6]) (st := [jI v6, jR 17]) c98_94 (by decide) rfl (Nat.le_of_ble_eq_true rfl) mx86 (Nat.le_refl _) (H.2.2 h2)))))))))))))))
theorem s98_97 {kc : List va_E} {d : Nat} {v2 v3 v6 u0 u1 : Int} {M : fx_M} {Q : Option fx_V → fx_M → Prop} (H : wc kc d 87 [jI u0] M (fun v M1 => wp kc (d + 1) 98 100 [some (jR 29), none, some (jI v2), some (jL v3), none, none, some (jI v6), none, none] (v.toList ++ [jI u1, jR 17]) M1 Q)) : wp kc (d + 1) 98 97 [some (jR 29), none, some (jI v2), some (jL v3), none, none, some (jI v6), none, none] [jI u0, jI u1, jR 17] M Q :=
  (wp_wk (l' := [some (jR 29), none, some (jI v2), some (jL v3), none, none, some (jI v6), none, none]) ⟨rfl, ⟨rfl, ⟨rfl, ⟨rfl, trivial⟩⟩⟩⟩ (x_cs (As := [jI u0]) (st := [jI u1, jR 17]) c98_97 (by decide) rfl (Nat.le_of_ble_eq_true rfl) mx87 (Nat.le_refl _) H))
theorem s98_100 {kc : List va_E} {d : Nat} {v2 v3 v6 u0 u1 : Int} {M : fx_M} {Q : Option fx_V → fx_M → Prop} (H : (((0 : Int) ≤ u1 ∧ u1 < 9)) ∧ (((0 : Int) ≤ v6 ∧ v6 < 9)) ∧ wp kc (d + 1) 98 70 [some (jR 29), none, some (jI v2), some (jL v3), none, none, some (jI (v6 + 1)), none, none] [] (fx_up (fx_up M 17 u1 u0) 30 v6 v6) Q) : wp kc (d + 1) 98 100 [some (jR 29), none, some (jI v2), some (jL v3), none, none, some (jI v6), none, none] [jI u0, jI u1, jR 17] M Q :=
  (x_iast c98_100 a_17 H.1 (by decide) (x_aldn c98_101 rfl (x_gfr c98_102 k_29_5 (x_ild c98_105 rfl (x_ild c98_107 rfl (x_iast c98_109 a_30 H.2.1 (by decide) (x_inc (l' := [some (jR 29), none, some (jI v2), some (jL v3), none, none, some (jI (v6 + 1)), none, none]) c98_110 rfl rfl (x_goto c98_113 (wp_wk (l' := [some (jR 29), none, some (jI v2), some (jL v3), none, none, some (jI (v6 + 1)), none, none]) ⟨rfl, ⟨rfl, ⟨rfl, ⟨rfl, trivial⟩⟩⟩⟩ H.2.2)))))))))
theorem s98_120 {kc : List va_E} {d : Nat} {v2 v3 : Int} {M : fx_M} {Q : Option fx_V → fx_M → Prop} (H : wp kc (d + 1) 98 123 [some (jR 29), none, some (jI v2), some (jL v3), none, none, some (jI 0), none, none] [] M Q) : wp kc (d + 1) 98 120 [some (jR 29), none, some (jI v2), some (jL v3), none, none, none, none, none] [] M Q :=
  (x_ci c98_120 (x_ist (l' := [some (jR 29), none, some (jI v2), some (jL v3), none, none, some (jI 0), none, none]) c98_121 rfl (wp_wk (l' := [some (jR 29), none, some (jI v2), some (jL v3), none, none, some (jI 0), none, none]) ⟨rfl, ⟨rfl, ⟨rfl, ⟨rfl, trivial⟩⟩⟩⟩ H)))
theorem s98_123 {kc : List va_E} {d : Nat} {v2 v3 v6 : Int} {M : fx_M} {Q : Option fx_V → fx_M → Prop} (H : ((fx_in32 v6) ∧ (fx_in32 (M 11 2))) ∧ (M 11 2 ≤ v6 → wc kc d 64 [jR 3, jR 1000081] M (fun v M1 => wp kc (d + 1) 98 258 [some (jR 29), none, none, none, none, none, none, none, none] (v.toList ++ []) M1 Q)) ∧ (v6 < M 11 2 → (((0 : Int) ≤ v6 ∧ v6 < 9)) ∧ ((fx_in32 v2)) ∧ (((0 : Int) ≤ M 30 v6 ∧ M 30 v6 < 9)) ∧ ((fx_in32 (M 17 (M 30 v6)))) ∧ (M 17 (M 30 v6) < 0 → wp kc (d + 1) 98 123 [some (jR 29), none, some (jI v2), some (jL v3), none, none, some (jI (v6 + 1)), none, none] [] M Q) ∧ (0 ≤ M 17 (M 30 v6) → wc kc d 95 [jR 29, jI (M 30 v6)] M (fun v M1 => wp kc (d + 1) 98 189 [some (jR 29), none, some (jI v2), some (jL v3), none, none, some (jI v6), some (jI (M 30 v6)), some (jI (if v2 = 1 then (((M 11 2) - 1) - (M 30 v6) : Int) else M 30 v6))] (v.toList ++ [jL v3, jR 29]) M1 Q)))) : wp kc (d + 1) 98 123 [some (jR 29), none, some (jI v2), some (jL v3), none, none, some (jI v6), none, none] [] M Q :=
  (x_ild c98_123 rfl (x_aldn c98_125 rfl (x_gfr c98_126 k_29_0 (x_gfi c98_129 k_11_2 (x_cge c98_132 H.1.1 H.1.2 (fun h3 => (x_aldn c98_249 rfl (x_gfr c98_250 k_29_1 (x_cr c98_253 (wp_wk (l' := [some (jR 29), none, none, none, none, none, none, none, none]) ⟨rfl, trivial⟩ (x_cv (As := [jR 1000081]) (st := []) c98_255 cl_3 kl64 rfl (Nat.le_of_ble_eq_true rfl) mx64 (Nat.le_refl _) (H.2.1 h3))))))) (fun h4 => (x_aldn c98_135 rfl (x_gfr c98_136 k_29_5 (x_ild c98_139 rfl (x_iald c98_141 a_30 (H.2.2 h4).1 (by decide) (x_ist (l' := [some (jR 29), none, some (jI v2), some (jL v3), none, none, some (jI v6), some (jI (M 30 v6)), none]) c98_142 rfl (x_ildn c98_144 rfl (x_ci c98_145 (have K : wp kc (d + 1) 98 166 [some (jR 29), none, some (jI v2), some (jL v3), none, none, some (jI v6), some (jI (M 30 v6)), none] [jI (if v2 = 1 then (((M 11 2) - 1) - (M 30 v6) : Int) else M 30 v6)] M Q := (x_ist (l' := [some (jR 29), none, some (jI v2), some (jL v3), none, none, some (jI v6), some (jI (M 30 v6)), some (jI (if v2 = 1 then (((M 11 2) - 1) - (M 30 v6) : Int) else M 30 v6))]) c98_166 rfl (x_aldn c98_168 rfl (x_gfr c98_169 k_29_0 (x_gfr c98_172 k_11_10 (x_ild c98_175 rfl (x_iald c98_177 a_17 (H.2.2 h4).2.2.1 (by decide) (x_zlt c98_178 (H.2.2 h4).2.2.2.1 (fun h1 => (x_inc (l' := [some (jR 29), none, some (jI v2), some (jL v3), none, none, some (jI (v6 + 1)), some (jI (M 30 v6)), some (jI (if v2 = 1 then (((M 11 2) - 1) - (M 30 v6) : Int) else M 30 v6))]) c98_243 rfl rfl (x_goto c98_246 (wp_wk (l' := [some (jR 29), none, some (jI v2), some (jL v3), none, none, some (jI (v6 + 1)), none, none]) ⟨rfl, ⟨rfl, ⟨rfl, ⟨rfl, trivial⟩⟩⟩⟩ ((H.2.2 h4).2.2.2.2.1 h1))))) (fun h2 => (x_aldn c98_181 rfl (x_lldn c98_182 rfl (x_aldn c98_183 rfl (x_ild c98_184 rfl (wp_wk (l' := [some (jR 29), none, some (jI v2), some (jL v3), none, none, some (jI v6), some (jI (M 30 v6)), some (jI (if v2 = 1 then (((M 11 2) - 1) - (M 30 v6) : Int) else M 30 v6))]) ⟨rfl, ⟨rfl, ⟨rfl, ⟨rfl, ⟨rfl, ⟨rfl, trivial⟩⟩⟩⟩⟩⟩ (x_cv (As := [jI (M 30 v6)]) (st := [jL v3, jR 29]) c98_186 cl_29 kl95 rfl (Nat.le_of_ble_eq_true rfl) mx95 (Nat.le_refl _) ((H.2.2 h4).2.2.2.2.2 h2))))))))))))))); (x_cne c98_146 (H.2.2 h4).2.1 (by decide) (fun (h5 : v2 ≠ 1) => (x_ild c98_164 rfl (wp_wk (l' := [some (jR 29), none, some (jI v2), some (jL v3), none, none, some (jI v6), some (jI (M 30 v6)), none]) ⟨rfl, ⟨rfl, ⟨rfl, ⟨rfl, ⟨rfl, trivial⟩⟩⟩⟩⟩ (by have K := K; first | (simp only [if_neg h5] at K ⊢; exact K) | (exfalso; omega))))) (fun (h6 : v2 = 1) => (x_aldn c98_149 rfl (x_gfr c98_150 k_29_0 (x_gfi c98_153 k_11_2 (x_ci c98_156 (x_isub c98_157 (x_ild c98_158 rfl (x_isub c98_160 (x_goto c98_161 (wp_wk (l' := [some (jR 29), none, some (jI v2), some (jL v3), none, none, some (jI v6), some (jI (M 30 v6)), none]) ⟨rfl, ⟨rfl, ⟨rfl, ⟨rfl, ⟨rfl, trivial⟩⟩⟩⟩⟩ (by have K := K; first | (simp only [if_pos h6] at K ⊢; exact K) | (exfalso; omega)))))))))))))))))))))))))))
theorem s98_189 {kc : List va_E} {d : Nat} {v2 v3 v6 v7 v8 u0 u1 : Int} {M : fx_M} {Q : Option fx_V → fx_M → Prop} (H : wc kc d 95 [jR 29, jI v8] M (fun v M1 => wp kc (d + 1) 98 196 [some (jR 29), none, some (jI v2), some (jL v3), none, none, some (jI v6), some (jI v7), some (jI v8)] (v.toList ++ [jL (fx_lor u1 u0), jR 29]) M1 Q)) : wp kc (d + 1) 98 189 [some (jR 29), none, some (jI v2), some (jL v3), none, none, some (jI v6), some (jI v7), some (jI v8)] [jL u0, jL u1, jR 29] M Q :=
  (x_lor c98_189 (x_aldn c98_190 rfl (x_ild c98_191 rfl (wp_wk (l' := [some (jR 29), none, some (jI v2), some (jL v3), none, none, some (jI v6), some (jI v7), some (jI v8)]) ⟨rfl, ⟨rfl, ⟨rfl, ⟨rfl, ⟨rfl, ⟨rfl, trivial⟩⟩⟩⟩⟩⟩ (x_cv (As := [jI v8]) (st := [jL (fx_lor u1 u0), jR 29]) c98_193 cl_29 kl95 rfl (Nat.le_of_ble_eq_true rfl) mx95 (Nat.le_refl _) H)))))
theorem s98_196 {kc : List va_E} {d : Nat} {v2 v3 v6 v7 v8 u0 u1 : Int} {M : fx_M} {Q : Option fx_V → fx_M → Prop} (H : wc kc d 89 [jR 29, jL (fx_lor u1 u0), jI 2] M (fun v M1 => wp kc (d + 1) 98 201 [some (jR 29), none, some (jI v2), some (jL v3), none, none, some (jI v6), some (jI v7), some (jI v8)] (v.toList ++ []) M1 Q)) : wp kc (d + 1) 98 196 [some (jR 29), none, some (jI v2), some (jL v3), none, none, some (jI v6), some (jI v7), some (jI v8)] [jL u0, jL u1, jR 29] M Q :=
  (x_lor c98_196 (x_ci c98_197 (wp_wk (l' := [some (jR 29), none, some (jI v2), some (jL v3), none, none, some (jI v6), some (jI v7), some (jI v8)]) ⟨rfl, ⟨rfl, ⟨rfl, ⟨rfl, ⟨rfl, ⟨rfl, trivial⟩⟩⟩⟩⟩⟩ (x_cv (As := [jL (fx_lor u1 u0), jI 2]) (st := []) c98_198 cl_29 kl89 rfl (Nat.le_of_ble_eq_true rfl) mx89 (Nat.le_refl _) H))))
theorem s98_201 {kc : List va_E} {d : Nat} {v2 v3 v6 v7 v8 u0 : Int} {M : fx_M} {Q : Option fx_V → fx_M → Prop} (H : ((fx_in32 u0)) ∧ (u0 ≠ 1 → wp kc (d + 1) 98 123 [some (jR 29), none, some (jI v2), some (jL v3), none, none, some (jI (v6 + 1)), none, none] [] M Q) ∧ (u0 = 1 → wc kc d 95 [jR 29, jI v7] M (fun v M1 => wp kc (d + 1) 98 212 [some (jR 29), none, some (jI v2), none, none, none, some (jI v6), some (jI v7), some (jI v8)] (v.toList ++ [jL v3]) M1 Q))) : wp kc (d + 1) 98 201 [some (jR 29), none, some (jI v2), some (jL v3), none, none, some (jI v6), some (jI v7), some (jI v8)] [jI u0] M Q :=
  (x_ci c98_201 (x_cne c98_202 H.1 (by decide) (fun h1 => (x_inc (l' := [some (jR 29), none, some (jI v2), some (jL v3), none, none, some (jI (v6 + 1)), some (jI v7), some (jI v8)]) c98_243 rfl rfl (x_goto c98_246 (wp_wk (l' := [some (jR 29), none, some (jI v2), some (jL v3), none, none, some (jI (v6 + 1)), none, none]) ⟨rfl, ⟨rfl, ⟨rfl, ⟨rfl, trivial⟩⟩⟩⟩ (H.2.1 h1))))) (fun h2 => (x_lldn c98_205 rfl (x_aldn c98_206 rfl (x_ild c98_207 rfl (wp_wk (l' := [some (jR 29), none, some (jI v2), none, none, none, some (jI v6), some (jI v7), some (jI v8)]) ⟨rfl, ⟨rfl, ⟨rfl, ⟨rfl, ⟨rfl, trivial⟩⟩⟩⟩⟩ (x_cv (As := [jI v7]) (st := [jL v3]) c98_209 cl_29 kl95 rfl (Nat.le_of_ble_eq_true rfl) mx95 (Nat.le_refl _) (H.2.2 h2)))))))))
theorem s98_212 {kc : List va_E} {d : Nat} {v2 v6 v7 v8 u0 u1 : Int} {M : fx_M} {Q : Option fx_V → fx_M → Prop} (H : wc kc d 95 [jR 29, jI v8] M (fun v M1 => wp kc (d + 1) 98 218 [some (jR 29), none, some (jI v2), none, none, none, some (jI v6), some (jI v7), some (jI v8)] (v.toList ++ [jL u0, jL u1]) M1 Q)) : wp kc (d + 1) 98 212 [some (jR 29), none, some (jI v2), none, none, none, some (jI v6), some (jI v7), some (jI v8)] [jL u0, jL u1] M Q :=
  (x_aldn c98_212 rfl (x_ild c98_213 rfl (wp_wk (l' := [some (jR 29), none, some (jI v2), none, none, none, some (jI v6), some (jI v7), some (jI v8)]) ⟨rfl, ⟨rfl, ⟨rfl, ⟨rfl, ⟨rfl, trivial⟩⟩⟩⟩⟩ (x_cv (As := [jI v8]) (st := [jL u0, jL u1]) c98_215 cl_29 kl95 rfl (Nat.le_of_ble_eq_true rfl) mx95 (Nat.le_refl _) H))))
theorem s98_218 {kc : List va_E} {d : Nat} {v2 v6 v7 v8 u0 u1 u2 : Int} {M : fx_M} {Q : Option fx_V → fx_M → Prop} (H : (((0 : Int) ≤ v7 ∧ v7 < 9)) ∧ (((0 : Int) ≤ v8 ∧ v8 < 9)) ∧ wp kc (d + 1) 98 123 [some (jR 29), none, some (jI v2), some (jL (fx_lor u2 (fx_lor u1 u0))), none, none, some (jI (v6 + 1)), none, none] [] (fx_up (fx_up M 17 v7 (-1)) 17 v8 (-1)) Q) : wp kc (d + 1) 98 218 [some (jR 29), none, some (jI v2), none, none, none, some (jI v6), some (jI v7), some (jI v8)] [jL u0, jL u1, jL u2] M Q :=
  (x_lor c98_218 (x_lor c98_219 (x_lstn (l' := [some (jR 29), none, some (jI v2), some (jL (fx_lor u2 (fx_lor u1 u0))), none, none, some (jI v6), some (jI v7), some (jI v8)]) c98_220 rfl (x_aldn c98_221 rfl (x_gfr c98_222 k_29_0 (x_gfr c98_225 k_11_10 (x_ild c98_228 rfl (x_ci c98_230 (x_iast c98_231 a_17 H.1 (by decide) (x_aldn c98_232 rfl (x_gfr c98_233 k_29_0 (x_gfr c98_236 k_11_10 (x_ild c98_239 rfl (x_ci c98_241 (x_iast c98_242 a_17 H.2.1 (by decide) (x_inc (l' := [some (jR 29), none, some (jI v2), some (jL (fx_lor u2 (fx_lor u1 u0))), none, none, some (jI (v6 + 1)), some (jI v7), some (jI v8)]) c98_243 rfl rfl (x_goto c98_246 (wp_wk (l' := [some (jR 29), none, some (jI v2), some (jL (fx_lor u2 (fx_lor u1 u0))), none, none, some (jI (v6 + 1)), none, none]) ⟨rfl, ⟨rfl, ⟨rfl, ⟨rfl, trivial⟩⟩⟩⟩ H.2.2))))))))))))))))))
theorem s98_258 {kc : List va_E} {d : Nat} {M : fx_M} {Q : Option fx_V → fx_M → Prop} (H : wc kc d 97 [jR 11] M (fun v M1 => wp kc (d + 1) 98 269 [none, none, none, none, none, none, none, none, none] (v.toList ++ [jR 3]) M1 Q)) : wp kc (d + 1) 98 258 [some (jR 29), none, none, none, none, none, none, none, none] [] M Q :=
  (x_aldn c98_258 rfl (x_gfr c98_259 k_29_1 (x_aldn c98_262 rfl (x_gfr c98_263 k_29_0 (wp_wk (l' := [none, none, none, none, none, none, none, none, none]) trivial (x_cv (As := []) (st := [jR 3]) c98_266 cl_11 kl97 rfl (Nat.le_of_ble_eq_true rfl) mx97 (Nat.le_refl _) H))))))
theorem s98_269 {kc : List va_E} {d : Nat} {u0 : Int} {M : fx_M} {Q : Option fx_V → fx_M → Prop} (H : wc kc d 65 [jR 3, jI u0] M (fun v M1 => wp kc (d + 1) 98 272 [none, none, none, none, none, none, none, none, none] (v.toList ++ []) M1 Q)) : wp kc (d + 1) 98 269 [none, none, none, none, none, none, none, none, none] [jI u0, jR 3] M Q :=
  (wp_wk (l' := [none, none, none, none, none, none, none, none, none]) trivial (x_cv (As := [jI u0]) (st := []) c98_269 cl_3 kl65 rfl (Nat.le_of_ble_eq_true rfl) mx65 (Nat.le_refl _) H))
theorem s98_272 {kc : List va_E} {d : Nat} {M : fx_M} {Q : Option fx_V → fx_M → Prop} (H : Q (some (jI 1)) M) : wp kc (d + 1) 98 272 [none, none, none, none, none, none, none, none, none] [] M Q :=
  (x_ci c98_272 (x_zrt c98_273 r98 (by decide) H))
theorem s98 {kc : List va_E} {d : Nat} {x1 x2 : Int} {M : fx_M} {Q : Option fx_V → fx_M → Prop} (H : ((fx_in32 x2)) ∧ (x2 ≤ 1 → wc kc d 82 [jR 11] M (fun v M1 => wp kc (d + 1) 98 23 [some (jR 29), some (jI x1), some (jI x2), none, none, none, none, none, none] (v.toList ++ []) M1 Q)) ∧ (1 < x2 → wc kc d 64 [jR 3, jR 1000079] M (fun v M1 => wp kc (d + 1) 98 14 [none, none, none, none, none, none, none, none, none] (v.toList ++ []) M1 Q))) : wc kc (d + 1) 98 [jR 29, jI x1, jI x2] M Q :=
  wc_of (wp_wk (l' := [some (jR 29), some (jI x1), some (jI x2), none, none, none, none, none, none]) ⟨rfl, ⟨rfl, ⟨rfl, trivial⟩⟩⟩ (s98_0 H))

/- PuzzleHouse$Search.draw(I)I -/
theorem c99_0 : fx_op 99 0 = some (.aload_n 0, 1, 0) := by decide +kernel
theorem c99_1 : fx_op 99 1 = some (.aload_n 0, 2, 1) := by decide +kernel
theorem c99_2 : fx_gf 99 2 = some (4, 4, 5) := by decide +kernel
theorem c99_5 : fx_cj 99 5 = some (6364136223846793005, 8) := by decide +kernel
theorem c99_8 : fx_op 99 8 = some (.lmul, 9, 8) := by decide +kernel
theorem c99_9 : fx_cj 99 9 = some (1442695040888963407, 12) := by decide +kernel
theorem c99_12 : fx_op 99 12 = some (.ladd, 13, 12) := by decide +kernel
theorem c99_13 : fx_pf 99 13 = some (4, 4, 1, 16) := by decide +kernel
theorem c99_16 : fx_op 99 16 = some (.aload_n 0, 17, 16) := by decide +kernel
theorem c99_17 : fx_gf 99 17 = some (4, 4, 20) := by decide +kernel
theorem c99_20 : fx_ci 99 20 = some (33, 22) := by decide +kernel
theorem c99_22 : fx_op 99 22 = some (.lushr, 23, 22) := by decide +kernel
theorem c99_23 : fx_op 99 23 = some (.iload_n 1, 24, 23) := by decide +kernel
theorem c99_24 : fx_ci 99 24 = some (1, 25) := by decide +kernel
theorem c99_30 : fx_op 99 30 = some (.l2i, 31, 30) := by decide +kernel
theorem c99_25 : fx_nt 99 25 = some (1, 28) := by decide +kernel
theorem c99_28 : fx_op 99 28 = some (.i2l, 29, 28) := by decide +kernel
theorem c99_29 : fx_op 99 29 = some (.lrem, 30, 29) := by decide +kernel
theorem c99_31 : fx_op 99 31 = some (.ireturn, 32, 31) := by decide +kernel
theorem n99_25 : xS 99 ((xI 99 25).getD .nop) = none := by decide +kernel
theorem s99_0 {kc : List va_E} {d : Nat} {x1 : Int} {M : fx_M} {Q : Option fx_V → fx_M → Prop} (H : ((fx_in32 x1)) ∧ ((fx_in32 (if x1 < 1 then (1 : Int) else x1))) ∧ (((0 : Int) ≤ fx_lushr (((M 29 4) * 6364136223846793005) + 1442695040888963407) 33 ∧ fx_lushr (((M 29 4) * 6364136223846793005) + 1442695040888963407) 33 ≤ 9223372036854775807) ∧ ((0 : Int) < (if x1 < 1 then (1 : Int) else x1) ∧ (if x1 < 1 then (1 : Int) else x1) ≤ 9223372036854775807)) ∧ Q (some (jI ((fx_lushr (((M 29 4) * 6364136223846793005) + 1442695040888963407) 33) % (if x1 < 1 then (1 : Int) else x1)))) (fx_up M 29 4 (((M 29 4) * 6364136223846793005) + 1442695040888963407))) : wp kc (d + 1) 99 0 [some (jR 29), some (jI x1)] [] M Q :=
  (x_aldn c99_0 rfl (x_aldn c99_1 rfl (x_gfl c99_2 k_29_4 (x_cj c99_5 (x_lmul c99_8 (x_cj c99_9 (x_ladd c99_12 (x_pfl c99_13 k_29_4 (x_aldn c99_16 rfl (x_gfl c99_17 k_29_4 (wp_vL (fx_upS) (x_ci c99_20 (x_lushr c99_22 (x_ildn c99_23 rfl (x_ci c99_24 (x_max c99_25 n99_25 H.1 (by decide) (Nat.le_of_ble_eq_true rfl) (x_i2l c99_28 H.2.1 (x_lrem c99_29 H.2.2.1.1 H.2.2.1.2 (x_l2i c99_30 (x_irt c99_31 r99 H.2.2.2))))))))))))))))))))
theorem s99 {kc : List va_E} {d : Nat} {x1 : Int} {M : fx_M} {Q : Option fx_V → fx_M → Prop} (H : ((fx_in32 x1)) ∧ ((fx_in32 (if x1 < 1 then (1 : Int) else x1))) ∧ (((0 : Int) ≤ fx_lushr (((M 29 4) * 6364136223846793005) + 1442695040888963407) 33 ∧ fx_lushr (((M 29 4) * 6364136223846793005) + 1442695040888963407) 33 ≤ 9223372036854775807) ∧ ((0 : Int) < (if x1 < 1 then (1 : Int) else x1) ∧ (if x1 < 1 then (1 : Int) else x1) ≤ 9223372036854775807)) ∧ Q (some (jI ((fx_lushr (((M 29 4) * 6364136223846793005) + 1442695040888963407) 33) % (if x1 < 1 then (1 : Int) else x1)))) (fx_up M 29 4 (((M 29 4) * 6364136223846793005) + 1442695040888963407))) : wc kc (d + 1) 99 [jR 29, jI x1] M Q :=
  wc_of (wp_wk (l' := [some (jR 29), some (jI x1)]) ⟨rfl, ⟨rfl, trivial⟩⟩ (s99_0 H))

/- PuzzleHouse$Search.shuffleRow()V -/
theorem c100_0 : fx_op 100 0 = some (.aload_n 0, 1, 0) := by decide +kernel
theorem c100_1 : fx_gf 100 1 = some (4, 0, 4) := by decide +kernel
theorem c100_4 : fx_gf 100 4 = some (3, 2, 7) := by decide +kernel
theorem c100_7 : fx_ci 100 7 = some (1, 8) := by decide +kernel
theorem c100_8 : fx_op 100 8 = some (.isub, 9, 8) := by decide +kernel
theorem c100_9 : fx_op 100 9 = some (.istore_n 1, 10, 9) := by decide +kernel
theorem c100_10 : fx_op 100 10 = some (.iload_n 1, 11, 10) := by decide +kernel
theorem c100_11 : fx_ci 100 11 = some (1, 12) := by decide +kernel
theorem c100_12 : fx_op 100 12 = some (.if_icmp .lt 43, 15, 55) := by decide +kernel
theorem c100_15 : fx_op 100 15 = some (.aload_n 0, 16, 15) := by decide +kernel
theorem c100_16 : fx_op 100 16 = some (.iload_n 1, 17, 16) := by decide +kernel
theorem c100_17 : fx_ci 100 17 = some (1, 18) := by decide +kernel
theorem c100_18 : fx_op 100 18 = some (.iadd, 19, 18) := by decide +kernel
theorem c100_55 : fx_op 100 55 = some (.return_, 56, 55) := by decide +kernel
theorem c100_19 : fx_ca 100 19 = some (99, 2, 2, 22) := by decide +kernel
theorem c100_22 : fx_op 100 22 = some (.istore_n 2, 23, 22) := by decide +kernel
theorem c100_23 : fx_op 100 23 = some (.aload_n 0, 24, 23) := by decide +kernel
theorem c100_24 : fx_gf 100 24 = some (4, 5, 27) := by decide +kernel
theorem c100_27 : fx_op 100 27 = some (.iload_n 1, 28, 27) := by decide +kernel
theorem c100_29 : fx_op 100 29 = some (.istore_n 3, 30, 29) := by decide +kernel
theorem c100_30 : fx_op 100 30 = some (.aload_n 0, 31, 30) := by decide +kernel
theorem c100_31 : fx_gf 100 31 = some (4, 5, 34) := by decide +kernel
theorem c100_34 : fx_op 100 34 = some (.iload_n 1, 35, 34) := by decide +kernel
theorem c100_35 : fx_op 100 35 = some (.aload_n 0, 36, 35) := by decide +kernel
theorem c100_36 : fx_gf 100 36 = some (4, 5, 39) := by decide +kernel
theorem c100_39 : fx_op 100 39 = some (.iload_n 2, 40, 39) := by decide +kernel
theorem c100_42 : fx_op 100 42 = some (.aload_n 0, 43, 42) := by decide +kernel
theorem c100_43 : fx_gf 100 43 = some (4, 5, 46) := by decide +kernel
theorem c100_46 : fx_op 100 46 = some (.iload_n 2, 47, 46) := by decide +kernel
theorem c100_47 : fx_op 100 47 = some (.iload_n 3, 48, 47) := by decide +kernel
theorem c100_49 : fx_op 100 49 = some (.iinc 1 (-1), 52, 49) := by decide +kernel
theorem c100_28 : fx_op 100 28 = some (.iaload, 29, 28) := by decide +kernel
theorem c100_40 : fx_op 100 40 = some (.iaload, 41, 40) := by decide +kernel
theorem c100_41 : fx_op 100 41 = some (.iastore, 42, 41) := by decide +kernel
theorem c100_48 : fx_op 100 48 = some (.iastore, 49, 48) := by decide +kernel
theorem c100_52 : fx_op 100 52 = some (.goto (-42), 55, 10) := by decide +kernel
theorem s100_0 {kc : List va_E} {d : Nat} {M : fx_M} {Q : Option fx_V → fx_M → Prop} (H : wp kc (d + 1) 100 10 [some (jR 29), some (jI ((M 11 2) - 1)), none, none] [] M Q) : wp kc (d + 1) 100 0 [some (jR 29), none, none, none] [] M Q :=
  (x_aldn c100_0 rfl (x_gfr c100_1 k_29_0 (x_gfi c100_4 k_11_2 (x_ci c100_7 (x_isub c100_8 (x_istn (l' := [some (jR 29), some (jI ((M 11 2) - 1)), none, none]) c100_9 rfl (wp_wk (l' := [some (jR 29), some (jI ((M 11 2) - 1)), none, none]) ⟨rfl, ⟨rfl, trivial⟩⟩ H)))))))
theorem s100_10 {kc : List va_E} {d : Nat} {v1 : Int} {M : fx_M} {Q : Option fx_V → fx_M → Prop} (H : ((fx_in32 v1)) ∧ (v1 < 1 → Q none M) ∧ (1 ≤ v1 → wc kc d 99 [jR 29, jI (v1 + 1)] M (fun v M1 => wp kc (d + 1) 100 22 [some (jR 29), some (jI v1), none, none] (v.toList ++ []) M1 Q))) : wp kc (d + 1) 100 10 [some (jR 29), some (jI v1), none, none] [] M Q :=
  (x_ildn c100_10 rfl (x_ci c100_11 (x_clt c100_12 H.1 (by decide) (fun h1 => (x_vr c100_55 r100 (H.2.1 h1))) (fun h2 => (x_aldn c100_15 rfl (x_ildn c100_16 rfl (x_ci c100_17 (x_iadd c100_18 (wp_wk (l' := [some (jR 29), some (jI v1), none, none]) ⟨rfl, ⟨rfl, trivial⟩⟩ (x_cv (As := [jI (v1 + 1)]) (st := []) c100_19 cl_29 kl99 rfl (Nat.le_of_ble_eq_true rfl) mx99 (Nat.le_refl _) (H.2.2 h2)))))))))))
theorem s100_22 {kc : List va_E} {d : Nat} {v1 u0 : Int} {M : fx_M} {Q : Option fx_V → fx_M → Prop} (H : (((0 : Int) ≤ v1 ∧ v1 < 9)) ∧ (((0 : Int) ≤ u0 ∧ u0 < 9)) ∧ (((0 : Int) ≤ v1 ∧ v1 < 9)) ∧ (((0 : Int) ≤ u0 ∧ u0 < 9)) ∧ wp kc (d + 1) 100 10 [some (jR 29), some (jI (v1 + (-1))), none, none] [] (fx_up (fx_up M 30 v1 (M 30 u0)) 30 u0 (M 30 v1)) Q) : wp kc (d + 1) 100 22 [some (jR 29), some (jI v1), none, none] [jI u0] M Q :=
  (x_istn (l' := [some (jR 29), some (jI v1), some (jI u0), none]) c100_22 rfl (x_aldn c100_23 rfl (x_gfr c100_24 k_29_5 (x_ildn c100_27 rfl (x_iald c100_28 a_30 H.1 (by decide) (x_istn (l' := [some (jR 29), some (jI v1), some (jI u0), some (jI (M 30 v1))]) c100_29 rfl (x_aldn c100_30 rfl (x_gfr c100_31 k_29_5 (x_ildn c100_34 rfl (x_aldn c100_35 rfl (x_gfr c100_36 k_29_5 (x_ildn c100_39 rfl (x_iald c100_40 a_30 H.2.1 (by decide) (x_iast c100_41 a_30 H.2.2.1 (by decide) (x_aldn c100_42 rfl (x_gfr c100_43 k_29_5 (x_ildn c100_46 rfl (x_ildn c100_47 rfl (x_iast c100_48 a_30 H.2.2.2.1 (by decide) (x_inc (l' := [some (jR 29), some (jI (v1 + (-1))), some (jI u0), some (jI (M 30 v1))]) c100_49 rfl rfl (x_goto c100_52 (wp_wk (l' := [some (jR 29), some (jI (v1 + (-1))), none, none]) ⟨rfl, ⟨rfl, trivial⟩⟩ H.2.2.2.2))))))))))))))))))))))
theorem s100 {kc : List va_E} {d : Nat} {M : fx_M} {Q : Option fx_V → fx_M → Prop} (H : wp kc (d + 1) 100 10 [some (jR 29), some (jI ((M 11 2) - 1)), none, none] [] M Q) : wc kc (d + 1) 100 [jR 29] M Q :=
  wc_of (wp_wk (l' := [some (jR 29), none, none, none]) ⟨rfl, trivial⟩ (s100_0 H))
