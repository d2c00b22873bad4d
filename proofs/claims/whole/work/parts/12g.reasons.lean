/-! SEGMENTS of Reasons (by gen/emit_segs.py) -/
/- PuzzleHouse$Reasons.prove()V -/
theorem c104_0 : fx_op 104 0 = some (.aload_n 0, 1, 0) := by decide +kernel
theorem c104_1 : fx_ci 104 1 = some (1, 2) := by decide +kernel
theorem c104_2 : fx_ca 104 2 = some (105, 2, 2, 5) := by decide +kernel
theorem c104_5 : fx_op 104 5 = some (.aload_n 0, 6, 5) := by decide +kernel
theorem c104_6 : fx_ca 104 6 = some (106, 1, 2, 9) := by decide +kernel
theorem c104_9 : fx_op 104 9 = some (.aload_n 0, 10, 9) := by decide +kernel
theorem c104_10 : fx_op 104 10 = some (.aload_n 0, 11, 10) := by decide +kernel
theorem c104_11 : fx_gf 104 11 = some (5, 0, 14) := by decide +kernel
theorem c104_14 : fx_ca 104 14 = some (81, 1, 2, 17) := by decide +kernel
theorem c104_17 : fx_ci 104 17 = some (0, 18) := by decide +kernel
theorem c104_18 : fx_ca 104 18 = some (108, 3, 2, 21) := by decide +kernel
theorem c104_21 : fx_op 104 21 = some (.aload_n 0, 22, 21) := by decide +kernel
theorem c104_22 : fx_ca 104 22 = some (119, 1, 2, 25) := by decide +kernel
theorem c104_25 : fx_op 104 25 = some (.return_, 26, 25) := by decide +kernel
theorem s104_0 {kc : List va_E} {d : Nat} {M : fx_M} {Q : Option fx_V → fx_M → Prop} (H : wc kc d 105 [jR 31, jI 1] M (fun v M1 => wp kc (d + 1) 104 5 [some (jR 31)] (v.toList ++ []) M1 Q)) : wp kc (d + 1) 104 0 [some (jR 31)] [] M Q :=
  (x_aldn c104_0 rfl (x_ci c104_1 (wp_wk (l' := [some (jR 31)]) ⟨rfl, trivial⟩ (x_cv (As := [jI 1]) (st := []) c104_2 cl_31 kl105 rfl (Nat.le_of_ble_eq_true rfl) mx105 (Nat.le_refl _) H))))
theorem s104_5 {kc : List va_E} {d : Nat} {M : fx_M} {Q : Option fx_V → fx_M → Prop} (H : wc kc d 106 [jR 31] M (fun v M1 => wp kc (d + 1) 104 9 [some (jR 31)] (v.toList ++ []) M1 Q)) : wp kc (d + 1) 104 5 [some (jR 31)] [] M Q :=
  (x_aldn c104_5 rfl (wp_wk (l' := [some (jR 31)]) ⟨rfl, trivial⟩ (x_cv (As := []) (st := []) c104_6 cl_31 kl106 rfl (Nat.le_of_ble_eq_true rfl) mx106 (Nat.le_refl _) H)))
theorem s104_9 {kc : List va_E} {d : Nat} {M : fx_M} {Q : Option fx_V → fx_M → Prop} (H : wc kc d 81 [jR 11] M (fun v M1 => wp kc (d + 1) 104 17 [some (jR 31)] (v.toList ++ [jR 31]) M1 Q)) : wp kc (d + 1) 104 9 [some (jR 31)] [] M Q :=
  (x_aldn c104_9 rfl (x_aldn c104_10 rfl (x_gfr c104_11 k_31_0 (wp_wk (l' := [some (jR 31)]) ⟨rfl, trivial⟩ (x_cv (As := []) (st := [jR 31]) c104_14 cl_11 kl81 rfl (Nat.le_of_ble_eq_true rfl) mx81 (Nat.le_refl _) H)))))
theorem s104_17 {kc : List va_E} {d : Nat} {u0 : Int} {M : fx_M} {Q : Option fx_V → fx_M → Prop} (H : wc kc d 108 [jR 31, jL u0, jI 0] M (fun v M1 => wp kc (d + 1) 104 21 [some (jR 31)] (v.toList ++ []) M1 Q)) : wp kc (d + 1) 104 17 [some (jR 31)] [jL u0, jR 31] M Q :=
  (x_ci c104_17 (wp_wk (l' := [some (jR 31)]) ⟨rfl, trivial⟩ (x_cv (As := [jL u0, jI 0]) (st := []) c104_18 cl_31 kl108 rfl (Nat.le_of_ble_eq_true rfl) mx108 (Nat.le_refl _) H)))
theorem s104_21 {kc : List va_E} {d : Nat} {M : fx_M} {Q : Option fx_V → fx_M → Prop} (H : wc kc d 119 [jR 31] M (fun v M1 => wp kc (d + 1) 104 25 [none] (v.toList ++ []) M1 Q)) : wp kc (d + 1) 104 21 [some (jR 31)] [] M Q :=
  (x_aldn c104_21 rfl (wp_wk (l' := [none]) trivial (x_cv (As := []) (st := []) c104_22 cl_31 kl119 rfl (Nat.le_of_ble_eq_true rfl) mx119 (Nat.le_refl _) H)))
theorem s104_25 {kc : List va_E} {d : Nat} {M : fx_M} {Q : Option fx_V → fx_M → Prop} (H : Q none M) : wp kc (d + 1) 104 25 [none] [] M Q :=
  (x_vr c104_25 r104 H)
theorem s104 {kc : List va_E} {d : Nat} {M : fx_M} {Q : Option fx_V → fx_M → Prop} (H : wc kc d 105 [jR 31, jI 1] M (fun v M1 => wp kc (d + 1) 104 5 [some (jR 31)] (v.toList ++ []) M1 Q)) : wc kc (d + 1) 104 [jR 31] M Q :=
  wc_of (wp_wk (l' := [some (jR 31)]) ⟨rfl, trivial⟩ (s104_0 H))

/- PuzzleHouse$Reasons.start(Z)V -/
theorem c105_0 : fx_op 105 0 = some (.aload_n 0, 1, 0) := by decide +kernel
theorem c105_1 : fx_op 105 1 = some (.iload_n 1, 2, 1) := by decide +kernel
theorem c105_5 : fx_op 105 5 = some (.aload_n 0, 6, 5) := by decide +kernel
theorem c105_6 : fx_ci 105 6 = some (0, 7) := by decide +kernel
theorem c105_7 : fx_pf 105 7 = some (5, 9, 0, 10) := by decide +kernel
theorem c105_10 : fx_op 105 10 = some (.aload_n 0, 11, 10) := by decide +kernel
theorem c105_11 : fx_ci 105 11 = some (0, 12) := by decide +kernel
theorem c105_12 : fx_pf 105 12 = some (5, 10, 0, 15) := by decide +kernel
theorem c105_15 : fx_op 105 15 = some (.aload_n 0, 16, 15) := by decide +kernel
theorem c105_16 : fx_ci 105 16 = some (0, 17) := by decide +kernel
theorem c105_17 : fx_pf 105 17 = some (5, 8, 0, 20) := by decide +kernel
theorem c105_20 : fx_op 105 20 = some (.aload_n 0, 21, 20) := by decide +kernel
theorem c105_21 : fx_ci 105 21 = some (0, 22) := by decide +kernel
theorem c105_22 : fx_pf 105 22 = some (5, 11, 2, 25) := by decide +kernel
theorem c105_2 : fx_pf 105 2 = some (5, 2, 2, 5) := by decide +kernel
theorem c105_25 : fx_op 105 25 = some (.return_, 26, 25) := by decide +kernel
theorem s105_0 {kc : List va_E} {d : Nat} {x1 : Int} {M : fx_M} {Q : Option fx_V → fx_M → Prop} (H : (((0 : Int) ≤ x1 ∧ x1 ≤ 1)) ∧ Q none (fx_up (fx_up (fx_up (fx_up (fx_up M 31 2 x1) 31 9 0) 31 10 0) 31 8 0) 31 11 0)) : wp kc (d + 1) 105 0 [some (jR 31), some (jI x1)] [] M Q :=
  (x_aldn c105_0 rfl (x_ildn c105_1 rfl (x_pfz c105_2 k_31_2 H.1 (x_aldn c105_5 rfl (x_ci c105_6 (x_pfi c105_7 k_31_9 (x_aldn c105_10 rfl (x_ci c105_11 (x_pfi c105_12 k_31_10 (x_aldn c105_15 rfl (x_ci c105_16 (x_pfi c105_17 k_31_8 (x_aldn c105_20 rfl (x_ci c105_21 (x_pfz c105_22 k_31_11 (by decide) (x_vr c105_25 r105 H.2))))))))))))))))
theorem s105 {kc : List va_E} {d : Nat} {x1 : Int} {M : fx_M} {Q : Option fx_V → fx_M → Prop} (H : (((0 : Int) ≤ x1 ∧ x1 ≤ 1)) ∧ Q none (fx_up (fx_up (fx_up (fx_up (fx_up M 31 2 x1) 31 9 0) 31 10 0) 31 8 0) 31 11 0)) : wc kc (d + 1) 105 [jR 31, jI x1] M Q :=
  wc_of (wp_wk (l' := [some (jR 31), some (jI x1)]) ⟨rfl, ⟨rfl, trivial⟩⟩ (s105_0 H))

/- PuzzleHouse$Reasons.writeGivens()V -/
theorem c106_0 : fx_ci 106 0 = some (0, 1) := by decide +kernel
theorem c106_1 : fx_op 106 1 = some (.istore_n 1, 2, 1) := by decide +kernel
theorem c106_2 : fx_op 106 2 = some (.iload_n 1, 3, 2) := by decide +kernel
theorem c106_3 : fx_op 106 3 = some (.aload_n 0, 4, 3) := by decide +kernel
theorem c106_4 : fx_gf 106 4 = some (5, 0, 7) := by decide +kernel
theorem c106_7 : fx_gf 106 7 = some (3, 2, 10) := by decide +kernel
theorem c106_10 : fx_op 106 10 = some (.if_icmp .ge 68, 13, 78) := by decide +kernel
theorem c106_13 : fx_op 106 13 = some (.aload_n 0, 14, 13) := by decide +kernel
theorem c106_14 : fx_gf 106 14 = some (5, 0, 17) := by decide +kernel
theorem c106_17 : fx_gf 106 17 = some (3, 10, 20) := by decide +kernel
theorem c106_20 : fx_op 106 20 = some (.iload_n 1, 21, 20) := by decide +kernel
theorem c106_21 : fx_op 106 21 = some (.iaload, 22, 21) := by decide +kernel
theorem c106_22 : fx_op 106 22 = some (.ifCond .lt 50, 25, 72) := by decide +kernel
theorem c106_72 : fx_op 106 72 = some (.iinc 1 1, 75, 72) := by decide +kernel
theorem c106_25 : fx_op 106 25 = some (.aload_n 0, 26, 25) := by decide +kernel
theorem c106_26 : fx_gf 106 26 = some (5, 1, 29) := by decide +kernel
theorem c106_29 : fx_ci 106 29 = some (103, 31) := by decide +kernel
theorem c106_78 : fx_op 106 78 = some (.return_, 79, 78) := by decide +kernel
theorem c106_75 : fx_op 106 75 = some (.goto (-73), 78, 2) := by decide +kernel
theorem c106_31 : fx_ca 106 31 = some (69, 2, 2, 34) := by decide +kernel
theorem c106_34 : fx_op 106 34 = some (.aload_n 0, 35, 34) := by decide +kernel
theorem c106_35 : fx_gf 106 35 = some (5, 1, 38) := by decide +kernel
theorem c106_38 : fx_op 106 38 = some (.iload_n 1, 39, 38) := by decide +kernel
theorem c106_39 : fx_ca 106 39 = some (65, 2, 2, 42) := by decide +kernel
theorem c106_42 : fx_op 106 42 = some (.aload_n 0, 43, 42) := by decide +kernel
theorem c106_43 : fx_gf 106 43 = some (5, 1, 46) := by decide +kernel
theorem c106_46 : fx_ci 106 46 = some (43, 48) := by decide +kernel
theorem c106_48 : fx_op 106 48 = some (.iload_n 1, 49, 48) := by decide +kernel
theorem c106_49 : fx_ci 106 49 = some (1, 50) := by decide +kernel
theorem c106_50 : fx_op 106 50 = some (.aload_n 0, 51, 50) := by decide +kernel
theorem c106_51 : fx_gf 106 51 = some (5, 0, 54) := by decide +kernel
theorem c106_54 : fx_gf 106 54 = some (3, 10, 57) := by decide +kernel
theorem c106_57 : fx_op 106 57 = some (.iload_n 1, 58, 57) := by decide +kernel
theorem c106_59 : fx_op 106 59 = some (.ishl, 60, 59) := by decide +kernel
theorem c106_58 : fx_op 106 58 = some (.iaload, 59, 58) := by decide +kernel
theorem c106_60 : fx_ca 106 60 = some (107, 4, 2, 63) := by decide +kernel
theorem c106_63 : fx_op 106 63 = some (.aload_n 0, 64, 63) := by decide +kernel
theorem c106_64 : fx_gf 106 64 = some (5, 1, 67) := by decide +kernel
theorem c106_67 : fx_ci 106 67 = some (59, 69) := by decide +kernel
theorem c106_69 : fx_ca 106 69 = some (69, 2, 2, 72) := by decide +kernel
theorem s106_0 {kc : List va_E} {d : Nat} {M : fx_M} {Q : Option fx_V → fx_M → Prop} (H : wp kc (d + 1) 106 2 [some (jR 31), some (jI 0)] [] M Q) : wp kc (d + 1) 106 0 [some (jR 31), none] [] M Q :=
  (x_ci c106_0 (x_istn (l' := [some (jR 31), some (jI 0)]) c106_1 rfl (wp_wk (l' := [some (jR 31), some (jI 0)]) ⟨rfl, ⟨rfl, trivial⟩⟩ H)))
theorem s106_2 {kc : List va_E} {d : Nat} {v1 : Int} {M : fx_M} {Q : Option fx_V → fx_M → Prop} (H : ((fx_in32 v1) ∧ (fx_in32 (M 11 2))) ∧ (M 11 2 ≤ v1 → Q none M) ∧ (v1 < M 11 2 → (((0 : Int) ≤ v1 ∧ v1 < 9)) ∧ ((fx_in32 (M 17 v1))) ∧ (M 17 v1 < 0 → wp kc (d + 1) 106 2 [some (jR 31), some (jI (v1 + 1))] [] M Q) ∧ (0 ≤ M 17 v1 → wc kc d 69 [jR 3, jI 103] M (fun v M1 => wp kc (d + 1) 106 34 [some (jR 31), some (jI v1)] (v.toList ++ []) M1 Q)))) : wp kc (d + 1) 106 2 [some (jR 31), some (jI v1)] [] M Q :=
  (x_ildn c106_2 rfl (x_aldn c106_3 rfl (x_gfr c106_4 k_31_0 (x_gfi c106_7 k_11_2 (x_cge c106_10 H.1.1 H.1.2 (fun h3 => (x_vr c106_78 r106 (H.2.1 h3))) (fun h4 => (x_aldn c106_13 rfl (x_gfr c106_14 k_31_0 (x_gfr c106_17 k_11_10 (x_ildn c106_20 rfl (x_iald c106_21 a_17 (H.2.2 h4).1 (by decide) (x_zlt c106_22 (H.2.2 h4).2.1 (fun h1 => (x_inc (l' := [some (jR 31), some (jI (v1 + 1))]) c106_72 rfl rfl (x_goto c106_75 (wp_wk (l' := [some (jR 31), some (jI (v1 + 1))]) ⟨rfl, ⟨rfl, trivial⟩⟩ ((H.2.2 h4).2.2.1 h1))))) (fun h2 => (x_aldn c106_25 rfl (x_gfr c106_26 k_31_1 (x_ci c106_29 (wp_wk (l' := [some (jR 31), some (jI v1)]) ⟨rfl, ⟨rfl, trivial⟩⟩ (x_cv (As := [jI 103]) (st := []) c106_31 cl_3 kl69 rfl (Nat.le_of_ble_eq_true rfl) mx69 (Nat.le_refl _) ((H.2.2 h4).2.2.2 h2)))))))))))))))))))
theorem s106_34 {kc : List va_E} {d : Nat} {v1 : Int} {M : fx_M} {Q : Option fx_V → fx_M → Prop} (H : wc kc d 65 [jR 3, jI v1] M (fun v M1 => wp kc (d + 1) 106 42 [some (jR 31), some (jI v1)] (v.toList ++ []) M1 Q)) : wp kc (d + 1) 106 34 [some (jR 31), some (jI v1)] [] M Q :=
  (x_aldn c106_34 rfl (x_gfr c106_35 k_31_1 (x_ildn c106_38 rfl (wp_wk (l' := [some (jR 31), some (jI v1)]) ⟨rfl, ⟨rfl, trivial⟩⟩ (x_cv (As := [jI v1]) (st := []) c106_39 cl_3 kl65 rfl (Nat.le_of_ble_eq_true rfl) mx65 (Nat.le_refl _) H)))))
theorem s106_42 {kc : List va_E} {d : Nat} {v1 : Int} {M : fx_M} {Q : Option fx_V → fx_M → Prop} (H : (((0 : Int) ≤ v1 ∧ v1 < 9)) ∧ wc kc d 107 [jR 3, jI 43, jI v1, jI (fx_shl 1 (M 17 v1))] M (fun v M1 => wp kc (d + 1) 106 63 [some (jR 31), some (jI v1)] (v.toList ++ []) M1 Q)) : wp kc (d + 1) 106 42 [some (jR 31), some (jI v1)] [] M Q :=
  (x_aldn c106_42 rfl (x_gfr c106_43 k_31_1 (x_ci c106_46 (x_ildn c106_48 rfl (x_ci c106_49 (x_aldn c106_50 rfl (x_gfr c106_51 k_31_0 (x_gfr c106_54 k_11_10 (x_ildn c106_57 rfl (x_iald c106_58 a_17 H.1 (by decide) (x_ishl c106_59 (wp_wk (l' := [some (jR 31), some (jI v1)]) ⟨rfl, ⟨rfl, trivial⟩⟩ (x_cv (As := [jI 43, jI v1, jI (fx_shl 1 (M 17 v1))]) (st := []) c106_60 cl_3 kl107 rfl (Nat.le_of_ble_eq_true rfl) mx107 (Nat.le_refl _) H.2)))))))))))))
theorem s106_63 {kc : List va_E} {d : Nat} {v1 : Int} {M : fx_M} {Q : Option fx_V → fx_M → Prop} (H : wc kc d 69 [jR 3, jI 59] M (fun v M1 => wp kc (d + 1) 106 72 [some (jR 31), some (jI v1)] (v.toList ++ []) M1 Q)) : wp kc (d + 1) 106 63 [some (jR 31), some (jI v1)] [] M Q :=
  (x_aldn c106_63 rfl (x_gfr c106_64 k_31_1 (x_ci c106_67 (wp_wk (l' := [some (jR 31), some (jI v1)]) ⟨rfl, ⟨rfl, trivial⟩⟩ (x_cv (As := [jI 59]) (st := []) c106_69 cl_3 kl69 rfl (Nat.le_of_ble_eq_true rfl) mx69 (Nat.le_refl _) H)))))
theorem s106_72 {kc : List va_E} {d : Nat} {v1 : Int} {M : fx_M} {Q : Option fx_V → fx_M → Prop} (H : wp kc (d + 1) 106 2 [some (jR 31), some (jI (v1 + 1))] [] M Q) : wp kc (d + 1) 106 72 [some (jR 31), some (jI v1)] [] M Q :=
  (x_inc (l' := [some (jR 31), some (jI (v1 + 1))]) c106_72 rfl rfl (x_goto c106_75 (wp_wk (l' := [some (jR 31), some (jI (v1 + 1))]) ⟨rfl, ⟨rfl, trivial⟩⟩ H)))
theorem s106 {kc : List va_E} {d : Nat} {M : fx_M} {Q : Option fx_V → fx_M → Prop} (H : wp kc (d + 1) 106 2 [some (jR 31), some (jI 0)] [] M Q) : wc kc (d + 1) 106 [jR 31] M Q :=
  wc_of (wp_wk (l' := [some (jR 31), none]) ⟨rfl, trivial⟩ (s106_0 H))

/- PuzzleHouse$Reasons.visit(JI)V -/
theorem c108_0 : fx_op 108 0 = some (.aload_n 0, 1, 0) := by decide +kernel
theorem c108_1 : fx_op 108 1 = some (.dup, 2, 1) := by decide +kernel
theorem c108_2 : fx_gf 108 2 = some (5, 9, 5) := by decide +kernel
theorem c108_5 : fx_ci 108 5 = some (1, 6) := by decide +kernel
theorem c108_6 : fx_op 108 6 = some (.iadd, 7, 6) := by decide +kernel
theorem c108_7 : fx_pf 108 7 = some (5, 9, 0, 10) := by decide +kernel
theorem c108_10 : fx_op 108 10 = some (.aload_n 0, 11, 10) := by decide +kernel
theorem c108_11 : fx_gf 108 11 = some (5, 9, 14) := by decide +kernel
theorem c108_14 : fx_ci 108 14 = some (100, 16) := by decide +kernel
theorem c108_16 : fx_op 108 16 = some (.if_icmp .gt 9, 19, 25) := by decide +kernel
theorem c108_25 : fx_op 108 25 = some (.aload_n 0, 26, 25) := by decide +kernel
theorem c108_26 : fx_ci 108 26 = some (1, 27) := by decide +kernel
theorem c108_27 : fx_pf 108 27 = some (5, 11, 2, 30) := by decide +kernel
theorem c108_19 : fx_op 108 19 = some (.iload_n 3, 20, 19) := by decide +kernel
theorem c108_20 : fx_ci 108 20 = some (9, 22) := by decide +kernel
theorem c108_22 : fx_op 108 22 = some (.if_icmp .le 9, 25, 31) := by decide +kernel
theorem c108_31 : fx_op 108 31 = some (.aload_n 0, 32, 31) := by decide +kernel
theorem c108_32 : fx_op 108 32 = some (.aload_n 0, 33, 32) := by decide +kernel
theorem c108_33 : fx_gf 108 33 = some (5, 10, 36) := by decide +kernel
theorem c108_36 : fx_op 108 36 = some (.iload_n 3, 37, 36) := by decide +kernel
theorem c108_40 : fx_pf 108 40 = some (5, 10, 0, 43) := by decide +kernel
theorem c108_43 : fx_op 108 43 = some (.aload_n 0, 44, 43) := by decide +kernel
theorem c108_44 : fx_op 108 44 = some (.lload_n 1, 45, 44) := by decide +kernel
theorem c108_30 : fx_op 108 30 = some (.return_, 31, 30) := by decide +kernel
theorem c108_37 : fx_nt 108 37 = some (1, 40) := by decide +kernel
theorem c108_45 : fx_ca 108 45 = some (109, 2, 2, 48) := by decide +kernel
theorem c108_48 : fx_op 108 48 = some (.lstore 4, 50, 48) := by decide +kernel
theorem c108_50 : fx_op 108 50 = some (.iload_n 3, 51, 50) := by decide +kernel
theorem c108_51 : fx_op 108 51 = some (.ifCond .ne 11, 54, 62) := by decide +kernel
theorem c108_54 : fx_op 108 54 = some (.aload_n 0, 55, 54) := by decide +kernel
theorem c108_55 : fx_op 108 55 = some (.aload_n 0, 56, 55) := by decide +kernel
theorem c108_56 : fx_gf 108 56 = some (5, 7, 59) := by decide +kernel
theorem c108_62 : fx_op 108 62 = some (.lload 4, 64, 62) := by decide +kernel
theorem c108_59 : fx_pf 108 59 = some (5, 8, 0, 62) := by decide +kernel
theorem c108_64 : fx_ca 108 64 = some (114, 1, 1, 67) := by decide +kernel
theorem c108_67 : fx_op 108 67 = some (.ifCond .ne 91, 70, 158) := by decide +kernel
theorem c108_158 : fx_op 108 158 = some (.aload_n 0, 159, 158) := by decide +kernel
theorem c108_159 : fx_gf 108 159 = some (5, 2, 162) := by decide +kernel
theorem c108_162 : fx_op 108 162 = some (.ifCond .eq 17, 165, 179) := by decide +kernel
theorem c108_165 : fx_op 108 165 = some (.lload 4, 167, 165) := by decide +kernel
theorem c108_179 : fx_op 108 179 = some (.aload_n 0, 180, 179) := by decide +kernel
theorem c108_180 : fx_gf 108 180 = some (5, 2, 183) := by decide +kernel
theorem c108_183 : fx_op 108 183 = some (.ifCond .eq 37, 186, 220) := by decide +kernel
theorem c108_186 : fx_op 108 186 = some (.aload_n 0, 187, 186) := by decide +kernel
theorem c108_187 : fx_op 108 187 = some (.iload_n 3, 188, 187) := by decide +kernel
theorem c108_70 : fx_op 108 70 = some (.lload 4, 72, 70) := by decide +kernel
theorem c108_220 : fx_op 108 220 = some (.return_, 221, 220) := by decide +kernel
theorem c108_188 : fx_ca 108 188 = some (118, 2, 2, 191) := by decide +kernel
theorem c108_167 : fx_ca 108 167 = some (114, 1, 1, 170) := by decide +kernel
theorem c108_72 : fx_ca 108 72 = some (115, 1, 1, 75) := by decide +kernel
theorem c108_191 : fx_op 108 191 = some (.aload_n 0, 192, 191) := by decide +kernel
theorem c108_192 : fx_op 108 192 = some (.aload_n 0, 193, 192) := by decide +kernel
theorem c108_193 : fx_gf 108 193 = some (5, 11, 196) := by decide +kernel
theorem c108_196 : fx_op 108 196 = some (.ifCond .ne 16, 199, 212) := by decide +kernel
theorem c108_212 : fx_ci 108 212 = some (1, 213) := by decide +kernel
theorem c108_213 : fx_op 108 213 = some (.goto 4, 216, 217) := by decide +kernel
theorem c108_199 : fx_op 108 199 = some (.aload_n 0, 200, 199) := by decide +kernel
theorem c108_200 : fx_gf 108 200 = some (5, 1, 203) := by decide +kernel
theorem c108_203 : fx_gf 108 203 = some (1, 1, 206) := by decide +kernel
theorem c108_206 : fx_ci 108 206 = some (3000, 209) := by decide +kernel
theorem c108_209 : fx_op 108 209 = some (.if_icmp .le 7, 212, 216) := by decide +kernel
theorem c108_216 : fx_ci 108 216 = some (0, 217) := by decide +kernel
theorem c108_217 : fx_pf 108 217 = some (5, 11, 2, 220) := by decide +kernel
theorem c108_170 : fx_op 108 170 = some (.ifCond .ne 9, 173, 179) := by decide +kernel
theorem c108_173 : fx_op 108 173 = some (.aload_n 0, 174, 173) := by decide +kernel
theorem c108_174 : fx_op 108 174 = some (.lload 4, 176, 174) := by decide +kernel
theorem c108_176 : fx_ca 108 176 = some (117, 2, 2, 179) := by decide +kernel
theorem c108_75 : fx_op 108 75 = some (.ifCond .ne 83, 78, 158) := by decide +kernel
theorem c108_78 : fx_op 108 78 = some (.aload_n 0, 79, 78) := by decide +kernel
theorem c108_79 : fx_op 108 79 = some (.lload 4, 81, 79) := by decide +kernel
theorem c108_81 : fx_ca 108 81 = some (116, 2, 2, 84) := by decide +kernel
theorem c108_84 : fx_op 108 84 = some (.istore 6, 86, 84) := by decide +kernel
theorem c108_86 : fx_ci 108 86 = some (0, 87) := by decide +kernel
theorem c108_87 : fx_op 108 87 = some (.istore 7, 89, 87) := by decide +kernel
theorem c108_89 : fx_op 108 89 = some (.iload 7, 91, 89) := by decide +kernel
theorem c108_91 : fx_ci 108 91 = some (4, 92) := by decide +kernel
theorem c108_92 : fx_op 108 92 = some (.if_icmp .ge 63, 95, 155) := by decide +kernel
theorem c108_95 : fx_op 108 95 = some (.aload_n 0, 96, 95) := by decide +kernel
theorem c108_96 : fx_gf 108 96 = some (5, 11, 99) := by decide +kernel
theorem c108_99 : fx_op 108 99 = some (.ifCond .ne 56, 102, 155) := by decide +kernel
theorem c108_102 : fx_op 108 102 = some (.lload 4, 104, 102) := by decide +kernel
theorem c108_104 : fx_op 108 104 = some (.iload 6, 106, 104) := by decide +kernel
theorem c108_155 : fx_op 108 155 = some (.goto 24, 158, 179) := by decide +kernel
theorem c108_106 : fx_ca 108 106 = some (86, 2, 1, 109) := by decide +kernel
theorem c108_109 : fx_op 108 109 = some (.iload 7, 111, 109) := by decide +kernel
theorem c108_111 : fx_op 108 111 = some (.ishr, 112, 111) := by decide +kernel
theorem c108_112 : fx_ci 108 112 = some (1, 113) := by decide +kernel
theorem c108_113 : fx_op 108 113 = some (.iand, 114, 113) := by decide +kernel
theorem c108_114 : fx_op 108 114 = some (.ifCond .eq 35, 117, 149) := by decide +kernel
theorem c108_117 : fx_op 108 117 = some (.aload_n 0, 118, 117) := by decide +kernel
theorem c108_118 : fx_gf 108 118 = some (5, 12, 121) := by decide +kernel
theorem c108_121 : fx_op 108 121 = some (.iload_n 3, 122, 121) := by decide +kernel
theorem c108_122 : fx_op 108 122 = some (.iload 6, 124, 122) := by decide +kernel
theorem c108_149 : fx_op 108 149 = some (.iinc 7 1, 152, 149) := by decide +kernel
theorem c108_125 : fx_op 108 125 = some (.aload_n 0, 126, 125) := by decide +kernel
theorem c108_126 : fx_gf 108 126 = some (5, 13, 129) := by decide +kernel
theorem c108_129 : fx_op 108 129 = some (.iload_n 3, 130, 129) := by decide +kernel
theorem c108_130 : fx_op 108 130 = some (.iload 7, 132, 130) := by decide +kernel
theorem c108_133 : fx_op 108 133 = some (.aload_n 0, 134, 133) := by decide +kernel
theorem c108_134 : fx_op 108 134 = some (.lload 4, 136, 134) := by decide +kernel
theorem c108_136 : fx_op 108 136 = some (.iload 6, 138, 136) := by decide +kernel
theorem c108_138 : fx_op 108 138 = some (.iload 7, 140, 138) := by decide +kernel
theorem c108_152 : fx_op 108 152 = some (.goto (-63), 155, 89) := by decide +kernel
theorem c108_124 : fx_op 108 124 = some (.iastore, 125, 124) := by decide +kernel
theorem c108_132 : fx_op 108 132 = some (.iastore, 133, 132) := by decide +kernel
theorem c108_140 : fx_ca 108 140 = some (83, 3, 1, 143) := by decide +kernel
theorem c108_143 : fx_op 108 143 = some (.iload_n 3, 144, 143) := by decide +kernel
theorem c108_144 : fx_ci 108 144 = some (1, 145) := by decide +kernel
theorem c108_145 : fx_op 108 145 = some (.iadd, 146, 145) := by decide +kernel
theorem c108_146 : fx_ca 108 146 = some (108, 3, 2, 149) := by decide +kernel
theorem n108_37 : xS 108 ((xI 108 37).getD .nop) = none := by decide +kernel
theorem s108_0 {kc : List va_E} {d : Nat} {x1 x3 : Int} {M : fx_M} {Q : Option fx_V → fx_M → Prop} (H : ((fx_in32 ((M 31 9) + 1))) ∧ (100 < (M 31 9) + 1 → Q none (fx_up (fx_up M 31 9 ((M 31 9) + 1)) 31 11 1)) ∧ ((M 31 9) + 1 ≤ 100 → ((fx_in32 x3)) ∧ (x3 ≤ 9 → ((fx_in32 (M 31 10)) ∧ (fx_in32 x3)) ∧ wc kc d 109 [jR 31, jL x1] (fx_up (fx_up M 31 9 ((M 31 9) + 1)) 31 10 (if M 31 10 < x3 then (x3 : Int) else M 31 10)) (fun v M1 => wp kc (d + 1) 108 48 [some (jR 31), none, none, some (jI x3), none, none, none, none] (v.toList ++ []) M1 Q)) ∧ (9 < x3 → Q none (fx_up (fx_up M 31 9 ((M 31 9) + 1)) 31 11 1)))) : wp kc (d + 1) 108 0 [some (jR 31), some (jL x1), none, some (jI x3), none, none, none, none] [] M Q :=
  (x_aldn c108_0 rfl (x_dupr c108_1 (x_gfi c108_2 k_31_9 (x_ci c108_5 (x_iadd c108_6 (x_pfi c108_7 k_31_9 (x_aldn c108_10 rfl (x_gfi c108_11 k_31_9 (wp_vI (fx_upS) (x_ci c108_14 (x_cgt c108_16 H.1 (by decide) (fun h3 => (x_aldn c108_25 rfl (x_ci c108_26 (x_pfz c108_27 k_31_11 (by decide) (x_vr c108_30 r108 (H.2.1 h3)))))) (fun h4 => (x_ildn c108_19 rfl (x_ci c108_20 (x_cle c108_22 (H.2.2 h4).1 (by decide) (fun h1 => (x_aldn c108_31 rfl (x_aldn c108_32 rfl (x_gfi c108_33 k_31_10 (wp_vI (fx_upK (by decide)) (x_ildn c108_36 rfl (x_max c108_37 n108_37 ((H.2.2 h4).2.1 h1).1.1 ((H.2.2 h4).2.1 h1).1.2 (Nat.le_of_ble_eq_true rfl) (x_pfi c108_40 k_31_10 (x_aldn c108_43 rfl (x_lldn c108_44 rfl (wp_wk (l' := [some (jR 31), none, none, some (jI x3), none, none, none, none]) ⟨rfl, ⟨rfl, trivial⟩⟩ (x_cv (As := [jL x1]) (st := []) c108_45 cl_31 kl109 rfl (Nat.le_of_ble_eq_true rfl) mx109 (Nat.le_refl _) ((H.2.2 h4).2.1 h1).2)))))))))))) (fun h2 => (x_aldn c108_25 rfl (x_ci c108_26 (x_pfz c108_27 k_31_11 (by decide) (x_vr c108_30 r108 ((H.2.2 h4).2.2 h2)))))))))))))))))))))
theorem s108_48 {kc : List va_E} {d : Nat} {v3 u0 : Int} {M : fx_M} {Q : Option fx_V → fx_M → Prop} (H : ((fx_in32 v3)) ∧ (v3 ≠ 0 → wc kc d 114 [jL u0] M (fun v M1 => wp kc (d + 1) 108 67 [some (jR 31), none, none, some (jI v3), some (jL u0), none, none, none] (v.toList ++ []) M1 Q)) ∧ (v3 = 0 → wc kc d 114 [jL u0] (fx_up M 31 8 (M 31 7)) (fun v M1 => wp kc (d + 1) 108 67 [some (jR 31), none, none, some (jI v3), some (jL u0), none, none, none] (v.toList ++ []) M1 Q))) : wp kc (d + 1) 108 48 [some (jR 31), none, none, some (jI v3), none, none, none, none] [jL u0] M Q :=
  (x_lst (l' := [some (jR 31), none, none, some (jI v3), some (jL u0), none, none, none]) c108_48 rfl (x_ildn c108_50 rfl (x_zne c108_51 H.1 (fun h1 => (x_lld c108_62 rfl (wp_wk (l' := [some (jR 31), none, none, some (jI v3), some (jL u0), none, none, none]) ⟨rfl, ⟨rfl, ⟨rfl, trivial⟩⟩⟩ (x_cs (As := [jL u0]) (st := []) c108_64 (by decide) rfl (Nat.le_of_ble_eq_true rfl) mx114 (Nat.le_refl _) (H.2.1 h1))))) (fun h2 => (x_aldn c108_54 rfl (x_aldn c108_55 rfl (x_gfi c108_56 k_31_7 (x_pfi c108_59 k_31_8 (x_lld c108_62 rfl (wp_wk (l' := [some (jR 31), none, none, some (jI v3), some (jL u0), none, none, none]) ⟨rfl, ⟨rfl, ⟨rfl, trivial⟩⟩⟩ (x_cs (As := [jL u0]) (st := []) c108_64 (by decide) rfl (Nat.le_of_ble_eq_true rfl) mx114 (Nat.le_refl _) (H.2.2 h2))))))))))))
theorem s108_67 {kc : List va_E} {d : Nat} {v3 v4 u0 : Int} {M : fx_M} {Q : Option fx_V → fx_M → Prop} (H : ((fx_in32 u0)) ∧ (u0 ≠ 0 → ((fx_in32 (M 31 2))) ∧ (M 31 2 = 0 → ((fx_in32 (M 31 2))) ∧ (M 31 2 = 0 → Q none M) ∧ (M 31 2 ≠ 0 → wc kc d 118 [jR 31, jI v3] M (fun v M1 => wp kc (d + 1) 108 191 [some (jR 31), none, none, none, none, none, none, none] (v.toList ++ []) M1 Q))) ∧ (M 31 2 ≠ 0 → wc kc d 114 [jL v4] M (fun v M1 => wp kc (d + 1) 108 170 [some (jR 31), none, none, some (jI v3), some (jL v4), none, none, none] (v.toList ++ []) M1 Q))) ∧ (u0 = 0 → wc kc d 115 [jL v4] M (fun v M1 => wp kc (d + 1) 108 75 [some (jR 31), none, none, some (jI v3), some (jL v4), none, none, none] (v.toList ++ []) M1 Q))) : wp kc (d + 1) 108 67 [some (jR 31), none, none, some (jI v3), some (jL v4), none, none, none] [jI u0] M Q :=
  (x_zne c108_67 H.1 (fun h5 => (x_aldn c108_158 rfl (x_gfi c108_159 k_31_2 (x_zeq c108_162 (H.2.1 h5).1 (fun h3 => (x_aldn c108_179 rfl (x_gfi c108_180 k_31_2 (x_zeq c108_183 ((H.2.1 h5).2.1 h3).1 (fun h1 => (x_vr c108_220 r108 (((H.2.1 h5).2.1 h3).2.1 h1))) (fun h2 => (x_aldn c108_186 rfl (x_ildn c108_187 rfl (wp_wk (l' := [some (jR 31), none, none, none, none, none, none, none]) ⟨rfl, trivial⟩ (x_cv (As := [jI v3]) (st := []) c108_188 cl_31 kl118 rfl (Nat.le_of_ble_eq_true rfl) mx118 (Nat.le_refl _) (((H.2.1 h5).2.1 h3).2.2 h2)))))))))) (fun h4 => (x_lld c108_165 rfl (wp_wk (l' := [some (jR 31), none, none, some (jI v3), some (jL v4), none, none, none]) ⟨rfl, ⟨rfl, ⟨rfl, trivial⟩⟩⟩ (x_cs (As := [jL v4]) (st := []) c108_167 (by decide) rfl (Nat.le_of_ble_eq_true rfl) mx114 (Nat.le_refl _) ((H.2.1 h5).2.2 h4))))))))) (fun h6 => (x_lld c108_70 rfl (wp_wk (l' := [some (jR 31), none, none, some (jI v3), some (jL v4), none, none, none]) ⟨rfl, ⟨rfl, ⟨rfl, trivial⟩⟩⟩ (x_cs (As := [jL v4]) (st := []) c108_72 (by decide) rfl (Nat.le_of_ble_eq_true rfl) mx115 (Nat.le_refl _) (H.2.2 h6))))))
theorem s108_75 {kc : List va_E} {d : Nat} {v3 v4 u0 : Int} {M : fx_M} {Q : Option fx_V → fx_M → Prop} (H : ((fx_in32 u0)) ∧ (u0 ≠ 0 → ((fx_in32 (M 31 2))) ∧ (M 31 2 = 0 → ((fx_in32 (M 31 2))) ∧ (M 31 2 = 0 → Q none M) ∧ (M 31 2 ≠ 0 → wc kc d 118 [jR 31, jI v3] M (fun v M1 => wp kc (d + 1) 108 191 [some (jR 31), none, none, none, none, none, none, none] (v.toList ++ []) M1 Q))) ∧ (M 31 2 ≠ 0 → wc kc d 114 [jL v4] M (fun v M1 => wp kc (d + 1) 108 170 [some (jR 31), none, none, some (jI v3), some (jL v4), none, none, none] (v.toList ++ []) M1 Q))) ∧ (u0 = 0 → wc kc d 116 [jR 31, jL v4] M (fun v M1 => wp kc (d + 1) 108 84 [some (jR 31), none, none, some (jI v3), some (jL v4), none, none, none] (v.toList ++ []) M1 Q))) : wp kc (d + 1) 108 75 [some (jR 31), none, none, some (jI v3), some (jL v4), none, none, none] [jI u0] M Q :=
  (x_zne c108_75 H.1 (fun h5 => (x_aldn c108_158 rfl (x_gfi c108_159 k_31_2 (x_zeq c108_162 (H.2.1 h5).1 (fun h3 => (x_aldn c108_179 rfl (x_gfi c108_180 k_31_2 (x_zeq c108_183 ((H.2.1 h5).2.1 h3).1 (fun h1 => (x_vr c108_220 r108 (((H.2.1 h5).2.1 h3).2.1 h1))) (fun h2 => (x_aldn c108_186 rfl (x_ildn c108_187 rfl (wp_wk (l' := [some (jR 31), none, none, none, none, none, none, none]) ⟨rfl, trivial⟩ (x_cv (As := [jI v3]) (st := []) c108_188 cl_31 kl118 rfl (Nat.le_of_ble_eq_true rfl) mx118 (Nat.le_refl _) (((H.2.1 h5).2.1 h3).2.2 h2)))))))))) (fun h4 => (x_lld c108_165 rfl (wp_wk (l' := [some (jR 31), none, none, some (jI v3), some (jL v4), none, none, none]) ⟨rfl, ⟨rfl, ⟨rfl, trivial⟩⟩⟩ (x_cs (As := [jL v4]) (st := []) c108_167 (by decide) rfl (Nat.le_of_ble_eq_true rfl) mx114 (Nat.le_refl _) ((H.2.1 h5).2.2 h4))))))))) (fun h6 => (x_aldn c108_78 rfl (x_lld c108_79 rfl (wp_wk (l' := [some (jR 31), none, none, some (jI v3), some (jL v4), none, none, none]) ⟨rfl, ⟨rfl, ⟨rfl, trivial⟩⟩⟩ (x_cv (As := [jL v4]) (st := []) c108_81 cl_31 kl116 rfl (Nat.le_of_ble_eq_true rfl) mx116 (Nat.le_refl _) (H.2.2 h6)))))))
theorem s108_84 {kc : List va_E} {d : Nat} {v3 v4 u0 : Int} {M : fx_M} {Q : Option fx_V → fx_M → Prop} (H : wp kc (d + 1) 108 89 [some (jR 31), none, none, some (jI v3), some (jL v4), none, some (jI u0), some (jI 0)] [] M Q) : wp kc (d + 1) 108 84 [some (jR 31), none, none, some (jI v3), some (jL v4), none, none, none] [jI u0] M Q :=
  (x_ist (l' := [some (jR 31), none, none, some (jI v3), some (jL v4), none, some (jI u0), none]) c108_84 rfl (x_ci c108_86 (x_ist (l' := [some (jR 31), none, none, some (jI v3), some (jL v4), none, some (jI u0), some (jI 0)]) c108_87 rfl (wp_wk (l' := [some (jR 31), none, none, some (jI v3), some (jL v4), none, some (jI u0), some (jI 0)]) ⟨rfl, ⟨rfl, ⟨rfl, ⟨rfl, ⟨rfl, trivial⟩⟩⟩⟩⟩ H))))
theorem s108_89 {kc : List va_E} {d : Nat} {v3 v4 v6 v7 : Int} {M : fx_M} {Q : Option fx_V → fx_M → Prop} (H : ((fx_in32 v7)) ∧ (4 ≤ v7 → ((fx_in32 (M 31 2))) ∧ (M 31 2 = 0 → Q none M) ∧ (M 31 2 ≠ 0 → wc kc d 118 [jR 31, jI v3] M (fun v M1 => wp kc (d + 1) 108 191 [some (jR 31), none, none, none, none, none, none, none] (v.toList ++ []) M1 Q))) ∧ (v7 < 4 → ((fx_in32 (M 31 11))) ∧ (M 31 11 ≠ 0 → ((fx_in32 (M 31 2))) ∧ (M 31 2 = 0 → Q none M) ∧ (M 31 2 ≠ 0 → wc kc d 118 [jR 31, jI v3] M (fun v M1 => wp kc (d + 1) 108 191 [some (jR 31), none, none, none, none, none, none, none] (v.toList ++ []) M1 Q))) ∧ (M 31 11 = 0 → wc kc d 86 [jL v4, jI v6] M (fun v M1 => wp kc (d + 1) 108 109 [some (jR 31), none, none, some (jI v3), some (jL v4), none, some (jI v6), some (jI v7)] (v.toList ++ []) M1 Q)))) : wp kc (d + 1) 108 89 [some (jR 31), none, none, some (jI v3), some (jL v4), none, some (jI v6), some (jI v7)] [] M Q :=
  (x_ild c108_89 rfl (x_ci c108_91 (x_cge c108_92 H.1 (by decide) (fun h7 => (x_goto c108_155 (x_aldn c108_179 rfl (x_gfi c108_180 k_31_2 (x_zeq c108_183 (H.2.1 h7).1 (fun h1 => (x_vr c108_220 r108 ((H.2.1 h7).2.1 h1))) (fun h2 => (x_aldn c108_186 rfl (x_ildn c108_187 rfl (wp_wk (l' := [some (jR 31), none, none, none, none, none, none, none]) ⟨rfl, trivial⟩ (x_cv (As := [jI v3]) (st := []) c108_188 cl_31 kl118 rfl (Nat.le_of_ble_eq_true rfl) mx118 (Nat.le_refl _) ((H.2.1 h7).2.2 h2))))))))))) (fun h8 => (x_aldn c108_95 rfl (x_gfi c108_96 k_31_11 (x_zne c108_99 (H.2.2 h8).1 (fun h5 => (x_goto c108_155 (x_aldn c108_179 rfl (x_gfi c108_180 k_31_2 (x_zeq c108_183 ((H.2.2 h8).2.1 h5).1 (fun h3 => (x_vr c108_220 r108 (((H.2.2 h8).2.1 h5).2.1 h3))) (fun h4 => (x_aldn c108_186 rfl (x_ildn c108_187 rfl (wp_wk (l' := [some (jR 31), none, none, none, none, none, none, none]) ⟨rfl, trivial⟩ (x_cv (As := [jI v3]) (st := []) c108_188 cl_31 kl118 rfl (Nat.le_of_ble_eq_true rfl) mx118 (Nat.le_refl _) (((H.2.2 h8).2.1 h5).2.2 h4))))))))))) (fun h6 => (x_lld c108_102 rfl (x_ild c108_104 rfl (wp_wk (l' := [some (jR 31), none, none, some (jI v3), some (jL v4), none, some (jI v6), some (jI v7)]) ⟨rfl, ⟨rfl, ⟨rfl, ⟨rfl, ⟨rfl, trivial⟩⟩⟩⟩⟩ (x_cs (As := [jL v4, jI v6]) (st := []) c108_106 (by decide) rfl (Nat.le_of_ble_eq_true rfl) mx86 (Nat.le_refl _) ((H.2.2 h8).2.2 h6)))))))))))))
theorem s108_109 {kc : List va_E} {d : Nat} {v3 v4 v6 v7 u0 : Int} {M : fx_M} {Q : Option fx_V → fx_M → Prop} (H : ((fx_in32 (fx_and (fx_shr u0 v7) 1))) ∧ (fx_and (fx_shr u0 v7) 1 = 0 → wp kc (d + 1) 108 89 [some (jR 31), none, none, some (jI v3), some (jL v4), none, some (jI v6), some (jI (v7 + 1))] [] M Q) ∧ (fx_and (fx_shr u0 v7) 1 ≠ 0 → (((0 : Int) ≤ v3 ∧ v3 < 10)) ∧ (((0 : Int) ≤ v3 ∧ v3 < 10)) ∧ wc kc d 83 [jL v4, jI v6, jI v7] (fx_up (fx_up M 32 v3 v6) 33 v3 v7) (fun v M1 => wp kc (d + 1) 108 143 [some (jR 31), none, none, some (jI v3), some (jL v4), none, some (jI v6), some (jI v7)] (v.toList ++ [jR 31]) M1 Q))) : wp kc (d + 1) 108 109 [some (jR 31), none, none, some (jI v3), some (jL v4), none, some (jI v6), some (jI v7)] [jI u0] M Q :=
  (x_ild c108_109 rfl (x_ishr c108_111 (x_ci c108_112 (x_iand c108_113 (x_zeq c108_114 H.1 (fun h1 => (x_inc (l' := [some (jR 31), none, none, some (jI v3), some (jL v4), none, some (jI v6), some (jI (v7 + 1))]) c108_149 rfl rfl (x_goto c108_152 (wp_wk (l' := [some (jR 31), none, none, some (jI v3), some (jL v4), none, some (jI v6), some (jI (v7 + 1))]) ⟨rfl, ⟨rfl, ⟨rfl, ⟨rfl, ⟨rfl, trivial⟩⟩⟩⟩⟩ (H.2.1 h1))))) (fun h2 => (x_aldn c108_117 rfl (x_gfr c108_118 k_31_12 (x_ildn c108_121 rfl (x_ild c108_122 rfl (x_iast c108_124 a_32 (H.2.2 h2).1 (by decide) (x_aldn c108_125 rfl (x_gfr c108_126 k_31_13 (x_ildn c108_129 rfl (x_ild c108_130 rfl (x_iast c108_132 a_33 (H.2.2 h2).2.1 (by decide) (x_aldn c108_133 rfl (x_lld c108_134 rfl (x_ild c108_136 rfl (x_ild c108_138 rfl (wp_wk (l' := [some (jR 31), none, none, some (jI v3), some (jL v4), none, some (jI v6), some (jI v7)]) ⟨rfl, ⟨rfl, ⟨rfl, ⟨rfl, ⟨rfl, trivial⟩⟩⟩⟩⟩ (x_cs (As := [jL v4, jI v6, jI v7]) (st := [jR 31]) c108_140 (by decide) rfl (Nat.le_of_ble_eq_true rfl) mx83 (Nat.le_refl _) (H.2.2 h2).2.2))))))))))))))))))))))
theorem s108_143 {kc : List va_E} {d : Nat} {v3 v4 v6 v7 u0 : Int} {M : fx_M} {Q : Option fx_V → fx_M → Prop} (H : wc kc d 108 [jR 31, jL u0, jI (v3 + 1)] M (fun v M1 => wp kc (d + 1) 108 149 [some (jR 31), none, none, some (jI v3), some (jL v4), none, some (jI v6), some (jI v7)] (v.toList ++ []) M1 Q)) : wp kc (d + 1) 108 143 [some (jR 31), none, none, some (jI v3), some (jL v4), none, some (jI v6), some (jI v7)] [jL u0, jR 31] M Q :=
  (x_ildn c108_143 rfl (x_ci c108_144 (x_iadd c108_145 (wp_wk (l' := [some (jR 31), none, none, some (jI v3), some (jL v4), none, some (jI v6), some (jI v7)]) ⟨rfl, ⟨rfl, ⟨rfl, ⟨rfl, ⟨rfl, trivial⟩⟩⟩⟩⟩ (x_cv (As := [jL u0, jI (v3 + 1)]) (st := []) c108_146 cl_31 kl108 rfl (Nat.le_of_ble_eq_true rfl) mx108 (Nat.le_refl _) H)))))
theorem s108_149 {kc : List va_E} {d : Nat} {v3 v4 v6 v7 : Int} {M : fx_M} {Q : Option fx_V → fx_M → Prop} (H : wp kc (d + 1) 108 89 [some (jR 31), none, none, some (jI v3), some (jL v4), none, some (jI v6), some (jI (v7 + 1))] [] M Q) : wp kc (d + 1) 108 149 [some (jR 31), none, none, some (jI v3), some (jL v4), none, some (jI v6), some (jI v7)] [] M Q :=
  (x_inc (l' := [some (jR 31), none, none, some (jI v3), some (jL v4), none, some (jI v6), some (jI (v7 + 1))]) c108_149 rfl rfl (x_goto c108_152 (wp_wk (l' := [some (jR 31), none, none, some (jI v3), some (jL v4), none, some (jI v6), some (jI (v7 + 1))]) ⟨rfl, ⟨rfl, ⟨rfl, ⟨rfl, ⟨rfl, trivial⟩⟩⟩⟩⟩ H)))
theorem s108_170 {kc : List va_E} {d : Nat} {v3 v4 u0 : Int} {M : fx_M} {Q : Option fx_V → fx_M → Prop} (H : ((fx_in32 u0)) ∧ (u0 ≠ 0 → ((fx_in32 (M 31 2))) ∧ (M 31 2 = 0 → Q none M) ∧ (M 31 2 ≠ 0 → wc kc d 118 [jR 31, jI v3] M (fun v M1 => wp kc (d + 1) 108 191 [some (jR 31), none, none, none, none, none, none, none] (v.toList ++ []) M1 Q))) ∧ (u0 = 0 → wc kc d 117 [jR 31, jL v4] M (fun v M1 => wp kc (d + 1) 108 179 [some (jR 31), none, none, some (jI v3), none, none, none, none] (v.toList ++ []) M1 Q))) : wp kc (d + 1) 108 170 [some (jR 31), none, none, some (jI v3), some (jL v4), none, none, none] [jI u0] M Q :=
  (x_zne c108_170 H.1 (fun h3 => (x_aldn c108_179 rfl (x_gfi c108_180 k_31_2 (x_zeq c108_183 (H.2.1 h3).1 (fun h1 => (x_vr c108_220 r108 ((H.2.1 h3).2.1 h1))) (fun h2 => (x_aldn c108_186 rfl (x_ildn c108_187 rfl (wp_wk (l' := [some (jR 31), none, none, none, none, none, none, none]) ⟨rfl, trivial⟩ (x_cv (As := [jI v3]) (st := []) c108_188 cl_31 kl118 rfl (Nat.le_of_ble_eq_true rfl) mx118 (Nat.le_refl _) ((H.2.1 h3).2.2 h2)))))))))) (fun h4 => (x_aldn c108_173 rfl (x_lld c108_174 rfl (wp_wk (l' := [some (jR 31), none, none, some (jI v3), none, none, none, none]) ⟨rfl, ⟨rfl, trivial⟩⟩ (x_cv (As := [jL v4]) (st := []) c108_176 cl_31 kl117 rfl (Nat.le_of_ble_eq_true rfl) mx117 (Nat.le_refl _) (H.2.2 h4)))))))
theorem s108_179 {kc : List va_E} {d : Nat} {v3 : Int} {M : fx_M} {Q : Option fx_V → fx_M → Prop} (H : ((fx_in32 (M 31 2))) ∧ (M 31 2 = 0 → Q none M) ∧ (M 31 2 ≠ 0 → wc kc d 118 [jR 31, jI v3] M (fun v M1 => wp kc (d + 1) 108 191 [some (jR 31), none, none, none, none, none, none, none] (v.toList ++ []) M1 Q))) : wp kc (d + 1) 108 179 [some (jR 31), none, none, some (jI v3), none, none, none, none] [] M Q :=
  (x_aldn c108_179 rfl (x_gfi c108_180 k_31_2 (x_zeq c108_183 H.1 (fun h1 => (x_vr c108_220 r108 (H.2.1 h1))) (fun h2 => (x_aldn c108_186 rfl (x_ildn c108_187 rfl (wp_wk (l' := [some (jR 31), none, none, none, none, none, none, none]) ⟨rfl, trivial⟩ (x_cv (As := [jI v3]) (st := []) c108_188 cl_31 kl118 rfl (Nat.le_of_ble_eq_true rfl) mx118 (Nat.le_refl _) (H.2.2 h2)))))))))
theorem s108_191 {kc : List va_E} {d : Nat} {M : fx_M} {Q : Option fx_V → fx_M → Prop} (H : ((fx_in32 (M 31 11))) ∧ (M 31 11 = 0 → (fx_in32 (M 3 1))) ∧ (((0 : Int) ≤ (if M 31 11 = 0 then ((if 3000 < M 3 1 then (1 : Int) else 0) : Int) else 1) ∧ (if M 31 11 = 0 then ((if 3000 < M 3 1 then (1 : Int) else 0) : Int) else 1) ≤ 1)) ∧ Q none (fx_up M 31 11 (if M 31 11 = 0 then ((if 3000 < M 3 1 then (1 : Int) else 0) : Int) else 1))) : wp kc (d + 1) 108 191 [some (jR 31), none, none, none, none, none, none, none] [] M Q :=
  (x_aldn c108_191 rfl (x_aldn c108_192 rfl (x_gfi c108_193 k_31_11 (have K : wp kc (d + 1) 108 217 [none, none, none, none, none, none, none, none] [jI (if M 31 11 = 0 then ((if 3000 < M 3 1 then (1 : Int) else 0) : Int) else 1), jR 31] M Q := (x_pfz c108_217 k_31_11 H.2.2.1 (x_vr c108_220 r108 H.2.2.2)); (x_zne c108_196 H.1 (fun (h1 : M 31 11 ≠ 0) => (x_ci c108_212 (x_goto c108_213 (wp_wk (l' := [none, none, none, none, none, none, none, none]) trivial (by have K := K; first | (simp only [if_neg h1] at K ⊢; exact K) | (exfalso; omega)))))) (fun (h2 : M 31 11 = 0) => (x_aldn c108_199 rfl (x_gfr c108_200 k_31_1 (x_gfi c108_203 k_3_1 (x_ci c108_206 (x_cle c108_209 (H.2.1 h2) (by decide) (fun (h3 : M 3 1 ≤ 3000) => (x_ci c108_216 (wp_wk (l' := [none, none, none, none, none, none, none, none]) trivial (by have K := K; first | (simp only [if_pos h2, if_neg (Int.not_lt.mpr h3)] at K ⊢; exact K) | (exfalso; omega))))) (fun (h4 : 3000 < M 3 1) => (x_ci c108_212 (x_goto c108_213 (wp_wk (l' := [none, none, none, none, none, none, none, none]) trivial (by have K := K; first | (simp only [if_pos h2, if_pos h4] at K ⊢; exact K) | (exfalso; omega)))))))))))))))))
theorem s108 {kc : List va_E} {d : Nat} {x1 x3 : Int} {M : fx_M} {Q : Option fx_V → fx_M → Prop} (H : ((fx_in32 ((M 31 9) + 1))) ∧ (100 < (M 31 9) + 1 → Q none (fx_up (fx_up M 31 9 ((M 31 9) + 1)) 31 11 1)) ∧ ((M 31 9) + 1 ≤ 100 → ((fx_in32 x3)) ∧ (x3 ≤ 9 → ((fx_in32 (M 31 10)) ∧ (fx_in32 x3)) ∧ wc kc d 109 [jR 31, jL x1] (fx_up (fx_up M 31 9 ((M 31 9) + 1)) 31 10 (if M 31 10 < x3 then (x3 : Int) else M 31 10)) (fun v M1 => wp kc (d + 1) 108 48 [some (jR 31), none, none, some (jI x3), none, none, none, none] (v.toList ++ []) M1 Q)) ∧ (9 < x3 → Q none (fx_up (fx_up M 31 9 ((M 31 9) + 1)) 31 11 1)))) : wc kc (d + 1) 108 [jR 31, jL x1, jI x3] M Q :=
  wc_of (wp_wk (l' := [some (jR 31), some (jL x1), none, some (jI x3), none, none, none, none]) ⟨rfl, ⟨rfl, ⟨rfl, trivial⟩⟩⟩ (s108_0 H))

/- PuzzleHouse$Reasons.goOn(J)J -/
theorem c109_0 : fx_op 109 0 = some (.lload_n 1, 1, 0) := by decide +kernel
theorem c109_1 : fx_op 109 1 = some (.lstore_n 3, 2, 1) := by decide +kernel
theorem c109_2 : fx_op 109 2 = some (.aload_n 0, 3, 2) := by decide +kernel
theorem c109_3 : fx_ci 109 3 = some (0, 4) := by decide +kernel
theorem c109_4 : fx_pf 109 4 = some (5, 7, 0, 7) := by decide +kernel
theorem c109_7 : fx_op 109 7 = some (.aload_n 0, 8, 7) := by decide +kernel
theorem c109_8 : fx_gf 109 8 = some (5, 7, 11) := by decide +kernel
theorem c109_11 : fx_ci 109 11 = some (36, 13) := by decide +kernel
theorem c109_13 : fx_op 109 13 = some (.if_icmp .ge 60, 16, 73) := by decide +kernel
theorem c109_73 : fx_op 109 73 = some (.lload_n 3, 74, 73) := by decide +kernel
theorem c109_16 : fx_op 109 16 = some (.aload_n 0, 17, 16) := by decide +kernel
theorem c109_17 : fx_op 109 17 = some (.lload_n 3, 18, 17) := by decide +kernel
theorem c109_74 : fx_op 109 74 = some (.lreturn, 75, 74) := by decide +kernel
theorem c109_18 : fx_ca 109 18 = some (110, 2, 2, 21) := by decide +kernel
theorem c109_21 : fx_op 109 21 = some (.ifCond .eq 52, 24, 73) := by decide +kernel
theorem c109_24 : fx_op 109 24 = some (.aload_n 0, 25, 24) := by decide +kernel
theorem c109_25 : fx_gf 109 25 = some (5, 2, 28) := by decide +kernel
theorem c109_28 : fx_op 109 28 = some (.ifCond .eq 9, 31, 37) := by decide +kernel
theorem c109_31 : fx_op 109 31 = some (.aload_n 0, 32, 31) := by decide +kernel
theorem c109_32 : fx_op 109 32 = some (.lload_n 3, 33, 32) := by decide +kernel
theorem c109_33 : fx_ci 109 33 = some (0, 34) := by decide +kernel
theorem c109_37 : fx_op 109 37 = some (.lload_n 3, 38, 37) := by decide +kernel
theorem c109_38 : fx_op 109 38 = some (.aload_n 0, 39, 38) := by decide +kernel
theorem c109_39 : fx_gf 109 39 = some (5, 5, 42) := by decide +kernel
theorem c109_42 : fx_op 109 42 = some (.aload_n 0, 43, 42) := by decide +kernel
theorem c109_43 : fx_gf 109 43 = some (5, 6, 46) := by decide +kernel
theorem c109_46 : fx_ca 109 46 = some (113, 3, 1, 49) := by decide +kernel
theorem c109_34 : fx_ca 109 34 = some (112, 3, 2, 37) := by decide +kernel
theorem c109_49 : fx_op 109 49 = some (.lstore_n 3, 50, 49) := by decide +kernel
theorem c109_50 : fx_op 109 50 = some (.aload_n 0, 51, 50) := by decide +kernel
theorem c109_51 : fx_op 109 51 = some (.dup, 52, 51) := by decide +kernel
theorem c109_52 : fx_gf 109 52 = some (5, 7, 55) := by decide +kernel
theorem c109_55 : fx_ci 109 55 = some (1, 56) := by decide +kernel
theorem c109_56 : fx_op 109 56 = some (.iadd, 57, 56) := by decide +kernel
theorem c109_57 : fx_pf 109 57 = some (5, 7, 0, 60) := by decide +kernel
theorem c109_60 : fx_op 109 60 = some (.lload_n 3, 61, 60) := by decide +kernel
theorem c109_61 : fx_op 109 61 = some (.aload_n 0, 62, 61) := by decide +kernel
theorem c109_62 : fx_gf 109 62 = some (5, 5, 65) := by decide +kernel
theorem c109_65 : fx_ca 109 65 = some (86, 2, 1, 68) := by decide +kernel
theorem c109_68 : fx_op 109 68 = some (.ifCond .ne (-61), 71, 7) := by decide +kernel
theorem c109_71 : fx_op 109 71 = some (.lload_n 3, 72, 71) := by decide +kernel
theorem c109_72 : fx_op 109 72 = some (.lreturn, 73, 72) := by decide +kernel
theorem s109_0 {kc : List va_E} {d : Nat} {x1 : Int} {M : fx_M} {Q : Option fx_V → fx_M → Prop} (H : wp kc (d + 1) 109 7 [some (jR 31), none, none, some (jL x1), none] [] (fx_up M 31 7 0) Q) : wp kc (d + 1) 109 0 [some (jR 31), some (jL x1), none, none, none] [] M Q :=
  (x_lldn c109_0 rfl (x_lstn (l' := [some (jR 31), some (jL x1), none, some (jL x1), none]) c109_1 rfl (x_aldn c109_2 rfl (x_ci c109_3 (x_pfi c109_4 k_31_7 (wp_wk (l' := [some (jR 31), none, none, some (jL x1), none]) ⟨rfl, ⟨rfl, trivial⟩⟩ H))))))
theorem s109_7 {kc : List va_E} {d : Nat} {v3 : Int} {M : fx_M} {Q : Option fx_V → fx_M → Prop} (H : ((fx_in32 (M 31 7))) ∧ (36 ≤ M 31 7 → Q (some (jL v3)) M) ∧ (M 31 7 < 36 → wc kc d 110 [jR 31, jL v3] M (fun v M1 => wp kc (d + 1) 109 21 [some (jR 31), none, none, some (jL v3), none] (v.toList ++ []) M1 Q))) : wp kc (d + 1) 109 7 [some (jR 31), none, none, some (jL v3), none] [] M Q :=
  (x_aldn c109_7 rfl (x_gfi c109_8 k_31_7 (x_ci c109_11 (x_cge c109_13 H.1 (by decide) (fun h1 => (x_lldn c109_73 rfl (x_lrt c109_74 r109 (H.2.1 h1)))) (fun h2 => (x_aldn c109_16 rfl (x_lldn c109_17 rfl (wp_wk (l' := [some (jR 31), none, none, some (jL v3), none]) ⟨rfl, ⟨rfl, trivial⟩⟩ (x_cv (As := [jL v3]) (st := []) c109_18 cl_31 kl110 rfl (Nat.le_of_ble_eq_true rfl) mx110 (Nat.le_refl _) (H.2.2 h2))))))))))
theorem s109_21 {kc : List va_E} {d : Nat} {v3 u0 : Int} {M : fx_M} {Q : Option fx_V → fx_M → Prop} (H : ((fx_in32 u0)) ∧ (u0 = 0 → Q (some (jL v3)) M) ∧ (u0 ≠ 0 → ((fx_in32 (M 31 2))) ∧ (M 31 2 = 0 → wc kc d 113 [jL v3, jI (M 31 5), jI (M 31 6)] M (fun v M1 => wp kc (d + 1) 109 49 [some (jR 31), none, none, none, none] (v.toList ++ []) M1 Q)) ∧ (M 31 2 ≠ 0 → wc kc d 112 [jR 31, jL v3, jI 0] M (fun v M1 => wp kc (d + 1) 109 37 [some (jR 31), none, none, some (jL v3), none] (v.toList ++ []) M1 Q)))) : wp kc (d + 1) 109 21 [some (jR 31), none, none, some (jL v3), none] [jI u0] M Q :=
  (x_zeq c109_21 H.1 (fun h3 => (x_lldn c109_73 rfl (x_lrt c109_74 r109 (H.2.1 h3)))) (fun h4 => (x_aldn c109_24 rfl (x_gfi c109_25 k_31_2 (x_zeq c109_28 (H.2.2 h4).1 (fun h1 => (x_lldn c109_37 rfl (x_aldn c109_38 rfl (x_gfi c109_39 k_31_5 (x_aldn c109_42 rfl (x_gfi c109_43 k_31_6 (wp_wk (l' := [some (jR 31), none, none, none, none]) ⟨rfl, trivial⟩ (x_cs (As := [jL v3, jI (M 31 5), jI (M 31 6)]) (st := []) c109_46 (by decide) rfl (Nat.le_of_ble_eq_true rfl) mx113 (Nat.le_refl _) ((H.2.2 h4).2.1 h1))))))))) (fun h2 => (x_aldn c109_31 rfl (x_lldn c109_32 rfl (x_ci c109_33 (wp_wk (l' := [some (jR 31), none, none, some (jL v3), none]) ⟨rfl, ⟨rfl, trivial⟩⟩ (x_cv (As := [jL v3, jI 0]) (st := []) c109_34 cl_31 kl112 rfl (Nat.le_of_ble_eq_true rfl) mx112 (Nat.le_refl _) ((H.2.2 h4).2.2 h2))))))))))))
theorem s109_37 {kc : List va_E} {d : Nat} {v3 : Int} {M : fx_M} {Q : Option fx_V → fx_M → Prop} (H : wc kc d 113 [jL v3, jI (M 31 5), jI (M 31 6)] M (fun v M1 => wp kc (d + 1) 109 49 [some (jR 31), none, none, none, none] (v.toList ++ []) M1 Q)) : wp kc (d + 1) 109 37 [some (jR 31), none, none, some (jL v3), none] [] M Q :=
  (x_lldn c109_37 rfl (x_aldn c109_38 rfl (x_gfi c109_39 k_31_5 (x_aldn c109_42 rfl (x_gfi c109_43 k_31_6 (wp_wk (l' := [some (jR 31), none, none, none, none]) ⟨rfl, trivial⟩ (x_cs (As := [jL v3, jI (M 31 5), jI (M 31 6)]) (st := []) c109_46 (by decide) rfl (Nat.le_of_ble_eq_true rfl) mx113 (Nat.le_refl _) H)))))))
theorem s109_49 {kc : List va_E} {d : Nat} {u0 : Int} {M : fx_M} {Q : Option fx_V → fx_M → Prop} (H : wc kc d 86 [jL u0, jI (M 31 5)] (fx_up M 31 7 ((M 31 7) + 1)) (fun v M1 => wp kc (d + 1) 109 68 [some (jR 31), none, none, some (jL u0), none] (v.toList ++ []) M1 Q)) : wp kc (d + 1) 109 49 [some (jR 31), none, none, none, none] [jL u0] M Q :=
  (x_lstn (l' := [some (jR 31), none, none, some (jL u0), none]) c109_49 rfl (x_aldn c109_50 rfl (x_dupr c109_51 (x_gfi c109_52 k_31_7 (x_ci c109_55 (x_iadd c109_56 (x_pfi c109_57 k_31_7 (x_lldn c109_60 rfl (x_aldn c109_61 rfl (x_gfi c109_62 k_31_5 (wp_vI (fx_upK (by decide)) (wp_wk (l' := [some (jR 31), none, none, some (jL u0), none]) ⟨rfl, ⟨rfl, trivial⟩⟩ (x_cs (As := [jL u0, jI (M 31 5)]) (st := []) c109_65 (by decide) rfl (Nat.le_of_ble_eq_true rfl) mx86 (Nat.le_refl _) H)))))))))))))
theorem s109_68 {kc : List va_E} {d : Nat} {v3 u0 : Int} {M : fx_M} {Q : Option fx_V → fx_M → Prop} (H : ((fx_in32 u0)) ∧ (u0 ≠ 0 → wp kc (d + 1) 109 7 [some (jR 31), none, none, some (jL v3), none] [] M Q) ∧ (u0 = 0 → Q (some (jL v3)) M)) : wp kc (d + 1) 109 68 [some (jR 31), none, none, some (jL v3), none] [jI u0] M Q :=
  (x_zne c109_68 H.1 (fun h1 => (wp_wk (l' := [some (jR 31), none, none, some (jL v3), none]) ⟨rfl, ⟨rfl, trivial⟩⟩ (H.2.1 h1))) (fun h2 => (x_lldn c109_71 rfl (x_lrt c109_72 r109 (H.2.2 h2)))))
theorem s109 {kc : List va_E} {d : Nat} {x1 : Int} {M : fx_M} {Q : Option fx_V → fx_M → Prop} (H : wp kc (d + 1) 109 7 [some (jR 31), none, none, some (jL x1), none] [] (fx_up M 31 7 0) Q) : wc kc (d + 1) 109 [jR 31, jL x1] M Q :=
  wc_of (wp_wk (l' := [some (jR 31), some (jL x1), none, none, none]) ⟨rfl, ⟨rfl, trivial⟩⟩ (s109_0 H))

/- PuzzleHouse$Reasons.findOne(J)Z -/
theorem c110_0 : fx_ci 110 0 = some (0, 1) := by decide +kernel
theorem c110_1 : fx_op 110 1 = some (.istore_n 3, 2, 1) := by decide +kernel
theorem c110_2 : fx_op 110 2 = some (.iload_n 3, 3, 2) := by decide +kernel
theorem c110_3 : fx_op 110 3 = some (.aload_n 0, 4, 3) := by decide +kernel
theorem c110_4 : fx_gf 110 4 = some (5, 0, 7) := by decide +kernel
theorem c110_7 : fx_gf 110 7 = some (3, 4, 10) := by decide +kernel
theorem c110_10 : fx_op 110 10 = some (.if_icmp .ge 104, 13, 114) := by decide +kernel
theorem c110_114 : fx_ci 110 114 = some (0, 115) := by decide +kernel
theorem c110_13 : fx_op 110 13 = some (.aload_n 0, 14, 13) := by decide +kernel
theorem c110_14 : fx_gf 110 14 = some (5, 0, 17) := by decide +kernel
theorem c110_17 : fx_op 110 17 = some (.iload_n 3, 18, 17) := by decide +kernel
theorem c110_18 : fx_op 110 18 = some (.lload_n 1, 19, 18) := by decide +kernel
theorem c110_115 : fx_op 110 115 = some (.ireturn, 116, 115) := by decide +kernel
theorem c110_19 : fx_ca 110 19 = some (111, 3, 2, 22) := by decide +kernel
theorem c110_22 : fx_op 110 22 = some (.istore 4, 24, 22) := by decide +kernel
theorem c110_24 : fx_ci 110 24 = some (0, 25) := by decide +kernel
theorem c110_25 : fx_op 110 25 = some (.istore 5, 27, 25) := by decide +kernel
theorem c110_27 : fx_op 110 27 = some (.iload 5, 29, 27) := by decide +kernel
theorem c110_29 : fx_op 110 29 = some (.aload_n 0, 30, 29) := by decide +kernel
theorem c110_30 : fx_gf 110 30 = some (5, 0, 33) := by decide +kernel
theorem c110_33 : fx_gf 110 33 = some (3, 7, 36) := by decide +kernel
theorem c110_36 : fx_op 110 36 = some (.iload_n 3, 37, 36) := by decide +kernel
theorem c110_38 : fx_op 110 38 = some (.if_icmp .ge 70, 41, 108) := by decide +kernel
theorem c110_108 : fx_op 110 108 = some (.iinc 3 1, 111, 108) := by decide +kernel
theorem c110_41 : fx_op 110 41 = some (.aload_n 0, 42, 41) := by decide +kernel
theorem c110_42 : fx_gf 110 42 = some (5, 0, 45) := by decide +kernel
theorem c110_45 : fx_gf 110 45 = some (3, 8, 48) := by decide +kernel
theorem c110_48 : fx_ci 110 48 = some (4, 49) := by decide +kernel
theorem c110_49 : fx_op 110 49 = some (.iload_n 3, 50, 49) := by decide +kernel
theorem c110_50 : fx_op 110 50 = some (.imul, 51, 50) := by decide +kernel
theorem c110_51 : fx_op 110 51 = some (.iload 5, 53, 51) := by decide +kernel
theorem c110_53 : fx_op 110 53 = some (.iadd, 54, 53) := by decide +kernel
theorem c110_55 : fx_op 110 55 = some (.istore 6, 57, 55) := by decide +kernel
theorem c110_57 : fx_op 110 57 = some (.lload_n 1, 58, 57) := by decide +kernel
theorem c110_58 : fx_op 110 58 = some (.iload 6, 60, 58) := by decide +kernel
theorem c110_37 : fx_op 110 37 = some (.iaload, 38, 37) := by decide +kernel
theorem c110_111 : fx_op 110 111 = some (.goto (-109), 114, 2) := by decide +kernel
theorem c110_54 : fx_op 110 54 = some (.iaload, 55, 54) := by decide +kernel
theorem c110_60 : fx_ca 110 60 = some (86, 2, 1, 63) := by decide +kernel
theorem c110_63 : fx_op 110 63 = some (.iload 4, 65, 63) := by decide +kernel
theorem c110_65 : fx_ci 110 65 = some (4, 66) := by decide +kernel
theorem c110_66 : fx_op 110 66 = some (.iload 5, 68, 66) := by decide +kernel
theorem c110_68 : fx_op 110 68 = some (.imul, 69, 68) := by decide +kernel
theorem c110_69 : fx_op 110 69 = some (.ishr, 70, 69) := by decide +kernel
theorem c110_70 : fx_ci 110 70 = some ((-1), 71) := by decide +kernel
theorem c110_71 : fx_op 110 71 = some (.ixor, 72, 71) := by decide +kernel
theorem c110_72 : fx_op 110 72 = some (.iand, 73, 72) := by decide +kernel
theorem c110_73 : fx_op 110 73 = some (.istore 7, 75, 73) := by decide +kernel
theorem c110_75 : fx_op 110 75 = some (.iload 7, 77, 75) := by decide +kernel
theorem c110_77 : fx_op 110 77 = some (.ifCond .eq 25, 80, 102) := by decide +kernel
theorem c110_102 : fx_op 110 102 = some (.iinc 5 1, 105, 102) := by decide +kernel
theorem c110_80 : fx_op 110 80 = some (.aload_n 0, 81, 80) := by decide +kernel
theorem c110_81 : fx_op 110 81 = some (.iload_n 3, 82, 81) := by decide +kernel
theorem c110_82 : fx_pf 110 82 = some (5, 3, 0, 85) := by decide +kernel
theorem c110_85 : fx_op 110 85 = some (.aload_n 0, 86, 85) := by decide +kernel
theorem c110_86 : fx_op 110 86 = some (.iload 6, 88, 86) := by decide +kernel
theorem c110_88 : fx_pf 110 88 = some (5, 5, 0, 91) := by decide +kernel
theorem c110_91 : fx_op 110 91 = some (.aload_n 0, 92, 91) := by decide +kernel
theorem c110_92 : fx_op 110 92 = some (.iload 7, 94, 92) := by decide +kernel
theorem c110_105 : fx_op 110 105 = some (.goto (-78), 108, 27) := by decide +kernel
theorem c110_94 : fx_ca 110 94 = some (87, 1, 1, 97) := by decide +kernel
theorem c110_97 : fx_pf 110 97 = some (5, 6, 0, 100) := by decide +kernel
theorem c110_100 : fx_ci 110 100 = some (1, 101) := by decide +kernel
theorem c110_101 : fx_op 110 101 = some (.ireturn, 102, 101) := by decide +kernel
theorem s110_0 {kc : List va_E} {d : Nat} {x1 : Int} {M : fx_M} {Q : Option fx_V → fx_M → Prop} (H : wp kc (d + 1) 110 2 [some (jR 31), some (jL x1), none, some (jI 0), none, none, none, none] [] M Q) : wp kc (d + 1) 110 0 [some (jR 31), some (jL x1), none, none, none, none, none, none] [] M Q :=
  (x_ci c110_0 (x_istn (l' := [some (jR 31), some (jL x1), none, some (jI 0), none, none, none, none]) c110_1 rfl (wp_wk (l' := [some (jR 31), some (jL x1), none, some (jI 0), none, none, none, none]) ⟨rfl, ⟨rfl, ⟨rfl, trivial⟩⟩⟩ H)))
theorem s110_2 {kc : List va_E} {d : Nat} {v1 v3 : Int} {M : fx_M} {Q : Option fx_V → fx_M → Prop} (H : ((fx_in32 v3) ∧ (fx_in32 (M 11 4))) ∧ (M 11 4 ≤ v3 → Q (some (jI 0)) M) ∧ (v3 < M 11 4 → wc kc d 111 [jR 11, jI v3, jL v1] M (fun v M1 => wp kc (d + 1) 110 22 [some (jR 31), some (jL v1), none, some (jI v3), none, none, none, none] (v.toList ++ []) M1 Q))) : wp kc (d + 1) 110 2 [some (jR 31), some (jL v1), none, some (jI v3), none, none, none, none] [] M Q :=
  (x_ildn c110_2 rfl (x_aldn c110_3 rfl (x_gfr c110_4 k_31_0 (x_gfi c110_7 k_11_4 (x_cge c110_10 H.1.1 H.1.2 (fun h1 => (x_ci c110_114 (x_zrt c110_115 r110 (by decide) (H.2.1 h1)))) (fun h2 => (x_aldn c110_13 rfl (x_gfr c110_14 k_31_0 (x_ildn c110_17 rfl (x_lldn c110_18 rfl (wp_wk (l' := [some (jR 31), some (jL v1), none, some (jI v3), none, none, none, none]) ⟨rfl, ⟨rfl, ⟨rfl, trivial⟩⟩⟩ (x_cv (As := [jI v3, jL v1]) (st := []) c110_19 cl_11 kl111 rfl (Nat.le_of_ble_eq_true rfl) mx111 (Nat.le_refl _) (H.2.2 h2)))))))))))))
theorem s110_22 {kc : List va_E} {d : Nat} {v1 v3 u0 : Int} {M : fx_M} {Q : Option fx_V → fx_M → Prop} (H : wp kc (d + 1) 110 27 [some (jR 31), some (jL v1), none, some (jI v3), some (jI u0), some (jI 0), none, none] [] M Q) : wp kc (d + 1) 110 22 [some (jR 31), some (jL v1), none, some (jI v3), none, none, none, none] [jI u0] M Q :=
  (x_ist (l' := [some (jR 31), some (jL v1), none, some (jI v3), some (jI u0), none, none, none]) c110_22 rfl (x_ci c110_24 (x_ist (l' := [some (jR 31), some (jL v1), none, some (jI v3), some (jI u0), some (jI 0), none, none]) c110_25 rfl (wp_wk (l' := [some (jR 31), some (jL v1), none, some (jI v3), some (jI u0), some (jI 0), none, none]) ⟨rfl, ⟨rfl, ⟨rfl, ⟨rfl, ⟨rfl, trivial⟩⟩⟩⟩⟩ H))))
theorem s110_27 {kc : List va_E} {d : Nat} {v1 v3 v4 v5 : Int} {M : fx_M} {Q : Option fx_V → fx_M → Prop} (H : (((0 : Int) ≤ v3 ∧ v3 < 12)) ∧ ((fx_in32 v5) ∧ (fx_in32 (M 14 v3))) ∧ (M 14 v3 ≤ v5 → wp kc (d + 1) 110 2 [some (jR 31), some (jL v1), none, some (jI (v3 + 1)), none, none, none, none] [] M Q) ∧ (v5 < M 14 v3 → (((0 : Int) ≤ (4 * v3) + v5 ∧ (4 * v3) + v5 < 48)) ∧ wc kc d 86 [jL v1, jI (M 15 ((4 * v3) + v5))] M (fun v M1 => wp kc (d + 1) 110 63 [some (jR 31), some (jL v1), none, some (jI v3), some (jI v4), some (jI v5), some (jI (M 15 ((4 * v3) + v5))), none] (v.toList ++ []) M1 Q))) : wp kc (d + 1) 110 27 [some (jR 31), some (jL v1), none, some (jI v3), some (jI v4), some (jI v5), none, none] [] M Q :=
  (x_ild c110_27 rfl (x_aldn c110_29 rfl (x_gfr c110_30 k_31_0 (x_gfr c110_33 k_11_7 (x_ildn c110_36 rfl (x_iald c110_37 a_14 H.1 (by decide) (x_cge c110_38 H.2.1.1 H.2.1.2 (fun h1 => (x_inc (l' := [some (jR 31), some (jL v1), none, some (jI (v3 + 1)), some (jI v4), some (jI v5), none, none]) c110_108 rfl rfl (x_goto c110_111 (wp_wk (l' := [some (jR 31), some (jL v1), none, some (jI (v3 + 1)), none, none, none, none]) ⟨rfl, ⟨rfl, ⟨rfl, trivial⟩⟩⟩ (H.2.2.1 h1))))) (fun h2 => (x_aldn c110_41 rfl (x_gfr c110_42 k_31_0 (x_gfr c110_45 k_11_8 (x_ci c110_48 (x_ildn c110_49 rfl (x_imul c110_50 (x_ild c110_51 rfl (x_iadd c110_53 (x_iald c110_54 a_15 (H.2.2.2 h2).1 (by decide) (x_ist (l' := [some (jR 31), some (jL v1), none, some (jI v3), some (jI v4), some (jI v5), some (jI (M 15 ((4 * v3) + v5))), none]) c110_55 rfl (x_lldn c110_57 rfl (x_ild c110_58 rfl (wp_wk (l' := [some (jR 31), some (jL v1), none, some (jI v3), some (jI v4), some (jI v5), some (jI (M 15 ((4 * v3) + v5))), none]) ⟨rfl, ⟨rfl, ⟨rfl, ⟨rfl, ⟨rfl, ⟨rfl, trivial⟩⟩⟩⟩⟩⟩ (x_cs (As := [jL v1, jI (M 15 ((4 * v3) + v5))]) (st := []) c110_60 (by decide) rfl (Nat.le_of_ble_eq_true rfl) mx86 (Nat.le_refl _) (H.2.2.2 h2).2))))))))))))))))))))))
theorem s110_63 {kc : List va_E} {d : Nat} {v1 v3 v4 v5 v6 u0 : Int} {M : fx_M} {Q : Option fx_V → fx_M → Prop} (H : ((fx_in32 (fx_and u0 (fx_xor (fx_shr v4 (4 * v5)) (-1))))) ∧ (fx_and u0 (fx_xor (fx_shr v4 (4 * v5)) (-1)) = 0 → wp kc (d + 1) 110 27 [some (jR 31), some (jL v1), none, some (jI v3), some (jI v4), some (jI (v5 + 1)), none, none] [] M Q) ∧ (fx_and u0 (fx_xor (fx_shr v4 (4 * v5)) (-1)) ≠ 0 → wc kc d 87 [jI (fx_and u0 (fx_xor (fx_shr v4 (4 * v5)) (-1)))] (fx_up (fx_up M 31 3 v3) 31 5 v6) (fun v M1 => wp kc (d + 1) 110 97 [none, none, none, none, none, none, none, none] (v.toList ++ [jR 31]) M1 Q))) : wp kc (d + 1) 110 63 [some (jR 31), some (jL v1), none, some (jI v3), some (jI v4), some (jI v5), some (jI v6), none] [jI u0] M Q :=
  (x_ild c110_63 rfl (x_ci c110_65 (x_ild c110_66 rfl (x_imul c110_68 (x_ishr c110_69 (x_ci c110_70 (x_ixor c110_71 (x_iand c110_72 (x_ist (l' := [some (jR 31), some (jL v1), none, some (jI v3), some (jI v4), some (jI v5), some (jI v6), some (jI (fx_and u0 (fx_xor (fx_shr v4 (4 * v5)) (-1))))]) c110_73 rfl (x_ild c110_75 rfl (x_zeq c110_77 H.1 (fun h1 => (x_inc (l' := [some (jR 31), some (jL v1), none, some (jI v3), some (jI v4), some (jI (v5 + 1)), some (jI v6), some (jI (fx_and u0 (fx_xor (fx_shr v4 (4 * v5)) (-1))))]) c110_102 rfl rfl (x_goto c110_105 (wp_wk (l' := [some (jR 31), some (jL v1), none, some (jI v3), some (jI v4), some (jI (v5 + 1)), none, none]) ⟨rfl, ⟨rfl, ⟨rfl, ⟨rfl, ⟨rfl, trivial⟩⟩⟩⟩⟩ (H.2.1 h1))))) (fun h2 => (x_aldn c110_80 rfl (x_ildn c110_81 rfl (x_pfi c110_82 k_31_3 (x_aldn c110_85 rfl (x_ild c110_86 rfl (x_pfi c110_88 k_31_5 (x_aldn c110_91 rfl (x_ild c110_92 rfl (wp_wk (l' := [none, none, none, none, none, none, none, none]) trivial (x_cs (As := [jI (fx_and u0 (fx_xor (fx_shr v4 (4 * v5)) (-1)))]) (st := [jR 31]) c110_94 (by decide) rfl (Nat.le_of_ble_eq_true rfl) mx87 (Nat.le_refl _) (H.2.2 h2)))))))))))))))))))))))
theorem s110_97 {kc : List va_E} {d : Nat} {u0 : Int} {M : fx_M} {Q : Option fx_V → fx_M → Prop} (H : Q (some (jI 1)) (fx_up M 31 6 u0)) : wp kc (d + 1) 110 97 [none, none, none, none, none, none, none, none] [jI u0, jR 31] M Q :=
  (x_pfi c110_97 k_31_6 (x_ci c110_100 (x_zrt c110_101 r110 (by decide) H)))
theorem s110 {kc : List va_E} {d : Nat} {x1 : Int} {M : fx_M} {Q : Option fx_V → fx_M → Prop} (H : wp kc (d + 1) 110 2 [some (jR 31), some (jL x1), none, some (jI 0), none, none, none, none] [] M Q) : wc kc (d + 1) 110 [jR 31, jL x1] M Q :=
  wc_of (wp_wk (l' := [some (jR 31), some (jL x1), none, none, none, none, none, none]) ⟨rfl, ⟨rfl, trivial⟩⟩ (s110_0 H))

/- PuzzleHouse$Reasons.writeReason(JZ)V -/
theorem c112_0 : fx_ci 112 0 = some (1, 1) := by decide +kernel
theorem c112_1 : fx_op 112 1 = some (.aload_n 0, 2, 1) := by decide +kernel
theorem c112_2 : fx_gf 112 2 = some (5, 0, 5) := by decide +kernel
theorem c112_5 : fx_gf 112 5 = some (3, 3, 8) := by decide +kernel
theorem c112_8 : fx_op 112 8 = some (.ishl, 9, 8) := by decide +kernel
theorem c112_9 : fx_ci 112 9 = some (1, 10) := by decide +kernel
theorem c112_10 : fx_op 112 10 = some (.isub, 11, 10) := by decide +kernel
theorem c112_11 : fx_op 112 11 = some (.istore 4, 13, 11) := by decide +kernel
theorem c112_13 : fx_op 112 13 = some (.aload_n 0, 14, 13) := by decide +kernel
theorem c112_14 : fx_gf 112 14 = some (5, 0, 17) := by decide +kernel
theorem c112_17 : fx_gf 112 17 = some (3, 7, 20) := by decide +kernel
theorem c112_20 : fx_op 112 20 = some (.aload_n 0, 21, 20) := by decide +kernel
theorem c112_21 : fx_gf 112 21 = some (5, 3, 24) := by decide +kernel
theorem c112_25 : fx_op 112 25 = some (.istore 5, 27, 25) := by decide +kernel
theorem c112_27 : fx_op 112 27 = some (.iload_n 3, 28, 27) := by decide +kernel
theorem c112_28 : fx_op 112 28 = some (.ifCond .eq 21, 31, 49) := by decide +kernel
theorem c112_49 : fx_op 112 49 = some (.iload 5, 51, 49) := by decide +kernel
theorem c112_31 : fx_op 112 31 = some (.iload 5, 33, 31) := by decide +kernel
theorem c112_33 : fx_op 112 33 = some (.aload_n 0, 34, 33) := by decide +kernel
theorem c112_34 : fx_gf 112 34 = some (5, 0, 37) := by decide +kernel
theorem c112_37 : fx_gf 112 37 = some (3, 7, 40) := by decide +kernel
theorem c112_40 : fx_op 112 40 = some (.aload_n 0, 41, 40) := by decide +kernel
theorem c112_41 : fx_gf 112 41 = some (5, 4, 44) := by decide +kernel
theorem c112_44 : fx_op 112 44 = some (.iaload, 45, 44) := by decide +kernel
theorem c112_45 : fx_op 112 45 = some (.iadd, 46, 45) := by decide +kernel
theorem c112_46 : fx_op 112 46 = some (.goto 5, 49, 51) := by decide +kernel
theorem c112_51 : fx_op 112 51 = some (.istore 6, 53, 51) := by decide +kernel
theorem c112_53 : fx_op 112 53 = some (.aload_n 0, 54, 53) := by decide +kernel
theorem c112_54 : fx_gf 112 54 = some (5, 1, 57) := by decide +kernel
theorem c112_57 : fx_op 112 57 = some (.iload_n 3, 58, 57) := by decide +kernel
theorem c112_58 : fx_op 112 58 = some (.ifCond .eq 8, 61, 66) := by decide +kernel
theorem c112_66 : fx_ci 112 66 = some (114, 68) := by decide +kernel
theorem c112_61 : fx_ci 112 61 = some (119, 63) := by decide +kernel
theorem c112_63 : fx_op 112 63 = some (.goto 5, 66, 68) := by decide +kernel
theorem c112_24 : fx_op 112 24 = some (.iaload, 25, 24) := by decide +kernel
theorem c112_68 : fx_ca 112 68 = some (69, 2, 2, 71) := by decide +kernel
theorem c112_71 : fx_op 112 71 = some (.aload_n 0, 72, 71) := by decide +kernel
theorem c112_72 : fx_gf 112 72 = some (5, 1, 75) := by decide +kernel
theorem c112_75 : fx_op 112 75 = some (.aload_n 0, 76, 75) := by decide +kernel
theorem c112_76 : fx_gf 112 76 = some (5, 3, 79) := by decide +kernel
theorem c112_79 : fx_ca 112 79 = some (65, 2, 2, 82) := by decide +kernel
theorem c112_82 : fx_op 112 82 = some (.iload_n 3, 83, 82) := by decide +kernel
theorem c112_83 : fx_op 112 83 = some (.ifCond .eq 23, 86, 106) := by decide +kernel
theorem c112_86 : fx_op 112 86 = some (.aload_n 0, 87, 86) := by decide +kernel
theorem c112_87 : fx_gf 112 87 = some (5, 1, 90) := by decide +kernel
theorem c112_90 : fx_ci 112 90 = some (32, 92) := by decide +kernel
theorem c112_106 : fx_op 112 106 = some (.aload_n 0, 107, 106) := by decide +kernel
theorem c112_107 : fx_gf 112 107 = some (5, 1, 110) := by decide +kernel
theorem c112_110 : fx_ci 112 110 = some (45, 112) := by decide +kernel
theorem c112_112 : fx_op 112 112 = some (.aload_n 0, 113, 112) := by decide +kernel
theorem c112_113 : fx_gf 112 113 = some (5, 5, 116) := by decide +kernel
theorem c112_116 : fx_ci 112 116 = some (1, 117) := by decide +kernel
theorem c112_117 : fx_op 112 117 = some (.aload_n 0, 118, 117) := by decide +kernel
theorem c112_118 : fx_gf 112 118 = some (5, 6, 121) := by decide +kernel
theorem c112_121 : fx_op 112 121 = some (.ishl, 122, 121) := by decide +kernel
theorem c112_122 : fx_ca 112 122 = some (107, 4, 2, 125) := by decide +kernel
theorem c112_92 : fx_ca 112 92 = some (69, 2, 2, 95) := by decide +kernel
theorem c112_125 : fx_ci 112 125 = some (0, 126) := by decide +kernel
theorem c112_126 : fx_op 112 126 = some (.istore 7, 128, 126) := by decide +kernel
theorem c112_95 : fx_op 112 95 = some (.aload_n 0, 96, 95) := by decide +kernel
theorem c112_96 : fx_gf 112 96 = some (5, 1, 99) := by decide +kernel
theorem c112_99 : fx_op 112 99 = some (.aload_n 0, 100, 99) := by decide +kernel
theorem c112_100 : fx_gf 112 100 = some (5, 4, 103) := by decide +kernel
theorem c112_103 : fx_ca 112 103 = some (65, 2, 2, 106) := by decide +kernel
theorem c112_128 : fx_op 112 128 = some (.iload 7, 130, 128) := by decide +kernel
theorem c112_130 : fx_op 112 130 = some (.iload 6, 132, 130) := by decide +kernel
theorem c112_132 : fx_op 112 132 = some (.if_icmp .ge 116, 135, 248) := by decide +kernel
theorem c112_135 : fx_op 112 135 = some (.iload 7, 137, 135) := by decide +kernel
theorem c112_137 : fx_op 112 137 = some (.iload 5, 139, 137) := by decide +kernel
theorem c112_139 : fx_op 112 139 = some (.if_icmp .ge 23, 142, 162) := by decide +kernel
theorem c112_162 : fx_op 112 162 = some (.aload_n 0, 163, 162) := by decide +kernel
theorem c112_163 : fx_gf 112 163 = some (5, 0, 166) := by decide +kernel
theorem c112_166 : fx_gf 112 166 = some (3, 8, 169) := by decide +kernel
theorem c112_169 : fx_ci 112 169 = some (4, 170) := by decide +kernel
theorem c112_170 : fx_op 112 170 = some (.aload_n 0, 171, 170) := by decide +kernel
theorem c112_171 : fx_gf 112 171 = some (5, 4, 174) := by decide +kernel
theorem c112_174 : fx_op 112 174 = some (.imul, 175, 174) := by decide +kernel
theorem c112_175 : fx_op 112 175 = some (.iload 7, 177, 175) := by decide +kernel
theorem c112_177 : fx_op 112 177 = some (.iadd, 178, 177) := by decide +kernel
theorem c112_178 : fx_op 112 178 = some (.iload 5, 180, 178) := by decide +kernel
theorem c112_180 : fx_op 112 180 = some (.isub, 181, 180) := by decide +kernel
theorem c112_181 : fx_op 112 181 = some (.iaload, 182, 181) := by decide +kernel
theorem c112_182 : fx_op 112 182 = some (.istore 8, 184, 182) := by decide +kernel
theorem c112_184 : fx_op 112 184 = some (.iload 8, 186, 184) := by decide +kernel
theorem c112_186 : fx_op 112 186 = some (.aload_n 0, 187, 186) := by decide +kernel
theorem c112_187 : fx_gf 112 187 = some (5, 5, 190) := by decide +kernel
theorem c112_190 : fx_op 112 190 = some (.if_icmp .eq 52, 193, 242) := by decide +kernel
theorem c112_242 : fx_op 112 242 = some (.iinc 7 1, 245, 242) := by decide +kernel
theorem c112_248 : fx_op 112 248 = some (.aload_n 0, 249, 248) := by decide +kernel
theorem c112_249 : fx_gf 112 249 = some (5, 1, 252) := by decide +kernel
theorem c112_252 : fx_ci 112 252 = some (59, 254) := by decide +kernel
theorem c112_142 : fx_op 112 142 = some (.aload_n 0, 143, 142) := by decide +kernel
theorem c112_143 : fx_gf 112 143 = some (5, 0, 146) := by decide +kernel
theorem c112_146 : fx_gf 112 146 = some (3, 8, 149) := by decide +kernel
theorem c112_149 : fx_ci 112 149 = some (4, 150) := by decide +kernel
theorem c112_150 : fx_op 112 150 = some (.aload_n 0, 151, 150) := by decide +kernel
theorem c112_151 : fx_gf 112 151 = some (5, 3, 154) := by decide +kernel
theorem c112_154 : fx_op 112 154 = some (.imul, 155, 154) := by decide +kernel
theorem c112_155 : fx_op 112 155 = some (.iload 7, 157, 155) := by decide +kernel
theorem c112_157 : fx_op 112 157 = some (.iadd, 158, 157) := by decide +kernel
theorem c112_158 : fx_op 112 158 = some (.iaload, 159, 158) := by decide +kernel
theorem c112_159 : fx_op 112 159 = some (.goto 23, 162, 182) := by decide +kernel
theorem c112_193 : fx_op 112 193 = some (.iload 7, 195, 193) := by decide +kernel
theorem c112_195 : fx_op 112 195 = some (.iload 5, 197, 195) := by decide +kernel
theorem c112_197 : fx_op 112 197 = some (.if_icmp .lt 23, 200, 220) := by decide +kernel
theorem c112_220 : fx_op 112 220 = some (.aload_n 0, 221, 220) := by decide +kernel
theorem c112_221 : fx_gf 112 221 = some (5, 1, 224) := by decide +kernel
theorem c112_224 : fx_ci 112 224 = some (43, 226) := by decide +kernel
theorem c112_226 : fx_op 112 226 = some (.iload 8, 228, 226) := by decide +kernel
theorem c112_228 : fx_op 112 228 = some (.iload 4, 230, 228) := by decide +kernel
theorem c112_230 : fx_op 112 230 = some (.lload_n 1, 231, 230) := by decide +kernel
theorem c112_231 : fx_op 112 231 = some (.iload 8, 233, 231) := by decide +kernel
theorem c112_200 : fx_op 112 200 = some (.aload_n 0, 201, 200) := by decide +kernel
theorem c112_201 : fx_gf 112 201 = some (5, 0, 204) := by decide +kernel
theorem c112_204 : fx_gf 112 204 = some (3, 9, 207) := by decide +kernel
theorem c112_207 : fx_op 112 207 = some (.aload_n 0, 208, 207) := by decide +kernel
theorem c112_208 : fx_gf 112 208 = some (5, 3, 211) := by decide +kernel
theorem c112_212 : fx_op 112 212 = some (.iload 8, 214, 212) := by decide +kernel
theorem c112_214 : fx_op 112 214 = some (.ishr, 215, 214) := by decide +kernel
theorem c112_215 : fx_ci 112 215 = some (1, 216) := by decide +kernel
theorem c112_216 : fx_op 112 216 = some (.iand, 217, 216) := by decide +kernel
theorem c112_217 : fx_op 112 217 = some (.ifCond .ne 25, 220, 242) := by decide +kernel
theorem c112_254 : fx_ca 112 254 = some (69, 2, 2, 257) := by decide +kernel
theorem c112_245 : fx_op 112 245 = some (.goto (-117), 248, 128) := by decide +kernel
theorem c112_233 : fx_ca 112 233 = some (86, 2, 1, 236) := by decide +kernel
theorem c112_211 : fx_op 112 211 = some (.iaload, 212, 211) := by decide +kernel
theorem c112_257 : fx_op 112 257 = some (.return_, 258, 257) := by decide +kernel
theorem c112_236 : fx_ci 112 236 = some ((-1), 237) := by decide +kernel
theorem c112_237 : fx_op 112 237 = some (.ixor, 238, 237) := by decide +kernel
theorem c112_238 : fx_op 112 238 = some (.iand, 239, 238) := by decide +kernel
theorem c112_239 : fx_ca 112 239 = some (107, 4, 2, 242) := by decide +kernel
theorem s112_0 {kc : List va_E} {d : Nat} {x1 x3 : Int} {M : fx_M} {Q : Option fx_V → fx_M → Prop} (H : (((0 : Int) ≤ M 31 3 ∧ M 31 3 < 12)) ∧ ((fx_in32 x3)) ∧ (x3 ≠ 0 → ((((0 : Int) ≤ M 31 4 ∧ M 31 4 < 12)))) ∧ ((fx_in32 x3)) ∧ wc kc d 69 [jR 3, jI (if x3 = 0 then (114 : Int) else 119)] M (fun v M1 => wp kc (d + 1) 112 71 [some (jR 31), some (jL x1), none, some (jI x3), some (jI ((fx_shl 1 (M 11 3)) - 1)), some (jI (M 14 (M 31 3))), some (jI (if x3 = 0 then (M 14 (M 31 3) : Int) else (M 14 (M 31 3)) + (M 14 (M 31 4)))), none, none] (v.toList ++ []) M1 Q)) : wp kc (d + 1) 112 0 [some (jR 31), some (jL x1), none, some (jI x3), none, none, none, none, none] [] M Q :=
  (x_ci c112_0 (x_aldn c112_1 rfl (x_gfr c112_2 k_31_0 (x_gfi c112_5 k_11_3 (x_ishl c112_8 (x_ci c112_9 (x_isub c112_10 (x_ist (l' := [some (jR 31), some (jL x1), none, some (jI x3), some (jI ((fx_shl 1 (M 11 3)) - 1)), none, none, none, none]) c112_11 rfl (x_aldn c112_13 rfl (x_gfr c112_14 k_31_0 (x_gfr c112_17 k_11_7 (x_aldn c112_20 rfl (x_gfi c112_21 k_31_3 (x_iald c112_24 a_14 H.1 (by decide) (x_ist (l' := [some (jR 31), some (jL x1), none, some (jI x3), some (jI ((fx_shl 1 (M 11 3)) - 1)), some (jI (M 14 (M 31 3))), none, none, none]) c112_25 rfl (x_ildn c112_27 rfl (have K : wp kc (d + 1) 112 51 [some (jR 31), some (jL x1), none, some (jI x3), some (jI ((fx_shl 1 (M 11 3)) - 1)), some (jI (M 14 (M 31 3))), none, none, none] [jI (if x3 = 0 then (M 14 (M 31 3) : Int) else (M 14 (M 31 3)) + (M 14 (M 31 4)))] M Q := (x_ist (l' := [some (jR 31), some (jL x1), none, some (jI x3), some (jI ((fx_shl 1 (M 11 3)) - 1)), some (jI (M 14 (M 31 3))), some (jI (if x3 = 0 then (M 14 (M 31 3) : Int) else (M 14 (M 31 3)) + (M 14 (M 31 4)))), none, none]) c112_51 rfl (x_aldn c112_53 rfl (x_gfr c112_54 k_31_1 (x_ildn c112_57 rfl (have K : wp kc (d + 1) 112 68 [some (jR 31), some (jL x1), none, some (jI x3), some (jI ((fx_shl 1 (M 11 3)) - 1)), some (jI (M 14 (M 31 3))), some (jI (if x3 = 0 then (M 14 (M 31 3) : Int) else (M 14 (M 31 3)) + (M 14 (M 31 4)))), none, none] [jI (if x3 = 0 then (114 : Int) else 119), jR 3] M Q := (wp_wk (l' := [some (jR 31), some (jL x1), none, some (jI x3), some (jI ((fx_shl 1 (M 11 3)) - 1)), some (jI (M 14 (M 31 3))), some (jI (if x3 = 0 then (M 14 (M 31 3) : Int) else (M 14 (M 31 3)) + (M 14 (M 31 4)))), none, none]) ⟨rfl, ⟨rfl, ⟨rfl, ⟨rfl, ⟨rfl, ⟨rfl, trivial⟩⟩⟩⟩⟩⟩ (x_cv (As := [jI (if x3 = 0 then (114 : Int) else 119)]) (st := []) c112_68 cl_3 kl69 rfl (Nat.le_of_ble_eq_true rfl) mx69 (Nat.le_refl _) H.2.2.2.2)); (x_zeq c112_58 H.2.2.2.1 (fun (h3 : x3 = 0) => (x_ci c112_66 (wp_wk (l' := [some (jR 31), some (jL x1), none, some (jI x3), some (jI ((fx_shl 1 (M 11 3)) - 1)), some (jI (M 14 (M 31 3))), some (jI (if x3 = 0 then (M 14 (M 31 3) : Int) else (M 14 (M 31 3)) + (M 14 (M 31 4)))), none, none]) ⟨rfl, ⟨rfl, ⟨rfl, ⟨rfl, ⟨rfl, ⟨rfl, trivial⟩⟩⟩⟩⟩⟩ (by have K := K; first | (simp only [if_pos h3] at K ⊢; exact K) | (exfalso; omega))))) (fun (h4 : x3 ≠ 0) => (x_ci c112_61 (x_goto c112_63 (wp_wk (l' := [some (jR 31), some (jL x1), none, some (jI x3), some (jI ((fx_shl 1 (M 11 3)) - 1)), some (jI (M 14 (M 31 3))), some (jI (if x3 = 0 then (M 14 (M 31 3) : Int) else (M 14 (M 31 3)) + (M 14 (M 31 4)))), none, none]) ⟨rfl, ⟨rfl, ⟨rfl, ⟨rfl, ⟨rfl, ⟨rfl, trivial⟩⟩⟩⟩⟩⟩ (by have K := K; first | (simp only [if_neg h4] at K ⊢; exact K) | (exfalso; omega)))))))))))); (x_zeq c112_28 H.2.1 (fun (h1 : x3 = 0) => (x_ild c112_49 rfl (wp_wk (l' := [some (jR 31), some (jL x1), none, some (jI x3), some (jI ((fx_shl 1 (M 11 3)) - 1)), some (jI (M 14 (M 31 3))), none, none, none]) ⟨rfl, ⟨rfl, ⟨rfl, ⟨rfl, ⟨rfl, trivial⟩⟩⟩⟩⟩ (by have K := K; first | (simp only [if_pos h1] at K ⊢; exact K) | (exfalso; omega))))) (fun (h2 : x3 ≠ 0) => (x_ild c112_31 rfl (x_aldn c112_33 rfl (x_gfr c112_34 k_31_0 (x_gfr c112_37 k_11_7 (x_aldn c112_40 rfl (x_gfi c112_41 k_31_4 (x_iald c112_44 a_14 (H.2.2.1 h2) (by decide) (x_iadd c112_45 (x_goto c112_46 (wp_wk (l' := [some (jR 31), some (jL x1), none, some (jI x3), some (jI ((fx_shl 1 (M 11 3)) - 1)), some (jI (M 14 (M 31 3))), none, none, none]) ⟨rfl, ⟨rfl, ⟨rfl, ⟨rfl, ⟨rfl, trivial⟩⟩⟩⟩⟩ (by have K := K; first | (simp only [if_neg h2] at K ⊢; exact K) | (exfalso; omega)))))))))))))))))))))))))))))))
theorem s112_71 {kc : List va_E} {d : Nat} {v1 v3 v4 v5 v6 : Int} {M : fx_M} {Q : Option fx_V → fx_M → Prop} (H : wc kc d 65 [jR 3, jI (M 31 3)] M (fun v M1 => wp kc (d + 1) 112 82 [some (jR 31), some (jL v1), none, some (jI v3), some (jI v4), some (jI v5), some (jI v6), none, none] (v.toList ++ []) M1 Q)) : wp kc (d + 1) 112 71 [some (jR 31), some (jL v1), none, some (jI v3), some (jI v4), some (jI v5), some (jI v6), none, none] [] M Q :=
  (x_aldn c112_71 rfl (x_gfr c112_72 k_31_1 (x_aldn c112_75 rfl (x_gfi c112_76 k_31_3 (wp_wk (l' := [some (jR 31), some (jL v1), none, some (jI v3), some (jI v4), some (jI v5), some (jI v6), none, none]) ⟨rfl, ⟨rfl, ⟨rfl, ⟨rfl, ⟨rfl, ⟨rfl, trivial⟩⟩⟩⟩⟩⟩ (x_cv (As := [jI (M 31 3)]) (st := []) c112_79 cl_3 kl65 rfl (Nat.le_of_ble_eq_true rfl) mx65 (Nat.le_refl _) H))))))
theorem s112_82 {kc : List va_E} {d : Nat} {v1 v3 v4 v5 v6 : Int} {M : fx_M} {Q : Option fx_V → fx_M → Prop} (H : ((fx_in32 v3)) ∧ (v3 = 0 → wc kc d 107 [jR 3, jI 45, jI (M 31 5), jI (fx_shl 1 (M 31 6))] M (fun v M1 => wp kc (d + 1) 112 125 [some (jR 31), some (jL v1), none, none, some (jI v4), some (jI v5), some (jI v6), none, none] (v.toList ++ []) M1 Q)) ∧ (v3 ≠ 0 → wc kc d 69 [jR 3, jI 32] M (fun v M1 => wp kc (d + 1) 112 95 [some (jR 31), some (jL v1), none, none, some (jI v4), some (jI v5), some (jI v6), none, none] (v.toList ++ []) M1 Q))) : wp kc (d + 1) 112 82 [some (jR 31), some (jL v1), none, some (jI v3), some (jI v4), some (jI v5), some (jI v6), none, none] [] M Q :=
  (x_ildn c112_82 rfl (x_zeq c112_83 H.1 (fun h1 => (x_aldn c112_106 rfl (x_gfr c112_107 k_31_1 (x_ci c112_110 (x_aldn c112_112 rfl (x_gfi c112_113 k_31_5 (x_ci c112_116 (x_aldn c112_117 rfl (x_gfi c112_118 k_31_6 (x_ishl c112_121 (wp_wk (l' := [some (jR 31), some (jL v1), none, none, some (jI v4), some (jI v5), some (jI v6), none, none]) ⟨rfl, ⟨rfl, ⟨rfl, ⟨rfl, ⟨rfl, trivial⟩⟩⟩⟩⟩ (x_cv (As := [jI 45, jI (M 31 5), jI (fx_shl 1 (M 31 6))]) (st := []) c112_122 cl_3 kl107 rfl (Nat.le_of_ble_eq_true rfl) mx107 (Nat.le_refl _) (H.2.1 h1))))))))))))) (fun h2 => (x_aldn c112_86 rfl (x_gfr c112_87 k_31_1 (x_ci c112_90 (wp_wk (l' := [some (jR 31), some (jL v1), none, none, some (jI v4), some (jI v5), some (jI v6), none, none]) ⟨rfl, ⟨rfl, ⟨rfl, ⟨rfl, ⟨rfl, trivial⟩⟩⟩⟩⟩ (x_cv (As := [jI 32]) (st := []) c112_92 cl_3 kl69 rfl (Nat.le_of_ble_eq_true rfl) mx69 (Nat.le_refl _) (H.2.2 h2)))))))))
theorem s112_95 {kc : List va_E} {d : Nat} {v1 v4 v5 v6 : Int} {M : fx_M} {Q : Option fx_V → fx_M → Prop} (H : wc kc d 65 [jR 3, jI (M 31 4)] M (fun v M1 => wp kc (d + 1) 112 106 [some (jR 31), some (jL v1), none, none, some (jI v4), some (jI v5), some (jI v6), none, none] (v.toList ++ []) M1 Q)) : wp kc (d + 1) 112 95 [some (jR 31), some (jL v1), none, none, some (jI v4), some (jI v5), some (jI v6), none, none] [] M Q :=
  (x_aldn c112_95 rfl (x_gfr c112_96 k_31_1 (x_aldn c112_99 rfl (x_gfi c112_100 k_31_4 (wp_wk (l' := [some (jR 31), some (jL v1), none, none, some (jI v4), some (jI v5), some (jI v6), none, none]) ⟨rfl, ⟨rfl, ⟨rfl, ⟨rfl, ⟨rfl, trivial⟩⟩⟩⟩⟩ (x_cv (As := [jI (M 31 4)]) (st := []) c112_103 cl_3 kl65 rfl (Nat.le_of_ble_eq_true rfl) mx65 (Nat.le_refl _) H))))))
theorem s112_106 {kc : List va_E} {d : Nat} {v1 v4 v5 v6 : Int} {M : fx_M} {Q : Option fx_V → fx_M → Prop} (H : wc kc d 107 [jR 3, jI 45, jI (M 31 5), jI (fx_shl 1 (M 31 6))] M (fun v M1 => wp kc (d + 1) 112 125 [some (jR 31), some (jL v1), none, none, some (jI v4), some (jI v5), some (jI v6), none, none] (v.toList ++ []) M1 Q)) : wp kc (d + 1) 112 106 [some (jR 31), some (jL v1), none, none, some (jI v4), some (jI v5), some (jI v6), none, none] [] M Q :=
  (x_aldn c112_106 rfl (x_gfr c112_107 k_31_1 (x_ci c112_110 (x_aldn c112_112 rfl (x_gfi c112_113 k_31_5 (x_ci c112_116 (x_aldn c112_117 rfl (x_gfi c112_118 k_31_6 (x_ishl c112_121 (wp_wk (l' := [some (jR 31), some (jL v1), none, none, some (jI v4), some (jI v5), some (jI v6), none, none]) ⟨rfl, ⟨rfl, ⟨rfl, ⟨rfl, ⟨rfl, trivial⟩⟩⟩⟩⟩ (x_cv (As := [jI 45, jI (M 31 5), jI (fx_shl 1 (M 31 6))]) (st := []) c112_122 cl_3 kl107 rfl (Nat.le_of_ble_eq_true rfl) mx107 (Nat.le_refl _) H)))))))))))
theorem s112_125 {kc : List va_E} {d : Nat} {v1 v4 v5 v6 : Int} {M : fx_M} {Q : Option fx_V → fx_M → Prop} (H : wp kc (d + 1) 112 128 [some (jR 31), some (jL v1), none, none, some (jI v4), some (jI v5), some (jI v6), some (jI 0), none] [] M Q) : wp kc (d + 1) 112 125 [some (jR 31), some (jL v1), none, none, some (jI v4), some (jI v5), some (jI v6), none, none] [] M Q :=
  (x_ci c112_125 (x_ist (l' := [some (jR 31), some (jL v1), none, none, some (jI v4), some (jI v5), some (jI v6), some (jI 0), none]) c112_126 rfl (wp_wk (l' := [some (jR 31), some (jL v1), none, none, some (jI v4), some (jI v5), some (jI v6), some (jI 0), none]) ⟨rfl, ⟨rfl, ⟨rfl, ⟨rfl, ⟨rfl, ⟨rfl, trivial⟩⟩⟩⟩⟩⟩ H)))
theorem s112_128 {kc : List va_E} {d : Nat} {v1 v4 v5 v6 v7 : Int} {M : fx_M} {Q : Option fx_V → fx_M → Prop} (H : ((fx_in32 v7) ∧ (fx_in32 v6)) ∧ (v6 ≤ v7 → wc kc d 69 [jR 3, jI 59] M (fun v M1 => wp kc (d + 1) 112 257 [none, none, none, none, none, none, none, none, none] (v.toList ++ []) M1 Q)) ∧ (v7 < v6 → ((fx_in32 v7)) ∧ ((fx_in32 v5)) ∧ (v5 ≤ v7 → ((((0 : Int) ≤ ((4 * (M 31 4)) + v7) - v5 ∧ ((4 * (M 31 4)) + v7) - v5 < 48)))) ∧ (v7 < v5 → ((((0 : Int) ≤ (4 * (M 31 3)) + v7 ∧ (4 * (M 31 3)) + v7 < 48)))) ∧ ((fx_in32 (if v7 < v5 then (M 15 ((4 * (M 31 3)) + v7) : Int) else M 15 (((4 * (M 31 4)) + v7) - v5))) ∧ (fx_in32 (M 31 5))) ∧ ((if v7 < v5 then (M 15 ((4 * (M 31 3)) + v7) : Int) else M 15 (((4 * (M 31 4)) + v7) - v5)) = M 31 5 → wp kc (d + 1) 112 128 [some (jR 31), some (jL v1), none, none, some (jI v4), some (jI v5), some (jI v6), some (jI (v7 + 1)), none] [] M Q) ∧ ((if v7 < v5 then (M 15 ((4 * (M 31 3)) + v7) : Int) else M 15 (((4 * (M 31 4)) + v7) - v5)) ≠ M 31 5 → ((fx_in32 v7) ∧ (fx_in32 v5)) ∧ (v7 < v5 → wc kc d 86 [jL v1, jI (if v7 < v5 then (M 15 ((4 * (M 31 3)) + v7) : Int) else M 15 (((4 * (M 31 4)) + v7) - v5))] M (fun v M1 => wp kc (d + 1) 112 236 [some (jR 31), some (jL v1), none, none, some (jI v4), some (jI v5), some (jI v6), some (jI v7), none] (v.toList ++ [jI v4, jI (if v7 < v5 then (M 15 ((4 * (M 31 3)) + v7) : Int) else M 15 (((4 * (M 31 4)) + v7) - v5)), jI 43, jR 3]) M1 Q)) ∧ (v5 ≤ v7 → (((0 : Int) ≤ M 31 3 ∧ M 31 3 < 12)) ∧ ((fx_in32 (fx_and (fx_shr (M 16 (M 31 3)) (if v7 < v5 then (M 15 ((4 * (M 31 3)) + v7) : Int) else M 15 (((4 * (M 31 4)) + v7) - v5))) 1))) ∧ (fx_and (fx_shr (M 16 (M 31 3)) (if v7 < v5 then (M 15 ((4 * (M 31 3)) + v7) : Int) else M 15 (((4 * (M 31 4)) + v7) - v5))) 1 ≠ 0 → wp kc (d + 1) 112 128 [some (jR 31), some (jL v1), none, none, some (jI v4), some (jI v5), some (jI v6), some (jI (v7 + 1)), none] [] M Q) ∧ (fx_and (fx_shr (M 16 (M 31 3)) (if v7 < v5 then (M 15 ((4 * (M 31 3)) + v7) : Int) else M 15 (((4 * (M 31 4)) + v7) - v5))) 1 = 0 → wc kc d 86 [jL v1, jI (if v7 < v5 then (M 15 ((4 * (M 31 3)) + v7) : Int) else M 15 (((4 * (M 31 4)) + v7) - v5))] M (fun v M1 => wp kc (d + 1) 112 236 [some (jR 31), some (jL v1), none, none, some (jI v4), some (jI v5), some (jI v6), some (jI v7), none] (v.toList ++ [jI v4, jI (if v7 < v5 then (M 15 ((4 * (M 31 3)) + v7) : Int) else M 15 (((4 * (M 31 4)) + v7) - v5)), jI 43, jR 3]) M1 Q)))))) : wp kc (d + 1) 112 128 [some (jR 31), some (jL v1), none, none, some (jI v4), some (jI v5), some (jI v6), some (jI v7), none] [] M Q :=
  (x_ild c112_128 rfl (x_ild c112_130 rfl (x_cge c112_132 H.1.1 H.1.2 (fun h7 => (x_aldn c112_248 rfl (x_gfr c112_249 k_31_1 (x_ci c112_252 (wp_wk (l' := [none, none, none, none, none, none, none, none, none]) trivial (x_cv (As := [jI 59]) (st := []) c112_254 cl_3 kl69 rfl (Nat.le_of_ble_eq_true rfl) mx69 (Nat.le_refl _) (H.2.1 h7))))))) (fun h8 => (x_ild c112_135 rfl (x_ild c112_137 rfl (have K : wp kc (d + 1) 112 182 [some (jR 31), some (jL v1), none, none, some (jI v4), some (jI v5), some (jI v6), some (jI v7), none] [jI (if v7 < v5 then (M 15 ((4 * (M 31 3)) + v7) : Int) else M 15 (((4 * (M 31 4)) + v7) - v5))] M Q := (x_ist (l' := [some (jR 31), some (jL v1), none, none, some (jI v4), some (jI v5), some (jI v6), some (jI v7), some (jI (if v7 < v5 then (M 15 ((4 * (M 31 3)) + v7) : Int) else M 15 (((4 * (M 31 4)) + v7) - v5)))]) c112_182 rfl (x_ild c112_184 rfl (x_aldn c112_186 rfl (x_gfi c112_187 k_31_5 (x_ceq c112_190 (H.2.2 h8).2.2.2.2.1.1 (H.2.2 h8).2.2.2.2.1.2 (fun h5 => (x_inc (l' := [some (jR 31), some (jL v1), none, none, some (jI v4), some (jI v5), some (jI v6), some (jI (v7 + 1)), some (jI (if v7 < v5 then (M 15 ((4 * (M 31 3)) + v7) : Int) else M 15 (((4 * (M 31 4)) + v7) - v5)))]) c112_242 rfl rfl (x_goto c112_245 (wp_wk (l' := [some (jR 31), some (jL v1), none, none, some (jI v4), some (jI v5), some (jI v6), some (jI (v7 + 1)), none]) ⟨rfl, ⟨rfl, ⟨rfl, ⟨rfl, ⟨rfl, ⟨rfl, trivial⟩⟩⟩⟩⟩⟩ ((H.2.2 h8).2.2.2.2.2.1 h5))))) (fun h6 => (x_ild c112_193 rfl (x_ild c112_195 rfl (x_clt c112_197 ((H.2.2 h8).2.2.2.2.2.2 h6).1.1 ((H.2.2 h8).2.2.2.2.2.2 h6).1.2 (fun h3 => (x_aldn c112_220 rfl (x_gfr c112_221 k_31_1 (x_ci c112_224 (x_ild c112_226 rfl (x_ild c112_228 rfl (x_lldn c112_230 rfl (x_ild c112_231 rfl (wp_wk (l' := [some (jR 31), some (jL v1), none, none, some (jI v4), some (jI v5), some (jI v6), some (jI v7), none]) ⟨rfl, ⟨rfl, ⟨rfl, ⟨rfl, ⟨rfl, ⟨rfl, trivial⟩⟩⟩⟩⟩⟩ (x_cs (As := [jL v1, jI (if v7 < v5 then (M 15 ((4 * (M 31 3)) + v7) : Int) else M 15 (((4 * (M 31 4)) + v7) - v5))]) (st := [jI v4, jI (if v7 < v5 then (M 15 ((4 * (M 31 3)) + v7) : Int) else M 15 (((4 * (M 31 4)) + v7) - v5)), jI 43, jR 3]) c112_233 (by decide) rfl (Nat.le_of_ble_eq_true rfl) mx86 (Nat.le_refl _) (((H.2.2 h8).2.2.2.2.2.2 h6).2.1 h3))))))))))) (fun h4 => (x_aldn c112_200 rfl (x_gfr c112_201 k_31_0 (x_gfr c112_204 k_11_9 (x_aldn c112_207 rfl (x_gfi c112_208 k_31_3 (x_iald c112_211 a_16 (((H.2.2 h8).2.2.2.2.2.2 h6).2.2 h4).1 (by decide) (x_ild c112_212 rfl (x_ishr c112_214 (x_ci c112_215 (x_iand c112_216 (x_zne c112_217 (((H.2.2 h8).2.2.2.2.2.2 h6).2.2 h4).2.1 (fun h1 => (x_inc (l' := [some (jR 31), some (jL v1), none, none, some (jI v4), some (jI v5), some (jI v6), some (jI (v7 + 1)), some (jI (if v7 < v5 then (M 15 ((4 * (M 31 3)) + v7) : Int) else M 15 (((4 * (M 31 4)) + v7) - v5)))]) c112_242 rfl rfl (x_goto c112_245 (wp_wk (l' := [some (jR 31), some (jL v1), none, none, some (jI v4), some (jI v5), some (jI v6), some (jI (v7 + 1)), none]) ⟨rfl, ⟨rfl, ⟨rfl, ⟨rfl, ⟨rfl, ⟨rfl, trivial⟩⟩⟩⟩⟩⟩ ((((H.2.2 h8).2.2.2.2.2.2 h6).2.2 h4).2.2.1 h1))))) (fun h2 => (x_aldn c112_220 rfl (x_gfr c112_221 k_31_1 (x_ci c112_224 (x_ild c112_226 rfl (x_ild c112_228 rfl (x_lldn c112_230 rfl (x_ild c112_231 rfl (wp_wk (l' := [some (jR 31), some (jL v1), none, none, some (jI v4), some (jI v5), some (jI v6), some (jI v7), none]) ⟨rfl, ⟨rfl, ⟨rfl, ⟨rfl, ⟨rfl, ⟨rfl, trivial⟩⟩⟩⟩⟩⟩ (x_cs (As := [jL v1, jI (if v7 < v5 then (M 15 ((4 * (M 31 3)) + v7) : Int) else M 15 (((4 * (M 31 4)) + v7) - v5))]) (st := [jI v4, jI (if v7 < v5 then (M 15 ((4 * (M 31 3)) + v7) : Int) else M 15 (((4 * (M 31 4)) + v7) - v5)), jI 43, jR 3]) c112_233 (by decide) rfl (Nat.le_of_ble_eq_true rfl) mx86 (Nat.le_refl _) ((((H.2.2 h8).2.2.2.2.2.2 h6).2.2 h4).2.2.2 h2)))))))))))))))))))))))))))))))); (x_cge c112_139 (H.2.2 h8).1 (H.2.2 h8).2.1 (fun (h9 : v5 ≤ v7) => (x_aldn c112_162 rfl (x_gfr c112_163 k_31_0 (x_gfr c112_166 k_11_8 (x_ci c112_169 (x_aldn c112_170 rfl (x_gfi c112_171 k_31_4 (x_imul c112_174 (x_ild c112_175 rfl (x_iadd c112_177 (x_ild c112_178 rfl (x_isub c112_180 (x_iald c112_181 a_15 ((H.2.2 h8).2.2.1 h9) (by decide) (wp_wk (l' := [some (jR 31), some (jL v1), none, none, some (jI v4), some (jI v5), some (jI v6), some (jI v7), none]) ⟨rfl, ⟨rfl, ⟨rfl, ⟨rfl, ⟨rfl, ⟨rfl, trivial⟩⟩⟩⟩⟩⟩ (by have K := K; first | (simp only [if_neg (Int.not_lt.mpr h9)] at K ⊢; exact K) | (exfalso; omega)))))))))))))))) (fun (h10 : v7 < v5) => (x_aldn c112_142 rfl (x_gfr c112_143 k_31_0 (x_gfr c112_146 k_11_8 (x_ci c112_149 (x_aldn c112_150 rfl (x_gfi c112_151 k_31_3 (x_imul c112_154 (x_ild c112_155 rfl (x_iadd c112_157 (x_iald c112_158 a_15 ((H.2.2 h8).2.2.2.1 h10) (by decide) (x_goto c112_159 (wp_wk (l' := [some (jR 31), some (jL v1), none, none, some (jI v4), some (jI v5), some (jI v6), some (jI v7), none]) ⟨rfl, ⟨rfl, ⟨rfl, ⟨rfl, ⟨rfl, ⟨rfl, trivial⟩⟩⟩⟩⟩⟩ (by have K := K; first | (simp only [if_pos h10] at K ⊢; exact K) | (exfalso; omega)))))))))))))))))))))))
theorem s112_236 {kc : List va_E} {d : Nat} {v1 v4 v5 v6 v7 u0 u1 u2 u3 : Int} {M : fx_M} {Q : Option fx_V → fx_M → Prop} (H : wc kc d 107 [jR 3, jI u3, jI u2, jI (fx_and u1 (fx_xor u0 (-1)))] M (fun v M1 => wp kc (d + 1) 112 242 [some (jR 31), some (jL v1), none, none, some (jI v4), some (jI v5), some (jI v6), some (jI v7), none] (v.toList ++ []) M1 Q)) : wp kc (d + 1) 112 236 [some (jR 31), some (jL v1), none, none, some (jI v4), some (jI v5), some (jI v6), some (jI v7), none] [jI u0, jI u1, jI u2, jI u3, jR 3] M Q :=
  (x_ci c112_236 (x_ixor c112_237 (x_iand c112_238 (wp_wk (l' := [some (jR 31), some (jL v1), none, none, some (jI v4), some (jI v5), some (jI v6), some (jI v7), none]) ⟨rfl, ⟨rfl, ⟨rfl, ⟨rfl, ⟨rfl, ⟨rfl, trivial⟩⟩⟩⟩⟩⟩ (x_cv (As := [jI u3, jI u2, jI (fx_and u1 (fx_xor u0 (-1)))]) (st := []) c112_239 cl_3 kl107 rfl (Nat.le_of_ble_eq_true rfl) mx107 (Nat.le_refl _) H)))))
theorem s112_242 {kc : List va_E} {d : Nat} {v1 v4 v5 v6 v7 : Int} {M : fx_M} {Q : Option fx_V → fx_M → Prop} (H : wp kc (d + 1) 112 128 [some (jR 31), some (jL v1), none, none, some (jI v4), some (jI v5), some (jI v6), some (jI (v7 + 1)), none] [] M Q) : wp kc (d + 1) 112 242 [some (jR 31), some (jL v1), none, none, some (jI v4), some (jI v5), some (jI v6), some (jI v7), none] [] M Q :=
  (x_inc (l' := [some (jR 31), some (jL v1), none, none, some (jI v4), some (jI v5), some (jI v6), some (jI (v7 + 1)), none]) c112_242 rfl rfl (x_goto c112_245 (wp_wk (l' := [some (jR 31), some (jL v1), none, none, some (jI v4), some (jI v5), some (jI v6), some (jI (v7 + 1)), none]) ⟨rfl, ⟨rfl, ⟨rfl, ⟨rfl, ⟨rfl, ⟨rfl, trivial⟩⟩⟩⟩⟩⟩ H)))
theorem s112_257 {kc : List va_E} {d : Nat} {M : fx_M} {Q : Option fx_V → fx_M → Prop} (H : Q none M) : wp kc (d + 1) 112 257 [none, none, none, none, none, none, none, none, none] [] M Q :=
  (x_vr c112_257 r112 H)
theorem s112 {kc : List va_E} {d : Nat} {x1 x3 : Int} {M : fx_M} {Q : Option fx_V → fx_M → Prop} (H : (((0 : Int) ≤ M 31 3 ∧ M 31 3 < 12)) ∧ ((fx_in32 x3)) ∧ (x3 ≠ 0 → ((((0 : Int) ≤ M 31 4 ∧ M 31 4 < 12)))) ∧ ((fx_in32 x3)) ∧ wc kc d 69 [jR 3, jI (if x3 = 0 then (114 : Int) else 119)] M (fun v M1 => wp kc (d + 1) 112 71 [some (jR 31), some (jL x1), none, some (jI x3), some (jI ((fx_shl 1 (M 11 3)) - 1)), some (jI (M 14 (M 31 3))), some (jI (if x3 = 0 then (M 14 (M 31 3) : Int) else (M 14 (M 31 3)) + (M 14 (M 31 4)))), none, none] (v.toList ++ []) M1 Q)) : wc kc (d + 1) 112 [jR 31, jL x1, jI x3] M Q :=
  wc_of (wp_wk (l' := [some (jR 31), some (jL x1), none, some (jI x3), none, none, none, none, none]) ⟨rfl, ⟨rfl, ⟨rfl, trivial⟩⟩⟩ (s112_0 H))

/- PuzzleHouse$Reasons.cellOfChoice(J)I -/
theorem c116_0 : fx_ci 116 0 = some (0, 1) := by decide +kernel
theorem c116_1 : fx_op 116 1 = some (.istore_n 3, 2, 1) := by decide +kernel
theorem c116_2 : fx_ci 116 2 = some (5, 3) := by decide +kernel
theorem c116_3 : fx_op 116 3 = some (.istore 4, 5, 3) := by decide +kernel
theorem c116_5 : fx_ci 116 5 = some (0, 6) := by decide +kernel
theorem c116_6 : fx_op 116 6 = some (.istore 5, 8, 6) := by decide +kernel
theorem c116_8 : fx_op 116 8 = some (.iload 5, 10, 8) := by decide +kernel
theorem c116_10 : fx_op 116 10 = some (.aload_n 0, 11, 10) := by decide +kernel
theorem c116_11 : fx_gf 116 11 = some (5, 0, 14) := by decide +kernel
theorem c116_14 : fx_gf 116 14 = some (3, 2, 17) := by decide +kernel
theorem c116_17 : fx_op 116 17 = some (.if_icmp .ge 40, 20, 57) := by decide +kernel
theorem c116_20 : fx_op 116 20 = some (.lload_n 1, 21, 20) := by decide +kernel
theorem c116_21 : fx_op 116 21 = some (.iload 5, 23, 21) := by decide +kernel
theorem c116_57 : fx_op 116 57 = some (.iload_n 3, 58, 57) := by decide +kernel
theorem c116_58 : fx_op 116 58 = some (.ireturn, 59, 58) := by decide +kernel
theorem c116_23 : fx_ca 116 23 = some (86, 2, 1, 26) := by decide +kernel
theorem c116_26 : fx_ca 116 26 = some (79, 1, 0, 29) := by decide +kernel
theorem c116_29 : fx_op 116 29 = some (.istore 6, 31, 29) := by decide +kernel
theorem c116_31 : fx_op 116 31 = some (.iload 6, 33, 31) := by decide +kernel
theorem c116_33 : fx_ci 116 33 = some (1, 34) := by decide +kernel
theorem c116_34 : fx_op 116 34 = some (.if_icmp .le 17, 37, 51) := by decide +kernel
theorem c116_37 : fx_op 116 37 = some (.iload 6, 39, 37) := by decide +kernel
theorem c116_39 : fx_op 116 39 = some (.iload 4, 41, 39) := by decide +kernel
theorem c116_41 : fx_op 116 41 = some (.if_icmp .ge 10, 44, 51) := by decide +kernel
theorem c116_44 : fx_op 116 44 = some (.iload 5, 46, 44) := by decide +kernel
theorem c116_46 : fx_op 116 46 = some (.istore_n 3, 47, 46) := by decide +kernel
theorem c116_47 : fx_op 116 47 = some (.iload 6, 49, 47) := by decide +kernel
theorem c116_49 : fx_op 116 49 = some (.istore 4, 51, 49) := by decide +kernel
theorem c116_51 : fx_op 116 51 = some (.iinc 5 1, 54, 51) := by decide +kernel
theorem c116_54 : fx_op 116 54 = some (.goto (-46), 57, 8) := by decide +kernel
theorem s116_0 {kc : List va_E} {d : Nat} {x1 : Int} {M : fx_M} {Q : Option fx_V → fx_M → Prop} (H : wp kc (d + 1) 116 8 [some (jR 31), some (jL x1), none, some (jI 0), some (jI 5), some (jI 0), none] [] M Q) : wp kc (d + 1) 116 0 [some (jR 31), some (jL x1), none, none, none, none, none] [] M Q :=
  (x_ci c116_0 (x_istn (l' := [some (jR 31), some (jL x1), none, some (jI 0), none, none, none]) c116_1 rfl (x_ci c116_2 (x_ist (l' := [some (jR 31), some (jL x1), none, some (jI 0), some (jI 5), none, none]) c116_3 rfl (x_ci c116_5 (x_ist (l' := [some (jR 31), some (jL x1), none, some (jI 0), some (jI 5), some (jI 0), none]) c116_6 rfl (wp_wk (l' := [some (jR 31), some (jL x1), none, some (jI 0), some (jI 5), some (jI 0), none]) ⟨rfl, ⟨rfl, ⟨rfl, ⟨rfl, ⟨rfl, trivial⟩⟩⟩⟩⟩ H)))))))
theorem s116_8 {kc : List va_E} {d : Nat} {v1 v3 v4 v5 : Int} {M : fx_M} {Q : Option fx_V → fx_M → Prop} (H : ((fx_in32 v5) ∧ (fx_in32 (M 11 2))) ∧ (M 11 2 ≤ v5 → Q (some (jI v3)) M) ∧ (v5 < M 11 2 → wc kc d 86 [jL v1, jI v5] M (fun v M1 => wp kc (d + 1) 116 26 [some (jR 31), some (jL v1), none, some (jI v3), some (jI v4), some (jI v5), none] (v.toList ++ []) M1 Q))) : wp kc (d + 1) 116 8 [some (jR 31), some (jL v1), none, some (jI v3), some (jI v4), some (jI v5), none] [] M Q :=
  (x_ild c116_8 rfl (x_aldn c116_10 rfl (x_gfr c116_11 k_31_0 (x_gfi c116_14 k_11_2 (x_cge c116_17 H.1.1 H.1.2 (fun h1 => (x_ildn c116_57 rfl (x_irt c116_58 r116 (H.2.1 h1)))) (fun h2 => (x_lldn c116_20 rfl (x_ild c116_21 rfl (wp_wk (l' := [some (jR 31), some (jL v1), none, some (jI v3), some (jI v4), some (jI v5), none]) ⟨rfl, ⟨rfl, ⟨rfl, ⟨rfl, ⟨rfl, trivial⟩⟩⟩⟩⟩ (x_cs (As := [jL v1, jI v5]) (st := []) c116_23 (by decide) rfl (Nat.le_of_ble_eq_true rfl) mx86 (Nat.le_refl _) (H.2.2 h2)))))))))))
theorem s116_26 {kc : List va_E} {d : Nat} {v1 v3 v4 v5 u0 : Int} {M : fx_M} {Q : Option fx_V → fx_M → Prop} (H : wc kc d 79 [jI u0] M (fun v M1 => wp kc (d + 1) 116 29 [some (jR 31), some (jL v1), none, some (jI v3), some (jI v4), some (jI v5), none] (v.toList ++ []) M1 Q)) : wp kc (d + 1) 116 26 [some (jR 31), some (jL v1), none, some (jI v3), some (jI v4), some (jI v5), none] [jI u0] M Q :=
  (wp_wk (l' := [some (jR 31), some (jL v1), none, some (jI v3), some (jI v4), some (jI v5), none]) ⟨rfl, ⟨rfl, ⟨rfl, ⟨rfl, ⟨rfl, trivial⟩⟩⟩⟩⟩ (x_cs (As := [jI u0]) (st := []) c116_26 (by decide) rfl (Nat.le_of_ble_eq_true rfl) mx79 (Nat.le_refl _) H))
theorem s116_29 {kc : List va_E} {d : Nat} {v1 v3 v4 v5 u0 : Int} {M : fx_M} {Q : Option fx_V → fx_M → Prop} (H : ((fx_in32 u0)) ∧ (1 < u0 → (fx_in32 u0)) ∧ (1 < u0 → (fx_in32 v4)) ∧ wp kc (d + 1) 116 8 [some (jR 31), some (jL v1), none, some (jI (if 1 < u0 then ((if u0 < v4 then (v5 : Int) else v3) : Int) else v3)), some (jI (if 1 < u0 then ((if u0 < v4 then (u0 : Int) else v4) : Int) else v4)), some (jI (v5 + 1)), none] [] M Q) : wp kc (d + 1) 116 29 [some (jR 31), some (jL v1), none, some (jI v3), some (jI v4), some (jI v5), none] [jI u0] M Q :=
  (x_ist (l' := [some (jR 31), some (jL v1), none, some (jI v3), some (jI v4), some (jI v5), some (jI u0)]) c116_29 rfl (x_ild c116_31 rfl (x_ci c116_33 (have K : wp kc (d + 1) 116 51 [some (jR 31), some (jL v1), none, some (jI (if 1 < u0 then ((if u0 < v4 then (v5 : Int) else v3) : Int) else v3)), some (jI (if 1 < u0 then ((if u0 < v4 then (u0 : Int) else v4) : Int) else v4)), some (jI v5), none] [] M Q := (x_inc (l' := [some (jR 31), some (jL v1), none, some (jI (if 1 < u0 then ((if u0 < v4 then (v5 : Int) else v3) : Int) else v3)), some (jI (if 1 < u0 then ((if u0 < v4 then (u0 : Int) else v4) : Int) else v4)), some (jI (v5 + 1)), none]) c116_51 rfl rfl (x_goto c116_54 (wp_wk (l' := [some (jR 31), some (jL v1), none, some (jI (if 1 < u0 then ((if u0 < v4 then (v5 : Int) else v3) : Int) else v3)), some (jI (if 1 < u0 then ((if u0 < v4 then (u0 : Int) else v4) : Int) else v4)), some (jI (v5 + 1)), none]) ⟨rfl, ⟨rfl, ⟨rfl, ⟨rfl, ⟨rfl, trivial⟩⟩⟩⟩⟩ H.2.2.2))); (x_cle c116_34 H.1 (by decide) (fun (h1 : u0 ≤ 1) => (wp_wk (l' := [some (jR 31), some (jL v1), none, some (jI v3), some (jI v4), some (jI v5), none]) ⟨rfl, ⟨rfl, ⟨rfl, ⟨rfl, ⟨rfl, trivial⟩⟩⟩⟩⟩ (by have K := K; first | (simp only [if_neg (Int.not_lt.mpr h1)] at K ⊢; exact K) | (exfalso; omega)))) (fun (h2 : 1 < u0) => (x_ild c116_37 rfl (x_ild c116_39 rfl (x_cge c116_41 (H.2.1 h2) (H.2.2.1 h2) (fun (h3 : v4 ≤ u0) => (wp_wk (l' := [some (jR 31), some (jL v1), none, some (jI v3), some (jI v4), some (jI v5), none]) ⟨rfl, ⟨rfl, ⟨rfl, ⟨rfl, ⟨rfl, trivial⟩⟩⟩⟩⟩ (by have K := K; first | (simp only [if_pos h2, if_neg (Int.not_lt.mpr h3)] at K ⊢; exact K) | (exfalso; omega)))) (fun (h4 : u0 < v4) => (x_ild c116_44 rfl (x_istn (l' := [some (jR 31), some (jL v1), none, some (jI v5), some (jI v4), some (jI v5), some (jI u0)]) c116_46 rfl (x_ild c116_47 rfl (x_ist (l' := [some (jR 31), some (jL v1), none, some (jI v5), some (jI u0), some (jI v5), some (jI u0)]) c116_49 rfl (wp_wk (l' := [some (jR 31), some (jL v1), none, some (jI v5), some (jI u0), some (jI v5), none]) ⟨rfl, ⟨rfl, ⟨rfl, ⟨rfl, ⟨rfl, trivial⟩⟩⟩⟩⟩ (by have K := K; first | (simp only [if_pos h2, if_pos h4] at K ⊢; exact K) | (exfalso; omega)))))))))))))))))
theorem s116 {kc : List va_E} {d : Nat} {x1 : Int} {M : fx_M} {Q : Option fx_V → fx_M → Prop} (H : wp kc (d + 1) 116 8 [some (jR 31), some (jL x1), none, some (jI 0), some (jI 5), some (jI 0), none] [] M Q) : wc kc (d + 1) 116 [jR 31, jL x1] M Q :=
  wc_of (wp_wk (l' := [some (jR 31), some (jL x1), none, none, none, none, none]) ⟨rfl, ⟨rfl, trivial⟩⟩ (s116_0 H))

/- PuzzleHouse$Reasons.writeLeaf(J)V -/
theorem c117_0 : fx_op 117 0 = some (.aload_n 0, 1, 0) := by decide +kernel
theorem c117_1 : fx_gf 117 1 = some (5, 1, 4) := by decide +kernel
theorem c117_4 : fx_ci 117 4 = some (98, 6) := by decide +kernel
theorem c117_6 : fx_ca 117 6 = some (69, 2, 2, 9) := by decide +kernel
theorem c117_9 : fx_ci 117 9 = some (0, 10) := by decide +kernel
theorem c117_10 : fx_op 117 10 = some (.istore_n 3, 11, 10) := by decide +kernel
theorem c117_11 : fx_op 117 11 = some (.iload_n 3, 12, 11) := by decide +kernel
theorem c117_12 : fx_op 117 12 = some (.aload_n 0, 13, 12) := by decide +kernel
theorem c117_13 : fx_gf 117 13 = some (5, 0, 16) := by decide +kernel
theorem c117_16 : fx_gf 117 16 = some (3, 2, 19) := by decide +kernel
theorem c117_19 : fx_op 117 19 = some (.if_icmp .ge 24, 22, 43) := by decide +kernel
theorem c117_22 : fx_op 117 22 = some (.aload_n 0, 23, 22) := by decide +kernel
theorem c117_23 : fx_gf 117 23 = some (5, 1, 26) := by decide +kernel
theorem c117_26 : fx_ci 117 26 = some (45, 28) := by decide +kernel
theorem c117_28 : fx_op 117 28 = some (.iload_n 3, 29, 28) := by decide +kernel
theorem c117_29 : fx_op 117 29 = some (.lload_n 1, 30, 29) := by decide +kernel
theorem c117_30 : fx_op 117 30 = some (.iload_n 3, 31, 30) := by decide +kernel
theorem c117_43 : fx_op 117 43 = some (.aload_n 0, 44, 43) := by decide +kernel
theorem c117_44 : fx_gf 117 44 = some (5, 1, 47) := by decide +kernel
theorem c117_47 : fx_ci 117 47 = some (59, 49) := by decide +kernel
theorem c117_49 : fx_ca 117 49 = some (69, 2, 2, 52) := by decide +kernel
theorem c117_31 : fx_ca 117 31 = some (86, 2, 1, 34) := by decide +kernel
theorem c117_52 : fx_op 117 52 = some (.return_, 53, 52) := by decide +kernel
theorem c117_34 : fx_ca 117 34 = some (107, 4, 2, 37) := by decide +kernel
theorem c117_37 : fx_op 117 37 = some (.iinc 3 1, 40, 37) := by decide +kernel
theorem c117_40 : fx_op 117 40 = some (.goto (-29), 43, 11) := by decide +kernel
theorem s117_0 {kc : List va_E} {d : Nat} {x1 : Int} {M : fx_M} {Q : Option fx_V → fx_M → Prop} (H : wc kc d 69 [jR 3, jI 98] M (fun v M1 => wp kc (d + 1) 117 9 [some (jR 31), some (jL x1), none, none] (v.toList ++ []) M1 Q)) : wp kc (d + 1) 117 0 [some (jR 31), some (jL x1), none, none] [] M Q :=
  (x_aldn c117_0 rfl (x_gfr c117_1 k_31_1 (x_ci c117_4 (wp_wk (l' := [some (jR 31), some (jL x1), none, none]) ⟨rfl, ⟨rfl, trivial⟩⟩ (x_cv (As := [jI 98]) (st := []) c117_6 cl_3 kl69 rfl (Nat.le_of_ble_eq_true rfl) mx69 (Nat.le_refl _) H)))))
theorem s117_9 {kc : List va_E} {d : Nat} {v1 : Int} {M : fx_M} {Q : Option fx_V → fx_M → Prop} (H : wp kc (d + 1) 117 11 [some (jR 31), some (jL v1), none, some (jI 0)] [] M Q) : wp kc (d + 1) 117 9 [some (jR 31), some (jL v1), none, none] [] M Q :=
  (x_ci c117_9 (x_istn (l' := [some (jR 31), some (jL v1), none, some (jI 0)]) c117_10 rfl (wp_wk (l' := [some (jR 31), some (jL v1), none, some (jI 0)]) ⟨rfl, ⟨rfl, ⟨rfl, trivial⟩⟩⟩ H)))
theorem s117_11 {kc : List va_E} {d : Nat} {v1 v3 : Int} {M : fx_M} {Q : Option fx_V → fx_M → Prop} (H : ((fx_in32 v3) ∧ (fx_in32 (M 11 2))) ∧ (M 11 2 ≤ v3 → wc kc d 69 [jR 3, jI 59] M (fun v M1 => wp kc (d + 1) 117 52 [none, none, none, none] (v.toList ++ []) M1 Q)) ∧ (v3 < M 11 2 → wc kc d 86 [jL v1, jI v3] M (fun v M1 => wp kc (d + 1) 117 34 [some (jR 31), some (jL v1), none, some (jI v3)] (v.toList ++ [jI v3, jI 45, jR 3]) M1 Q))) : wp kc (d + 1) 117 11 [some (jR 31), some (jL v1), none, some (jI v3)] [] M Q :=
  (x_ildn c117_11 rfl (x_aldn c117_12 rfl (x_gfr c117_13 k_31_0 (x_gfi c117_16 k_11_2 (x_cge c117_19 H.1.1 H.1.2 (fun h1 => (x_aldn c117_43 rfl (x_gfr c117_44 k_31_1 (x_ci c117_47 (wp_wk (l' := [none, none, none, none]) trivial (x_cv (As := [jI 59]) (st := []) c117_49 cl_3 kl69 rfl (Nat.le_of_ble_eq_true rfl) mx69 (Nat.le_refl _) (H.2.1 h1))))))) (fun h2 => (x_aldn c117_22 rfl (x_gfr c117_23 k_31_1 (x_ci c117_26 (x_ildn c117_28 rfl (x_lldn c117_29 rfl (x_ildn c117_30 rfl (wp_wk (l' := [some (jR 31), some (jL v1), none, some (jI v3)]) ⟨rfl, ⟨rfl, ⟨rfl, trivial⟩⟩⟩ (x_cs (As := [jL v1, jI v3]) (st := [jI v3, jI 45, jR 3]) c117_31 (by decide) rfl (Nat.le_of_ble_eq_true rfl) mx86 (Nat.le_refl _) (H.2.2 h2)))))))))))))))
theorem s117_34 {kc : List va_E} {d : Nat} {v1 v3 u0 u1 u2 : Int} {M : fx_M} {Q : Option fx_V → fx_M → Prop} (H : wc kc d 107 [jR 3, jI u2, jI u1, jI u0] M (fun v M1 => wp kc (d + 1) 117 37 [some (jR 31), some (jL v1), none, some (jI v3)] (v.toList ++ []) M1 Q)) : wp kc (d + 1) 117 34 [some (jR 31), some (jL v1), none, some (jI v3)] [jI u0, jI u1, jI u2, jR 3] M Q :=
  (wp_wk (l' := [some (jR 31), some (jL v1), none, some (jI v3)]) ⟨rfl, ⟨rfl, ⟨rfl, trivial⟩⟩⟩ (x_cv (As := [jI u2, jI u1, jI u0]) (st := []) c117_34 cl_3 kl107 rfl (Nat.le_of_ble_eq_true rfl) mx107 (Nat.le_refl _) H))
theorem s117_37 {kc : List va_E} {d : Nat} {v1 v3 : Int} {M : fx_M} {Q : Option fx_V → fx_M → Prop} (H : wp kc (d + 1) 117 11 [some (jR 31), some (jL v1), none, some (jI (v3 + 1))] [] M Q) : wp kc (d + 1) 117 37 [some (jR 31), some (jL v1), none, some (jI v3)] [] M Q :=
  (x_inc (l' := [some (jR 31), some (jL v1), none, some (jI (v3 + 1))]) c117_37 rfl rfl (x_goto c117_40 (wp_wk (l' := [some (jR 31), some (jL v1), none, some (jI (v3 + 1))]) ⟨rfl, ⟨rfl, ⟨rfl, trivial⟩⟩⟩ H)))
theorem s117_52 {kc : List va_E} {d : Nat} {M : fx_M} {Q : Option fx_V → fx_M → Prop} (H : Q none M) : wp kc (d + 1) 117 52 [none, none, none, none] [] M Q :=
  (x_vr c117_52 r117 H)
theorem s117 {kc : List va_E} {d : Nat} {x1 : Int} {M : fx_M} {Q : Option fx_V → fx_M → Prop} (H : wc kc d 69 [jR 3, jI 98] M (fun v M1 => wp kc (d + 1) 117 9 [some (jR 31), some (jL x1), none, none] (v.toList ++ []) M1 Q)) : wc kc (d + 1) 117 [jR 31, jL x1] M Q :=
  wc_of (wp_wk (l' := [some (jR 31), some (jL x1), none, none]) ⟨rfl, ⟨rfl, trivial⟩⟩ (s117_0 H))

/- PuzzleHouse$Reasons.writeChoices(I)V -/
theorem c118_0 : fx_op 118 0 = some (.aload_n 0, 1, 0) := by decide +kernel
theorem c118_1 : fx_gf 118 1 = some (5, 1, 4) := by decide +kernel
theorem c118_4 : fx_ci 118 4 = some (117, 6) := by decide +kernel
theorem c118_6 : fx_ca 118 6 = some (69, 2, 2, 9) := by decide +kernel
theorem c118_9 : fx_ci 118 9 = some (0, 10) := by decide +kernel
theorem c118_10 : fx_op 118 10 = some (.istore_n 2, 11, 10) := by decide +kernel
theorem c118_11 : fx_op 118 11 = some (.iload_n 2, 12, 11) := by decide +kernel
theorem c118_12 : fx_op 118 12 = some (.iload_n 1, 13, 12) := by decide +kernel
theorem c118_13 : fx_op 118 13 = some (.if_icmp .ge 32, 16, 45) := by decide +kernel
theorem c118_16 : fx_op 118 16 = some (.aload_n 0, 17, 16) := by decide +kernel
theorem c118_17 : fx_gf 118 17 = some (5, 1, 20) := by decide +kernel
theorem c118_20 : fx_ci 118 20 = some (45, 22) := by decide +kernel
theorem c118_22 : fx_op 118 22 = some (.aload_n 0, 23, 22) := by decide +kernel
theorem c118_23 : fx_gf 118 23 = some (5, 12, 26) := by decide +kernel
theorem c118_26 : fx_op 118 26 = some (.iload_n 2, 27, 26) := by decide +kernel
theorem c118_27 : fx_op 118 27 = some (.iaload, 28, 27) := by decide +kernel
theorem c118_28 : fx_ci 118 28 = some (1, 29) := by decide +kernel
theorem c118_29 : fx_op 118 29 = some (.aload_n 0, 30, 29) := by decide +kernel
theorem c118_30 : fx_gf 118 30 = some (5, 13, 33) := by decide +kernel
theorem c118_33 : fx_op 118 33 = some (.iload_n 2, 34, 33) := by decide +kernel
theorem c118_34 : fx_op 118 34 = some (.iaload, 35, 34) := by decide +kernel
theorem c118_35 : fx_op 118 35 = some (.ishl, 36, 35) := by decide +kernel
theorem c118_45 : fx_op 118 45 = some (.aload_n 0, 46, 45) := by decide +kernel
theorem c118_46 : fx_gf 118 46 = some (5, 1, 49) := by decide +kernel
theorem c118_49 : fx_ci 118 49 = some (59, 51) := by decide +kernel
theorem c118_51 : fx_ca 118 51 = some (69, 2, 2, 54) := by decide +kernel
theorem c118_36 : fx_ca 118 36 = some (107, 4, 2, 39) := by decide +kernel
theorem c118_54 : fx_op 118 54 = some (.return_, 55, 54) := by decide +kernel
theorem c118_39 : fx_op 118 39 = some (.iinc 2 1, 42, 39) := by decide +kernel
theorem c118_42 : fx_op 118 42 = some (.goto (-31), 45, 11) := by decide +kernel
theorem s118_0 {kc : List va_E} {d : Nat} {x1 : Int} {M : fx_M} {Q : Option fx_V → fx_M → Prop} (H : wc kc d 69 [jR 3, jI 117] M (fun v M1 => wp kc (d + 1) 118 9 [some (jR 31), some (jI x1), none] (v.toList ++ []) M1 Q)) : wp kc (d + 1) 118 0 [some (jR 31), some (jI x1), none] [] M Q :=
  (x_aldn c118_0 rfl (x_gfr c118_1 k_31_1 (x_ci c118_4 (wp_wk (l' := [some (jR 31), some (jI x1), none]) ⟨rfl, ⟨rfl, trivial⟩⟩ (x_cv (As := [jI 117]) (st := []) c118_6 cl_3 kl69 rfl (Nat.le_of_ble_eq_true rfl) mx69 (Nat.le_refl _) H)))))
theorem s118_9 {kc : List va_E} {d : Nat} {v1 : Int} {M : fx_M} {Q : Option fx_V → fx_M → Prop} (H : wp kc (d + 1) 118 11 [some (jR 31), some (jI v1), some (jI 0)] [] M Q) : wp kc (d + 1) 118 9 [some (jR 31), some (jI v1), none] [] M Q :=
  (x_ci c118_9 (x_istn (l' := [some (jR 31), some (jI v1), some (jI 0)]) c118_10 rfl (wp_wk (l' := [some (jR 31), some (jI v1), some (jI 0)]) ⟨rfl, ⟨rfl, ⟨rfl, trivial⟩⟩⟩ H)))
theorem s118_11 {kc : List va_E} {d : Nat} {v1 v2 : Int} {M : fx_M} {Q : Option fx_V → fx_M → Prop} (H : ((fx_in32 v2) ∧ (fx_in32 v1)) ∧ (v1 ≤ v2 → wc kc d 69 [jR 3, jI 59] M (fun v M1 => wp kc (d + 1) 118 54 [none, none, none] (v.toList ++ []) M1 Q)) ∧ (v2 < v1 → (((0 : Int) ≤ v2 ∧ v2 < 10)) ∧ (((0 : Int) ≤ v2 ∧ v2 < 10)) ∧ wc kc d 107 [jR 3, jI 45, jI (M 32 v2), jI (fx_shl 1 (M 33 v2))] M (fun v M1 => wp kc (d + 1) 118 39 [some (jR 31), some (jI v1), some (jI v2)] (v.toList ++ []) M1 Q))) : wp kc (d + 1) 118 11 [some (jR 31), some (jI v1), some (jI v2)] [] M Q :=
  (x_ildn c118_11 rfl (x_ildn c118_12 rfl (x_cge c118_13 H.1.1 H.1.2 (fun h1 => (x_aldn c118_45 rfl (x_gfr c118_46 k_31_1 (x_ci c118_49 (wp_wk (l' := [none, none, none]) trivial (x_cv (As := [jI 59]) (st := []) c118_51 cl_3 kl69 rfl (Nat.le_of_ble_eq_true rfl) mx69 (Nat.le_refl _) (H.2.1 h1))))))) (fun h2 => (x_aldn c118_16 rfl (x_gfr c118_17 k_31_1 (x_ci c118_20 (x_aldn c118_22 rfl (x_gfr c118_23 k_31_12 (x_ildn c118_26 rfl (x_iald c118_27 a_32 (H.2.2 h2).1 (by decide) (x_ci c118_28 (x_aldn c118_29 rfl (x_gfr c118_30 k_31_13 (x_ildn c118_33 rfl (x_iald c118_34 a_33 (H.2.2 h2).2.1 (by decide) (x_ishl c118_35 (wp_wk (l' := [some (jR 31), some (jI v1), some (jI v2)]) ⟨rfl, ⟨rfl, ⟨rfl, trivial⟩⟩⟩ (x_cv (As := [jI 45, jI (M 32 v2), jI (fx_shl 1 (M 33 v2))]) (st := []) c118_36 cl_3 kl107 rfl (Nat.le_of_ble_eq_true rfl) mx107 (Nat.le_refl _) (H.2.2 h2).2.2)))))))))))))))))))
theorem s118_39 {kc : List va_E} {d : Nat} {v1 v2 : Int} {M : fx_M} {Q : Option fx_V → fx_M → Prop} (H : wp kc (d + 1) 118 11 [some (jR 31), some (jI v1), some (jI (v2 + 1))] [] M Q) : wp kc (d + 1) 118 39 [some (jR 31), some (jI v1), some (jI v2)] [] M Q :=
  (x_inc (l' := [some (jR 31), some (jI v1), some (jI (v2 + 1))]) c118_39 rfl rfl (x_goto c118_42 (wp_wk (l' := [some (jR 31), some (jI v1), some (jI (v2 + 1))]) ⟨rfl, ⟨rfl, ⟨rfl, trivial⟩⟩⟩ H)))
theorem s118_54 {kc : List va_E} {d : Nat} {M : fx_M} {Q : Option fx_V → fx_M → Prop} (H : Q none M) : wp kc (d + 1) 118 54 [none, none, none] [] M Q :=
  (x_vr c118_54 r118 H)
theorem s118 {kc : List va_E} {d : Nat} {x1 : Int} {M : fx_M} {Q : Option fx_V → fx_M → Prop} (H : wc kc d 69 [jR 3, jI 117] M (fun v M1 => wp kc (d + 1) 118 9 [some (jR 31), some (jI x1), none] (v.toList ++ []) M1 Q)) : wc kc (d + 1) 118 [jR 31, jI x1] M Q :=
  wc_of (wp_wk (l' := [some (jR 31), some (jI x1), none]) ⟨rfl, ⟨rfl, trivial⟩⟩ (s118_0 H))

/- PuzzleHouse$Reasons.refuseLong()V -/
theorem c119_0 : fx_op 119 0 = some (.aload_n 0, 1, 0) := by decide +kernel
theorem c119_1 : fx_gf 119 1 = some (5, 11, 4) := by decide +kernel
theorem c119_4 : fx_op 119 4 = some (.ifCond .ne 16, 7, 20) := by decide +kernel
theorem c119_20 : fx_op 119 20 = some (.aload_n 0, 21, 20) := by decide +kernel
theorem c119_21 : fx_gf 119 21 = some (5, 1, 24) := by decide +kernel
theorem c119_7 : fx_op 119 7 = some (.aload_n 0, 8, 7) := by decide +kernel
theorem c119_8 : fx_gf 119 8 = some (5, 1, 11) := by decide +kernel
theorem c119_11 : fx_gf 119 11 = some (1, 1, 14) := by decide +kernel
theorem c119_14 : fx_ci 119 14 = some (3000, 17) := by decide +kernel
theorem c119_17 : fx_op 119 17 = some (.if_icmp .le 19, 20, 36) := by decide +kernel
theorem c119_24 : fx_ca 119 24 = some (63, 1, 2, 27) := by decide +kernel
theorem c119_36 : fx_op 119 36 = some (.return_, 37, 36) := by decide +kernel
theorem c119_27 : fx_op 119 27 = some (.aload_n 0, 28, 27) := by decide +kernel
theorem c119_28 : fx_gf 119 28 = some (5, 1, 31) := by decide +kernel
theorem c119_31 : fx_cr 119 31 = some (1000085, 33) := by decide +kernel
theorem c119_33 : fx_ca 119 33 = some (64, 2, 2, 36) := by decide +kernel
theorem s119_0 {kc : List va_E} {d : Nat} {M : fx_M} {Q : Option fx_V → fx_M → Prop} (H : ((fx_in32 (M 31 11))) ∧ (M 31 11 ≠ 0 → wc kc d 63 [jR 3] M (fun v M1 => wp kc (d + 1) 119 27 [some (jR 31)] (v.toList ++ []) M1 Q)) ∧ (M 31 11 = 0 → ((fx_in32 (M 3 1))) ∧ (M 3 1 ≤ 3000 → Q none M) ∧ (3000 < M 3 1 → wc kc d 63 [jR 3] M (fun v M1 => wp kc (d + 1) 119 27 [some (jR 31)] (v.toList ++ []) M1 Q)))) : wp kc (d + 1) 119 0 [some (jR 31)] [] M Q :=
  (x_aldn c119_0 rfl (x_gfi c119_1 k_31_11 (x_zne c119_4 H.1 (fun h3 => (x_aldn c119_20 rfl (x_gfr c119_21 k_31_1 (wp_wk (l' := [some (jR 31)]) ⟨rfl, trivial⟩ (x_cv (As := []) (st := []) c119_24 cl_3 kl63 rfl (Nat.le_of_ble_eq_true rfl) mx63 (Nat.le_refl _) (H.2.1 h3)))))) (fun h4 => (x_aldn c119_7 rfl (x_gfr c119_8 k_31_1 (x_gfi c119_11 k_3_1 (x_ci c119_14 (x_cle c119_17 (H.2.2 h4).1 (by decide) (fun h1 => (x_vr c119_36 r119 ((H.2.2 h4).2.1 h1))) (fun h2 => (x_aldn c119_20 rfl (x_gfr c119_21 k_31_1 (wp_wk (l' := [some (jR 31)]) ⟨rfl, trivial⟩ (x_cv (As := []) (st := []) c119_24 cl_3 kl63 rfl (Nat.le_of_ble_eq_true rfl) mx63 (Nat.le_refl _) ((H.2.2 h4).2.2 h2)))))))))))))))
theorem s119_27 {kc : List va_E} {d : Nat} {M : fx_M} {Q : Option fx_V → fx_M → Prop} (H : wc kc d 64 [jR 3, jR 1000085] M (fun v M1 => wp kc (d + 1) 119 36 [none] (v.toList ++ []) M1 Q)) : wp kc (d + 1) 119 27 [some (jR 31)] [] M Q :=
  (x_aldn c119_27 rfl (x_gfr c119_28 k_31_1 (x_cr c119_31 (wp_wk (l' := [none]) trivial (x_cv (As := [jR 1000085]) (st := []) c119_33 cl_3 kl64 rfl (Nat.le_of_ble_eq_true rfl) mx64 (Nat.le_refl _) H)))))
theorem s119_36 {kc : List va_E} {d : Nat} {M : fx_M} {Q : Option fx_V → fx_M → Prop} (H : Q none M) : wp kc (d + 1) 119 36 [none] [] M Q :=
  (x_vr c119_36 r119 H)
theorem s119 {kc : List va_E} {d : Nat} {M : fx_M} {Q : Option fx_V → fx_M → Prop} (H : ((fx_in32 (M 31 11))) ∧ (M 31 11 ≠ 0 → wc kc d 63 [jR 3] M (fun v M1 => wp kc (d + 1) 119 27 [some (jR 31)] (v.toList ++ []) M1 Q)) ∧ (M 31 11 = 0 → ((fx_in32 (M 3 1))) ∧ (M 3 1 ≤ 3000 → Q none M) ∧ (3000 < M 3 1 → wc kc d 63 [jR 3] M (fun v M1 => wp kc (d + 1) 119 27 [some (jR 31)] (v.toList ++ []) M1 Q)))) : wc kc (d + 1) 119 [jR 31] M Q :=
  wc_of (wp_wk (l' := [some (jR 31)]) ⟨rfl, trivial⟩ (s119_0 H))

/- PuzzleHouse$Reasons.grade()V -/
theorem c134_0 : fx_op 134 0 = some (.aload_n 0, 1, 0) := by decide +kernel
theorem c134_1 : fx_ci 134 1 = some (0, 2) := by decide +kernel
theorem c134_2 : fx_ca 134 2 = some (105, 2, 2, 5) := by decide +kernel
theorem c134_5 : fx_op 134 5 = some (.aload_n 0, 6, 5) := by decide +kernel
theorem c134_6 : fx_op 134 6 = some (.aload_n 0, 7, 6) := by decide +kernel
theorem c134_7 : fx_gf 134 7 = some (5, 0, 10) := by decide +kernel
theorem c134_10 : fx_ca 134 10 = some (81, 1, 2, 13) := by decide +kernel
theorem c134_13 : fx_ci 134 13 = some (0, 14) := by decide +kernel
theorem c134_14 : fx_ca 134 14 = some (108, 3, 2, 17) := by decide +kernel
theorem c134_17 : fx_op 134 17 = some (.aload_n 0, 18, 17) := by decide +kernel
theorem c134_18 : fx_gf 134 18 = some (5, 11, 21) := by decide +kernel
theorem c134_21 : fx_op 134 21 = some (.ifCond .eq 15, 24, 36) := by decide +kernel
theorem c134_36 : fx_op 134 36 = some (.aload_n 0, 37, 36) := by decide +kernel
theorem c134_37 : fx_op 134 37 = some (.aload_n 0, 38, 37) := by decide +kernel
theorem c134_38 : fx_gf 134 38 = some (5, 8, 41) := by decide +kernel
theorem c134_41 : fx_op 134 41 = some (.aload_n 0, 42, 41) := by decide +kernel
theorem c134_42 : fx_gf 134 42 = some (5, 9, 45) := by decide +kernel
theorem c134_45 : fx_op 134 45 = some (.aload_n 0, 46, 45) := by decide +kernel
theorem c134_46 : fx_gf 134 46 = some (5, 10, 49) := by decide +kernel
theorem c134_24 : fx_op 134 24 = some (.aload_n 0, 25, 24) := by decide +kernel
theorem c134_25 : fx_gf 134 25 = some (5, 1, 28) := by decide +kernel
theorem c134_28 : fx_cr 134 28 = some (1000085, 30) := by decide +kernel
theorem c134_49 : fx_ca 134 49 = some (135, 4, 2, 52) := by decide +kernel
theorem c134_30 : fx_ca 134 30 = some (64, 2, 2, 33) := by decide +kernel
theorem c134_52 : fx_op 134 52 = some (.return_, 53, 52) := by decide +kernel
theorem c134_33 : fx_op 134 33 = some (.goto 19, 36, 52) := by decide +kernel
theorem s134_0 {kc : List va_E} {d : Nat} {M : fx_M} {Q : Option fx_V → fx_M → Prop} (H : wc kc d 105 [jR 31, jI 0] M (fun v M1 => wp kc (d + 1) 134 5 [some (jR 31)] (v.toList ++ []) M1 Q)) : wp kc (d + 1) 134 0 [some (jR 31)] [] M Q :=
  (x_aldn c134_0 rfl (x_ci c134_1 (wp_wk (l' := [some (jR 31)]) ⟨rfl, trivial⟩ (x_cv (As := [jI 0]) (st := []) c134_2 cl_31 kl105 rfl (Nat.le_of_ble_eq_true rfl) mx105 (Nat.le_refl _) H))))
theorem s134_5 {kc : List va_E} {d : Nat} {M : fx_M} {Q : Option fx_V → fx_M → Prop} (H : wc kc d 81 [jR 11] M (fun v M1 => wp kc (d + 1) 134 13 [some (jR 31)] (v.toList ++ [jR 31]) M1 Q)) : wp kc (d + 1) 134 5 [some (jR 31)] [] M Q :=
  (x_aldn c134_5 rfl (x_aldn c134_6 rfl (x_gfr c134_7 k_31_0 (wp_wk (l' := [some (jR 31)]) ⟨rfl, trivial⟩ (x_cv (As := []) (st := [jR 31]) c134_10 cl_11 kl81 rfl (Nat.le_of_ble_eq_true rfl) mx81 (Nat.le_refl _) H)))))
theorem s134_13 {kc : List va_E} {d : Nat} {u0 : Int} {M : fx_M} {Q : Option fx_V → fx_M → Prop} (H : wc kc d 108 [jR 31, jL u0, jI 0] M (fun v M1 => wp kc (d + 1) 134 17 [some (jR 31)] (v.toList ++ []) M1 Q)) : wp kc (d + 1) 134 13 [some (jR 31)] [jL u0, jR 31] M Q :=
  (x_ci c134_13 (wp_wk (l' := [some (jR 31)]) ⟨rfl, trivial⟩ (x_cv (As := [jL u0, jI 0]) (st := []) c134_14 cl_31 kl108 rfl (Nat.le_of_ble_eq_true rfl) mx108 (Nat.le_refl _) H)))
theorem s134_17 {kc : List va_E} {d : Nat} {M : fx_M} {Q : Option fx_V → fx_M → Prop} (H : ((fx_in32 (M 31 11))) ∧ (M 31 11 = 0 → wc kc d 135 [jR 31, jI (M 31 8), jI (M 31 9), jI (M 31 10)] M (fun v M1 => wp kc (d + 1) 134 52 [none] (v.toList ++ []) M1 Q)) ∧ (M 31 11 ≠ 0 → wc kc d 64 [jR 3, jR 1000085] M (fun v M1 => wp kc (d + 1) 134 33 [none] (v.toList ++ []) M1 Q))) : wp kc (d + 1) 134 17 [some (jR 31)] [] M Q :=
  (x_aldn c134_17 rfl (x_gfi c134_18 k_31_11 (x_zeq c134_21 H.1 (fun h1 => (x_aldn c134_36 rfl (x_aldn c134_37 rfl (x_gfi c134_38 k_31_8 (x_aldn c134_41 rfl (x_gfi c134_42 k_31_9 (x_aldn c134_45 rfl (x_gfi c134_46 k_31_10 (wp_wk (l' := [none]) trivial (x_cv (As := [jI (M 31 8), jI (M 31 9), jI (M 31 10)]) (st := []) c134_49 cl_31 kl135 rfl (Nat.le_of_ble_eq_true rfl) mx135 (Nat.le_refl _) (H.2.1 h1))))))))))) (fun h2 => (x_aldn c134_24 rfl (x_gfr c134_25 k_31_1 (x_cr c134_28 (wp_wk (l' := [none]) trivial (x_cv (As := [jR 1000085]) (st := []) c134_30 cl_3 kl64 rfl (Nat.le_of_ble_eq_true rfl) mx64 (Nat.le_refl _) (H.2.2 h2))))))))))
theorem s134_33 {kc : List va_E} {d : Nat} {M : fx_M} {Q : Option fx_V → fx_M → Prop} (H : Q none M) : wp kc (d + 1) 134 33 [none] [] M Q :=
  (x_goto c134_33 (x_vr c134_52 r134 H))
theorem s134_52 {kc : List va_E} {d : Nat} {M : fx_M} {Q : Option fx_V → fx_M → Prop} (H : Q none M) : wp kc (d + 1) 134 52 [none] [] M Q :=
  (x_vr c134_52 r134 H)
theorem s134 {kc : List va_E} {d : Nat} {M : fx_M} {Q : Option fx_V → fx_M → Prop} (H : wc kc d 105 [jR 31, jI 0] M (fun v M1 => wp kc (d + 1) 134 5 [some (jR 31)] (v.toList ++ []) M1 Q)) : wc kc (d + 1) 134 [jR 31] M Q :=
  wc_of (wp_wk (l' := [some (jR 31)]) ⟨rfl, trivial⟩ (s134_0 H))

/- PuzzleHouse$Reasons.writeNumbers(III)V -/
theorem c135_0 : fx_op 135 0 = some (.aload_n 0, 1, 0) := by decide +kernel
theorem c135_1 : fx_gf 135 1 = some (5, 1, 4) := by decide +kernel
theorem c135_4 : fx_op 135 4 = some (.iload_n 1, 5, 4) := by decide +kernel
theorem c135_5 : fx_ca 135 5 = some (65, 2, 2, 8) := by decide +kernel
theorem c135_8 : fx_op 135 8 = some (.aload_n 0, 9, 8) := by decide +kernel
theorem c135_9 : fx_gf 135 9 = some (5, 1, 12) := by decide +kernel
theorem c135_12 : fx_ci 135 12 = some (32, 14) := by decide +kernel
theorem c135_14 : fx_ca 135 14 = some (69, 2, 2, 17) := by decide +kernel
theorem c135_17 : fx_op 135 17 = some (.aload_n 0, 18, 17) := by decide +kernel
theorem c135_18 : fx_gf 135 18 = some (5, 1, 21) := by decide +kernel
theorem c135_21 : fx_op 135 21 = some (.iload_n 2, 22, 21) := by decide +kernel
theorem c135_22 : fx_ca 135 22 = some (65, 2, 2, 25) := by decide +kernel
theorem c135_25 : fx_op 135 25 = some (.aload_n 0, 26, 25) := by decide +kernel
theorem c135_26 : fx_gf 135 26 = some (5, 1, 29) := by decide +kernel
theorem c135_29 : fx_ci 135 29 = some (32, 31) := by decide +kernel
theorem c135_31 : fx_ca 135 31 = some (69, 2, 2, 34) := by decide +kernel
theorem c135_34 : fx_op 135 34 = some (.aload_n 0, 35, 34) := by decide +kernel
theorem c135_35 : fx_gf 135 35 = some (5, 1, 38) := by decide +kernel
theorem c135_38 : fx_op 135 38 = some (.iload_n 3, 39, 38) := by decide +kernel
theorem c135_39 : fx_ca 135 39 = some (65, 2, 2, 42) := by decide +kernel
theorem c135_42 : fx_op 135 42 = some (.return_, 43, 42) := by decide +kernel
theorem s135_0 {kc : List va_E} {d : Nat} {x1 x2 x3 : Int} {M : fx_M} {Q : Option fx_V → fx_M → Prop} (H : wc kc d 65 [jR 3, jI x1] M (fun v M1 => wp kc (d + 1) 135 8 [some (jR 31), none, some (jI x2), some (jI x3)] (v.toList ++ []) M1 Q)) : wp kc (d + 1) 135 0 [some (jR 31), some (jI x1), some (jI x2), some (jI x3)] [] M Q :=
  (x_aldn c135_0 rfl (x_gfr c135_1 k_31_1 (x_ildn c135_4 rfl (wp_wk (l' := [some (jR 31), none, some (jI x2), some (jI x3)]) ⟨rfl, ⟨rfl, ⟨rfl, trivial⟩⟩⟩ (x_cv (As := [jI x1]) (st := []) c135_5 cl_3 kl65 rfl (Nat.le_of_ble_eq_true rfl) mx65 (Nat.le_refl _) H)))))
theorem s135_8 {kc : List va_E} {d : Nat} {v2 v3 : Int} {M : fx_M} {Q : Option fx_V → fx_M → Prop} (H : wc kc d 69 [jR 3, jI 32] M (fun v M1 => wp kc (d + 1) 135 17 [some (jR 31), none, some (jI v2), some (jI v3)] (v.toList ++ []) M1 Q)) : wp kc (d + 1) 135 8 [some (jR 31), none, some (jI v2), some (jI v3)] [] M Q :=
  (x_aldn c135_8 rfl (x_gfr c135_9 k_31_1 (x_ci c135_12 (wp_wk (l' := [some (jR 31), none, some (jI v2), some (jI v3)]) ⟨rfl, ⟨rfl, ⟨rfl, trivial⟩⟩⟩ (x_cv (As := [jI 32]) (st := []) c135_14 cl_3 kl69 rfl (Nat.le_of_ble_eq_true rfl) mx69 (Nat.le_refl _) H)))))
theorem s135_17 {kc : List va_E} {d : Nat} {v2 v3 : Int} {M : fx_M} {Q : Option fx_V → fx_M → Prop} (H : wc kc d 65 [jR 3, jI v2] M (fun v M1 => wp kc (d + 1) 135 25 [some (jR 31), none, none, some (jI v3)] (v.toList ++ []) M1 Q)) : wp kc (d + 1) 135 17 [some (jR 31), none, some (jI v2), some (jI v3)] [] M Q :=
  (x_aldn c135_17 rfl (x_gfr c135_18 k_31_1 (x_ildn c135_21 rfl (wp_wk (l' := [some (jR 31), none, none, some (jI v3)]) ⟨rfl, ⟨rfl, trivial⟩⟩ (x_cv (As := [jI v2]) (st := []) c135_22 cl_3 kl65 rfl (Nat.le_of_ble_eq_true rfl) mx65 (Nat.le_refl _) H)))))
theorem s135_25 {kc : List va_E} {d : Nat} {v3 : Int} {M : fx_M} {Q : Option fx_V → fx_M → Prop} (H : wc kc d 69 [jR 3, jI 32] M (fun v M1 => wp kc (d + 1) 135 34 [some (jR 31), none, none, some (jI v3)] (v.toList ++ []) M1 Q)) : wp kc (d + 1) 135 25 [some (jR 31), none, none, some (jI v3)] [] M Q :=
  (x_aldn c135_25 rfl (x_gfr c135_26 k_31_1 (x_ci c135_29 (wp_wk (l' := [some (jR 31), none, none, some (jI v3)]) ⟨rfl, ⟨rfl, trivial⟩⟩ (x_cv (As := [jI 32]) (st := []) c135_31 cl_3 kl69 rfl (Nat.le_of_ble_eq_true rfl) mx69 (Nat.le_refl _) H)))))
theorem s135_34 {kc : List va_E} {d : Nat} {v3 : Int} {M : fx_M} {Q : Option fx_V → fx_M → Prop} (H : wc kc d 65 [jR 3, jI v3] M (fun v M1 => wp kc (d + 1) 135 42 [none, none, none, none] (v.toList ++ []) M1 Q)) : wp kc (d + 1) 135 34 [some (jR 31), none, none, some (jI v3)] [] M Q :=
  (x_aldn c135_34 rfl (x_gfr c135_35 k_31_1 (x_ildn c135_38 rfl (wp_wk (l' := [none, none, none, none]) trivial (x_cv (As := [jI v3]) (st := []) c135_39 cl_3 kl65 rfl (Nat.le_of_ble_eq_true rfl) mx65 (Nat.le_refl _) H)))))
theorem s135_42 {kc : List va_E} {d : Nat} {M : fx_M} {Q : Option fx_V → fx_M → Prop} (H : Q none M) : wp kc (d + 1) 135 42 [none, none, none, none] [] M Q :=
  (x_vr c135_42 r135 H)
theorem s135 {kc : List va_E} {d : Nat} {x1 x2 x3 : Int} {M : fx_M} {Q : Option fx_V → fx_M → Prop} (H : wc kc d 65 [jR 3, jI x1] M (fun v M1 => wp kc (d + 1) 135 8 [some (jR 31), none, some (jI x2), some (jI x3)] (v.toList ++ []) M1 Q)) : wc kc (d + 1) 135 [jR 31, jI x1, jI x2, jI x3] M Q :=
  wc_of (wp_wk (l' := [some (jR 31), some (jI x1), some (jI x2), some (jI x3)]) ⟨rfl, ⟨rfl, ⟨rfl, ⟨rfl, trivial⟩⟩⟩⟩ (s135_0 H))

/- PuzzleHouse$Reasons.hint(J)V -/
theorem c137_0 : fx_ci 137 0 = some (0, 1) := by decide +kernel
theorem c137_1 : fx_op 137 1 = some (.istore_n 3, 2, 1) := by decide +kernel
theorem c137_2 : fx_op 137 2 = some (.iload_n 3, 3, 2) := by decide +kernel
theorem c137_3 : fx_op 137 3 = some (.aload_n 0, 4, 3) := by decide +kernel
theorem c137_4 : fx_gf 137 4 = some (5, 0, 7) := by decide +kernel
theorem c137_7 : fx_gf 137 7 = some (3, 4, 10) := by decide +kernel
theorem c137_10 : fx_op 137 10 = some (.if_icmp .ge 128, 13, 138) := by decide +kernel
theorem c137_138 : fx_op 137 138 = some (.aload_n 0, 139, 138) := by decide +kernel
theorem c137_139 : fx_gf 137 139 = some (5, 1, 142) := by decide +kernel
theorem c137_142 : fx_cr 137 142 = some (1000097, 144) := by decide +kernel
theorem c137_13 : fx_op 137 13 = some (.aload_n 0, 14, 13) := by decide +kernel
theorem c137_14 : fx_gf 137 14 = some (5, 0, 17) := by decide +kernel
theorem c137_17 : fx_op 137 17 = some (.iload_n 3, 18, 17) := by decide +kernel
theorem c137_18 : fx_op 137 18 = some (.lload_n 1, 19, 18) := by decide +kernel
theorem c137_144 : fx_ca 137 144 = some (64, 2, 2, 147) := by decide +kernel
theorem c137_19 : fx_ca 137 19 = some (111, 3, 2, 22) := by decide +kernel
theorem c137_147 : fx_op 137 147 = some (.return_, 148, 147) := by decide +kernel
theorem c137_22 : fx_op 137 22 = some (.istore 4, 24, 22) := by decide +kernel
theorem c137_24 : fx_ci 137 24 = some (0, 25) := by decide +kernel
theorem c137_25 : fx_op 137 25 = some (.istore 5, 27, 25) := by decide +kernel
theorem c137_27 : fx_op 137 27 = some (.iload 5, 29, 27) := by decide +kernel
theorem c137_29 : fx_op 137 29 = some (.aload_n 0, 30, 29) := by decide +kernel
theorem c137_30 : fx_gf 137 30 = some (5, 0, 33) := by decide +kernel
theorem c137_33 : fx_gf 137 33 = some (3, 7, 36) := by decide +kernel
theorem c137_36 : fx_op 137 36 = some (.iload_n 3, 37, 36) := by decide +kernel
theorem c137_38 : fx_op 137 38 = some (.if_icmp .ge 94, 41, 132) := by decide +kernel
theorem c137_132 : fx_op 137 132 = some (.iinc 3 1, 135, 132) := by decide +kernel
theorem c137_41 : fx_op 137 41 = some (.aload_n 0, 42, 41) := by decide +kernel
theorem c137_42 : fx_gf 137 42 = some (5, 0, 45) := by decide +kernel
theorem c137_45 : fx_gf 137 45 = some (3, 8, 48) := by decide +kernel
theorem c137_48 : fx_ci 137 48 = some (4, 49) := by decide +kernel
theorem c137_49 : fx_op 137 49 = some (.iload_n 3, 50, 49) := by decide +kernel
theorem c137_50 : fx_op 137 50 = some (.imul, 51, 50) := by decide +kernel
theorem c137_51 : fx_op 137 51 = some (.iload 5, 53, 51) := by decide +kernel
theorem c137_53 : fx_op 137 53 = some (.iadd, 54, 53) := by decide +kernel
theorem c137_55 : fx_op 137 55 = some (.istore 6, 57, 55) := by decide +kernel
theorem c137_57 : fx_op 137 57 = some (.iload 4, 59, 57) := by decide +kernel
theorem c137_59 : fx_ci 137 59 = some (4, 60) := by decide +kernel
theorem c137_60 : fx_op 137 60 = some (.iload 5, 62, 60) := by decide +kernel
theorem c137_62 : fx_op 137 62 = some (.imul, 63, 62) := by decide +kernel
theorem c137_63 : fx_op 137 63 = some (.ishr, 64, 63) := by decide +kernel
theorem c137_64 : fx_ci 137 64 = some (15, 66) := by decide +kernel
theorem c137_66 : fx_op 137 66 = some (.iand, 67, 66) := by decide +kernel
theorem c137_67 : fx_op 137 67 = some (.istore 7, 69, 67) := by decide +kernel
theorem c137_69 : fx_op 137 69 = some (.iload 7, 71, 69) := by decide +kernel
theorem c137_71 : fx_op 137 71 = some (.ifCond .ne 13, 74, 84) := by decide +kernel
theorem c137_84 : fx_op 137 84 = some (.iload 7, 86, 84) := by decide +kernel
theorem c137_74 : fx_op 137 74 = some (.aload_n 0, 75, 74) := by decide +kernel
theorem c137_75 : fx_gf 137 75 = some (5, 1, 78) := by decide +kernel
theorem c137_78 : fx_cr 137 78 = some (1000093, 80) := by decide +kernel
theorem c137_37 : fx_op 137 37 = some (.iaload, 38, 37) := by decide +kernel
theorem c137_135 : fx_op 137 135 = some (.goto (-133), 138, 2) := by decide +kernel
theorem c137_54 : fx_op 137 54 = some (.iaload, 55, 54) := by decide +kernel
theorem c137_86 : fx_ca 137 86 = some (79, 1, 0, 89) := by decide +kernel
theorem c137_80 : fx_ca 137 80 = some (64, 2, 2, 83) := by decide +kernel
theorem c137_89 : fx_ci 137 89 = some (1, 90) := by decide +kernel
theorem c137_90 : fx_op 137 90 = some (.if_icmp .ne 36, 93, 126) := by decide +kernel
theorem c137_126 : fx_op 137 126 = some (.iinc 5 1, 129, 126) := by decide +kernel
theorem c137_93 : fx_op 137 93 = some (.iload 7, 95, 93) := by decide +kernel
theorem c137_95 : fx_op 137 95 = some (.lload_n 1, 96, 95) := by decide +kernel
theorem c137_96 : fx_op 137 96 = some (.iload 6, 98, 96) := by decide +kernel
theorem c137_129 : fx_op 137 129 = some (.goto (-102), 132, 27) := by decide +kernel
theorem c137_98 : fx_ca 137 98 = some (86, 2, 1, 101) := by decide +kernel
theorem c137_83 : fx_op 137 83 = some (.return_, 84, 83) := by decide +kernel
theorem c137_101 : fx_op 137 101 = some (.if_icmp .eq 25, 104, 126) := by decide +kernel
theorem c137_104 : fx_op 137 104 = some (.aload_n 0, 105, 104) := by decide +kernel
theorem c137_105 : fx_gf 137 105 = some (5, 1, 108) := by decide +kernel
theorem c137_108 : fx_cr 137 108 = some (1000095, 110) := by decide +kernel
theorem c137_110 : fx_ca 137 110 = some (64, 2, 2, 113) := by decide +kernel
theorem c137_113 : fx_op 137 113 = some (.aload_n 0, 114, 113) := by decide +kernel
theorem c137_114 : fx_op 137 114 = some (.iload 6, 116, 114) := by decide +kernel
theorem c137_116 : fx_op 137 116 = some (.iload 7, 118, 116) := by decide +kernel
theorem c137_118 : fx_ca 137 118 = some (87, 1, 1, 121) := by decide +kernel
theorem c137_121 : fx_op 137 121 = some (.iload_n 3, 122, 121) := by decide +kernel
theorem c137_122 : fx_ca 137 122 = some (135, 4, 2, 125) := by decide +kernel
theorem c137_125 : fx_op 137 125 = some (.return_, 126, 125) := by decide +kernel
theorem s137_0 {kc : List va_E} {d : Nat} {x1 : Int} {M : fx_M} {Q : Option fx_V → fx_M → Prop} (H : wp kc (d + 1) 137 2 [some (jR 31), some (jL x1), none, some (jI 0), none, none, none, none] [] M Q) : wp kc (d + 1) 137 0 [some (jR 31), some (jL x1), none, none, none, none, none, none] [] M Q :=
  (x_ci c137_0 (x_istn (l' := [some (jR 31), some (jL x1), none, some (jI 0), none, none, none, none]) c137_1 rfl (wp_wk (l' := [some (jR 31), some (jL x1), none, some (jI 0), none, none, none, none]) ⟨rfl, ⟨rfl, ⟨rfl, trivial⟩⟩⟩ H)))
theorem s137_2 {kc : List va_E} {d : Nat} {v1 v3 : Int} {M : fx_M} {Q : Option fx_V → fx_M → Prop} (H : ((fx_in32 v3) ∧ (fx_in32 (M 11 4))) ∧ (M 11 4 ≤ v3 → wc kc d 64 [jR 3, jR 1000097] M (fun v M1 => wp kc (d + 1) 137 147 [none, none, none, none, none, none, none, none] (v.toList ++ []) M1 Q)) ∧ (v3 < M 11 4 → wc kc d 111 [jR 11, jI v3, jL v1] M (fun v M1 => wp kc (d + 1) 137 22 [some (jR 31), some (jL v1), none, some (jI v3), none, none, none, none] (v.toList ++ []) M1 Q))) : wp kc (d + 1) 137 2 [some (jR 31), some (jL v1), none, some (jI v3), none, none, none, none] [] M Q :=
  (x_ildn c137_2 rfl (x_aldn c137_3 rfl (x_gfr c137_4 k_31_0 (x_gfi c137_7 k_11_4 (x_cge c137_10 H.1.1 H.1.2 (fun h1 => (x_aldn c137_138 rfl (x_gfr c137_139 k_31_1 (x_cr c137_142 (wp_wk (l' := [none, none, none, none, none, none, none, none]) trivial (x_cv (As := [jR 1000097]) (st := []) c137_144 cl_3 kl64 rfl (Nat.le_of_ble_eq_true rfl) mx64 (Nat.le_refl _) (H.2.1 h1))))))) (fun h2 => (x_aldn c137_13 rfl (x_gfr c137_14 k_31_0 (x_ildn c137_17 rfl (x_lldn c137_18 rfl (wp_wk (l' := [some (jR 31), some (jL v1), none, some (jI v3), none, none, none, none]) ⟨rfl, ⟨rfl, ⟨rfl, trivial⟩⟩⟩ (x_cv (As := [jI v3, jL v1]) (st := []) c137_19 cl_11 kl111 rfl (Nat.le_of_ble_eq_true rfl) mx111 (Nat.le_refl _) (H.2.2 h2)))))))))))))
theorem s137_22 {kc : List va_E} {d : Nat} {v1 v3 u0 : Int} {M : fx_M} {Q : Option fx_V → fx_M → Prop} (H : wp kc (d + 1) 137 27 [some (jR 31), some (jL v1), none, some (jI v3), some (jI u0), some (jI 0), none, none] [] M Q) : wp kc (d + 1) 137 22 [some (jR 31), some (jL v1), none, some (jI v3), none, none, none, none] [jI u0] M Q :=
  (x_ist (l' := [some (jR 31), some (jL v1), none, some (jI v3), some (jI u0), none, none, none]) c137_22 rfl (x_ci c137_24 (x_ist (l' := [some (jR 31), some (jL v1), none, some (jI v3), some (jI u0), some (jI 0), none, none]) c137_25 rfl (wp_wk (l' := [some (jR 31), some (jL v1), none, some (jI v3), some (jI u0), some (jI 0), none, none]) ⟨rfl, ⟨rfl, ⟨rfl, ⟨rfl, ⟨rfl, trivial⟩⟩⟩⟩⟩ H))))
theorem s137_27 {kc : List va_E} {d : Nat} {v1 v3 v4 v5 : Int} {M : fx_M} {Q : Option fx_V → fx_M → Prop} (H : (((0 : Int) ≤ v3 ∧ v3 < 12)) ∧ ((fx_in32 v5) ∧ (fx_in32 (M 14 v3))) ∧ (M 14 v3 ≤ v5 → wp kc (d + 1) 137 2 [some (jR 31), some (jL v1), none, some (jI (v3 + 1)), none, none, none, none] [] M Q) ∧ (v5 < M 14 v3 → (((0 : Int) ≤ (4 * v3) + v5 ∧ (4 * v3) + v5 < 48)) ∧ ((fx_in32 (fx_and (fx_shr v4 (4 * v5)) 15))) ∧ (fx_and (fx_shr v4 (4 * v5)) 15 ≠ 0 → wc kc d 79 [jI (fx_and (fx_shr v4 (4 * v5)) 15)] M (fun v M1 => wp kc (d + 1) 137 89 [some (jR 31), some (jL v1), none, some (jI v3), some (jI v4), some (jI v5), some (jI (M 15 ((4 * v3) + v5))), some (jI (fx_and (fx_shr v4 (4 * v5)) 15))] (v.toList ++ []) M1 Q)) ∧ (fx_and (fx_shr v4 (4 * v5)) 15 = 0 → wc kc d 64 [jR 3, jR 1000093] M (fun v M1 => wp kc (d + 1) 137 83 [none, none, none, none, none, none, none, none] (v.toList ++ []) M1 Q)))) : wp kc (d + 1) 137 27 [some (jR 31), some (jL v1), none, some (jI v3), some (jI v4), some (jI v5), none, none] [] M Q :=
  (x_ild c137_27 rfl (x_aldn c137_29 rfl (x_gfr c137_30 k_31_0 (x_gfr c137_33 k_11_7 (x_ildn c137_36 rfl (x_iald c137_37 a_14 H.1 (by decide) (x_cge c137_38 H.2.1.1 H.2.1.2 (fun h3 => (x_inc (l' := [some (jR 31), some (jL v1), none, some (jI (v3 + 1)), some (jI v4), some (jI v5), none, none]) c137_132 rfl rfl (x_goto c137_135 (wp_wk (l' := [some (jR 31), some (jL v1), none, some (jI (v3 + 1)), none, none, none, none]) ⟨rfl, ⟨rfl, ⟨rfl, trivial⟩⟩⟩ (H.2.2.1 h3))))) (fun h4 => (x_aldn c137_41 rfl (x_gfr c137_42 k_31_0 (x_gfr c137_45 k_11_8 (x_ci c137_48 (x_ildn c137_49 rfl (x_imul c137_50 (x_ild c137_51 rfl (x_iadd c137_53 (x_iald c137_54 a_15 (H.2.2.2 h4).1 (by decide) (x_ist (l' := [some (jR 31), some (jL v1), none, some (jI v3), some (jI v4), some (jI v5), some (jI (M 15 ((4 * v3) + v5))), none]) c137_55 rfl (x_ild c137_57 rfl (x_ci c137_59 (x_ild c137_60 rfl (x_imul c137_62 (x_ishr c137_63 (x_ci c137_64 (x_iand c137_66 (x_ist (l' := [some (jR 31), some (jL v1), none, some (jI v3), some (jI v4), some (jI v5), some (jI (M 15 ((4 * v3) + v5))), some (jI (fx_and (fx_shr v4 (4 * v5)) 15))]) c137_67 rfl (x_ild c137_69 rfl (x_zne c137_71 (H.2.2.2 h4).2.1 (fun h1 => (x_ild c137_84 rfl (wp_wk (l' := [some (jR 31), some (jL v1), none, some (jI v3), some (jI v4), some (jI v5), some (jI (M 15 ((4 * v3) + v5))), some (jI (fx_and (fx_shr v4 (4 * v5)) 15))]) ⟨rfl, ⟨rfl, ⟨rfl, ⟨rfl, ⟨rfl, ⟨rfl, ⟨rfl, trivial⟩⟩⟩⟩⟩⟩⟩ (x_cs (As := [jI (fx_and (fx_shr v4 (4 * v5)) 15)]) (st := []) c137_86 (by decide) rfl (Nat.le_of_ble_eq_true rfl) mx79 (Nat.le_refl _) ((H.2.2.2 h4).2.2.1 h1))))) (fun h2 => (x_aldn c137_74 rfl (x_gfr c137_75 k_31_1 (x_cr c137_78 (wp_wk (l' := [none, none, none, none, none, none, none, none]) trivial (x_cv (As := [jR 1000093]) (st := []) c137_80 cl_3 kl64 rfl (Nat.le_of_ble_eq_true rfl) mx64 (Nat.le_refl _) ((H.2.2.2 h4).2.2.2 h2)))))))))))))))))))))))))))))))))))
theorem s137_83 {kc : List va_E} {d : Nat} {M : fx_M} {Q : Option fx_V → fx_M → Prop} (H : Q none M) : wp kc (d + 1) 137 83 [none, none, none, none, none, none, none, none] [] M Q :=
  (x_vr c137_83 r137 H)
theorem s137_89 {kc : List va_E} {d : Nat} {v1 v3 v4 v5 v6 v7 u0 : Int} {M : fx_M} {Q : Option fx_V → fx_M → Prop} (H : ((fx_in32 u0)) ∧ (u0 ≠ 1 → wp kc (d + 1) 137 27 [some (jR 31), some (jL v1), none, some (jI v3), some (jI v4), some (jI (v5 + 1)), none, none] [] M Q) ∧ (u0 = 1 → wc kc d 86 [jL v1, jI v6] M (fun v M1 => wp kc (d + 1) 137 101 [some (jR 31), some (jL v1), none, some (jI v3), some (jI v4), some (jI v5), some (jI v6), some (jI v7)] (v.toList ++ [jI v7]) M1 Q))) : wp kc (d + 1) 137 89 [some (jR 31), some (jL v1), none, some (jI v3), some (jI v4), some (jI v5), some (jI v6), some (jI v7)] [jI u0] M Q :=
  (x_ci c137_89 (x_cne c137_90 H.1 (by decide) (fun h1 => (x_inc (l' := [some (jR 31), some (jL v1), none, some (jI v3), some (jI v4), some (jI (v5 + 1)), some (jI v6), some (jI v7)]) c137_126 rfl rfl (x_goto c137_129 (wp_wk (l' := [some (jR 31), some (jL v1), none, some (jI v3), some (jI v4), some (jI (v5 + 1)), none, none]) ⟨rfl, ⟨rfl, ⟨rfl, ⟨rfl, ⟨rfl, trivial⟩⟩⟩⟩⟩ (H.2.1 h1))))) (fun h2 => (x_ild c137_93 rfl (x_lldn c137_95 rfl (x_ild c137_96 rfl (wp_wk (l' := [some (jR 31), some (jL v1), none, some (jI v3), some (jI v4), some (jI v5), some (jI v6), some (jI v7)]) ⟨rfl, ⟨rfl, ⟨rfl, ⟨rfl, ⟨rfl, ⟨rfl, ⟨rfl, trivial⟩⟩⟩⟩⟩⟩⟩ (x_cs (As := [jL v1, jI v6]) (st := [jI v7]) c137_98 (by decide) rfl (Nat.le_of_ble_eq_true rfl) mx86 (Nat.le_refl _) (H.2.2 h2)))))))))
theorem s137_101 {kc : List va_E} {d : Nat} {v1 v3 v4 v5 v6 v7 u0 u1 : Int} {M : fx_M} {Q : Option fx_V → fx_M → Prop} (H : ((fx_in32 u1) ∧ (fx_in32 u0)) ∧ (u1 = u0 → wp kc (d + 1) 137 27 [some (jR 31), some (jL v1), none, some (jI v3), some (jI v4), some (jI (v5 + 1)), none, none] [] M Q) ∧ (u1 ≠ u0 → wc kc d 64 [jR 3, jR 1000095] M (fun v M1 => wp kc (d + 1) 137 113 [some (jR 31), none, none, some (jI v3), none, none, some (jI v6), some (jI v7)] (v.toList ++ []) M1 Q))) : wp kc (d + 1) 137 101 [some (jR 31), some (jL v1), none, some (jI v3), some (jI v4), some (jI v5), some (jI v6), some (jI v7)] [jI u0, jI u1] M Q :=
  (x_ceq c137_101 H.1.1 H.1.2 (fun h1 => (x_inc (l' := [some (jR 31), some (jL v1), none, some (jI v3), some (jI v4), some (jI (v5 + 1)), some (jI v6), some (jI v7)]) c137_126 rfl rfl (x_goto c137_129 (wp_wk (l' := [some (jR 31), some (jL v1), none, some (jI v3), some (jI v4), some (jI (v5 + 1)), none, none]) ⟨rfl, ⟨rfl, ⟨rfl, ⟨rfl, ⟨rfl, trivial⟩⟩⟩⟩⟩ (H.2.1 h1))))) (fun h2 => (x_aldn c137_104 rfl (x_gfr c137_105 k_31_1 (x_cr c137_108 (wp_wk (l' := [some (jR 31), none, none, some (jI v3), none, none, some (jI v6), some (jI v7)]) ⟨rfl, ⟨rfl, ⟨rfl, ⟨rfl, trivial⟩⟩⟩⟩ (x_cv (As := [jR 1000095]) (st := []) c137_110 cl_3 kl64 rfl (Nat.le_of_ble_eq_true rfl) mx64 (Nat.le_refl _) (H.2.2 h2))))))))
theorem s137_113 {kc : List va_E} {d : Nat} {v3 v6 v7 : Int} {M : fx_M} {Q : Option fx_V → fx_M → Prop} (H : wc kc d 87 [jI v7] M (fun v M1 => wp kc (d + 1) 137 121 [none, none, none, some (jI v3), none, none, none, none] (v.toList ++ [jI v6, jR 31]) M1 Q)) : wp kc (d + 1) 137 113 [some (jR 31), none, none, some (jI v3), none, none, some (jI v6), some (jI v7)] [] M Q :=
  (x_aldn c137_113 rfl (x_ild c137_114 rfl (x_ild c137_116 rfl (wp_wk (l' := [none, none, none, some (jI v3), none, none, none, none]) ⟨rfl, trivial⟩ (x_cs (As := [jI v7]) (st := [jI v6, jR 31]) c137_118 (by decide) rfl (Nat.le_of_ble_eq_true rfl) mx87 (Nat.le_refl _) H)))))
theorem s137_121 {kc : List va_E} {d : Nat} {v3 u0 u1 : Int} {M : fx_M} {Q : Option fx_V → fx_M → Prop} (H : wc kc d 135 [jR 31, jI u1, jI u0, jI v3] M (fun v M1 => wp kc (d + 1) 137 125 [none, none, none, none, none, none, none, none] (v.toList ++ []) M1 Q)) : wp kc (d + 1) 137 121 [none, none, none, some (jI v3), none, none, none, none] [jI u0, jI u1, jR 31] M Q :=
  (x_ildn c137_121 rfl (wp_wk (l' := [none, none, none, none, none, none, none, none]) trivial (x_cv (As := [jI u1, jI u0, jI v3]) (st := []) c137_122 cl_31 kl135 rfl (Nat.le_of_ble_eq_true rfl) mx135 (Nat.le_refl _) H)))
theorem s137_125 {kc : List va_E} {d : Nat} {M : fx_M} {Q : Option fx_V → fx_M → Prop} (H : Q none M) : wp kc (d + 1) 137 125 [none, none, none, none, none, none, none, none] [] M Q :=
  (x_vr c137_125 r137 H)
theorem s137_147 {kc : List va_E} {d : Nat} {M : fx_M} {Q : Option fx_V → fx_M → Prop} (H : Q none M) : wp kc (d + 1) 137 147 [none, none, none, none, none, none, none, none] [] M Q :=
  (x_vr c137_147 r137 H)
theorem s137 {kc : List va_E} {d : Nat} {x1 : Int} {M : fx_M} {Q : Option fx_V → fx_M → Prop} (H : wp kc (d + 1) 137 2 [some (jR 31), some (jL x1), none, some (jI 0), none, none, none, none] [] M Q) : wc kc (d + 1) 137 [jR 31, jL x1] M Q :=
  wc_of (wp_wk (l' := [some (jR 31), some (jL x1), none, none, none, none, none, none]) ⟨rfl, ⟨rfl, trivial⟩⟩ (s137_0 H))

/- PuzzleHouse$Reasons.step(J)V -/
theorem c138_0 : fx_op 138 0 = some (.aload_n 0, 1, 0) := by decide +kernel
theorem c138_1 : fx_ci 138 1 = some (0, 2) := by decide +kernel
theorem c138_2 : fx_ca 138 2 = some (105, 2, 2, 5) := by decide +kernel
theorem c138_5 : fx_op 138 5 = some (.aload_n 0, 6, 5) := by decide +kernel
theorem c138_6 : fx_op 138 6 = some (.lload_n 1, 7, 6) := by decide +kernel
theorem c138_7 : fx_ca 138 7 = some (139, 2, 2, 10) := by decide +kernel
theorem c138_10 : fx_op 138 10 = some (.istore_n 3, 11, 10) := by decide +kernel
theorem c138_11 : fx_op 138 11 = some (.iload_n 3, 12, 11) := by decide +kernel
theorem c138_12 : fx_op 138 12 = some (.ifCond .ne 25, 15, 37) := by decide +kernel
theorem c138_37 : fx_op 138 37 = some (.aload_n 0, 38, 37) := by decide +kernel
theorem c138_38 : fx_gf 138 38 = some (5, 1, 41) := by decide +kernel
theorem c138_41 : fx_op 138 41 = some (.iload_n 3, 42, 41) := by decide +kernel
theorem c138_42 : fx_ci 138 42 = some (1, 43) := by decide +kernel
theorem c138_43 : fx_op 138 43 = some (.if_icmp .ne 8, 46, 51) := by decide +kernel
theorem c138_51 : fx_op 138 51 = some (.iload_n 3, 52, 51) := by decide +kernel
theorem c138_52 : fx_ci 138 52 = some (2, 53) := by decide +kernel
theorem c138_53 : fx_op 138 53 = some (.if_icmp .ne 8, 56, 61) := by decide +kernel
theorem c138_61 : fx_cr 138 61 = some (1000107, 63) := by decide +kernel
theorem c138_56 : fx_cr 138 56 = some (1000105, 58) := by decide +kernel
theorem c138_58 : fx_op 138 58 = some (.goto 5, 61, 63) := by decide +kernel
theorem c138_46 : fx_cr 138 46 = some (1000103, 48) := by decide +kernel
theorem c138_48 : fx_op 138 48 = some (.goto 15, 51, 63) := by decide +kernel
theorem c138_15 : fx_op 138 15 = some (.aload_n 0, 16, 15) := by decide +kernel
theorem c138_16 : fx_gf 138 16 = some (5, 1, 19) := by decide +kernel
theorem c138_19 : fx_op 138 19 = some (.lload_n 1, 20, 19) := by decide +kernel
theorem c138_63 : fx_ca 138 63 = some (64, 2, 2, 66) := by decide +kernel
theorem c138_20 : fx_ca 138 20 = some (115, 1, 1, 23) := by decide +kernel
theorem c138_66 : fx_op 138 66 = some (.aload_n 0, 67, 66) := by decide +kernel
theorem c138_67 : fx_gf 138 67 = some (5, 1, 70) := by decide +kernel
theorem c138_70 : fx_op 138 70 = some (.aload_n 0, 71, 70) := by decide +kernel
theorem c138_71 : fx_gf 138 71 = some (5, 5, 74) := by decide +kernel
theorem c138_74 : fx_ca 138 74 = some (65, 2, 2, 77) := by decide +kernel
theorem c138_23 : fx_op 138 23 = some (.ifCond .eq 8, 26, 31) := by decide +kernel
theorem c138_31 : fx_cr 138 31 = some (1000101, 33) := by decide +kernel
theorem c138_26 : fx_cr 138 26 = some (1000099, 28) := by decide +kernel
theorem c138_28 : fx_op 138 28 = some (.goto 5, 31, 33) := by decide +kernel
theorem c138_33 : fx_ca 138 33 = some (64, 2, 2, 36) := by decide +kernel
theorem c138_77 : fx_op 138 77 = some (.aload_n 0, 78, 77) := by decide +kernel
theorem c138_78 : fx_gf 138 78 = some (5, 1, 81) := by decide +kernel
theorem c138_81 : fx_ci 138 81 = some (32, 83) := by decide +kernel
theorem c138_83 : fx_ca 138 83 = some (69, 2, 2, 86) := by decide +kernel
theorem c138_36 : fx_op 138 36 = some (.return_, 37, 36) := by decide +kernel
theorem c138_86 : fx_op 138 86 = some (.aload_n 0, 87, 86) := by decide +kernel
theorem c138_87 : fx_gf 138 87 = some (5, 1, 90) := by decide +kernel
theorem c138_90 : fx_op 138 90 = some (.aload_n 0, 91, 90) := by decide +kernel
theorem c138_91 : fx_gf 138 91 = some (5, 6, 94) := by decide +kernel
theorem c138_94 : fx_ca 138 94 = some (65, 2, 2, 97) := by decide +kernel
theorem c138_97 : fx_op 138 97 = some (.iload_n 3, 98, 97) := by decide +kernel
theorem c138_98 : fx_ci 138 98 = some (3, 99) := by decide +kernel
theorem c138_99 : fx_op 138 99 = some (.if_icmp .ge 23, 102, 122) := by decide +kernel
theorem c138_102 : fx_op 138 102 = some (.aload_n 0, 103, 102) := by decide +kernel
theorem c138_103 : fx_gf 138 103 = some (5, 1, 106) := by decide +kernel
theorem c138_106 : fx_ci 138 106 = some (32, 108) := by decide +kernel
theorem c138_122 : fx_op 138 122 = some (.iload_n 3, 123, 122) := by decide +kernel
theorem c138_123 : fx_ci 138 123 = some (2, 124) := by decide +kernel
theorem c138_124 : fx_op 138 124 = some (.if_icmp .ne 23, 127, 147) := by decide +kernel
theorem c138_127 : fx_op 138 127 = some (.aload_n 0, 128, 127) := by decide +kernel
theorem c138_128 : fx_gf 138 128 = some (5, 1, 131) := by decide +kernel
theorem c138_131 : fx_ci 138 131 = some (32, 133) := by decide +kernel
theorem c138_147 : fx_op 138 147 = some (.return_, 148, 147) := by decide +kernel
theorem c138_133 : fx_ca 138 133 = some (69, 2, 2, 136) := by decide +kernel
theorem c138_108 : fx_ca 138 108 = some (69, 2, 2, 111) := by decide +kernel
theorem c138_136 : fx_op 138 136 = some (.aload_n 0, 137, 136) := by decide +kernel
theorem c138_137 : fx_gf 138 137 = some (5, 1, 140) := by decide +kernel
theorem c138_140 : fx_op 138 140 = some (.aload_n 0, 141, 140) := by decide +kernel
theorem c138_141 : fx_gf 138 141 = some (5, 4, 144) := by decide +kernel
theorem c138_144 : fx_ca 138 144 = some (65, 2, 2, 147) := by decide +kernel
theorem c138_111 : fx_op 138 111 = some (.aload_n 0, 112, 111) := by decide +kernel
theorem c138_112 : fx_gf 138 112 = some (5, 1, 115) := by decide +kernel
theorem c138_115 : fx_op 138 115 = some (.aload_n 0, 116, 115) := by decide +kernel
theorem c138_116 : fx_gf 138 116 = some (5, 3, 119) := by decide +kernel
theorem c138_119 : fx_ca 138 119 = some (65, 2, 2, 122) := by decide +kernel
theorem s138_0 {kc : List va_E} {d : Nat} {x1 : Int} {M : fx_M} {Q : Option fx_V → fx_M → Prop} (H : wc kc d 105 [jR 31, jI 0] M (fun v M1 => wp kc (d + 1) 138 5 [some (jR 31), some (jL x1), none, none] (v.toList ++ []) M1 Q)) : wp kc (d + 1) 138 0 [some (jR 31), some (jL x1), none, none] [] M Q :=
  (x_aldn c138_0 rfl (x_ci c138_1 (wp_wk (l' := [some (jR 31), some (jL x1), none, none]) ⟨rfl, ⟨rfl, trivial⟩⟩ (x_cv (As := [jI 0]) (st := []) c138_2 cl_31 kl105 rfl (Nat.le_of_ble_eq_true rfl) mx105 (Nat.le_refl _) H))))
theorem s138_5 {kc : List va_E} {d : Nat} {v1 : Int} {M : fx_M} {Q : Option fx_V → fx_M → Prop} (H : wc kc d 139 [jR 31, jL v1] M (fun v M1 => wp kc (d + 1) 138 10 [some (jR 31), some (jL v1), none, none] (v.toList ++ []) M1 Q)) : wp kc (d + 1) 138 5 [some (jR 31), some (jL v1), none, none] [] M Q :=
  (x_aldn c138_5 rfl (x_lldn c138_6 rfl (wp_wk (l' := [some (jR 31), some (jL v1), none, none]) ⟨rfl, ⟨rfl, trivial⟩⟩ (x_cv (As := [jL v1]) (st := []) c138_7 cl_31 kl139 rfl (Nat.le_of_ble_eq_true rfl) mx139 (Nat.le_refl _) H))))
theorem s138_10 {kc : List va_E} {d : Nat} {v1 u0 : Int} {M : fx_M} {Q : Option fx_V → fx_M → Prop} (H : ((fx_in32 u0)) ∧ (u0 ≠ 0 → ((fx_in32 u0)) ∧ (u0 ≠ 1 → ((fx_in32 u0)) ∧ (u0 ≠ 2 → wc kc d 64 [jR 3, jR 1000107] M (fun v M1 => wp kc (d + 1) 138 66 [some (jR 31), none, none, some (jI u0)] (v.toList ++ []) M1 Q)) ∧ (u0 = 2 → wc kc d 64 [jR 3, jR 1000105] M (fun v M1 => wp kc (d + 1) 138 66 [some (jR 31), none, none, some (jI u0)] (v.toList ++ []) M1 Q))) ∧ (u0 = 1 → wc kc d 64 [jR 3, jR 1000103] M (fun v M1 => wp kc (d + 1) 138 66 [some (jR 31), none, none, some (jI u0)] (v.toList ++ []) M1 Q))) ∧ (u0 = 0 → wc kc d 115 [jL v1] M (fun v M1 => wp kc (d + 1) 138 23 [none, none, none, none] (v.toList ++ [jR 3]) M1 Q))) : wp kc (d + 1) 138 10 [some (jR 31), some (jL v1), none, none] [jI u0] M Q :=
  (x_istn (l' := [some (jR 31), some (jL v1), none, some (jI u0)]) c138_10 rfl (x_ildn c138_11 rfl (x_zne c138_12 H.1 (fun h5 => (x_aldn c138_37 rfl (x_gfr c138_38 k_31_1 (x_ildn c138_41 rfl (x_ci c138_42 (x_cne c138_43 (H.2.1 h5).1 (by decide) (fun h3 => (x_ildn c138_51 rfl (x_ci c138_52 (x_cne c138_53 ((H.2.1 h5).2.1 h3).1 (by decide) (fun h1 => (x_cr c138_61 (wp_wk (l' := [some (jR 31), none, none, some (jI u0)]) ⟨rfl, ⟨rfl, trivial⟩⟩ (x_cv (As := [jR 1000107]) (st := []) c138_63 cl_3 kl64 rfl (Nat.le_of_ble_eq_true rfl) mx64 (Nat.le_refl _) (((H.2.1 h5).2.1 h3).2.1 h1))))) (fun h2 => (x_cr c138_56 (x_goto c138_58 (wp_wk (l' := [some (jR 31), none, none, some (jI u0)]) ⟨rfl, ⟨rfl, trivial⟩⟩ (x_cv (As := [jR 1000105]) (st := []) c138_63 cl_3 kl64 rfl (Nat.le_of_ble_eq_true rfl) mx64 (Nat.le_refl _) (((H.2.1 h5).2.1 h3).2.2 h2)))))))))) (fun h4 => (x_cr c138_46 (x_goto c138_48 (wp_wk (l' := [some (jR 31), none, none, some (jI u0)]) ⟨rfl, ⟨rfl, trivial⟩⟩ (x_cv (As := [jR 1000103]) (st := []) c138_63 cl_3 kl64 rfl (Nat.le_of_ble_eq_true rfl) mx64 (Nat.le_refl _) ((H.2.1 h5).2.2 h4)))))))))))) (fun h6 => (x_aldn c138_15 rfl (x_gfr c138_16 k_31_1 (x_lldn c138_19 rfl (wp_wk (l' := [none, none, none, none]) trivial (x_cs (As := [jL v1]) (st := [jR 3]) c138_20 (by decide) rfl (Nat.le_of_ble_eq_true rfl) mx115 (Nat.le_refl _) (H.2.2 h6))))))))))
theorem s138_23 {kc : List va_E} {d : Nat} {u0 : Int} {M : fx_M} {Q : Option fx_V → fx_M → Prop} (H : ((fx_in32 u0)) ∧ (u0 = 0 → wc kc d 64 [jR 3, jR 1000101] M (fun v M1 => wp kc (d + 1) 138 36 [none, none, none, none] (v.toList ++ []) M1 Q)) ∧ (u0 ≠ 0 → wc kc d 64 [jR 3, jR 1000099] M (fun v M1 => wp kc (d + 1) 138 36 [none, none, none, none] (v.toList ++ []) M1 Q))) : wp kc (d + 1) 138 23 [none, none, none, none] [jI u0, jR 3] M Q :=
  (x_zeq c138_23 H.1 (fun h1 => (x_cr c138_31 (wp_wk (l' := [none, none, none, none]) trivial (x_cv (As := [jR 1000101]) (st := []) c138_33 cl_3 kl64 rfl (Nat.le_of_ble_eq_true rfl) mx64 (Nat.le_refl _) (H.2.1 h1))))) (fun h2 => (x_cr c138_26 (x_goto c138_28 (wp_wk (l' := [none, none, none, none]) trivial (x_cv (As := [jR 1000099]) (st := []) c138_33 cl_3 kl64 rfl (Nat.le_of_ble_eq_true rfl) mx64 (Nat.le_refl _) (H.2.2 h2)))))))
theorem s138_36 {kc : List va_E} {d : Nat} {M : fx_M} {Q : Option fx_V → fx_M → Prop} (H : Q none M) : wp kc (d + 1) 138 36 [none, none, none, none] [] M Q :=
  (x_vr c138_36 r138 H)
theorem s138_66 {kc : List va_E} {d : Nat} {v3 : Int} {M : fx_M} {Q : Option fx_V → fx_M → Prop} (H : wc kc d 65 [jR 3, jI (M 31 5)] M (fun v M1 => wp kc (d + 1) 138 77 [some (jR 31), none, none, some (jI v3)] (v.toList ++ []) M1 Q)) : wp kc (d + 1) 138 66 [some (jR 31), none, none, some (jI v3)] [] M Q :=
  (x_aldn c138_66 rfl (x_gfr c138_67 k_31_1 (x_aldn c138_70 rfl (x_gfi c138_71 k_31_5 (wp_wk (l' := [some (jR 31), none, none, some (jI v3)]) ⟨rfl, ⟨rfl, trivial⟩⟩ (x_cv (As := [jI (M 31 5)]) (st := []) c138_74 cl_3 kl65 rfl (Nat.le_of_ble_eq_true rfl) mx65 (Nat.le_refl _) H))))))
theorem s138_77 {kc : List va_E} {d : Nat} {v3 : Int} {M : fx_M} {Q : Option fx_V → fx_M → Prop} (H : wc kc d 69 [jR 3, jI 32] M (fun v M1 => wp kc (d + 1) 138 86 [some (jR 31), none, none, some (jI v3)] (v.toList ++ []) M1 Q)) : wp kc (d + 1) 138 77 [some (jR 31), none, none, some (jI v3)] [] M Q :=
  (x_aldn c138_77 rfl (x_gfr c138_78 k_31_1 (x_ci c138_81 (wp_wk (l' := [some (jR 31), none, none, some (jI v3)]) ⟨rfl, ⟨rfl, trivial⟩⟩ (x_cv (As := [jI 32]) (st := []) c138_83 cl_3 kl69 rfl (Nat.le_of_ble_eq_true rfl) mx69 (Nat.le_refl _) H)))))
theorem s138_86 {kc : List va_E} {d : Nat} {v3 : Int} {M : fx_M} {Q : Option fx_V → fx_M → Prop} (H : wc kc d 65 [jR 3, jI (M 31 6)] M (fun v M1 => wp kc (d + 1) 138 97 [some (jR 31), none, none, some (jI v3)] (v.toList ++ []) M1 Q)) : wp kc (d + 1) 138 86 [some (jR 31), none, none, some (jI v3)] [] M Q :=
  (x_aldn c138_86 rfl (x_gfr c138_87 k_31_1 (x_aldn c138_90 rfl (x_gfi c138_91 k_31_6 (wp_wk (l' := [some (jR 31), none, none, some (jI v3)]) ⟨rfl, ⟨rfl, trivial⟩⟩ (x_cv (As := [jI (M 31 6)]) (st := []) c138_94 cl_3 kl65 rfl (Nat.le_of_ble_eq_true rfl) mx65 (Nat.le_refl _) H))))))
theorem s138_97 {kc : List va_E} {d : Nat} {v3 : Int} {M : fx_M} {Q : Option fx_V → fx_M → Prop} (H : ((fx_in32 v3)) ∧ (3 ≤ v3 → ((fx_in32 v3)) ∧ (v3 ≠ 2 → Q none M) ∧ (v3 = 2 → wc kc d 69 [jR 3, jI 32] M (fun v M1 => wp kc (d + 1) 138 136 [some (jR 31), none, none, none] (v.toList ++ []) M1 Q))) ∧ (v3 < 3 → wc kc d 69 [jR 3, jI 32] M (fun v M1 => wp kc (d + 1) 138 111 [some (jR 31), none, none, some (jI v3)] (v.toList ++ []) M1 Q))) : wp kc (d + 1) 138 97 [some (jR 31), none, none, some (jI v3)] [] M Q :=
  (x_ildn c138_97 rfl (x_ci c138_98 (x_cge c138_99 H.1 (by decide) (fun h3 => (x_ildn c138_122 rfl (x_ci c138_123 (x_cne c138_124 (H.2.1 h3).1 (by decide) (fun h1 => (x_vr c138_147 r138 ((H.2.1 h3).2.1 h1))) (fun h2 => (x_aldn c138_127 rfl (x_gfr c138_128 k_31_1 (x_ci c138_131 (wp_wk (l' := [some (jR 31), none, none, none]) ⟨rfl, trivial⟩ (x_cv (As := [jI 32]) (st := []) c138_133 cl_3 kl69 rfl (Nat.le_of_ble_eq_true rfl) mx69 (Nat.le_refl _) ((H.2.1 h3).2.2 h2))))))))))) (fun h4 => (x_aldn c138_102 rfl (x_gfr c138_103 k_31_1 (x_ci c138_106 (wp_wk (l' := [some (jR 31), none, none, some (jI v3)]) ⟨rfl, ⟨rfl, trivial⟩⟩ (x_cv (As := [jI 32]) (st := []) c138_108 cl_3 kl69 rfl (Nat.le_of_ble_eq_true rfl) mx69 (Nat.le_refl _) (H.2.2 h4))))))))))
theorem s138_111 {kc : List va_E} {d : Nat} {v3 : Int} {M : fx_M} {Q : Option fx_V → fx_M → Prop} (H : wc kc d 65 [jR 3, jI (M 31 3)] M (fun v M1 => wp kc (d + 1) 138 122 [some (jR 31), none, none, some (jI v3)] (v.toList ++ []) M1 Q)) : wp kc (d + 1) 138 111 [some (jR 31), none, none, some (jI v3)] [] M Q :=
  (x_aldn c138_111 rfl (x_gfr c138_112 k_31_1 (x_aldn c138_115 rfl (x_gfi c138_116 k_31_3 (wp_wk (l' := [some (jR 31), none, none, some (jI v3)]) ⟨rfl, ⟨rfl, trivial⟩⟩ (x_cv (As := [jI (M 31 3)]) (st := []) c138_119 cl_3 kl65 rfl (Nat.le_of_ble_eq_true rfl) mx65 (Nat.le_refl _) H))))))
theorem s138_122 {kc : List va_E} {d : Nat} {v3 : Int} {M : fx_M} {Q : Option fx_V → fx_M → Prop} (H : ((fx_in32 v3)) ∧ (v3 ≠ 2 → Q none M) ∧ (v3 = 2 → wc kc d 69 [jR 3, jI 32] M (fun v M1 => wp kc (d + 1) 138 136 [some (jR 31), none, none, none] (v.toList ++ []) M1 Q))) : wp kc (d + 1) 138 122 [some (jR 31), none, none, some (jI v3)] [] M Q :=
  (x_ildn c138_122 rfl (x_ci c138_123 (x_cne c138_124 H.1 (by decide) (fun h1 => (x_vr c138_147 r138 (H.2.1 h1))) (fun h2 => (x_aldn c138_127 rfl (x_gfr c138_128 k_31_1 (x_ci c138_131 (wp_wk (l' := [some (jR 31), none, none, none]) ⟨rfl, trivial⟩ (x_cv (As := [jI 32]) (st := []) c138_133 cl_3 kl69 rfl (Nat.le_of_ble_eq_true rfl) mx69 (Nat.le_refl _) (H.2.2 h2))))))))))
theorem s138_136 {kc : List va_E} {d : Nat} {M : fx_M} {Q : Option fx_V → fx_M → Prop} (H : wc kc d 65 [jR 3, jI (M 31 4)] M (fun v M1 => wp kc (d + 1) 138 147 [none, none, none, none] (v.toList ++ []) M1 Q)) : wp kc (d + 1) 138 136 [some (jR 31), none, none, none] [] M Q :=
  (x_aldn c138_136 rfl (x_gfr c138_137 k_31_1 (x_aldn c138_140 rfl (x_gfi c138_141 k_31_4 (wp_wk (l' := [none, none, none, none]) trivial (x_cv (As := [jI (M 31 4)]) (st := []) c138_144 cl_3 kl65 rfl (Nat.le_of_ble_eq_true rfl) mx65 (Nat.le_refl _) H))))))
theorem s138_147 {kc : List va_E} {d : Nat} {M : fx_M} {Q : Option fx_V → fx_M → Prop} (H : Q none M) : wp kc (d + 1) 138 147 [none, none, none, none] [] M Q :=
  (x_vr c138_147 r138 H)
theorem s138 {kc : List va_E} {d : Nat} {x1 : Int} {M : fx_M} {Q : Option fx_V → fx_M → Prop} (H : wc kc d 105 [jR 31, jI 0] M (fun v M1 => wp kc (d + 1) 138 5 [some (jR 31), some (jL x1), none, none] (v.toList ++ []) M1 Q)) : wc kc (d + 1) 138 [jR 31, jL x1] M Q :=
  wc_of (wp_wk (l' := [some (jR 31), some (jL x1), none, none]) ⟨rfl, ⟨rfl, trivial⟩⟩ (s138_0 H))

/- PuzzleHouse$Reasons.findStep(J)I -/
theorem c139_0 : fx_op 139 0 = some (.aload_n 0, 1, 0) := by decide +kernel
theorem c139_1 : fx_op 139 1 = some (.lload_n 1, 2, 1) := by decide +kernel
theorem c139_2 : fx_ca 139 2 = some (110, 2, 2, 5) := by decide +kernel
theorem c139_5 : fx_op 139 5 = some (.ifCond .eq 5, 8, 10) := by decide +kernel
theorem c139_10 : fx_op 139 10 = some (.aload_n 0, 11, 10) := by decide +kernel
theorem c139_11 : fx_op 139 11 = some (.lload_n 1, 12, 11) := by decide +kernel
theorem c139_8 : fx_ci 139 8 = some (1, 9) := by decide +kernel
theorem c139_12 : fx_ca 139 12 = some (140, 2, 2, 15) := by decide +kernel
theorem c139_9 : fx_op 139 9 = some (.ireturn, 10, 9) := by decide +kernel
theorem c139_15 : fx_op 139 15 = some (.ifCond .eq 5, 18, 20) := by decide +kernel
theorem c139_20 : fx_op 139 20 = some (.aload_n 0, 21, 20) := by decide +kernel
theorem c139_21 : fx_gf 139 21 = some (5, 2, 24) := by decide +kernel
theorem c139_24 : fx_op 139 24 = some (.istore_n 3, 25, 24) := by decide +kernel
theorem c139_25 : fx_op 139 25 = some (.aload_n 0, 26, 25) := by decide +kernel
theorem c139_26 : fx_ci 139 26 = some (0, 27) := by decide +kernel
theorem c139_27 : fx_pf 139 27 = some (5, 2, 2, 30) := by decide +kernel
theorem c139_30 : fx_ci 139 30 = some (0, 31) := by decide +kernel
theorem c139_31 : fx_op 139 31 = some (.istore 4, 33, 31) := by decide +kernel
theorem c139_33 : fx_ci 139 33 = some (0, 34) := by decide +kernel
theorem c139_34 : fx_op 139 34 = some (.istore 5, 36, 34) := by decide +kernel
theorem c139_18 : fx_ci 139 18 = some (2, 19) := by decide +kernel
theorem c139_19 : fx_op 139 19 = some (.ireturn, 20, 19) := by decide +kernel
theorem c139_36 : fx_op 139 36 = some (.iload 5, 38, 36) := by decide +kernel
theorem c139_38 : fx_ci 139 38 = some (4, 39) := by decide +kernel
theorem c139_39 : fx_op 139 39 = some (.aload_n 0, 40, 39) := by decide +kernel
theorem c139_40 : fx_gf 139 40 = some (5, 0, 43) := by decide +kernel
theorem c139_43 : fx_gf 139 43 = some (3, 2, 46) := by decide +kernel
theorem c139_46 : fx_op 139 46 = some (.imul, 47, 46) := by decide +kernel
theorem c139_47 : fx_op 139 47 = some (.if_icmp .ge 86, 50, 133) := by decide +kernel
theorem c139_50 : fx_op 139 50 = some (.iload 4, 52, 50) := by decide +kernel
theorem c139_52 : fx_op 139 52 = some (.ifCond .ne 81, 55, 133) := by decide +kernel
theorem c139_55 : fx_op 139 55 = some (.iload 5, 57, 55) := by decide +kernel
theorem c139_57 : fx_ci 139 57 = some (2, 58) := by decide +kernel
theorem c139_58 : fx_op 139 58 = some (.ishr, 59, 58) := by decide +kernel
theorem c139_59 : fx_op 139 59 = some (.istore 6, 61, 59) := by decide +kernel
theorem c139_61 : fx_op 139 61 = some (.iload 5, 63, 61) := by decide +kernel
theorem c139_63 : fx_ci 139 63 = some (3, 64) := by decide +kernel
theorem c139_64 : fx_op 139 64 = some (.iand, 65, 64) := by decide +kernel
theorem c139_65 : fx_op 139 65 = some (.istore 7, 67, 65) := by decide +kernel
theorem c139_67 : fx_op 139 67 = some (.lload_n 1, 68, 67) := by decide +kernel
theorem c139_68 : fx_op 139 68 = some (.iload 6, 70, 68) := by decide +kernel
theorem c139_133 : fx_op 139 133 = some (.aload_n 0, 134, 133) := by decide +kernel
theorem c139_134 : fx_op 139 134 = some (.iload_n 3, 135, 134) := by decide +kernel
theorem c139_138 : fx_op 139 138 = some (.iload 4, 140, 138) := by decide +kernel
theorem c139_135 : fx_pf 139 135 = some (5, 2, 2, 138) := by decide +kernel
theorem c139_140 : fx_op 139 140 = some (.ireturn, 141, 140) := by decide +kernel
theorem c139_70 : fx_ca 139 70 = some (86, 2, 1, 73) := by decide +kernel
theorem c139_73 : fx_op 139 73 = some (.istore 8, 75, 73) := by decide +kernel
theorem c139_75 : fx_op 139 75 = some (.iload 8, 77, 75) := by decide +kernel
theorem c139_77 : fx_op 139 77 = some (.iload 7, 79, 77) := by decide +kernel
theorem c139_79 : fx_op 139 79 = some (.ishr, 80, 79) := by decide +kernel
theorem c139_80 : fx_ci 139 80 = some (1, 81) := by decide +kernel
theorem c139_81 : fx_op 139 81 = some (.iand, 82, 81) := by decide +kernel
theorem c139_82 : fx_op 139 82 = some (.ifCond .eq 45, 85, 127) := by decide +kernel
theorem c139_85 : fx_op 139 85 = some (.iload 8, 87, 85) := by decide +kernel
theorem c139_87 : fx_ci 139 87 = some (1, 88) := by decide +kernel
theorem c139_88 : fx_op 139 88 = some (.iload 7, 90, 88) := by decide +kernel
theorem c139_90 : fx_op 139 90 = some (.ishl, 91, 90) := by decide +kernel
theorem c139_91 : fx_op 139 91 = some (.if_icmp .eq 36, 94, 127) := by decide +kernel
theorem c139_94 : fx_op 139 94 = some (.aload_n 0, 95, 94) := by decide +kernel
theorem c139_95 : fx_op 139 95 = some (.lload_n 1, 96, 95) := by decide +kernel
theorem c139_96 : fx_op 139 96 = some (.iload 6, 98, 96) := by decide +kernel
theorem c139_98 : fx_op 139 98 = some (.iload 7, 100, 98) := by decide +kernel
theorem c139_127 : fx_op 139 127 = some (.iinc 5 1, 130, 127) := by decide +kernel
theorem c139_130 : fx_op 139 130 = some (.goto (-94), 133, 36) := by decide +kernel
theorem c139_100 : fx_ca 139 100 = some (83, 3, 1, 103) := by decide +kernel
theorem c139_103 : fx_ca 139 103 = some (109, 2, 2, 106) := by decide +kernel
theorem c139_106 : fx_ca 139 106 = some (114, 1, 1, 109) := by decide +kernel
theorem c139_109 : fx_op 139 109 = some (.ifCond .eq 18, 112, 127) := by decide +kernel
theorem c139_112 : fx_op 139 112 = some (.aload_n 0, 113, 112) := by decide +kernel
theorem c139_113 : fx_op 139 113 = some (.iload 6, 115, 113) := by decide +kernel
theorem c139_115 : fx_pf 139 115 = some (5, 5, 0, 118) := by decide +kernel
theorem c139_118 : fx_op 139 118 = some (.aload_n 0, 119, 118) := by decide +kernel
theorem c139_119 : fx_op 139 119 = some (.iload 7, 121, 119) := by decide +kernel
theorem c139_121 : fx_pf 139 121 = some (5, 6, 0, 124) := by decide +kernel
theorem c139_124 : fx_ci 139 124 = some (3, 125) := by decide +kernel
theorem c139_125 : fx_op 139 125 = some (.istore 4, 127, 125) := by decide +kernel
theorem s139_0 {kc : List va_E} {d : Nat} {x1 : Int} {M : fx_M} {Q : Option fx_V → fx_M → Prop} (H : wc kc d 110 [jR 31, jL x1] M (fun v M1 => wp kc (d + 1) 139 5 [some (jR 31), some (jL x1), none, none, none, none, none, none, none] (v.toList ++ []) M1 Q)) : wp kc (d + 1) 139 0 [some (jR 31), some (jL x1), none, none, none, none, none, none, none] [] M Q :=
  (x_aldn c139_0 rfl (x_lldn c139_1 rfl (wp_wk (l' := [some (jR 31), some (jL x1), none, none, none, none, none, none, none]) ⟨rfl, ⟨rfl, trivial⟩⟩ (x_cv (As := [jL x1]) (st := []) c139_2 cl_31 kl110 rfl (Nat.le_of_ble_eq_true rfl) mx110 (Nat.le_refl _) H))))
theorem s139_5 {kc : List va_E} {d : Nat} {v1 u0 : Int} {M : fx_M} {Q : Option fx_V → fx_M → Prop} (H : ((fx_in32 u0)) ∧ (u0 = 0 → wc kc d 140 [jR 31, jL v1] M (fun v M1 => wp kc (d + 1) 139 15 [some (jR 31), some (jL v1), none, none, none, none, none, none, none] (v.toList ++ []) M1 Q)) ∧ (u0 ≠ 0 → Q (some (jI 1)) M)) : wp kc (d + 1) 139 5 [some (jR 31), some (jL v1), none, none, none, none, none, none, none] [jI u0] M Q :=
  (x_zeq c139_5 H.1 (fun h1 => (x_aldn c139_10 rfl (x_lldn c139_11 rfl (wp_wk (l' := [some (jR 31), some (jL v1), none, none, none, none, none, none, none]) ⟨rfl, ⟨rfl, trivial⟩⟩ (x_cv (As := [jL v1]) (st := []) c139_12 cl_31 kl140 rfl (Nat.le_of_ble_eq_true rfl) mx140 (Nat.le_refl _) (H.2.1 h1)))))) (fun h2 => (x_ci c139_8 (x_irt c139_9 r139 (H.2.2 h2)))))
theorem s139_15 {kc : List va_E} {d : Nat} {v1 u0 : Int} {M : fx_M} {Q : Option fx_V → fx_M → Prop} (H : ((fx_in32 u0)) ∧ (u0 = 0 → wp kc (d + 1) 139 36 [some (jR 31), some (jL v1), none, some (jI (M 31 2)), some (jI 0), some (jI 0), none, none, none] [] (fx_up M 31 2 0) Q) ∧ (u0 ≠ 0 → Q (some (jI 2)) M)) : wp kc (d + 1) 139 15 [some (jR 31), some (jL v1), none, none, none, none, none, none, none] [jI u0] M Q :=
  (x_zeq c139_15 H.1 (fun h1 => (x_aldn c139_20 rfl (x_gfi c139_21 k_31_2 (x_istn (l' := [some (jR 31), some (jL v1), none, some (jI (M 31 2)), none, none, none, none, none]) c139_24 rfl (x_aldn c139_25 rfl (x_ci c139_26 (x_pfz c139_27 k_31_2 (by decide) (x_ci c139_30 (x_ist (l' := [some (jR 31), some (jL v1), none, some (jI (M 31 2)), some (jI 0), none, none, none, none]) c139_31 rfl (x_ci c139_33 (x_ist (l' := [some (jR 31), some (jL v1), none, some (jI (M 31 2)), some (jI 0), some (jI 0), none, none, none]) c139_34 rfl (wp_wk (l' := [some (jR 31), some (jL v1), none, some (jI (M 31 2)), some (jI 0), some (jI 0), none, none, none]) ⟨rfl, ⟨rfl, ⟨rfl, ⟨rfl, ⟨rfl, trivial⟩⟩⟩⟩⟩ (H.2.1 h1))))))))))))) (fun h2 => (x_ci c139_18 (x_irt c139_19 r139 (H.2.2 h2)))))
theorem s139_36 {kc : List va_E} {d : Nat} {v1 v3 v4 v5 : Int} {M : fx_M} {Q : Option fx_V → fx_M → Prop} (H : ((fx_in32 v5) ∧ (fx_in32 (4 * (M 11 2)))) ∧ (4 * (M 11 2) ≤ v5 → (((0 : Int) ≤ v3 ∧ v3 ≤ 1)) ∧ Q (some (jI v4)) (fx_up M 31 2 v3)) ∧ (v5 < 4 * (M 11 2) → ((fx_in32 v4)) ∧ (v4 ≠ 0 → (((0 : Int) ≤ v3 ∧ v3 ≤ 1)) ∧ Q (some (jI v4)) (fx_up M 31 2 v3)) ∧ (v4 = 0 → wc kc d 86 [jL v1, jI (fx_shr v5 2)] M (fun v M1 => wp kc (d + 1) 139 73 [some (jR 31), some (jL v1), none, some (jI v3), some (jI v4), some (jI v5), some (jI (fx_shr v5 2)), some (jI (fx_and v5 3)), none] (v.toList ++ []) M1 Q)))) : wp kc (d + 1) 139 36 [some (jR 31), some (jL v1), none, some (jI v3), some (jI v4), some (jI v5), none, none, none] [] M Q :=
  (x_ild c139_36 rfl (x_ci c139_38 (x_aldn c139_39 rfl (x_gfr c139_40 k_31_0 (x_gfi c139_43 k_11_2 (x_imul c139_46 (x_cge c139_47 H.1.1 H.1.2 (fun h3 => (x_aldn c139_133 rfl (x_ildn c139_134 rfl (x_pfz c139_135 k_31_2 (H.2.1 h3).1 (x_ild c139_138 rfl (x_irt c139_140 r139 (H.2.1 h3).2)))))) (fun h4 => (x_ild c139_50 rfl (x_zne c139_52 (H.2.2 h4).1 (fun h1 => (x_aldn c139_133 rfl (x_ildn c139_134 rfl (x_pfz c139_135 k_31_2 ((H.2.2 h4).2.1 h1).1 (x_ild c139_138 rfl (x_irt c139_140 r139 ((H.2.2 h4).2.1 h1).2)))))) (fun h2 => (x_ild c139_55 rfl (x_ci c139_57 (x_ishr c139_58 (x_ist (l' := [some (jR 31), some (jL v1), none, some (jI v3), some (jI v4), some (jI v5), some (jI (fx_shr v5 2)), none, none]) c139_59 rfl (x_ild c139_61 rfl (x_ci c139_63 (x_iand c139_64 (x_ist (l' := [some (jR 31), some (jL v1), none, some (jI v3), some (jI v4), some (jI v5), some (jI (fx_shr v5 2)), some (jI (fx_and v5 3)), none]) c139_65 rfl (x_lldn c139_67 rfl (x_ild c139_68 rfl (wp_wk (l' := [some (jR 31), some (jL v1), none, some (jI v3), some (jI v4), some (jI v5), some (jI (fx_shr v5 2)), some (jI (fx_and v5 3)), none]) ⟨rfl, ⟨rfl, ⟨rfl, ⟨rfl, ⟨rfl, ⟨rfl, ⟨rfl, trivial⟩⟩⟩⟩⟩⟩⟩ (x_cs (As := [jL v1, jI (fx_shr v5 2)]) (st := []) c139_70 (by decide) rfl (Nat.le_of_ble_eq_true rfl) mx86 (Nat.le_refl _) ((H.2.2 h4).2.2 h2))))))))))))))))))))))))
theorem s139_73 {kc : List va_E} {d : Nat} {v1 v3 v4 v5 v6 v7 u0 : Int} {M : fx_M} {Q : Option fx_V → fx_M → Prop} (H : ((fx_in32 (fx_and (fx_shr u0 v7) 1))) ∧ (fx_and (fx_shr u0 v7) 1 = 0 → wp kc (d + 1) 139 36 [some (jR 31), some (jL v1), none, some (jI v3), some (jI v4), some (jI (v5 + 1)), none, none, none] [] M Q) ∧ (fx_and (fx_shr u0 v7) 1 ≠ 0 → ((fx_in32 u0) ∧ (fx_in32 (fx_shl 1 v7))) ∧ (u0 = fx_shl 1 v7 → wp kc (d + 1) 139 36 [some (jR 31), some (jL v1), none, some (jI v3), some (jI v4), some (jI (v5 + 1)), none, none, none] [] M Q) ∧ (u0 ≠ fx_shl 1 v7 → wc kc d 83 [jL v1, jI v6, jI v7] M (fun v M1 => wp kc (d + 1) 139 103 [some (jR 31), some (jL v1), none, some (jI v3), some (jI v4), some (jI v5), some (jI v6), some (jI v7), none] (v.toList ++ [jR 31]) M1 Q)))) : wp kc (d + 1) 139 73 [some (jR 31), some (jL v1), none, some (jI v3), some (jI v4), some (jI v5), some (jI v6), some (jI v7), none] [jI u0] M Q :=
  (x_ist (l' := [some (jR 31), some (jL v1), none, some (jI v3), some (jI v4), some (jI v5), some (jI v6), some (jI v7), some (jI u0)]) c139_73 rfl (x_ild c139_75 rfl (x_ild c139_77 rfl (x_ishr c139_79 (x_ci c139_80 (x_iand c139_81 (x_zeq c139_82 H.1 (fun h3 => (x_inc (l' := [some (jR 31), some (jL v1), none, some (jI v3), some (jI v4), some (jI (v5 + 1)), some (jI v6), some (jI v7), some (jI u0)]) c139_127 rfl rfl (x_goto c139_130 (wp_wk (l' := [some (jR 31), some (jL v1), none, some (jI v3), some (jI v4), some (jI (v5 + 1)), none, none, none]) ⟨rfl, ⟨rfl, ⟨rfl, ⟨rfl, ⟨rfl, trivial⟩⟩⟩⟩⟩ (H.2.1 h3))))) (fun h4 => (x_ild c139_85 rfl (x_ci c139_87 (x_ild c139_88 rfl (x_ishl c139_90 (x_ceq c139_91 (H.2.2 h4).1.1 (H.2.2 h4).1.2 (fun h1 => (x_inc (l' := [some (jR 31), some (jL v1), none, some (jI v3), some (jI v4), some (jI (v5 + 1)), some (jI v6), some (jI v7), some (jI u0)]) c139_127 rfl rfl (x_goto c139_130 (wp_wk (l' := [some (jR 31), some (jL v1), none, some (jI v3), some (jI v4), some (jI (v5 + 1)), none, none, none]) ⟨rfl, ⟨rfl, ⟨rfl, ⟨rfl, ⟨rfl, trivial⟩⟩⟩⟩⟩ ((H.2.2 h4).2.1 h1))))) (fun h2 => (x_aldn c139_94 rfl (x_lldn c139_95 rfl (x_ild c139_96 rfl (x_ild c139_98 rfl (wp_wk (l' := [some (jR 31), some (jL v1), none, some (jI v3), some (jI v4), some (jI v5), some (jI v6), some (jI v7), none]) ⟨rfl, ⟨rfl, ⟨rfl, ⟨rfl, ⟨rfl, ⟨rfl, ⟨rfl, trivial⟩⟩⟩⟩⟩⟩⟩ (x_cs (As := [jL v1, jI v6, jI v7]) (st := [jR 31]) c139_100 (by decide) rfl (Nat.le_of_ble_eq_true rfl) mx83 (Nat.le_refl _) ((H.2.2 h4).2.2 h2)))))))))))))))))))))
theorem s139_103 {kc : List va_E} {d : Nat} {v1 v3 v4 v5 v6 v7 u0 : Int} {M : fx_M} {Q : Option fx_V → fx_M → Prop} (H : wc kc d 109 [jR 31, jL u0] M (fun v M1 => wp kc (d + 1) 139 106 [some (jR 31), some (jL v1), none, some (jI v3), some (jI v4), some (jI v5), some (jI v6), some (jI v7), none] (v.toList ++ []) M1 Q)) : wp kc (d + 1) 139 103 [some (jR 31), some (jL v1), none, some (jI v3), some (jI v4), some (jI v5), some (jI v6), some (jI v7), none] [jL u0, jR 31] M Q :=
  (wp_wk (l' := [some (jR 31), some (jL v1), none, some (jI v3), some (jI v4), some (jI v5), some (jI v6), some (jI v7), none]) ⟨rfl, ⟨rfl, ⟨rfl, ⟨rfl, ⟨rfl, ⟨rfl, ⟨rfl, trivial⟩⟩⟩⟩⟩⟩⟩ (x_cv (As := [jL u0]) (st := []) c139_103 cl_31 kl109 rfl (Nat.le_of_ble_eq_true rfl) mx109 (Nat.le_refl _) H))
theorem s139_106 {kc : List va_E} {d : Nat} {v1 v3 v4 v5 v6 v7 u0 : Int} {M : fx_M} {Q : Option fx_V → fx_M → Prop} (H : wc kc d 114 [jL u0] M (fun v M1 => wp kc (d + 1) 139 109 [some (jR 31), some (jL v1), none, some (jI v3), some (jI v4), some (jI v5), some (jI v6), some (jI v7), none] (v.toList ++ []) M1 Q)) : wp kc (d + 1) 139 106 [some (jR 31), some (jL v1), none, some (jI v3), some (jI v4), some (jI v5), some (jI v6), some (jI v7), none] [jL u0] M Q :=
  (wp_wk (l' := [some (jR 31), some (jL v1), none, some (jI v3), some (jI v4), some (jI v5), some (jI v6), some (jI v7), none]) ⟨rfl, ⟨rfl, ⟨rfl, ⟨rfl, ⟨rfl, ⟨rfl, ⟨rfl, trivial⟩⟩⟩⟩⟩⟩⟩ (x_cs (As := [jL u0]) (st := []) c139_106 (by decide) rfl (Nat.le_of_ble_eq_true rfl) mx114 (Nat.le_refl _) H))
theorem s139_109 {kc : List va_E} {d : Nat} {v1 v3 v4 v5 v6 v7 u0 : Int} {M : fx_M} {Q : Option fx_V → fx_M → Prop} (H : ((fx_in32 u0)) ∧ (u0 = 0 → wp kc (d + 1) 139 36 [some (jR 31), some (jL v1), none, some (jI v3), some (jI v4), some (jI (v5 + 1)), none, none, none] [] M Q) ∧ (u0 ≠ 0 → wp kc (d + 1) 139 36 [some (jR 31), some (jL v1), none, some (jI v3), some (jI 3), some (jI (v5 + 1)), none, none, none] [] (fx_up (fx_up M 31 5 v6) 31 6 v7) Q)) : wp kc (d + 1) 139 109 [some (jR 31), some (jL v1), none, some (jI v3), some (jI v4), some (jI v5), some (jI v6), some (jI v7), none] [jI u0] M Q :=
  (x_zeq c139_109 H.1 (fun h1 => (x_inc (l' := [some (jR 31), some (jL v1), none, some (jI v3), some (jI v4), some (jI (v5 + 1)), some (jI v6), some (jI v7), none]) c139_127 rfl rfl (x_goto c139_130 (wp_wk (l' := [some (jR 31), some (jL v1), none, some (jI v3), some (jI v4), some (jI (v5 + 1)), none, none, none]) ⟨rfl, ⟨rfl, ⟨rfl, ⟨rfl, ⟨rfl, trivial⟩⟩⟩⟩⟩ (H.2.1 h1))))) (fun h2 => (x_aldn c139_112 rfl (x_ild c139_113 rfl (x_pfi c139_115 k_31_5 (x_aldn c139_118 rfl (x_ild c139_119 rfl (x_pfi c139_121 k_31_6 (x_ci c139_124 (x_ist (l' := [some (jR 31), some (jL v1), none, some (jI v3), some (jI 3), some (jI v5), some (jI v6), some (jI v7), none]) c139_125 rfl (x_inc (l' := [some (jR 31), some (jL v1), none, some (jI v3), some (jI 3), some (jI (v5 + 1)), some (jI v6), some (jI v7), none]) c139_127 rfl rfl (x_goto c139_130 (wp_wk (l' := [some (jR 31), some (jL v1), none, some (jI v3), some (jI 3), some (jI (v5 + 1)), none, none, none]) ⟨rfl, ⟨rfl, ⟨rfl, ⟨rfl, ⟨rfl, trivial⟩⟩⟩⟩⟩ (H.2.2 h2))))))))))))))
theorem s139 {kc : List va_E} {d : Nat} {x1 : Int} {M : fx_M} {Q : Option fx_V → fx_M → Prop} (H : wc kc d 110 [jR 31, jL x1] M (fun v M1 => wp kc (d + 1) 139 5 [some (jR 31), some (jL x1), none, none, none, none, none, none, none] (v.toList ++ []) M1 Q)) : wc kc (d + 1) 139 [jR 31, jL x1] M Q :=
  wc_of (wp_wk (l' := [some (jR 31), some (jL x1), none, none, none, none, none, none, none]) ⟨rfl, ⟨rfl, trivial⟩⟩ (s139_0 H))

/- PuzzleHouse$Reasons.findTwo(J)Z -/
theorem c140_0 : fx_ci 140 0 = some (0, 1) := by decide +kernel
theorem c140_1 : fx_op 140 1 = some (.istore_n 3, 2, 1) := by decide +kernel
theorem c140_2 : fx_op 140 2 = some (.iload_n 3, 3, 2) := by decide +kernel
theorem c140_3 : fx_op 140 3 = some (.aload_n 0, 4, 3) := by decide +kernel
theorem c140_4 : fx_gf 140 4 = some (5, 0, 7) := by decide +kernel
theorem c140_7 : fx_gf 140 7 = some (3, 4, 10) := by decide +kernel
theorem c140_10 : fx_op 140 10 = some (.if_icmp .ge 142, 13, 152) := by decide +kernel
theorem c140_152 : fx_ci 140 152 = some (0, 153) := by decide +kernel
theorem c140_13 : fx_op 140 13 = some (.iload_n 3, 14, 13) := by decide +kernel
theorem c140_14 : fx_ci 140 14 = some (1, 15) := by decide +kernel
theorem c140_15 : fx_op 140 15 = some (.iadd, 16, 15) := by decide +kernel
theorem c140_16 : fx_op 140 16 = some (.istore 4, 18, 16) := by decide +kernel
theorem c140_153 : fx_op 140 153 = some (.ireturn, 154, 153) := by decide +kernel
theorem c140_18 : fx_op 140 18 = some (.iload 4, 20, 18) := by decide +kernel
theorem c140_20 : fx_op 140 20 = some (.aload_n 0, 21, 20) := by decide +kernel
theorem c140_21 : fx_gf 140 21 = some (5, 0, 24) := by decide +kernel
theorem c140_24 : fx_gf 140 24 = some (3, 4, 27) := by decide +kernel
theorem c140_27 : fx_op 140 27 = some (.if_icmp .ge 119, 30, 146) := by decide +kernel
theorem c140_146 : fx_op 140 146 = some (.iinc 3 1, 149, 146) := by decide +kernel
theorem c140_30 : fx_op 140 30 = some (.aload_n 0, 31, 30) := by decide +kernel
theorem c140_31 : fx_gf 140 31 = some (5, 0, 34) := by decide +kernel
theorem c140_34 : fx_gf 140 34 = some (3, 9, 37) := by decide +kernel
theorem c140_37 : fx_op 140 37 = some (.iload_n 3, 38, 37) := by decide +kernel
theorem c140_39 : fx_op 140 39 = some (.aload_n 0, 40, 39) := by decide +kernel
theorem c140_40 : fx_gf 140 40 = some (5, 0, 43) := by decide +kernel
theorem c140_43 : fx_gf 140 43 = some (3, 9, 46) := by decide +kernel
theorem c140_46 : fx_op 140 46 = some (.iload 4, 48, 46) := by decide +kernel
theorem c140_49 : fx_op 140 49 = some (.iand, 50, 49) := by decide +kernel
theorem c140_50 : fx_op 140 50 = some (.istore 5, 52, 50) := by decide +kernel
theorem c140_52 : fx_op 140 52 = some (.iload 5, 54, 52) := by decide +kernel
theorem c140_54 : fx_op 140 54 = some (.ifCond .eq 86, 57, 140) := by decide +kernel
theorem c140_140 : fx_op 140 140 = some (.iinc 4 1, 143, 140) := by decide +kernel
theorem c140_57 : fx_op 140 57 = some (.aload_n 0, 58, 57) := by decide +kernel
theorem c140_58 : fx_gf 140 58 = some (5, 0, 61) := by decide +kernel
theorem c140_61 : fx_gf 140 61 = some (3, 9, 64) := by decide +kernel
theorem c140_64 : fx_op 140 64 = some (.iload_n 3, 65, 64) := by decide +kernel
theorem c140_66 : fx_op 140 66 = some (.aload_n 0, 67, 66) := by decide +kernel
theorem c140_67 : fx_gf 140 67 = some (5, 0, 70) := by decide +kernel
theorem c140_70 : fx_gf 140 70 = some (3, 9, 73) := by decide +kernel
theorem c140_73 : fx_op 140 73 = some (.iload 4, 75, 73) := by decide +kernel
theorem c140_76 : fx_op 140 76 = some (.ior, 77, 76) := by decide +kernel
theorem c140_149 : fx_op 140 149 = some (.goto (-147), 152, 2) := by decide +kernel
theorem c140_38 : fx_op 140 38 = some (.iaload, 39, 38) := by decide +kernel
theorem c140_48 : fx_op 140 48 = some (.iaload, 49, 48) := by decide +kernel
theorem c140_143 : fx_op 140 143 = some (.goto (-125), 146, 18) := by decide +kernel
theorem c140_65 : fx_op 140 65 = some (.iaload, 66, 65) := by decide +kernel
theorem c140_75 : fx_op 140 75 = some (.iaload, 76, 75) := by decide +kernel
theorem c140_77 : fx_ca 140 77 = some (79, 1, 0, 80) := by decide +kernel
theorem c140_80 : fx_ci 140 80 = some (6, 82) := by decide +kernel
theorem c140_82 : fx_op 140 82 = some (.if_icmp .gt 58, 85, 140) := by decide +kernel
theorem c140_85 : fx_op 140 85 = some (.lload_n 1, 86, 85) := by decide +kernel
theorem c140_86 : fx_op 140 86 = some (.aload_n 0, 87, 86) := by decide +kernel
theorem c140_87 : fx_gf 140 87 = some (5, 0, 90) := by decide +kernel
theorem c140_90 : fx_op 140 90 = some (.iload_n 3, 91, 90) := by decide +kernel
theorem c140_91 : fx_op 140 91 = some (.iload 4, 93, 91) := by decide +kernel
theorem c140_93 : fx_op 140 93 = some (.lload_n 1, 94, 93) := by decide +kernel
theorem c140_94 : fx_op 140 94 = some (.iload 5, 96, 94) := by decide +kernel
theorem c140_96 : fx_ca 140 96 = some (125, 5, 3, 99) := by decide +kernel
theorem c140_99 : fx_cj 140 99 = some ((-1), 102) := by decide +kernel
theorem c140_102 : fx_op 140 102 = some (.lxor, 103, 102) := by decide +kernel
theorem c140_103 : fx_op 140 103 = some (.land, 104, 103) := by decide +kernel
theorem c140_104 : fx_op 140 104 = some (.lstore 6, 106, 104) := by decide +kernel
theorem c140_106 : fx_op 140 106 = some (.aload_n 0, 107, 106) := by decide +kernel
theorem c140_107 : fx_op 140 107 = some (.lload 6, 109, 107) := by decide +kernel
theorem c140_109 : fx_op 140 109 = some (.iload_n 3, 110, 109) := by decide +kernel
theorem c140_110 : fx_ca 140 110 = some (141, 3, 2, 113) := by decide +kernel
theorem c140_113 : fx_op 140 113 = some (.ifCond .ne 14, 116, 127) := by decide +kernel
theorem c140_127 : fx_op 140 127 = some (.aload_n 0, 128, 127) := by decide +kernel
theorem c140_128 : fx_op 140 128 = some (.iload_n 3, 129, 128) := by decide +kernel
theorem c140_129 : fx_pf 140 129 = some (5, 3, 0, 132) := by decide +kernel
theorem c140_132 : fx_op 140 132 = some (.aload_n 0, 133, 132) := by decide +kernel
theorem c140_133 : fx_op 140 133 = some (.iload 4, 135, 133) := by decide +kernel
theorem c140_135 : fx_pf 140 135 = some (5, 4, 0, 138) := by decide +kernel
theorem c140_138 : fx_ci 140 138 = some (1, 139) := by decide +kernel
theorem c140_116 : fx_op 140 116 = some (.aload_n 0, 117, 116) := by decide +kernel
theorem c140_117 : fx_op 140 117 = some (.lload 6, 119, 117) := by decide +kernel
theorem c140_119 : fx_op 140 119 = some (.iload 4, 121, 119) := by decide +kernel
theorem c140_139 : fx_op 140 139 = some (.ireturn, 140, 139) := by decide +kernel
theorem c140_121 : fx_ca 140 121 = some (141, 3, 2, 124) := by decide +kernel
theorem c140_124 : fx_op 140 124 = some (.ifCond .eq 16, 127, 140) := by decide +kernel
theorem s140_0 {kc : List va_E} {d : Nat} {x1 : Int} {M : fx_M} {Q : Option fx_V → fx_M → Prop} (H : wp kc (d + 1) 140 2 [some (jR 31), some (jL x1), none, some (jI 0), none, none, none, none] [] M Q) : wp kc (d + 1) 140 0 [some (jR 31), some (jL x1), none, none, none, none, none, none] [] M Q :=
  (x_ci c140_0 (x_istn (l' := [some (jR 31), some (jL x1), none, some (jI 0), none, none, none, none]) c140_1 rfl (wp_wk (l' := [some (jR 31), some (jL x1), none, some (jI 0), none, none, none, none]) ⟨rfl, ⟨rfl, ⟨rfl, trivial⟩⟩⟩ H)))
theorem s140_2 {kc : List va_E} {d : Nat} {v1 v3 : Int} {M : fx_M} {Q : Option fx_V → fx_M → Prop} (H : ((fx_in32 v3) ∧ (fx_in32 (M 11 4))) ∧ (M 11 4 ≤ v3 → Q (some (jI 0)) M) ∧ (v3 < M 11 4 → wp kc (d + 1) 140 18 [some (jR 31), some (jL v1), none, some (jI v3), some (jI (v3 + 1)), none, none, none] [] M Q)) : wp kc (d + 1) 140 2 [some (jR 31), some (jL v1), none, some (jI v3), none, none, none, none] [] M Q :=
  (x_ildn c140_2 rfl (x_aldn c140_3 rfl (x_gfr c140_4 k_31_0 (x_gfi c140_7 k_11_4 (x_cge c140_10 H.1.1 H.1.2 (fun h1 => (x_ci c140_152 (x_zrt c140_153 r140 (by decide) (H.2.1 h1)))) (fun h2 => (x_ildn c140_13 rfl (x_ci c140_14 (x_iadd c140_15 (x_ist (l' := [some (jR 31), some (jL v1), none, some (jI v3), some (jI (v3 + 1)), none, none, none]) c140_16 rfl (wp_wk (l' := [some (jR 31), some (jL v1), none, some (jI v3), some (jI (v3 + 1)), none, none, none]) ⟨rfl, ⟨rfl, ⟨rfl, ⟨rfl, trivial⟩⟩⟩⟩ (H.2.2 h2))))))))))))
theorem s140_18 {kc : List va_E} {d : Nat} {v1 v3 v4 : Int} {M : fx_M} {Q : Option fx_V → fx_M → Prop} (H : ((fx_in32 v4) ∧ (fx_in32 (M 11 4))) ∧ (M 11 4 ≤ v4 → wp kc (d + 1) 140 2 [some (jR 31), some (jL v1), none, some (jI (v3 + 1)), none, none, none, none] [] M Q) ∧ (v4 < M 11 4 → (((0 : Int) ≤ v3 ∧ v3 < 12)) ∧ (((0 : Int) ≤ v4 ∧ v4 < 12)) ∧ ((fx_in32 (fx_and (M 16 v3) (M 16 v4)))) ∧ (fx_and (M 16 v3) (M 16 v4) = 0 → wp kc (d + 1) 140 18 [some (jR 31), some (jL v1), none, some (jI v3), some (jI (v4 + 1)), none, none, none] [] M Q) ∧ (fx_and (M 16 v3) (M 16 v4) ≠ 0 → (((0 : Int) ≤ v3 ∧ v3 < 12)) ∧ (((0 : Int) ≤ v4 ∧ v4 < 12)) ∧ wc kc d 79 [jI (fx_or (M 16 v3) (M 16 v4))] M (fun v M1 => wp kc (d + 1) 140 80 [some (jR 31), some (jL v1), none, some (jI v3), some (jI v4), some (jI (fx_and (M 16 v3) (M 16 v4))), none, none] (v.toList ++ []) M1 Q)))) : wp kc (d + 1) 140 18 [some (jR 31), some (jL v1), none, some (jI v3), some (jI v4), none, none, none] [] M Q :=
  (x_ild c140_18 rfl (x_aldn c140_20 rfl (x_gfr c140_21 k_31_0 (x_gfi c140_24 k_11_4 (x_cge c140_27 H.1.1 H.1.2 (fun h3 => (x_inc (l' := [some (jR 31), some (jL v1), none, some (jI (v3 + 1)), some (jI v4), none, none, none]) c140_146 rfl rfl (x_goto c140_149 (wp_wk (l' := [some (jR 31), some (jL v1), none, some (jI (v3 + 1)), none, none, none, none]) ⟨rfl, ⟨rfl, ⟨rfl, trivial⟩⟩⟩ (H.2.1 h3))))) (fun h4 => (x_aldn c140_30 rfl (x_gfr c140_31 k_31_0 (x_gfr c140_34 k_11_9 (x_ildn c140_37 rfl (x_iald c140_38 a_16 (H.2.2 h4).1 (by decide) (x_aldn c140_39 rfl (x_gfr c140_40 k_31_0 (x_gfr c140_43 k_11_9 (x_ild c140_46 rfl (x_iald c140_48 a_16 (H.2.2 h4).2.1 (by decide) (x_iand c140_49 (x_ist (l' := [some (jR 31), some (jL v1), none, some (jI v3), some (jI v4), some (jI (fx_and (M 16 v3) (M 16 v4))), none, none]) c140_50 rfl (x_ild c140_52 rfl (x_zeq c140_54 (H.2.2 h4).2.2.1 (fun h1 => (x_inc (l' := [some (jR 31), some (jL v1), none, some (jI v3), some (jI (v4 + 1)), some (jI (fx_and (M 16 v3) (M 16 v4))), none, none]) c140_140 rfl rfl (x_goto c140_143 (wp_wk (l' := [some (jR 31), some (jL v1), none, some (jI v3), some (jI (v4 + 1)), none, none, none]) ⟨rfl, ⟨rfl, ⟨rfl, ⟨rfl, trivial⟩⟩⟩⟩ ((H.2.2 h4).2.2.2.1 h1))))) (fun h2 => (x_aldn c140_57 rfl (x_gfr c140_58 k_31_0 (x_gfr c140_61 k_11_9 (x_ildn c140_64 rfl (x_iald c140_65 a_16 ((H.2.2 h4).2.2.2.2 h2).1 (by decide) (x_aldn c140_66 rfl (x_gfr c140_67 k_31_0 (x_gfr c140_70 k_11_9 (x_ild c140_73 rfl (x_iald c140_75 a_16 ((H.2.2 h4).2.2.2.2 h2).2.1 (by decide) (x_ior c140_76 (wp_wk (l' := [some (jR 31), some (jL v1), none, some (jI v3), some (jI v4), some (jI (fx_and (M 16 v3) (M 16 v4))), none, none]) ⟨rfl, ⟨rfl, ⟨rfl, ⟨rfl, ⟨rfl, trivial⟩⟩⟩⟩⟩ (x_cs (As := [jI (fx_or (M 16 v3) (M 16 v4))]) (st := []) c140_77 (by decide) rfl (Nat.le_of_ble_eq_true rfl) mx79 (Nat.le_refl _) ((H.2.2 h4).2.2.2.2 h2).2.2))))))))))))))))))))))))))))))))))
theorem s140_80 {kc : List va_E} {d : Nat} {v1 v3 v4 v5 u0 : Int} {M : fx_M} {Q : Option fx_V → fx_M → Prop} (H : ((fx_in32 u0)) ∧ (6 < u0 → wp kc (d + 1) 140 18 [some (jR 31), some (jL v1), none, some (jI v3), some (jI (v4 + 1)), none, none, none] [] M Q) ∧ (u0 ≤ 6 → wc kc d 125 [jR 11, jI v3, jI v4, jL v1, jI v5] M (fun v M1 => wp kc (d + 1) 140 99 [some (jR 31), some (jL v1), none, some (jI v3), some (jI v4), none, none, none] (v.toList ++ [jL v1]) M1 Q))) : wp kc (d + 1) 140 80 [some (jR 31), some (jL v1), none, some (jI v3), some (jI v4), some (jI v5), none, none] [jI u0] M Q :=
  (x_ci c140_80 (x_cgt c140_82 H.1 (by decide) (fun h1 => (x_inc (l' := [some (jR 31), some (jL v1), none, some (jI v3), some (jI (v4 + 1)), some (jI v5), none, none]) c140_140 rfl rfl (x_goto c140_143 (wp_wk (l' := [some (jR 31), some (jL v1), none, some (jI v3), some (jI (v4 + 1)), none, none, none]) ⟨rfl, ⟨rfl, ⟨rfl, ⟨rfl, trivial⟩⟩⟩⟩ (H.2.1 h1))))) (fun h2 => (x_lldn c140_85 rfl (x_aldn c140_86 rfl (x_gfr c140_87 k_31_0 (x_ildn c140_90 rfl (x_ild c140_91 rfl (x_lldn c140_93 rfl (x_ild c140_94 rfl (wp_wk (l' := [some (jR 31), some (jL v1), none, some (jI v3), some (jI v4), none, none, none]) ⟨rfl, ⟨rfl, ⟨rfl, ⟨rfl, trivial⟩⟩⟩⟩ (x_cv (As := [jI v3, jI v4, jL v1, jI v5]) (st := [jL v1]) c140_96 cl_11 kl125 rfl (Nat.le_of_ble_eq_true rfl) mx125 (Nat.le_refl _) (H.2.2 h2)))))))))))))
theorem s140_99 {kc : List va_E} {d : Nat} {v1 v3 v4 u0 u1 : Int} {M : fx_M} {Q : Option fx_V → fx_M → Prop} (H : wc kc d 141 [jR 31, jL (fx_land u1 (fx_lxor u0 (-1))), jI v3] M (fun v M1 => wp kc (d + 1) 140 113 [some (jR 31), some (jL v1), none, some (jI v3), some (jI v4), none, some (jL (fx_land u1 (fx_lxor u0 (-1)))), none] (v.toList ++ []) M1 Q)) : wp kc (d + 1) 140 99 [some (jR 31), some (jL v1), none, some (jI v3), some (jI v4), none, none, none] [jL u0, jL u1] M Q :=
  (x_cj c140_99 (x_lxor c140_102 (x_land c140_103 (x_lst (l' := [some (jR 31), some (jL v1), none, some (jI v3), some (jI v4), none, some (jL (fx_land u1 (fx_lxor u0 (-1)))), none]) c140_104 rfl (x_aldn c140_106 rfl (x_lld c140_107 rfl (x_ildn c140_109 rfl (wp_wk (l' := [some (jR 31), some (jL v1), none, some (jI v3), some (jI v4), none, some (jL (fx_land u1 (fx_lxor u0 (-1)))), none]) ⟨rfl, ⟨rfl, ⟨rfl, ⟨rfl, ⟨rfl, trivial⟩⟩⟩⟩⟩ (x_cv (As := [jL (fx_land u1 (fx_lxor u0 (-1))), jI v3]) (st := []) c140_110 cl_31 kl141 rfl (Nat.le_of_ble_eq_true rfl) mx141 (Nat.le_refl _) H)))))))))
theorem s140_113 {kc : List va_E} {d : Nat} {v1 v3 v4 v6 u0 : Int} {M : fx_M} {Q : Option fx_V → fx_M → Prop} (H : ((fx_in32 u0)) ∧ (u0 ≠ 0 → Q (some (jI 1)) (fx_up (fx_up M 31 3 v3) 31 4 v4)) ∧ (u0 = 0 → wc kc d 141 [jR 31, jL v6, jI v4] M (fun v M1 => wp kc (d + 1) 140 124 [some (jR 31), some (jL v1), none, some (jI v3), some (jI v4), none, none, none] (v.toList ++ []) M1 Q))) : wp kc (d + 1) 140 113 [some (jR 31), some (jL v1), none, some (jI v3), some (jI v4), none, some (jL v6), none] [jI u0] M Q :=
  (x_zne c140_113 H.1 (fun h1 => (x_aldn c140_127 rfl (x_ildn c140_128 rfl (x_pfi c140_129 k_31_3 (x_aldn c140_132 rfl (x_ild c140_133 rfl (x_pfi c140_135 k_31_4 (x_ci c140_138 (x_zrt c140_139 r140 (by decide) (H.2.1 h1)))))))))) (fun h2 => (x_aldn c140_116 rfl (x_lld c140_117 rfl (x_ild c140_119 rfl (wp_wk (l' := [some (jR 31), some (jL v1), none, some (jI v3), some (jI v4), none, none, none]) ⟨rfl, ⟨rfl, ⟨rfl, ⟨rfl, trivial⟩⟩⟩⟩ (x_cv (As := [jL v6, jI v4]) (st := []) c140_121 cl_31 kl141 rfl (Nat.le_of_ble_eq_true rfl) mx141 (Nat.le_refl _) (H.2.2 h2))))))))
theorem s140_124 {kc : List va_E} {d : Nat} {v1 v3 v4 u0 : Int} {M : fx_M} {Q : Option fx_V → fx_M → Prop} (H : ((fx_in32 u0)) ∧ (u0 = 0 → wp kc (d + 1) 140 18 [some (jR 31), some (jL v1), none, some (jI v3), some (jI (v4 + 1)), none, none, none] [] M Q) ∧ (u0 ≠ 0 → Q (some (jI 1)) (fx_up (fx_up M 31 3 v3) 31 4 v4))) : wp kc (d + 1) 140 124 [some (jR 31), some (jL v1), none, some (jI v3), some (jI v4), none, none, none] [jI u0] M Q :=
  (x_zeq c140_124 H.1 (fun h1 => (x_inc (l' := [some (jR 31), some (jL v1), none, some (jI v3), some (jI (v4 + 1)), none, none, none]) c140_140 rfl rfl (x_goto c140_143 (wp_wk (l' := [some (jR 31), some (jL v1), none, some (jI v3), some (jI (v4 + 1)), none, none, none]) ⟨rfl, ⟨rfl, ⟨rfl, ⟨rfl, trivial⟩⟩⟩⟩ (H.2.1 h1))))) (fun h2 => (x_aldn c140_127 rfl (x_ildn c140_128 rfl (x_pfi c140_129 k_31_3 (x_aldn c140_132 rfl (x_ild c140_133 rfl (x_pfi c140_135 k_31_4 (x_ci c140_138 (x_zrt c140_139 r140 (by decide) (H.2.2 h2)))))))))))
theorem s140 {kc : List va_E} {d : Nat} {x1 : Int} {M : fx_M} {Q : Option fx_V → fx_M → Prop} (H : wp kc (d + 1) 140 2 [some (jR 31), some (jL x1), none, some (jI 0), none, none, none, none] [] M Q) : wc kc (d + 1) 140 [jR 31, jL x1] M Q :=
  wc_of (wp_wk (l' := [some (jR 31), some (jL x1), none, none, none, none, none, none]) ⟨rfl, ⟨rfl, trivial⟩⟩ (s140_0 H))

/- PuzzleHouse$Reasons.findAmong(JI)Z -/
theorem c141_0 : fx_ci 141 0 = some (0, 1) := by decide +kernel
theorem c141_1 : fx_op 141 1 = some (.istore 4, 3, 1) := by decide +kernel
theorem c141_3 : fx_op 141 3 = some (.iload 4, 5, 3) := by decide +kernel
theorem c141_5 : fx_op 141 5 = some (.aload_n 0, 6, 5) := by decide +kernel
theorem c141_6 : fx_gf 141 6 = some (5, 0, 9) := by decide +kernel
theorem c141_9 : fx_gf 141 9 = some (3, 7, 12) := by decide +kernel
theorem c141_12 : fx_op 141 12 = some (.iload_n 3, 13, 12) := by decide +kernel
theorem c141_14 : fx_op 141 14 = some (.if_icmp .ge 55, 17, 69) := by decide +kernel
theorem c141_69 : fx_ci 141 69 = some (0, 70) := by decide +kernel
theorem c141_17 : fx_op 141 17 = some (.aload_n 0, 18, 17) := by decide +kernel
theorem c141_18 : fx_gf 141 18 = some (5, 0, 21) := by decide +kernel
theorem c141_21 : fx_gf 141 21 = some (3, 8, 24) := by decide +kernel
theorem c141_24 : fx_ci 141 24 = some (4, 25) := by decide +kernel
theorem c141_25 : fx_op 141 25 = some (.iload_n 3, 26, 25) := by decide +kernel
theorem c141_26 : fx_op 141 26 = some (.imul, 27, 26) := by decide +kernel
theorem c141_27 : fx_op 141 27 = some (.iload 4, 29, 27) := by decide +kernel
theorem c141_29 : fx_op 141 29 = some (.iadd, 30, 29) := by decide +kernel
theorem c141_31 : fx_op 141 31 = some (.istore 5, 33, 31) := by decide +kernel
theorem c141_33 : fx_op 141 33 = some (.lload_n 1, 34, 33) := by decide +kernel
theorem c141_34 : fx_op 141 34 = some (.iload 5, 36, 34) := by decide +kernel
theorem c141_13 : fx_op 141 13 = some (.iaload, 14, 13) := by decide +kernel
theorem c141_70 : fx_op 141 70 = some (.ireturn, 71, 70) := by decide +kernel
theorem c141_30 : fx_op 141 30 = some (.iaload, 31, 30) := by decide +kernel
theorem c141_36 : fx_ca 141 36 = some (86, 2, 1, 39) := by decide +kernel
theorem c141_39 : fx_op 141 39 = some (.ifCond .eq 24, 42, 63) := by decide +kernel
theorem c141_63 : fx_op 141 63 = some (.iinc 4 1, 66, 63) := by decide +kernel
theorem c141_42 : fx_op 141 42 = some (.aload_n 0, 43, 42) := by decide +kernel
theorem c141_43 : fx_op 141 43 = some (.iload 5, 45, 43) := by decide +kernel
theorem c141_45 : fx_pf 141 45 = some (5, 5, 0, 48) := by decide +kernel
theorem c141_48 : fx_op 141 48 = some (.aload_n 0, 49, 48) := by decide +kernel
theorem c141_49 : fx_op 141 49 = some (.lload_n 1, 50, 49) := by decide +kernel
theorem c141_50 : fx_op 141 50 = some (.iload 5, 52, 50) := by decide +kernel
theorem c141_66 : fx_op 141 66 = some (.goto (-63), 69, 3) := by decide +kernel
theorem c141_52 : fx_ca 141 52 = some (86, 2, 1, 55) := by decide +kernel
theorem c141_55 : fx_ca 141 55 = some (87, 1, 1, 58) := by decide +kernel
theorem c141_58 : fx_pf 141 58 = some (5, 6, 0, 61) := by decide +kernel
theorem c141_61 : fx_ci 141 61 = some (1, 62) := by decide +kernel
theorem c141_62 : fx_op 141 62 = some (.ireturn, 63, 62) := by decide +kernel
theorem s141_0 {kc : List va_E} {d : Nat} {x1 x3 : Int} {M : fx_M} {Q : Option fx_V → fx_M → Prop} (H : wp kc (d + 1) 141 3 [some (jR 31), some (jL x1), none, some (jI x3), some (jI 0), none] [] M Q) : wp kc (d + 1) 141 0 [some (jR 31), some (jL x1), none, some (jI x3), none, none] [] M Q :=
  (x_ci c141_0 (x_ist (l' := [some (jR 31), some (jL x1), none, some (jI x3), some (jI 0), none]) c141_1 rfl (wp_wk (l' := [some (jR 31), some (jL x1), none, some (jI x3), some (jI 0), none]) ⟨rfl, ⟨rfl, ⟨rfl, ⟨rfl, trivial⟩⟩⟩⟩ H)))
theorem s141_3 {kc : List va_E} {d : Nat} {v1 v3 v4 : Int} {M : fx_M} {Q : Option fx_V → fx_M → Prop} (H : (((0 : Int) ≤ v3 ∧ v3 < 12)) ∧ ((fx_in32 v4) ∧ (fx_in32 (M 14 v3))) ∧ (M 14 v3 ≤ v4 → Q (some (jI 0)) M) ∧ (v4 < M 14 v3 → (((0 : Int) ≤ (4 * v3) + v4 ∧ (4 * v3) + v4 < 48)) ∧ wc kc d 86 [jL v1, jI (M 15 ((4 * v3) + v4))] M (fun v M1 => wp kc (d + 1) 141 39 [some (jR 31), some (jL v1), none, some (jI v3), some (jI v4), some (jI (M 15 ((4 * v3) + v4)))] (v.toList ++ []) M1 Q))) : wp kc (d + 1) 141 3 [some (jR 31), some (jL v1), none, some (jI v3), some (jI v4), none] [] M Q :=
  (x_ild c141_3 rfl (x_aldn c141_5 rfl (x_gfr c141_6 k_31_0 (x_gfr c141_9 k_11_7 (x_ildn c141_12 rfl (x_iald c141_13 a_14 H.1 (by decide) (x_cge c141_14 H.2.1.1 H.2.1.2 (fun h1 => (x_ci c141_69 (x_zrt c141_70 r141 (by decide) (H.2.2.1 h1)))) (fun h2 => (x_aldn c141_17 rfl (x_gfr c141_18 k_31_0 (x_gfr c141_21 k_11_8 (x_ci c141_24 (x_ildn c141_25 rfl (x_imul c141_26 (x_ild c141_27 rfl (x_iadd c141_29 (x_iald c141_30 a_15 (H.2.2.2 h2).1 (by decide) (x_ist (l' := [some (jR 31), some (jL v1), none, some (jI v3), some (jI v4), some (jI (M 15 ((4 * v3) + v4)))]) c141_31 rfl (x_lldn c141_33 rfl (x_ild c141_34 rfl (wp_wk (l' := [some (jR 31), some (jL v1), none, some (jI v3), some (jI v4), some (jI (M 15 ((4 * v3) + v4)))]) ⟨rfl, ⟨rfl, ⟨rfl, ⟨rfl, ⟨rfl, trivial⟩⟩⟩⟩⟩ (x_cs (As := [jL v1, jI (M 15 ((4 * v3) + v4))]) (st := []) c141_36 (by decide) rfl (Nat.le_of_ble_eq_true rfl) mx86 (Nat.le_refl _) (H.2.2.2 h2).2))))))))))))))))))))))
theorem s141_39 {kc : List va_E} {d : Nat} {v1 v3 v4 v5 u0 : Int} {M : fx_M} {Q : Option fx_V → fx_M → Prop} (H : ((fx_in32 u0)) ∧ (u0 = 0 → wp kc (d + 1) 141 3 [some (jR 31), some (jL v1), none, some (jI v3), some (jI (v4 + 1)), none] [] M Q) ∧ (u0 ≠ 0 → wc kc d 86 [jL v1, jI v5] (fx_up M 31 5 v5) (fun v M1 => wp kc (d + 1) 141 55 [none, none, none, none, none, none] (v.toList ++ [jR 31]) M1 Q))) : wp kc (d + 1) 141 39 [some (jR 31), some (jL v1), none, some (jI v3), some (jI v4), some (jI v5)] [jI u0] M Q :=
  (x_zeq c141_39 H.1 (fun h1 => (x_inc (l' := [some (jR 31), some (jL v1), none, some (jI v3), some (jI (v4 + 1)), some (jI v5)]) c141_63 rfl rfl (x_goto c141_66 (wp_wk (l' := [some (jR 31), some (jL v1), none, some (jI v3), some (jI (v4 + 1)), none]) ⟨rfl, ⟨rfl, ⟨rfl, ⟨rfl, trivial⟩⟩⟩⟩ (H.2.1 h1))))) (fun h2 => (x_aldn c141_42 rfl (x_ild c141_43 rfl (x_pfi c141_45 k_31_5 (x_aldn c141_48 rfl (x_lldn c141_49 rfl (x_ild c141_50 rfl (wp_wk (l' := [none, none, none, none, none, none]) trivial (x_cs (As := [jL v1, jI v5]) (st := [jR 31]) c141_52 (by decide) rfl (Nat.le_of_ble_eq_true rfl) mx86 (Nat.le_refl _) (H.2.2 h2)))))))))))
theorem s141_55 {kc : List va_E} {d : Nat} {u0 : Int} {M : fx_M} {Q : Option fx_V → fx_M → Prop} (H : wc kc d 87 [jI u0] M (fun v M1 => wp kc (d + 1) 141 58 [none, none, none, none, none, none] (v.toList ++ [jR 31]) M1 Q)) : wp kc (d + 1) 141 55 [none, none, none, none, none, none] [jI u0, jR 31] M Q :=
  (wp_wk (l' := [none, none, none, none, none, none]) trivial (x_cs (As := [jI u0]) (st := [jR 31]) c141_55 (by decide) rfl (Nat.le_of_ble_eq_true rfl) mx87 (Nat.le_refl _) H))
theorem s141_58 {kc : List va_E} {d : Nat} {u0 : Int} {M : fx_M} {Q : Option fx_V → fx_M → Prop} (H : Q (some (jI 1)) (fx_up M 31 6 u0)) : wp kc (d + 1) 141 58 [none, none, none, none, none, none] [jI u0, jR 31] M Q :=
  (x_pfi c141_58 k_31_6 (x_ci c141_61 (x_zrt c141_62 r141 (by decide) H)))
theorem s141 {kc : List va_E} {d : Nat} {x1 x3 : Int} {M : fx_M} {Q : Option fx_V → fx_M → Prop} (H : wp kc (d + 1) 141 3 [some (jR 31), some (jL x1), none, some (jI x3), some (jI 0), none] [] M Q) : wc kc (d + 1) 141 [jR 31, jL x1, jI x3] M Q :=
  wc_of (wp_wk (l' := [some (jR 31), some (jL x1), none, some (jI x3), none, none]) ⟨rfl, ⟨rfl, ⟨rfl, trivial⟩⟩⟩ (s141_0 H))

/- PuzzleHouse$Reasons.solve(J)V -/
theorem c142_0 : fx_op 142 0 = some (.aload_n 0, 1, 0) := by decide +kernel
theorem c142_1 : fx_ci 142 1 = some (0, 2) := by decide +kernel
theorem c142_2 : fx_ca 142 2 = some (105, 2, 2, 5) := by decide +kernel
theorem c142_5 : fx_op 142 5 = some (.lload_n 1, 6, 5) := by decide +kernel
theorem c142_6 : fx_op 142 6 = some (.lstore_n 3, 7, 6) := by decide +kernel
theorem c142_7 : fx_ci 142 7 = some (0, 8) := by decide +kernel
theorem c142_8 : fx_op 142 8 = some (.istore 5, 10, 8) := by decide +kernel
theorem c142_10 : fx_ci 142 10 = some (0, 11) := by decide +kernel
theorem c142_11 : fx_op 142 11 = some (.istore 6, 13, 11) := by decide +kernel
theorem c142_13 : fx_ci 142 13 = some (0, 14) := by decide +kernel
theorem c142_14 : fx_op 142 14 = some (.istore 7, 16, 14) := by decide +kernel
theorem c142_16 : fx_op 142 16 = some (.aload_n 0, 17, 16) := by decide +kernel
theorem c142_17 : fx_op 142 17 = some (.lload_n 3, 18, 17) := by decide +kernel
theorem c142_18 : fx_ca 142 18 = some (139, 2, 2, 21) := by decide +kernel
theorem c142_21 : fx_op 142 21 = some (.istore 8, 23, 21) := by decide +kernel
theorem c142_23 : fx_ci 142 23 = some (0, 24) := by decide +kernel
theorem c142_24 : fx_op 142 24 = some (.istore 9, 26, 24) := by decide +kernel
theorem c142_26 : fx_op 142 26 = some (.iload 9, 28, 26) := by decide +kernel
theorem c142_28 : fx_ci 142 28 = some (36, 30) := by decide +kernel
theorem c142_30 : fx_op 142 30 = some (.if_icmp .ge 93, 33, 123) := by decide +kernel
theorem c142_33 : fx_op 142 33 = some (.iload 8, 35, 33) := by decide +kernel
theorem c142_35 : fx_op 142 35 = some (.ifCond .eq 88, 38, 123) := by decide +kernel
theorem c142_38 : fx_op 142 38 = some (.iload 5, 40, 38) := by decide +kernel
theorem c142_40 : fx_op 142 40 = some (.iload 8, 42, 40) := by decide +kernel
theorem c142_42 : fx_ci 142 42 = some (1, 43) := by decide +kernel
theorem c142_43 : fx_op 142 43 = some (.if_icmp .ne 7, 46, 50) := by decide +kernel
theorem c142_50 : fx_ci 142 50 = some (0, 51) := by decide +kernel
theorem c142_51 : fx_op 142 51 = some (.iadd, 52, 51) := by decide +kernel
theorem c142_52 : fx_op 142 52 = some (.istore 5, 54, 52) := by decide +kernel
theorem c142_54 : fx_op 142 54 = some (.iload 6, 56, 54) := by decide +kernel
theorem c142_56 : fx_op 142 56 = some (.iload 8, 58, 56) := by decide +kernel
theorem c142_58 : fx_ci 142 58 = some (2, 59) := by decide +kernel
theorem c142_59 : fx_op 142 59 = some (.if_icmp .ne 7, 62, 66) := by decide +kernel
theorem c142_66 : fx_ci 142 66 = some (0, 67) := by decide +kernel
theorem c142_67 : fx_op 142 67 = some (.iadd, 68, 67) := by decide +kernel
theorem c142_68 : fx_op 142 68 = some (.istore 6, 70, 68) := by decide +kernel
theorem c142_70 : fx_op 142 70 = some (.iload 7, 72, 70) := by decide +kernel
theorem c142_72 : fx_op 142 72 = some (.iload 8, 74, 72) := by decide +kernel
theorem c142_74 : fx_ci 142 74 = some (3, 75) := by decide +kernel
theorem c142_75 : fx_op 142 75 = some (.if_icmp .ne 7, 78, 82) := by decide +kernel
theorem c142_82 : fx_ci 142 82 = some (0, 83) := by decide +kernel
theorem c142_83 : fx_op 142 83 = some (.iadd, 84, 83) := by decide +kernel
theorem c142_84 : fx_op 142 84 = some (.istore 7, 86, 84) := by decide +kernel
theorem c142_86 : fx_op 142 86 = some (.lload_n 3, 87, 86) := by decide +kernel
theorem c142_87 : fx_op 142 87 = some (.aload_n 0, 88, 87) := by decide +kernel
theorem c142_88 : fx_gf 142 88 = some (5, 5, 91) := by decide +kernel
theorem c142_91 : fx_op 142 91 = some (.aload_n 0, 92, 91) := by decide +kernel
theorem c142_92 : fx_gf 142 92 = some (5, 6, 95) := by decide +kernel
theorem c142_123 : fx_op 142 123 = some (.aload_n 0, 124, 123) := by decide +kernel
theorem c142_124 : fx_gf 142 124 = some (5, 1, 127) := by decide +kernel
theorem c142_127 : fx_op 142 127 = some (.lload_n 3, 128, 127) := by decide +kernel
theorem c142_46 : fx_ci 142 46 = some (1, 47) := by decide +kernel
theorem c142_47 : fx_op 142 47 = some (.goto 4, 50, 51) := by decide +kernel
theorem c142_62 : fx_ci 142 62 = some (1, 63) := by decide +kernel
theorem c142_63 : fx_op 142 63 = some (.goto 4, 66, 67) := by decide +kernel
theorem c142_78 : fx_ci 142 78 = some (1, 79) := by decide +kernel
theorem c142_79 : fx_op 142 79 = some (.goto 4, 82, 83) := by decide +kernel
theorem c142_128 : fx_ca 142 128 = some (114, 1, 1, 131) := by decide +kernel
theorem c142_95 : fx_ca 142 95 = some (113, 3, 1, 98) := by decide +kernel
theorem c142_131 : fx_op 142 131 = some (.ifCond .eq 8, 134, 139) := by decide +kernel
theorem c142_139 : fx_op 142 139 = some (.lload_n 3, 140, 139) := by decide +kernel
theorem c142_134 : fx_cr 142 134 = some (1000109, 136) := by decide +kernel
theorem c142_140 : fx_ca 142 140 = some (115, 1, 1, 143) := by decide +kernel
theorem c142_136 : fx_op 142 136 = some (.goto 17, 139, 153) := by decide +kernel
theorem c142_153 : fx_ca 142 153 = some (64, 2, 2, 156) := by decide +kernel
theorem c142_98 : fx_op 142 98 = some (.lstore_n 3, 99, 98) := by decide +kernel
theorem c142_99 : fx_op 142 99 = some (.lload_n 3, 100, 99) := by decide +kernel
theorem c142_100 : fx_ca 142 100 = some (114, 1, 1, 103) := by decide +kernel
theorem c142_143 : fx_op 142 143 = some (.ifCond .eq 8, 146, 151) := by decide +kernel
theorem c142_151 : fx_cr 142 151 = some (1000113, 153) := by decide +kernel
theorem c142_146 : fx_cr 142 146 = some (1000111, 148) := by decide +kernel
theorem c142_148 : fx_op 142 148 = some (.goto 5, 151, 153) := by decide +kernel
theorem c142_156 : fx_op 142 156 = some (.aload_n 0, 157, 156) := by decide +kernel
theorem c142_157 : fx_op 142 157 = some (.iload 5, 159, 157) := by decide +kernel
theorem c142_159 : fx_op 142 159 = some (.iload 6, 161, 159) := by decide +kernel
theorem c142_161 : fx_op 142 161 = some (.iload 7, 163, 161) := by decide +kernel
theorem c142_163 : fx_ca 142 163 = some (135, 4, 2, 166) := by decide +kernel
theorem c142_103 : fx_op 142 103 = some (.ifCond .eq 7, 106, 110) := by decide +kernel
theorem c142_110 : fx_op 142 110 = some (.aload_n 0, 111, 110) := by decide +kernel
theorem c142_111 : fx_op 142 111 = some (.lload_n 3, 112, 111) := by decide +kernel
theorem c142_106 : fx_ci 142 106 = some (0, 107) := by decide +kernel
theorem c142_115 : fx_op 142 115 = some (.istore 8, 117, 115) := by decide +kernel
theorem c142_117 : fx_op 142 117 = some (.iinc 9 1, 120, 117) := by decide +kernel
theorem c142_112 : fx_ca 142 112 = some (139, 2, 2, 115) := by decide +kernel
theorem c142_107 : fx_op 142 107 = some (.goto 8, 110, 115) := by decide +kernel
theorem c142_120 : fx_op 142 120 = some (.goto (-94), 123, 26) := by decide +kernel
theorem c142_166 : fx_op 142 166 = some (.return_, 167, 166) := by decide +kernel
theorem s142_0 {kc : List va_E} {d : Nat} {x1 : Int} {M : fx_M} {Q : Option fx_V → fx_M → Prop} (H : wc kc d 105 [jR 31, jI 0] M (fun v M1 => wp kc (d + 1) 142 5 [some (jR 31), some (jL x1), none, none, none, none, none, none, none, none] (v.toList ++ []) M1 Q)) : wp kc (d + 1) 142 0 [some (jR 31), some (jL x1), none, none, none, none, none, none, none, none] [] M Q :=
  (x_aldn c142_0 rfl (x_ci c142_1 (wp_wk (l' := [some (jR 31), some (jL x1), none, none, none, none, none, none, none, none]) ⟨rfl, ⟨rfl, trivial⟩⟩ (x_cv (As := [jI 0]) (st := []) c142_2 cl_31 kl105 rfl (Nat.le_of_ble_eq_true rfl) mx105 (Nat.le_refl _) H))))
theorem s142_5 {kc : List va_E} {d : Nat} {v1 : Int} {M : fx_M} {Q : Option fx_V → fx_M → Prop} (H : wc kc d 139 [jR 31, jL v1] M (fun v M1 => wp kc (d + 1) 142 21 [some (jR 31), none, none, some (jL v1), none, some (jI 0), some (jI 0), some (jI 0), none, none] (v.toList ++ []) M1 Q)) : wp kc (d + 1) 142 5 [some (jR 31), some (jL v1), none, none, none, none, none, none, none, none] [] M Q :=
  (x_lldn c142_5 rfl (x_lstn (l' := [some (jR 31), some (jL v1), none, some (jL v1), none, none, none, none, none, none]) c142_6 rfl (x_ci c142_7 (x_ist (l' := [some (jR 31), some (jL v1), none, some (jL v1), none, some (jI 0), none, none, none, none]) c142_8 rfl (x_ci c142_10 (x_ist (l' := [some (jR 31), some (jL v1), none, some (jL v1), none, some (jI 0), some (jI 0), none, none, none]) c142_11 rfl (x_ci c142_13 (x_ist (l' := [some (jR 31), some (jL v1), none, some (jL v1), none, some (jI 0), some (jI 0), some (jI 0), none, none]) c142_14 rfl (x_aldn c142_16 rfl (x_lldn c142_17 rfl (wp_wk (l' := [some (jR 31), none, none, some (jL v1), none, some (jI 0), some (jI 0), some (jI 0), none, none]) ⟨rfl, ⟨rfl, ⟨rfl, ⟨rfl, ⟨rfl, trivial⟩⟩⟩⟩⟩ (x_cv (As := [jL v1]) (st := []) c142_18 cl_31 kl139 rfl (Nat.le_of_ble_eq_true rfl) mx139 (Nat.le_refl _) H))))))))))))
theorem s142_21 {kc : List va_E} {d : Nat} {v3 v5 v6 v7 u0 : Int} {M : fx_M} {Q : Option fx_V → fx_M → Prop} (H : wp kc (d + 1) 142 26 [some (jR 31), none, none, some (jL v3), none, some (jI v5), some (jI v6), some (jI v7), some (jI u0), some (jI 0)] [] M Q) : wp kc (d + 1) 142 21 [some (jR 31), none, none, some (jL v3), none, some (jI v5), some (jI v6), some (jI v7), none, none] [jI u0] M Q :=
  (x_ist (l' := [some (jR 31), none, none, some (jL v3), none, some (jI v5), some (jI v6), some (jI v7), some (jI u0), none]) c142_21 rfl (x_ci c142_23 (x_ist (l' := [some (jR 31), none, none, some (jL v3), none, some (jI v5), some (jI v6), some (jI v7), some (jI u0), some (jI 0)]) c142_24 rfl (wp_wk (l' := [some (jR 31), none, none, some (jL v3), none, some (jI v5), some (jI v6), some (jI v7), some (jI u0), some (jI 0)]) ⟨rfl, ⟨rfl, ⟨rfl, ⟨rfl, ⟨rfl, ⟨rfl, ⟨rfl, trivial⟩⟩⟩⟩⟩⟩⟩ H))))
theorem s142_26 {kc : List va_E} {d : Nat} {v3 v5 v6 v7 v8 v9 : Int} {M : fx_M} {Q : Option fx_V → fx_M → Prop} (H : ((fx_in32 v9)) ∧ (36 ≤ v9 → wc kc d 114 [jL v3] M (fun v M1 => wp kc (d + 1) 142 131 [some (jR 31), none, none, some (jL v3), none, some (jI v5), some (jI v6), some (jI v7), none, none] (v.toList ++ [jR 3]) M1 Q)) ∧ (v9 < 36 → ((fx_in32 v8)) ∧ (v8 = 0 → wc kc d 114 [jL v3] M (fun v M1 => wp kc (d + 1) 142 131 [some (jR 31), none, none, some (jL v3), none, some (jI v5), some (jI v6), some (jI v7), none, none] (v.toList ++ [jR 3]) M1 Q)) ∧ (v8 ≠ 0 → ((fx_in32 v8)) ∧ ((fx_in32 v8)) ∧ ((fx_in32 v8)) ∧ wc kc d 113 [jL v3, jI (M 31 5), jI (M 31 6)] M (fun v M1 => wp kc (d + 1) 142 98 [some (jR 31), none, none, none, none, some (jI (v5 + (if v8 = 1 then (1 : Int) else 0))), some (jI (v6 + (if v8 = 2 then (1 : Int) else 0))), some (jI (v7 + (if v8 = 3 then (1 : Int) else 0))), none, some (jI v9)] (v.toList ++ []) M1 Q)))) : wp kc (d + 1) 142 26 [some (jR 31), none, none, some (jL v3), none, some (jI v5), some (jI v6), some (jI v7), some (jI v8), some (jI v9)] [] M Q :=
  (x_ild c142_26 rfl (x_ci c142_28 (x_cge c142_30 H.1 (by decide) (fun h3 => (x_aldn c142_123 rfl (x_gfr c142_124 k_31_1 (x_lldn c142_127 rfl (wp_wk (l' := [some (jR 31), none, none, some (jL v3), none, some (jI v5), some (jI v6), some (jI v7), none, none]) ⟨rfl, ⟨rfl, ⟨rfl, ⟨rfl, ⟨rfl, trivial⟩⟩⟩⟩⟩ (x_cs (As := [jL v3]) (st := [jR 3]) c142_128 (by decide) rfl (Nat.le_of_ble_eq_true rfl) mx114 (Nat.le_refl _) (H.2.1 h3))))))) (fun h4 => (x_ild c142_33 rfl (x_zeq c142_35 (H.2.2 h4).1 (fun h1 => (x_aldn c142_123 rfl (x_gfr c142_124 k_31_1 (x_lldn c142_127 rfl (wp_wk (l' := [some (jR 31), none, none, some (jL v3), none, some (jI v5), some (jI v6), some (jI v7), none, none]) ⟨rfl, ⟨rfl, ⟨rfl, ⟨rfl, ⟨rfl, trivial⟩⟩⟩⟩⟩ (x_cs (As := [jL v3]) (st := [jR 3]) c142_128 (by decide) rfl (Nat.le_of_ble_eq_true rfl) mx114 (Nat.le_refl _) ((H.2.2 h4).2.1 h1))))))) (fun h2 => (x_ild c142_38 rfl (x_ild c142_40 rfl (x_ci c142_42 (have K : wp kc (d + 1) 142 51 [some (jR 31), none, none, some (jL v3), none, none, some (jI v6), some (jI v7), some (jI v8), some (jI v9)] [jI (if v8 = 1 then (1 : Int) else 0), jI v5] M Q := (x_iadd c142_51 (x_ist (l' := [some (jR 31), none, none, some (jL v3), none, some (jI (v5 + (if v8 = 1 then (1 : Int) else 0))), some (jI v6), some (jI v7), some (jI v8), some (jI v9)]) c142_52 rfl (x_ild c142_54 rfl (x_ild c142_56 rfl (x_ci c142_58 (have K : wp kc (d + 1) 142 67 [some (jR 31), none, none, some (jL v3), none, some (jI (v5 + (if v8 = 1 then (1 : Int) else 0))), none, some (jI v7), some (jI v8), some (jI v9)] [jI (if v8 = 2 then (1 : Int) else 0), jI v6] M Q := (x_iadd c142_67 (x_ist (l' := [some (jR 31), none, none, some (jL v3), none, some (jI (v5 + (if v8 = 1 then (1 : Int) else 0))), some (jI (v6 + (if v8 = 2 then (1 : Int) else 0))), some (jI v7), some (jI v8), some (jI v9)]) c142_68 rfl (x_ild c142_70 rfl (x_ild c142_72 rfl (x_ci c142_74 (have K : wp kc (d + 1) 142 83 [some (jR 31), none, none, some (jL v3), none, some (jI (v5 + (if v8 = 1 then (1 : Int) else 0))), some (jI (v6 + (if v8 = 2 then (1 : Int) else 0))), none, none, some (jI v9)] [jI (if v8 = 3 then (1 : Int) else 0), jI v7] M Q := (x_iadd c142_83 (x_ist (l' := [some (jR 31), none, none, some (jL v3), none, some (jI (v5 + (if v8 = 1 then (1 : Int) else 0))), some (jI (v6 + (if v8 = 2 then (1 : Int) else 0))), some (jI (v7 + (if v8 = 3 then (1 : Int) else 0))), none, some (jI v9)]) c142_84 rfl (x_lldn c142_86 rfl (x_aldn c142_87 rfl (x_gfi c142_88 k_31_5 (x_aldn c142_91 rfl (x_gfi c142_92 k_31_6 (wp_wk (l' := [some (jR 31), none, none, none, none, some (jI (v5 + (if v8 = 1 then (1 : Int) else 0))), some (jI (v6 + (if v8 = 2 then (1 : Int) else 0))), some (jI (v7 + (if v8 = 3 then (1 : Int) else 0))), none, some (jI v9)]) ⟨rfl, ⟨rfl, ⟨rfl, ⟨rfl, ⟨rfl, trivial⟩⟩⟩⟩⟩ (x_cs (As := [jL v3, jI (M 31 5), jI (M 31 6)]) (st := []) c142_95 (by decide) rfl (Nat.le_of_ble_eq_true rfl) mx113 (Nat.le_refl _) ((H.2.2 h4).2.2 h2).2.2.2))))))))); (x_cne c142_75 ((H.2.2 h4).2.2 h2).2.2.1 (by decide) (fun (h9 : v8 ≠ 3) => (x_ci c142_82 (wp_wk (l' := [some (jR 31), none, none, some (jL v3), none, some (jI (v5 + (if v8 = 1 then (1 : Int) else 0))), some (jI (v6 + (if v8 = 2 then (1 : Int) else 0))), none, none, some (jI v9)]) ⟨rfl, ⟨rfl, ⟨rfl, ⟨rfl, ⟨rfl, trivial⟩⟩⟩⟩⟩ (by have K := K; first | (simp only [if_neg h9] at K ⊢; exact K) | (exfalso; omega))))) (fun (h10 : v8 = 3) => (x_ci c142_78 (x_goto c142_79 (wp_wk (l' := [some (jR 31), none, none, some (jL v3), none, some (jI (v5 + (if v8 = 1 then (1 : Int) else 0))), some (jI (v6 + (if v8 = 2 then (1 : Int) else 0))), none, none, some (jI v9)]) ⟨rfl, ⟨rfl, ⟨rfl, ⟨rfl, ⟨rfl, trivial⟩⟩⟩⟩⟩ (by have K := K; first | (simp only [if_pos h10] at K ⊢; exact K) | (exfalso; omega))))))))))))); (x_cne c142_59 ((H.2.2 h4).2.2 h2).2.1 (by decide) (fun (h7 : v8 ≠ 2) => (x_ci c142_66 (wp_wk (l' := [some (jR 31), none, none, some (jL v3), none, some (jI (v5 + (if v8 = 1 then (1 : Int) else 0))), none, some (jI v7), some (jI v8), some (jI v9)]) ⟨rfl, ⟨rfl, ⟨rfl, ⟨rfl, ⟨rfl, ⟨rfl, trivial⟩⟩⟩⟩⟩⟩ (by have K := K; first | (simp only [if_neg h7] at K ⊢; exact K) | (exfalso; omega))))) (fun (h8 : v8 = 2) => (x_ci c142_62 (x_goto c142_63 (wp_wk (l' := [some (jR 31), none, none, some (jL v3), none, some (jI (v5 + (if v8 = 1 then (1 : Int) else 0))), none, some (jI v7), some (jI v8), some (jI v9)]) ⟨rfl, ⟨rfl, ⟨rfl, ⟨rfl, ⟨rfl, ⟨rfl, trivial⟩⟩⟩⟩⟩⟩ (by have K := K; first | (simp only [if_pos h8] at K ⊢; exact K) | (exfalso; omega))))))))))))); (x_cne c142_43 ((H.2.2 h4).2.2 h2).1 (by decide) (fun (h5 : v8 ≠ 1) => (x_ci c142_50 (wp_wk (l' := [some (jR 31), none, none, some (jL v3), none, none, some (jI v6), some (jI v7), some (jI v8), some (jI v9)]) ⟨rfl, ⟨rfl, ⟨rfl, ⟨rfl, ⟨rfl, ⟨rfl, trivial⟩⟩⟩⟩⟩⟩ (by have K := K; first | (simp only [if_neg h5] at K ⊢; exact K) | (exfalso; omega))))) (fun (h6 : v8 = 1) => (x_ci c142_46 (x_goto c142_47 (wp_wk (l' := [some (jR 31), none, none, some (jL v3), none, none, some (jI v6), some (jI v7), some (jI v8), some (jI v9)]) ⟨rfl, ⟨rfl, ⟨rfl, ⟨rfl, ⟨rfl, ⟨rfl, trivial⟩⟩⟩⟩⟩⟩ (by have K := K; first | (simp only [if_pos h6] at K ⊢; exact K) | (exfalso; omega))))))))))))))))))
theorem s142_98 {kc : List va_E} {d : Nat} {v5 v6 v7 v9 u0 : Int} {M : fx_M} {Q : Option fx_V → fx_M → Prop} (H : wc kc d 114 [jL u0] M (fun v M1 => wp kc (d + 1) 142 103 [some (jR 31), none, none, some (jL u0), none, some (jI v5), some (jI v6), some (jI v7), none, some (jI v9)] (v.toList ++ []) M1 Q)) : wp kc (d + 1) 142 98 [some (jR 31), none, none, none, none, some (jI v5), some (jI v6), some (jI v7), none, some (jI v9)] [jL u0] M Q :=
  (x_lstn (l' := [some (jR 31), none, none, some (jL u0), none, some (jI v5), some (jI v6), some (jI v7), none, some (jI v9)]) c142_98 rfl (x_lldn c142_99 rfl (wp_wk (l' := [some (jR 31), none, none, some (jL u0), none, some (jI v5), some (jI v6), some (jI v7), none, some (jI v9)]) ⟨rfl, ⟨rfl, ⟨rfl, ⟨rfl, ⟨rfl, ⟨rfl, trivial⟩⟩⟩⟩⟩⟩ (x_cs (As := [jL u0]) (st := []) c142_100 (by decide) rfl (Nat.le_of_ble_eq_true rfl) mx114 (Nat.le_refl _) H))))
theorem s142_103 {kc : List va_E} {d : Nat} {v3 v5 v6 v7 v9 u0 : Int} {M : fx_M} {Q : Option fx_V → fx_M → Prop} (H : ((fx_in32 u0)) ∧ (u0 = 0 → wc kc d 139 [jR 31, jL v3] M (fun v M1 => wp kc (d + 1) 142 115 [some (jR 31), none, none, some (jL v3), none, some (jI v5), some (jI v6), some (jI v7), none, some (jI v9)] (v.toList ++ []) M1 Q)) ∧ (u0 ≠ 0 → wp kc (d + 1) 142 26 [some (jR 31), none, none, some (jL v3), none, some (jI v5), some (jI v6), some (jI v7), some (jI 0), some (jI (v9 + 1))] [] M Q)) : wp kc (d + 1) 142 103 [some (jR 31), none, none, some (jL v3), none, some (jI v5), some (jI v6), some (jI v7), none, some (jI v9)] [jI u0] M Q :=
  (x_zeq c142_103 H.1 (fun h1 => (x_aldn c142_110 rfl (x_lldn c142_111 rfl (wp_wk (l' := [some (jR 31), none, none, some (jL v3), none, some (jI v5), some (jI v6), some (jI v7), none, some (jI v9)]) ⟨rfl, ⟨rfl, ⟨rfl, ⟨rfl, ⟨rfl, ⟨rfl, trivial⟩⟩⟩⟩⟩⟩ (x_cv (As := [jL v3]) (st := []) c142_112 cl_31 kl139 rfl (Nat.le_of_ble_eq_true rfl) mx139 (Nat.le_refl _) (H.2.1 h1)))))) (fun h2 => (x_ci c142_106 (x_goto c142_107 (x_ist (l' := [some (jR 31), none, none, some (jL v3), none, some (jI v5), some (jI v6), some (jI v7), some (jI 0), some (jI v9)]) c142_115 rfl (x_inc (l' := [some (jR 31), none, none, some (jL v3), none, some (jI v5), some (jI v6), some (jI v7), some (jI 0), some (jI (v9 + 1))]) c142_117 rfl rfl (x_goto c142_120 (wp_wk (l' := [some (jR 31), none, none, some (jL v3), none, some (jI v5), some (jI v6), some (jI v7), some (jI 0), some (jI (v9 + 1))]) ⟨rfl, ⟨rfl, ⟨rfl, ⟨rfl, ⟨rfl, ⟨rfl, ⟨rfl, trivial⟩⟩⟩⟩⟩⟩⟩ (H.2.2 h2)))))))))
theorem s142_115 {kc : List va_E} {d : Nat} {v3 v5 v6 v7 v9 u0 : Int} {M : fx_M} {Q : Option fx_V → fx_M → Prop} (H : wp kc (d + 1) 142 26 [some (jR 31), none, none, some (jL v3), none, some (jI v5), some (jI v6), some (jI v7), some (jI u0), some (jI (v9 + 1))] [] M Q) : wp kc (d + 1) 142 115 [some (jR 31), none, none, some (jL v3), none, some (jI v5), some (jI v6), some (jI v7), none, some (jI v9)] [jI u0] M Q :=
  (x_ist (l' := [some (jR 31), none, none, some (jL v3), none, some (jI v5), some (jI v6), some (jI v7), some (jI u0), some (jI v9)]) c142_115 rfl (x_inc (l' := [some (jR 31), none, none, some (jL v3), none, some (jI v5), some (jI v6), some (jI v7), some (jI u0), some (jI (v9 + 1))]) c142_117 rfl rfl (x_goto c142_120 (wp_wk (l' := [some (jR 31), none, none, some (jL v3), none, some (jI v5), some (jI v6), some (jI v7), some (jI u0), some (jI (v9 + 1))]) ⟨rfl, ⟨rfl, ⟨rfl, ⟨rfl, ⟨rfl, ⟨rfl, ⟨rfl, trivial⟩⟩⟩⟩⟩⟩⟩ H))))
theorem s142_131 {kc : List va_E} {d : Nat} {v3 v5 v6 v7 u0 : Int} {M : fx_M} {Q : Option fx_V → fx_M → Prop} (H : ((fx_in32 u0)) ∧ (u0 = 0 → wc kc d 115 [jL v3] M (fun v M1 => wp kc (d + 1) 142 143 [some (jR 31), none, none, none, none, some (jI v5), some (jI v6), some (jI v7), none, none] (v.toList ++ [jR 3]) M1 Q)) ∧ (u0 ≠ 0 → wc kc d 64 [jR 3, jR 1000109] M (fun v M1 => wp kc (d + 1) 142 156 [some (jR 31), none, none, none, none, some (jI v5), some (jI v6), some (jI v7), none, none] (v.toList ++ []) M1 Q))) : wp kc (d + 1) 142 131 [some (jR 31), none, none, some (jL v3), none, some (jI v5), some (jI v6), some (jI v7), none, none] [jI u0, jR 3] M Q :=
  (x_zeq c142_131 H.1 (fun h1 => (x_lldn c142_139 rfl (wp_wk (l' := [some (jR 31), none, none, none, none, some (jI v5), some (jI v6), some (jI v7), none, none]) ⟨rfl, ⟨rfl, ⟨rfl, ⟨rfl, trivial⟩⟩⟩⟩ (x_cs (As := [jL v3]) (st := [jR 3]) c142_140 (by decide) rfl (Nat.le_of_ble_eq_true rfl) mx115 (Nat.le_refl _) (H.2.1 h1))))) (fun h2 => (x_cr c142_134 (x_goto c142_136 (wp_wk (l' := [some (jR 31), none, none, none, none, some (jI v5), some (jI v6), some (jI v7), none, none]) ⟨rfl, ⟨rfl, ⟨rfl, ⟨rfl, trivial⟩⟩⟩⟩ (x_cv (As := [jR 1000109]) (st := []) c142_153 cl_3 kl64 rfl (Nat.le_of_ble_eq_true rfl) mx64 (Nat.le_refl _) (H.2.2 h2)))))))
theorem s142_143 {kc : List va_E} {d : Nat} {v5 v6 v7 u0 : Int} {M : fx_M} {Q : Option fx_V → fx_M → Prop} (H : ((fx_in32 u0)) ∧ (u0 = 0 → wc kc d 64 [jR 3, jR 1000113] M (fun v M1 => wp kc (d + 1) 142 156 [some (jR 31), none, none, none, none, some (jI v5), some (jI v6), some (jI v7), none, none] (v.toList ++ []) M1 Q)) ∧ (u0 ≠ 0 → wc kc d 64 [jR 3, jR 1000111] M (fun v M1 => wp kc (d + 1) 142 156 [some (jR 31), none, none, none, none, some (jI v5), some (jI v6), some (jI v7), none, none] (v.toList ++ []) M1 Q))) : wp kc (d + 1) 142 143 [some (jR 31), none, none, none, none, some (jI v5), some (jI v6), some (jI v7), none, none] [jI u0, jR 3] M Q :=
  (x_zeq c142_143 H.1 (fun h1 => (x_cr c142_151 (wp_wk (l' := [some (jR 31), none, none, none, none, some (jI v5), some (jI v6), some (jI v7), none, none]) ⟨rfl, ⟨rfl, ⟨rfl, ⟨rfl, trivial⟩⟩⟩⟩ (x_cv (As := [jR 1000113]) (st := []) c142_153 cl_3 kl64 rfl (Nat.le_of_ble_eq_true rfl) mx64 (Nat.le_refl _) (H.2.1 h1))))) (fun h2 => (x_cr c142_146 (x_goto c142_148 (wp_wk (l' := [some (jR 31), none, none, none, none, some (jI v5), some (jI v6), some (jI v7), none, none]) ⟨rfl, ⟨rfl, ⟨rfl, ⟨rfl, trivial⟩⟩⟩⟩ (x_cv (As := [jR 1000111]) (st := []) c142_153 cl_3 kl64 rfl (Nat.le_of_ble_eq_true rfl) mx64 (Nat.le_refl _) (H.2.2 h2)))))))
theorem s142_156 {kc : List va_E} {d : Nat} {v5 v6 v7 : Int} {M : fx_M} {Q : Option fx_V → fx_M → Prop} (H : wc kc d 135 [jR 31, jI v5, jI v6, jI v7] M (fun v M1 => wp kc (d + 1) 142 166 [none, none, none, none, none, none, none, none, none, none] (v.toList ++ []) M1 Q)) : wp kc (d + 1) 142 156 [some (jR 31), none, none, none, none, some (jI v5), some (jI v6), some (jI v7), none, none] [] M Q :=
  (x_aldn c142_156 rfl (x_ild c142_157 rfl (x_ild c142_159 rfl (x_ild c142_161 rfl (wp_wk (l' := [none, none, none, none, none, none, none, none, none, none]) trivial (x_cv (As := [jI v5, jI v6, jI v7]) (st := []) c142_163 cl_31 kl135 rfl (Nat.le_of_ble_eq_true rfl) mx135 (Nat.le_refl _) H))))))
theorem s142_166 {kc : List va_E} {d : Nat} {M : fx_M} {Q : Option fx_V → fx_M → Prop} (H : Q none M) : wp kc (d + 1) 142 166 [none, none, none, none, none, none, none, none, none, none] [] M Q :=
  (x_vr c142_166 r142 H)
theorem s142 {kc : List va_E} {d : Nat} {x1 : Int} {M : fx_M} {Q : Option fx_V → fx_M → Prop} (H : wc kc d 105 [jR 31, jI 0] M (fun v M1 => wp kc (d + 1) 142 5 [some (jR 31), some (jL x1), none, none, none, none, none, none, none, none] (v.toList ++ []) M1 Q)) : wc kc (d + 1) 142 [jR 31, jL x1] M Q :=
  wc_of (wp_wk (l' := [some (jR 31), some (jL x1), none, none, none, none, none, none, none, none]) ⟨rfl, ⟨rfl, trivial⟩⟩ (s142_0 H))

/- PuzzleHouse$Reasons.teach()V -/
theorem c143_0 : fx_op 143 0 = some (.aload_n 0, 1, 0) := by decide +kernel
theorem c143_1 : fx_ci 143 1 = some (1, 2) := by decide +kernel
theorem c143_2 : fx_ca 143 2 = some (105, 2, 2, 5) := by decide +kernel
theorem c143_5 : fx_op 143 5 = some (.aload_n 0, 6, 5) := by decide +kernel
theorem c143_6 : fx_ca 143 6 = some (106, 1, 2, 9) := by decide +kernel
theorem c143_9 : fx_op 143 9 = some (.aload_n 0, 10, 9) := by decide +kernel
theorem c143_10 : fx_gf 143 10 = some (5, 0, 13) := by decide +kernel
theorem c143_13 : fx_ca 143 13 = some (81, 1, 2, 16) := by decide +kernel
theorem c143_16 : fx_op 143 16 = some (.lstore_n 1, 17, 16) := by decide +kernel
theorem c143_17 : fx_op 143 17 = some (.aload_n 0, 18, 17) := by decide +kernel
theorem c143_18 : fx_op 143 18 = some (.lload_n 1, 19, 18) := by decide +kernel
theorem c143_19 : fx_ca 143 19 = some (139, 2, 2, 22) := by decide +kernel
theorem c143_22 : fx_op 143 22 = some (.istore_n 3, 23, 22) := by decide +kernel
theorem c143_23 : fx_ci 143 23 = some (0, 24) := by decide +kernel
theorem c143_24 : fx_op 143 24 = some (.istore 4, 26, 24) := by decide +kernel
theorem c143_26 : fx_op 143 26 = some (.iload 4, 28, 26) := by decide +kernel
theorem c143_28 : fx_ci 143 28 = some (36, 30) := by decide +kernel
theorem c143_30 : fx_op 143 30 = some (.if_icmp .ge 70, 33, 100) := by decide +kernel
theorem c143_33 : fx_op 143 33 = some (.iload_n 3, 34, 33) := by decide +kernel
theorem c143_34 : fx_op 143 34 = some (.ifCond .eq 66, 37, 100) := by decide +kernel
theorem c143_37 : fx_op 143 37 = some (.aload_n 0, 38, 37) := by decide +kernel
theorem c143_38 : fx_gf 143 38 = some (5, 5, 41) := by decide +kernel
theorem c143_41 : fx_op 143 41 = some (.istore 5, 43, 41) := by decide +kernel
theorem c143_43 : fx_op 143 43 = some (.aload_n 0, 44, 43) := by decide +kernel
theorem c143_44 : fx_gf 143 44 = some (5, 6, 47) := by decide +kernel
theorem c143_47 : fx_op 143 47 = some (.istore 6, 49, 47) := by decide +kernel
theorem c143_49 : fx_op 143 49 = some (.aload_n 0, 50, 49) := by decide +kernel
theorem c143_50 : fx_op 143 50 = some (.lload_n 1, 51, 50) := by decide +kernel
theorem c143_51 : fx_op 143 51 = some (.iload_n 3, 52, 51) := by decide +kernel
theorem c143_100 : fx_op 143 100 = some (.lload_n 1, 101, 100) := by decide +kernel
theorem c143_101 : fx_ca 143 101 = some (114, 1, 1, 104) := by decide +kernel
theorem c143_52 : fx_ca 143 52 = some (144, 3, 2, 55) := by decide +kernel
theorem c143_104 : fx_op 143 104 = some (.ifCond .eq 11, 107, 115) := by decide +kernel
theorem c143_115 : fx_op 143 115 = some (.lload_n 1, 116, 115) := by decide +kernel
theorem c143_107 : fx_op 143 107 = some (.aload_n 0, 108, 107) := by decide +kernel
theorem c143_108 : fx_ci 143 108 = some (0, 109) := by decide +kernel
theorem c143_116 : fx_ca 143 116 = some (115, 1, 1, 119) := by decide +kernel
theorem c143_109 : fx_ca 143 109 = some (118, 2, 2, 112) := by decide +kernel
theorem c143_55 : fx_op 143 55 = some (.lload_n 1, 56, 55) := by decide +kernel
theorem c143_56 : fx_op 143 56 = some (.iload 5, 58, 56) := by decide +kernel
theorem c143_58 : fx_op 143 58 = some (.iload 6, 60, 58) := by decide +kernel
theorem c143_60 : fx_ca 143 60 = some (113, 3, 1, 63) := by decide +kernel
theorem c143_119 : fx_op 143 119 = some (.ifCond .eq 13, 122, 132) := by decide +kernel
theorem c143_122 : fx_op 143 122 = some (.aload_n 0, 123, 122) := by decide +kernel
theorem c143_123 : fx_op 143 123 = some (.lload_n 1, 124, 123) := by decide +kernel
theorem c143_132 : fx_op 143 132 = some (.aload_n 0, 133, 132) := by decide +kernel
theorem c143_133 : fx_ca 143 133 = some (119, 1, 2, 136) := by decide +kernel
theorem c143_124 : fx_ca 143 124 = some (117, 2, 2, 127) := by decide +kernel
theorem c143_112 : fx_op 143 112 = some (.goto 20, 115, 132) := by decide +kernel
theorem c143_63 : fx_op 143 63 = some (.lstore_n 1, 64, 63) := by decide +kernel
theorem c143_64 : fx_op 143 64 = some (.lload_n 1, 65, 64) := by decide +kernel
theorem c143_65 : fx_ca 143 65 = some (114, 1, 1, 68) := by decide +kernel
theorem c143_136 : fx_op 143 136 = some (.aload_n 0, 137, 136) := by decide +kernel
theorem c143_137 : fx_gf 143 137 = some (5, 1, 140) := by decide +kernel
theorem c143_140 : fx_gf 143 140 = some (1, 1, 143) := by decide +kernel
theorem c143_143 : fx_op 143 143 = some (.ifCond .ne 12, 146, 155) := by decide +kernel
theorem c143_146 : fx_op 143 146 = some (.aload_n 0, 147, 146) := by decide +kernel
theorem c143_147 : fx_gf 143 147 = some (5, 1, 150) := by decide +kernel
theorem c143_150 : fx_ci 143 150 = some (46, 152) := by decide +kernel
theorem c143_155 : fx_op 143 155 = some (.return_, 156, 155) := by decide +kernel
theorem c143_152 : fx_ca 143 152 = some (69, 2, 2, 155) := by decide +kernel
theorem c143_127 : fx_op 143 127 = some (.aload_n 0, 128, 127) := by decide +kernel
theorem c143_128 : fx_ci 143 128 = some (0, 129) := by decide +kernel
theorem c143_129 : fx_ca 143 129 = some (118, 2, 2, 132) := by decide +kernel
theorem c143_68 : fx_op 143 68 = some (.ifCond .ne 16, 71, 84) := by decide +kernel
theorem c143_84 : fx_ci 143 84 = some (0, 85) := by decide +kernel
theorem c143_85 : fx_op 143 85 = some (.goto 8, 88, 93) := by decide +kernel
theorem c143_71 : fx_op 143 71 = some (.aload_n 0, 72, 71) := by decide +kernel
theorem c143_72 : fx_gf 143 72 = some (5, 1, 75) := by decide +kernel
theorem c143_75 : fx_gf 143 75 = some (1, 1, 78) := by decide +kernel
theorem c143_78 : fx_ci 143 78 = some (3000, 81) := by decide +kernel
theorem c143_81 : fx_op 143 81 = some (.if_icmp .le 7, 84, 88) := by decide +kernel
theorem c143_88 : fx_op 143 88 = some (.aload_n 0, 89, 88) := by decide +kernel
theorem c143_89 : fx_op 143 89 = some (.lload_n 1, 90, 89) := by decide +kernel
theorem c143_93 : fx_op 143 93 = some (.istore_n 3, 94, 93) := by decide +kernel
theorem c143_94 : fx_op 143 94 = some (.iinc 4 1, 97, 94) := by decide +kernel
theorem c143_97 : fx_op 143 97 = some (.goto (-71), 100, 26) := by decide +kernel
theorem c143_90 : fx_ca 143 90 = some (139, 2, 2, 93) := by decide +kernel
theorem s143_0 {kc : List va_E} {d : Nat} {M : fx_M} {Q : Option fx_V → fx_M → Prop} (H : wc kc d 105 [jR 31, jI 1] M (fun v M1 => wp kc (d + 1) 143 5 [some (jR 31), none, none, none, none, none, none] (v.toList ++ []) M1 Q)) : wp kc (d + 1) 143 0 [some (jR 31), none, none, none, none, none, none] [] M Q :=
  (x_aldn c143_0 rfl (x_ci c143_1 (wp_wk (l' := [some (jR 31), none, none, none, none, none, none]) ⟨rfl, trivial⟩ (x_cv (As := [jI 1]) (st := []) c143_2 cl_31 kl105 rfl (Nat.le_of_ble_eq_true rfl) mx105 (Nat.le_refl _) H))))
theorem s143_5 {kc : List va_E} {d : Nat} {M : fx_M} {Q : Option fx_V → fx_M → Prop} (H : wc kc d 106 [jR 31] M (fun v M1 => wp kc (d + 1) 143 9 [some (jR 31), none, none, none, none, none, none] (v.toList ++ []) M1 Q)) : wp kc (d + 1) 143 5 [some (jR 31), none, none, none, none, none, none] [] M Q :=
  (x_aldn c143_5 rfl (wp_wk (l' := [some (jR 31), none, none, none, none, none, none]) ⟨rfl, trivial⟩ (x_cv (As := []) (st := []) c143_6 cl_31 kl106 rfl (Nat.le_of_ble_eq_true rfl) mx106 (Nat.le_refl _) H)))
theorem s143_9 {kc : List va_E} {d : Nat} {M : fx_M} {Q : Option fx_V → fx_M → Prop} (H : wc kc d 81 [jR 11] M (fun v M1 => wp kc (d + 1) 143 16 [some (jR 31), none, none, none, none, none, none] (v.toList ++ []) M1 Q)) : wp kc (d + 1) 143 9 [some (jR 31), none, none, none, none, none, none] [] M Q :=
  (x_aldn c143_9 rfl (x_gfr c143_10 k_31_0 (wp_wk (l' := [some (jR 31), none, none, none, none, none, none]) ⟨rfl, trivial⟩ (x_cv (As := []) (st := []) c143_13 cl_11 kl81 rfl (Nat.le_of_ble_eq_true rfl) mx81 (Nat.le_refl _) H))))
theorem s143_16 {kc : List va_E} {d : Nat} {u0 : Int} {M : fx_M} {Q : Option fx_V → fx_M → Prop} (H : wc kc d 139 [jR 31, jL u0] M (fun v M1 => wp kc (d + 1) 143 22 [some (jR 31), some (jL u0), none, none, none, none, none] (v.toList ++ []) M1 Q)) : wp kc (d + 1) 143 16 [some (jR 31), none, none, none, none, none, none] [jL u0] M Q :=
  (x_lstn (l' := [some (jR 31), some (jL u0), none, none, none, none, none]) c143_16 rfl (x_aldn c143_17 rfl (x_lldn c143_18 rfl (wp_wk (l' := [some (jR 31), some (jL u0), none, none, none, none, none]) ⟨rfl, ⟨rfl, trivial⟩⟩ (x_cv (As := [jL u0]) (st := []) c143_19 cl_31 kl139 rfl (Nat.le_of_ble_eq_true rfl) mx139 (Nat.le_refl _) H)))))
theorem s143_22 {kc : List va_E} {d : Nat} {v1 u0 : Int} {M : fx_M} {Q : Option fx_V → fx_M → Prop} (H : wp kc (d + 1) 143 26 [some (jR 31), some (jL v1), none, some (jI u0), some (jI 0), none, none] [] M Q) : wp kc (d + 1) 143 22 [some (jR 31), some (jL v1), none, none, none, none, none] [jI u0] M Q :=
  (x_istn (l' := [some (jR 31), some (jL v1), none, some (jI u0), none, none, none]) c143_22 rfl (x_ci c143_23 (x_ist (l' := [some (jR 31), some (jL v1), none, some (jI u0), some (jI 0), none, none]) c143_24 rfl (wp_wk (l' := [some (jR 31), some (jL v1), none, some (jI u0), some (jI 0), none, none]) ⟨rfl, ⟨rfl, ⟨rfl, ⟨rfl, trivial⟩⟩⟩⟩ H))))
theorem s143_26 {kc : List va_E} {d : Nat} {v1 v3 v4 : Int} {M : fx_M} {Q : Option fx_V → fx_M → Prop} (H : ((fx_in32 v4)) ∧ (36 ≤ v4 → wc kc d 114 [jL v1] M (fun v M1 => wp kc (d + 1) 143 104 [some (jR 31), some (jL v1), none, none, none, none, none] (v.toList ++ []) M1 Q)) ∧ (v4 < 36 → ((fx_in32 v3)) ∧ (v3 = 0 → wc kc d 114 [jL v1] M (fun v M1 => wp kc (d + 1) 143 104 [some (jR 31), some (jL v1), none, none, none, none, none] (v.toList ++ []) M1 Q)) ∧ (v3 ≠ 0 → wc kc d 144 [jR 31, jL v1, jI v3] M (fun v M1 => wp kc (d + 1) 143 55 [some (jR 31), some (jL v1), none, none, some (jI v4), some (jI (M 31 5)), some (jI (M 31 6))] (v.toList ++ []) M1 Q)))) : wp kc (d + 1) 143 26 [some (jR 31), some (jL v1), none, some (jI v3), some (jI v4), none, none] [] M Q :=
  (x_ild c143_26 rfl (x_ci c143_28 (x_cge c143_30 H.1 (by decide) (fun h3 => (x_lldn c143_100 rfl (wp_wk (l' := [some (jR 31), some (jL v1), none, none, none, none, none]) ⟨rfl, ⟨rfl, trivial⟩⟩ (x_cs (As := [jL v1]) (st := []) c143_101 (by decide) rfl (Nat.le_of_ble_eq_true rfl) mx114 (Nat.le_refl _) (H.2.1 h3))))) (fun h4 => (x_ildn c143_33 rfl (x_zeq c143_34 (H.2.2 h4).1 (fun h1 => (x_lldn c143_100 rfl (wp_wk (l' := [some (jR 31), some (jL v1), none, none, none, none, none]) ⟨rfl, ⟨rfl, trivial⟩⟩ (x_cs (As := [jL v1]) (st := []) c143_101 (by decide) rfl (Nat.le_of_ble_eq_true rfl) mx114 (Nat.le_refl _) ((H.2.2 h4).2.1 h1))))) (fun h2 => (x_aldn c143_37 rfl (x_gfi c143_38 k_31_5 (x_ist (l' := [some (jR 31), some (jL v1), none, some (jI v3), some (jI v4), some (jI (M 31 5)), none]) c143_41 rfl (x_aldn c143_43 rfl (x_gfi c143_44 k_31_6 (x_ist (l' := [some (jR 31), some (jL v1), none, some (jI v3), some (jI v4), some (jI (M 31 5)), some (jI (M 31 6))]) c143_47 rfl (x_aldn c143_49 rfl (x_lldn c143_50 rfl (x_ildn c143_51 rfl (wp_wk (l' := [some (jR 31), some (jL v1), none, none, some (jI v4), some (jI (M 31 5)), some (jI (M 31 6))]) ⟨rfl, ⟨rfl, ⟨rfl, ⟨rfl, ⟨rfl, trivial⟩⟩⟩⟩⟩ (x_cv (As := [jL v1, jI v3]) (st := []) c143_52 cl_31 kl144 rfl (Nat.le_of_ble_eq_true rfl) mx144 (Nat.le_refl _) ((H.2.2 h4).2.2 h2)))))))))))))))))))
theorem s143_55 {kc : List va_E} {d : Nat} {v1 v4 v5 v6 : Int} {M : fx_M} {Q : Option fx_V → fx_M → Prop} (H : wc kc d 113 [jL v1, jI v5, jI v6] M (fun v M1 => wp kc (d + 1) 143 63 [some (jR 31), none, none, none, some (jI v4), none, none] (v.toList ++ []) M1 Q)) : wp kc (d + 1) 143 55 [some (jR 31), some (jL v1), none, none, some (jI v4), some (jI v5), some (jI v6)] [] M Q :=
  (x_lldn c143_55 rfl (x_ild c143_56 rfl (x_ild c143_58 rfl (wp_wk (l' := [some (jR 31), none, none, none, some (jI v4), none, none]) ⟨rfl, ⟨rfl, trivial⟩⟩ (x_cs (As := [jL v1, jI v5, jI v6]) (st := []) c143_60 (by decide) rfl (Nat.le_of_ble_eq_true rfl) mx113 (Nat.le_refl _) H)))))
theorem s143_63 {kc : List va_E} {d : Nat} {v4 u0 : Int} {M : fx_M} {Q : Option fx_V → fx_M → Prop} (H : wc kc d 114 [jL u0] M (fun v M1 => wp kc (d + 1) 143 68 [some (jR 31), some (jL u0), none, none, some (jI v4), none, none] (v.toList ++ []) M1 Q)) : wp kc (d + 1) 143 63 [some (jR 31), none, none, none, some (jI v4), none, none] [jL u0] M Q :=
  (x_lstn (l' := [some (jR 31), some (jL u0), none, none, some (jI v4), none, none]) c143_63 rfl (x_lldn c143_64 rfl (wp_wk (l' := [some (jR 31), some (jL u0), none, none, some (jI v4), none, none]) ⟨rfl, ⟨rfl, ⟨rfl, trivial⟩⟩⟩ (x_cs (As := [jL u0]) (st := []) c143_65 (by decide) rfl (Nat.le_of_ble_eq_true rfl) mx114 (Nat.le_refl _) H))))
theorem s143_68 {kc : List va_E} {d : Nat} {v1 v4 u0 : Int} {M : fx_M} {Q : Option fx_V → fx_M → Prop} (H : ((fx_in32 u0)) ∧ (u0 ≠ 0 → wp kc (d + 1) 143 26 [some (jR 31), some (jL v1), none, some (jI 0), some (jI (v4 + 1)), none, none] [] M Q) ∧ (u0 = 0 → ((fx_in32 (M 3 1))) ∧ (M 3 1 ≤ 3000 → wc kc d 139 [jR 31, jL v1] M (fun v M1 => wp kc (d + 1) 143 93 [some (jR 31), some (jL v1), none, none, some (jI v4), none, none] (v.toList ++ []) M1 Q)) ∧ (3000 < M 3 1 → wp kc (d + 1) 143 26 [some (jR 31), some (jL v1), none, some (jI 0), some (jI (v4 + 1)), none, none] [] M Q))) : wp kc (d + 1) 143 68 [some (jR 31), some (jL v1), none, none, some (jI v4), none, none] [jI u0] M Q :=
  (x_zne c143_68 H.1 (fun h3 => (x_ci c143_84 (x_goto c143_85 (x_istn (l' := [some (jR 31), some (jL v1), none, some (jI 0), some (jI v4), none, none]) c143_93 rfl (x_inc (l' := [some (jR 31), some (jL v1), none, some (jI 0), some (jI (v4 + 1)), none, none]) c143_94 rfl rfl (x_goto c143_97 (wp_wk (l' := [some (jR 31), some (jL v1), none, some (jI 0), some (jI (v4 + 1)), none, none]) ⟨rfl, ⟨rfl, ⟨rfl, ⟨rfl, trivial⟩⟩⟩⟩ (H.2.1 h3)))))))) (fun h4 => (x_aldn c143_71 rfl (x_gfr c143_72 k_31_1 (x_gfi c143_75 k_3_1 (x_ci c143_78 (x_cle c143_81 (H.2.2 h4).1 (by decide) (fun h1 => (x_aldn c143_88 rfl (x_lldn c143_89 rfl (wp_wk (l' := [some (jR 31), some (jL v1), none, none, some (jI v4), none, none]) ⟨rfl, ⟨rfl, ⟨rfl, trivial⟩⟩⟩ (x_cv (As := [jL v1]) (st := []) c143_90 cl_31 kl139 rfl (Nat.le_of_ble_eq_true rfl) mx139 (Nat.le_refl _) ((H.2.2 h4).2.1 h1)))))) (fun h2 => (x_ci c143_84 (x_goto c143_85 (x_istn (l' := [some (jR 31), some (jL v1), none, some (jI 0), some (jI v4), none, none]) c143_93 rfl (x_inc (l' := [some (jR 31), some (jL v1), none, some (jI 0), some (jI (v4 + 1)), none, none]) c143_94 rfl rfl (x_goto c143_97 (wp_wk (l' := [some (jR 31), some (jL v1), none, some (jI 0), some (jI (v4 + 1)), none, none]) ⟨rfl, ⟨rfl, ⟨rfl, ⟨rfl, trivial⟩⟩⟩⟩ ((H.2.2 h4).2.2 h2)))))))))))))))
theorem s143_93 {kc : List va_E} {d : Nat} {v1 v4 u0 : Int} {M : fx_M} {Q : Option fx_V → fx_M → Prop} (H : wp kc (d + 1) 143 26 [some (jR 31), some (jL v1), none, some (jI u0), some (jI (v4 + 1)), none, none] [] M Q) : wp kc (d + 1) 143 93 [some (jR 31), some (jL v1), none, none, some (jI v4), none, none] [jI u0] M Q :=
  (x_istn (l' := [some (jR 31), some (jL v1), none, some (jI u0), some (jI v4), none, none]) c143_93 rfl (x_inc (l' := [some (jR 31), some (jL v1), none, some (jI u0), some (jI (v4 + 1)), none, none]) c143_94 rfl rfl (x_goto c143_97 (wp_wk (l' := [some (jR 31), some (jL v1), none, some (jI u0), some (jI (v4 + 1)), none, none]) ⟨rfl, ⟨rfl, ⟨rfl, ⟨rfl, trivial⟩⟩⟩⟩ H))))
theorem s143_104 {kc : List va_E} {d : Nat} {v1 u0 : Int} {M : fx_M} {Q : Option fx_V → fx_M → Prop} (H : ((fx_in32 u0)) ∧ (u0 = 0 → wc kc d 115 [jL v1] M (fun v M1 => wp kc (d + 1) 143 119 [some (jR 31), some (jL v1), none, none, none, none, none] (v.toList ++ []) M1 Q)) ∧ (u0 ≠ 0 → wc kc d 118 [jR 31, jI 0] M (fun v M1 => wp kc (d + 1) 143 112 [some (jR 31), none, none, none, none, none, none] (v.toList ++ []) M1 Q))) : wp kc (d + 1) 143 104 [some (jR 31), some (jL v1), none, none, none, none, none] [jI u0] M Q :=
  (x_zeq c143_104 H.1 (fun h1 => (x_lldn c143_115 rfl (wp_wk (l' := [some (jR 31), some (jL v1), none, none, none, none, none]) ⟨rfl, ⟨rfl, trivial⟩⟩ (x_cs (As := [jL v1]) (st := []) c143_116 (by decide) rfl (Nat.le_of_ble_eq_true rfl) mx115 (Nat.le_refl _) (H.2.1 h1))))) (fun h2 => (x_aldn c143_107 rfl (x_ci c143_108 (wp_wk (l' := [some (jR 31), none, none, none, none, none, none]) ⟨rfl, trivial⟩ (x_cv (As := [jI 0]) (st := []) c143_109 cl_31 kl118 rfl (Nat.le_of_ble_eq_true rfl) mx118 (Nat.le_refl _) (H.2.2 h2)))))))
theorem s143_112 {kc : List va_E} {d : Nat} {M : fx_M} {Q : Option fx_V → fx_M → Prop} (H : wc kc d 119 [jR 31] M (fun v M1 => wp kc (d + 1) 143 136 [some (jR 31), none, none, none, none, none, none] (v.toList ++ []) M1 Q)) : wp kc (d + 1) 143 112 [some (jR 31), none, none, none, none, none, none] [] M Q :=
  (x_goto c143_112 (x_aldn c143_132 rfl (wp_wk (l' := [some (jR 31), none, none, none, none, none, none]) ⟨rfl, trivial⟩ (x_cv (As := []) (st := []) c143_133 cl_31 kl119 rfl (Nat.le_of_ble_eq_true rfl) mx119 (Nat.le_refl _) H))))
theorem s143_119 {kc : List va_E} {d : Nat} {v1 u0 : Int} {M : fx_M} {Q : Option fx_V → fx_M → Prop} (H : ((fx_in32 u0)) ∧ (u0 = 0 → wc kc d 119 [jR 31] M (fun v M1 => wp kc (d + 1) 143 136 [some (jR 31), none, none, none, none, none, none] (v.toList ++ []) M1 Q)) ∧ (u0 ≠ 0 → wc kc d 117 [jR 31, jL v1] M (fun v M1 => wp kc (d + 1) 143 127 [some (jR 31), none, none, none, none, none, none] (v.toList ++ []) M1 Q))) : wp kc (d + 1) 143 119 [some (jR 31), some (jL v1), none, none, none, none, none] [jI u0] M Q :=
  (x_zeq c143_119 H.1 (fun h1 => (x_aldn c143_132 rfl (wp_wk (l' := [some (jR 31), none, none, none, none, none, none]) ⟨rfl, trivial⟩ (x_cv (As := []) (st := []) c143_133 cl_31 kl119 rfl (Nat.le_of_ble_eq_true rfl) mx119 (Nat.le_refl _) (H.2.1 h1))))) (fun h2 => (x_aldn c143_122 rfl (x_lldn c143_123 rfl (wp_wk (l' := [some (jR 31), none, none, none, none, none, none]) ⟨rfl, trivial⟩ (x_cv (As := [jL v1]) (st := []) c143_124 cl_31 kl117 rfl (Nat.le_of_ble_eq_true rfl) mx117 (Nat.le_refl _) (H.2.2 h2)))))))
theorem s143_127 {kc : List va_E} {d : Nat} {M : fx_M} {Q : Option fx_V → fx_M → Prop} (H : wc kc d 118 [jR 31, jI 0] M (fun v M1 => wp kc (d + 1) 143 132 [some (jR 31), none, none, none, none, none, none] (v.toList ++ []) M1 Q)) : wp kc (d + 1) 143 127 [some (jR 31), none, none, none, none, none, none] [] M Q :=
  (x_aldn c143_127 rfl (x_ci c143_128 (wp_wk (l' := [some (jR 31), none, none, none, none, none, none]) ⟨rfl, trivial⟩ (x_cv (As := [jI 0]) (st := []) c143_129 cl_31 kl118 rfl (Nat.le_of_ble_eq_true rfl) mx118 (Nat.le_refl _) H))))
theorem s143_132 {kc : List va_E} {d : Nat} {M : fx_M} {Q : Option fx_V → fx_M → Prop} (H : wc kc d 119 [jR 31] M (fun v M1 => wp kc (d + 1) 143 136 [some (jR 31), none, none, none, none, none, none] (v.toList ++ []) M1 Q)) : wp kc (d + 1) 143 132 [some (jR 31), none, none, none, none, none, none] [] M Q :=
  (x_aldn c143_132 rfl (wp_wk (l' := [some (jR 31), none, none, none, none, none, none]) ⟨rfl, trivial⟩ (x_cv (As := []) (st := []) c143_133 cl_31 kl119 rfl (Nat.le_of_ble_eq_true rfl) mx119 (Nat.le_refl _) H)))
theorem s143_136 {kc : List va_E} {d : Nat} {M : fx_M} {Q : Option fx_V → fx_M → Prop} (H : ((fx_in32 (M 3 1))) ∧ (M 3 1 ≠ 0 → Q none M) ∧ (M 3 1 = 0 → wc kc d 69 [jR 3, jI 46] M (fun v M1 => wp kc (d + 1) 143 155 [none, none, none, none, none, none, none] (v.toList ++ []) M1 Q))) : wp kc (d + 1) 143 136 [some (jR 31), none, none, none, none, none, none] [] M Q :=
  (x_aldn c143_136 rfl (x_gfr c143_137 k_31_1 (x_gfi c143_140 k_3_1 (x_zne c143_143 H.1 (fun h1 => (x_vr c143_155 r143 (H.2.1 h1))) (fun h2 => (x_aldn c143_146 rfl (x_gfr c143_147 k_31_1 (x_ci c143_150 (wp_wk (l' := [none, none, none, none, none, none, none]) trivial (x_cv (As := [jI 46]) (st := []) c143_152 cl_3 kl69 rfl (Nat.le_of_ble_eq_true rfl) mx69 (Nat.le_refl _) (H.2.2 h2)))))))))))
theorem s143_155 {kc : List va_E} {d : Nat} {M : fx_M} {Q : Option fx_V → fx_M → Prop} (H : Q none M) : wp kc (d + 1) 143 155 [none, none, none, none, none, none, none] [] M Q :=
  (x_vr c143_155 r143 H)
theorem s143 {kc : List va_E} {d : Nat} {M : fx_M} {Q : Option fx_V → fx_M → Prop} (H : wc kc d 105 [jR 31, jI 1] M (fun v M1 => wp kc (d + 1) 143 5 [some (jR 31), none, none, none, none, none, none] (v.toList ++ []) M1 Q)) : wc kc (d + 1) 143 [jR 31] M Q :=
  wc_of (wp_wk (l' := [some (jR 31), none, none, none, none, none, none]) ⟨rfl, trivial⟩ (s143_0 H))

/- PuzzleHouse$Reasons.writeStep(JI)V -/
theorem c144_0 : fx_op 144 0 = some (.iload_n 3, 1, 0) := by decide +kernel
theorem c144_1 : fx_ci 144 1 = some (3, 2) := by decide +kernel
theorem c144_2 : fx_op 144 2 = some (.if_icmp .ge 21, 5, 23) := by decide +kernel
theorem c144_23 : fx_op 144 23 = some (.aload_n 0, 24, 23) := by decide +kernel
theorem c144_24 : fx_gf 144 24 = some (5, 12, 27) := by decide +kernel
theorem c144_27 : fx_ci 144 27 = some (0, 28) := by decide +kernel
theorem c144_28 : fx_op 144 28 = some (.aload_n 0, 29, 28) := by decide +kernel
theorem c144_29 : fx_gf 144 29 = some (5, 5, 32) := by decide +kernel
theorem c144_33 : fx_op 144 33 = some (.aload_n 0, 34, 33) := by decide +kernel
theorem c144_34 : fx_gf 144 34 = some (5, 13, 37) := by decide +kernel
theorem c144_37 : fx_ci 144 37 = some (0, 38) := by decide +kernel
theorem c144_38 : fx_op 144 38 = some (.aload_n 0, 39, 38) := by decide +kernel
theorem c144_39 : fx_gf 144 39 = some (5, 6, 42) := by decide +kernel
theorem c144_43 : fx_op 144 43 = some (.aload_n 0, 44, 43) := by decide +kernel
theorem c144_44 : fx_op 144 44 = some (.lload_n 1, 45, 44) := by decide +kernel
theorem c144_45 : fx_op 144 45 = some (.aload_n 0, 46, 45) := by decide +kernel
theorem c144_46 : fx_gf 144 46 = some (5, 5, 49) := by decide +kernel
theorem c144_49 : fx_op 144 49 = some (.aload_n 0, 50, 49) := by decide +kernel
theorem c144_50 : fx_gf 144 50 = some (5, 6, 53) := by decide +kernel
theorem c144_5 : fx_op 144 5 = some (.aload_n 0, 6, 5) := by decide +kernel
theorem c144_6 : fx_op 144 6 = some (.lload_n 1, 7, 6) := by decide +kernel
theorem c144_7 : fx_op 144 7 = some (.iload_n 3, 8, 7) := by decide +kernel
theorem c144_8 : fx_ci 144 8 = some (2, 9) := by decide +kernel
theorem c144_9 : fx_op 144 9 = some (.if_icmp .ne 7, 12, 16) := by decide +kernel
theorem c144_16 : fx_ci 144 16 = some (0, 17) := by decide +kernel
theorem c144_12 : fx_ci 144 12 = some (1, 13) := by decide +kernel
theorem c144_13 : fx_op 144 13 = some (.goto 4, 16, 17) := by decide +kernel
theorem c144_32 : fx_op 144 32 = some (.iastore, 33, 32) := by decide +kernel
theorem c144_42 : fx_op 144 42 = some (.iastore, 43, 42) := by decide +kernel
theorem c144_53 : fx_ca 144 53 = some (83, 3, 1, 56) := by decide +kernel
theorem c144_17 : fx_ca 144 17 = some (112, 3, 2, 20) := by decide +kernel
theorem c144_56 : fx_ca 144 56 = some (109, 2, 2, 59) := by decide +kernel
theorem c144_20 : fx_op 144 20 = some (.goto 45, 23, 65) := by decide +kernel
theorem c144_65 : fx_op 144 65 = some (.return_, 66, 65) := by decide +kernel
theorem c144_59 : fx_op 144 59 = some (.pop2, 60, 59) := by decide +kernel
theorem c144_60 : fx_op 144 60 = some (.aload_n 0, 61, 60) := by decide +kernel
theorem c144_61 : fx_ci 144 61 = some (1, 62) := by decide +kernel
theorem c144_62 : fx_ca 144 62 = some (118, 2, 2, 65) := by decide +kernel
theorem s144_0 {kc : List va_E} {d : Nat} {x1 x3 : Int} {M : fx_M} {Q : Option fx_V → fx_M → Prop} (H : ((fx_in32 x3)) ∧ (3 ≤ x3 → wc kc d 83 [jL x1, jI (M 31 5), jI (M 31 6)] (fx_up (fx_up M 32 0 (M 31 5)) 33 0 (M 31 6)) (fun v M1 => wp kc (d + 1) 144 56 [some (jR 31), none, none, none] (v.toList ++ [jR 31]) M1 Q)) ∧ (x3 < 3 → ((fx_in32 x3)) ∧ wc kc d 112 [jR 31, jL x1, jI (if x3 = 2 then (1 : Int) else 0)] M (fun v M1 => wp kc (d + 1) 144 20 [none, none, none, none] (v.toList ++ []) M1 Q))) : wp kc (d + 1) 144 0 [some (jR 31), some (jL x1), none, some (jI x3)] [] M Q :=
  (x_ildn c144_0 rfl (x_ci c144_1 (x_cge c144_2 H.1 (by decide) (fun h1 => (x_aldn c144_23 rfl (x_gfr c144_24 k_31_12 (x_ci c144_27 (x_aldn c144_28 rfl (x_gfi c144_29 k_31_5 (x_iast c144_32 a_32 (by decide) (by decide) (x_aldn c144_33 rfl (x_gfr c144_34 k_31_13 (x_ci c144_37 (x_aldn c144_38 rfl (x_gfi c144_39 k_31_6 (wp_vI (fx_upA (by decide)) (x_iast c144_42 a_33 (by decide) (by decide) (x_aldn c144_43 rfl (x_lldn c144_44 rfl (x_aldn c144_45 rfl (x_gfi c144_46 k_31_5 (wp_vI (((fx_upA (by decide)).trans (fx_upA (by decide)))) (x_aldn c144_49 rfl (x_gfi c144_50 k_31_6 (wp_vI (((fx_upA (by decide)).trans (fx_upA (by decide)))) (wp_wk (l' := [some (jR 31), none, none, none]) ⟨rfl, trivial⟩ (x_cs (As := [jL x1, jI (M 31 5), jI (M 31 6)]) (st := [jR 31]) c144_53 (by decide) rfl (Nat.le_of_ble_eq_true rfl) mx83 (Nat.le_refl _) (H.2.1 h1))))))))))))))))))))))))) (fun h2 => (x_aldn c144_5 rfl (x_lldn c144_6 rfl (x_ildn c144_7 rfl (x_ci c144_8 (have K : wp kc (d + 1) 144 17 [none, none, none, none] [jI (if x3 = 2 then (1 : Int) else 0), jL x1, jR 31] M Q := (wp_wk (l' := [none, none, none, none]) trivial (x_cv (As := [jL x1, jI (if x3 = 2 then (1 : Int) else 0)]) (st := []) c144_17 cl_31 kl112 rfl (Nat.le_of_ble_eq_true rfl) mx112 (Nat.le_refl _) (H.2.2 h2).2)); (x_cne c144_9 (H.2.2 h2).1 (by decide) (fun (h3 : x3 ≠ 2) => (x_ci c144_16 (wp_wk (l' := [none, none, none, none]) trivial (by have K := K; first | (simp only [if_neg h3] at K ⊢; exact K) | (exfalso; omega))))) (fun (h4 : x3 = 2) => (x_ci c144_12 (x_goto c144_13 (wp_wk (l' := [none, none, none, none]) trivial (by have K := K; first | (simp only [if_pos h4] at K ⊢; exact K) | (exfalso; omega))))))))))))))))
theorem s144_20 {kc : List va_E} {d : Nat} {M : fx_M} {Q : Option fx_V → fx_M → Prop} (H : Q none M) : wp kc (d + 1) 144 20 [none, none, none, none] [] M Q :=
  (x_goto c144_20 (x_vr c144_65 r144 H))
theorem s144_56 {kc : List va_E} {d : Nat} {u0 : Int} {M : fx_M} {Q : Option fx_V → fx_M → Prop} (H : wc kc d 109 [jR 31, jL u0] M (fun v M1 => wp kc (d + 1) 144 59 [some (jR 31), none, none, none] (v.toList ++ []) M1 Q)) : wp kc (d + 1) 144 56 [some (jR 31), none, none, none] [jL u0, jR 31] M Q :=
  (wp_wk (l' := [some (jR 31), none, none, none]) ⟨rfl, trivial⟩ (x_cv (As := [jL u0]) (st := []) c144_56 cl_31 kl109 rfl (Nat.le_of_ble_eq_true rfl) mx109 (Nat.le_refl _) H))
theorem s144_59 {kc : List va_E} {d : Nat} {u0 : Int} {M : fx_M} {Q : Option fx_V → fx_M → Prop} (H : wc kc d 118 [jR 31, jI 1] M (fun v M1 => wp kc (d + 1) 144 65 [none, none, none, none] (v.toList ++ []) M1 Q)) : wp kc (d + 1) 144 59 [some (jR 31), none, none, none] [jL u0] M Q :=
  (x_pop2 c144_59 (x_aldn c144_60 rfl (x_ci c144_61 (wp_wk (l' := [none, none, none, none]) trivial (x_cv (As := [jI 1]) (st := []) c144_62 cl_31 kl118 rfl (Nat.le_of_ble_eq_true rfl) mx118 (Nat.le_refl _) H)))))
theorem s144_65 {kc : List va_E} {d : Nat} {M : fx_M} {Q : Option fx_V → fx_M → Prop} (H : Q none M) : wp kc (d + 1) 144 65 [none, none, none, none] [] M Q :=
  (x_vr c144_65 r144 H)
theorem s144 {kc : List va_E} {d : Nat} {x1 x3 : Int} {M : fx_M} {Q : Option fx_V → fx_M → Prop} (H : ((fx_in32 x3)) ∧ (3 ≤ x3 → wc kc d 83 [jL x1, jI (M 31 5), jI (M 31 6)] (fx_up (fx_up M 32 0 (M 31 5)) 33 0 (M 31 6)) (fun v M1 => wp kc (d + 1) 144 56 [some (jR 31), none, none, none] (v.toList ++ [jR 31]) M1 Q)) ∧ (x3 < 3 → ((fx_in32 x3)) ∧ wc kc d 112 [jR 31, jL x1, jI (if x3 = 2 then (1 : Int) else 0)] M (fun v M1 => wp kc (d + 1) 144 20 [none, none, none, none] (v.toList ++ []) M1 Q))) : wc kc (d + 1) 144 [jR 31, jL x1, jI x3] M Q :=
  wc_of (wp_wk (l' := [some (jR 31), some (jL x1), none, some (jI x3)]) ⟨rfl, ⟨rfl, ⟨rfl, trivial⟩⟩⟩ (s144_0 H))
