/-! SEGMENTS of PuzzleHouse (by gen/emit_segs.py) -/
/- PuzzleHouse.feed(IIIII)I -/
theorem c14_0 : fx_op 14 0 = some (.aload_n 0, 1, 0) := by decide +kernel
theorem c14_1 : fx_gf 14 1 = some (0, 1, 4) := by decide +kernel
theorem c14_4 : fx_ci 14 4 = some (20, 6) := by decide +kernel
theorem c14_6 : fx_op 14 6 = some (.iadd, 7, 6) := by decide +kernel
theorem c14_7 : fx_ci 14 7 = some (3200, 10) := by decide +kernel
theorem c14_10 : fx_op 14 10 = some (.if_icmp .le 5, 13, 15) := by decide +kernel
theorem c14_15 : fx_op 14 15 = some (.aload_n 0, 16, 15) := by decide +kernel
theorem c14_16 : fx_op 14 16 = some (.iload_n 1, 17, 16) := by decide +kernel
theorem c14_13 : fx_ci 14 13 = some ((-1), 14) := by decide +kernel
theorem c14_17 : fx_ca 14 17 = some (15, 2, 2, 20) := by decide +kernel
theorem c14_14 : fx_op 14 14 = some (.ireturn, 15, 14) := by decide +kernel
theorem c14_20 : fx_op 14 20 = some (.aload_n 0, 21, 20) := by decide +kernel
theorem c14_21 : fx_op 14 21 = some (.iload_n 2, 22, 21) := by decide +kernel
theorem c14_22 : fx_ca 14 22 = some (15, 2, 2, 25) := by decide +kernel
theorem c14_25 : fx_op 14 25 = some (.aload_n 0, 26, 25) := by decide +kernel
theorem c14_26 : fx_op 14 26 = some (.iload_n 3, 27, 26) := by decide +kernel
theorem c14_27 : fx_ca 14 27 = some (15, 2, 2, 30) := by decide +kernel
theorem c14_30 : fx_op 14 30 = some (.aload_n 0, 31, 30) := by decide +kernel
theorem c14_31 : fx_op 14 31 = some (.iload 4, 33, 31) := by decide +kernel
theorem c14_33 : fx_ca 14 33 = some (15, 2, 2, 36) := by decide +kernel
theorem c14_36 : fx_op 14 36 = some (.aload_n 0, 37, 36) := by decide +kernel
theorem c14_37 : fx_op 14 37 = some (.iload 5, 39, 37) := by decide +kernel
theorem c14_39 : fx_ca 14 39 = some (15, 2, 2, 42) := by decide +kernel
theorem c14_42 : fx_op 14 42 = some (.aload_n 0, 43, 42) := by decide +kernel
theorem c14_43 : fx_gf 14 43 = some (0, 1, 46) := by decide +kernel
theorem c14_46 : fx_op 14 46 = some (.ireturn, 47, 46) := by decide +kernel
theorem s14_0 {kc : List va_E} {d : Nat} {x1 x2 x3 x4 x5 : Int} {M : fx_M} {Q : Option fx_V → fx_M → Prop} (H : ((fx_in32 ((M 0 1) + 20))) ∧ ((M 0 1) + 20 ≤ 3200 → wc kc d 15 [jR 0, jI x1] M (fun v M1 => wp kc (d + 1) 14 20 [some (jR 0), none, some (jI x2), some (jI x3), some (jI x4), some (jI x5)] (v.toList ++ []) M1 Q)) ∧ (3200 < (M 0 1) + 20 → Q (some (jI (-1))) M)) : wp kc (d + 1) 14 0 [some (jR 0), some (jI x1), some (jI x2), some (jI x3), some (jI x4), some (jI x5)] [] M Q :=
  (x_aldn c14_0 rfl (x_gfi c14_1 k_0_1 (x_ci c14_4 (x_iadd c14_6 (x_ci c14_7 (x_cle c14_10 H.1 (by decide) (fun h1 => (x_aldn c14_15 rfl (x_ildn c14_16 rfl (wp_wk (l' := [some (jR 0), none, some (jI x2), some (jI x3), some (jI x4), some (jI x5)]) ⟨rfl, ⟨rfl, ⟨rfl, ⟨rfl, ⟨rfl, trivial⟩⟩⟩⟩⟩ (x_cv (As := [jI x1]) (st := []) c14_17 cl_0 kl15 rfl (Nat.le_of_ble_eq_true rfl) mx15 (Nat.le_refl _) (H.2.1 h1)))))) (fun h2 => (x_ci c14_13 (x_irt c14_14 r14 (H.2.2 h2))))))))))
theorem s14_20 {kc : List va_E} {d : Nat} {v2 v3 v4 v5 : Int} {M : fx_M} {Q : Option fx_V → fx_M → Prop} (H : wc kc d 15 [jR 0, jI v2] M (fun v M1 => wp kc (d + 1) 14 25 [some (jR 0), none, none, some (jI v3), some (jI v4), some (jI v5)] (v.toList ++ []) M1 Q)) : wp kc (d + 1) 14 20 [some (jR 0), none, some (jI v2), some (jI v3), some (jI v4), some (jI v5)] [] M Q :=
  (x_aldn c14_20 rfl (x_ildn c14_21 rfl (wp_wk (l' := [some (jR 0), none, none, some (jI v3), some (jI v4), some (jI v5)]) ⟨rfl, ⟨rfl, ⟨rfl, ⟨rfl, trivial⟩⟩⟩⟩ (x_cv (As := [jI v2]) (st := []) c14_22 cl_0 kl15 rfl (Nat.le_of_ble_eq_true rfl) mx15 (Nat.le_refl _) H))))
theorem s14_25 {kc : List va_E} {d : Nat} {v3 v4 v5 : Int} {M : fx_M} {Q : Option fx_V → fx_M → Prop} (H : wc kc d 15 [jR 0, jI v3] M (fun v M1 => wp kc (d + 1) 14 30 [some (jR 0), none, none, none, some (jI v4), some (jI v5)] (v.toList ++ []) M1 Q)) : wp kc (d + 1) 14 25 [some (jR 0), none, none, some (jI v3), some (jI v4), some (jI v5)] [] M Q :=
  (x_aldn c14_25 rfl (x_ildn c14_26 rfl (wp_wk (l' := [some (jR 0), none, none, none, some (jI v4), some (jI v5)]) ⟨rfl, ⟨rfl, ⟨rfl, trivial⟩⟩⟩ (x_cv (As := [jI v3]) (st := []) c14_27 cl_0 kl15 rfl (Nat.le_of_ble_eq_true rfl) mx15 (Nat.le_refl _) H))))
theorem s14_30 {kc : List va_E} {d : Nat} {v4 v5 : Int} {M : fx_M} {Q : Option fx_V → fx_M → Prop} (H : wc kc d 15 [jR 0, jI v4] M (fun v M1 => wp kc (d + 1) 14 36 [some (jR 0), none, none, none, none, some (jI v5)] (v.toList ++ []) M1 Q)) : wp kc (d + 1) 14 30 [some (jR 0), none, none, none, some (jI v4), some (jI v5)] [] M Q :=
  (x_aldn c14_30 rfl (x_ild c14_31 rfl (wp_wk (l' := [some (jR 0), none, none, none, none, some (jI v5)]) ⟨rfl, ⟨rfl, trivial⟩⟩ (x_cv (As := [jI v4]) (st := []) c14_33 cl_0 kl15 rfl (Nat.le_of_ble_eq_true rfl) mx15 (Nat.le_refl _) H))))
theorem s14_36 {kc : List va_E} {d : Nat} {v5 : Int} {M : fx_M} {Q : Option fx_V → fx_M → Prop} (H : wc kc d 15 [jR 0, jI v5] M (fun v M1 => wp kc (d + 1) 14 42 [some (jR 0), none, none, none, none, none] (v.toList ++ []) M1 Q)) : wp kc (d + 1) 14 36 [some (jR 0), none, none, none, none, some (jI v5)] [] M Q :=
  (x_aldn c14_36 rfl (x_ild c14_37 rfl (wp_wk (l' := [some (jR 0), none, none, none, none, none]) ⟨rfl, trivial⟩ (x_cv (As := [jI v5]) (st := []) c14_39 cl_0 kl15 rfl (Nat.le_of_ble_eq_true rfl) mx15 (Nat.le_refl _) H))))
theorem s14_42 {kc : List va_E} {d : Nat} {M : fx_M} {Q : Option fx_V → fx_M → Prop} (H : Q (some (jI (M 0 1))) M) : wp kc (d + 1) 14 42 [some (jR 0), none, none, none, none, none] [] M Q :=
  (x_aldn c14_42 rfl (x_gfi c14_43 k_0_1 (x_irt c14_46 r14 H)))
theorem s14 {kc : List va_E} {d : Nat} {x1 x2 x3 x4 x5 : Int} {M : fx_M} {Q : Option fx_V → fx_M → Prop} (H : ((fx_in32 ((M 0 1) + 20))) ∧ ((M 0 1) + 20 ≤ 3200 → wc kc d 15 [jR 0, jI x1] M (fun v M1 => wp kc (d + 1) 14 20 [some (jR 0), none, some (jI x2), some (jI x3), some (jI x4), some (jI x5)] (v.toList ++ []) M1 Q)) ∧ (3200 < (M 0 1) + 20 → Q (some (jI (-1))) M)) : wc kc (d + 1) 14 [jR 0, jI x1, jI x2, jI x3, jI x4, jI x5] M Q :=
  wc_of (wp_wk (l' := [some (jR 0), some (jI x1), some (jI x2), some (jI x3), some (jI x4), some (jI x5)]) ⟨rfl, ⟨rfl, ⟨rfl, ⟨rfl, ⟨rfl, ⟨rfl, trivial⟩⟩⟩⟩⟩⟩ (s14_0 H))

/- PuzzleHouse.tapeNumber(I)V -/
theorem c15_0 : fx_ci 15 0 = some (24, 2) := by decide +kernel
theorem c15_2 : fx_op 15 2 = some (.istore_n 2, 3, 2) := by decide +kernel
theorem c15_3 : fx_op 15 3 = some (.iload_n 2, 4, 3) := by decide +kernel
theorem c15_4 : fx_op 15 4 = some (.ifCond .lt 36, 7, 40) := by decide +kernel
theorem c15_7 : fx_op 15 7 = some (.aload_n 0, 8, 7) := by decide +kernel
theorem c15_8 : fx_gf 15 8 = some (0, 0, 11) := by decide +kernel
theorem c15_11 : fx_op 15 11 = some (.aload_n 0, 12, 11) := by decide +kernel
theorem c15_12 : fx_gf 15 12 = some (0, 1, 15) := by decide +kernel
theorem c15_15 : fx_op 15 15 = some (.iload_n 1, 16, 15) := by decide +kernel
theorem c15_16 : fx_op 15 16 = some (.iload_n 2, 17, 16) := by decide +kernel
theorem c15_17 : fx_op 15 17 = some (.iushr, 18, 17) := by decide +kernel
theorem c15_18 : fx_ci 15 18 = some (255, 21) := by decide +kernel
theorem c15_21 : fx_op 15 21 = some (.iand, 22, 21) := by decide +kernel
theorem c15_22 : fx_op 15 22 = some (.i2c, 23, 22) := by decide +kernel
theorem c15_24 : fx_op 15 24 = some (.aload_n 0, 25, 24) := by decide +kernel
theorem c15_25 : fx_op 15 25 = some (.dup, 26, 25) := by decide +kernel
theorem c15_26 : fx_gf 15 26 = some (0, 1, 29) := by decide +kernel
theorem c15_29 : fx_ci 15 29 = some (1, 30) := by decide +kernel
theorem c15_30 : fx_op 15 30 = some (.iadd, 31, 30) := by decide +kernel
theorem c15_31 : fx_pf 15 31 = some (0, 1, 0, 34) := by decide +kernel
theorem c15_34 : fx_op 15 34 = some (.iinc 2 (-8), 37, 34) := by decide +kernel
theorem c15_40 : fx_op 15 40 = some (.return_, 41, 40) := by decide +kernel
theorem c15_23 : fx_op 15 23 = some (.castore, 24, 23) := by decide +kernel
theorem c15_37 : fx_op 15 37 = some (.goto (-34), 40, 3) := by decide +kernel
theorem s15_0 {kc : List va_E} {d : Nat} {x1 : Int} {M : fx_M} {Q : Option fx_V → fx_M → Prop} (H : wp kc (d + 1) 15 3 [some (jR 0), some (jI x1), some (jI 24)] [] M Q) : wp kc (d + 1) 15 0 [some (jR 0), some (jI x1), none] [] M Q :=
  (x_ci c15_0 (x_istn (l' := [some (jR 0), some (jI x1), some (jI 24)]) c15_2 rfl (wp_wk (l' := [some (jR 0), some (jI x1), some (jI 24)]) ⟨rfl, ⟨rfl, ⟨rfl, trivial⟩⟩⟩ H)))
theorem s15_3 {kc : List va_E} {d : Nat} {v1 v2 : Int} {M : fx_M} {Q : Option fx_V → fx_M → Prop} (H : ((fx_in32 v2)) ∧ (v2 < 0 → Q none M) ∧ (0 ≤ v2 → (((0 : Int) ≤ M 0 1 ∧ M 0 1 < 3200) ∧ ((0 : Int) ≤ (fx_and (fx_ushr v1 v2) 255) % 65536 ∧ (fx_and (fx_ushr v1 v2) 255) % 65536 ≤ 65535)) ∧ wp kc (d + 1) 15 3 [some (jR 0), some (jI v1), some (jI (v2 + (-8)))] [] (fx_up (fx_up M 1 (M 0 1) ((fx_and (fx_ushr v1 v2) 255) % 65536)) 0 1 ((M 0 1) + 1)) Q)) : wp kc (d + 1) 15 3 [some (jR 0), some (jI v1), some (jI v2)] [] M Q :=
  (x_ildn c15_3 rfl (x_zlt c15_4 H.1 (fun h1 => (x_vr c15_40 r15 (H.2.1 h1))) (fun h2 => (x_aldn c15_7 rfl (x_gfr c15_8 k_0_0 (x_aldn c15_11 rfl (x_gfi c15_12 k_0_1 (x_ildn c15_15 rfl (x_ildn c15_16 rfl (x_iushr c15_17 (x_ci c15_18 (x_iand c15_21 (x_i2c c15_22 (x_cast c15_23 a_1 (H.2.2 h2).1.1 (by decide) (H.2.2 h2).1.2 (x_aldn c15_24 rfl (x_dupr c15_25 (x_gfi c15_26 k_0_1 (wp_vI (fx_upA (by decide)) (x_ci c15_29 (x_iadd c15_30 (x_pfi c15_31 k_0_1 (x_inc (l' := [some (jR 0), some (jI v1), some (jI (v2 + (-8)))]) c15_34 rfl rfl (x_goto c15_37 (wp_wk (l' := [some (jR 0), some (jI v1), some (jI (v2 + (-8)))]) ⟨rfl, ⟨rfl, ⟨rfl, trivial⟩⟩⟩ (H.2.2 h2).2))))))))))))))))))))))))
theorem s15 {kc : List va_E} {d : Nat} {x1 : Int} {M : fx_M} {Q : Option fx_V → fx_M → Prop} (H : wp kc (d + 1) 15 3 [some (jR 0), some (jI x1), some (jI 24)] [] M Q) : wc kc (d + 1) 15 [jR 0, jI x1] M Q :=
  wc_of (wp_wk (l' := [some (jR 0), some (jI x1), none]) ⟨rfl, ⟨rfl, trivial⟩⟩ (s15_0 H))

/- PuzzleHouse.ask(I)I -/
theorem c16_0 : fx_op 16 0 = some (.iload_n 1, 1, 0) := by decide +kernel
theorem c16_1 : fx_op 16 1 = some (.ifCond .lt 11, 4, 12) := by decide +kernel
theorem c16_12 : fx_ci 16 12 = some ((-1), 13) := by decide +kernel
theorem c16_4 : fx_op 16 4 = some (.iload_n 1, 5, 4) := by decide +kernel
theorem c16_5 : fx_op 16 5 = some (.aload_n 0, 6, 5) := by decide +kernel
theorem c16_6 : fx_gf 16 6 = some (0, 1, 9) := by decide +kernel
theorem c16_9 : fx_op 16 9 = some (.if_icmp .le 5, 12, 14) := by decide +kernel
theorem c16_14 : fx_op 16 14 = some (.aload_n 0, 15, 14) := by decide +kernel
theorem c16_15 : fx_gf 16 15 = some (0, 0, 18) := by decide +kernel
theorem c16_18 : fx_ci 16 18 = some (0, 19) := by decide +kernel
theorem c16_19 : fx_op 16 19 = some (.aload_n 0, 20, 19) := by decide +kernel
theorem c16_20 : fx_gf 16 20 = some (0, 2, 23) := by decide +kernel
theorem c16_23 : fx_ci 16 23 = some (0, 24) := by decide +kernel
theorem c16_24 : fx_op 16 24 = some (.iload_n 1, 25, 24) := by decide +kernel
theorem c16_28 : fx_op 16 28 = some (.aload_n 0, 29, 28) := by decide +kernel
theorem c16_29 : fx_ci 16 29 = some (0, 30) := by decide +kernel
theorem c16_30 : fx_pf 16 30 = some (0, 1, 0, 33) := by decide +kernel
theorem c16_33 : fx_op 16 33 = some (.aload_n 0, 34, 33) := by decide +kernel
theorem c16_34 : fx_op 16 34 = some (.iload_n 1, 35, 34) := by decide +kernel
theorem c16_13 : fx_op 16 13 = some (.ireturn, 14, 13) := by decide +kernel
theorem c16_25 : fx_nt 16 25 = some (0, 28) := by decide +kernel
theorem c16_35 : fx_ca 16 35 = some (17, 2, 2, 38) := by decide +kernel
theorem c16_38 : fx_op 16 38 = some (.aload_n 0, 39, 38) := by decide +kernel
theorem c16_39 : fx_gf 16 39 = some (0, 3, 42) := by decide +kernel
theorem c16_42 : fx_gf 16 42 = some (1, 1, 45) := by decide +kernel
theorem c16_45 : fx_op 16 45 = some (.ireturn, 46, 45) := by decide +kernel
theorem n16_25 : xS 16 ((xI 16 25).getD .nop) = none := by decide +kernel
theorem s16_0 {kc : List va_E} {d : Nat} {x1 : Int} {M : fx_M} {Q : Option fx_V → fx_M → Prop} (H : ((fx_in32 x1)) ∧ (x1 < 0 → Q (some (jI (-1))) M) ∧ (0 ≤ x1 → ((fx_in32 x1) ∧ (fx_in32 (M 0 1))) ∧ (x1 ≤ M 0 1 → (((0 : Int) ≤ x1 ∧ (0 : Int) ≤ 0 ∧ (0 : Int) ≤ 0 ∧ (0 : Int) + x1 ≤ 3200 ∧ (0 : Int) + x1 ≤ 5606)) ∧ wc kc d 17 [jR 0, jI x1] (fx_up (fx_cpy M 1 0 2 0 x1) 0 1 0) (fun v M1 => wp kc (d + 1) 16 38 [some (jR 0), none] (v.toList ++ []) M1 Q)) ∧ (M 0 1 < x1 → Q (some (jI (-1))) M))) : wp kc (d + 1) 16 0 [some (jR 0), some (jI x1)] [] M Q :=
  (x_ildn c16_0 rfl (x_zlt c16_1 H.1 (fun h3 => (x_ci c16_12 (x_irt c16_13 r16 (H.2.1 h3)))) (fun h4 => (x_ildn c16_4 rfl (x_aldn c16_5 rfl (x_gfi c16_6 k_0_1 (x_cle c16_9 (H.2.2 h4).1.1 (H.2.2 h4).1.2 (fun h1 => (x_aldn c16_14 rfl (x_gfr c16_15 k_0_0 (x_ci c16_18 (x_aldn c16_19 rfl (x_gfr c16_20 k_0_2 (x_ci c16_23 (x_ildn c16_24 rfl (x_cpy c16_25 n16_25 a_1 a_2 (by decide) ((H.2.2 h4).2.1 h1).1 ⟨(by decide), (by decide)⟩ (Nat.le_of_ble_eq_true rfl) (x_aldn c16_28 rfl (x_ci c16_29 (x_pfi c16_30 k_0_1 (x_aldn c16_33 rfl (x_ildn c16_34 rfl (wp_wk (l' := [some (jR 0), none]) ⟨rfl, trivial⟩ (x_cv (As := [jI x1]) (st := []) c16_35 cl_0 kl17 rfl (Nat.le_of_ble_eq_true rfl) mx17 (Nat.le_refl _) ((H.2.2 h4).2.1 h1).2)))))))))))))))) (fun h2 => (x_ci c16_12 (x_irt c16_13 r16 ((H.2.2 h4).2.2 h2)))))))))))
theorem s16_38 {kc : List va_E} {d : Nat} {M : fx_M} {Q : Option fx_V → fx_M → Prop} (H : Q (some (jI (M 3 1))) M) : wp kc (d + 1) 16 38 [some (jR 0), none] [] M Q :=
  (x_aldn c16_38 rfl (x_gfr c16_39 k_0_3 (x_gfi c16_42 k_3_1 (x_irt c16_45 r16 H))))
theorem s16 {kc : List va_E} {d : Nat} {x1 : Int} {M : fx_M} {Q : Option fx_V → fx_M → Prop} (H : ((fx_in32 x1)) ∧ (x1 < 0 → Q (some (jI (-1))) M) ∧ (0 ≤ x1 → ((fx_in32 x1) ∧ (fx_in32 (M 0 1))) ∧ (x1 ≤ M 0 1 → (((0 : Int) ≤ x1 ∧ (0 : Int) ≤ 0 ∧ (0 : Int) ≤ 0 ∧ (0 : Int) + x1 ≤ 3200 ∧ (0 : Int) + x1 ≤ 5606)) ∧ wc kc d 17 [jR 0, jI x1] (fx_up (fx_cpy M 1 0 2 0 x1) 0 1 0) (fun v M1 => wp kc (d + 1) 16 38 [some (jR 0), none] (v.toList ++ []) M1 Q)) ∧ (M 0 1 < x1 → Q (some (jI (-1))) M))) : wc kc (d + 1) 16 [jR 0, jI x1] M Q :=
  wc_of (wp_wk (l' := [some (jR 0), some (jI x1)]) ⟨rfl, ⟨rfl, trivial⟩⟩ (s16_0 H))

/- PuzzleHouse.respond(I)V -/
theorem c17_0 : fx_op 17 0 = some (.aload_n 0, 1, 0) := by decide +kernel
theorem c17_1 : fx_gf 17 1 = some (0, 5, 4) := by decide +kernel
theorem c17_4 : fx_op 17 4 = some (.aload_n 0, 5, 4) := by decide +kernel
theorem c17_5 : fx_gf 17 5 = some (0, 2, 8) := by decide +kernel
theorem c17_8 : fx_ci 17 8 = some (0, 9) := by decide +kernel
theorem c17_9 : fx_op 17 9 = some (.iload_n 1, 10, 9) := by decide +kernel
theorem c17_10 : fx_ca 17 10 = some (18, 4, 2, 13) := by decide +kernel
theorem c17_13 : fx_op 17 13 = some (.aload_n 0, 14, 13) := by decide +kernel
theorem c17_14 : fx_gf 17 14 = some (0, 5, 17) := by decide +kernel
theorem c17_17 : fx_cr 17 17 = some (1000003, 19) := by decide +kernel
theorem c17_19 : fx_ca 17 19 = some (20, 2, 2, 22) := by decide +kernel
theorem c17_22 : fx_op 17 22 = some (.istore_n 2, 23, 22) := by decide +kernel
theorem c17_23 : fx_op 17 23 = some (.aload_n 0, 24, 23) := by decide +kernel
theorem c17_24 : fx_op 17 24 = some (.iload_n 2, 25, 24) := by decide +kernel
theorem c17_25 : fx_ca 17 25 = some (32, 2, 2, 28) := by decide +kernel
theorem c17_28 : fx_op 17 28 = some (.aload_n 0, 29, 28) := by decide +kernel
theorem c17_29 : fx_gf 17 29 = some (0, 3, 32) := by decide +kernel
theorem c17_32 : fx_ca 17 32 = some (63, 1, 2, 35) := by decide +kernel
theorem c17_35 : fx_op 17 35 = some (.aload_n 0, 36, 35) := by decide +kernel
theorem c17_36 : fx_gf 17 36 = some (0, 5, 39) := by decide +kernel
theorem c17_39 : fx_gf 17 39 = some (2, 3, 42) := by decide +kernel
theorem c17_42 : fx_op 17 42 = some (.ifCond .ne 14, 45, 56) := by decide +kernel
theorem c17_56 : fx_op 17 56 = some (.aload_n 0, 57, 56) := by decide +kernel
theorem c17_57 : fx_gf 17 57 = some (0, 3, 60) := by decide +kernel
theorem c17_60 : fx_cr 17 60 = some (1000031, 62) := by decide +kernel
theorem c17_45 : fx_op 17 45 = some (.aload_n 0, 46, 45) := by decide +kernel
theorem c17_46 : fx_gf 17 46 = some (0, 5, 49) := by decide +kernel
theorem c17_49 : fx_gf 17 49 = some (2, 1, 52) := by decide +kernel
theorem c17_52 : fx_op 17 52 = some (.iload_n 1, 53, 52) := by decide +kernel
theorem c17_53 : fx_op 17 53 = some (.if_icmp .ge 29, 56, 82) := by decide +kernel
theorem c17_82 : fx_op 17 82 = some (.iload_n 2, 83, 82) := by decide +kernel
theorem c17_83 : fx_ci 17 83 = some (6, 85) := by decide +kernel
theorem c17_85 : fx_op 17 85 = some (.if_icmp .gt 11, 88, 96) := by decide +kernel
theorem c17_96 : fx_op 17 96 = some (.iload_n 2, 97, 96) := by decide +kernel
theorem c17_97 : fx_ci 17 97 = some (13, 99) := by decide +kernel
theorem c17_99 : fx_op 17 99 = some (.if_icmp .gt 11, 102, 110) := by decide +kernel
theorem c17_110 : fx_op 17 110 = some (.iload_n 2, 111, 110) := by decide +kernel
theorem c17_111 : fx_ci 17 111 = some (20, 113) := by decide +kernel
theorem c17_113 : fx_op 17 113 = some (.if_icmp .gt 11, 116, 124) := by decide +kernel
theorem c17_124 : fx_op 17 124 = some (.iload_n 2, 125, 124) := by decide +kernel
theorem c17_125 : fx_ci 17 125 = some (24, 127) := by decide +kernel
theorem c17_127 : fx_op 17 127 = some (.if_icmp .gt 11, 130, 138) := by decide +kernel
theorem c17_138 : fx_op 17 138 = some (.iload_n 2, 139, 138) := by decide +kernel
theorem c17_139 : fx_ci 17 139 = some (31, 141) := by decide +kernel
theorem c17_141 : fx_op 17 141 = some (.if_icmp .gt 11, 144, 152) := by decide +kernel
theorem c17_152 : fx_op 17 152 = some (.iload_n 2, 153, 152) := by decide +kernel
theorem c17_153 : fx_ci 17 153 = some (35, 155) := by decide +kernel
theorem c17_155 : fx_op 17 155 = some (.if_icmp .gt 11, 158, 166) := by decide +kernel
theorem c17_166 : fx_op 17 166 = some (.aload_n 0, 167, 166) := by decide +kernel
theorem c17_167 : fx_gf 17 167 = some (0, 16, 170) := by decide +kernel
theorem c17_170 : fx_gf 17 170 = some (11, 1, 173) := by decide +kernel
theorem c17_173 : fx_op 17 173 = some (.ifCond .ne 15, 176, 188) := by decide +kernel
theorem c17_188 : fx_op 17 188 = some (.aload_n 0, 189, 188) := by decide +kernel
theorem c17_189 : fx_op 17 189 = some (.iload_n 2, 190, 189) := by decide +kernel
theorem c17_176 : fx_op 17 176 = some (.iload_n 2, 177, 176) := by decide +kernel
theorem c17_177 : fx_ci 17 177 = some (40, 179) := by decide +kernel
theorem c17_179 : fx_op 17 179 = some (.if_icmp .eq 9, 182, 188) := by decide +kernel
theorem c17_182 : fx_op 17 182 = some (.iload_n 2, 183, 182) := by decide +kernel
theorem c17_183 : fx_ci 17 183 = some (41, 185) := by decide +kernel
theorem c17_185 : fx_op 17 185 = some (.if_icmp .ne 11, 188, 196) := by decide +kernel
theorem c17_196 : fx_op 17 196 = some (.aload_n 0, 197, 196) := by decide +kernel
theorem c17_197 : fx_gf 17 197 = some (0, 3, 200) := by decide +kernel
theorem c17_200 : fx_cr 17 200 = some (1000147, 202) := by decide +kernel
theorem c17_158 : fx_op 17 158 = some (.aload_n 0, 159, 158) := by decide +kernel
theorem c17_159 : fx_op 17 159 = some (.iload_n 2, 160, 159) := by decide +kernel
theorem c17_144 : fx_op 17 144 = some (.aload_n 0, 145, 144) := by decide +kernel
theorem c17_145 : fx_op 17 145 = some (.iload_n 2, 146, 145) := by decide +kernel
theorem c17_130 : fx_op 17 130 = some (.aload_n 0, 131, 130) := by decide +kernel
theorem c17_131 : fx_op 17 131 = some (.iload_n 2, 132, 131) := by decide +kernel
theorem c17_116 : fx_op 17 116 = some (.aload_n 0, 117, 116) := by decide +kernel
theorem c17_117 : fx_op 17 117 = some (.iload_n 2, 118, 117) := by decide +kernel
theorem c17_102 : fx_op 17 102 = some (.aload_n 0, 103, 102) := by decide +kernel
theorem c17_103 : fx_op 17 103 = some (.iload_n 2, 104, 103) := by decide +kernel
theorem c17_88 : fx_op 17 88 = some (.aload_n 0, 89, 88) := by decide +kernel
theorem c17_89 : fx_op 17 89 = some (.iload_n 2, 90, 89) := by decide +kernel
theorem c17_62 : fx_ca 17 62 = some (64, 2, 2, 65) := by decide +kernel
theorem c17_190 : fx_ca 17 190 = some (190, 2, 2, 193) := by decide +kernel
theorem c17_202 : fx_ca 17 202 = some (64, 2, 2, 205) := by decide +kernel
theorem c17_160 : fx_ca 17 160 = some (176, 2, 2, 163) := by decide +kernel
theorem c17_146 : fx_ca 17 146 = some (167, 2, 2, 149) := by decide +kernel
theorem c17_132 : fx_ca 17 132 = some (145, 2, 2, 135) := by decide +kernel
theorem c17_118 : fx_ca 17 118 = some (103, 2, 2, 121) := by decide +kernel
theorem c17_104 : fx_ca 17 104 = some (74, 2, 2, 107) := by decide +kernel
theorem c17_90 : fx_ca 17 90 = some (66, 2, 2, 93) := by decide +kernel
theorem c17_65 : fx_op 17 65 = some (.aload_n 0, 66, 65) := by decide +kernel
theorem c17_66 : fx_gf 17 66 = some (0, 3, 69) := by decide +kernel
theorem c17_69 : fx_op 17 69 = some (.aload_n 0, 70, 69) := by decide +kernel
theorem c17_70 : fx_gf 17 70 = some (0, 5, 73) := by decide +kernel
theorem c17_73 : fx_gf 17 73 = some (2, 1, 76) := by decide +kernel
theorem c17_76 : fx_ca 17 76 = some (65, 2, 2, 79) := by decide +kernel
theorem c17_193 : fx_op 17 193 = some (.goto 12, 196, 205) := by decide +kernel
theorem c17_205 : fx_op 17 205 = some (.return_, 206, 205) := by decide +kernel
theorem c17_163 : fx_op 17 163 = some (.goto 42, 166, 205) := by decide +kernel
theorem c17_149 : fx_op 17 149 = some (.goto 56, 152, 205) := by decide +kernel
theorem c17_135 : fx_op 17 135 = some (.goto 70, 138, 205) := by decide +kernel
theorem c17_121 : fx_op 17 121 = some (.goto 84, 124, 205) := by decide +kernel
theorem c17_107 : fx_op 17 107 = some (.goto 98, 110, 205) := by decide +kernel
theorem c17_93 : fx_op 17 93 = some (.goto 112, 96, 205) := by decide +kernel
theorem c17_79 : fx_op 17 79 = some (.goto 126, 82, 205) := by decide +kernel
theorem s17_0 {kc : List va_E} {d : Nat} {x1 : Int} {M : fx_M} {Q : Option fx_V → fx_M → Prop} (H : wc kc d 18 [jR 7, jR 2, jI 0, jI x1] M (fun v M1 => wp kc (d + 1) 17 13 [some (jR 0), some (jI x1), none] (v.toList ++ []) M1 Q)) : wp kc (d + 1) 17 0 [some (jR 0), some (jI x1), none] [] M Q :=
  (x_aldn c17_0 rfl (x_gfr c17_1 k_0_5 (x_aldn c17_4 rfl (x_gfr c17_5 k_0_2 (x_ci c17_8 (x_ildn c17_9 rfl (wp_wk (l' := [some (jR 0), some (jI x1), none]) ⟨rfl, ⟨rfl, trivial⟩⟩ (x_cv (As := [jR 2, jI 0, jI x1]) (st := []) c17_10 cl_7 kl18 rfl (Nat.le_of_ble_eq_true rfl) mx18 (Nat.le_refl _) H))))))))
theorem s17_13 {kc : List va_E} {d : Nat} {v1 : Int} {M : fx_M} {Q : Option fx_V → fx_M → Prop} (H : wc kc d 20 [jR 7, jR 1000003] M (fun v M1 => wp kc (d + 1) 17 22 [some (jR 0), some (jI v1), none] (v.toList ++ []) M1 Q)) : wp kc (d + 1) 17 13 [some (jR 0), some (jI v1), none] [] M Q :=
  (x_aldn c17_13 rfl (x_gfr c17_14 k_0_5 (x_cr c17_17 (wp_wk (l' := [some (jR 0), some (jI v1), none]) ⟨rfl, ⟨rfl, trivial⟩⟩ (x_cv (As := [jR 1000003]) (st := []) c17_19 cl_7 kl20 rfl (Nat.le_of_ble_eq_true rfl) mx20 (Nat.le_refl _) H)))))
theorem s17_22 {kc : List va_E} {d : Nat} {v1 u0 : Int} {M : fx_M} {Q : Option fx_V → fx_M → Prop} (H : wc kc d 32 [jR 0, jI u0] M (fun v M1 => wp kc (d + 1) 17 28 [some (jR 0), some (jI v1), some (jI u0)] (v.toList ++ []) M1 Q)) : wp kc (d + 1) 17 22 [some (jR 0), some (jI v1), none] [jI u0] M Q :=
  (x_istn (l' := [some (jR 0), some (jI v1), some (jI u0)]) c17_22 rfl (x_aldn c17_23 rfl (x_ildn c17_24 rfl (wp_wk (l' := [some (jR 0), some (jI v1), some (jI u0)]) ⟨rfl, ⟨rfl, ⟨rfl, trivial⟩⟩⟩ (x_cv (As := [jI u0]) (st := []) c17_25 cl_0 kl32 rfl (Nat.le_of_ble_eq_true rfl) mx32 (Nat.le_refl _) H)))))
theorem s17_28 {kc : List va_E} {d : Nat} {v1 v2 : Int} {M : fx_M} {Q : Option fx_V → fx_M → Prop} (H : wc kc d 63 [jR 3] M (fun v M1 => wp kc (d + 1) 17 35 [some (jR 0), some (jI v1), some (jI v2)] (v.toList ++ []) M1 Q)) : wp kc (d + 1) 17 28 [some (jR 0), some (jI v1), some (jI v2)] [] M Q :=
  (x_aldn c17_28 rfl (x_gfr c17_29 k_0_3 (wp_wk (l' := [some (jR 0), some (jI v1), some (jI v2)]) ⟨rfl, ⟨rfl, ⟨rfl, trivial⟩⟩⟩ (x_cv (As := []) (st := []) c17_32 cl_3 kl63 rfl (Nat.le_of_ble_eq_true rfl) mx63 (Nat.le_refl _) H))))
theorem s17_35 {kc : List va_E} {d : Nat} {v1 v2 : Int} {M : fx_M} {Q : Option fx_V → fx_M → Prop} (H : ((fx_in32 (M 7 3))) ∧ (M 7 3 ≠ 0 → wc kc d 64 [jR 3, jR 1000031] M (fun v M1 => wp kc (d + 1) 17 65 [some (jR 0), none, none] (v.toList ++ []) M1 Q)) ∧ (M 7 3 = 0 → ((fx_in32 (M 7 1)) ∧ (fx_in32 v1)) ∧ (v1 ≤ M 7 1 → ((fx_in32 v2)) ∧ (6 < v2 → ((fx_in32 v2)) ∧ (13 < v2 → ((fx_in32 v2)) ∧ (20 < v2 → ((fx_in32 v2)) ∧ (24 < v2 → ((fx_in32 v2)) ∧ (31 < v2 → ((fx_in32 v2)) ∧ (35 < v2 → ((fx_in32 (M 125 1))) ∧ (M 125 1 ≠ 0 → wc kc d 190 [jR 0, jI v2] M (fun v M1 => wp kc (d + 1) 17 193 [none, none, none] (v.toList ++ []) M1 Q)) ∧ (M 125 1 = 0 → ((fx_in32 v2)) ∧ (v2 = 40 → wc kc d 190 [jR 0, jI v2] M (fun v M1 => wp kc (d + 1) 17 193 [none, none, none] (v.toList ++ []) M1 Q)) ∧ (v2 ≠ 40 → ((fx_in32 v2)) ∧ (v2 ≠ 41 → wc kc d 64 [jR 3, jR 1000147] M (fun v M1 => wp kc (d + 1) 17 205 [none, none, none] (v.toList ++ []) M1 Q)) ∧ (v2 = 41 → wc kc d 190 [jR 0, jI v2] M (fun v M1 => wp kc (d + 1) 17 193 [none, none, none] (v.toList ++ []) M1 Q))))) ∧ (v2 ≤ 35 → wc kc d 176 [jR 0, jI v2] M (fun v M1 => wp kc (d + 1) 17 163 [none, none, none] (v.toList ++ []) M1 Q))) ∧ (v2 ≤ 31 → wc kc d 167 [jR 0, jI v2] M (fun v M1 => wp kc (d + 1) 17 149 [none, none, none] (v.toList ++ []) M1 Q))) ∧ (v2 ≤ 24 → wc kc d 145 [jR 0, jI v2] M (fun v M1 => wp kc (d + 1) 17 135 [none, none, none] (v.toList ++ []) M1 Q))) ∧ (v2 ≤ 20 → wc kc d 103 [jR 0, jI v2] M (fun v M1 => wp kc (d + 1) 17 121 [none, none, none] (v.toList ++ []) M1 Q))) ∧ (v2 ≤ 13 → wc kc d 74 [jR 0, jI v2] M (fun v M1 => wp kc (d + 1) 17 107 [none, none, none] (v.toList ++ []) M1 Q))) ∧ (v2 ≤ 6 → wc kc d 66 [jR 0, jI v2] M (fun v M1 => wp kc (d + 1) 17 93 [none, none, none] (v.toList ++ []) M1 Q))) ∧ (M 7 1 < v1 → wc kc d 64 [jR 3, jR 1000031] M (fun v M1 => wp kc (d + 1) 17 65 [some (jR 0), none, none] (v.toList ++ []) M1 Q)))) : wp kc (d + 1) 17 35 [some (jR 0), some (jI v1), some (jI v2)] [] M Q :=
  (x_aldn c17_35 rfl (x_gfr c17_36 k_0_5 (x_gfi c17_39 k_7_3 (x_zne c17_42 H.1 (fun h21 => (x_aldn c17_56 rfl (x_gfr c17_57 k_0_3 (x_cr c17_60 (wp_wk (l' := [some (jR 0), none, none]) ⟨rfl, trivial⟩ (x_cv (As := [jR 1000031]) (st := []) c17_62 cl_3 kl64 rfl (Nat.le_of_ble_eq_true rfl) mx64 (Nat.le_refl _) (H.2.1 h21))))))) (fun h22 => (x_aldn c17_45 rfl (x_gfr c17_46 k_0_5 (x_gfi c17_49 k_7_1 (x_ildn c17_52 rfl (x_cge c17_53 (H.2.2 h22).1.1 (H.2.2 h22).1.2 (fun h19 => (x_ildn c17_82 rfl (x_ci c17_83 (x_cgt c17_85 ((H.2.2 h22).2.1 h19).1 (by decide) (fun h17 => (x_ildn c17_96 rfl (x_ci c17_97 (x_cgt c17_99 (((H.2.2 h22).2.1 h19).2.1 h17).1 (by decide) (fun h15 => (x_ildn c17_110 rfl (x_ci c17_111 (x_cgt c17_113 ((((H.2.2 h22).2.1 h19).2.1 h17).2.1 h15).1 (by decide) (fun h13 => (x_ildn c17_124 rfl (x_ci c17_125 (x_cgt c17_127 (((((H.2.2 h22).2.1 h19).2.1 h17).2.1 h15).2.1 h13).1 (by decide) (fun h11 => (x_ildn c17_138 rfl (x_ci c17_139 (x_cgt c17_141 ((((((H.2.2 h22).2.1 h19).2.1 h17).2.1 h15).2.1 h13).2.1 h11).1 (by decide) (fun h9 => (x_ildn c17_152 rfl (x_ci c17_153 (x_cgt c17_155 (((((((H.2.2 h22).2.1 h19).2.1 h17).2.1 h15).2.1 h13).2.1 h11).2.1 h9).1 (by decide) (fun h7 => (x_aldn c17_166 rfl (x_gfr c17_167 k_0_16 (x_gfi c17_170 k_125_1 (x_zne c17_173 ((((((((H.2.2 h22).2.1 h19).2.1 h17).2.1 h15).2.1 h13).2.1 h11).2.1 h9).2.1 h7).1 (fun h5 => (x_aldn c17_188 rfl (x_ildn c17_189 rfl (wp_wk (l' := [none, none, none]) trivial (x_cv (As := [jI v2]) (st := []) c17_190 cl_0 kl190 rfl (Nat.le_of_ble_eq_true rfl) mx190 (Nat.le_refl _) (((((((((H.2.2 h22).2.1 h19).2.1 h17).2.1 h15).2.1 h13).2.1 h11).2.1 h9).2.1 h7).2.1 h5)))))) (fun h6 => (x_ildn c17_176 rfl (x_ci c17_177 (x_ceq c17_179 (((((((((H.2.2 h22).2.1 h19).2.1 h17).2.1 h15).2.1 h13).2.1 h11).2.1 h9).2.1 h7).2.2 h6).1 (by decide) (fun h3 => (x_aldn c17_188 rfl (x_ildn c17_189 rfl (wp_wk (l' := [none, none, none]) trivial (x_cv (As := [jI v2]) (st := []) c17_190 cl_0 kl190 rfl (Nat.le_of_ble_eq_true rfl) mx190 (Nat.le_refl _) ((((((((((H.2.2 h22).2.1 h19).2.1 h17).2.1 h15).2.1 h13).2.1 h11).2.1 h9).2.1 h7).2.2 h6).2.1 h3)))))) (fun h4 => (x_ildn c17_182 rfl (x_ci c17_183 (x_cne c17_185 ((((((((((H.2.2 h22).2.1 h19).2.1 h17).2.1 h15).2.1 h13).2.1 h11).2.1 h9).2.1 h7).2.2 h6).2.2 h4).1 (by decide) (fun h1 => (x_aldn c17_196 rfl (x_gfr c17_197 k_0_3 (x_cr c17_200 (wp_wk (l' := [none, none, none]) trivial (x_cv (As := [jR 1000147]) (st := []) c17_202 cl_3 kl64 rfl (Nat.le_of_ble_eq_true rfl) mx64 (Nat.le_refl _) (((((((((((H.2.2 h22).2.1 h19).2.1 h17).2.1 h15).2.1 h13).2.1 h11).2.1 h9).2.1 h7).2.2 h6).2.2 h4).2.1 h1))))))) (fun h2 => (x_aldn c17_188 rfl (x_ildn c17_189 rfl (wp_wk (l' := [none, none, none]) trivial (x_cv (As := [jI v2]) (st := []) c17_190 cl_0 kl190 rfl (Nat.le_of_ble_eq_true rfl) mx190 (Nat.le_refl _) (((((((((((H.2.2 h22).2.1 h19).2.1 h17).2.1 h15).2.1 h13).2.1 h11).2.1 h9).2.1 h7).2.2 h6).2.2 h4).2.2 h2))))))))))))))))))) (fun h8 => (x_aldn c17_158 rfl (x_ildn c17_159 rfl (wp_wk (l' := [none, none, none]) trivial (x_cv (As := [jI v2]) (st := []) c17_160 cl_0 kl176 rfl (Nat.le_of_ble_eq_true rfl) mx176 (Nat.le_refl _) ((((((((H.2.2 h22).2.1 h19).2.1 h17).2.1 h15).2.1 h13).2.1 h11).2.1 h9).2.2 h8)))))))))) (fun h10 => (x_aldn c17_144 rfl (x_ildn c17_145 rfl (wp_wk (l' := [none, none, none]) trivial (x_cv (As := [jI v2]) (st := []) c17_146 cl_0 kl167 rfl (Nat.le_of_ble_eq_true rfl) mx167 (Nat.le_refl _) (((((((H.2.2 h22).2.1 h19).2.1 h17).2.1 h15).2.1 h13).2.1 h11).2.2 h10)))))))))) (fun h12 => (x_aldn c17_130 rfl (x_ildn c17_131 rfl (wp_wk (l' := [none, none, none]) trivial (x_cv (As := [jI v2]) (st := []) c17_132 cl_0 kl145 rfl (Nat.le_of_ble_eq_true rfl) mx145 (Nat.le_refl _) ((((((H.2.2 h22).2.1 h19).2.1 h17).2.1 h15).2.1 h13).2.2 h12)))))))))) (fun h14 => (x_aldn c17_116 rfl (x_ildn c17_117 rfl (wp_wk (l' := [none, none, none]) trivial (x_cv (As := [jI v2]) (st := []) c17_118 cl_0 kl103 rfl (Nat.le_of_ble_eq_true rfl) mx103 (Nat.le_refl _) (((((H.2.2 h22).2.1 h19).2.1 h17).2.1 h15).2.2 h14)))))))))) (fun h16 => (x_aldn c17_102 rfl (x_ildn c17_103 rfl (wp_wk (l' := [none, none, none]) trivial (x_cv (As := [jI v2]) (st := []) c17_104 cl_0 kl74 rfl (Nat.le_of_ble_eq_true rfl) mx74 (Nat.le_refl _) ((((H.2.2 h22).2.1 h19).2.1 h17).2.2 h16)))))))))) (fun h18 => (x_aldn c17_88 rfl (x_ildn c17_89 rfl (wp_wk (l' := [none, none, none]) trivial (x_cv (As := [jI v2]) (st := []) c17_90 cl_0 kl66 rfl (Nat.le_of_ble_eq_true rfl) mx66 (Nat.le_refl _) (((H.2.2 h22).2.1 h19).2.2 h18)))))))))) (fun h20 => (x_aldn c17_56 rfl (x_gfr c17_57 k_0_3 (x_cr c17_60 (wp_wk (l' := [some (jR 0), none, none]) ⟨rfl, trivial⟩ (x_cv (As := [jR 1000031]) (st := []) c17_62 cl_3 kl64 rfl (Nat.le_of_ble_eq_true rfl) mx64 (Nat.le_refl _) ((H.2.2 h22).2.2 h20)))))))))))))))))
theorem s17_65 {kc : List va_E} {d : Nat} {M : fx_M} {Q : Option fx_V → fx_M → Prop} (H : wc kc d 65 [jR 3, jI (M 7 1)] M (fun v M1 => wp kc (d + 1) 17 79 [none, none, none] (v.toList ++ []) M1 Q)) : wp kc (d + 1) 17 65 [some (jR 0), none, none] [] M Q :=
  (x_aldn c17_65 rfl (x_gfr c17_66 k_0_3 (x_aldn c17_69 rfl (x_gfr c17_70 k_0_5 (x_gfi c17_73 k_7_1 (wp_wk (l' := [none, none, none]) trivial (x_cv (As := [jI (M 7 1)]) (st := []) c17_76 cl_3 kl65 rfl (Nat.le_of_ble_eq_true rfl) mx65 (Nat.le_refl _) H)))))))
theorem s17_79 {kc : List va_E} {d : Nat} {M : fx_M} {Q : Option fx_V → fx_M → Prop} (H : Q none M) : wp kc (d + 1) 17 79 [none, none, none] [] M Q :=
  (x_goto c17_79 (x_vr c17_205 r17 H))
theorem s17_93 {kc : List va_E} {d : Nat} {M : fx_M} {Q : Option fx_V → fx_M → Prop} (H : Q none M) : wp kc (d + 1) 17 93 [none, none, none] [] M Q :=
  (x_goto c17_93 (x_vr c17_205 r17 H))
theorem s17_107 {kc : List va_E} {d : Nat} {M : fx_M} {Q : Option fx_V → fx_M → Prop} (H : Q none M) : wp kc (d + 1) 17 107 [none, none, none] [] M Q :=
  (x_goto c17_107 (x_vr c17_205 r17 H))
theorem s17_121 {kc : List va_E} {d : Nat} {M : fx_M} {Q : Option fx_V → fx_M → Prop} (H : Q none M) : wp kc (d + 1) 17 121 [none, none, none] [] M Q :=
  (x_goto c17_121 (x_vr c17_205 r17 H))
theorem s17_135 {kc : List va_E} {d : Nat} {M : fx_M} {Q : Option fx_V → fx_M → Prop} (H : Q none M) : wp kc (d + 1) 17 135 [none, none, none] [] M Q :=
  (x_goto c17_135 (x_vr c17_205 r17 H))
theorem s17_149 {kc : List va_E} {d : Nat} {M : fx_M} {Q : Option fx_V → fx_M → Prop} (H : Q none M) : wp kc (d + 1) 17 149 [none, none, none] [] M Q :=
  (x_goto c17_149 (x_vr c17_205 r17 H))
theorem s17_163 {kc : List va_E} {d : Nat} {M : fx_M} {Q : Option fx_V → fx_M → Prop} (H : Q none M) : wp kc (d + 1) 17 163 [none, none, none] [] M Q :=
  (x_goto c17_163 (x_vr c17_205 r17 H))
theorem s17_193 {kc : List va_E} {d : Nat} {M : fx_M} {Q : Option fx_V → fx_M → Prop} (H : Q none M) : wp kc (d + 1) 17 193 [none, none, none] [] M Q :=
  (x_goto c17_193 (x_vr c17_205 r17 H))
theorem s17_205 {kc : List va_E} {d : Nat} {M : fx_M} {Q : Option fx_V → fx_M → Prop} (H : Q none M) : wp kc (d + 1) 17 205 [none, none, none] [] M Q :=
  (x_vr c17_205 r17 H)
theorem s17 {kc : List va_E} {d : Nat} {x1 : Int} {M : fx_M} {Q : Option fx_V → fx_M → Prop} (H : wc kc d 18 [jR 7, jR 2, jI 0, jI x1] M (fun v M1 => wp kc (d + 1) 17 13 [some (jR 0), some (jI x1), none] (v.toList ++ []) M1 Q)) : wc kc (d + 1) 17 [jR 0, jI x1] M Q :=
  wc_of (wp_wk (l' := [some (jR 0), some (jI x1), none]) ⟨rfl, ⟨rfl, trivial⟩⟩ (s17_0 H))

/- PuzzleHouse.readArguments(I)V -/
theorem c32_0 : fx_op 32 0 = some (.iload_n 1, 1, 0) := by decide +kernel
theorem c32_180 : fx_op 32 180 = some (.aload_n 0, 181, 180) := by decide +kernel
theorem c32_181 : fx_gf 32 181 = some (0, 5, 184) := by decide +kernel
theorem c32_184 : fx_ci 32 184 = some (0, 185) := by decide +kernel
theorem c32_346 : fx_op 32 346 = some (.aload_n 0, 347, 346) := by decide +kernel
theorem c32_347 : fx_op 32 347 = some (.iload_n 1, 348, 347) := by decide +kernel
theorem c32_207 : fx_op 32 207 = some (.aload_n 0, 208, 207) := by decide +kernel
theorem c32_208 : fx_gf 32 208 = some (0, 5, 211) := by decide +kernel
theorem c32_211 : fx_ci 32 211 = some (0, 212) := by decide +kernel
theorem c32_212 : fx_ci 32 212 = some (3, 213) := by decide +kernel
theorem c32_247 : fx_op 32 247 = some (.aload_n 0, 248, 247) := by decide +kernel
theorem c32_248 : fx_gf 32 248 = some (0, 5, 251) := by decide +kernel
theorem c32_251 : fx_ci 32 251 = some (0, 252) := by decide +kernel
theorem c32_252 : fx_ci 32 252 = some (3, 253) := by decide +kernel
theorem c32_259 : fx_op 32 259 = some (.aload_n 0, 260, 259) := by decide +kernel
theorem c32_260 : fx_gf 32 260 = some (0, 5, 263) := by decide +kernel
theorem c32_263 : fx_ci 32 263 = some (0, 264) := by decide +kernel
theorem c32_264 : fx_ci 32 264 = some (6, 266) := by decide +kernel
theorem c32_227 : fx_op 32 227 = some (.aload_n 0, 228, 227) := by decide +kernel
theorem c32_228 : fx_gf 32 228 = some (0, 5, 231) := by decide +kernel
theorem c32_231 : fx_ci 32 231 = some (0, 232) := by decide +kernel
theorem c32_232 : fx_ci 32 232 = some (3, 233) := by decide +kernel
theorem c32_272 : fx_op 32 272 = some (.aload_n 0, 273, 272) := by decide +kernel
theorem c32_273 : fx_gf 32 273 = some (0, 5, 276) := by decide +kernel
theorem c32_276 : fx_ci 32 276 = some (0, 277) := by decide +kernel
theorem c32_293 : fx_op 32 293 = some (.aload_n 0, 294, 293) := by decide +kernel
theorem c32_294 : fx_gf 32 294 = some (0, 5, 297) := by decide +kernel
theorem c32_312 : fx_op 32 312 = some (.aload_n 0, 313, 312) := by decide +kernel
theorem c32_313 : fx_gf 32 313 = some (0, 5, 316) := by decide +kernel
theorem c32_316 : fx_ci 32 316 = some (0, 317) := by decide +kernel
theorem c32_283 : fx_op 32 283 = some (.aload_n 0, 284, 283) := by decide +kernel
theorem c32_284 : fx_gf 32 284 = some (0, 5, 287) := by decide +kernel
theorem c32_185 : fx_ca 32 185 = some (33, 2, 2, 188) := by decide +kernel
theorem c32_348 : fx_ca 32 348 = some (44, 2, 2, 351) := by decide +kernel
theorem c32_213 : fx_ca 32 213 = some (36, 3, 2, 216) := by decide +kernel
theorem c32_253 : fx_ca 32 253 = some (36, 3, 2, 256) := by decide +kernel
theorem c32_266 : fx_ca 32 266 = some (36, 3, 2, 269) := by decide +kernel
theorem c32_233 : fx_ca 32 233 = some (36, 3, 2, 236) := by decide +kernel
theorem c32_277 : fx_ca 32 277 = some (33, 2, 2, 280) := by decide +kernel
theorem c32_297 : fx_ca 32 297 = some (39, 1, 2, 300) := by decide +kernel
theorem c32_317 : fx_ca 32 317 = some (33, 2, 2, 320) := by decide +kernel
theorem c32_287 : fx_ca 32 287 = some (39, 1, 2, 290) := by decide +kernel
theorem c32_1 : fx_ts 32 1 = some (0, [180, 346, 346, 207, 346, 346, 346, 247, 346, 259, 346, 346, 227, 346, 346, 346, 346, 346, 346, 346, 346, 346, 247, 247, 346, 272, 207, 346, 247, 346, 227, 247, 346, 293, 312, 346, 283, 283, 283, 346, 247], 346) := by decide +kernel
theorem c32_188 : fx_op 32 188 = some (.aload_n 0, 189, 188) := by decide +kernel
theorem c32_189 : fx_gf 32 189 = some (0, 5, 192) := by decide +kernel
theorem c32_192 : fx_ci 32 192 = some (1, 193) := by decide +kernel
theorem c32_193 : fx_ca 32 193 = some (33, 2, 2, 196) := by decide +kernel
theorem c32_351 : fx_op 32 351 = some (.return_, 352, 351) := by decide +kernel
theorem c32_216 : fx_op 32 216 = some (.aload_n 0, 217, 216) := by decide +kernel
theorem c32_217 : fx_gf 32 217 = some (0, 5, 220) := by decide +kernel
theorem c32_220 : fx_ci 32 220 = some (1, 221) := by decide +kernel
theorem c32_221 : fx_ca 32 221 = some (37, 2, 2, 224) := by decide +kernel
theorem c32_256 : fx_op 32 256 = some (.goto 95, 259, 351) := by decide +kernel
theorem c32_269 : fx_op 32 269 = some (.goto 82, 272, 351) := by decide +kernel
theorem c32_236 : fx_op 32 236 = some (.aload_n 0, 237, 236) := by decide +kernel
theorem c32_237 : fx_gf 32 237 = some (0, 5, 240) := by decide +kernel
theorem c32_240 : fx_ci 32 240 = some (1, 241) := by decide +kernel
theorem c32_241 : fx_ca 32 241 = some (33, 2, 2, 244) := by decide +kernel
theorem c32_280 : fx_op 32 280 = some (.goto 71, 283, 351) := by decide +kernel
theorem c32_300 : fx_op 32 300 = some (.aload_n 0, 301, 300) := by decide +kernel
theorem c32_301 : fx_gf 32 301 = some (0, 5, 304) := by decide +kernel
theorem c32_304 : fx_ci 32 304 = some (0, 305) := by decide +kernel
theorem c32_305 : fx_ci 32 305 = some (3, 306) := by decide +kernel
theorem c32_306 : fx_ca 32 306 = some (36, 3, 2, 309) := by decide +kernel
theorem c32_320 : fx_op 32 320 = some (.aload_n 0, 321, 320) := by decide +kernel
theorem c32_321 : fx_gf 32 321 = some (0, 5, 324) := by decide +kernel
theorem c32_324 : fx_ca 32 324 = some (39, 1, 2, 327) := by decide +kernel
theorem c32_290 : fx_op 32 290 = some (.goto 61, 293, 351) := by decide +kernel
theorem c32_196 : fx_op 32 196 = some (.aload_n 0, 197, 196) := by decide +kernel
theorem c32_197 : fx_gf 32 197 = some (0, 5, 200) := by decide +kernel
theorem c32_200 : fx_ci 32 200 = some (2, 201) := by decide +kernel
theorem c32_201 : fx_ca 32 201 = some (33, 2, 2, 204) := by decide +kernel
theorem c32_224 : fx_op 32 224 = some (.goto 127, 227, 351) := by decide +kernel
theorem c32_244 : fx_op 32 244 = some (.goto 107, 247, 351) := by decide +kernel
theorem c32_309 : fx_op 32 309 = some (.goto 42, 312, 351) := by decide +kernel
theorem c32_327 : fx_op 32 327 = some (.aload_n 0, 328, 327) := by decide +kernel
theorem c32_328 : fx_gf 32 328 = some (0, 5, 331) := by decide +kernel
theorem c32_331 : fx_ci 32 331 = some (1, 332) := by decide +kernel
theorem c32_332 : fx_ci 32 332 = some (3, 333) := by decide +kernel
theorem c32_333 : fx_ca 32 333 = some (36, 3, 2, 336) := by decide +kernel
theorem c32_204 : fx_op 32 204 = some (.goto 147, 207, 351) := by decide +kernel
theorem c32_336 : fx_op 32 336 = some (.aload_n 0, 337, 336) := by decide +kernel
theorem c32_337 : fx_gf 32 337 = some (0, 5, 340) := by decide +kernel
theorem c32_340 : fx_ca 32 340 = some (42, 1, 2, 343) := by decide +kernel
theorem c32_343 : fx_op 32 343 = some (.goto 8, 346, 351) := by decide +kernel
theorem s32_0 {kc : List va_E} {d : Nat} {x1 : Int} {M : fx_M} {Q : Option fx_V → fx_M → Prop} (H : fx_in32 x1 ∧ (x1 = 0 → wc kc d 33 [jR 7, jI 0] M (fun v M1 => wp kc (d + 1) 32 188 [some (jR 0), none] (v.toList ++ []) M1 Q)) ∧ (x1 = 1 → wc kc d 44 [jR 0, jI x1] M (fun v M1 => wp kc (d + 1) 32 351 [none, none] (v.toList ++ []) M1 Q)) ∧ (x1 = 2 → wc kc d 44 [jR 0, jI x1] M (fun v M1 => wp kc (d + 1) 32 351 [none, none] (v.toList ++ []) M1 Q)) ∧ (x1 = 3 → wc kc d 36 [jR 7, jI 0, jI 3] M (fun v M1 => wp kc (d + 1) 32 216 [some (jR 0), none] (v.toList ++ []) M1 Q)) ∧ (x1 = 4 → wc kc d 44 [jR 0, jI x1] M (fun v M1 => wp kc (d + 1) 32 351 [none, none] (v.toList ++ []) M1 Q)) ∧ (x1 = 5 → wc kc d 44 [jR 0, jI x1] M (fun v M1 => wp kc (d + 1) 32 351 [none, none] (v.toList ++ []) M1 Q)) ∧ (x1 = 6 → wc kc d 44 [jR 0, jI x1] M (fun v M1 => wp kc (d + 1) 32 351 [none, none] (v.toList ++ []) M1 Q)) ∧ (x1 = 7 → wc kc d 36 [jR 7, jI 0, jI 3] M (fun v M1 => wp kc (d + 1) 32 256 [none, none] (v.toList ++ []) M1 Q)) ∧ (x1 = 8 → wc kc d 44 [jR 0, jI x1] M (fun v M1 => wp kc (d + 1) 32 351 [none, none] (v.toList ++ []) M1 Q)) ∧ (x1 = 9 → wc kc d 36 [jR 7, jI 0, jI 6] M (fun v M1 => wp kc (d + 1) 32 269 [none, none] (v.toList ++ []) M1 Q)) ∧ (x1 = 10 → wc kc d 44 [jR 0, jI x1] M (fun v M1 => wp kc (d + 1) 32 351 [none, none] (v.toList ++ []) M1 Q)) ∧ (x1 = 11 → wc kc d 44 [jR 0, jI x1] M (fun v M1 => wp kc (d + 1) 32 351 [none, none] (v.toList ++ []) M1 Q)) ∧ (x1 = 12 → wc kc d 36 [jR 7, jI 0, jI 3] M (fun v M1 => wp kc (d + 1) 32 236 [some (jR 0), none] (v.toList ++ []) M1 Q)) ∧ (x1 = 13 → wc kc d 44 [jR 0, jI x1] M (fun v M1 => wp kc (d + 1) 32 351 [none, none] (v.toList ++ []) M1 Q)) ∧ (x1 = 14 → wc kc d 44 [jR 0, jI x1] M (fun v M1 => wp kc (d + 1) 32 351 [none, none] (v.toList ++ []) M1 Q)) ∧ (x1 = 15 → wc kc d 44 [jR 0, jI x1] M (fun v M1 => wp kc (d + 1) 32 351 [none, none] (v.toList ++ []) M1 Q)) ∧ (x1 = 16 → wc kc d 44 [jR 0, jI x1] M (fun v M1 => wp kc (d + 1) 32 351 [none, none] (v.toList ++ []) M1 Q)) ∧ (x1 = 17 → wc kc d 44 [jR 0, jI x1] M (fun v M1 => wp kc (d + 1) 32 351 [none, none] (v.toList ++ []) M1 Q)) ∧ (x1 = 18 → wc kc d 44 [jR 0, jI x1] M (fun v M1 => wp kc (d + 1) 32 351 [none, none] (v.toList ++ []) M1 Q)) ∧ (x1 = 19 → wc kc d 44 [jR 0, jI x1] M (fun v M1 => wp kc (d + 1) 32 351 [none, none] (v.toList ++ []) M1 Q)) ∧ (x1 = 20 → wc kc d 44 [jR 0, jI x1] M (fun v M1 => wp kc (d + 1) 32 351 [none, none] (v.toList ++ []) M1 Q)) ∧ (x1 = 21 → wc kc d 44 [jR 0, jI x1] M (fun v M1 => wp kc (d + 1) 32 351 [none, none] (v.toList ++ []) M1 Q)) ∧ (x1 = 22 → wc kc d 36 [jR 7, jI 0, jI 3] M (fun v M1 => wp kc (d + 1) 32 256 [none, none] (v.toList ++ []) M1 Q)) ∧ (x1 = 23 → wc kc d 36 [jR 7, jI 0, jI 3] M (fun v M1 => wp kc (d + 1) 32 256 [none, none] (v.toList ++ []) M1 Q)) ∧ (x1 = 24 → wc kc d 44 [jR 0, jI x1] M (fun v M1 => wp kc (d + 1) 32 351 [none, none] (v.toList ++ []) M1 Q)) ∧ (x1 = 25 → wc kc d 33 [jR 7, jI 0] M (fun v M1 => wp kc (d + 1) 32 280 [none, none] (v.toList ++ []) M1 Q)) ∧ (x1 = 26 → wc kc d 36 [jR 7, jI 0, jI 3] M (fun v M1 => wp kc (d + 1) 32 216 [some (jR 0), none] (v.toList ++ []) M1 Q)) ∧ (x1 = 27 → wc kc d 44 [jR 0, jI x1] M (fun v M1 => wp kc (d + 1) 32 351 [none, none] (v.toList ++ []) M1 Q)) ∧ (x1 = 28 → wc kc d 36 [jR 7, jI 0, jI 3] M (fun v M1 => wp kc (d + 1) 32 256 [none, none] (v.toList ++ []) M1 Q)) ∧ (x1 = 29 → wc kc d 44 [jR 0, jI x1] M (fun v M1 => wp kc (d + 1) 32 351 [none, none] (v.toList ++ []) M1 Q)) ∧ (x1 = 30 → wc kc d 36 [jR 7, jI 0, jI 3] M (fun v M1 => wp kc (d + 1) 32 236 [some (jR 0), none] (v.toList ++ []) M1 Q)) ∧ (x1 = 31 → wc kc d 36 [jR 7, jI 0, jI 3] M (fun v M1 => wp kc (d + 1) 32 256 [none, none] (v.toList ++ []) M1 Q)) ∧ (x1 = 32 → wc kc d 44 [jR 0, jI x1] M (fun v M1 => wp kc (d + 1) 32 351 [none, none] (v.toList ++ []) M1 Q)) ∧ (x1 = 33 → wc kc d 39 [jR 7] M (fun v M1 => wp kc (d + 1) 32 300 [some (jR 0), none] (v.toList ++ []) M1 Q)) ∧ (x1 = 34 → wc kc d 33 [jR 7, jI 0] M (fun v M1 => wp kc (d + 1) 32 320 [some (jR 0), none] (v.toList ++ []) M1 Q)) ∧ (x1 = 35 → wc kc d 44 [jR 0, jI x1] M (fun v M1 => wp kc (d + 1) 32 351 [none, none] (v.toList ++ []) M1 Q)) ∧ (x1 = 36 → wc kc d 39 [jR 7] M (fun v M1 => wp kc (d + 1) 32 290 [none, none] (v.toList ++ []) M1 Q)) ∧ (x1 = 37 → wc kc d 39 [jR 7] M (fun v M1 => wp kc (d + 1) 32 290 [none, none] (v.toList ++ []) M1 Q)) ∧ (x1 = 38 → wc kc d 39 [jR 7] M (fun v M1 => wp kc (d + 1) 32 290 [none, none] (v.toList ++ []) M1 Q)) ∧ (x1 = 39 → wc kc d 44 [jR 0, jI x1] M (fun v M1 => wp kc (d + 1) 32 351 [none, none] (v.toList ++ []) M1 Q)) ∧ (x1 = 40 → wc kc d 36 [jR 7, jI 0, jI 3] M (fun v M1 => wp kc (d + 1) 32 256 [none, none] (v.toList ++ []) M1 Q)) ∧ ((x1 < 0 ∨ 41 ≤ x1) → wc kc d 44 [jR 0, jI x1] M (fun v M1 => wp kc (d + 1) 32 351 [none, none] (v.toList ++ []) M1 Q))) : wp kc (d + 1) 32 0 [some (jR 0), some (jI x1)] [] M Q :=
  (x_ildn c32_0 rfl (x_sw c32_1 H.1 ⟨fun h1 => (x_aldn c32_180 rfl (x_gfr c32_181 k_0_5 (x_ci c32_184 (wp_wk (l' := [some (jR 0), none]) ⟨rfl, trivial⟩ (x_cv (As := [jI 0]) (st := []) c32_185 cl_7 kl33 rfl (Nat.le_of_ble_eq_true rfl) mx33 (Nat.le_refl _) (H.2.1 h1)))))), ⟨fun h2 => (x_aldn c32_346 rfl (x_ildn c32_347 rfl (wp_wk (l' := [none, none]) trivial (x_cv (As := [jI x1]) (st := []) c32_348 cl_0 kl44 rfl (Nat.le_of_ble_eq_true rfl) mx44 (Nat.le_refl _) (H.2.2.1 h2))))), ⟨fun h3 => (x_aldn c32_346 rfl (x_ildn c32_347 rfl (wp_wk (l' := [none, none]) trivial (x_cv (As := [jI x1]) (st := []) c32_348 cl_0 kl44 rfl (Nat.le_of_ble_eq_true rfl) mx44 (Nat.le_refl _) (H.2.2.2.1 h3))))), ⟨fun h4 => (x_aldn c32_207 rfl (x_gfr c32_208 k_0_5 (x_ci c32_211 (x_ci c32_212 (wp_wk (l' := [some (jR 0), none]) ⟨rfl, trivial⟩ (x_cv (As := [jI 0, jI 3]) (st := []) c32_213 cl_7 kl36 rfl (Nat.le_of_ble_eq_true rfl) mx36 (Nat.le_refl _) (H.2.2.2.2.1 h4))))))), ⟨fun h5 => (x_aldn c32_346 rfl (x_ildn c32_347 rfl (wp_wk (l' := [none, none]) trivial (x_cv (As := [jI x1]) (st := []) c32_348 cl_0 kl44 rfl (Nat.le_of_ble_eq_true rfl) mx44 (Nat.le_refl _) (H.2.2.2.2.2.1 h5))))), ⟨fun h6 => (x_aldn c32_346 rfl (x_ildn c32_347 rfl (wp_wk (l' := [none, none]) trivial (x_cv (As := [jI x1]) (st := []) c32_348 cl_0 kl44 rfl (Nat.le_of_ble_eq_true rfl) mx44 (Nat.le_refl _) (H.2.2.2.2.2.2.1 h6))))), ⟨fun h7 => (x_aldn c32_346 rfl (x_ildn c32_347 rfl (wp_wk (l' := [none, none]) trivial (x_cv (As := [jI x1]) (st := []) c32_348 cl_0 kl44 rfl (Nat.le_of_ble_eq_true rfl) mx44 (Nat.le_refl _) (H.2.2.2.2.2.2.2.1 h7))))), ⟨fun h8 => (x_aldn c32_247 rfl (x_gfr c32_248 k_0_5 (x_ci c32_251 (x_ci c32_252 (wp_wk (l' := [none, none]) trivial (x_cv (As := [jI 0, jI 3]) (st := []) c32_253 cl_7 kl36 rfl (Nat.le_of_ble_eq_true rfl) mx36 (Nat.le_refl _) (H.2.2.2.2.2.2.2.2.1 h8))))))), ⟨fun h9 => (x_aldn c32_346 rfl (x_ildn c32_347 rfl (wp_wk (l' := [none, none]) trivial (x_cv (As := [jI x1]) (st := []) c32_348 cl_0 kl44 rfl (Nat.le_of_ble_eq_true rfl) mx44 (Nat.le_refl _) (H.2.2.2.2.2.2.2.2.2.1 h9))))), ⟨fun h10 => (x_aldn c32_259 rfl (x_gfr c32_260 k_0_5 (x_ci c32_263 (x_ci c32_264 (wp_wk (l' := [none, none]) trivial (x_cv (As := [jI 0, jI 6]) (st := []) c32_266 cl_7 kl36 rfl (Nat.le_of_ble_eq_true rfl) mx36 (Nat.le_refl _) (H.2.2.2.2.2.2.2.2.2.2.1 h10))))))), ⟨fun h11 => (x_aldn c32_346 rfl (x_ildn c32_347 rfl (wp_wk (l' := [none, none]) trivial (x_cv (As := [jI x1]) (st := []) c32_348 cl_0 kl44 rfl (Nat.le_of_ble_eq_true rfl) mx44 (Nat.le_refl _) (H.2.2.2.2.2.2.2.2.2.2.2.1 h11))))), ⟨fun h12 => (x_aldn c32_346 rfl (x_ildn c32_347 rfl (wp_wk (l' := [none, none]) trivial (x_cv (As := [jI x1]) (st := []) c32_348 cl_0 kl44 rfl (Nat.le_of_ble_eq_true rfl) mx44 (Nat.le_refl _) (H.2.2.2.2.2.2.2.2.2.2.2.2.1 h12))))), ⟨fun h13 => (x_aldn c32_227 rfl (x_gfr c32_228 k_0_5 (x_ci c32_231 (x_ci c32_232 (wp_wk (l' := [some (jR 0), none]) ⟨rfl, trivial⟩ (x_cv (As := [jI 0, jI 3]) (st := []) c32_233 cl_7 kl36 rfl (Nat.le_of_ble_eq_true rfl) mx36 (Nat.le_refl _) (H.2.2.2.2.2.2.2.2.2.2.2.2.2.1 h13))))))), ⟨fun h14 => (x_aldn c32_346 rfl (x_ildn c32_347 rfl (wp_wk (l' := [none, none]) trivial (x_cv (As := [jI x1]) (st := []) c32_348 cl_0 kl44 rfl (Nat.le_of_ble_eq_true rfl) mx44 (Nat.le_refl _) (H.2.2.2.2.2.2.2.2.2.2.2.2.2.2.1 h14))))), ⟨fun h15 => (x_aldn c32_346 rfl (x_ildn c32_347 rfl (wp_wk (l' := [none, none]) trivial (x_cv (As := [jI x1]) (st := []) c32_348 cl_0 kl44 rfl (Nat.le_of_ble_eq_true rfl) mx44 (Nat.le_refl _) (H.2.2.2.2.2.2.2.2.2.2.2.2.2.2.2.1 h15))))), ⟨fun h16 => (x_aldn c32_346 rfl (x_ildn c32_347 rfl (wp_wk (l' := [none, none]) trivial (x_cv (As := [jI x1]) (st := []) c32_348 cl_0 kl44 rfl (Nat.le_of_ble_eq_true rfl) mx44 (Nat.le_refl _) (H.2.2.2.2.2.2.2.2.2.2.2.2.2.2.2.2.1 h16))))), ⟨fun h17 => (x_aldn c32_346 rfl (x_ildn c32_347 rfl (wp_wk (l' := [none, none]) trivial (x_cv (As := [jI x1]) (st := []) c32_348 cl_0 kl44 rfl (Nat.le_of_ble_eq_true rfl) mx44 (Nat.le_refl _) (H.2.2.2.2.2.2.2.2.2.2.2.2.2.2.2.2.2.1 h17))))), ⟨fun h18 => (x_aldn c32_346 rfl (x_ildn c32_347 rfl (wp_wk (l' := [none, none]) trivial (x_cv (As := [jI x1]) (st := []) c32_348 cl_0 kl44 rfl (Nat.le_of_ble_eq_true rfl) mx44 (Nat.le_refl _) (H.2.2.2.2.2.2.2.2.2.2.2.2.2.2.2.2.2.2.1 h18))))), ⟨fun h19 => (x_aldn c32_346 rfl (x_ildn c32_347 rfl (wp_wk (l' := [none, none]) trivial (x_cv (As := [jI x1]) (st := []) c32_348 cl_0 kl44 rfl (Nat.le_of_ble_eq_true rfl) mx44 (Nat.le_refl _) (H.2.2.2.2.2.2.2.2.2.2.2.2.2.2.2.2.2.2.2.1 h19))))), ⟨fun h20 => (x_aldn c32_346 rfl (x_ildn c32_347 rfl (wp_wk (l' := [none, none]) trivial (x_cv (As := [jI x1]) (st := []) c32_348 cl_0 kl44 rfl (Nat.le_of_ble_eq_true rfl) mx44 (Nat.le_refl _) (H.2.2.2.2.2.2.2.2.2.2.2.2.2.2.2.2.2.2.2.2.1 h20))))), ⟨fun h21 => (x_aldn c32_346 rfl (x_ildn c32_347 rfl (wp_wk (l' := [none, none]) trivial (x_cv (As := [jI x1]) (st := []) c32_348 cl_0 kl44 rfl (Nat.le_of_ble_eq_true rfl) mx44 (Nat.le_refl _) (H.2.2.2.2.2.2.2.2.2.2.2.2.2.2.2.2.2.2.2.2.2.1 h21))))), ⟨fun h22 => (x_aldn c32_346 rfl (x_ildn c32_347 rfl (wp_wk (l' := [none, none]) trivial (x_cv (As := [jI x1]) (st := []) c32_348 cl_0 kl44 rfl (Nat.le_of_ble_eq_true rfl) mx44 (Nat.le_refl _) (H.2.2.2.2.2.2.2.2.2.2.2.2.2.2.2.2.2.2.2.2.2.2.1 h22))))), ⟨fun h23 => (x_aldn c32_247 rfl (x_gfr c32_248 k_0_5 (x_ci c32_251 (x_ci c32_252 (wp_wk (l' := [none, none]) trivial (x_cv (As := [jI 0, jI 3]) (st := []) c32_253 cl_7 kl36 rfl (Nat.le_of_ble_eq_true rfl) mx36 (Nat.le_refl _) (H.2.2.2.2.2.2.2.2.2.2.2.2.2.2.2.2.2.2.2.2.2.2.2.1 h23))))))), ⟨fun h24 => (x_aldn c32_247 rfl (x_gfr c32_248 k_0_5 (x_ci c32_251 (x_ci c32_252 (wp_wk (l' := [none, none]) trivial (x_cv (As := [jI 0, jI 3]) (st := []) c32_253 cl_7 kl36 rfl (Nat.le_of_ble_eq_true rfl) mx36 (Nat.le_refl _) (H.2.2.2.2.2.2.2.2.2.2.2.2.2.2.2.2.2.2.2.2.2.2.2.2.1 h24))))))), ⟨fun h25 => (x_aldn c32_346 rfl (x_ildn c32_347 rfl (wp_wk (l' := [none, none]) trivial (x_cv (As := [jI x1]) (st := []) c32_348 cl_0 kl44 rfl (Nat.le_of_ble_eq_true rfl) mx44 (Nat.le_refl _) (H.2.2.2.2.2.2.2.2.2.2.2.2.2.2.2.2.2.2.2.2.2.2.2.2.2.1 h25))))), ⟨fun h26 => (x_aldn c32_272 rfl (x_gfr c32_273 k_0_5 (x_ci c32_276 (wp_wk (l' := [none, none]) trivial (x_cv (As := [jI 0]) (st := []) c32_277 cl_7 kl33 rfl (Nat.le_of_ble_eq_true rfl) mx33 (Nat.le_refl _) (H.2.2.2.2.2.2.2.2.2.2.2.2.2.2.2.2.2.2.2.2.2.2.2.2.2.2.1 h26)))))), ⟨fun h27 => (x_aldn c32_207 rfl (x_gfr c32_208 k_0_5 (x_ci c32_211 (x_ci c32_212 (wp_wk (l' := [some (jR 0), none]) ⟨rfl, trivial⟩ (x_cv (As := [jI 0, jI 3]) (st := []) c32_213 cl_7 kl36 rfl (Nat.le_of_ble_eq_true rfl) mx36 (Nat.le_refl _) (H.2.2.2.2.2.2.2.2.2.2.2.2.2.2.2.2.2.2.2.2.2.2.2.2.2.2.2.1 h27))))))), ⟨fun h28 => (x_aldn c32_346 rfl (x_ildn c32_347 rfl (wp_wk (l' := [none, none]) trivial (x_cv (As := [jI x1]) (st := []) c32_348 cl_0 kl44 rfl (Nat.le_of_ble_eq_true rfl) mx44 (Nat.le_refl _) (H.2.2.2.2.2.2.2.2.2.2.2.2.2.2.2.2.2.2.2.2.2.2.2.2.2.2.2.2.1 h28))))), ⟨fun h29 => (x_aldn c32_247 rfl (x_gfr c32_248 k_0_5 (x_ci c32_251 (x_ci c32_252 (wp_wk (l' := [none, none]) trivial (x_cv (As := [jI 0, jI 3]) (st := []) c32_253 cl_7 kl36 rfl (Nat.le_of_ble_eq_true rfl) mx36 (Nat.le_refl _) (H.2.2.2.2.2.2.2.2.2.2.2.2.2.2.2.2.2.2.2.2.2.2.2.2.2.2.2.2.2.1 h29))))))), ⟨fun h30 => (x_aldn c32_346 rfl (x_ildn c32_347 rfl (wp_wk (l' := [none, none]) trivial (x_cv (As := [jI x1]) (st := []) c32_348 cl_0 kl44 rfl (Nat.le_of_ble_eq_true rfl) mx44 (Nat.le_refl _) (H.2.2.2.2.2.2.2.2.2.2.2.2.2.2.2.2.2.2.2.2.2.2.2.2.2.2.2.2.2.2.1 h30))))), ⟨fun h31 => (x_aldn c32_227 rfl (x_gfr c32_228 k_0_5 (x_ci c32_231 (x_ci c32_232 (wp_wk (l' := [some (jR 0), none]) ⟨rfl, trivial⟩ (x_cv (As := [jI 0, jI 3]) (st := []) c32_233 cl_7 kl36 rfl (Nat.le_of_ble_eq_true rfl) mx36 (Nat.le_refl _) (H.2.2.2.2.2.2.2.2.2.2.2.2.2.2.2.2.2.2.2.2.2.2.2.2.2.2.2.2.2.2.2.1 h31))))))), ⟨fun h32 => (x_aldn c32_247 rfl (x_gfr c32_248 k_0_5 (x_ci c32_251 (x_ci c32_252 (wp_wk (l' := [none, none]) trivial (x_cv (As := [jI 0, jI 3]) (st := []) c32_253 cl_7 kl36 rfl (Nat.le_of_ble_eq_true rfl) mx36 (Nat.le_refl _) (H.2.2.2.2.2.2.2.2.2.2.2.2.2.2.2.2.2.2.2.2.2.2.2.2.2.2.2.2.2.2.2.2.1 h32))))))), ⟨fun h33 => (x_aldn c32_346 rfl (x_ildn c32_347 rfl (wp_wk (l' := [none, none]) trivial (x_cv (As := [jI x1]) (st := []) c32_348 cl_0 kl44 rfl (Nat.le_of_ble_eq_true rfl) mx44 (Nat.le_refl _) (H.2.2.2.2.2.2.2.2.2.2.2.2.2.2.2.2.2.2.2.2.2.2.2.2.2.2.2.2.2.2.2.2.2.1 h33))))), ⟨fun h34 => (x_aldn c32_293 rfl (x_gfr c32_294 k_0_5 (wp_wk (l' := [some (jR 0), none]) ⟨rfl, trivial⟩ (x_cv (As := []) (st := []) c32_297 cl_7 kl39 rfl (Nat.le_of_ble_eq_true rfl) mx39 (Nat.le_refl _) (H.2.2.2.2.2.2.2.2.2.2.2.2.2.2.2.2.2.2.2.2.2.2.2.2.2.2.2.2.2.2.2.2.2.2.1 h34))))), ⟨fun h35 => (x_aldn c32_312 rfl (x_gfr c32_313 k_0_5 (x_ci c32_316 (wp_wk (l' := [some (jR 0), none]) ⟨rfl, trivial⟩ (x_cv (As := [jI 0]) (st := []) c32_317 cl_7 kl33 rfl (Nat.le_of_ble_eq_true rfl) mx33 (Nat.le_refl _) (H.2.2.2.2.2.2.2.2.2.2.2.2.2.2.2.2.2.2.2.2.2.2.2.2.2.2.2.2.2.2.2.2.2.2.2.1 h35)))))), ⟨fun h36 => (x_aldn c32_346 rfl (x_ildn c32_347 rfl (wp_wk (l' := [none, none]) trivial (x_cv (As := [jI x1]) (st := []) c32_348 cl_0 kl44 rfl (Nat.le_of_ble_eq_true rfl) mx44 (Nat.le_refl _) (H.2.2.2.2.2.2.2.2.2.2.2.2.2.2.2.2.2.2.2.2.2.2.2.2.2.2.2.2.2.2.2.2.2.2.2.2.1 h36))))), ⟨fun h37 => (x_aldn c32_283 rfl (x_gfr c32_284 k_0_5 (wp_wk (l' := [none, none]) trivial (x_cv (As := []) (st := []) c32_287 cl_7 kl39 rfl (Nat.le_of_ble_eq_true rfl) mx39 (Nat.le_refl _) (H.2.2.2.2.2.2.2.2.2.2.2.2.2.2.2.2.2.2.2.2.2.2.2.2.2.2.2.2.2.2.2.2.2.2.2.2.2.1 h37))))), ⟨fun h38 => (x_aldn c32_283 rfl (x_gfr c32_284 k_0_5 (wp_wk (l' := [none, none]) trivial (x_cv (As := []) (st := []) c32_287 cl_7 kl39 rfl (Nat.le_of_ble_eq_true rfl) mx39 (Nat.le_refl _) (H.2.2.2.2.2.2.2.2.2.2.2.2.2.2.2.2.2.2.2.2.2.2.2.2.2.2.2.2.2.2.2.2.2.2.2.2.2.2.1 h38))))), ⟨fun h39 => (x_aldn c32_283 rfl (x_gfr c32_284 k_0_5 (wp_wk (l' := [none, none]) trivial (x_cv (As := []) (st := []) c32_287 cl_7 kl39 rfl (Nat.le_of_ble_eq_true rfl) mx39 (Nat.le_refl _) (H.2.2.2.2.2.2.2.2.2.2.2.2.2.2.2.2.2.2.2.2.2.2.2.2.2.2.2.2.2.2.2.2.2.2.2.2.2.2.2.1 h39))))), ⟨fun h40 => (x_aldn c32_346 rfl (x_ildn c32_347 rfl (wp_wk (l' := [none, none]) trivial (x_cv (As := [jI x1]) (st := []) c32_348 cl_0 kl44 rfl (Nat.le_of_ble_eq_true rfl) mx44 (Nat.le_refl _) (H.2.2.2.2.2.2.2.2.2.2.2.2.2.2.2.2.2.2.2.2.2.2.2.2.2.2.2.2.2.2.2.2.2.2.2.2.2.2.2.2.1 h40))))), ⟨fun h41 => (x_aldn c32_247 rfl (x_gfr c32_248 k_0_5 (x_ci c32_251 (x_ci c32_252 (wp_wk (l' := [none, none]) trivial (x_cv (As := [jI 0, jI 3]) (st := []) c32_253 cl_7 kl36 rfl (Nat.le_of_ble_eq_true rfl) mx36 (Nat.le_refl _) (H.2.2.2.2.2.2.2.2.2.2.2.2.2.2.2.2.2.2.2.2.2.2.2.2.2.2.2.2.2.2.2.2.2.2.2.2.2.2.2.2.2.1 h41))))))), trivial⟩⟩⟩⟩⟩⟩⟩⟩⟩⟩⟩⟩⟩⟩⟩⟩⟩⟩⟩⟩⟩⟩⟩⟩⟩⟩⟩⟩⟩⟩⟩⟩⟩⟩⟩⟩⟩⟩⟩⟩⟩ (fun h42 => (x_aldn c32_346 rfl (x_ildn c32_347 rfl (wp_wk (l' := [none, none]) trivial (x_cv (As := [jI x1]) (st := []) c32_348 cl_0 kl44 rfl (Nat.le_of_ble_eq_true rfl) mx44 (Nat.le_refl _) (H.2.2.2.2.2.2.2.2.2.2.2.2.2.2.2.2.2.2.2.2.2.2.2.2.2.2.2.2.2.2.2.2.2.2.2.2.2.2.2.2.2.2 h42))))))))
theorem s32_188 {kc : List va_E} {d : Nat} {M : fx_M} {Q : Option fx_V → fx_M → Prop} (H : wc kc d 33 [jR 7, jI 1] M (fun v M1 => wp kc (d + 1) 32 196 [some (jR 0), none] (v.toList ++ []) M1 Q)) : wp kc (d + 1) 32 188 [some (jR 0), none] [] M Q :=
  (x_aldn c32_188 rfl (x_gfr c32_189 k_0_5 (x_ci c32_192 (wp_wk (l' := [some (jR 0), none]) ⟨rfl, trivial⟩ (x_cv (As := [jI 1]) (st := []) c32_193 cl_7 kl33 rfl (Nat.le_of_ble_eq_true rfl) mx33 (Nat.le_refl _) H)))))
theorem s32_196 {kc : List va_E} {d : Nat} {M : fx_M} {Q : Option fx_V → fx_M → Prop} (H : wc kc d 33 [jR 7, jI 2] M (fun v M1 => wp kc (d + 1) 32 204 [none, none] (v.toList ++ []) M1 Q)) : wp kc (d + 1) 32 196 [some (jR 0), none] [] M Q :=
  (x_aldn c32_196 rfl (x_gfr c32_197 k_0_5 (x_ci c32_200 (wp_wk (l' := [none, none]) trivial (x_cv (As := [jI 2]) (st := []) c32_201 cl_7 kl33 rfl (Nat.le_of_ble_eq_true rfl) mx33 (Nat.le_refl _) H)))))
theorem s32_204 {kc : List va_E} {d : Nat} {M : fx_M} {Q : Option fx_V → fx_M → Prop} (H : Q none M) : wp kc (d + 1) 32 204 [none, none] [] M Q :=
  (x_goto c32_204 (x_vr c32_351 r32 H))
theorem s32_216 {kc : List va_E} {d : Nat} {M : fx_M} {Q : Option fx_V → fx_M → Prop} (H : wc kc d 37 [jR 7, jI 1] M (fun v M1 => wp kc (d + 1) 32 224 [none, none] (v.toList ++ []) M1 Q)) : wp kc (d + 1) 32 216 [some (jR 0), none] [] M Q :=
  (x_aldn c32_216 rfl (x_gfr c32_217 k_0_5 (x_ci c32_220 (wp_wk (l' := [none, none]) trivial (x_cv (As := [jI 1]) (st := []) c32_221 cl_7 kl37 rfl (Nat.le_of_ble_eq_true rfl) mx37 (Nat.le_refl _) H)))))
theorem s32_224 {kc : List va_E} {d : Nat} {M : fx_M} {Q : Option fx_V → fx_M → Prop} (H : Q none M) : wp kc (d + 1) 32 224 [none, none] [] M Q :=
  (x_goto c32_224 (x_vr c32_351 r32 H))
theorem s32_236 {kc : List va_E} {d : Nat} {M : fx_M} {Q : Option fx_V → fx_M → Prop} (H : wc kc d 33 [jR 7, jI 1] M (fun v M1 => wp kc (d + 1) 32 244 [none, none] (v.toList ++ []) M1 Q)) : wp kc (d + 1) 32 236 [some (jR 0), none] [] M Q :=
  (x_aldn c32_236 rfl (x_gfr c32_237 k_0_5 (x_ci c32_240 (wp_wk (l' := [none, none]) trivial (x_cv (As := [jI 1]) (st := []) c32_241 cl_7 kl33 rfl (Nat.le_of_ble_eq_true rfl) mx33 (Nat.le_refl _) H)))))
theorem s32_244 {kc : List va_E} {d : Nat} {M : fx_M} {Q : Option fx_V → fx_M → Prop} (H : Q none M) : wp kc (d + 1) 32 244 [none, none] [] M Q :=
  (x_goto c32_244 (x_vr c32_351 r32 H))
theorem s32_256 {kc : List va_E} {d : Nat} {M : fx_M} {Q : Option fx_V → fx_M → Prop} (H : Q none M) : wp kc (d + 1) 32 256 [none, none] [] M Q :=
  (x_goto c32_256 (x_vr c32_351 r32 H))
theorem s32_269 {kc : List va_E} {d : Nat} {M : fx_M} {Q : Option fx_V → fx_M → Prop} (H : Q none M) : wp kc (d + 1) 32 269 [none, none] [] M Q :=
  (x_goto c32_269 (x_vr c32_351 r32 H))
theorem s32_280 {kc : List va_E} {d : Nat} {M : fx_M} {Q : Option fx_V → fx_M → Prop} (H : Q none M) : wp kc (d + 1) 32 280 [none, none] [] M Q :=
  (x_goto c32_280 (x_vr c32_351 r32 H))
theorem s32_290 {kc : List va_E} {d : Nat} {M : fx_M} {Q : Option fx_V → fx_M → Prop} (H : Q none M) : wp kc (d + 1) 32 290 [none, none] [] M Q :=
  (x_goto c32_290 (x_vr c32_351 r32 H))
theorem s32_300 {kc : List va_E} {d : Nat} {M : fx_M} {Q : Option fx_V → fx_M → Prop} (H : wc kc d 36 [jR 7, jI 0, jI 3] M (fun v M1 => wp kc (d + 1) 32 309 [none, none] (v.toList ++ []) M1 Q)) : wp kc (d + 1) 32 300 [some (jR 0), none] [] M Q :=
  (x_aldn c32_300 rfl (x_gfr c32_301 k_0_5 (x_ci c32_304 (x_ci c32_305 (wp_wk (l' := [none, none]) trivial (x_cv (As := [jI 0, jI 3]) (st := []) c32_306 cl_7 kl36 rfl (Nat.le_of_ble_eq_true rfl) mx36 (Nat.le_refl _) H))))))
theorem s32_309 {kc : List va_E} {d : Nat} {M : fx_M} {Q : Option fx_V → fx_M → Prop} (H : Q none M) : wp kc (d + 1) 32 309 [none, none] [] M Q :=
  (x_goto c32_309 (x_vr c32_351 r32 H))
theorem s32_320 {kc : List va_E} {d : Nat} {M : fx_M} {Q : Option fx_V → fx_M → Prop} (H : wc kc d 39 [jR 7] M (fun v M1 => wp kc (d + 1) 32 327 [some (jR 0), none] (v.toList ++ []) M1 Q)) : wp kc (d + 1) 32 320 [some (jR 0), none] [] M Q :=
  (x_aldn c32_320 rfl (x_gfr c32_321 k_0_5 (wp_wk (l' := [some (jR 0), none]) ⟨rfl, trivial⟩ (x_cv (As := []) (st := []) c32_324 cl_7 kl39 rfl (Nat.le_of_ble_eq_true rfl) mx39 (Nat.le_refl _) H))))
theorem s32_327 {kc : List va_E} {d : Nat} {M : fx_M} {Q : Option fx_V → fx_M → Prop} (H : wc kc d 36 [jR 7, jI 1, jI 3] M (fun v M1 => wp kc (d + 1) 32 336 [some (jR 0), none] (v.toList ++ []) M1 Q)) : wp kc (d + 1) 32 327 [some (jR 0), none] [] M Q :=
  (x_aldn c32_327 rfl (x_gfr c32_328 k_0_5 (x_ci c32_331 (x_ci c32_332 (wp_wk (l' := [some (jR 0), none]) ⟨rfl, trivial⟩ (x_cv (As := [jI 1, jI 3]) (st := []) c32_333 cl_7 kl36 rfl (Nat.le_of_ble_eq_true rfl) mx36 (Nat.le_refl _) H))))))
theorem s32_336 {kc : List va_E} {d : Nat} {M : fx_M} {Q : Option fx_V → fx_M → Prop} (H : wc kc d 42 [jR 7] M (fun v M1 => wp kc (d + 1) 32 343 [none, none] (v.toList ++ []) M1 Q)) : wp kc (d + 1) 32 336 [some (jR 0), none] [] M Q :=
  (x_aldn c32_336 rfl (x_gfr c32_337 k_0_5 (wp_wk (l' := [none, none]) trivial (x_cv (As := []) (st := []) c32_340 cl_7 kl42 rfl (Nat.le_of_ble_eq_true rfl) mx42 (Nat.le_refl _) H))))
theorem s32_343 {kc : List va_E} {d : Nat} {M : fx_M} {Q : Option fx_V → fx_M → Prop} (H : Q none M) : wp kc (d + 1) 32 343 [none, none] [] M Q :=
  (x_goto c32_343 (x_vr c32_351 r32 H))
theorem s32_351 {kc : List va_E} {d : Nat} {M : fx_M} {Q : Option fx_V → fx_M → Prop} (H : Q none M) : wp kc (d + 1) 32 351 [none, none] [] M Q :=
  (x_vr c32_351 r32 H)
theorem s32 {kc : List va_E} {d : Nat} {x1 : Int} {M : fx_M} {Q : Option fx_V → fx_M → Prop} (H : fx_in32 x1 ∧ (x1 = 0 → wc kc d 33 [jR 7, jI 0] M (fun v M1 => wp kc (d + 1) 32 188 [some (jR 0), none] (v.toList ++ []) M1 Q)) ∧ (x1 = 1 → wc kc d 44 [jR 0, jI x1] M (fun v M1 => wp kc (d + 1) 32 351 [none, none] (v.toList ++ []) M1 Q)) ∧ (x1 = 2 → wc kc d 44 [jR 0, jI x1] M (fun v M1 => wp kc (d + 1) 32 351 [none, none] (v.toList ++ []) M1 Q)) ∧ (x1 = 3 → wc kc d 36 [jR 7, jI 0, jI 3] M (fun v M1 => wp kc (d + 1) 32 216 [some (jR 0), none] (v.toList ++ []) M1 Q)) ∧ (x1 = 4 → wc kc d 44 [jR 0, jI x1] M (fun v M1 => wp kc (d + 1) 32 351 [none, none] (v.toList ++ []) M1 Q)) ∧ (x1 = 5 → wc kc d 44 [jR 0, jI x1] M (fun v M1 => wp kc (d + 1) 32 351 [none, none] (v.toList ++ []) M1 Q)) ∧ (x1 = 6 → wc kc d 44 [jR 0, jI x1] M (fun v M1 => wp kc (d + 1) 32 351 [none, none] (v.toList ++ []) M1 Q)) ∧ (x1 = 7 → wc kc d 36 [jR 7, jI 0, jI 3] M (fun v M1 => wp kc (d + 1) 32 256 [none, none] (v.toList ++ []) M1 Q)) ∧ (x1 = 8 → wc kc d 44 [jR 0, jI x1] M (fun v M1 => wp kc (d + 1) 32 351 [none, none] (v.toList ++ []) M1 Q)) ∧ (x1 = 9 → wc kc d 36 [jR 7, jI 0, jI 6] M (fun v M1 => wp kc (d + 1) 32 269 [none, none] (v.toList ++ []) M1 Q)) ∧ (x1 = 10 → wc kc d 44 [jR 0, jI x1] M (fun v M1 => wp kc (d + 1) 32 351 [none, none] (v.toList ++ []) M1 Q)) ∧ (x1 = 11 → wc kc d 44 [jR 0, jI x1] M (fun v M1 => wp kc (d + 1) 32 351 [none, none] (v.toList ++ []) M1 Q)) ∧ (x1 = 12 → wc kc d 36 [jR 7, jI 0, jI 3] M (fun v M1 => wp kc (d + 1) 32 236 [some (jR 0), none] (v.toList ++ []) M1 Q)) ∧ (x1 = 13 → wc kc d 44 [jR 0, jI x1] M (fun v M1 => wp kc (d + 1) 32 351 [none, none] (v.toList ++ []) M1 Q)) ∧ (x1 = 14 → wc kc d 44 [jR 0, jI x1] M (fun v M1 => wp kc (d + 1) 32 351 [none, none] (v.toList ++ []) M1 Q)) ∧ (x1 = 15 → wc kc d 44 [jR 0, jI x1] M (fun v M1 => wp kc (d + 1) 32 351 [none, none] (v.toList ++ []) M1 Q)) ∧ (x1 = 16 → wc kc d 44 [jR 0, jI x1] M (fun v M1 => wp kc (d + 1) 32 351 [none, none] (v.toList ++ []) M1 Q)) ∧ (x1 = 17 → wc kc d 44 [jR 0, jI x1] M (fun v M1 => wp kc (d + 1) 32 351 [none, none] (v.toList ++ []) M1 Q)) ∧ (x1 = 18 → wc kc d 44 [jR 0, jI x1] M (fun v M1 => wp kc (d + 1) 32 351 [none, none] (v.toList ++ []) M1 Q)) ∧ (x1 = 19 → wc kc d 44 [jR 0, jI x1] M (fun v M1 => wp kc (d + 1) 32 351 [none, none] (v.toList ++ []) M1 Q)) ∧ (x1 = 20 → wc kc d 44 [jR 0, jI x1] M (fun v M1 => wp kc (d + 1) 32 351 [none, none] (v.toList ++ []) M1 Q)) ∧ (x1 = 21 → wc kc d 44 [jR 0, jI x1] M (fun v M1 => wp kc (d + 1) 32 351 [none, none] (v.toList ++ []) M1 Q)) ∧ (x1 = 22 → wc kc d 36 [jR 7, jI 0, jI 3] M (fun v M1 => wp kc (d + 1) 32 256 [none, none] (v.toList ++ []) M1 Q)) ∧ (x1 = 23 → wc kc d 36 [jR 7, jI 0, jI 3] M (fun v M1 => wp kc (d + 1) 32 256 [none, none] (v.toList ++ []) M1 Q)) ∧ (x1 = 24 → wc kc d 44 [jR 0, jI x1] M (fun v M1 => wp kc (d + 1) 32 351 [none, none] (v.toList ++ []) M1 Q)) ∧ (x1 = 25 → wc kc d 33 [jR 7, jI 0] M (fun v M1 => wp kc (d + 1) 32 280 [none, none] (v.toList ++ []) M1 Q)) ∧ (x1 = 26 → wc kc d 36 [jR 7, jI 0, jI 3] M (fun v M1 => wp kc (d + 1) 32 216 [some (jR 0), none] (v.toList ++ []) M1 Q)) ∧ (x1 = 27 → wc kc d 44 [jR 0, jI x1] M (fun v M1 => wp kc (d + 1) 32 351 [none, none] (v.toList ++ []) M1 Q)) ∧ (x1 = 28 → wc kc d 36 [jR 7, jI 0, jI 3] M (fun v M1 => wp kc (d + 1) 32 256 [none, none] (v.toList ++ []) M1 Q)) ∧ (x1 = 29 → wc kc d 44 [jR 0, jI x1] M (fun v M1 => wp kc (d + 1) 32 351 [none, none] (v.toList ++ []) M1 Q)) ∧ (x1 = 30 → wc kc d 36 [jR 7, jI 0, jI 3] M (fun v M1 => wp kc (d + 1) 32 236 [some (jR 0), none] (v.toList ++ []) M1 Q)) ∧ (x1 = 31 → wc kc d 36 [jR 7, jI 0, jI 3] M (fun v M1 => wp kc (d + 1) 32 256 [none, none] (v.toList ++ []) M1 Q)) ∧ (x1 = 32 → wc kc d 44 [jR 0, jI x1] M (fun v M1 => wp kc (d + 1) 32 351 [none, none] (v.toList ++ []) M1 Q)) ∧ (x1 = 33 → wc kc d 39 [jR 7] M (fun v M1 => wp kc (d + 1) 32 300 [some (jR 0), none] (v.toList ++ []) M1 Q)) ∧ (x1 = 34 → wc kc d 33 [jR 7, jI 0] M (fun v M1 => wp kc (d + 1) 32 320 [some (jR 0), none] (v.toList ++ []) M1 Q)) ∧ (x1 = 35 → wc kc d 44 [jR 0, jI x1] M (fun v M1 => wp kc (d + 1) 32 351 [none, none] (v.toList ++ []) M1 Q)) ∧ (x1 = 36 → wc kc d 39 [jR 7] M (fun v M1 => wp kc (d + 1) 32 290 [none, none] (v.toList ++ []) M1 Q)) ∧ (x1 = 37 → wc kc d 39 [jR 7] M (fun v M1 => wp kc (d + 1) 32 290 [none, none] (v.toList ++ []) M1 Q)) ∧ (x1 = 38 → wc kc d 39 [jR 7] M (fun v M1 => wp kc (d + 1) 32 290 [none, none] (v.toList ++ []) M1 Q)) ∧ (x1 = 39 → wc kc d 44 [jR 0, jI x1] M (fun v M1 => wp kc (d + 1) 32 351 [none, none] (v.toList ++ []) M1 Q)) ∧ (x1 = 40 → wc kc d 36 [jR 7, jI 0, jI 3] M (fun v M1 => wp kc (d + 1) 32 256 [none, none] (v.toList ++ []) M1 Q)) ∧ ((x1 < 0 ∨ 41 ≤ x1) → wc kc d 44 [jR 0, jI x1] M (fun v M1 => wp kc (d + 1) 32 351 [none, none] (v.toList ++ []) M1 Q))) : wc kc (d + 1) 32 [jR 0, jI x1] M Q :=
  wc_of (wp_wk (l' := [some (jR 0), some (jI x1)]) ⟨rfl, ⟨rfl, trivial⟩⟩ (s32_0 H))

/- PuzzleHouse.isLetter(C)Z -/
theorem c41_0 : fx_op 41 0 = some (.iload_n 0, 1, 0) := by decide +kernel
theorem c41_1 : fx_ci 41 1 = some (97, 3) := by decide +kernel
theorem c41_3 : fx_op 41 3 = some (.if_icmp .lt 13, 6, 16) := by decide +kernel
theorem c41_16 : fx_ci 41 16 = some (0, 17) := by decide +kernel
theorem c41_6 : fx_op 41 6 = some (.iload_n 0, 7, 6) := by decide +kernel
theorem c41_7 : fx_ci 41 7 = some (122, 9) := by decide +kernel
theorem c41_9 : fx_op 41 9 = some (.if_icmp .gt 7, 12, 16) := by decide +kernel
theorem c41_12 : fx_ci 41 12 = some (1, 13) := by decide +kernel
theorem c41_13 : fx_op 41 13 = some (.goto 4, 16, 17) := by decide +kernel
theorem c41_17 : fx_op 41 17 = some (.ireturn, 18, 17) := by decide +kernel
theorem s41_0 {kc : List va_E} {d : Nat} {x0 : Int} {M : fx_M} {Q : Option fx_V → fx_M → Prop} (H : ((fx_in32 x0)) ∧ (97 ≤ x0 → (fx_in32 x0)) ∧ ((0 : Int) ≤ (if x0 < 97 then (0 : Int) else (if 122 < x0 then (0 : Int) else 1)) ∧ (if x0 < 97 then (0 : Int) else (if 122 < x0 then (0 : Int) else 1)) ≤ 1) ∧ Q (some (jI (if x0 < 97 then (0 : Int) else (if 122 < x0 then (0 : Int) else 1)))) M) : wp kc (d + 1) 41 0 [some (jI x0)] [] M Q :=
  (x_ildn c41_0 rfl (x_ci c41_1 (have K : wp kc (d + 1) 41 17 [none] [jI (if x0 < 97 then (0 : Int) else (if 122 < x0 then (0 : Int) else 1))] M Q := (x_zrt c41_17 r41 H.2.2.1 H.2.2.2); (x_clt c41_3 H.1 (by decide) (fun (h1 : x0 < 97) => (x_ci c41_16 (wp_wk (l' := [none]) trivial (by have K := K; first | (simp only [if_pos h1] at K ⊢; exact K) | (exfalso; omega))))) (fun (h2 : 97 ≤ x0) => (x_ildn c41_6 rfl (x_ci c41_7 (x_cgt c41_9 (H.2.1 h2) (by decide) (fun (h3 : 122 < x0) => (x_ci c41_16 (wp_wk (l' := [none]) trivial (by have K := K; first | (simp only [if_neg (Int.not_lt.mpr h2), if_pos h3] at K ⊢; exact K) | (exfalso; omega))))) (fun (h4 : x0 ≤ 122) => (x_ci c41_12 (x_goto c41_13 (wp_wk (l' := [none]) trivial (by have K := K; first | (simp only [if_neg (Int.not_lt.mpr h2), if_neg (Int.not_lt.mpr h4)] at K ⊢; exact K) | (exfalso; omega))))))))))))))
theorem s41 {kc : List va_E} {d : Nat} {x0 : Int} {M : fx_M} {Q : Option fx_V → fx_M → Prop} (H : ((fx_in32 x0)) ∧ (97 ≤ x0 → (fx_in32 x0)) ∧ ((0 : Int) ≤ (if x0 < 97 then (0 : Int) else (if 122 < x0 then (0 : Int) else 1)) ∧ (if x0 < 97 then (0 : Int) else (if 122 < x0 then (0 : Int) else 1)) ≤ 1) ∧ Q (some (jI (if x0 < 97 then (0 : Int) else (if 122 < x0 then (0 : Int) else 1)))) M) : wc kc (d + 1) 41 [jI x0] M Q :=
  wc_of (wp_wk (l' := [some (jI x0)]) ⟨rfl, trivial⟩ (s41_0 H))

/- PuzzleHouse.isDigit(C)Z -/
theorem c43_0 : fx_op 43 0 = some (.iload_n 0, 1, 0) := by decide +kernel
theorem c43_1 : fx_ci 43 1 = some (48, 3) := by decide +kernel
theorem c43_3 : fx_op 43 3 = some (.if_icmp .lt 13, 6, 16) := by decide +kernel
theorem c43_16 : fx_ci 43 16 = some (0, 17) := by decide +kernel
theorem c43_6 : fx_op 43 6 = some (.iload_n 0, 7, 6) := by decide +kernel
theorem c43_7 : fx_ci 43 7 = some (57, 9) := by decide +kernel
theorem c43_9 : fx_op 43 9 = some (.if_icmp .gt 7, 12, 16) := by decide +kernel
theorem c43_12 : fx_ci 43 12 = some (1, 13) := by decide +kernel
theorem c43_13 : fx_op 43 13 = some (.goto 4, 16, 17) := by decide +kernel
theorem c43_17 : fx_op 43 17 = some (.ireturn, 18, 17) := by decide +kernel
theorem s43_0 {kc : List va_E} {d : Nat} {x0 : Int} {M : fx_M} {Q : Option fx_V → fx_M → Prop} (H : ((fx_in32 x0)) ∧ (48 ≤ x0 → (fx_in32 x0)) ∧ ((0 : Int) ≤ (if x0 < 48 then (0 : Int) else (if 57 < x0 then (0 : Int) else 1)) ∧ (if x0 < 48 then (0 : Int) else (if 57 < x0 then (0 : Int) else 1)) ≤ 1) ∧ Q (some (jI (if x0 < 48 then (0 : Int) else (if 57 < x0 then (0 : Int) else 1)))) M) : wp kc (d + 1) 43 0 [some (jI x0)] [] M Q :=
  (x_ildn c43_0 rfl (x_ci c43_1 (have K : wp kc (d + 1) 43 17 [none] [jI (if x0 < 48 then (0 : Int) else (if 57 < x0 then (0 : Int) else 1))] M Q := (x_zrt c43_17 r43 H.2.2.1 H.2.2.2); (x_clt c43_3 H.1 (by decide) (fun (h1 : x0 < 48) => (x_ci c43_16 (wp_wk (l' := [none]) trivial (by have K := K; first | (simp only [if_pos h1] at K ⊢; exact K) | (exfalso; omega))))) (fun (h2 : 48 ≤ x0) => (x_ildn c43_6 rfl (x_ci c43_7 (x_cgt c43_9 (H.2.1 h2) (by decide) (fun (h3 : 57 < x0) => (x_ci c43_16 (wp_wk (l' := [none]) trivial (by have K := K; first | (simp only [if_neg (Int.not_lt.mpr h2), if_pos h3] at K ⊢; exact K) | (exfalso; omega))))) (fun (h4 : x0 ≤ 57) => (x_ci c43_12 (x_goto c43_13 (wp_wk (l' := [none]) trivial (by have K := K; first | (simp only [if_neg (Int.not_lt.mpr h2), if_neg (Int.not_lt.mpr h4)] at K ⊢; exact K) | (exfalso; omega))))))))))))))
theorem s43 {kc : List va_E} {d : Nat} {x0 : Int} {M : fx_M} {Q : Option fx_V → fx_M → Prop} (H : ((fx_in32 x0)) ∧ (48 ≤ x0 → (fx_in32 x0)) ∧ ((0 : Int) ≤ (if x0 < 48 then (0 : Int) else (if 57 < x0 then (0 : Int) else 1)) ∧ (if x0 < 48 then (0 : Int) else (if 57 < x0 then (0 : Int) else 1)) ≤ 1) ∧ Q (some (jI (if x0 < 48 then (0 : Int) else (if 57 < x0 then (0 : Int) else 1)))) M) : wc kc (d + 1) 43 [jI x0] M Q :=
  wc_of (wp_wk (l' := [some (jI x0)]) ⟨rfl, trivial⟩ (s43_0 H))

/- PuzzleHouse.readLongArguments(I)V -/
theorem c44_0 : fx_op 44 0 = some (.iload_n 1, 1, 0) := by decide +kernel
theorem c44_52 : fx_op 44 52 = some (.aload_n 0, 53, 52) := by decide +kernel
theorem c44_53 : fx_gf 44 53 = some (0, 5, 56) := by decide +kernel
theorem c44_69 : fx_op 44 69 = some (.aload_n 0, 70, 69) := by decide +kernel
theorem c44_70 : fx_gf 44 70 = some (0, 5, 73) := by decide +kernel
theorem c44_86 : fx_op 44 86 = some (.aload_n 0, 87, 86) := by decide +kernel
theorem c44_87 : fx_gf 44 87 = some (0, 5, 90) := by decide +kernel
theorem c44_90 : fx_ci 44 90 = some (32, 92) := by decide +kernel
theorem c44_109 : fx_op 44 109 = some (.aload_n 0, 110, 109) := by decide +kernel
theorem c44_110 : fx_gf 44 110 = some (0, 5, 113) := by decide +kernel
theorem c44_113 : fx_ci 44 113 = some (32, 115) := by decide +kernel
theorem c44_132 : fx_op 44 132 = some (.aload_n 0, 133, 132) := by decide +kernel
theorem c44_133 : fx_gf 44 133 = some (0, 5, 136) := by decide +kernel
theorem c44_136 : fx_ci 44 136 = some (32, 138) := by decide +kernel
theorem c44_56 : fx_ca 44 56 = some (45, 1, 2, 59) := by decide +kernel
theorem c44_73 : fx_ca 44 73 = some (48, 1, 2, 76) := by decide +kernel
theorem c44_92 : fx_ca 44 92 = some (34, 2, 2, 95) := by decide +kernel
theorem c44_115 : fx_ca 44 115 = some (34, 2, 2, 118) := by decide +kernel
theorem c44_138 : fx_ca 44 138 = some (34, 2, 2, 141) := by decide +kernel
theorem c44_155 : fx_op 44 155 = some (.return_, 156, 155) := by decide +kernel
theorem c44_1 : fx_ls 44 1 = some ([(1, 52), (2, 69), (6, 86), (15, 109), (43, 132)], 155) := by decide +kernel
theorem c44_59 : fx_op 44 59 = some (.aload_n 0, 60, 59) := by decide +kernel
theorem c44_60 : fx_gf 44 60 = some (0, 5, 63) := by decide +kernel
theorem c44_63 : fx_ca 44 63 = some (47, 1, 2, 66) := by decide +kernel
theorem c44_76 : fx_op 44 76 = some (.aload_n 0, 77, 76) := by decide +kernel
theorem c44_77 : fx_gf 44 77 = some (0, 5, 80) := by decide +kernel
theorem c44_80 : fx_ca 44 80 = some (45, 1, 2, 83) := by decide +kernel
theorem c44_95 : fx_op 44 95 = some (.aload_n 0, 96, 95) := by decide +kernel
theorem c44_96 : fx_gf 44 96 = some (0, 5, 99) := by decide +kernel
theorem c44_99 : fx_op 44 99 = some (.aload_n 0, 100, 99) := by decide +kernel
theorem c44_100 : fx_gf 44 100 = some (0, 7, 103) := by decide +kernel
theorem c44_103 : fx_ca 44 103 = some (49, 2, 2, 106) := by decide +kernel
theorem c44_118 : fx_op 44 118 = some (.aload_n 0, 119, 118) := by decide +kernel
theorem c44_119 : fx_gf 44 119 = some (0, 10, 122) := by decide +kernel
theorem c44_122 : fx_op 44 122 = some (.aload_n 0, 123, 122) := by decide +kernel
theorem c44_123 : fx_gf 44 123 = some (0, 5, 126) := by decide +kernel
theorem c44_126 : fx_ca 44 126 = some (58, 2, 2, 129) := by decide +kernel
theorem c44_141 : fx_op 44 141 = some (.aload_n 0, 142, 141) := by decide +kernel
theorem c44_142 : fx_gf 44 142 = some (0, 5, 145) := by decide +kernel
theorem c44_145 : fx_op 44 145 = some (.aload_n 0, 146, 145) := by decide +kernel
theorem c44_146 : fx_gf 44 146 = some (0, 7, 149) := by decide +kernel
theorem c44_149 : fx_ca 44 149 = some (61, 2, 2, 152) := by decide +kernel
theorem c44_66 : fx_op 44 66 = some (.goto 89, 69, 155) := by decide +kernel
theorem c44_83 : fx_op 44 83 = some (.goto 72, 86, 155) := by decide +kernel
theorem c44_106 : fx_op 44 106 = some (.goto 49, 109, 155) := by decide +kernel
theorem c44_129 : fx_op 44 129 = some (.goto 26, 132, 155) := by decide +kernel
theorem c44_152 : fx_op 44 152 = some (.goto 3, 155, 155) := by decide +kernel
theorem s44_0 {kc : List va_E} {d : Nat} {x1 : Int} {M : fx_M} {Q : Option fx_V → fx_M → Prop} (H : fx_in32 x1 ∧ (x1 = 1 → wc kc d 45 [jR 7] M (fun v M1 => wp kc (d + 1) 44 59 [some (jR 0), none] (v.toList ++ []) M1 Q)) ∧ (x1 = 2 → wc kc d 48 [jR 7] M (fun v M1 => wp kc (d + 1) 44 76 [some (jR 0), none] (v.toList ++ []) M1 Q)) ∧ (x1 = 6 → wc kc d 34 [jR 7, jI 32] M (fun v M1 => wp kc (d + 1) 44 95 [some (jR 0), none] (v.toList ++ []) M1 Q)) ∧ (x1 = 15 → wc kc d 34 [jR 7, jI 32] M (fun v M1 => wp kc (d + 1) 44 118 [some (jR 0), none] (v.toList ++ []) M1 Q)) ∧ (x1 = 43 → wc kc d 34 [jR 7, jI 32] M (fun v M1 => wp kc (d + 1) 44 141 [some (jR 0), none] (v.toList ++ []) M1 Q)) ∧ (x1 ≠ 1 → x1 ≠ 2 → x1 ≠ 6 → x1 ≠ 15 → x1 ≠ 43 → Q none M)) : wp kc (d + 1) 44 0 [some (jR 0), some (jI x1)] [] M Q :=
  (x_ildn c44_0 rfl (x_lsw c44_1 H.1 ⟨fun h1 => (x_aldn c44_52 rfl (x_gfr c44_53 k_0_5 (wp_wk (l' := [some (jR 0), none]) ⟨rfl, trivial⟩ (x_cv (As := []) (st := []) c44_56 cl_7 kl45 rfl (Nat.le_of_ble_eq_true rfl) mx45 (Nat.le_refl _) (H.2.1 h1))))), ⟨fun h2 => (x_aldn c44_69 rfl (x_gfr c44_70 k_0_5 (wp_wk (l' := [some (jR 0), none]) ⟨rfl, trivial⟩ (x_cv (As := []) (st := []) c44_73 cl_7 kl48 rfl (Nat.le_of_ble_eq_true rfl) mx48 (Nat.le_refl _) (H.2.2.1 h2))))), ⟨fun h3 => (x_aldn c44_86 rfl (x_gfr c44_87 k_0_5 (x_ci c44_90 (wp_wk (l' := [some (jR 0), none]) ⟨rfl, trivial⟩ (x_cv (As := [jI 32]) (st := []) c44_92 cl_7 kl34 rfl (Nat.le_of_ble_eq_true rfl) mx34 (Nat.le_refl _) (H.2.2.2.1 h3)))))), ⟨fun h4 => (x_aldn c44_109 rfl (x_gfr c44_110 k_0_5 (x_ci c44_113 (wp_wk (l' := [some (jR 0), none]) ⟨rfl, trivial⟩ (x_cv (As := [jI 32]) (st := []) c44_115 cl_7 kl34 rfl (Nat.le_of_ble_eq_true rfl) mx34 (Nat.le_refl _) (H.2.2.2.2.1 h4)))))), ⟨fun h5 => (x_aldn c44_132 rfl (x_gfr c44_133 k_0_5 (x_ci c44_136 (wp_wk (l' := [some (jR 0), none]) ⟨rfl, trivial⟩ (x_cv (As := [jI 32]) (st := []) c44_138 cl_7 kl34 rfl (Nat.le_of_ble_eq_true rfl) mx34 (Nat.le_refl _) (H.2.2.2.2.2.1 h5)))))), fun h6 h7 h8 h9 h10 => (x_vr c44_155 r44 (H.2.2.2.2.2.2 h6 h7 h8 h9 h10))⟩⟩⟩⟩⟩))
theorem s44_59 {kc : List va_E} {d : Nat} {M : fx_M} {Q : Option fx_V → fx_M → Prop} (H : wc kc d 47 [jR 7] M (fun v M1 => wp kc (d + 1) 44 66 [none, none] (v.toList ++ []) M1 Q)) : wp kc (d + 1) 44 59 [some (jR 0), none] [] M Q :=
  (x_aldn c44_59 rfl (x_gfr c44_60 k_0_5 (wp_wk (l' := [none, none]) trivial (x_cv (As := []) (st := []) c44_63 cl_7 kl47 rfl (Nat.le_of_ble_eq_true rfl) mx47 (Nat.le_refl _) H))))
theorem s44_66 {kc : List va_E} {d : Nat} {M : fx_M} {Q : Option fx_V → fx_M → Prop} (H : Q none M) : wp kc (d + 1) 44 66 [none, none] [] M Q :=
  (x_goto c44_66 (x_vr c44_155 r44 H))
theorem s44_76 {kc : List va_E} {d : Nat} {M : fx_M} {Q : Option fx_V → fx_M → Prop} (H : wc kc d 45 [jR 7] M (fun v M1 => wp kc (d + 1) 44 83 [none, none] (v.toList ++ []) M1 Q)) : wp kc (d + 1) 44 76 [some (jR 0), none] [] M Q :=
  (x_aldn c44_76 rfl (x_gfr c44_77 k_0_5 (wp_wk (l' := [none, none]) trivial (x_cv (As := []) (st := []) c44_80 cl_7 kl45 rfl (Nat.le_of_ble_eq_true rfl) mx45 (Nat.le_refl _) H))))
theorem s44_83 {kc : List va_E} {d : Nat} {M : fx_M} {Q : Option fx_V → fx_M → Prop} (H : Q none M) : wp kc (d + 1) 44 83 [none, none] [] M Q :=
  (x_goto c44_83 (x_vr c44_155 r44 H))
theorem s44_95 {kc : List va_E} {d : Nat} {M : fx_M} {Q : Option fx_V → fx_M → Prop} (H : wc kc d 49 [jR 7, jR 20] M (fun v M1 => wp kc (d + 1) 44 106 [none, none] (v.toList ++ []) M1 Q)) : wp kc (d + 1) 44 95 [some (jR 0), none] [] M Q :=
  (x_aldn c44_95 rfl (x_gfr c44_96 k_0_5 (x_aldn c44_99 rfl (x_gfr c44_100 k_0_7 (wp_wk (l' := [none, none]) trivial (x_cv (As := [jR 20]) (st := []) c44_103 cl_7 kl49 rfl (Nat.le_of_ble_eq_true rfl) mx49 (Nat.le_refl _) H))))))
theorem s44_106 {kc : List va_E} {d : Nat} {M : fx_M} {Q : Option fx_V → fx_M → Prop} (H : Q none M) : wp kc (d + 1) 44 106 [none, none] [] M Q :=
  (x_goto c44_106 (x_vr c44_155 r44 H))
theorem s44_118 {kc : List va_E} {d : Nat} {M : fx_M} {Q : Option fx_V → fx_M → Prop} (H : wc kc d 58 [jR 34, jR 7] M (fun v M1 => wp kc (d + 1) 44 129 [none, none] (v.toList ++ []) M1 Q)) : wp kc (d + 1) 44 118 [some (jR 0), none] [] M Q :=
  (x_aldn c44_118 rfl (x_gfr c44_119 k_0_10 (x_aldn c44_122 rfl (x_gfr c44_123 k_0_5 (wp_wk (l' := [none, none]) trivial (x_cv (As := [jR 7]) (st := []) c44_126 cl_34 kl58 rfl (Nat.le_of_ble_eq_true rfl) mx58 (Nat.le_refl _) H))))))
theorem s44_129 {kc : List va_E} {d : Nat} {M : fx_M} {Q : Option fx_V → fx_M → Prop} (H : Q none M) : wp kc (d + 1) 44 129 [none, none] [] M Q :=
  (x_goto c44_129 (x_vr c44_155 r44 H))
theorem s44_141 {kc : List va_E} {d : Nat} {M : fx_M} {Q : Option fx_V → fx_M → Prop} (H : wc kc d 61 [jR 7, jR 20] M (fun v M1 => wp kc (d + 1) 44 152 [none, none] (v.toList ++ []) M1 Q)) : wp kc (d + 1) 44 141 [some (jR 0), none] [] M Q :=
  (x_aldn c44_141 rfl (x_gfr c44_142 k_0_5 (x_aldn c44_145 rfl (x_gfr c44_146 k_0_7 (wp_wk (l' := [none, none]) trivial (x_cv (As := [jR 20]) (st := []) c44_149 cl_7 kl61 rfl (Nat.le_of_ble_eq_true rfl) mx61 (Nat.le_refl _) H))))))
theorem s44_152 {kc : List va_E} {d : Nat} {M : fx_M} {Q : Option fx_V → fx_M → Prop} (H : Q none M) : wp kc (d + 1) 44 152 [none, none] [] M Q :=
  (x_goto c44_152 (x_vr c44_155 r44 H))
theorem s44 {kc : List va_E} {d : Nat} {x1 : Int} {M : fx_M} {Q : Option fx_V → fx_M → Prop} (H : fx_in32 x1 ∧ (x1 = 1 → wc kc d 45 [jR 7] M (fun v M1 => wp kc (d + 1) 44 59 [some (jR 0), none] (v.toList ++ []) M1 Q)) ∧ (x1 = 2 → wc kc d 48 [jR 7] M (fun v M1 => wp kc (d + 1) 44 76 [some (jR 0), none] (v.toList ++ []) M1 Q)) ∧ (x1 = 6 → wc kc d 34 [jR 7, jI 32] M (fun v M1 => wp kc (d + 1) 44 95 [some (jR 0), none] (v.toList ++ []) M1 Q)) ∧ (x1 = 15 → wc kc d 34 [jR 7, jI 32] M (fun v M1 => wp kc (d + 1) 44 118 [some (jR 0), none] (v.toList ++ []) M1 Q)) ∧ (x1 = 43 → wc kc d 34 [jR 7, jI 32] M (fun v M1 => wp kc (d + 1) 44 141 [some (jR 0), none] (v.toList ++ []) M1 Q)) ∧ (x1 ≠ 1 → x1 ≠ 2 → x1 ≠ 6 → x1 ≠ 15 → x1 ≠ 43 → Q none M)) : wc kc (d + 1) 44 [jR 0, jI x1] M Q :=
  wc_of (wp_wk (l' := [some (jR 0), some (jI x1)]) ⟨rfl, ⟨rfl, trivial⟩⟩ (s44_0 H))

/- PuzzleHouse.checkOf([CII)I -/
theorem c62_0 : fx_ci 62 0 = some (7, 2) := by decide +kernel
theorem c62_2 : fx_op 62 2 = some (.istore_n 3, 3, 2) := by decide +kernel
theorem c62_3 : fx_op 62 3 = some (.iload_n 1, 4, 3) := by decide +kernel
theorem c62_4 : fx_op 62 4 = some (.istore 4, 6, 4) := by decide +kernel
theorem c62_6 : fx_op 62 6 = some (.iload 4, 8, 6) := by decide +kernel
theorem c62_8 : fx_op 62 8 = some (.iload_n 2, 9, 8) := by decide +kernel
theorem c62_9 : fx_op 62 9 = some (.if_icmp .ge 23, 12, 32) := by decide +kernel
theorem c62_12 : fx_op 62 12 = some (.iload_n 3, 13, 12) := by decide +kernel
theorem c62_13 : fx_ci 62 13 = some (31, 15) := by decide +kernel
theorem c62_15 : fx_op 62 15 = some (.imul, 16, 15) := by decide +kernel
theorem c62_16 : fx_op 62 16 = some (.aload_n 0, 17, 16) := by decide +kernel
theorem c62_17 : fx_op 62 17 = some (.iload 4, 19, 17) := by decide +kernel
theorem c62_19 : fx_op 62 19 = some (.caload, 20, 19) := by decide +kernel
theorem c62_20 : fx_op 62 20 = some (.iadd, 21, 20) := by decide +kernel
theorem c62_21 : fx_ci 62 21 = some (65521, 24) := by decide +kernel
theorem c62_24 : fx_op 62 24 = some (.irem, 25, 24) := by decide +kernel
theorem c62_25 : fx_op 62 25 = some (.istore_n 3, 26, 25) := by decide +kernel
theorem c62_26 : fx_op 62 26 = some (.iinc 4 1, 29, 26) := by decide +kernel
theorem c62_32 : fx_op 62 32 = some (.iload_n 3, 33, 32) := by decide +kernel
theorem c62_33 : fx_op 62 33 = some (.ireturn, 34, 33) := by decide +kernel
theorem c62_29 : fx_op 62 29 = some (.goto (-23), 32, 6) := by decide +kernel
theorem s62_0 {kc : List va_E} {d : Nat} {a n : Nat} {x1 x2 : Int} {M : fx_M} {Q : Option fx_V → fx_M → Prop} (Ha : fx_a a = some (1, n)) (Han : n ≤ 2147483647) (H : wp kc (d + 1) 62 6 [some (jR a), none, some (jI x2), some (jI 7), some (jI x1)] [] M Q) : wp kc (d + 1) 62 0 [some (jR a), some (jI x1), some (jI x2), none, none] [] M Q :=
  (x_ci c62_0 (x_istn (l' := [some (jR a), some (jI x1), some (jI x2), some (jI 7), none]) c62_2 rfl (x_ildn c62_3 rfl (x_ist (l' := [some (jR a), some (jI x1), some (jI x2), some (jI 7), some (jI x1)]) c62_4 rfl (wp_wk (l' := [some (jR a), none, some (jI x2), some (jI 7), some (jI x1)]) ⟨rfl, ⟨rfl, ⟨rfl, ⟨rfl, trivial⟩⟩⟩⟩ H)))))
theorem s62_6 {kc : List va_E} {d : Nat} {a n : Nat} {v2 v3 v4 : Int} {M : fx_M} {Q : Option fx_V → fx_M → Prop} (Ha : fx_a a = some (1, n)) (Han : n ≤ 2147483647) (H : ((fx_in32 v4) ∧ (fx_in32 v2)) ∧ (v2 ≤ v4 → Q (some (jI v3)) M) ∧ (v4 < v2 → (((0 : Int) ≤ v4 ∧ v4 < (n : Nat))) ∧ (((0 : Int) ≤ (v3 * 31) + (M a v4) ∧ (v3 * 31) + (M a v4) ≤ 2147483647)) ∧ wp kc (d + 1) 62 6 [some (jR a), none, some (jI v2), some (jI (((v3 * 31) + (M a v4)) % 65521)), some (jI (v4 + 1))] [] M Q)) : wp kc (d + 1) 62 6 [some (jR a), none, some (jI v2), some (jI v3), some (jI v4)] [] M Q :=
  (x_ild c62_6 rfl (x_ildn c62_8 rfl (x_cge c62_9 H.1.1 H.1.2 (fun h1 => (x_ildn c62_32 rfl (x_irt c62_33 r62 (H.2.1 h1)))) (fun h2 => (x_ildn c62_12 rfl (x_ci c62_13 (x_imul c62_15 (x_aldn c62_16 rfl (x_ild c62_17 rfl (x_cald c62_19 Ha (H.2.2 h2).1 Han (x_iadd c62_20 (x_ci c62_21 (x_irem c62_24 (H.2.2 h2).2.1 (by decide) (x_istn (l' := [some (jR a), none, some (jI v2), some (jI (((v3 * 31) + (M a v4)) % 65521)), some (jI v4)]) c62_25 rfl (x_inc (l' := [some (jR a), none, some (jI v2), some (jI (((v3 * 31) + (M a v4)) % 65521)), some (jI (v4 + 1))]) c62_26 rfl rfl (x_goto c62_29 (wp_wk (l' := [some (jR a), none, some (jI v2), some (jI (((v3 * 31) + (M a v4)) % 65521)), some (jI (v4 + 1))]) ⟨rfl, ⟨rfl, ⟨rfl, ⟨rfl, trivial⟩⟩⟩⟩ (H.2.2 h2).2.2)))))))))))))))))
theorem s62 {kc : List va_E} {d : Nat} {a n : Nat} {x1 x2 : Int} {M : fx_M} {Q : Option fx_V → fx_M → Prop} (Ha : fx_a a = some (1, n)) (Han : n ≤ 2147483647) (H : wp kc (d + 1) 62 6 [some (jR a), none, some (jI x2), some (jI 7), some (jI x1)] [] M Q) : wc kc (d + 1) 62 [jR a, jI x1, jI x2] M Q :=
  wc_of (wp_wk (l' := [some (jR a), some (jI x1), some (jI x2), none, none]) ⟨rfl, ⟨rfl, ⟨rfl, trivial⟩⟩⟩ (s62_0 Ha Han H))

/- PuzzleHouse.puzzleRequest(I)V -/
theorem c66_0 : fx_op 66 0 = some (.aload_n 0, 1, 0) := by decide +kernel
theorem c66_1 : fx_gf 66 1 = some (0, 6, 4) := by decide +kernel
theorem c66_4 : fx_gf 66 4 = some (3, 4, 7) := by decide +kernel
theorem c66_7 : fx_op 66 7 = some (.istore_n 2, 8, 7) := by decide +kernel
theorem c66_8 : fx_cr 66 8 = some (1000033, 11) := by decide +kernel
theorem c66_11 : fx_op 66 11 = some (.astore_n 3, 12, 11) := by decide +kernel
theorem c66_12 : fx_op 66 12 = some (.iload_n 1, 13, 12) := by decide +kernel
theorem c66_56 : fx_op 66 56 = some (.aload_n 0, 57, 56) := by decide +kernel
theorem c66_57 : fx_gf 66 57 = some (0, 6, 60) := by decide +kernel
theorem c66_60 : fx_op 66 60 = some (.aload_n 0, 61, 60) := by decide +kernel
theorem c66_61 : fx_gf 66 61 = some (0, 5, 64) := by decide +kernel
theorem c66_64 : fx_gf 66 64 = some (2, 5, 67) := by decide +kernel
theorem c66_67 : fx_ci 66 67 = some (0, 68) := by decide +kernel
theorem c66_68 : fx_op 66 68 = some (.iaload, 69, 68) := by decide +kernel
theorem c66_69 : fx_op 66 69 = some (.aload_n 0, 70, 69) := by decide +kernel
theorem c66_70 : fx_gf 66 70 = some (0, 5, 73) := by decide +kernel
theorem c66_73 : fx_gf 66 73 = some (2, 5, 76) := by decide +kernel
theorem c66_76 : fx_ci 66 76 = some (1, 77) := by decide +kernel
theorem c66_77 : fx_op 66 77 = some (.iaload, 78, 77) := by decide +kernel
theorem c66_78 : fx_op 66 78 = some (.aload_n 0, 79, 78) := by decide +kernel
theorem c66_79 : fx_gf 66 79 = some (0, 5, 82) := by decide +kernel
theorem c66_82 : fx_gf 66 82 = some (2, 5, 85) := by decide +kernel
theorem c66_85 : fx_ci 66 85 = some (2, 86) := by decide +kernel
theorem c66_86 : fx_op 66 86 = some (.iaload, 87, 86) := by decide +kernel
theorem c66_94 : fx_op 66 94 = some (.aload_n 0, 95, 94) := by decide +kernel
theorem c66_95 : fx_gf 66 95 = some (0, 6, 98) := by decide +kernel
theorem c66_98 : fx_op 66 98 = some (.aload_n 0, 99, 98) := by decide +kernel
theorem c66_99 : fx_gf 66 99 = some (0, 5, 102) := by decide +kernel
theorem c66_102 : fx_gf 66 102 = some (2, 11, 105) := by decide +kernel
theorem c66_105 : fx_op 66 105 = some (.aload_n 0, 106, 105) := by decide +kernel
theorem c66_106 : fx_gf 66 106 = some (0, 5, 109) := by decide +kernel
theorem c66_109 : fx_gf 66 109 = some (2, 12, 112) := by decide +kernel
theorem c66_112 : fx_op 66 112 = some (.aload_n 0, 113, 112) := by decide +kernel
theorem c66_113 : fx_gf 66 113 = some (0, 5, 116) := by decide +kernel
theorem c66_116 : fx_gf 66 116 = some (2, 13, 119) := by decide +kernel
theorem c66_119 : fx_op 66 119 = some (.aload_n 0, 120, 119) := by decide +kernel
theorem c66_120 : fx_gf 66 120 = some (0, 5, 123) := by decide +kernel
theorem c66_123 : fx_gf 66 123 = some (2, 14, 126) := by decide +kernel
theorem c66_133 : fx_op 66 133 = some (.aload_n 0, 134, 133) := by decide +kernel
theorem c66_134 : fx_gf 66 134 = some (0, 6, 137) := by decide +kernel
theorem c66_137 : fx_op 66 137 = some (.aload_n 0, 138, 137) := by decide +kernel
theorem c66_138 : fx_gf 66 138 = some (0, 5, 141) := by decide +kernel
theorem c66_141 : fx_gf 66 141 = some (2, 10, 144) := by decide +kernel
theorem c66_144 : fx_op 66 144 = some (.aload_n 0, 145, 144) := by decide +kernel
theorem c66_145 : fx_gf 66 145 = some (0, 5, 148) := by decide +kernel
theorem c66_148 : fx_gf 66 148 = some (2, 11, 151) := by decide +kernel
theorem c66_151 : fx_op 66 151 = some (.aload_n 0, 152, 151) := by decide +kernel
theorem c66_152 : fx_gf 66 152 = some (0, 5, 155) := by decide +kernel
theorem c66_155 : fx_gf 66 155 = some (2, 12, 158) := by decide +kernel
theorem c66_165 : fx_op 66 165 = some (.aload_n 0, 166, 165) := by decide +kernel
theorem c66_166 : fx_gf 66 166 = some (0, 6, 169) := by decide +kernel
theorem c66_169 : fx_op 66 169 = some (.aload_n 0, 170, 169) := by decide +kernel
theorem c66_170 : fx_gf 66 170 = some (0, 5, 173) := by decide +kernel
theorem c66_173 : fx_gf 66 173 = some (2, 5, 176) := by decide +kernel
theorem c66_176 : fx_ci 66 176 = some (0, 177) := by decide +kernel
theorem c66_177 : fx_op 66 177 = some (.iaload, 178, 177) := by decide +kernel
theorem c66_178 : fx_op 66 178 = some (.aload_n 0, 179, 178) := by decide +kernel
theorem c66_179 : fx_gf 66 179 = some (0, 5, 182) := by decide +kernel
theorem c66_182 : fx_gf 66 182 = some (2, 5, 185) := by decide +kernel
theorem c66_185 : fx_ci 66 185 = some (1, 186) := by decide +kernel
theorem c66_186 : fx_op 66 186 = some (.iaload, 187, 186) := by decide +kernel
theorem c66_194 : fx_op 66 194 = some (.aload_n 0, 195, 194) := by decide +kernel
theorem c66_195 : fx_gf 66 195 = some (0, 6, 198) := by decide +kernel
theorem c66_216 : fx_op 66 216 = some (.aload_n 0, 217, 216) := by decide +kernel
theorem c66_217 : fx_gf 66 217 = some (0, 6, 220) := by decide +kernel
theorem c66_220 : fx_op 66 220 = some (.aload_n 0, 221, 220) := by decide +kernel
theorem c66_221 : fx_gf 66 221 = some (0, 3, 224) := by decide +kernel
theorem c66_205 : fx_op 66 205 = some (.aload_n 0, 206, 205) := by decide +kernel
theorem c66_206 : fx_gf 66 206 = some (0, 5, 209) := by decide +kernel
theorem c66_209 : fx_gf 66 209 = some (2, 4, 212) := by decide +kernel
theorem c66_212 : fx_op 66 212 = some (.astore_n 3, 213, 212) := by decide +kernel
theorem c66_228 : fx_op 66 228 = some (.aload_n 3, 229, 228) := by decide +kernel
theorem c66_87 : fx_ca 66 87 = some (51, 4, 2, 90) := by decide +kernel
theorem c66_126 : fx_ca 66 126 = some (52, 5, 2, 129) := by decide +kernel
theorem c66_158 : fx_ca 66 158 = some (55, 4, 2, 161) := by decide +kernel
theorem c66_187 : fx_ca 66 187 = some (57, 3, 2, 190) := by decide +kernel
theorem c66_198 : fx_ca 66 198 = some (67, 1, 2, 201) := by decide +kernel
theorem c66_224 : fx_ca 66 224 = some (68, 2, 2, 227) := by decide +kernel
theorem c66_213 : fx_op 66 213 = some (.goto 15, 216, 228) := by decide +kernel
theorem c66_229 : fx_ca 66 229 = some (50, 1, 2, 232) := by decide +kernel
theorem c66_13 : fx_ts 66 13 = some (0, [56, 94, 133, 165, 194, 216, 205], 216) := by decide +kernel
theorem c66_90 : fx_op 66 90 = some (.astore_n 3, 91, 90) := by decide +kernel
theorem c66_91 : fx_op 66 91 = some (.goto 137, 94, 228) := by decide +kernel
theorem c66_129 : fx_op 66 129 = some (.astore_n 3, 130, 129) := by decide +kernel
theorem c66_130 : fx_op 66 130 = some (.goto 98, 133, 228) := by decide +kernel
theorem c66_161 : fx_op 66 161 = some (.astore_n 3, 162, 161) := by decide +kernel
theorem c66_162 : fx_op 66 162 = some (.goto 66, 165, 228) := by decide +kernel
theorem c66_190 : fx_op 66 190 = some (.astore_n 3, 191, 190) := by decide +kernel
theorem c66_191 : fx_op 66 191 = some (.goto 37, 194, 228) := by decide +kernel
theorem c66_201 : fx_op 66 201 = some (.astore_n 3, 202, 201) := by decide +kernel
theorem c66_202 : fx_op 66 202 = some (.goto 26, 205, 228) := by decide +kernel
theorem c66_227 : fx_op 66 227 = some (.return_, 228, 227) := by decide +kernel
theorem c66_232 : fx_op 66 232 = some (.ifCond .ne 12, 235, 244) := by decide +kernel
theorem c66_244 : fx_op 66 244 = some (.iload_n 1, 245, 244) := by decide +kernel
theorem c66_245 : fx_ci 66 245 = some (6, 247) := by decide +kernel
theorem c66_247 : fx_op 66 247 = some (.if_icmp .ne 14, 250, 261) := by decide +kernel
theorem c66_250 : fx_op 66 250 = some (.aload_n 0, 251, 250) := by decide +kernel
theorem c66_251 : fx_gf 66 251 = some (0, 6, 254) := by decide +kernel
theorem c66_254 : fx_op 66 254 = some (.aload_n 0, 255, 254) := by decide +kernel
theorem c66_255 : fx_gf 66 255 = some (0, 7, 258) := by decide +kernel
theorem c66_261 : fx_op 66 261 = some (.aload_n 0, 262, 261) := by decide +kernel
theorem c66_262 : fx_gf 66 262 = some (0, 14, 265) := by decide +kernel
theorem c66_235 : fx_op 66 235 = some (.aload_n 0, 236, 235) := by decide +kernel
theorem c66_236 : fx_gf 66 236 = some (0, 3, 239) := by decide +kernel
theorem c66_239 : fx_op 66 239 = some (.aload_n 3, 240, 239) := by decide +kernel
theorem c66_265 : fx_ca 66 265 = some (73, 1, 2, 268) := by decide +kernel
theorem c66_258 : fx_ca 66 258 = some (72, 2, 2, 261) := by decide +kernel
theorem c66_240 : fx_ca 66 240 = some (64, 2, 2, 243) := by decide +kernel
theorem c66_268 : fx_op 66 268 = some (.iload_n 1, 269, 268) := by decide +kernel
theorem c66_269 : fx_ci 66 269 = some (1, 270) := by decide +kernel
theorem c66_270 : fx_op 66 270 = some (.if_icmp .ne 24, 273, 294) := by decide +kernel
theorem c66_294 : fx_op 66 294 = some (.iload_n 1, 295, 294) := by decide +kernel
theorem c66_295 : fx_ci 66 295 = some (2, 296) := by decide +kernel
theorem c66_296 : fx_op 66 296 = some (.if_icmp .ne 32, 299, 328) := by decide +kernel
theorem c66_328 : fx_op 66 328 = some (.aload_n 0, 329, 328) := by decide +kernel
theorem c66_329 : fx_gf 66 329 = some (0, 3, 332) := by decide +kernel
theorem c66_332 : fx_cr 66 332 = some (1000063, 335) := by decide +kernel
theorem c66_299 : fx_op 66 299 = some (.aload_n 0, 300, 299) := by decide +kernel
theorem c66_300 : fx_gf 66 300 = some (0, 3, 303) := by decide +kernel
theorem c66_303 : fx_cr 66 303 = some (1000061, 306) := by decide +kernel
theorem c66_273 : fx_op 66 273 = some (.aload_n 0, 274, 273) := by decide +kernel
theorem c66_274 : fx_gf 66 274 = some (0, 3, 277) := by decide +kernel
theorem c66_277 : fx_cr 66 277 = some (1000059, 280) := by decide +kernel
theorem c66_335 : fx_ca 66 335 = some (64, 2, 2, 338) := by decide +kernel
theorem c66_306 : fx_ca 66 306 = some (64, 2, 2, 309) := by decide +kernel
theorem c66_280 : fx_ca 66 280 = some (64, 2, 2, 283) := by decide +kernel
theorem c66_243 : fx_op 66 243 = some (.return_, 244, 243) := by decide +kernel
theorem c66_338 : fx_op 66 338 = some (.return_, 339, 338) := by decide +kernel
theorem c66_309 : fx_op 66 309 = some (.aload_n 0, 310, 309) := by decide +kernel
theorem c66_310 : fx_gf 66 310 = some (0, 3, 313) := by decide +kernel
theorem c66_313 : fx_op 66 313 = some (.aload_n 0, 314, 313) := by decide +kernel
theorem c66_314 : fx_gf 66 314 = some (0, 6, 317) := by decide +kernel
theorem c66_317 : fx_gf 66 317 = some (3, 4, 320) := by decide +kernel
theorem c66_320 : fx_op 66 320 = some (.iload_n 2, 321, 320) := by decide +kernel
theorem c66_321 : fx_op 66 321 = some (.isub, 322, 321) := by decide +kernel
theorem c66_322 : fx_ca 66 322 = some (65, 2, 2, 325) := by decide +kernel
theorem c66_283 : fx_op 66 283 = some (.aload_n 0, 284, 283) := by decide +kernel
theorem c66_284 : fx_gf 66 284 = some (0, 3, 287) := by decide +kernel
theorem c66_287 : fx_op 66 287 = some (.iload_n 2, 288, 287) := by decide +kernel
theorem c66_288 : fx_ca 66 288 = some (65, 2, 2, 291) := by decide +kernel
theorem c66_325 : fx_op 66 325 = some (.goto 13, 328, 338) := by decide +kernel
theorem c66_291 : fx_op 66 291 = some (.goto 47, 294, 338) := by decide +kernel
theorem s66_0 {kc : List va_E} {d : Nat} {x1 : Int} {M : fx_M} {Q : Option fx_V → fx_M → Prop} (H : fx_in32 x1 ∧ (x1 = 0 → wc kc d 51 [jR 11, jI (M 9 0), jI (M 9 1), jI (M 9 2)] M (fun v M1 => wp kc (d + 1) 66 90 [some (jR 0), some (jI x1), some (jI (M 11 4)), none] (v.toList ++ []) M1 Q)) ∧ (x1 = 1 → wc kc d 52 [jR 11, jI (M 7 11), jI (M 7 12), jR 10, jI (M 7 14)] M (fun v M1 => wp kc (d + 1) 66 129 [some (jR 0), some (jI x1), some (jI (M 11 4)), none] (v.toList ++ []) M1 Q)) ∧ (x1 = 2 → wc kc d 55 [jR 11, jI (M 7 10), jI (M 7 11), jI (M 7 12)] M (fun v M1 => wp kc (d + 1) 66 161 [some (jR 0), some (jI x1), some (jI (M 11 4)), none] (v.toList ++ []) M1 Q)) ∧ (x1 = 3 → wc kc d 57 [jR 11, jI (M 9 0), jI (M 9 1)] M (fun v M1 => wp kc (d + 1) 66 190 [some (jR 0), some (jI x1), some (jI (M 11 4)), none] (v.toList ++ []) M1 Q)) ∧ (x1 = 4 → wc kc d 67 [jR 11] M (fun v M1 => wp kc (d + 1) 66 201 [some (jR 0), some (jI x1), some (jI (M 11 4)), none] (v.toList ++ []) M1 Q)) ∧ (x1 = 5 → wc kc d 68 [jR 11, jR 3] M (fun v M1 => wp kc (d + 1) 66 227 [none, none, none, none] (v.toList ++ []) M1 Q)) ∧ (x1 = 6 → fx_lit kc ((M 7 4).toNat) ∧ wc kc d 50 [jR ((M 7 4).toNat)] M (fun v M1 => wp kc (d + 1) 66 232 [some (jR 0), some (jI x1), some (jI (M 11 4)), some (jR ((M 7 4).toNat))] (v.toList ++ []) M1 Q)) ∧ ((x1 < 0 ∨ 7 ≤ x1) → wc kc d 68 [jR 11, jR 3] M (fun v M1 => wp kc (d + 1) 66 227 [none, none, none, none] (v.toList ++ []) M1 Q))) : wp kc (d + 1) 66 0 [some (jR 0), some (jI x1), none, none] [] M Q :=
  (x_aldn c66_0 rfl (x_gfr c66_1 k_0_6 (x_gfi c66_4 k_11_4 (x_istn (l' := [some (jR 0), some (jI x1), some (jI (M 11 4)), none]) c66_7 rfl (x_cr c66_8 (x_astn (l' := [some (jR 0), some (jI x1), some (jI (M 11 4)), some (jR 1000033)]) c66_11 rfl (x_ildn c66_12 rfl (x_sw c66_13 H.1 ⟨fun h1 => (x_aldn c66_56 rfl (x_gfr c66_57 k_0_6 (x_aldn c66_60 rfl (x_gfr c66_61 k_0_5 (x_gfr c66_64 k_7_5 (x_ci c66_67 (x_iald c66_68 a_9 (by decide) (by decide) (x_aldn c66_69 rfl (x_gfr c66_70 k_0_5 (x_gfr c66_73 k_7_5 (x_ci c66_76 (x_iald c66_77 a_9 (by decide) (by decide) (x_aldn c66_78 rfl (x_gfr c66_79 k_0_5 (x_gfr c66_82 k_7_5 (x_ci c66_85 (x_iald c66_86 a_9 (by decide) (by decide) (wp_wk (l' := [some (jR 0), some (jI x1), some (jI (M 11 4)), none]) ⟨rfl, ⟨rfl, ⟨rfl, trivial⟩⟩⟩ (x_cv (As := [jI (M 9 0), jI (M 9 1), jI (M 9 2)]) (st := []) c66_87 cl_11 kl51 rfl (Nat.le_of_ble_eq_true rfl) mx51 (Nat.le_refl _) (H.2.1 h1)))))))))))))))))))), ⟨fun h2 => (x_aldn c66_94 rfl (x_gfr c66_95 k_0_6 (x_aldn c66_98 rfl (x_gfr c66_99 k_0_5 (x_gfi c66_102 k_7_11 (x_aldn c66_105 rfl (x_gfr c66_106 k_0_5 (x_gfi c66_109 k_7_12 (x_aldn c66_112 rfl (x_gfr c66_113 k_0_5 (x_gfr c66_116 k_7_13 (x_aldn c66_119 rfl (x_gfr c66_120 k_0_5 (x_gfi c66_123 k_7_14 (wp_wk (l' := [some (jR 0), some (jI x1), some (jI (M 11 4)), none]) ⟨rfl, ⟨rfl, ⟨rfl, trivial⟩⟩⟩ (x_cv (As := [jI (M 7 11), jI (M 7 12), jR 10, jI (M 7 14)]) (st := []) c66_126 cl_11 kl52 rfl (Nat.le_of_ble_eq_true rfl) mx52 (Nat.le_refl _) (H.2.2.1 h2))))))))))))))))), ⟨fun h3 => (x_aldn c66_133 rfl (x_gfr c66_134 k_0_6 (x_aldn c66_137 rfl (x_gfr c66_138 k_0_5 (x_gfi c66_141 k_7_10 (x_aldn c66_144 rfl (x_gfr c66_145 k_0_5 (x_gfi c66_148 k_7_11 (x_aldn c66_151 rfl (x_gfr c66_152 k_0_5 (x_gfi c66_155 k_7_12 (wp_wk (l' := [some (jR 0), some (jI x1), some (jI (M 11 4)), none]) ⟨rfl, ⟨rfl, ⟨rfl, trivial⟩⟩⟩ (x_cv (As := [jI (M 7 10), jI (M 7 11), jI (M 7 12)]) (st := []) c66_158 cl_11 kl55 rfl (Nat.le_of_ble_eq_true rfl) mx55 (Nat.le_refl _) (H.2.2.2.1 h3)))))))))))))), ⟨fun h4 => (x_aldn c66_165 rfl (x_gfr c66_166 k_0_6 (x_aldn c66_169 rfl (x_gfr c66_170 k_0_5 (x_gfr c66_173 k_7_5 (x_ci c66_176 (x_iald c66_177 a_9 (by decide) (by decide) (x_aldn c66_178 rfl (x_gfr c66_179 k_0_5 (x_gfr c66_182 k_7_5 (x_ci c66_185 (x_iald c66_186 a_9 (by decide) (by decide) (wp_wk (l' := [some (jR 0), some (jI x1), some (jI (M 11 4)), none]) ⟨rfl, ⟨rfl, ⟨rfl, trivial⟩⟩⟩ (x_cv (As := [jI (M 9 0), jI (M 9 1)]) (st := []) c66_187 cl_11 kl57 rfl (Nat.le_of_ble_eq_true rfl) mx57 (Nat.le_refl _) (H.2.2.2.2.1 h4))))))))))))))), ⟨fun h5 => (x_aldn c66_194 rfl (x_gfr c66_195 k_0_6 (wp_wk (l' := [some (jR 0), some (jI x1), some (jI (M 11 4)), none]) ⟨rfl, ⟨rfl, ⟨rfl, trivial⟩⟩⟩ (x_cv (As := []) (st := []) c66_198 cl_11 kl67 rfl (Nat.le_of_ble_eq_true rfl) mx67 (Nat.le_refl _) (H.2.2.2.2.2.1 h5))))), ⟨fun h6 => (x_aldn c66_216 rfl (x_gfr c66_217 k_0_6 (x_aldn c66_220 rfl (x_gfr c66_221 k_0_3 (wp_wk (l' := [none, none, none, none]) trivial (x_cv (As := [jR 3]) (st := []) c66_224 cl_11 kl68 rfl (Nat.le_of_ble_eq_true rfl) mx68 (Nat.le_refl _) (H.2.2.2.2.2.2.1 h6))))))), ⟨fun h7 => (x_aldn c66_205 rfl (x_gfr c66_206 k_0_5 (x_gfd c66_209 k_7_4 (x_astn (l' := [some (jR 0), some (jI x1), some (jI (M 11 4)), some (jR ((M 7 4).toNat))]) c66_212 rfl (x_goto c66_213 (x_aldn c66_228 rfl (wp_wk (l' := [some (jR 0), some (jI x1), some (jI (M 11 4)), some (jR ((M 7 4).toNat))]) ⟨rfl, ⟨rfl, ⟨rfl, ⟨rfl, trivial⟩⟩⟩⟩ (x_cl (b := (M 7 4).toNat) (As := []) (st := []) c66_229 kl50 (H.2.2.2.2.2.2.2.1 h7).1 rfl (Nat.le_of_ble_eq_true rfl) mx50 (Nat.le_refl _) (H.2.2.2.2.2.2.2.1 h7).2)))))))), trivial⟩⟩⟩⟩⟩⟩⟩ (fun h8 => (x_aldn c66_216 rfl (x_gfr c66_217 k_0_6 (x_aldn c66_220 rfl (x_gfr c66_221 k_0_3 (wp_wk (l' := [none, none, none, none]) trivial (x_cv (As := [jR 3]) (st := []) c66_224 cl_11 kl68 rfl (Nat.le_of_ble_eq_true rfl) mx68 (Nat.le_refl _) (H.2.2.2.2.2.2.2.2 h8))))))))))))))))
theorem s66_90 {kc : List va_E} {d : Nat} {u0 : Nat} {v1 v2 : Int} {M : fx_M} {Q : Option fx_V → fx_M → Prop} (H : fx_lit kc u0 ∧ wc kc d 50 [jR u0] M (fun v M1 => wp kc (d + 1) 66 232 [some (jR 0), some (jI v1), some (jI v2), some (jR u0)] (v.toList ++ []) M1 Q)) : wp kc (d + 1) 66 90 [some (jR 0), some (jI v1), some (jI v2), none] [jR u0] M Q :=
  (x_astn (l' := [some (jR 0), some (jI v1), some (jI v2), some (jR u0)]) c66_90 rfl (x_goto c66_91 (x_aldn c66_228 rfl (wp_wk (l' := [some (jR 0), some (jI v1), some (jI v2), some (jR u0)]) ⟨rfl, ⟨rfl, ⟨rfl, ⟨rfl, trivial⟩⟩⟩⟩ (x_cl (b := u0) (As := []) (st := []) c66_229 kl50 H.1 rfl (Nat.le_of_ble_eq_true rfl) mx50 (Nat.le_refl _) H.2)))))
theorem s66_129 {kc : List va_E} {d : Nat} {u0 : Nat} {v1 v2 : Int} {M : fx_M} {Q : Option fx_V → fx_M → Prop} (H : fx_lit kc u0 ∧ wc kc d 50 [jR u0] M (fun v M1 => wp kc (d + 1) 66 232 [some (jR 0), some (jI v1), some (jI v2), some (jR u0)] (v.toList ++ []) M1 Q)) : wp kc (d + 1) 66 129 [some (jR 0), some (jI v1), some (jI v2), none] [jR u0] M Q :=
  (x_astn (l' := [some (jR 0), some (jI v1), some (jI v2), some (jR u0)]) c66_129 rfl (x_goto c66_130 (x_aldn c66_228 rfl (wp_wk (l' := [some (jR 0), some (jI v1), some (jI v2), some (jR u0)]) ⟨rfl, ⟨rfl, ⟨rfl, ⟨rfl, trivial⟩⟩⟩⟩ (x_cl (b := u0) (As := []) (st := []) c66_229 kl50 H.1 rfl (Nat.le_of_ble_eq_true rfl) mx50 (Nat.le_refl _) H.2)))))
theorem s66_161 {kc : List va_E} {d : Nat} {u0 : Nat} {v1 v2 : Int} {M : fx_M} {Q : Option fx_V → fx_M → Prop} (H : fx_lit kc u0 ∧ wc kc d 50 [jR u0] M (fun v M1 => wp kc (d + 1) 66 232 [some (jR 0), some (jI v1), some (jI v2), some (jR u0)] (v.toList ++ []) M1 Q)) : wp kc (d + 1) 66 161 [some (jR 0), some (jI v1), some (jI v2), none] [jR u0] M Q :=
  (x_astn (l' := [some (jR 0), some (jI v1), some (jI v2), some (jR u0)]) c66_161 rfl (x_goto c66_162 (x_aldn c66_228 rfl (wp_wk (l' := [some (jR 0), some (jI v1), some (jI v2), some (jR u0)]) ⟨rfl, ⟨rfl, ⟨rfl, ⟨rfl, trivial⟩⟩⟩⟩ (x_cl (b := u0) (As := []) (st := []) c66_229 kl50 H.1 rfl (Nat.le_of_ble_eq_true rfl) mx50 (Nat.le_refl _) H.2)))))
theorem s66_190 {kc : List va_E} {d : Nat} {u0 : Nat} {v1 v2 : Int} {M : fx_M} {Q : Option fx_V → fx_M → Prop} (H : fx_lit kc u0 ∧ wc kc d 50 [jR u0] M (fun v M1 => wp kc (d + 1) 66 232 [some (jR 0), some (jI v1), some (jI v2), some (jR u0)] (v.toList ++ []) M1 Q)) : wp kc (d + 1) 66 190 [some (jR 0), some (jI v1), some (jI v2), none] [jR u0] M Q :=
  (x_astn (l' := [some (jR 0), some (jI v1), some (jI v2), some (jR u0)]) c66_190 rfl (x_goto c66_191 (x_aldn c66_228 rfl (wp_wk (l' := [some (jR 0), some (jI v1), some (jI v2), some (jR u0)]) ⟨rfl, ⟨rfl, ⟨rfl, ⟨rfl, trivial⟩⟩⟩⟩ (x_cl (b := u0) (As := []) (st := []) c66_229 kl50 H.1 rfl (Nat.le_of_ble_eq_true rfl) mx50 (Nat.le_refl _) H.2)))))
theorem s66_201 {kc : List va_E} {d : Nat} {u0 : Nat} {v1 v2 : Int} {M : fx_M} {Q : Option fx_V → fx_M → Prop} (H : fx_lit kc u0 ∧ wc kc d 50 [jR u0] M (fun v M1 => wp kc (d + 1) 66 232 [some (jR 0), some (jI v1), some (jI v2), some (jR u0)] (v.toList ++ []) M1 Q)) : wp kc (d + 1) 66 201 [some (jR 0), some (jI v1), some (jI v2), none] [jR u0] M Q :=
  (x_astn (l' := [some (jR 0), some (jI v1), some (jI v2), some (jR u0)]) c66_201 rfl (x_goto c66_202 (x_aldn c66_228 rfl (wp_wk (l' := [some (jR 0), some (jI v1), some (jI v2), some (jR u0)]) ⟨rfl, ⟨rfl, ⟨rfl, ⟨rfl, trivial⟩⟩⟩⟩ (x_cl (b := u0) (As := []) (st := []) c66_229 kl50 H.1 rfl (Nat.le_of_ble_eq_true rfl) mx50 (Nat.le_refl _) H.2)))))
theorem s66_227 {kc : List va_E} {d : Nat} {M : fx_M} {Q : Option fx_V → fx_M → Prop} (H : Q none M) : wp kc (d + 1) 66 227 [none, none, none, none] [] M Q :=
  (x_vr c66_227 r66 H)
theorem s66_232 {kc : List va_E} {d : Nat} {v3 : Nat} {v1 v2 u0 : Int} {M : fx_M} {Q : Option fx_V → fx_M → Prop} (H : ((fx_in32 u0)) ∧ (u0 ≠ 0 → ((fx_in32 v1)) ∧ (v1 ≠ 6 → wc kc d 73 [jR 53] M (fun v M1 => wp kc (d + 1) 66 268 [some (jR 0), some (jI v1), some (jI v2), none] (v.toList ++ []) M1 Q)) ∧ (v1 = 6 → wc kc d 72 [jR 11, jR 20] M (fun v M1 => wp kc (d + 1) 66 261 [some (jR 0), some (jI v1), some (jI v2), none] (v.toList ++ []) M1 Q))) ∧ (u0 = 0 → wc kc d 64 [jR 3, jR v3] M (fun v M1 => wp kc (d + 1) 66 243 [none, none, none, none] (v.toList ++ []) M1 Q))) : wp kc (d + 1) 66 232 [some (jR 0), some (jI v1), some (jI v2), some (jR v3)] [jI u0] M Q :=
  (x_zne c66_232 H.1 (fun h3 => (x_ildn c66_244 rfl (x_ci c66_245 (x_cne c66_247 (H.2.1 h3).1 (by decide) (fun h1 => (x_aldn c66_261 rfl (x_gfr c66_262 k_0_14 (wp_wk (l' := [some (jR 0), some (jI v1), some (jI v2), none]) ⟨rfl, ⟨rfl, ⟨rfl, trivial⟩⟩⟩ (x_cv (As := []) (st := []) c66_265 cl_53 kl73 rfl (Nat.le_of_ble_eq_true rfl) mx73 (Nat.le_refl _) ((H.2.1 h3).2.1 h1)))))) (fun h2 => (x_aldn c66_250 rfl (x_gfr c66_251 k_0_6 (x_aldn c66_254 rfl (x_gfr c66_255 k_0_7 (wp_wk (l' := [some (jR 0), some (jI v1), some (jI v2), none]) ⟨rfl, ⟨rfl, ⟨rfl, trivial⟩⟩⟩ (x_cv (As := [jR 20]) (st := []) c66_258 cl_11 kl72 rfl (Nat.le_of_ble_eq_true rfl) mx72 (Nat.le_refl _) ((H.2.1 h3).2.2 h2)))))))))))) (fun h4 => (x_aldn c66_235 rfl (x_gfr c66_236 k_0_3 (x_aldn c66_239 rfl (wp_wk (l' := [none, none, none, none]) trivial (x_cv (As := [jR v3]) (st := []) c66_240 cl_3 kl64 rfl (Nat.le_of_ble_eq_true rfl) mx64 (Nat.le_refl _) (H.2.2 h4))))))))
theorem s66_243 {kc : List va_E} {d : Nat} {M : fx_M} {Q : Option fx_V → fx_M → Prop} (H : Q none M) : wp kc (d + 1) 66 243 [none, none, none, none] [] M Q :=
  (x_vr c66_243 r66 H)
theorem s66_261 {kc : List va_E} {d : Nat} {v1 v2 : Int} {M : fx_M} {Q : Option fx_V → fx_M → Prop} (H : wc kc d 73 [jR 53] M (fun v M1 => wp kc (d + 1) 66 268 [some (jR 0), some (jI v1), some (jI v2), none] (v.toList ++ []) M1 Q)) : wp kc (d + 1) 66 261 [some (jR 0), some (jI v1), some (jI v2), none] [] M Q :=
  (x_aldn c66_261 rfl (x_gfr c66_262 k_0_14 (wp_wk (l' := [some (jR 0), some (jI v1), some (jI v2), none]) ⟨rfl, ⟨rfl, ⟨rfl, trivial⟩⟩⟩ (x_cv (As := []) (st := []) c66_265 cl_53 kl73 rfl (Nat.le_of_ble_eq_true rfl) mx73 (Nat.le_refl _) H))))
theorem s66_268 {kc : List va_E} {d : Nat} {v1 v2 : Int} {M : fx_M} {Q : Option fx_V → fx_M → Prop} (H : ((fx_in32 v1)) ∧ (v1 ≠ 1 → ((fx_in32 v1)) ∧ (v1 ≠ 2 → wc kc d 64 [jR 3, jR 1000063] M (fun v M1 => wp kc (d + 1) 66 338 [none, none, none, none] (v.toList ++ []) M1 Q)) ∧ (v1 = 2 → wc kc d 64 [jR 3, jR 1000061] M (fun v M1 => wp kc (d + 1) 66 309 [some (jR 0), none, some (jI v2), none] (v.toList ++ []) M1 Q))) ∧ (v1 = 1 → wc kc d 64 [jR 3, jR 1000059] M (fun v M1 => wp kc (d + 1) 66 283 [some (jR 0), none, some (jI v2), none] (v.toList ++ []) M1 Q))) : wp kc (d + 1) 66 268 [some (jR 0), some (jI v1), some (jI v2), none] [] M Q :=
  (x_ildn c66_268 rfl (x_ci c66_269 (x_cne c66_270 H.1 (by decide) (fun h3 => (x_ildn c66_294 rfl (x_ci c66_295 (x_cne c66_296 (H.2.1 h3).1 (by decide) (fun h1 => (x_aldn c66_328 rfl (x_gfr c66_329 k_0_3 (x_cr c66_332 (wp_wk (l' := [none, none, none, none]) trivial (x_cv (As := [jR 1000063]) (st := []) c66_335 cl_3 kl64 rfl (Nat.le_of_ble_eq_true rfl) mx64 (Nat.le_refl _) ((H.2.1 h3).2.1 h1))))))) (fun h2 => (x_aldn c66_299 rfl (x_gfr c66_300 k_0_3 (x_cr c66_303 (wp_wk (l' := [some (jR 0), none, some (jI v2), none]) ⟨rfl, ⟨rfl, trivial⟩⟩ (x_cv (As := [jR 1000061]) (st := []) c66_306 cl_3 kl64 rfl (Nat.le_of_ble_eq_true rfl) mx64 (Nat.le_refl _) ((H.2.1 h3).2.2 h2))))))))))) (fun h4 => (x_aldn c66_273 rfl (x_gfr c66_274 k_0_3 (x_cr c66_277 (wp_wk (l' := [some (jR 0), none, some (jI v2), none]) ⟨rfl, ⟨rfl, trivial⟩⟩ (x_cv (As := [jR 1000059]) (st := []) c66_280 cl_3 kl64 rfl (Nat.le_of_ble_eq_true rfl) mx64 (Nat.le_refl _) (H.2.2 h4))))))))))
theorem s66_283 {kc : List va_E} {d : Nat} {v2 : Int} {M : fx_M} {Q : Option fx_V → fx_M → Prop} (H : wc kc d 65 [jR 3, jI v2] M (fun v M1 => wp kc (d + 1) 66 291 [none, none, none, none] (v.toList ++ []) M1 Q)) : wp kc (d + 1) 66 283 [some (jR 0), none, some (jI v2), none] [] M Q :=
  (x_aldn c66_283 rfl (x_gfr c66_284 k_0_3 (x_ildn c66_287 rfl (wp_wk (l' := [none, none, none, none]) trivial (x_cv (As := [jI v2]) (st := []) c66_288 cl_3 kl65 rfl (Nat.le_of_ble_eq_true rfl) mx65 (Nat.le_refl _) H)))))
theorem s66_291 {kc : List va_E} {d : Nat} {M : fx_M} {Q : Option fx_V → fx_M → Prop} (H : Q none M) : wp kc (d + 1) 66 291 [none, none, none, none] [] M Q :=
  (x_goto c66_291 (x_vr c66_338 r66 H))
theorem s66_309 {kc : List va_E} {d : Nat} {v2 : Int} {M : fx_M} {Q : Option fx_V → fx_M → Prop} (H : wc kc d 65 [jR 3, jI ((M 11 4) - v2)] M (fun v M1 => wp kc (d + 1) 66 325 [none, none, none, none] (v.toList ++ []) M1 Q)) : wp kc (d + 1) 66 309 [some (jR 0), none, some (jI v2), none] [] M Q :=
  (x_aldn c66_309 rfl (x_gfr c66_310 k_0_3 (x_aldn c66_313 rfl (x_gfr c66_314 k_0_6 (x_gfi c66_317 k_11_4 (x_ildn c66_320 rfl (x_isub c66_321 (wp_wk (l' := [none, none, none, none]) trivial (x_cv (As := [jI ((M 11 4) - v2)]) (st := []) c66_322 cl_3 kl65 rfl (Nat.le_of_ble_eq_true rfl) mx65 (Nat.le_refl _) H)))))))))
theorem s66_325 {kc : List va_E} {d : Nat} {M : fx_M} {Q : Option fx_V → fx_M → Prop} (H : Q none M) : wp kc (d + 1) 66 325 [none, none, none, none] [] M Q :=
  (x_goto c66_325 (x_vr c66_338 r66 H))
theorem s66_338 {kc : List va_E} {d : Nat} {M : fx_M} {Q : Option fx_V → fx_M → Prop} (H : Q none M) : wp kc (d + 1) 66 338 [none, none, none, none] [] M Q :=
  (x_vr c66_338 r66 H)
theorem s66 {kc : List va_E} {d : Nat} {x1 : Int} {M : fx_M} {Q : Option fx_V → fx_M → Prop} (H : fx_in32 x1 ∧ (x1 = 0 → wc kc d 51 [jR 11, jI (M 9 0), jI (M 9 1), jI (M 9 2)] M (fun v M1 => wp kc (d + 1) 66 90 [some (jR 0), some (jI x1), some (jI (M 11 4)), none] (v.toList ++ []) M1 Q)) ∧ (x1 = 1 → wc kc d 52 [jR 11, jI (M 7 11), jI (M 7 12), jR 10, jI (M 7 14)] M (fun v M1 => wp kc (d + 1) 66 129 [some (jR 0), some (jI x1), some (jI (M 11 4)), none] (v.toList ++ []) M1 Q)) ∧ (x1 = 2 → wc kc d 55 [jR 11, jI (M 7 10), jI (M 7 11), jI (M 7 12)] M (fun v M1 => wp kc (d + 1) 66 161 [some (jR 0), some (jI x1), some (jI (M 11 4)), none] (v.toList ++ []) M1 Q)) ∧ (x1 = 3 → wc kc d 57 [jR 11, jI (M 9 0), jI (M 9 1)] M (fun v M1 => wp kc (d + 1) 66 190 [some (jR 0), some (jI x1), some (jI (M 11 4)), none] (v.toList ++ []) M1 Q)) ∧ (x1 = 4 → wc kc d 67 [jR 11] M (fun v M1 => wp kc (d + 1) 66 201 [some (jR 0), some (jI x1), some (jI (M 11 4)), none] (v.toList ++ []) M1 Q)) ∧ (x1 = 5 → wc kc d 68 [jR 11, jR 3] M (fun v M1 => wp kc (d + 1) 66 227 [none, none, none, none] (v.toList ++ []) M1 Q)) ∧ (x1 = 6 → fx_lit kc ((M 7 4).toNat) ∧ wc kc d 50 [jR ((M 7 4).toNat)] M (fun v M1 => wp kc (d + 1) 66 232 [some (jR 0), some (jI x1), some (jI (M 11 4)), some (jR ((M 7 4).toNat))] (v.toList ++ []) M1 Q)) ∧ ((x1 < 0 ∨ 7 ≤ x1) → wc kc d 68 [jR 11, jR 3] M (fun v M1 => wp kc (d + 1) 66 227 [none, none, none, none] (v.toList ++ []) M1 Q))) : wc kc (d + 1) 66 [jR 0, jI x1] M Q :=
  wc_of (wp_wk (l' := [some (jR 0), some (jI x1), none, none]) ⟨rfl, ⟨rfl, trivial⟩⟩ (s66_0 H))

/- PuzzleHouse.answersRequest(I)V -/
theorem c74_0 : fx_op 74 0 = some (.aload_n 0, 1, 0) := by decide +kernel
theorem c74_1 : fx_gf 74 1 = some (0, 6, 4) := by decide +kernel
theorem c74_4 : fx_ca 74 4 = some (75, 1, 2, 7) := by decide +kernel
theorem c74_7 : fx_op 74 7 = some (.iload_n 1, 8, 7) := by decide +kernel
theorem c74_48 : fx_op 74 48 = some (.aload_n 0, 49, 48) := by decide +kernel
theorem c74_49 : fx_gf 74 49 = some (0, 8, 52) := by decide +kernel
theorem c74_52 : fx_op 74 52 = some (.aload_n 0, 53, 52) := by decide +kernel
theorem c74_53 : fx_gf 74 53 = some (0, 5, 56) := by decide +kernel
theorem c74_56 : fx_gf 74 56 = some (2, 5, 59) := by decide +kernel
theorem c74_59 : fx_ci 74 59 = some (0, 60) := by decide +kernel
theorem c74_60 : fx_op 74 60 = some (.iaload, 61, 60) := by decide +kernel
theorem c74_67 : fx_op 74 67 = some (.aload_n 0, 68, 67) := by decide +kernel
theorem c74_68 : fx_gf 74 68 = some (0, 3, 71) := by decide +kernel
theorem c74_71 : fx_op 74 71 = some (.aload_n 0, 72, 71) := by decide +kernel
theorem c74_72 : fx_gf 74 72 = some (0, 8, 75) := by decide +kernel
theorem c74_75 : fx_op 74 75 = some (.aload_n 0, 76, 75) := by decide +kernel
theorem c74_76 : fx_gf 74 76 = some (0, 6, 79) := by decide +kernel
theorem c74_94 : fx_op 74 94 = some (.aload_n 0, 95, 94) := by decide +kernel
theorem c74_95 : fx_gf 74 95 = some (0, 8, 98) := by decide +kernel
theorem c74_98 : fx_op 74 98 = some (.aload_n 0, 99, 98) := by decide +kernel
theorem c74_99 : fx_gf 74 99 = some (0, 5, 102) := by decide +kernel
theorem c74_102 : fx_gf 74 102 = some (2, 5, 105) := by decide +kernel
theorem c74_105 : fx_ci 74 105 = some (0, 106) := by decide +kernel
theorem c74_106 : fx_op 74 106 = some (.iaload, 107, 106) := by decide +kernel
theorem c74_113 : fx_op 74 113 = some (.aload_n 0, 114, 113) := by decide +kernel
theorem c74_114 : fx_gf 74 114 = some (0, 8, 117) := by decide +kernel
theorem c74_123 : fx_op 74 123 = some (.aload_n 0, 124, 123) := by decide +kernel
theorem c74_124 : fx_gf 74 124 = some (0, 8, 127) := by decide +kernel
theorem c74_143 : fx_op 74 143 = some (.aload_n 0, 144, 143) := by decide +kernel
theorem c74_144 : fx_gf 74 144 = some (0, 8, 147) := by decide +kernel
theorem c74_147 : fx_op 74 147 = some (.aload_n 0, 148, 147) := by decide +kernel
theorem c74_148 : fx_gf 74 148 = some (0, 5, 151) := by decide +kernel
theorem c74_151 : fx_gf 74 151 = some (2, 5, 154) := by decide +kernel
theorem c74_154 : fx_ci 74 154 = some (0, 155) := by decide +kernel
theorem c74_155 : fx_op 74 155 = some (.iaload, 156, 155) := by decide +kernel
theorem c74_156 : fx_op 74 156 = some (.aload_n 0, 157, 156) := by decide +kernel
theorem c74_157 : fx_gf 74 157 = some (0, 5, 160) := by decide +kernel
theorem c74_160 : fx_gf 74 160 = some (2, 5, 163) := by decide +kernel
theorem c74_163 : fx_ci 74 163 = some (1, 164) := by decide +kernel
theorem c74_164 : fx_op 74 164 = some (.iaload, 165, 164) := by decide +kernel
theorem c74_181 : fx_op 74 181 = some (.aload_n 0, 182, 181) := by decide +kernel
theorem c74_61 : fx_ca 74 61 = some (80, 2, 2, 64) := by decide +kernel
theorem c74_79 : fx_ca 74 79 = some (81, 1, 2, 82) := by decide +kernel
theorem c74_107 : fx_ca 74 107 = some (92, 2, 2, 110) := by decide +kernel
theorem c74_117 : fx_ca 74 117 = some (94, 1, 2, 120) := by decide +kernel
theorem c74_127 : fx_ca 74 127 = some (96, 1, 2, 130) := by decide +kernel
theorem c74_165 : fx_ca 74 165 = some (98, 3, 2, 168) := by decide +kernel
theorem c74_8 : fx_ts 74 8 = some (7, [48, 67, 94, 113, 123, 143], 181) := by decide +kernel
theorem c74_182 : fx_ca 74 182 = some (101, 1, 2, 185) := by decide +kernel
theorem c74_64 : fx_op 74 64 = some (.goto 121, 67, 185) := by decide +kernel
theorem c74_185 : fx_op 74 185 = some (.return_, 186, 185) := by decide +kernel
theorem c74_82 : fx_ci 74 82 = some (1048576, 85) := by decide +kernel
theorem c74_85 : fx_ca 74 85 = some (89, 3, 2, 88) := by decide +kernel
theorem c74_110 : fx_op 74 110 = some (.goto 75, 113, 185) := by decide +kernel
theorem c74_120 : fx_op 74 120 = some (.goto 65, 123, 185) := by decide +kernel
theorem c74_130 : fx_op 74 130 = some (.ifCond .eq 55, 133, 185) := by decide +kernel
theorem c74_133 : fx_op 74 133 = some (.aload_n 0, 134, 133) := by decide +kernel
theorem c74_134 : fx_gf 74 134 = some (0, 14, 137) := by decide +kernel
theorem c74_137 : fx_ca 74 137 = some (73, 1, 2, 140) := by decide +kernel
theorem c74_168 : fx_op 74 168 = some (.ifCond .eq 17, 171, 185) := by decide +kernel
theorem c74_171 : fx_op 74 171 = some (.aload_n 0, 172, 171) := by decide +kernel
theorem c74_172 : fx_gf 74 172 = some (0, 14, 175) := by decide +kernel
theorem c74_175 : fx_ca 74 175 = some (73, 1, 2, 178) := by decide +kernel
theorem c74_88 : fx_ca 74 88 = some (65, 2, 2, 91) := by decide +kernel
theorem c74_140 : fx_op 74 140 = some (.goto 45, 143, 185) := by decide +kernel
theorem c74_178 : fx_op 74 178 = some (.goto 7, 181, 185) := by decide +kernel
theorem c74_91 : fx_op 74 91 = some (.goto 94, 94, 185) := by decide +kernel
theorem s74_0 {kc : List va_E} {d : Nat} {x1 : Int} {M : fx_M} {Q : Option fx_V → fx_M → Prop} (H : wc kc d 75 [jR 11] M (fun v M1 => wp kc (d + 1) 74 7 [some (jR 0), some (jI x1)] (v.toList ++ []) M1 Q)) : wp kc (d + 1) 74 0 [some (jR 0), some (jI x1)] [] M Q :=
  (x_aldn c74_0 rfl (x_gfr c74_1 k_0_6 (wp_wk (l' := [some (jR 0), some (jI x1)]) ⟨rfl, ⟨rfl, trivial⟩⟩ (x_cv (As := []) (st := []) c74_4 cl_11 kl75 rfl (Nat.le_of_ble_eq_true rfl) mx75 (Nat.le_refl _) H))))
theorem s74_7 {kc : List va_E} {d : Nat} {v1 : Int} {M : fx_M} {Q : Option fx_V → fx_M → Prop} (H : fx_in32 v1 ∧ (v1 = 7 → wc kc d 80 [jR 29, jI (M 9 0)] M (fun v M1 => wp kc (d + 1) 74 64 [none, none] (v.toList ++ []) M1 Q)) ∧ (v1 = 8 → wc kc d 81 [jR 11] M (fun v M1 => wp kc (d + 1) 74 82 [none, none] (v.toList ++ [jR 29, jR 3]) M1 Q)) ∧ (v1 = 9 → wc kc d 92 [jR 29, jI (M 9 0)] M (fun v M1 => wp kc (d + 1) 74 110 [none, none] (v.toList ++ []) M1 Q)) ∧ (v1 = 10 → wc kc d 94 [jR 29] M (fun v M1 => wp kc (d + 1) 74 120 [none, none] (v.toList ++ []) M1 Q)) ∧ (v1 = 11 → wc kc d 96 [jR 29] M (fun v M1 => wp kc (d + 1) 74 130 [some (jR 0), none] (v.toList ++ []) M1 Q)) ∧ (v1 = 12 → wc kc d 98 [jR 29, jI (M 9 0), jI (M 9 1)] M (fun v M1 => wp kc (d + 1) 74 168 [some (jR 0), none] (v.toList ++ []) M1 Q)) ∧ ((v1 < 7 ∨ 13 ≤ v1) → wc kc d 101 [jR 0] M (fun v M1 => wp kc (d + 1) 74 185 [none, none] (v.toList ++ []) M1 Q))) : wp kc (d + 1) 74 7 [some (jR 0), some (jI v1)] [] M Q :=
  (x_ildn c74_7 rfl (x_sw c74_8 H.1 ⟨fun h1 => (x_aldn c74_48 rfl (x_gfr c74_49 k_0_8 (x_aldn c74_52 rfl (x_gfr c74_53 k_0_5 (x_gfr c74_56 k_7_5 (x_ci c74_59 (x_iald c74_60 a_9 (by decide) (by decide) (wp_wk (l' := [none, none]) trivial (x_cv (As := [jI (M 9 0)]) (st := []) c74_61 cl_29 kl80 rfl (Nat.le_of_ble_eq_true rfl) mx80 (Nat.le_refl _) (H.2.1 h1)))))))))), ⟨fun h2 => (x_aldn c74_67 rfl (x_gfr c74_68 k_0_3 (x_aldn c74_71 rfl (x_gfr c74_72 k_0_8 (x_aldn c74_75 rfl (x_gfr c74_76 k_0_6 (wp_wk (l' := [none, none]) trivial (x_cv (As := []) (st := [jR 29, jR 3]) c74_79 cl_11 kl81 rfl (Nat.le_of_ble_eq_true rfl) mx81 (Nat.le_refl _) (H.2.2.1 h2))))))))), ⟨fun h3 => (x_aldn c74_94 rfl (x_gfr c74_95 k_0_8 (x_aldn c74_98 rfl (x_gfr c74_99 k_0_5 (x_gfr c74_102 k_7_5 (x_ci c74_105 (x_iald c74_106 a_9 (by decide) (by decide) (wp_wk (l' := [none, none]) trivial (x_cv (As := [jI (M 9 0)]) (st := []) c74_107 cl_29 kl92 rfl (Nat.le_of_ble_eq_true rfl) mx92 (Nat.le_refl _) (H.2.2.2.1 h3)))))))))), ⟨fun h4 => (x_aldn c74_113 rfl (x_gfr c74_114 k_0_8 (wp_wk (l' := [none, none]) trivial (x_cv (As := []) (st := []) c74_117 cl_29 kl94 rfl (Nat.le_of_ble_eq_true rfl) mx94 (Nat.le_refl _) (H.2.2.2.2.1 h4))))), ⟨fun h5 => (x_aldn c74_123 rfl (x_gfr c74_124 k_0_8 (wp_wk (l' := [some (jR 0), none]) ⟨rfl, trivial⟩ (x_cv (As := []) (st := []) c74_127 cl_29 kl96 rfl (Nat.le_of_ble_eq_true rfl) mx96 (Nat.le_refl _) (H.2.2.2.2.2.1 h5))))), ⟨fun h6 => (x_aldn c74_143 rfl (x_gfr c74_144 k_0_8 (x_aldn c74_147 rfl (x_gfr c74_148 k_0_5 (x_gfr c74_151 k_7_5 (x_ci c74_154 (x_iald c74_155 a_9 (by decide) (by decide) (x_aldn c74_156 rfl (x_gfr c74_157 k_0_5 (x_gfr c74_160 k_7_5 (x_ci c74_163 (x_iald c74_164 a_9 (by decide) (by decide) (wp_wk (l' := [some (jR 0), none]) ⟨rfl, trivial⟩ (x_cv (As := [jI (M 9 0), jI (M 9 1)]) (st := []) c74_165 cl_29 kl98 rfl (Nat.le_of_ble_eq_true rfl) mx98 (Nat.le_refl _) (H.2.2.2.2.2.2.1 h6))))))))))))))), trivial⟩⟩⟩⟩⟩⟩ (fun h7 => (x_aldn c74_181 rfl (wp_wk (l' := [none, none]) trivial (x_cv (As := []) (st := []) c74_182 cl_0 kl101 rfl (Nat.le_of_ble_eq_true rfl) mx101 (Nat.le_refl _) (H.2.2.2.2.2.2.2 h7)))))))
theorem s74_64 {kc : List va_E} {d : Nat} {M : fx_M} {Q : Option fx_V → fx_M → Prop} (H : Q none M) : wp kc (d + 1) 74 64 [none, none] [] M Q :=
  (x_goto c74_64 (x_vr c74_185 r74 H))
theorem s74_82 {kc : List va_E} {d : Nat} {u0 : Int} {M : fx_M} {Q : Option fx_V → fx_M → Prop} (H : wc kc d 89 [jR 29, jL u0, jI 1048576] M (fun v M1 => wp kc (d + 1) 74 88 [none, none] (v.toList ++ [jR 3]) M1 Q)) : wp kc (d + 1) 74 82 [none, none] [jL u0, jR 29, jR 3] M Q :=
  (x_ci c74_82 (wp_wk (l' := [none, none]) trivial (x_cv (As := [jL u0, jI 1048576]) (st := [jR 3]) c74_85 cl_29 kl89 rfl (Nat.le_of_ble_eq_true rfl) mx89 (Nat.le_refl _) H)))
theorem s74_88 {kc : List va_E} {d : Nat} {u0 : Int} {M : fx_M} {Q : Option fx_V → fx_M → Prop} (H : wc kc d 65 [jR 3, jI u0] M (fun v M1 => wp kc (d + 1) 74 91 [none, none] (v.toList ++ []) M1 Q)) : wp kc (d + 1) 74 88 [none, none] [jI u0, jR 3] M Q :=
  (wp_wk (l' := [none, none]) trivial (x_cv (As := [jI u0]) (st := []) c74_88 cl_3 kl65 rfl (Nat.le_of_ble_eq_true rfl) mx65 (Nat.le_refl _) H))
theorem s74_91 {kc : List va_E} {d : Nat} {M : fx_M} {Q : Option fx_V → fx_M → Prop} (H : Q none M) : wp kc (d + 1) 74 91 [none, none] [] M Q :=
  (x_goto c74_91 (x_vr c74_185 r74 H))
theorem s74_110 {kc : List va_E} {d : Nat} {M : fx_M} {Q : Option fx_V → fx_M → Prop} (H : Q none M) : wp kc (d + 1) 74 110 [none, none] [] M Q :=
  (x_goto c74_110 (x_vr c74_185 r74 H))
theorem s74_120 {kc : List va_E} {d : Nat} {M : fx_M} {Q : Option fx_V → fx_M → Prop} (H : Q none M) : wp kc (d + 1) 74 120 [none, none] [] M Q :=
  (x_goto c74_120 (x_vr c74_185 r74 H))
theorem s74_130 {kc : List va_E} {d : Nat} {u0 : Int} {M : fx_M} {Q : Option fx_V → fx_M → Prop} (H : ((fx_in32 u0)) ∧ (u0 = 0 → Q none M) ∧ (u0 ≠ 0 → wc kc d 73 [jR 53] M (fun v M1 => wp kc (d + 1) 74 140 [none, none] (v.toList ++ []) M1 Q))) : wp kc (d + 1) 74 130 [some (jR 0), none] [jI u0] M Q :=
  (x_zeq c74_130 H.1 (fun h1 => (x_vr c74_185 r74 (H.2.1 h1))) (fun h2 => (x_aldn c74_133 rfl (x_gfr c74_134 k_0_14 (wp_wk (l' := [none, none]) trivial (x_cv (As := []) (st := []) c74_137 cl_53 kl73 rfl (Nat.le_of_ble_eq_true rfl) mx73 (Nat.le_refl _) (H.2.2 h2)))))))
theorem s74_140 {kc : List va_E} {d : Nat} {M : fx_M} {Q : Option fx_V → fx_M → Prop} (H : Q none M) : wp kc (d + 1) 74 140 [none, none] [] M Q :=
  (x_goto c74_140 (x_vr c74_185 r74 H))
theorem s74_168 {kc : List va_E} {d : Nat} {u0 : Int} {M : fx_M} {Q : Option fx_V → fx_M → Prop} (H : ((fx_in32 u0)) ∧ (u0 = 0 → Q none M) ∧ (u0 ≠ 0 → wc kc d 73 [jR 53] M (fun v M1 => wp kc (d + 1) 74 178 [none, none] (v.toList ++ []) M1 Q))) : wp kc (d + 1) 74 168 [some (jR 0), none] [jI u0] M Q :=
  (x_zeq c74_168 H.1 (fun h1 => (x_vr c74_185 r74 (H.2.1 h1))) (fun h2 => (x_aldn c74_171 rfl (x_gfr c74_172 k_0_14 (wp_wk (l' := [none, none]) trivial (x_cv (As := []) (st := []) c74_175 cl_53 kl73 rfl (Nat.le_of_ble_eq_true rfl) mx73 (Nat.le_refl _) (H.2.2 h2)))))))
theorem s74_178 {kc : List va_E} {d : Nat} {M : fx_M} {Q : Option fx_V → fx_M → Prop} (H : Q none M) : wp kc (d + 1) 74 178 [none, none] [] M Q :=
  (x_goto c74_178 (x_vr c74_185 r74 H))
theorem s74_185 {kc : List va_E} {d : Nat} {M : fx_M} {Q : Option fx_V → fx_M → Prop} (H : Q none M) : wp kc (d + 1) 74 185 [none, none] [] M Q :=
  (x_vr c74_185 r74 H)
theorem s74 {kc : List va_E} {d : Nat} {x1 : Int} {M : fx_M} {Q : Option fx_V → fx_M → Prop} (H : wc kc d 75 [jR 11] M (fun v M1 => wp kc (d + 1) 74 7 [some (jR 0), some (jI x1)] (v.toList ++ []) M1 Q)) : wc kc (d + 1) 74 [jR 0, jI x1] M Q :=
  wc_of (wp_wk (l' := [some (jR 0), some (jI x1)]) ⟨rfl, ⟨rfl, trivial⟩⟩ (s74_0 H))

/- PuzzleHouse.only(JII)J -/
theorem c83_0 : fx_op 83 0 = some (.lload_n 0, 1, 0) := by decide +kernel
theorem c83_1 : fx_cj 83 1 = some (15, 4) := by decide +kernel
theorem c83_4 : fx_ci 83 4 = some (4, 5) := by decide +kernel
theorem c83_5 : fx_op 83 5 = some (.iload_n 2, 6, 5) := by decide +kernel
theorem c83_6 : fx_op 83 6 = some (.imul, 7, 6) := by decide +kernel
theorem c83_7 : fx_op 83 7 = some (.lshl, 8, 7) := by decide +kernel
theorem c83_8 : fx_cj 83 8 = some ((-1), 11) := by decide +kernel
theorem c83_11 : fx_op 83 11 = some (.lxor, 12, 11) := by decide +kernel
theorem c83_12 : fx_op 83 12 = some (.land, 13, 12) := by decide +kernel
theorem c83_13 : fx_cj 83 13 = some (1, 14) := by decide +kernel
theorem c83_14 : fx_ci 83 14 = some (4, 15) := by decide +kernel
theorem c83_15 : fx_op 83 15 = some (.iload_n 2, 16, 15) := by decide +kernel
theorem c83_16 : fx_op 83 16 = some (.imul, 17, 16) := by decide +kernel
theorem c83_17 : fx_op 83 17 = some (.iload_n 3, 18, 17) := by decide +kernel
theorem c83_18 : fx_op 83 18 = some (.iadd, 19, 18) := by decide +kernel
theorem c83_19 : fx_op 83 19 = some (.lshl, 20, 19) := by decide +kernel
theorem c83_20 : fx_op 83 20 = some (.lor, 21, 20) := by decide +kernel
theorem c83_21 : fx_op 83 21 = some (.lreturn, 22, 21) := by decide +kernel
theorem s83_0 {kc : List va_E} {d : Nat} {x0 x2 x3 : Int} {M : fx_M} {Q : Option fx_V → fx_M → Prop} (H : Q (some (jL (fx_lor (fx_land x0 (fx_lxor (fx_lshl 15 (4 * x2)) (-1))) (fx_lshl 1 ((4 * x2) + x3))))) M) : wp kc (d + 1) 83 0 [some (jL x0), none, some (jI x2), some (jI x3)] [] M Q :=
  (x_lldn c83_0 rfl (x_cj c83_1 (x_ci c83_4 (x_ildn c83_5 rfl (x_imul c83_6 (x_lshl c83_7 (x_cj c83_8 (x_lxor c83_11 (x_land c83_12 (x_cj c83_13 (x_ci c83_14 (x_ildn c83_15 rfl (x_imul c83_16 (x_ildn c83_17 rfl (x_iadd c83_18 (x_lshl c83_19 (x_lor c83_20 (x_lrt c83_21 r83 H))))))))))))))))))
theorem s83 {kc : List va_E} {d : Nat} {x0 x2 x3 : Int} {M : fx_M} {Q : Option fx_V → fx_M → Prop} (H : Q (some (jL (fx_lor (fx_land x0 (fx_lxor (fx_lshl 15 (4 * x2)) (-1))) (fx_lshl 1 ((4 * x2) + x3))))) M) : wc kc (d + 1) 83 [jL x0, jI x2, jI x3] M Q :=
  wc_of (wp_wk (l' := [some (jL x0), none, some (jI x2), some (jI x3)]) ⟨rfl, ⟨rfl, ⟨rfl, trivial⟩⟩⟩ (s83_0 H))

/- PuzzleHouse.may(JI)I -/
theorem c86_0 : fx_op 86 0 = some (.lload_n 0, 1, 0) := by decide +kernel
theorem c86_1 : fx_ci 86 1 = some (4, 2) := by decide +kernel
theorem c86_2 : fx_op 86 2 = some (.iload_n 2, 3, 2) := by decide +kernel
theorem c86_3 : fx_op 86 3 = some (.imul, 4, 3) := by decide +kernel
theorem c86_4 : fx_op 86 4 = some (.lushr, 5, 4) := by decide +kernel
theorem c86_5 : fx_op 86 5 = some (.l2i, 6, 5) := by decide +kernel
theorem c86_6 : fx_ci 86 6 = some (15, 8) := by decide +kernel
theorem c86_8 : fx_op 86 8 = some (.iand, 9, 8) := by decide +kernel
theorem c86_9 : fx_op 86 9 = some (.ireturn, 10, 9) := by decide +kernel
theorem s86_0 {kc : List va_E} {d : Nat} {x0 x2 : Int} {M : fx_M} {Q : Option fx_V → fx_M → Prop} (H : Q (some (jI (fx_and (fx_lushr x0 (4 * x2)) 15))) M) : wp kc (d + 1) 86 0 [some (jL x0), none, some (jI x2)] [] M Q :=
  (x_lldn c86_0 rfl (x_ci c86_1 (x_ildn c86_2 rfl (x_imul c86_3 (x_lushr c86_4 (x_l2i c86_5 (x_ci c86_6 (x_iand c86_8 (x_irt c86_9 r86 H)))))))))
theorem s86 {kc : List va_E} {d : Nat} {x0 x2 : Int} {M : fx_M} {Q : Option fx_V → fx_M → Prop} (H : Q (some (jI (fx_and (fx_lushr x0 (4 * x2)) 15))) M) : wc kc (d + 1) 86 [jL x0, jI x2] M Q :=
  wc_of (wp_wk (l' := [some (jL x0), none, some (jI x2)]) ⟨rfl, ⟨rfl, trivial⟩⟩ (s86_0 H))

/- PuzzleHouse.lowest(I)I -/
theorem c87_0 : fx_op 87 0 = some (.iload_n 0, 1, 0) := by decide +kernel
theorem c87_1 : fx_op 87 1 = some (.iload_n 0, 2, 1) := by decide +kernel
theorem c87_2 : fx_op 87 2 = some (.ineg, 3, 2) := by decide +kernel
theorem c87_3 : fx_op 87 3 = some (.iand, 4, 3) := by decide +kernel
theorem c87_4 : fx_ci 87 4 = some (1, 5) := by decide +kernel
theorem c87_5 : fx_op 87 5 = some (.isub, 6, 5) := by decide +kernel
theorem c87_6 : fx_ca 87 6 = some (79, 1, 0, 9) := by decide +kernel
theorem c87_9 : fx_op 87 9 = some (.ireturn, 10, 9) := by decide +kernel
theorem s87_0 {kc : List va_E} {d : Nat} {x0 : Int} {M : fx_M} {Q : Option fx_V → fx_M → Prop} (H : wc kc d 79 [jI ((fx_and x0 (-x0)) - 1)] M (fun v M1 => wp kc (d + 1) 87 9 [none] (v.toList ++ []) M1 Q)) : wp kc (d + 1) 87 0 [some (jI x0)] [] M Q :=
  (x_ildn c87_0 rfl (x_ildn c87_1 rfl (x_ineg c87_2 (x_iand c87_3 (x_ci c87_4 (x_isub c87_5 (wp_wk (l' := [none]) trivial (x_cs (As := [jI ((fx_and x0 (-x0)) - 1)]) (st := []) c87_6 (by decide) rfl (Nat.le_of_ble_eq_true rfl) mx79 (Nat.le_refl _) H))))))))
theorem s87_9 {kc : List va_E} {d : Nat} {u0 : Int} {M : fx_M} {Q : Option fx_V → fx_M → Prop} (H : Q (some (jI u0)) M) : wp kc (d + 1) 87 9 [none] [jI u0] M Q :=
  (x_irt c87_9 r87 H)
theorem s87 {kc : List va_E} {d : Nat} {x0 : Int} {M : fx_M} {Q : Option fx_V → fx_M → Prop} (H : wc kc d 79 [jI ((fx_and x0 (-x0)) - 1)] M (fun v M1 => wp kc (d + 1) 87 9 [none] (v.toList ++ []) M1 Q)) : wc kc (d + 1) 87 [jI x0] M Q :=
  wc_of (wp_wk (l' := [some (jI x0)]) ⟨rfl, trivial⟩ (s87_0 H))

/- PuzzleHouse.countWrong()V -/
theorem c101_0 : fx_op 101 0 = some (.aload_n 0, 1, 0) := by decide +kernel
theorem c101_1 : fx_gf 101 1 = some (0, 6, 4) := by decide +kernel
theorem c101_4 : fx_ca 101 4 = some (81, 1, 2, 7) := by decide +kernel
theorem c101_7 : fx_op 101 7 = some (.lstore_n 1, 8, 7) := by decide +kernel
theorem c101_8 : fx_op 101 8 = some (.aload_n 0, 9, 8) := by decide +kernel
theorem c101_9 : fx_gf 101 9 = some (0, 8, 12) := by decide +kernel
theorem c101_12 : fx_op 101 12 = some (.lload_n 1, 13, 12) := by decide +kernel
theorem c101_13 : fx_ci 101 13 = some (2, 14) := by decide +kernel
theorem c101_14 : fx_ca 101 14 = some (89, 3, 2, 17) := by decide +kernel
theorem c101_17 : fx_ci 101 17 = some (1, 18) := by decide +kernel
theorem c101_18 : fx_op 101 18 = some (.if_icmp .eq 16, 21, 34) := by decide +kernel
theorem c101_34 : fx_op 101 34 = some (.aload_n 0, 35, 34) := by decide +kernel
theorem c101_35 : fx_gf 101 35 = some (0, 3, 38) := by decide +kernel
theorem c101_38 : fx_op 101 38 = some (.aload_n 0, 39, 38) := by decide +kernel
theorem c101_39 : fx_gf 101 39 = some (0, 14, 42) := by decide +kernel
theorem c101_42 : fx_op 101 42 = some (.aload_n 0, 43, 42) := by decide +kernel
theorem c101_43 : fx_gf 101 43 = some (0, 8, 46) := by decide +kernel
theorem c101_46 : fx_op 101 46 = some (.lload_n 1, 47, 46) := by decide +kernel
theorem c101_47 : fx_ci 101 47 = some (0, 48) := by decide +kernel
theorem c101_21 : fx_op 101 21 = some (.aload_n 0, 22, 21) := by decide +kernel
theorem c101_22 : fx_gf 101 22 = some (0, 3, 25) := by decide +kernel
theorem c101_25 : fx_cr 101 25 = some (1000083, 28) := by decide +kernel
theorem c101_48 : fx_ca 101 48 = some (93, 3, 2, 51) := by decide +kernel
theorem c101_28 : fx_ca 101 28 = some (64, 2, 2, 31) := by decide +kernel
theorem c101_51 : fx_ca 101 51 = some (102, 2, 2, 54) := by decide +kernel
theorem c101_31 : fx_op 101 31 = some (.goto 26, 34, 57) := by decide +kernel
theorem c101_57 : fx_op 101 57 = some (.return_, 58, 57) := by decide +kernel
theorem c101_54 : fx_ca 101 54 = some (65, 2, 2, 57) := by decide +kernel
theorem s101_0 {kc : List va_E} {d : Nat} {M : fx_M} {Q : Option fx_V → fx_M → Prop} (H : wc kc d 81 [jR 11] M (fun v M1 => wp kc (d + 1) 101 7 [some (jR 0), none, none] (v.toList ++ []) M1 Q)) : wp kc (d + 1) 101 0 [some (jR 0), none, none] [] M Q :=
  (x_aldn c101_0 rfl (x_gfr c101_1 k_0_6 (wp_wk (l' := [some (jR 0), none, none]) ⟨rfl, trivial⟩ (x_cv (As := []) (st := []) c101_4 cl_11 kl81 rfl (Nat.le_of_ble_eq_true rfl) mx81 (Nat.le_refl _) H))))
theorem s101_7 {kc : List va_E} {d : Nat} {u0 : Int} {M : fx_M} {Q : Option fx_V → fx_M → Prop} (H : wc kc d 89 [jR 29, jL u0, jI 2] M (fun v M1 => wp kc (d + 1) 101 17 [some (jR 0), some (jL u0), none] (v.toList ++ []) M1 Q)) : wp kc (d + 1) 101 7 [some (jR 0), none, none] [jL u0] M Q :=
  (x_lstn (l' := [some (jR 0), some (jL u0), none]) c101_7 rfl (x_aldn c101_8 rfl (x_gfr c101_9 k_0_8 (x_lldn c101_12 rfl (x_ci c101_13 (wp_wk (l' := [some (jR 0), some (jL u0), none]) ⟨rfl, ⟨rfl, trivial⟩⟩ (x_cv (As := [jL u0, jI 2]) (st := []) c101_14 cl_29 kl89 rfl (Nat.le_of_ble_eq_true rfl) mx89 (Nat.le_refl _) H)))))))
theorem s101_17 {kc : List va_E} {d : Nat} {v1 u0 : Int} {M : fx_M} {Q : Option fx_V → fx_M → Prop} (H : ((fx_in32 u0)) ∧ (u0 = 1 → wc kc d 93 [jR 29, jL v1, jI 0] M (fun v M1 => wp kc (d + 1) 101 51 [none, none, none] (v.toList ++ [jR 53, jR 3]) M1 Q)) ∧ (u0 ≠ 1 → wc kc d 64 [jR 3, jR 1000083] M (fun v M1 => wp kc (d + 1) 101 31 [none, none, none] (v.toList ++ []) M1 Q))) : wp kc (d + 1) 101 17 [some (jR 0), some (jL v1), none] [jI u0] M Q :=
  (x_ci c101_17 (x_ceq c101_18 H.1 (by decide) (fun h1 => (x_aldn c101_34 rfl (x_gfr c101_35 k_0_3 (x_aldn c101_38 rfl (x_gfr c101_39 k_0_14 (x_aldn c101_42 rfl (x_gfr c101_43 k_0_8 (x_lldn c101_46 rfl (x_ci c101_47 (wp_wk (l' := [none, none, none]) trivial (x_cv (As := [jL v1, jI 0]) (st := [jR 53, jR 3]) c101_48 cl_29 kl93 rfl (Nat.le_of_ble_eq_true rfl) mx93 (Nat.le_refl _) (H.2.1 h1)))))))))))) (fun h2 => (x_aldn c101_21 rfl (x_gfr c101_22 k_0_3 (x_cr c101_25 (wp_wk (l' := [none, none, none]) trivial (x_cv (As := [jR 1000083]) (st := []) c101_28 cl_3 kl64 rfl (Nat.le_of_ble_eq_true rfl) mx64 (Nat.le_refl _) (H.2.2 h2)))))))))
theorem s101_31 {kc : List va_E} {d : Nat} {M : fx_M} {Q : Option fx_V → fx_M → Prop} (H : Q none M) : wp kc (d + 1) 101 31 [none, none, none] [] M Q :=
  (x_goto c101_31 (x_vr c101_57 r101 H))
theorem s101_51 {kc : List va_E} {d : Nat} {u0 : Int} {M : fx_M} {Q : Option fx_V → fx_M → Prop} (H : wc kc d 102 [jR 53, jL u0] M (fun v M1 => wp kc (d + 1) 101 54 [none, none, none] (v.toList ++ [jR 3]) M1 Q)) : wp kc (d + 1) 101 51 [none, none, none] [jL u0, jR 53, jR 3] M Q :=
  (wp_wk (l' := [none, none, none]) trivial (x_cv (As := [jL u0]) (st := [jR 3]) c101_51 cl_53 kl102 rfl (Nat.le_of_ble_eq_true rfl) mx102 (Nat.le_refl _) H))
theorem s101_54 {kc : List va_E} {d : Nat} {u0 : Int} {M : fx_M} {Q : Option fx_V → fx_M → Prop} (H : wc kc d 65 [jR 3, jI u0] M (fun v M1 => wp kc (d + 1) 101 57 [none, none, none] (v.toList ++ []) M1 Q)) : wp kc (d + 1) 101 54 [none, none, none] [jI u0, jR 3] M Q :=
  (wp_wk (l' := [none, none, none]) trivial (x_cv (As := [jI u0]) (st := []) c101_54 cl_3 kl65 rfl (Nat.le_of_ble_eq_true rfl) mx65 (Nat.le_refl _) H))
theorem s101_57 {kc : List va_E} {d : Nat} {M : fx_M} {Q : Option fx_V → fx_M → Prop} (H : Q none M) : wp kc (d + 1) 101 57 [none, none, none] [] M Q :=
  (x_vr c101_57 r101 H)
theorem s101 {kc : List va_E} {d : Nat} {M : fx_M} {Q : Option fx_V → fx_M → Prop} (H : wc kc d 81 [jR 11] M (fun v M1 => wp kc (d + 1) 101 7 [some (jR 0), none, none] (v.toList ++ []) M1 Q)) : wc kc (d + 1) 101 [jR 0] M Q :=
  wc_of (wp_wk (l' := [some (jR 0), none, none]) ⟨rfl, trivial⟩ (s101_0 H))

/- PuzzleHouse.reasonsRequest(I)V -/
theorem c103_0 : fx_op 103 0 = some (.aload_n 0, 1, 0) := by decide +kernel
theorem c103_1 : fx_gf 103 1 = some (0, 6, 4) := by decide +kernel
theorem c103_4 : fx_ca 103 4 = some (75, 1, 2, 7) := by decide +kernel
theorem c103_7 : fx_op 103 7 = some (.iload_n 1, 8, 7) := by decide +kernel
theorem c103_48 : fx_op 103 48 = some (.aload_n 0, 49, 48) := by decide +kernel
theorem c103_49 : fx_gf 103 49 = some (0, 9, 52) := by decide +kernel
theorem c103_58 : fx_op 103 58 = some (.aload_n 0, 59, 58) := by decide +kernel
theorem c103_59 : fx_gf 103 59 = some (0, 10, 62) := by decide +kernel
theorem c103_68 : fx_op 103 68 = some (.aload_n 0, 69, 68) := by decide +kernel
theorem c103_69 : fx_gf 103 69 = some (0, 9, 72) := by decide +kernel
theorem c103_78 : fx_op 103 78 = some (.aload_n 0, 79, 78) := by decide +kernel
theorem c103_79 : fx_gf 103 79 = some (0, 9, 82) := by decide +kernel
theorem c103_82 : fx_op 103 82 = some (.aload_n 0, 83, 82) := by decide +kernel
theorem c103_83 : fx_gf 103 83 = some (0, 14, 86) := by decide +kernel
theorem c103_86 : fx_op 103 86 = some (.aload_n 0, 87, 86) := by decide +kernel
theorem c103_87 : fx_gf 103 87 = some (0, 6, 90) := by decide +kernel
theorem c103_99 : fx_op 103 99 = some (.aload_n 0, 100, 99) := by decide +kernel
theorem c103_100 : fx_gf 103 100 = some (0, 9, 103) := by decide +kernel
theorem c103_103 : fx_op 103 103 = some (.aload_n 0, 104, 103) := by decide +kernel
theorem c103_104 : fx_gf 103 104 = some (0, 14, 107) := by decide +kernel
theorem c103_107 : fx_op 103 107 = some (.aload_n 0, 108, 107) := by decide +kernel
theorem c103_108 : fx_gf 103 108 = some (0, 6, 111) := by decide +kernel
theorem c103_120 : fx_op 103 120 = some (.aload_n 0, 121, 120) := by decide +kernel
theorem c103_121 : fx_gf 103 121 = some (0, 9, 124) := by decide +kernel
theorem c103_124 : fx_op 103 124 = some (.aload_n 0, 125, 124) := by decide +kernel
theorem c103_125 : fx_gf 103 125 = some (0, 14, 128) := by decide +kernel
theorem c103_128 : fx_op 103 128 = some (.aload_n 0, 129, 128) := by decide +kernel
theorem c103_129 : fx_gf 103 129 = some (0, 6, 132) := by decide +kernel
theorem c103_141 : fx_op 103 141 = some (.aload_n 0, 142, 141) := by decide +kernel
theorem c103_142 : fx_gf 103 142 = some (0, 9, 145) := by decide +kernel
theorem c103_52 : fx_ca 103 52 = some (104, 1, 2, 55) := by decide +kernel
theorem c103_62 : fx_ca 103 62 = some (120, 1, 2, 65) := by decide +kernel
theorem c103_72 : fx_ca 103 72 = some (134, 1, 2, 75) := by decide +kernel
theorem c103_90 : fx_ca 103 90 = some (136, 2, 2, 93) := by decide +kernel
theorem c103_111 : fx_ca 103 111 = some (136, 2, 2, 114) := by decide +kernel
theorem c103_132 : fx_ca 103 132 = some (136, 2, 2, 135) := by decide +kernel
theorem c103_8 : fx_ts 103 8 = some (14, [48, 58, 68, 78, 99, 120], 141) := by decide +kernel
theorem c103_145 : fx_ca 103 145 = some (143, 1, 2, 148) := by decide +kernel
theorem c103_55 : fx_op 103 55 = some (.goto 93, 58, 148) := by decide +kernel
theorem c103_148 : fx_op 103 148 = some (.return_, 149, 148) := by decide +kernel
theorem c103_65 : fx_op 103 65 = some (.goto 83, 68, 148) := by decide +kernel
theorem c103_75 : fx_op 103 75 = some (.goto 73, 78, 148) := by decide +kernel
theorem c103_93 : fx_ca 103 93 = some (137, 2, 2, 96) := by decide +kernel
theorem c103_114 : fx_ca 103 114 = some (138, 2, 2, 117) := by decide +kernel
theorem c103_135 : fx_ca 103 135 = some (142, 2, 2, 138) := by decide +kernel
theorem c103_96 : fx_op 103 96 = some (.goto 52, 99, 148) := by decide +kernel
theorem c103_117 : fx_op 103 117 = some (.goto 31, 120, 148) := by decide +kernel
theorem c103_138 : fx_op 103 138 = some (.goto 10, 141, 148) := by decide +kernel
theorem s103_0 {kc : List va_E} {d : Nat} {x1 : Int} {M : fx_M} {Q : Option fx_V → fx_M → Prop} (H : wc kc d 75 [jR 11] M (fun v M1 => wp kc (d + 1) 103 7 [some (jR 0), some (jI x1)] (v.toList ++ []) M1 Q)) : wp kc (d + 1) 103 0 [some (jR 0), some (jI x1)] [] M Q :=
  (x_aldn c103_0 rfl (x_gfr c103_1 k_0_6 (wp_wk (l' := [some (jR 0), some (jI x1)]) ⟨rfl, ⟨rfl, trivial⟩⟩ (x_cv (As := []) (st := []) c103_4 cl_11 kl75 rfl (Nat.le_of_ble_eq_true rfl) mx75 (Nat.le_refl _) H))))
theorem s103_7 {kc : List va_E} {d : Nat} {v1 : Int} {M : fx_M} {Q : Option fx_V → fx_M → Prop} (H : fx_in32 v1 ∧ (v1 = 14 → wc kc d 104 [jR 31] M (fun v M1 => wp kc (d + 1) 103 55 [none, none] (v.toList ++ []) M1 Q)) ∧ (v1 = 15 → wc kc d 120 [jR 34] M (fun v M1 => wp kc (d + 1) 103 65 [none, none] (v.toList ++ []) M1 Q)) ∧ (v1 = 16 → wc kc d 134 [jR 31] M (fun v M1 => wp kc (d + 1) 103 75 [none, none] (v.toList ++ []) M1 Q)) ∧ (v1 = 17 → wc kc d 136 [jR 53, jR 11] M (fun v M1 => wp kc (d + 1) 103 93 [none, none] (v.toList ++ [jR 31]) M1 Q)) ∧ (v1 = 18 → wc kc d 136 [jR 53, jR 11] M (fun v M1 => wp kc (d + 1) 103 114 [none, none] (v.toList ++ [jR 31]) M1 Q)) ∧ (v1 = 19 → wc kc d 136 [jR 53, jR 11] M (fun v M1 => wp kc (d + 1) 103 135 [none, none] (v.toList ++ [jR 31]) M1 Q)) ∧ ((v1 < 14 ∨ 20 ≤ v1) → wc kc d 143 [jR 31] M (fun v M1 => wp kc (d + 1) 103 148 [none, none] (v.toList ++ []) M1 Q))) : wp kc (d + 1) 103 7 [some (jR 0), some (jI v1)] [] M Q :=
  (x_ildn c103_7 rfl (x_sw c103_8 H.1 ⟨fun h1 => (x_aldn c103_48 rfl (x_gfr c103_49 k_0_9 (wp_wk (l' := [none, none]) trivial (x_cv (As := []) (st := []) c103_52 cl_31 kl104 rfl (Nat.le_of_ble_eq_true rfl) mx104 (Nat.le_refl _) (H.2.1 h1))))), ⟨fun h2 => (x_aldn c103_58 rfl (x_gfr c103_59 k_0_10 (wp_wk (l' := [none, none]) trivial (x_cv (As := []) (st := []) c103_62 cl_34 kl120 rfl (Nat.le_of_ble_eq_true rfl) mx120 (Nat.le_refl _) (H.2.2.1 h2))))), ⟨fun h3 => (x_aldn c103_68 rfl (x_gfr c103_69 k_0_9 (wp_wk (l' := [none, none]) trivial (x_cv (As := []) (st := []) c103_72 cl_31 kl134 rfl (Nat.le_of_ble_eq_true rfl) mx134 (Nat.le_refl _) (H.2.2.2.1 h3))))), ⟨fun h4 => (x_aldn c103_78 rfl (x_gfr c103_79 k_0_9 (x_aldn c103_82 rfl (x_gfr c103_83 k_0_14 (x_aldn c103_86 rfl (x_gfr c103_87 k_0_6 (wp_wk (l' := [none, none]) trivial (x_cv (As := [jR 11]) (st := [jR 31]) c103_90 cl_53 kl136 rfl (Nat.le_of_ble_eq_true rfl) mx136 (Nat.le_refl _) (H.2.2.2.2.1 h4))))))))), ⟨fun h5 => (x_aldn c103_99 rfl (x_gfr c103_100 k_0_9 (x_aldn c103_103 rfl (x_gfr c103_104 k_0_14 (x_aldn c103_107 rfl (x_gfr c103_108 k_0_6 (wp_wk (l' := [none, none]) trivial (x_cv (As := [jR 11]) (st := [jR 31]) c103_111 cl_53 kl136 rfl (Nat.le_of_ble_eq_true rfl) mx136 (Nat.le_refl _) (H.2.2.2.2.2.1 h5))))))))), ⟨fun h6 => (x_aldn c103_120 rfl (x_gfr c103_121 k_0_9 (x_aldn c103_124 rfl (x_gfr c103_125 k_0_14 (x_aldn c103_128 rfl (x_gfr c103_129 k_0_6 (wp_wk (l' := [none, none]) trivial (x_cv (As := [jR 11]) (st := [jR 31]) c103_132 cl_53 kl136 rfl (Nat.le_of_ble_eq_true rfl) mx136 (Nat.le_refl _) (H.2.2.2.2.2.2.1 h6))))))))), trivial⟩⟩⟩⟩⟩⟩ (fun h7 => (x_aldn c103_141 rfl (x_gfr c103_142 k_0_9 (wp_wk (l' := [none, none]) trivial (x_cv (As := []) (st := []) c103_145 cl_31 kl143 rfl (Nat.le_of_ble_eq_true rfl) mx143 (Nat.le_refl _) (H.2.2.2.2.2.2.2 h7))))))))
theorem s103_55 {kc : List va_E} {d : Nat} {M : fx_M} {Q : Option fx_V → fx_M → Prop} (H : Q none M) : wp kc (d + 1) 103 55 [none, none] [] M Q :=
  (x_goto c103_55 (x_vr c103_148 r103 H))
theorem s103_65 {kc : List va_E} {d : Nat} {M : fx_M} {Q : Option fx_V → fx_M → Prop} (H : Q none M) : wp kc (d + 1) 103 65 [none, none] [] M Q :=
  (x_goto c103_65 (x_vr c103_148 r103 H))
theorem s103_75 {kc : List va_E} {d : Nat} {M : fx_M} {Q : Option fx_V → fx_M → Prop} (H : Q none M) : wp kc (d + 1) 103 75 [none, none] [] M Q :=
  (x_goto c103_75 (x_vr c103_148 r103 H))
theorem s103_93 {kc : List va_E} {d : Nat} {u0 : Int} {M : fx_M} {Q : Option fx_V → fx_M → Prop} (H : wc kc d 137 [jR 31, jL u0] M (fun v M1 => wp kc (d + 1) 103 96 [none, none] (v.toList ++ []) M1 Q)) : wp kc (d + 1) 103 93 [none, none] [jL u0, jR 31] M Q :=
  (wp_wk (l' := [none, none]) trivial (x_cv (As := [jL u0]) (st := []) c103_93 cl_31 kl137 rfl (Nat.le_of_ble_eq_true rfl) mx137 (Nat.le_refl _) H))
theorem s103_96 {kc : List va_E} {d : Nat} {M : fx_M} {Q : Option fx_V → fx_M → Prop} (H : Q none M) : wp kc (d + 1) 103 96 [none, none] [] M Q :=
  (x_goto c103_96 (x_vr c103_148 r103 H))
theorem s103_114 {kc : List va_E} {d : Nat} {u0 : Int} {M : fx_M} {Q : Option fx_V → fx_M → Prop} (H : wc kc d 138 [jR 31, jL u0] M (fun v M1 => wp kc (d + 1) 103 117 [none, none] (v.toList ++ []) M1 Q)) : wp kc (d + 1) 103 114 [none, none] [jL u0, jR 31] M Q :=
  (wp_wk (l' := [none, none]) trivial (x_cv (As := [jL u0]) (st := []) c103_114 cl_31 kl138 rfl (Nat.le_of_ble_eq_true rfl) mx138 (Nat.le_refl _) H))
theorem s103_117 {kc : List va_E} {d : Nat} {M : fx_M} {Q : Option fx_V → fx_M → Prop} (H : Q none M) : wp kc (d + 1) 103 117 [none, none] [] M Q :=
  (x_goto c103_117 (x_vr c103_148 r103 H))
theorem s103_135 {kc : List va_E} {d : Nat} {u0 : Int} {M : fx_M} {Q : Option fx_V → fx_M → Prop} (H : wc kc d 142 [jR 31, jL u0] M (fun v M1 => wp kc (d + 1) 103 138 [none, none] (v.toList ++ []) M1 Q)) : wp kc (d + 1) 103 135 [none, none] [jL u0, jR 31] M Q :=
  (wp_wk (l' := [none, none]) trivial (x_cv (As := [jL u0]) (st := []) c103_135 cl_31 kl142 rfl (Nat.le_of_ble_eq_true rfl) mx142 (Nat.le_refl _) H))
theorem s103_138 {kc : List va_E} {d : Nat} {M : fx_M} {Q : Option fx_V → fx_M → Prop} (H : Q none M) : wp kc (d + 1) 103 138 [none, none] [] M Q :=
  (x_goto c103_138 (x_vr c103_148 r103 H))
theorem s103_148 {kc : List va_E} {d : Nat} {M : fx_M} {Q : Option fx_V → fx_M → Prop} (H : Q none M) : wp kc (d + 1) 103 148 [none, none] [] M Q :=
  (x_vr c103_148 r103 H)
theorem s103 {kc : List va_E} {d : Nat} {x1 : Int} {M : fx_M} {Q : Option fx_V → fx_M → Prop} (H : wc kc d 75 [jR 11] M (fun v M1 => wp kc (d + 1) 103 7 [some (jR 0), some (jI x1)] (v.toList ++ []) M1 Q)) : wc kc (d + 1) 103 [jR 0, jI x1] M Q :=
  wc_of (wp_wk (l' := [some (jR 0), some (jI x1)]) ⟨rfl, ⟨rfl, trivial⟩⟩ (s103_0 H))

/- PuzzleHouse.without(JII)J -/
theorem c113_0 : fx_op 113 0 = some (.lload_n 0, 1, 0) := by decide +kernel
theorem c113_1 : fx_cj 113 1 = some (1, 2) := by decide +kernel
theorem c113_2 : fx_ci 113 2 = some (4, 3) := by decide +kernel
theorem c113_3 : fx_op 113 3 = some (.iload_n 2, 4, 3) := by decide +kernel
theorem c113_4 : fx_op 113 4 = some (.imul, 5, 4) := by decide +kernel
theorem c113_5 : fx_op 113 5 = some (.iload_n 3, 6, 5) := by decide +kernel
theorem c113_6 : fx_op 113 6 = some (.iadd, 7, 6) := by decide +kernel
theorem c113_7 : fx_op 113 7 = some (.lshl, 8, 7) := by decide +kernel
theorem c113_8 : fx_cj 113 8 = some ((-1), 11) := by decide +kernel
theorem c113_11 : fx_op 113 11 = some (.lxor, 12, 11) := by decide +kernel
theorem c113_12 : fx_op 113 12 = some (.land, 13, 12) := by decide +kernel
theorem c113_13 : fx_op 113 13 = some (.lreturn, 14, 13) := by decide +kernel
theorem s113_0 {kc : List va_E} {d : Nat} {x0 x2 x3 : Int} {M : fx_M} {Q : Option fx_V → fx_M → Prop} (H : Q (some (jL (fx_land x0 (fx_lxor (fx_lshl 1 ((4 * x2) + x3)) (-1))))) M) : wp kc (d + 1) 113 0 [some (jL x0), none, some (jI x2), some (jI x3)] [] M Q :=
  (x_lldn c113_0 rfl (x_cj c113_1 (x_ci c113_2 (x_ildn c113_3 rfl (x_imul c113_4 (x_ildn c113_5 rfl (x_iadd c113_6 (x_lshl c113_7 (x_cj c113_8 (x_lxor c113_11 (x_land c113_12 (x_lrt c113_13 r113 H))))))))))))
theorem s113 {kc : List va_E} {d : Nat} {x0 x2 x3 : Int} {M : fx_M} {Q : Option fx_V → fx_M → Prop} (H : Q (some (jL (fx_land x0 (fx_lxor (fx_lshl 1 ((4 * x2) + x3)) (-1))))) M) : wc kc (d + 1) 113 [jL x0, jI x2, jI x3] M Q :=
  wc_of (wp_wk (l' := [some (jL x0), none, some (jI x2), some (jI x3)]) ⟨rfl, ⟨rfl, ⟨rfl, trivial⟩⟩⟩ (s113_0 H))

/- PuzzleHouse.isBroken(J)Z -/
theorem c114_0 : fx_op 114 0 = some (.lload_n 0, 1, 0) := by decide +kernel
theorem c114_1 : fx_op 114 1 = some (.lload_n 0, 2, 1) := by decide +kernel
theorem c114_2 : fx_ci 114 2 = some (1, 3) := by decide +kernel
theorem c114_3 : fx_op 114 3 = some (.lushr, 4, 3) := by decide +kernel
theorem c114_4 : fx_op 114 4 = some (.lor, 5, 4) := by decide +kernel
theorem c114_5 : fx_op 114 5 = some (.lload_n 0, 6, 5) := by decide +kernel
theorem c114_6 : fx_ci 114 6 = some (2, 7) := by decide +kernel
theorem c114_7 : fx_op 114 7 = some (.lushr, 8, 7) := by decide +kernel
theorem c114_8 : fx_op 114 8 = some (.lor, 9, 8) := by decide +kernel
theorem c114_9 : fx_op 114 9 = some (.lload_n 0, 10, 9) := by decide +kernel
theorem c114_10 : fx_ci 114 10 = some (3, 11) := by decide +kernel
theorem c114_11 : fx_op 114 11 = some (.lushr, 12, 11) := by decide +kernel
theorem c114_12 : fx_op 114 12 = some (.lor, 13, 12) := by decide +kernel
theorem c114_13 : fx_op 114 13 = some (.lstore_n 2, 14, 13) := by decide +kernel
theorem c114_14 : fx_op 114 14 = some (.lload_n 2, 15, 14) := by decide +kernel
theorem c114_15 : fx_cj 114 15 = some (73300775185, 18) := by decide +kernel
theorem c114_18 : fx_op 114 18 = some (.land, 19, 18) := by decide +kernel
theorem c114_19 : fx_cj 114 19 = some (73300775185, 22) := by decide +kernel
theorem c114_23 : fx_op 114 23 = some (.ifCond .eq 7, 26, 30) := by decide +kernel
theorem c114_30 : fx_ci 114 30 = some (0, 31) := by decide +kernel
theorem c114_26 : fx_ci 114 26 = some (1, 27) := by decide +kernel
theorem c114_27 : fx_op 114 27 = some (.goto 4, 30, 31) := by decide +kernel
theorem c114_22 : fx_op 114 22 = some (.lcmp, 23, 22) := by decide +kernel
theorem c114_31 : fx_op 114 31 = some (.ireturn, 32, 31) := by decide +kernel
theorem s114_0 {kc : List va_E} {d : Nat} {x0 : Int} {M : fx_M} {Q : Option fx_V → fx_M → Prop} (H : ((fx_in64 (fx_land (fx_lor (fx_lor (fx_lor x0 (fx_lushr x0 1)) (fx_lushr x0 2)) (fx_lushr x0 3)) 73300775185))) ∧ ((0 : Int) ≤ (if fx_cmp (fx_land (fx_lor (fx_lor (fx_lor x0 (fx_lushr x0 1)) (fx_lushr x0 2)) (fx_lushr x0 3)) 73300775185) 73300775185 = 0 then (0 : Int) else 1) ∧ (if fx_cmp (fx_land (fx_lor (fx_lor (fx_lor x0 (fx_lushr x0 1)) (fx_lushr x0 2)) (fx_lushr x0 3)) 73300775185) 73300775185 = 0 then (0 : Int) else 1) ≤ 1) ∧ Q (some (jI (if fx_cmp (fx_land (fx_lor (fx_lor (fx_lor x0 (fx_lushr x0 1)) (fx_lushr x0 2)) (fx_lushr x0 3)) 73300775185) 73300775185 = 0 then (0 : Int) else 1))) M) : wp kc (d + 1) 114 0 [some (jL x0), none, none, none] [] M Q :=
  (x_lldn c114_0 rfl (x_lldn c114_1 rfl (x_ci c114_2 (x_lushr c114_3 (x_lor c114_4 (x_lldn c114_5 rfl (x_ci c114_6 (x_lushr c114_7 (x_lor c114_8 (x_lldn c114_9 rfl (x_ci c114_10 (x_lushr c114_11 (x_lor c114_12 (x_lstn (l' := [some (jL x0), none, some (jL (fx_lor (fx_lor (fx_lor x0 (fx_lushr x0 1)) (fx_lushr x0 2)) (fx_lushr x0 3))), none]) c114_13 rfl (x_lldn c114_14 rfl (x_cj c114_15 (x_land c114_18 (x_cj c114_19 (x_lcmp c114_22 H.1 (by decide) (have K : wp kc (d + 1) 114 31 [none, none, none, none] [jI (if fx_cmp (fx_land (fx_lor (fx_lor (fx_lor x0 (fx_lushr x0 1)) (fx_lushr x0 2)) (fx_lushr x0 3)) 73300775185) 73300775185 = 0 then (0 : Int) else 1)] M Q := (x_zrt c114_31 r114 H.2.1 H.2.2); (x_zeq c114_23 (fx_cmp_in _ _) (fun (h1 : fx_cmp (fx_land (fx_lor (fx_lor (fx_lor x0 (fx_lushr x0 1)) (fx_lushr x0 2)) (fx_lushr x0 3)) 73300775185) 73300775185 = 0) => (x_ci c114_30 (wp_wk (l' := [none, none, none, none]) trivial (by have K := K; first | (simp only [if_pos h1] at K ⊢; exact K) | (exfalso; omega))))) (fun (h2 : fx_cmp (fx_land (fx_lor (fx_lor (fx_lor x0 (fx_lushr x0 1)) (fx_lushr x0 2)) (fx_lushr x0 3)) 73300775185) 73300775185 ≠ 0) => (x_ci c114_26 (x_goto c114_27 (wp_wk (l' := [none, none, none, none]) trivial (by have K := K; first | (simp only [if_neg h2] at K ⊢; exact K) | (exfalso; omega)))))))))))))))))))))))))))
theorem s114 {kc : List va_E} {d : Nat} {x0 : Int} {M : fx_M} {Q : Option fx_V → fx_M → Prop} (H : ((fx_in64 (fx_land (fx_lor (fx_lor (fx_lor x0 (fx_lushr x0 1)) (fx_lushr x0 2)) (fx_lushr x0 3)) 73300775185))) ∧ ((0 : Int) ≤ (if fx_cmp (fx_land (fx_lor (fx_lor (fx_lor x0 (fx_lushr x0 1)) (fx_lushr x0 2)) (fx_lushr x0 3)) 73300775185) 73300775185 = 0 then (0 : Int) else 1) ∧ (if fx_cmp (fx_land (fx_lor (fx_lor (fx_lor x0 (fx_lushr x0 1)) (fx_lushr x0 2)) (fx_lushr x0 3)) 73300775185) 73300775185 = 0 then (0 : Int) else 1) ≤ 1) ∧ Q (some (jI (if fx_cmp (fx_land (fx_lor (fx_lor (fx_lor x0 (fx_lushr x0 1)) (fx_lushr x0 2)) (fx_lushr x0 3)) 73300775185) 73300775185 = 0 then (0 : Int) else 1))) M) : wc kc (d + 1) 114 [jL x0] M Q :=
  wc_of (wp_wk (l' := [some (jL x0), none, none, none]) ⟨rfl, trivial⟩ (s114_0 H))

/- PuzzleHouse.isFilling(J)Z -/
theorem c115_0 : fx_op 115 0 = some (.lload_n 0, 1, 0) := by decide +kernel
theorem c115_1 : fx_op 115 1 = some (.lload_n 0, 2, 1) := by decide +kernel
theorem c115_2 : fx_cj 115 2 = some (73300775185, 5) := by decide +kernel
theorem c115_5 : fx_op 115 5 = some (.lsub, 6, 5) := by decide +kernel
theorem c115_6 : fx_op 115 6 = some (.land, 7, 6) := by decide +kernel
theorem c115_7 : fx_cj 115 7 = some (0, 8) := by decide +kernel
theorem c115_9 : fx_op 115 9 = some (.ifCond .ne 7, 12, 16) := by decide +kernel
theorem c115_16 : fx_ci 115 16 = some (0, 17) := by decide +kernel
theorem c115_12 : fx_ci 115 12 = some (1, 13) := by decide +kernel
theorem c115_13 : fx_op 115 13 = some (.goto 4, 16, 17) := by decide +kernel
theorem c115_8 : fx_op 115 8 = some (.lcmp, 9, 8) := by decide +kernel
theorem c115_17 : fx_op 115 17 = some (.ireturn, 18, 17) := by decide +kernel
theorem s115_0 {kc : List va_E} {d : Nat} {x0 : Int} {M : fx_M} {Q : Option fx_V → fx_M → Prop} (H : ((fx_in64 (fx_land x0 (x0 - 73300775185)))) ∧ ((0 : Int) ≤ (if fx_cmp (fx_land x0 (x0 - 73300775185)) 0 = 0 then (1 : Int) else 0) ∧ (if fx_cmp (fx_land x0 (x0 - 73300775185)) 0 = 0 then (1 : Int) else 0) ≤ 1) ∧ Q (some (jI (if fx_cmp (fx_land x0 (x0 - 73300775185)) 0 = 0 then (1 : Int) else 0))) M) : wp kc (d + 1) 115 0 [some (jL x0), none] [] M Q :=
  (x_lldn c115_0 rfl (x_lldn c115_1 rfl (x_cj c115_2 (x_lsub c115_5 (x_land c115_6 (x_cj c115_7 (x_lcmp c115_8 H.1 (by decide) (have K : wp kc (d + 1) 115 17 [none, none] [jI (if fx_cmp (fx_land x0 (x0 - 73300775185)) 0 = 0 then (1 : Int) else 0)] M Q := (x_zrt c115_17 r115 H.2.1 H.2.2); (x_zne c115_9 (fx_cmp_in _ _) (fun (h1 : fx_cmp (fx_land x0 (x0 - 73300775185)) 0 ≠ 0) => (x_ci c115_16 (wp_wk (l' := [none, none]) trivial (by have K := K; first | (simp only [if_neg h1] at K ⊢; exact K) | (exfalso; omega))))) (fun (h2 : fx_cmp (fx_land x0 (x0 - 73300775185)) 0 = 0) => (x_ci c115_12 (x_goto c115_13 (wp_wk (l' := [none, none]) trivial (by have K := K; first | (simp only [if_pos h2] at K ⊢; exact K) | (exfalso; omega)))))))))))))))
theorem s115 {kc : List va_E} {d : Nat} {x0 : Int} {M : fx_M} {Q : Option fx_V → fx_M → Prop} (H : ((fx_in64 (fx_land x0 (x0 - 73300775185)))) ∧ ((0 : Int) ≤ (if fx_cmp (fx_land x0 (x0 - 73300775185)) 0 = 0 then (1 : Int) else 0) ∧ (if fx_cmp (fx_land x0 (x0 - 73300775185)) 0 = 0 then (1 : Int) else 0) ≤ 1) ∧ Q (some (jI (if fx_cmp (fx_land x0 (x0 - 73300775185)) 0 = 0 then (1 : Int) else 0))) M) : wc kc (d + 1) 115 [jL x0] M Q :=
  wc_of (wp_wk (l' := [some (jL x0), none]) ⟨rfl, trivial⟩ (s115_0 H))

/- PuzzleHouse.settled(J)J -/
theorem c127_0 : fx_op 127 0 = some (.lload_n 0, 1, 0) := by decide +kernel
theorem c127_1 : fx_op 127 1 = some (.lload_n 0, 2, 1) := by decide +kernel
theorem c127_2 : fx_cj 127 2 = some (73300775185, 5) := by decide +kernel
theorem c127_5 : fx_op 127 5 = some (.lsub, 6, 5) := by decide +kernel
theorem c127_6 : fx_op 127 6 = some (.land, 7, 6) := by decide +kernel
theorem c127_7 : fx_op 127 7 = some (.lstore_n 2, 8, 7) := by decide +kernel
theorem c127_8 : fx_op 127 8 = some (.lload_n 2, 9, 8) := by decide +kernel
theorem c127_9 : fx_op 127 9 = some (.lload_n 2, 10, 9) := by decide +kernel
theorem c127_10 : fx_ci 127 10 = some (1, 11) := by decide +kernel
theorem c127_11 : fx_op 127 11 = some (.lushr, 12, 11) := by decide +kernel
theorem c127_12 : fx_op 127 12 = some (.lor, 13, 12) := by decide +kernel
theorem c127_13 : fx_op 127 13 = some (.lload_n 2, 14, 13) := by decide +kernel
theorem c127_14 : fx_ci 127 14 = some (2, 15) := by decide +kernel
theorem c127_15 : fx_op 127 15 = some (.lushr, 16, 15) := by decide +kernel
theorem c127_16 : fx_op 127 16 = some (.lor, 17, 16) := by decide +kernel
theorem c127_17 : fx_op 127 17 = some (.lload_n 2, 18, 17) := by decide +kernel
theorem c127_18 : fx_ci 127 18 = some (3, 19) := by decide +kernel
theorem c127_19 : fx_op 127 19 = some (.lushr, 20, 19) := by decide +kernel
theorem c127_20 : fx_op 127 20 = some (.lor, 21, 20) := by decide +kernel
theorem c127_21 : fx_cj 127 21 = some (73300775185, 24) := by decide +kernel
theorem c127_24 : fx_op 127 24 = some (.land, 25, 24) := by decide +kernel
theorem c127_25 : fx_op 127 25 = some (.lstore 4, 27, 25) := by decide +kernel
theorem c127_27 : fx_op 127 27 = some (.lload_n 0, 28, 27) := by decide +kernel
theorem c127_28 : fx_op 127 28 = some (.lload 4, 30, 28) := by decide +kernel
theorem c127_30 : fx_cj 127 30 = some (15, 33) := by decide +kernel
theorem c127_33 : fx_op 127 33 = some (.lmul, 34, 33) := by decide +kernel
theorem c127_34 : fx_cj 127 34 = some ((-1), 37) := by decide +kernel
theorem c127_37 : fx_op 127 37 = some (.lxor, 38, 37) := by decide +kernel
theorem c127_38 : fx_op 127 38 = some (.land, 39, 38) := by decide +kernel
theorem c127_39 : fx_op 127 39 = some (.lreturn, 40, 39) := by decide +kernel
theorem s127_0 {kc : List va_E} {d : Nat} {x0 : Int} {M : fx_M} {Q : Option fx_V → fx_M → Prop} (H : Q (some (jL (fx_land x0 (fx_lxor ((fx_land (fx_lor (fx_lor (fx_lor (fx_land x0 (x0 - 73300775185)) (fx_lushr (fx_land x0 (x0 - 73300775185)) 1)) (fx_lushr (fx_land x0 (x0 - 73300775185)) 2)) (fx_lushr (fx_land x0 (x0 - 73300775185)) 3)) 73300775185) * 15) (-1))))) M) : wp kc (d + 1) 127 0 [some (jL x0), none, none, none, none, none] [] M Q :=
  (x_lldn c127_0 rfl (x_lldn c127_1 rfl (x_cj c127_2 (x_lsub c127_5 (x_land c127_6 (x_lstn (l' := [some (jL x0), none, some (jL (fx_land x0 (x0 - 73300775185))), none, none, none]) c127_7 rfl (x_lldn c127_8 rfl (x_lldn c127_9 rfl (x_ci c127_10 (x_lushr c127_11 (x_lor c127_12 (x_lldn c127_13 rfl (x_ci c127_14 (x_lushr c127_15 (x_lor c127_16 (x_lldn c127_17 rfl (x_ci c127_18 (x_lushr c127_19 (x_lor c127_20 (x_cj c127_21 (x_land c127_24 (x_lst (l' := [some (jL x0), none, some (jL (fx_land x0 (x0 - 73300775185))), none, some (jL (fx_land (fx_lor (fx_lor (fx_lor (fx_land x0 (x0 - 73300775185)) (fx_lushr (fx_land x0 (x0 - 73300775185)) 1)) (fx_lushr (fx_land x0 (x0 - 73300775185)) 2)) (fx_lushr (fx_land x0 (x0 - 73300775185)) 3)) 73300775185)), none]) c127_25 rfl (x_lldn c127_27 rfl (x_lld c127_28 rfl (x_cj c127_30 (x_lmul c127_33 (x_cj c127_34 (x_lxor c127_37 (x_land c127_38 (x_lrt c127_39 r127 H))))))))))))))))))))))))))))))
theorem s127 {kc : List va_E} {d : Nat} {x0 : Int} {M : fx_M} {Q : Option fx_V → fx_M → Prop} (H : Q (some (jL (fx_land x0 (fx_lxor ((fx_land (fx_lor (fx_lor (fx_lor (fx_land x0 (x0 - 73300775185)) (fx_lushr (fx_land x0 (x0 - 73300775185)) 1)) (fx_lushr (fx_land x0 (x0 - 73300775185)) 2)) (fx_lushr (fx_land x0 (x0 - 73300775185)) 3)) 73300775185) * 15) (-1))))) M) : wc kc (d + 1) 127 [jL x0] M Q :=
  wc_of (wp_wk (l' := [some (jL x0), none, none, none, none, none]) ⟨rfl, trivial⟩ (s127_0 H))

/- PuzzleHouse.variantsRequest(I)V -/
theorem c145_0 : fx_op 145 0 = some (.iload_n 1, 1, 0) := by decide +kernel
theorem c145_28 : fx_op 145 28 = some (.aload_n 0, 29, 28) := by decide +kernel
theorem c145_29 : fx_gf 145 29 = some (0, 11, 32) := by decide +kernel
theorem c145_32 : fx_op 145 32 = some (.aload_n 0, 33, 32) := by decide +kernel
theorem c145_33 : fx_gf 145 33 = some (0, 6, 36) := by decide +kernel
theorem c145_64 : fx_op 145 64 = some (.aload_n 0, 65, 64) := by decide +kernel
theorem c145_65 : fx_gf 145 65 = some (0, 7, 68) := by decide +kernel
theorem c145_68 : fx_op 145 68 = some (.aload_n 0, 69, 68) := by decide +kernel
theorem c145_69 : fx_gf 145 69 = some (0, 6, 72) := by decide +kernel
theorem c145_119 : fx_op 145 119 = some (.aload_n 0, 120, 119) := by decide +kernel
theorem c145_120 : fx_gf 145 120 = some (0, 13, 123) := by decide +kernel
theorem c145_123 : fx_op 145 123 = some (.aload_n 0, 124, 123) := by decide +kernel
theorem c145_124 : fx_gf 145 124 = some (0, 5, 127) := by decide +kernel
theorem c145_127 : fx_gf 145 127 = some (2, 5, 130) := by decide +kernel
theorem c145_130 : fx_ci 145 130 = some (0, 131) := by decide +kernel
theorem c145_131 : fx_op 145 131 = some (.iaload, 132, 131) := by decide +kernel
theorem c145_138 : fx_op 145 138 = some (.aload_n 0, 139, 138) := by decide +kernel
theorem c145_139 : fx_gf 145 139 = some (0, 13, 142) := by decide +kernel
theorem c145_36 : fx_ca 145 36 = some (146, 2, 2, 39) := by decide +kernel
theorem c145_72 : fx_ca 145 72 = some (72, 2, 2, 75) := by decide +kernel
theorem c145_132 : fx_ca 145 132 = some (160, 2, 2, 135) := by decide +kernel
theorem c145_1 : fx_ts 145 1 = some (21, [28, 64, 119], 138) := by decide +kernel
theorem c145_142 : fx_ca 145 142 = some (163, 1, 2, 145) := by decide +kernel
theorem c145_39 : fx_op 145 39 = some (.aload_n 0, 40, 39) := by decide +kernel
theorem c145_40 : fx_gf 145 40 = some (0, 11, 43) := by decide +kernel
theorem c145_43 : fx_op 145 43 = some (.aload_n 0, 44, 43) := by decide +kernel
theorem c145_44 : fx_gf 145 44 = some (0, 7, 47) := by decide +kernel
theorem c145_47 : fx_ca 145 47 = some (158, 2, 2, 50) := by decide +kernel
theorem c145_75 : fx_op 145 75 = some (.aload_n 0, 76, 75) := by decide +kernel
theorem c145_76 : fx_gf 145 76 = some (0, 11, 79) := by decide +kernel
theorem c145_79 : fx_op 145 79 = some (.aload_n 0, 80, 79) := by decide +kernel
theorem c145_80 : fx_gf 145 80 = some (0, 7, 83) := by decide +kernel
theorem c145_83 : fx_op 145 83 = some (.aload_n 0, 84, 83) := by decide +kernel
theorem c145_84 : fx_gf 145 84 = some (0, 5, 87) := by decide +kernel
theorem c145_87 : fx_gf 145 87 = some (2, 5, 90) := by decide +kernel
theorem c145_90 : fx_ci 145 90 = some (0, 91) := by decide +kernel
theorem c145_91 : fx_op 145 91 = some (.iaload, 92, 91) := by decide +kernel
theorem c145_92 : fx_op 145 92 = some (.aload_n 0, 93, 92) := by decide +kernel
theorem c145_93 : fx_gf 145 93 = some (0, 6, 96) := by decide +kernel
theorem c145_96 : fx_ca 145 96 = some (159, 4, 2, 99) := by decide +kernel
theorem c145_135 : fx_op 145 135 = some (.goto 10, 138, 145) := by decide +kernel
theorem c145_145 : fx_op 145 145 = some (.return_, 146, 145) := by decide +kernel
theorem c145_50 : fx_op 145 50 = some (.aload_n 0, 51, 50) := by decide +kernel
theorem c145_51 : fx_gf 145 51 = some (0, 7, 54) := by decide +kernel
theorem c145_54 : fx_op 145 54 = some (.aload_n 0, 55, 54) := by decide +kernel
theorem c145_55 : fx_gf 145 55 = some (0, 3, 58) := by decide +kernel
theorem c145_58 : fx_ca 145 58 = some (68, 2, 2, 61) := by decide +kernel
theorem c145_99 : fx_op 145 99 = some (.aload_n 0, 100, 99) := by decide +kernel
theorem c145_100 : fx_gf 145 100 = some (0, 14, 103) := by decide +kernel
theorem c145_103 : fx_ca 145 103 = some (73, 1, 2, 106) := by decide +kernel
theorem c145_61 : fx_op 145 61 = some (.goto 84, 64, 145) := by decide +kernel
theorem c145_106 : fx_op 145 106 = some (.aload_n 0, 107, 106) := by decide +kernel
theorem c145_107 : fx_gf 145 107 = some (0, 3, 110) := by decide +kernel
theorem c145_110 : fx_cr 145 110 = some (1000063, 113) := by decide +kernel
theorem c145_113 : fx_ca 145 113 = some (64, 2, 2, 116) := by decide +kernel
theorem c145_116 : fx_op 145 116 = some (.goto 29, 119, 145) := by decide +kernel
theorem s145_0 {kc : List va_E} {d : Nat} {x1 : Int} {M : fx_M} {Q : Option fx_V → fx_M → Prop} (H : fx_in32 x1 ∧ (x1 = 21 → wc kc d 146 [jR 40, jR 11] M (fun v M1 => wp kc (d + 1) 145 39 [some (jR 0), none] (v.toList ++ []) M1 Q)) ∧ (x1 = 22 → wc kc d 72 [jR 20, jR 11] M (fun v M1 => wp kc (d + 1) 145 75 [some (jR 0), none] (v.toList ++ []) M1 Q)) ∧ (x1 = 23 → wc kc d 160 [jR 50, jI (M 9 0)] M (fun v M1 => wp kc (d + 1) 145 135 [none, none] (v.toList ++ []) M1 Q)) ∧ ((x1 < 21 ∨ 24 ≤ x1) → wc kc d 163 [jR 50] M (fun v M1 => wp kc (d + 1) 145 145 [none, none] (v.toList ++ []) M1 Q))) : wp kc (d + 1) 145 0 [some (jR 0), some (jI x1)] [] M Q :=
  (x_ildn c145_0 rfl (x_sw c145_1 H.1 ⟨fun h1 => (x_aldn c145_28 rfl (x_gfr c145_29 k_0_11 (x_aldn c145_32 rfl (x_gfr c145_33 k_0_6 (wp_wk (l' := [some (jR 0), none]) ⟨rfl, trivial⟩ (x_cv (As := [jR 11]) (st := []) c145_36 cl_40 kl146 rfl (Nat.le_of_ble_eq_true rfl) mx146 (Nat.le_refl _) (H.2.1 h1))))))), ⟨fun h2 => (x_aldn c145_64 rfl (x_gfr c145_65 k_0_7 (x_aldn c145_68 rfl (x_gfr c145_69 k_0_6 (wp_wk (l' := [some (jR 0), none]) ⟨rfl, trivial⟩ (x_cv (As := [jR 11]) (st := []) c145_72 cl_20 kl72 rfl (Nat.le_of_ble_eq_true rfl) mx72 (Nat.le_refl _) (H.2.2.1 h2))))))), ⟨fun h3 => (x_aldn c145_119 rfl (x_gfr c145_120 k_0_13 (x_aldn c145_123 rfl (x_gfr c145_124 k_0_5 (x_gfr c145_127 k_7_5 (x_ci c145_130 (x_iald c145_131 a_9 (by decide) (by decide) (wp_wk (l' := [none, none]) trivial (x_cv (As := [jI (M 9 0)]) (st := []) c145_132 cl_50 kl160 rfl (Nat.le_of_ble_eq_true rfl) mx160 (Nat.le_refl _) (H.2.2.2.1 h3)))))))))), trivial⟩⟩⟩ (fun h4 => (x_aldn c145_138 rfl (x_gfr c145_139 k_0_13 (wp_wk (l' := [none, none]) trivial (x_cv (As := []) (st := []) c145_142 cl_50 kl163 rfl (Nat.le_of_ble_eq_true rfl) mx163 (Nat.le_refl _) (H.2.2.2.2 h4))))))))
theorem s145_39 {kc : List va_E} {d : Nat} {M : fx_M} {Q : Option fx_V → fx_M → Prop} (H : wc kc d 158 [jR 40, jR 20] M (fun v M1 => wp kc (d + 1) 145 50 [some (jR 0), none] (v.toList ++ []) M1 Q)) : wp kc (d + 1) 145 39 [some (jR 0), none] [] M Q :=
  (x_aldn c145_39 rfl (x_gfr c145_40 k_0_11 (x_aldn c145_43 rfl (x_gfr c145_44 k_0_7 (wp_wk (l' := [some (jR 0), none]) ⟨rfl, trivial⟩ (x_cv (As := [jR 20]) (st := []) c145_47 cl_40 kl158 rfl (Nat.le_of_ble_eq_true rfl) mx158 (Nat.le_refl _) H))))))
theorem s145_50 {kc : List va_E} {d : Nat} {M : fx_M} {Q : Option fx_V → fx_M → Prop} (H : wc kc d 68 [jR 20, jR 3] M (fun v M1 => wp kc (d + 1) 145 61 [none, none] (v.toList ++ []) M1 Q)) : wp kc (d + 1) 145 50 [some (jR 0), none] [] M Q :=
  (x_aldn c145_50 rfl (x_gfr c145_51 k_0_7 (x_aldn c145_54 rfl (x_gfr c145_55 k_0_3 (wp_wk (l' := [none, none]) trivial (x_cv (As := [jR 3]) (st := []) c145_58 cl_20 kl68 rfl (Nat.le_of_ble_eq_true rfl) mx68 (Nat.le_refl _) H))))))
theorem s145_61 {kc : List va_E} {d : Nat} {M : fx_M} {Q : Option fx_V → fx_M → Prop} (H : Q none M) : wp kc (d + 1) 145 61 [none, none] [] M Q :=
  (x_goto c145_61 (x_vr c145_145 r145 H))
theorem s145_75 {kc : List va_E} {d : Nat} {M : fx_M} {Q : Option fx_V → fx_M → Prop} (H : wc kc d 159 [jR 40, jR 20, jI (M 9 0), jR 11] M (fun v M1 => wp kc (d + 1) 145 99 [some (jR 0), none] (v.toList ++ []) M1 Q)) : wp kc (d + 1) 145 75 [some (jR 0), none] [] M Q :=
  (x_aldn c145_75 rfl (x_gfr c145_76 k_0_11 (x_aldn c145_79 rfl (x_gfr c145_80 k_0_7 (x_aldn c145_83 rfl (x_gfr c145_84 k_0_5 (x_gfr c145_87 k_7_5 (x_ci c145_90 (x_iald c145_91 a_9 (by decide) (by decide) (x_aldn c145_92 rfl (x_gfr c145_93 k_0_6 (wp_wk (l' := [some (jR 0), none]) ⟨rfl, trivial⟩ (x_cv (As := [jR 20, jI (M 9 0), jR 11]) (st := []) c145_96 cl_40 kl159 rfl (Nat.le_of_ble_eq_true rfl) mx159 (Nat.le_refl _) H)))))))))))))
theorem s145_99 {kc : List va_E} {d : Nat} {M : fx_M} {Q : Option fx_V → fx_M → Prop} (H : wc kc d 73 [jR 53] M (fun v M1 => wp kc (d + 1) 145 106 [some (jR 0), none] (v.toList ++ []) M1 Q)) : wp kc (d + 1) 145 99 [some (jR 0), none] [] M Q :=
  (x_aldn c145_99 rfl (x_gfr c145_100 k_0_14 (wp_wk (l' := [some (jR 0), none]) ⟨rfl, trivial⟩ (x_cv (As := []) (st := []) c145_103 cl_53 kl73 rfl (Nat.le_of_ble_eq_true rfl) mx73 (Nat.le_refl _) H))))
theorem s145_106 {kc : List va_E} {d : Nat} {M : fx_M} {Q : Option fx_V → fx_M → Prop} (H : wc kc d 64 [jR 3, jR 1000063] M (fun v M1 => wp kc (d + 1) 145 116 [none, none] (v.toList ++ []) M1 Q)) : wp kc (d + 1) 145 106 [some (jR 0), none] [] M Q :=
  (x_aldn c145_106 rfl (x_gfr c145_107 k_0_3 (x_cr c145_110 (wp_wk (l' := [none, none]) trivial (x_cv (As := [jR 1000063]) (st := []) c145_113 cl_3 kl64 rfl (Nat.le_of_ble_eq_true rfl) mx64 (Nat.le_refl _) H)))))
theorem s145_116 {kc : List va_E} {d : Nat} {M : fx_M} {Q : Option fx_V → fx_M → Prop} (H : Q none M) : wp kc (d + 1) 145 116 [none, none] [] M Q :=
  (x_goto c145_116 (x_vr c145_145 r145 H))
theorem s145_135 {kc : List va_E} {d : Nat} {M : fx_M} {Q : Option fx_V → fx_M → Prop} (H : Q none M) : wp kc (d + 1) 145 135 [none, none] [] M Q :=
  (x_goto c145_135 (x_vr c145_145 r145 H))
theorem s145_145 {kc : List va_E} {d : Nat} {M : fx_M} {Q : Option fx_V → fx_M → Prop} (H : Q none M) : wp kc (d + 1) 145 145 [none, none] [] M Q :=
  (x_vr c145_145 r145 H)
theorem s145 {kc : List va_E} {d : Nat} {x1 : Int} {M : fx_M} {Q : Option fx_V → fx_M → Prop} (H : fx_in32 x1 ∧ (x1 = 21 → wc kc d 146 [jR 40, jR 11] M (fun v M1 => wp kc (d + 1) 145 39 [some (jR 0), none] (v.toList ++ []) M1 Q)) ∧ (x1 = 22 → wc kc d 72 [jR 20, jR 11] M (fun v M1 => wp kc (d + 1) 145 75 [some (jR 0), none] (v.toList ++ []) M1 Q)) ∧ (x1 = 23 → wc kc d 160 [jR 50, jI (M 9 0)] M (fun v M1 => wp kc (d + 1) 145 135 [none, none] (v.toList ++ []) M1 Q)) ∧ ((x1 < 21 ∨ 24 ≤ x1) → wc kc d 163 [jR 50] M (fun v M1 => wp kc (d + 1) 145 145 [none, none] (v.toList ++ []) M1 Q))) : wc kc (d + 1) 145 [jR 0, jI x1] M Q :=
  wc_of (wp_wk (l' := [some (jR 0), some (jI x1)]) ⟨rfl, ⟨rfl, trivial⟩⟩ (s145_0 H))

/- PuzzleHouse.playRequest(I)V -/
theorem c167_0 : fx_op 167 0 = some (.aload_n 0, 1, 0) := by decide +kernel
theorem c167_1 : fx_gf 167 1 = some (0, 5, 4) := by decide +kernel
theorem c167_4 : fx_gf 167 4 = some (2, 5, 7) := by decide +kernel
theorem c167_7 : fx_ci 167 7 = some (0, 8) := by decide +kernel
theorem c167_8 : fx_op 167 8 = some (.iaload, 9, 8) := by decide +kernel
theorem c167_9 : fx_op 167 9 = some (.istore_n 2, 10, 9) := by decide +kernel
theorem c167_10 : fx_op 167 10 = some (.iload_n 1, 11, 10) := by decide +kernel
theorem c167_48 : fx_op 167 48 = some (.aload_n 0, 49, 48) := by decide +kernel
theorem c167_49 : fx_gf 167 49 = some (0, 3, 52) := by decide +kernel
theorem c167_52 : fx_op 167 52 = some (.aload_n 0, 53, 52) := by decide +kernel
theorem c167_53 : fx_gf 167 53 = some (0, 14, 56) := by decide +kernel
theorem c167_56 : fx_op 167 56 = some (.iload_n 2, 57, 56) := by decide +kernel
theorem c167_66 : fx_op 167 66 = some (.aload_n 0, 67, 66) := by decide +kernel
theorem c167_67 : fx_gf 167 67 = some (0, 3, 70) := by decide +kernel
theorem c167_70 : fx_op 167 70 = some (.aload_n 0, 71, 70) := by decide +kernel
theorem c167_71 : fx_gf 167 71 = some (0, 14, 74) := by decide +kernel
theorem c167_74 : fx_op 167 74 = some (.aload_n 0, 75, 74) := by decide +kernel
theorem c167_75 : fx_gf 167 75 = some (0, 6, 78) := by decide +kernel
theorem c167_78 : fx_op 167 78 = some (.iload_n 2, 79, 78) := by decide +kernel
theorem c167_79 : fx_op 167 79 = some (.aload_n 0, 80, 79) := by decide +kernel
theorem c167_80 : fx_gf 167 80 = some (0, 5, 83) := by decide +kernel
theorem c167_83 : fx_gf 167 83 = some (2, 5, 86) := by decide +kernel
theorem c167_86 : fx_ci 167 86 = some (1, 87) := by decide +kernel
theorem c167_87 : fx_op 167 87 = some (.iaload, 88, 87) := by decide +kernel
theorem c167_97 : fx_op 167 97 = some (.aload_n 0, 98, 97) := by decide +kernel
theorem c167_98 : fx_gf 167 98 = some (0, 3, 101) := by decide +kernel
theorem c167_101 : fx_op 167 101 = some (.aload_n 0, 102, 101) := by decide +kernel
theorem c167_102 : fx_gf 167 102 = some (0, 14, 105) := by decide +kernel
theorem c167_114 : fx_op 167 114 = some (.aload_n 0, 115, 114) := by decide +kernel
theorem c167_115 : fx_gf 167 115 = some (0, 3, 118) := by decide +kernel
theorem c167_118 : fx_op 167 118 = some (.aload_n 0, 119, 118) := by decide +kernel
theorem c167_119 : fx_gf 167 119 = some (0, 14, 122) := by decide +kernel
theorem c167_122 : fx_op 167 122 = some (.iload_n 2, 123, 122) := by decide +kernel
theorem c167_132 : fx_op 167 132 = some (.aload_n 0, 133, 132) := by decide +kernel
theorem c167_133 : fx_gf 167 133 = some (0, 14, 136) := by decide +kernel
theorem c167_136 : fx_op 167 136 = some (.aload_n 0, 137, 136) := by decide +kernel
theorem c167_137 : fx_gf 167 137 = some (0, 6, 140) := by decide +kernel
theorem c167_140 : fx_op 167 140 = some (.aload_n 0, 141, 140) := by decide +kernel
theorem c167_141 : fx_gf 167 141 = some (0, 3, 144) := by decide +kernel
theorem c167_150 : fx_op 167 150 = some (.aload_n 0, 151, 150) := by decide +kernel
theorem c167_151 : fx_gf 167 151 = some (0, 3, 154) := by decide +kernel
theorem c167_154 : fx_op 167 154 = some (.aload_n 0, 155, 154) := by decide +kernel
theorem c167_155 : fx_gf 167 155 = some (0, 14, 158) := by decide +kernel
theorem c167_158 : fx_op 167 158 = some (.aload_n 0, 159, 158) := by decide +kernel
theorem c167_159 : fx_gf 167 159 = some (0, 6, 162) := by decide +kernel
theorem c167_162 : fx_op 167 162 = some (.iload_n 2, 163, 162) := by decide +kernel
theorem c167_163 : fx_op 167 163 = some (.aload_n 0, 164, 163) := by decide +kernel
theorem c167_164 : fx_gf 167 164 = some (0, 5, 167) := by decide +kernel
theorem c167_167 : fx_gf 167 167 = some (2, 5, 170) := by decide +kernel
theorem c167_170 : fx_ci 167 170 = some (1, 171) := by decide +kernel
theorem c167_171 : fx_op 167 171 = some (.iaload, 172, 171) := by decide +kernel
theorem c167_181 : fx_op 167 181 = some (.aload_n 0, 182, 181) := by decide +kernel
theorem c167_182 : fx_gf 167 182 = some (0, 14, 185) := by decide +kernel
theorem c167_185 : fx_op 167 185 = some (.aload_n 0, 186, 185) := by decide +kernel
theorem c167_186 : fx_gf 167 186 = some (0, 6, 189) := by decide +kernel
theorem c167_189 : fx_op 167 189 = some (.iload_n 2, 190, 189) := by decide +kernel
theorem c167_190 : fx_op 167 190 = some (.aload_n 0, 191, 190) := by decide +kernel
theorem c167_191 : fx_gf 167 191 = some (0, 3, 194) := by decide +kernel
theorem c167_57 : fx_ca 167 57 = some (168, 2, 2, 60) := by decide +kernel
theorem c167_88 : fx_ca 167 88 = some (169, 4, 2, 91) := by decide +kernel
theorem c167_105 : fx_ca 167 105 = some (171, 1, 2, 108) := by decide +kernel
theorem c167_123 : fx_ca 167 123 = some (172, 2, 2, 126) := by decide +kernel
theorem c167_144 : fx_ca 167 144 = some (173, 3, 2, 147) := by decide +kernel
theorem c167_172 : fx_ca 167 172 = some (174, 4, 2, 175) := by decide +kernel
theorem c167_11 : fx_ts 167 11 = some (25, [48, 66, 97, 114, 132, 150], 181) := by decide +kernel
theorem c167_194 : fx_ca 167 194 = some (175, 4, 2, 197) := by decide +kernel
theorem c167_60 : fx_ca 167 60 = some (64, 2, 2, 63) := by decide +kernel
theorem c167_91 : fx_ca 167 91 = some (64, 2, 2, 94) := by decide +kernel
theorem c167_108 : fx_ca 167 108 = some (64, 2, 2, 111) := by decide +kernel
theorem c167_126 : fx_ca 167 126 = some (64, 2, 2, 129) := by decide +kernel
theorem c167_147 : fx_op 167 147 = some (.goto 50, 150, 197) := by decide +kernel
theorem c167_197 : fx_op 167 197 = some (.return_, 198, 197) := by decide +kernel
theorem c167_175 : fx_ca 167 175 = some (64, 2, 2, 178) := by decide +kernel
theorem c167_63 : fx_op 167 63 = some (.goto 134, 66, 197) := by decide +kernel
theorem c167_94 : fx_op 167 94 = some (.goto 103, 97, 197) := by decide +kernel
theorem c167_111 : fx_op 167 111 = some (.goto 86, 114, 197) := by decide +kernel
theorem c167_129 : fx_op 167 129 = some (.goto 68, 132, 197) := by decide +kernel
theorem c167_178 : fx_op 167 178 = some (.goto 19, 181, 197) := by decide +kernel
theorem s167_0 {kc : List va_E} {d : Nat} {x1 : Int} {M : fx_M} {Q : Option fx_V → fx_M → Prop} (H : fx_in32 x1 ∧ (x1 = 25 → wc kc d 168 [jR 53, jI (M 9 0)] M (fun v M1 => wp kc (d + 1) 167 60 [none, none, none] (v.toList ++ [jR 3]) M1 Q)) ∧ (x1 = 26 → wc kc d 169 [jR 53, jR 11, jI (M 9 0), jI (M 9 1)] M (fun v M1 => wp kc (d + 1) 167 91 [none, none, none] (v.toList ++ [jR 3]) M1 Q)) ∧ (x1 = 27 → wc kc d 171 [jR 53] M (fun v M1 => wp kc (d + 1) 167 108 [none, none, none] (v.toList ++ [jR 3]) M1 Q)) ∧ (x1 = 28 → wc kc d 172 [jR 53, jI (M 9 0)] M (fun v M1 => wp kc (d + 1) 167 126 [none, none, none] (v.toList ++ [jR 3]) M1 Q)) ∧ (x1 = 29 → wc kc d 173 [jR 53, jR 11, jR 3] M (fun v M1 => wp kc (d + 1) 167 147 [none, none, none] (v.toList ++ []) M1 Q)) ∧ (x1 = 30 → wc kc d 174 [jR 53, jR 11, jI (M 9 0), jI (M 9 1)] M (fun v M1 => wp kc (d + 1) 167 175 [none, none, none] (v.toList ++ [jR 3]) M1 Q)) ∧ ((x1 < 25 ∨ 31 ≤ x1) → wc kc d 175 [jR 53, jR 11, jI (M 9 0), jR 3] M (fun v M1 => wp kc (d + 1) 167 197 [none, none, none] (v.toList ++ []) M1 Q))) : wp kc (d + 1) 167 0 [some (jR 0), some (jI x1), none] [] M Q :=
  (x_aldn c167_0 rfl (x_gfr c167_1 k_0_5 (x_gfr c167_4 k_7_5 (x_ci c167_7 (x_iald c167_8 a_9 (by decide) (by decide) (x_istn (l' := [some (jR 0), some (jI x1), some (jI (M 9 0))]) c167_9 rfl (x_ildn c167_10 rfl (x_sw c167_11 H.1 ⟨fun h1 => (x_aldn c167_48 rfl (x_gfr c167_49 k_0_3 (x_aldn c167_52 rfl (x_gfr c167_53 k_0_14 (x_ildn c167_56 rfl (wp_wk (l' := [none, none, none]) trivial (x_cv (As := [jI (M 9 0)]) (st := [jR 3]) c167_57 cl_53 kl168 rfl (Nat.le_of_ble_eq_true rfl) mx168 (Nat.le_refl _) (H.2.1 h1)))))))), ⟨fun h2 => (x_aldn c167_66 rfl (x_gfr c167_67 k_0_3 (x_aldn c167_70 rfl (x_gfr c167_71 k_0_14 (x_aldn c167_74 rfl (x_gfr c167_75 k_0_6 (x_ildn c167_78 rfl (x_aldn c167_79 rfl (x_gfr c167_80 k_0_5 (x_gfr c167_83 k_7_5 (x_ci c167_86 (x_iald c167_87 a_9 (by decide) (by decide) (wp_wk (l' := [none, none, none]) trivial (x_cv (As := [jR 11, jI (M 9 0), jI (M 9 1)]) (st := [jR 3]) c167_88 cl_53 kl169 rfl (Nat.le_of_ble_eq_true rfl) mx169 (Nat.le_refl _) (H.2.2.1 h2))))))))))))))), ⟨fun h3 => (x_aldn c167_97 rfl (x_gfr c167_98 k_0_3 (x_aldn c167_101 rfl (x_gfr c167_102 k_0_14 (wp_wk (l' := [none, none, none]) trivial (x_cv (As := []) (st := [jR 3]) c167_105 cl_53 kl171 rfl (Nat.le_of_ble_eq_true rfl) mx171 (Nat.le_refl _) (H.2.2.2.1 h3))))))), ⟨fun h4 => (x_aldn c167_114 rfl (x_gfr c167_115 k_0_3 (x_aldn c167_118 rfl (x_gfr c167_119 k_0_14 (x_ildn c167_122 rfl (wp_wk (l' := [none, none, none]) trivial (x_cv (As := [jI (M 9 0)]) (st := [jR 3]) c167_123 cl_53 kl172 rfl (Nat.le_of_ble_eq_true rfl) mx172 (Nat.le_refl _) (H.2.2.2.2.1 h4)))))))), ⟨fun h5 => (x_aldn c167_132 rfl (x_gfr c167_133 k_0_14 (x_aldn c167_136 rfl (x_gfr c167_137 k_0_6 (x_aldn c167_140 rfl (x_gfr c167_141 k_0_3 (wp_wk (l' := [none, none, none]) trivial (x_cv (As := [jR 11, jR 3]) (st := []) c167_144 cl_53 kl173 rfl (Nat.le_of_ble_eq_true rfl) mx173 (Nat.le_refl _) (H.2.2.2.2.2.1 h5))))))))), ⟨fun h6 => (x_aldn c167_150 rfl (x_gfr c167_151 k_0_3 (x_aldn c167_154 rfl (x_gfr c167_155 k_0_14 (x_aldn c167_158 rfl (x_gfr c167_159 k_0_6 (x_ildn c167_162 rfl (x_aldn c167_163 rfl (x_gfr c167_164 k_0_5 (x_gfr c167_167 k_7_5 (x_ci c167_170 (x_iald c167_171 a_9 (by decide) (by decide) (wp_wk (l' := [none, none, none]) trivial (x_cv (As := [jR 11, jI (M 9 0), jI (M 9 1)]) (st := [jR 3]) c167_172 cl_53 kl174 rfl (Nat.le_of_ble_eq_true rfl) mx174 (Nat.le_refl _) (H.2.2.2.2.2.2.1 h6))))))))))))))), trivial⟩⟩⟩⟩⟩⟩ (fun h7 => (x_aldn c167_181 rfl (x_gfr c167_182 k_0_14 (x_aldn c167_185 rfl (x_gfr c167_186 k_0_6 (x_ildn c167_189 rfl (x_aldn c167_190 rfl (x_gfr c167_191 k_0_3 (wp_wk (l' := [none, none, none]) trivial (x_cv (As := [jR 11, jI (M 9 0), jR 3]) (st := []) c167_194 cl_53 kl175 rfl (Nat.le_of_ble_eq_true rfl) mx175 (Nat.le_refl _) (H.2.2.2.2.2.2.2 h7)))))))))))))))))))
theorem s167_60 {kc : List va_E} {d : Nat} {u0 : Nat} {M : fx_M} {Q : Option fx_V → fx_M → Prop} (H : wc kc d 64 [jR 3, jR u0] M (fun v M1 => wp kc (d + 1) 167 63 [none, none, none] (v.toList ++ []) M1 Q)) : wp kc (d + 1) 167 60 [none, none, none] [jR u0, jR 3] M Q :=
  (wp_wk (l' := [none, none, none]) trivial (x_cv (As := [jR u0]) (st := []) c167_60 cl_3 kl64 rfl (Nat.le_of_ble_eq_true rfl) mx64 (Nat.le_refl _) H))
theorem s167_63 {kc : List va_E} {d : Nat} {M : fx_M} {Q : Option fx_V → fx_M → Prop} (H : Q none M) : wp kc (d + 1) 167 63 [none, none, none] [] M Q :=
  (x_goto c167_63 (x_vr c167_197 r167 H))
theorem s167_91 {kc : List va_E} {d : Nat} {u0 : Nat} {M : fx_M} {Q : Option fx_V → fx_M → Prop} (H : wc kc d 64 [jR 3, jR u0] M (fun v M1 => wp kc (d + 1) 167 94 [none, none, none] (v.toList ++ []) M1 Q)) : wp kc (d + 1) 167 91 [none, none, none] [jR u0, jR 3] M Q :=
  (wp_wk (l' := [none, none, none]) trivial (x_cv (As := [jR u0]) (st := []) c167_91 cl_3 kl64 rfl (Nat.le_of_ble_eq_true rfl) mx64 (Nat.le_refl _) H))
theorem s167_94 {kc : List va_E} {d : Nat} {M : fx_M} {Q : Option fx_V → fx_M → Prop} (H : Q none M) : wp kc (d + 1) 167 94 [none, none, none] [] M Q :=
  (x_goto c167_94 (x_vr c167_197 r167 H))
theorem s167_108 {kc : List va_E} {d : Nat} {u0 : Nat} {M : fx_M} {Q : Option fx_V → fx_M → Prop} (H : wc kc d 64 [jR 3, jR u0] M (fun v M1 => wp kc (d + 1) 167 111 [none, none, none] (v.toList ++ []) M1 Q)) : wp kc (d + 1) 167 108 [none, none, none] [jR u0, jR 3] M Q :=
  (wp_wk (l' := [none, none, none]) trivial (x_cv (As := [jR u0]) (st := []) c167_108 cl_3 kl64 rfl (Nat.le_of_ble_eq_true rfl) mx64 (Nat.le_refl _) H))
theorem s167_111 {kc : List va_E} {d : Nat} {M : fx_M} {Q : Option fx_V → fx_M → Prop} (H : Q none M) : wp kc (d + 1) 167 111 [none, none, none] [] M Q :=
  (x_goto c167_111 (x_vr c167_197 r167 H))
theorem s167_126 {kc : List va_E} {d : Nat} {u0 : Nat} {M : fx_M} {Q : Option fx_V → fx_M → Prop} (H : wc kc d 64 [jR 3, jR u0] M (fun v M1 => wp kc (d + 1) 167 129 [none, none, none] (v.toList ++ []) M1 Q)) : wp kc (d + 1) 167 126 [none, none, none] [jR u0, jR 3] M Q :=
  (wp_wk (l' := [none, none, none]) trivial (x_cv (As := [jR u0]) (st := []) c167_126 cl_3 kl64 rfl (Nat.le_of_ble_eq_true rfl) mx64 (Nat.le_refl _) H))
theorem s167_129 {kc : List va_E} {d : Nat} {M : fx_M} {Q : Option fx_V → fx_M → Prop} (H : Q none M) : wp kc (d + 1) 167 129 [none, none, none] [] M Q :=
  (x_goto c167_129 (x_vr c167_197 r167 H))
theorem s167_147 {kc : List va_E} {d : Nat} {M : fx_M} {Q : Option fx_V → fx_M → Prop} (H : Q none M) : wp kc (d + 1) 167 147 [none, none, none] [] M Q :=
  (x_goto c167_147 (x_vr c167_197 r167 H))
theorem s167_175 {kc : List va_E} {d : Nat} {u0 : Nat} {M : fx_M} {Q : Option fx_V → fx_M → Prop} (H : wc kc d 64 [jR 3, jR u0] M (fun v M1 => wp kc (d + 1) 167 178 [none, none, none] (v.toList ++ []) M1 Q)) : wp kc (d + 1) 167 175 [none, none, none] [jR u0, jR 3] M Q :=
  (wp_wk (l' := [none, none, none]) trivial (x_cv (As := [jR u0]) (st := []) c167_175 cl_3 kl64 rfl (Nat.le_of_ble_eq_true rfl) mx64 (Nat.le_refl _) H))
theorem s167_178 {kc : List va_E} {d : Nat} {M : fx_M} {Q : Option fx_V → fx_M → Prop} (H : Q none M) : wp kc (d + 1) 167 178 [none, none, none] [] M Q :=
  (x_goto c167_178 (x_vr c167_197 r167 H))
theorem s167_197 {kc : List va_E} {d : Nat} {M : fx_M} {Q : Option fx_V → fx_M → Prop} (H : Q none M) : wp kc (d + 1) 167 197 [none, none, none] [] M Q :=
  (x_vr c167_197 r167 H)
theorem s167 {kc : List va_E} {d : Nat} {x1 : Int} {M : fx_M} {Q : Option fx_V → fx_M → Prop} (H : fx_in32 x1 ∧ (x1 = 25 → wc kc d 168 [jR 53, jI (M 9 0)] M (fun v M1 => wp kc (d + 1) 167 60 [none, none, none] (v.toList ++ [jR 3]) M1 Q)) ∧ (x1 = 26 → wc kc d 169 [jR 53, jR 11, jI (M 9 0), jI (M 9 1)] M (fun v M1 => wp kc (d + 1) 167 91 [none, none, none] (v.toList ++ [jR 3]) M1 Q)) ∧ (x1 = 27 → wc kc d 171 [jR 53] M (fun v M1 => wp kc (d + 1) 167 108 [none, none, none] (v.toList ++ [jR 3]) M1 Q)) ∧ (x1 = 28 → wc kc d 172 [jR 53, jI (M 9 0)] M (fun v M1 => wp kc (d + 1) 167 126 [none, none, none] (v.toList ++ [jR 3]) M1 Q)) ∧ (x1 = 29 → wc kc d 173 [jR 53, jR 11, jR 3] M (fun v M1 => wp kc (d + 1) 167 147 [none, none, none] (v.toList ++ []) M1 Q)) ∧ (x1 = 30 → wc kc d 174 [jR 53, jR 11, jI (M 9 0), jI (M 9 1)] M (fun v M1 => wp kc (d + 1) 167 175 [none, none, none] (v.toList ++ [jR 3]) M1 Q)) ∧ ((x1 < 25 ∨ 31 ≤ x1) → wc kc d 175 [jR 53, jR 11, jI (M 9 0), jR 3] M (fun v M1 => wp kc (d + 1) 167 197 [none, none, none] (v.toList ++ []) M1 Q))) : wc kc (d + 1) 167 [jR 0, jI x1] M Q :=
  wc_of (wp_wk (l' := [some (jR 0), some (jI x1), none]) ⟨rfl, ⟨rfl, trivial⟩⟩ (s167_0 H))

/- PuzzleHouse.contestRequest(I)V -/
theorem c176_0 : fx_op 176 0 = some (.iload_n 1, 1, 0) := by decide +kernel
theorem c176_28 : fx_op 176 28 = some (.aload_n 0, 29, 28) := by decide +kernel
theorem c176_29 : fx_gf 176 29 = some (0, 15, 32) := by decide +kernel
theorem c176_32 : fx_ci 176 32 = some (0, 33) := by decide +kernel
theorem c176_33 : fx_pf 176 33 = some (10, 0, 0, 36) := by decide +kernel
theorem c176_36 : fx_op 176 36 = some (.aload_n 0, 37, 36) := by decide +kernel
theorem c176_37 : fx_gf 176 37 = some (0, 3, 40) := by decide +kernel
theorem c176_40 : fx_cr 176 40 = some (1000063, 43) := by decide +kernel
theorem c176_49 : fx_op 176 49 = some (.aload_n 0, 50, 49) := by decide +kernel
theorem c176_56 : fx_op 176 56 = some (.aload_n 0, 57, 56) := by decide +kernel
theorem c176_57 : fx_gf 176 57 = some (0, 3, 60) := by decide +kernel
theorem c176_60 : fx_op 176 60 = some (.aload_n 0, 61, 60) := by decide +kernel
theorem c176_61 : fx_gf 176 61 = some (0, 15, 64) := by decide +kernel
theorem c176_64 : fx_op 176 64 = some (.aload_n 0, 65, 64) := by decide +kernel
theorem c176_65 : fx_gf 176 65 = some (0, 5, 68) := by decide +kernel
theorem c176_68 : fx_op 176 68 = some (.aload_n 0, 69, 68) := by decide +kernel
theorem c176_69 : fx_gf 176 69 = some (0, 5, 72) := by decide +kernel
theorem c176_72 : fx_gf 176 72 = some (2, 5, 75) := by decide +kernel
theorem c176_75 : fx_ci 176 75 = some (0, 76) := by decide +kernel
theorem c176_76 : fx_op 176 76 = some (.iaload, 77, 76) := by decide +kernel
theorem c176_77 : fx_op 176 77 = some (.aload_n 0, 78, 77) := by decide +kernel
theorem c176_78 : fx_gf 176 78 = some (0, 5, 81) := by decide +kernel
theorem c176_81 : fx_gf 176 81 = some (2, 5, 84) := by decide +kernel
theorem c176_84 : fx_ci 176 84 = some (1, 85) := by decide +kernel
theorem c176_85 : fx_op 176 85 = some (.iaload, 86, 85) := by decide +kernel
theorem c176_95 : fx_op 176 95 = some (.aload_n 0, 96, 95) := by decide +kernel
theorem c176_96 : fx_gf 176 96 = some (0, 15, 99) := by decide +kernel
theorem c176_99 : fx_op 176 99 = some (.aload_n 0, 100, 99) := by decide +kernel
theorem c176_100 : fx_gf 176 100 = some (0, 3, 103) := by decide +kernel
theorem c176_43 : fx_ca 176 43 = some (64, 2, 2, 46) := by decide +kernel
theorem c176_50 : fx_ca 176 50 = some (177, 1, 2, 53) := by decide +kernel
theorem c176_86 : fx_ca 176 86 = some (186, 4, 2, 89) := by decide +kernel
theorem c176_1 : fx_ts 176 1 = some (32, [28, 49, 56], 95) := by decide +kernel
theorem c176_103 : fx_ca 176 103 = some (187, 2, 2, 106) := by decide +kernel
theorem c176_46 : fx_op 176 46 = some (.goto 60, 49, 106) := by decide +kernel
theorem c176_106 : fx_op 176 106 = some (.return_, 107, 106) := by decide +kernel
theorem c176_53 : fx_op 176 53 = some (.goto 53, 56, 106) := by decide +kernel
theorem c176_89 : fx_ca 176 89 = some (64, 2, 2, 92) := by decide +kernel
theorem c176_92 : fx_op 176 92 = some (.goto 14, 95, 106) := by decide +kernel
theorem s176_0 {kc : List va_E} {d : Nat} {x1 : Int} {M : fx_M} {Q : Option fx_V → fx_M → Prop} (H : fx_in32 x1 ∧ (x1 = 32 → wc kc d 64 [jR 3, jR 1000063] (fx_up M 62 0 0) (fun v M1 => wp kc (d + 1) 176 46 [none, none] (v.toList ++ []) M1 Q)) ∧ (x1 = 33 → wc kc d 177 [jR 0] M (fun v M1 => wp kc (d + 1) 176 53 [none, none] (v.toList ++ []) M1 Q)) ∧ (x1 = 34 → wc kc d 186 [jR 62, jR 7, jI (M 9 0), jI (M 9 1)] M (fun v M1 => wp kc (d + 1) 176 89 [none, none] (v.toList ++ [jR 3]) M1 Q)) ∧ ((x1 < 32 ∨ 35 ≤ x1) → wc kc d 187 [jR 62, jR 3] M (fun v M1 => wp kc (d + 1) 176 106 [none, none] (v.toList ++ []) M1 Q))) : wp kc (d + 1) 176 0 [some (jR 0), some (jI x1)] [] M Q :=
  (x_ildn c176_0 rfl (x_sw c176_1 H.1 ⟨fun h1 => (x_aldn c176_28 rfl (x_gfr c176_29 k_0_15 (x_ci c176_32 (x_pfi c176_33 k_62_0 (x_aldn c176_36 rfl (x_gfr c176_37 k_0_3 (x_cr c176_40 (wp_wk (l' := [none, none]) trivial (x_cv (As := [jR 1000063]) (st := []) c176_43 cl_3 kl64 rfl (Nat.le_of_ble_eq_true rfl) mx64 (Nat.le_refl _) (H.2.1 h1)))))))))), ⟨fun h2 => (x_aldn c176_49 rfl (wp_wk (l' := [none, none]) trivial (x_cv (As := []) (st := []) c176_50 cl_0 kl177 rfl (Nat.le_of_ble_eq_true rfl) mx177 (Nat.le_refl _) (H.2.2.1 h2)))), ⟨fun h3 => (x_aldn c176_56 rfl (x_gfr c176_57 k_0_3 (x_aldn c176_60 rfl (x_gfr c176_61 k_0_15 (x_aldn c176_64 rfl (x_gfr c176_65 k_0_5 (x_aldn c176_68 rfl (x_gfr c176_69 k_0_5 (x_gfr c176_72 k_7_5 (x_ci c176_75 (x_iald c176_76 a_9 (by decide) (by decide) (x_aldn c176_77 rfl (x_gfr c176_78 k_0_5 (x_gfr c176_81 k_7_5 (x_ci c176_84 (x_iald c176_85 a_9 (by decide) (by decide) (wp_wk (l' := [none, none]) trivial (x_cv (As := [jR 7, jI (M 9 0), jI (M 9 1)]) (st := [jR 3]) c176_86 cl_62 kl186 rfl (Nat.le_of_ble_eq_true rfl) mx186 (Nat.le_refl _) (H.2.2.2.1 h3))))))))))))))))))), trivial⟩⟩⟩ (fun h4 => (x_aldn c176_95 rfl (x_gfr c176_96 k_0_15 (x_aldn c176_99 rfl (x_gfr c176_100 k_0_3 (wp_wk (l' := [none, none]) trivial (x_cv (As := [jR 3]) (st := []) c176_103 cl_62 kl187 rfl (Nat.le_of_ble_eq_true rfl) mx187 (Nat.le_refl _) (H.2.2.2.2 h4))))))))))
theorem s176_46 {kc : List va_E} {d : Nat} {M : fx_M} {Q : Option fx_V → fx_M → Prop} (H : Q none M) : wp kc (d + 1) 176 46 [none, none] [] M Q :=
  (x_goto c176_46 (x_vr c176_106 r176 H))
theorem s176_53 {kc : List va_E} {d : Nat} {M : fx_M} {Q : Option fx_V → fx_M → Prop} (H : Q none M) : wp kc (d + 1) 176 53 [none, none] [] M Q :=
  (x_goto c176_53 (x_vr c176_106 r176 H))
theorem s176_89 {kc : List va_E} {d : Nat} {u0 : Nat} {M : fx_M} {Q : Option fx_V → fx_M → Prop} (H : wc kc d 64 [jR 3, jR u0] M (fun v M1 => wp kc (d + 1) 176 92 [none, none] (v.toList ++ []) M1 Q)) : wp kc (d + 1) 176 89 [none, none] [jR u0, jR 3] M Q :=
  (wp_wk (l' := [none, none]) trivial (x_cv (As := [jR u0]) (st := []) c176_89 cl_3 kl64 rfl (Nat.le_of_ble_eq_true rfl) mx64 (Nat.le_refl _) H))
theorem s176_92 {kc : List va_E} {d : Nat} {M : fx_M} {Q : Option fx_V → fx_M → Prop} (H : Q none M) : wp kc (d + 1) 176 92 [none, none] [] M Q :=
  (x_goto c176_92 (x_vr c176_106 r176 H))
theorem s176_106 {kc : List va_E} {d : Nat} {M : fx_M} {Q : Option fx_V → fx_M → Prop} (H : Q none M) : wp kc (d + 1) 176 106 [none, none] [] M Q :=
  (x_vr c176_106 r176 H)
theorem s176 {kc : List va_E} {d : Nat} {x1 : Int} {M : fx_M} {Q : Option fx_V → fx_M → Prop} (H : fx_in32 x1 ∧ (x1 = 32 → wc kc d 64 [jR 3, jR 1000063] (fx_up M 62 0 0) (fun v M1 => wp kc (d + 1) 176 46 [none, none] (v.toList ++ []) M1 Q)) ∧ (x1 = 33 → wc kc d 177 [jR 0] M (fun v M1 => wp kc (d + 1) 176 53 [none, none] (v.toList ++ []) M1 Q)) ∧ (x1 = 34 → wc kc d 186 [jR 62, jR 7, jI (M 9 0), jI (M 9 1)] M (fun v M1 => wp kc (d + 1) 176 89 [none, none] (v.toList ++ [jR 3]) M1 Q)) ∧ ((x1 < 32 ∨ 35 ≤ x1) → wc kc d 187 [jR 62, jR 3] M (fun v M1 => wp kc (d + 1) 176 106 [none, none] (v.toList ++ []) M1 Q))) : wc kc (d + 1) 176 [jR 0, jI x1] M Q :=
  wc_of (wp_wk (l' := [some (jR 0), some (jI x1)]) ⟨rfl, ⟨rfl, trivial⟩⟩ (s176_0 H))

/- PuzzleHouse.setItem()V -/
theorem c177_0 : fx_op 177 0 = some (.aload_n 0, 1, 0) := by decide +kernel
theorem c177_1 : fx_gf 177 1 = some (0, 16, 4) := by decide +kernel
theorem c177_4 : fx_gf 177 4 = some (11, 1, 7) := by decide +kernel
theorem c177_7 : fx_op 177 7 = some (.ifCond .ne 13, 10, 20) := by decide +kernel
theorem c177_20 : fx_op 177 20 = some (.aload_n 0, 21, 20) := by decide +kernel
theorem c177_21 : fx_gf 177 21 = some (0, 16, 24) := by decide +kernel
theorem c177_24 : fx_op 177 24 = some (.aload_n 0, 25, 24) := by decide +kernel
theorem c177_25 : fx_gf 177 25 = some (0, 2, 28) := by decide +kernel
theorem c177_28 : fx_op 177 28 = some (.aload_n 0, 29, 28) := by decide +kernel
theorem c177_29 : fx_gf 177 29 = some (0, 5, 32) := by decide +kernel
theorem c177_32 : fx_gf 177 32 = some (2, 6, 35) := by decide +kernel
theorem c177_35 : fx_op 177 35 = some (.aload_n 0, 36, 35) := by decide +kernel
theorem c177_36 : fx_gf 177 36 = some (0, 5, 39) := by decide +kernel
theorem c177_39 : fx_gf 177 39 = some (2, 7, 42) := by decide +kernel
theorem c177_10 : fx_op 177 10 = some (.aload_n 0, 11, 10) := by decide +kernel
theorem c177_11 : fx_gf 177 11 = some (0, 3, 14) := by decide +kernel
theorem c177_14 : fx_cr 177 14 = some (1000147, 16) := by decide +kernel
theorem c177_42 : fx_ca 177 42 = some (178, 4, 2, 45) := by decide +kernel
theorem c177_16 : fx_ca 177 16 = some (64, 2, 2, 19) := by decide +kernel
theorem c177_45 : fx_op 177 45 = some (.istore_n 1, 46, 45) := by decide +kernel
theorem c177_46 : fx_op 177 46 = some (.iload_n 1, 47, 46) := by decide +kernel
theorem c177_47 : fx_op 177 47 = some (.ifCond .lt 18, 50, 65) := by decide +kernel
theorem c177_65 : fx_op 177 65 = some (.aload_n 0, 66, 65) := by decide +kernel
theorem c177_66 : fx_gf 177 66 = some (0, 3, 69) := by decide +kernel
theorem c177_69 : fx_cr 177 69 = some (1000149, 72) := by decide +kernel
theorem c177_50 : fx_op 177 50 = some (.aload_n 0, 51, 50) := by decide +kernel
theorem c177_51 : fx_gf 177 51 = some (0, 16, 54) := by decide +kernel
theorem c177_54 : fx_op 177 54 = some (.iload_n 1, 55, 54) := by decide +kernel
theorem c177_55 : fx_op 177 55 = some (.aload_n 0, 56, 55) := by decide +kernel
theorem c177_56 : fx_gf 177 56 = some (0, 7, 59) := by decide +kernel
theorem c177_72 : fx_ca 177 72 = some (64, 2, 2, 75) := by decide +kernel
theorem c177_59 : fx_ca 177 59 = some (182, 3, 2, 62) := by decide +kernel
theorem c177_19 : fx_op 177 19 = some (.return_, 20, 19) := by decide +kernel
theorem c177_75 : fx_op 177 75 = some (.return_, 76, 75) := by decide +kernel
theorem c177_62 : fx_op 177 62 = some (.ifCond .ne 14, 65, 76) := by decide +kernel
theorem c177_76 : fx_op 177 76 = some (.aload_n 0, 77, 76) := by decide +kernel
theorem c177_77 : fx_gf 177 77 = some (0, 3, 80) := by decide +kernel
theorem c177_80 : fx_op 177 80 = some (.aload_n 0, 81, 80) := by decide +kernel
theorem c177_81 : fx_gf 177 81 = some (0, 15, 84) := by decide +kernel
theorem c177_84 : fx_op 177 84 = some (.aload_n 0, 85, 84) := by decide +kernel
theorem c177_85 : fx_gf 177 85 = some (0, 5, 88) := by decide +kernel
theorem c177_88 : fx_op 177 88 = some (.aload_n 0, 89, 88) := by decide +kernel
theorem c177_89 : fx_gf 177 89 = some (0, 5, 92) := by decide +kernel
theorem c177_92 : fx_gf 177 92 = some (2, 5, 95) := by decide +kernel
theorem c177_95 : fx_ci 177 95 = some (0, 96) := by decide +kernel
theorem c177_96 : fx_op 177 96 = some (.iaload, 97, 96) := by decide +kernel
theorem c177_97 : fx_op 177 97 = some (.aload_n 0, 98, 97) := by decide +kernel
theorem c177_98 : fx_gf 177 98 = some (0, 7, 101) := by decide +kernel
theorem c177_101 : fx_ca 177 101 = some (184, 4, 2, 104) := by decide +kernel
theorem c177_104 : fx_ca 177 104 = some (64, 2, 2, 107) := by decide +kernel
theorem c177_107 : fx_op 177 107 = some (.return_, 108, 107) := by decide +kernel
theorem s177_0 {kc : List va_E} {d : Nat} {M : fx_M} {Q : Option fx_V → fx_M → Prop} (H : ((fx_in32 (M 125 1))) ∧ (M 125 1 ≠ 0 → wc kc d 178 [jR 125, jR 2, jI (M 7 6), jI (M 7 7)] M (fun v M1 => wp kc (d + 1) 177 45 [some (jR 0), none] (v.toList ++ []) M1 Q)) ∧ (M 125 1 = 0 → wc kc d 64 [jR 3, jR 1000147] M (fun v M1 => wp kc (d + 1) 177 19 [none, none] (v.toList ++ []) M1 Q))) : wp kc (d + 1) 177 0 [some (jR 0), none] [] M Q :=
  (x_aldn c177_0 rfl (x_gfr c177_1 k_0_16 (x_gfi c177_4 k_125_1 (x_zne c177_7 H.1 (fun h1 => (x_aldn c177_20 rfl (x_gfr c177_21 k_0_16 (x_aldn c177_24 rfl (x_gfr c177_25 k_0_2 (x_aldn c177_28 rfl (x_gfr c177_29 k_0_5 (x_gfi c177_32 k_7_6 (x_aldn c177_35 rfl (x_gfr c177_36 k_0_5 (x_gfi c177_39 k_7_7 (wp_wk (l' := [some (jR 0), none]) ⟨rfl, trivial⟩ (x_cv (As := [jR 2, jI (M 7 6), jI (M 7 7)]) (st := []) c177_42 cl_125 kl178 rfl (Nat.le_of_ble_eq_true rfl) mx178 (Nat.le_refl _) (H.2.1 h1)))))))))))))) (fun h2 => (x_aldn c177_10 rfl (x_gfr c177_11 k_0_3 (x_cr c177_14 (wp_wk (l' := [none, none]) trivial (x_cv (As := [jR 1000147]) (st := []) c177_16 cl_3 kl64 rfl (Nat.le_of_ble_eq_true rfl) mx64 (Nat.le_refl _) (H.2.2 h2)))))))))))
theorem s177_19 {kc : List va_E} {d : Nat} {M : fx_M} {Q : Option fx_V → fx_M → Prop} (H : Q none M) : wp kc (d + 1) 177 19 [none, none] [] M Q :=
  (x_vr c177_19 r177 H)
theorem s177_45 {kc : List va_E} {d : Nat} {u0 : Int} {M : fx_M} {Q : Option fx_V → fx_M → Prop} (H : ((fx_in32 u0)) ∧ (u0 < 0 → wc kc d 64 [jR 3, jR 1000149] M (fun v M1 => wp kc (d + 1) 177 75 [none, none] (v.toList ++ []) M1 Q)) ∧ (0 ≤ u0 → wc kc d 182 [jR 125, jI u0, jR 20] M (fun v M1 => wp kc (d + 1) 177 62 [some (jR 0), none] (v.toList ++ []) M1 Q))) : wp kc (d + 1) 177 45 [some (jR 0), none] [jI u0] M Q :=
  (x_istn (l' := [some (jR 0), some (jI u0)]) c177_45 rfl (x_ildn c177_46 rfl (x_zlt c177_47 H.1 (fun h1 => (x_aldn c177_65 rfl (x_gfr c177_66 k_0_3 (x_cr c177_69 (wp_wk (l' := [none, none]) trivial (x_cv (As := [jR 1000149]) (st := []) c177_72 cl_3 kl64 rfl (Nat.le_of_ble_eq_true rfl) mx64 (Nat.le_refl _) (H.2.1 h1))))))) (fun h2 => (x_aldn c177_50 rfl (x_gfr c177_51 k_0_16 (x_ildn c177_54 rfl (x_aldn c177_55 rfl (x_gfr c177_56 k_0_7 (wp_wk (l' := [some (jR 0), none]) ⟨rfl, trivial⟩ (x_cv (As := [jI u0, jR 20]) (st := []) c177_59 cl_125 kl182 rfl (Nat.le_of_ble_eq_true rfl) mx182 (Nat.le_refl _) (H.2.2 h2))))))))))))
theorem s177_62 {kc : List va_E} {d : Nat} {u0 : Int} {M : fx_M} {Q : Option fx_V → fx_M → Prop} (H : ((fx_in32 u0)) ∧ (u0 ≠ 0 → wc kc d 184 [jR 62, jR 7, jI (M 9 0), jR 20] M (fun v M1 => wp kc (d + 1) 177 104 [none, none] (v.toList ++ [jR 3]) M1 Q)) ∧ (u0 = 0 → wc kc d 64 [jR 3, jR 1000149] M (fun v M1 => wp kc (d + 1) 177 75 [none, none] (v.toList ++ []) M1 Q))) : wp kc (d + 1) 177 62 [some (jR 0), none] [jI u0] M Q :=
  (x_zne c177_62 H.1 (fun h1 => (x_aldn c177_76 rfl (x_gfr c177_77 k_0_3 (x_aldn c177_80 rfl (x_gfr c177_81 k_0_15 (x_aldn c177_84 rfl (x_gfr c177_85 k_0_5 (x_aldn c177_88 rfl (x_gfr c177_89 k_0_5 (x_gfr c177_92 k_7_5 (x_ci c177_95 (x_iald c177_96 a_9 (by decide) (by decide) (x_aldn c177_97 rfl (x_gfr c177_98 k_0_7 (wp_wk (l' := [none, none]) trivial (x_cv (As := [jR 7, jI (M 9 0), jR 20]) (st := [jR 3]) c177_101 cl_62 kl184 rfl (Nat.le_of_ble_eq_true rfl) mx184 (Nat.le_refl _) (H.2.1 h1))))))))))))))))) (fun h2 => (x_aldn c177_65 rfl (x_gfr c177_66 k_0_3 (x_cr c177_69 (wp_wk (l' := [none, none]) trivial (x_cv (As := [jR 1000149]) (st := []) c177_72 cl_3 kl64 rfl (Nat.le_of_ble_eq_true rfl) mx64 (Nat.le_refl _) (H.2.2 h2))))))))
theorem s177_75 {kc : List va_E} {d : Nat} {M : fx_M} {Q : Option fx_V → fx_M → Prop} (H : Q none M) : wp kc (d + 1) 177 75 [none, none] [] M Q :=
  (x_vr c177_75 r177 H)
theorem s177_104 {kc : List va_E} {d : Nat} {u0 : Nat} {M : fx_M} {Q : Option fx_V → fx_M → Prop} (H : wc kc d 64 [jR 3, jR u0] M (fun v M1 => wp kc (d + 1) 177 107 [none, none] (v.toList ++ []) M1 Q)) : wp kc (d + 1) 177 104 [none, none] [jR u0, jR 3] M Q :=
  (wp_wk (l' := [none, none]) trivial (x_cv (As := [jR u0]) (st := []) c177_104 cl_3 kl64 rfl (Nat.le_of_ble_eq_true rfl) mx64 (Nat.le_refl _) H))
theorem s177_107 {kc : List va_E} {d : Nat} {M : fx_M} {Q : Option fx_V → fx_M → Prop} (H : Q none M) : wp kc (d + 1) 177 107 [none, none] [] M Q :=
  (x_vr c177_107 r177 H)
theorem s177 {kc : List va_E} {d : Nat} {M : fx_M} {Q : Option fx_V → fx_M → Prop} (H : ((fx_in32 (M 125 1))) ∧ (M 125 1 ≠ 0 → wc kc d 178 [jR 125, jR 2, jI (M 7 6), jI (M 7 7)] M (fun v M1 => wp kc (d + 1) 177 45 [some (jR 0), none] (v.toList ++ []) M1 Q)) ∧ (M 125 1 = 0 → wc kc d 64 [jR 3, jR 1000147] M (fun v M1 => wp kc (d + 1) 177 19 [none, none] (v.toList ++ []) M1 Q))) : wc kc (d + 1) 177 [jR 0] M Q :=
  wc_of (wp_wk (l' := [some (jR 0), none]) ⟨rfl, trivial⟩ (s177_0 H))

/- PuzzleHouse.bookRequest(I)V -/
theorem c190_0 : fx_op 190 0 = some (.iload_n 1, 1, 0) := by decide +kernel
theorem c190_48 : fx_op 190 48 = some (.aload_n 0, 49, 48) := by decide +kernel
theorem c190_49 : fx_gf 190 49 = some (0, 4, 52) := by decide +kernel
theorem c190_117 : fx_op 190 117 = some (.aload_n 0, 118, 117) := by decide +kernel
theorem c190_124 : fx_op 190 124 = some (.aload_n 0, 125, 124) := by decide +kernel
theorem c190_125 : fx_gf 190 125 = some (0, 3, 128) := by decide +kernel
theorem c190_128 : fx_op 190 128 = some (.aload_n 0, 129, 128) := by decide +kernel
theorem c190_129 : fx_gf 190 129 = some (0, 16, 132) := by decide +kernel
theorem c190_132 : fx_op 190 132 = some (.aload_n 0, 133, 132) := by decide +kernel
theorem c190_133 : fx_gf 190 133 = some (0, 2, 136) := by decide +kernel
theorem c190_136 : fx_op 190 136 = some (.aload_n 0, 137, 136) := by decide +kernel
theorem c190_137 : fx_gf 190 137 = some (0, 5, 140) := by decide +kernel
theorem c190_140 : fx_gf 190 140 = some (2, 6, 143) := by decide +kernel
theorem c190_143 : fx_op 190 143 = some (.aload_n 0, 144, 143) := by decide +kernel
theorem c190_144 : fx_gf 190 144 = some (0, 5, 147) := by decide +kernel
theorem c190_147 : fx_gf 190 147 = some (2, 7, 150) := by decide +kernel
theorem c190_171 : fx_ci 190 171 = some (0, 172) := by decide +kernel
theorem c190_172 : fx_op 190 172 = some (.istore_n 2, 173, 172) := by decide +kernel
theorem c190_214 : fx_op 190 214 = some (.aload_n 0, 215, 214) := by decide +kernel
theorem c190_215 : fx_gf 190 215 = some (0, 3, 218) := by decide +kernel
theorem c190_218 : fx_op 190 218 = some (.aload_n 0, 219, 218) := by decide +kernel
theorem c190_219 : fx_gf 190 219 = some (0, 16, 222) := by decide +kernel
theorem c190_222 : fx_op 190 222 = some (.aload_n 0, 223, 222) := by decide +kernel
theorem c190_223 : fx_gf 190 223 = some (0, 5, 226) := by decide +kernel
theorem c190_226 : fx_gf 190 226 = some (2, 5, 229) := by decide +kernel
theorem c190_229 : fx_ci 190 229 = some (0, 230) := by decide +kernel
theorem c190_230 : fx_op 190 230 = some (.iaload, 231, 230) := by decide +kernel
theorem c190_252 : fx_op 190 252 = some (.aload_n 0, 253, 252) := by decide +kernel
theorem c190_253 : fx_gf 190 253 = some (0, 3, 256) := by decide +kernel
theorem c190_256 : fx_op 190 256 = some (.aload_n 0, 257, 256) := by decide +kernel
theorem c190_257 : fx_gf 190 257 = some (0, 16, 260) := by decide +kernel
theorem c190_260 : fx_op 190 260 = some (.aload_n 0, 261, 260) := by decide +kernel
theorem c190_261 : fx_gf 190 261 = some (0, 7, 264) := by decide +kernel
theorem c190_285 : fx_op 190 285 = some (.aload_n 0, 286, 285) := by decide +kernel
theorem c190_292 : fx_op 190 292 = some (.aload_n 0, 293, 292) := by decide +kernel
theorem c190_299 : fx_op 190 299 = some (.aload_n 0, 300, 299) := by decide +kernel
theorem c190_52 : fx_ca 190 52 = some (63, 1, 2, 55) := by decide +kernel
theorem c190_118 : fx_ca 190 118 = some (195, 1, 2, 121) := by decide +kernel
theorem c190_150 : fx_ca 190 150 = some (196, 4, 2, 153) := by decide +kernel
theorem c190_231 : fx_ca 190 231 = some (198, 2, 2, 234) := by decide +kernel
theorem c190_264 : fx_ca 190 264 = some (199, 2, 2, 267) := by decide +kernel
theorem c190_286 : fx_ca 190 286 = some (200, 1, 2, 289) := by decide +kernel
theorem c190_293 : fx_ca 190 293 = some (201, 1, 2, 296) := by decide +kernel
theorem c190_1 : fx_ts 190 1 = some (36, [48, 117, 124, 171, 214, 252, 285, 292], 299) := by decide +kernel
theorem c190_300 : fx_ca 190 300 = some (203, 1, 2, 303) := by decide +kernel
theorem c190_173 : fx_op 190 173 = some (.iload_n 2, 174, 173) := by decide +kernel
theorem c190_174 : fx_op 190 174 = some (.aload_n 0, 175, 174) := by decide +kernel
theorem c190_175 : fx_gf 190 175 = some (0, 16, 178) := by decide +kernel
theorem c190_178 : fx_ca 190 178 = some (179, 1, 2, 181) := by decide +kernel
theorem c190_55 : fx_op 190 55 = some (.aload_n 0, 56, 55) := by decide +kernel
theorem c190_56 : fx_gf 190 56 = some (0, 6, 59) := by decide +kernel
theorem c190_59 : fx_op 190 59 = some (.aload_n 0, 60, 59) := by decide +kernel
theorem c190_60 : fx_gf 190 60 = some (0, 4, 63) := by decide +kernel
theorem c190_63 : fx_ca 190 63 = some (68, 2, 2, 66) := by decide +kernel
theorem c190_121 : fx_op 190 121 = some (.goto 182, 124, 303) := by decide +kernel
theorem c190_303 : fx_op 190 303 = some (.return_, 304, 303) := by decide +kernel
theorem c190_153 : fx_op 190 153 = some (.ifCond .eq 9, 156, 162) := by decide +kernel
theorem c190_162 : fx_cr 190 162 = some (1000149, 165) := by decide +kernel
theorem c190_156 : fx_cr 190 156 = some (1000063, 159) := by decide +kernel
theorem c190_159 : fx_op 190 159 = some (.goto 6, 162, 165) := by decide +kernel
theorem c190_165 : fx_ca 190 165 = some (64, 2, 2, 168) := by decide +kernel
theorem c190_234 : fx_op 190 234 = some (.ifCond .eq 9, 237, 243) := by decide +kernel
theorem c190_243 : fx_cr 190 243 = some (1000171, 246) := by decide +kernel
theorem c190_237 : fx_cr 190 237 = some (1000063, 240) := by decide +kernel
theorem c190_240 : fx_op 190 240 = some (.goto 6, 243, 246) := by decide +kernel
theorem c190_246 : fx_ca 190 246 = some (64, 2, 2, 249) := by decide +kernel
theorem c190_267 : fx_op 190 267 = some (.ifCond .eq 9, 270, 276) := by decide +kernel
theorem c190_276 : fx_cr 190 276 = some (1000173, 279) := by decide +kernel
theorem c190_270 : fx_cr 190 270 = some (1000063, 273) := by decide +kernel
theorem c190_273 : fx_op 190 273 = some (.goto 6, 276, 279) := by decide +kernel
theorem c190_279 : fx_ca 190 279 = some (64, 2, 2, 282) := by decide +kernel
theorem c190_289 : fx_op 190 289 = some (.goto 14, 292, 303) := by decide +kernel
theorem c190_296 : fx_op 190 296 = some (.goto 7, 299, 303) := by decide +kernel
theorem c190_181 : fx_op 190 181 = some (.if_icmp .ge 21, 184, 202) := by decide +kernel
theorem c190_184 : fx_op 190 184 = some (.aload_n 0, 185, 184) := by decide +kernel
theorem c190_185 : fx_gf 190 185 = some (0, 16, 188) := by decide +kernel
theorem c190_188 : fx_op 190 188 = some (.iload_n 2, 189, 188) := by decide +kernel
theorem c190_189 : fx_op 190 189 = some (.aload_n 0, 190, 189) := by decide +kernel
theorem c190_190 : fx_gf 190 190 = some (0, 3, 193) := by decide +kernel
theorem c190_202 : fx_op 190 202 = some (.aload_n 0, 203, 202) := by decide +kernel
theorem c190_203 : fx_gf 190 203 = some (0, 3, 206) := by decide +kernel
theorem c190_206 : fx_ci 190 206 = some (46, 208) := by decide +kernel
theorem c190_208 : fx_ca 190 208 = some (69, 2, 2, 211) := by decide +kernel
theorem c190_193 : fx_ca 190 193 = some (197, 3, 2, 196) := by decide +kernel
theorem c190_66 : fx_op 190 66 = some (.aload_n 0, 67, 66) := by decide +kernel
theorem c190_67 : fx_gf 190 67 = some (0, 3, 70) := by decide +kernel
theorem c190_70 : fx_op 190 70 = some (.aload_n 0, 71, 70) := by decide +kernel
theorem c190_71 : fx_gf 190 71 = some (0, 16, 74) := by decide +kernel
theorem c190_74 : fx_op 190 74 = some (.aload_n 0, 75, 74) := by decide +kernel
theorem c190_75 : fx_gf 190 75 = some (0, 2, 78) := by decide +kernel
theorem c190_78 : fx_op 190 78 = some (.aload_n 0, 79, 78) := by decide +kernel
theorem c190_79 : fx_gf 190 79 = some (0, 5, 82) := by decide +kernel
theorem c190_82 : fx_gf 190 82 = some (2, 6, 85) := by decide +kernel
theorem c190_85 : fx_op 190 85 = some (.aload_n 0, 86, 85) := by decide +kernel
theorem c190_86 : fx_gf 190 86 = some (0, 5, 89) := by decide +kernel
theorem c190_89 : fx_gf 190 89 = some (2, 7, 92) := by decide +kernel
theorem c190_92 : fx_op 190 92 = some (.aload_n 0, 93, 92) := by decide +kernel
theorem c190_93 : fx_gf 190 93 = some (0, 4, 96) := by decide +kernel
theorem c190_96 : fx_ca 190 96 = some (191, 5, 2, 99) := by decide +kernel
theorem c190_168 : fx_op 190 168 = some (.goto 135, 171, 303) := by decide +kernel
theorem c190_249 : fx_op 190 249 = some (.goto 54, 252, 303) := by decide +kernel
theorem c190_282 : fx_op 190 282 = some (.goto 21, 285, 303) := by decide +kernel
theorem c190_211 : fx_op 190 211 = some (.goto 92, 214, 303) := by decide +kernel
theorem c190_196 : fx_op 190 196 = some (.iinc 2 1, 199, 196) := by decide +kernel
theorem c190_199 : fx_op 190 199 = some (.goto (-26), 202, 173) := by decide +kernel
theorem c190_99 : fx_op 190 99 = some (.ifCond .eq 9, 102, 108) := by decide +kernel
theorem c190_108 : fx_cr 190 108 = some (1000169, 111) := by decide +kernel
theorem c190_102 : fx_cr 190 102 = some (1000063, 105) := by decide +kernel
theorem c190_105 : fx_op 190 105 = some (.goto 6, 108, 111) := by decide +kernel
theorem c190_111 : fx_ca 190 111 = some (64, 2, 2, 114) := by decide +kernel
theorem c190_114 : fx_op 190 114 = some (.goto 189, 117, 303) := by decide +kernel
theorem s190_0 {kc : List va_E} {d : Nat} {x1 : Int} {M : fx_M} {Q : Option fx_V → fx_M → Prop} (H : fx_in32 x1 ∧ (x1 = 36 → wc kc d 63 [jR 5] M (fun v M1 => wp kc (d + 1) 190 55 [some (jR 0), none, none] (v.toList ++ []) M1 Q)) ∧ (x1 = 37 → wc kc d 195 [jR 0] M (fun v M1 => wp kc (d + 1) 190 121 [none, none, none] (v.toList ++ []) M1 Q)) ∧ (x1 = 38 → wc kc d 196 [jR 125, jR 2, jI (M 7 6), jI (M 7 7)] M (fun v M1 => wp kc (d + 1) 190 153 [none, none, none] (v.toList ++ [jR 3]) M1 Q)) ∧ (x1 = 39 → wp kc (d + 1) 190 173 [some (jR 0), none, some (jI 0)] [] M Q) ∧ (x1 = 40 → wc kc d 198 [jR 125, jI (M 9 0)] M (fun v M1 => wp kc (d + 1) 190 234 [none, none, none] (v.toList ++ [jR 3]) M1 Q)) ∧ (x1 = 41 → wc kc d 199 [jR 125, jR 20] M (fun v M1 => wp kc (d + 1) 190 267 [none, none, none] (v.toList ++ [jR 3]) M1 Q)) ∧ (x1 = 42 → wc kc d 200 [jR 0] M (fun v M1 => wp kc (d + 1) 190 289 [none, none, none] (v.toList ++ []) M1 Q)) ∧ (x1 = 43 → wc kc d 201 [jR 0] M (fun v M1 => wp kc (d + 1) 190 296 [none, none, none] (v.toList ++ []) M1 Q)) ∧ ((x1 < 36 ∨ 44 ≤ x1) → wc kc d 203 [jR 0] M (fun v M1 => wp kc (d + 1) 190 303 [none, none, none] (v.toList ++ []) M1 Q))) : wp kc (d + 1) 190 0 [some (jR 0), some (jI x1), none] [] M Q :=
  (x_ildn c190_0 rfl (x_sw c190_1 H.1 ⟨fun h1 => (x_aldn c190_48 rfl (x_gfr c190_49 k_0_4 (wp_wk (l' := [some (jR 0), none, none]) ⟨rfl, trivial⟩ (x_cv (As := []) (st := []) c190_52 cl_5 kl63 rfl (Nat.le_of_ble_eq_true rfl) mx63 (Nat.le_refl _) (H.2.1 h1))))), ⟨fun h2 => (x_aldn c190_117 rfl (wp_wk (l' := [none, none, none]) trivial (x_cv (As := []) (st := []) c190_118 cl_0 kl195 rfl (Nat.le_of_ble_eq_true rfl) mx195 (Nat.le_refl _) (H.2.2.1 h2)))), ⟨fun h3 => (x_aldn c190_124 rfl (x_gfr c190_125 k_0_3 (x_aldn c190_128 rfl (x_gfr c190_129 k_0_16 (x_aldn c190_132 rfl (x_gfr c190_133 k_0_2 (x_aldn c190_136 rfl (x_gfr c190_137 k_0_5 (x_gfi c190_140 k_7_6 (x_aldn c190_143 rfl (x_gfr c190_144 k_0_5 (x_gfi c190_147 k_7_7 (wp_wk (l' := [none, none, none]) trivial (x_cv (As := [jR 2, jI (M 7 6), jI (M 7 7)]) (st := [jR 3]) c190_150 cl_125 kl196 rfl (Nat.le_of_ble_eq_true rfl) mx196 (Nat.le_refl _) (H.2.2.2.1 h3))))))))))))))), ⟨fun h4 => (x_ci c190_171 (x_istn (l' := [some (jR 0), some (jI x1), some (jI 0)]) c190_172 rfl (wp_wk (l' := [some (jR 0), none, some (jI 0)]) ⟨rfl, ⟨rfl, trivial⟩⟩ (H.2.2.2.2.1 h4)))), ⟨fun h5 => (x_aldn c190_214 rfl (x_gfr c190_215 k_0_3 (x_aldn c190_218 rfl (x_gfr c190_219 k_0_16 (x_aldn c190_222 rfl (x_gfr c190_223 k_0_5 (x_gfr c190_226 k_7_5 (x_ci c190_229 (x_iald c190_230 a_9 (by decide) (by decide) (wp_wk (l' := [none, none, none]) trivial (x_cv (As := [jI (M 9 0)]) (st := [jR 3]) c190_231 cl_125 kl198 rfl (Nat.le_of_ble_eq_true rfl) mx198 (Nat.le_refl _) (H.2.2.2.2.2.1 h5)))))))))))), ⟨fun h6 => (x_aldn c190_252 rfl (x_gfr c190_253 k_0_3 (x_aldn c190_256 rfl (x_gfr c190_257 k_0_16 (x_aldn c190_260 rfl (x_gfr c190_261 k_0_7 (wp_wk (l' := [none, none, none]) trivial (x_cv (As := [jR 20]) (st := [jR 3]) c190_264 cl_125 kl199 rfl (Nat.le_of_ble_eq_true rfl) mx199 (Nat.le_refl _) (H.2.2.2.2.2.2.1 h6))))))))), ⟨fun h7 => (x_aldn c190_285 rfl (wp_wk (l' := [none, none, none]) trivial (x_cv (As := []) (st := []) c190_286 cl_0 kl200 rfl (Nat.le_of_ble_eq_true rfl) mx200 (Nat.le_refl _) (H.2.2.2.2.2.2.2.1 h7)))), ⟨fun h8 => (x_aldn c190_292 rfl (wp_wk (l' := [none, none, none]) trivial (x_cv (As := []) (st := []) c190_293 cl_0 kl201 rfl (Nat.le_of_ble_eq_true rfl) mx201 (Nat.le_refl _) (H.2.2.2.2.2.2.2.2.1 h8)))), trivial⟩⟩⟩⟩⟩⟩⟩⟩ (fun h9 => (x_aldn c190_299 rfl (wp_wk (l' := [none, none, none]) trivial (x_cv (As := []) (st := []) c190_300 cl_0 kl203 rfl (Nat.le_of_ble_eq_true rfl) mx203 (Nat.le_refl _) (H.2.2.2.2.2.2.2.2.2 h9)))))))
theorem s190_55 {kc : List va_E} {d : Nat} {M : fx_M} {Q : Option fx_V → fx_M → Prop} (H : wc kc d 68 [jR 11, jR 5] M (fun v M1 => wp kc (d + 1) 190 66 [some (jR 0), none, none] (v.toList ++ []) M1 Q)) : wp kc (d + 1) 190 55 [some (jR 0), none, none] [] M Q :=
  (x_aldn c190_55 rfl (x_gfr c190_56 k_0_6 (x_aldn c190_59 rfl (x_gfr c190_60 k_0_4 (wp_wk (l' := [some (jR 0), none, none]) ⟨rfl, trivial⟩ (x_cv (As := [jR 5]) (st := []) c190_63 cl_11 kl68 rfl (Nat.le_of_ble_eq_true rfl) mx68 (Nat.le_refl _) H))))))
theorem s190_66 {kc : List va_E} {d : Nat} {M : fx_M} {Q : Option fx_V → fx_M → Prop} (H : wc kc d 191 [jR 125, jR 2, jI (M 7 6), jI (M 7 7), jR 5] M (fun v M1 => wp kc (d + 1) 190 99 [none, none, none] (v.toList ++ [jR 3]) M1 Q)) : wp kc (d + 1) 190 66 [some (jR 0), none, none] [] M Q :=
  (x_aldn c190_66 rfl (x_gfr c190_67 k_0_3 (x_aldn c190_70 rfl (x_gfr c190_71 k_0_16 (x_aldn c190_74 rfl (x_gfr c190_75 k_0_2 (x_aldn c190_78 rfl (x_gfr c190_79 k_0_5 (x_gfi c190_82 k_7_6 (x_aldn c190_85 rfl (x_gfr c190_86 k_0_5 (x_gfi c190_89 k_7_7 (x_aldn c190_92 rfl (x_gfr c190_93 k_0_4 (wp_wk (l' := [none, none, none]) trivial (x_cv (As := [jR 2, jI (M 7 6), jI (M 7 7), jR 5]) (st := [jR 3]) c190_96 cl_125 kl191 rfl (Nat.le_of_ble_eq_true rfl) mx191 (Nat.le_refl _) H))))))))))))))))
theorem s190_99 {kc : List va_E} {d : Nat} {u0 : Int} {M : fx_M} {Q : Option fx_V → fx_M → Prop} (H : ((fx_in32 u0)) ∧ (u0 = 0 → wc kc d 64 [jR 3, jR 1000169] M (fun v M1 => wp kc (d + 1) 190 114 [none, none, none] (v.toList ++ []) M1 Q)) ∧ (u0 ≠ 0 → wc kc d 64 [jR 3, jR 1000063] M (fun v M1 => wp kc (d + 1) 190 114 [none, none, none] (v.toList ++ []) M1 Q))) : wp kc (d + 1) 190 99 [none, none, none] [jI u0, jR 3] M Q :=
  (x_zeq c190_99 H.1 (fun h1 => (x_cr c190_108 (wp_wk (l' := [none, none, none]) trivial (x_cv (As := [jR 1000169]) (st := []) c190_111 cl_3 kl64 rfl (Nat.le_of_ble_eq_true rfl) mx64 (Nat.le_refl _) (H.2.1 h1))))) (fun h2 => (x_cr c190_102 (x_goto c190_105 (wp_wk (l' := [none, none, none]) trivial (x_cv (As := [jR 1000063]) (st := []) c190_111 cl_3 kl64 rfl (Nat.le_of_ble_eq_true rfl) mx64 (Nat.le_refl _) (H.2.2 h2)))))))
theorem s190_114 {kc : List va_E} {d : Nat} {M : fx_M} {Q : Option fx_V → fx_M → Prop} (H : Q none M) : wp kc (d + 1) 190 114 [none, none, none] [] M Q :=
  (x_goto c190_114 (x_vr c190_303 r190 H))
theorem s190_121 {kc : List va_E} {d : Nat} {M : fx_M} {Q : Option fx_V → fx_M → Prop} (H : Q none M) : wp kc (d + 1) 190 121 [none, none, none] [] M Q :=
  (x_goto c190_121 (x_vr c190_303 r190 H))
theorem s190_153 {kc : List va_E} {d : Nat} {u0 : Int} {M : fx_M} {Q : Option fx_V → fx_M → Prop} (H : ((fx_in32 u0)) ∧ (u0 = 0 → wc kc d 64 [jR 3, jR 1000149] M (fun v M1 => wp kc (d + 1) 190 168 [none, none, none] (v.toList ++ []) M1 Q)) ∧ (u0 ≠ 0 → wc kc d 64 [jR 3, jR 1000063] M (fun v M1 => wp kc (d + 1) 190 168 [none, none, none] (v.toList ++ []) M1 Q))) : wp kc (d + 1) 190 153 [none, none, none] [jI u0, jR 3] M Q :=
  (x_zeq c190_153 H.1 (fun h1 => (x_cr c190_162 (wp_wk (l' := [none, none, none]) trivial (x_cv (As := [jR 1000149]) (st := []) c190_165 cl_3 kl64 rfl (Nat.le_of_ble_eq_true rfl) mx64 (Nat.le_refl _) (H.2.1 h1))))) (fun h2 => (x_cr c190_156 (x_goto c190_159 (wp_wk (l' := [none, none, none]) trivial (x_cv (As := [jR 1000063]) (st := []) c190_165 cl_3 kl64 rfl (Nat.le_of_ble_eq_true rfl) mx64 (Nat.le_refl _) (H.2.2 h2)))))))
theorem s190_168 {kc : List va_E} {d : Nat} {M : fx_M} {Q : Option fx_V → fx_M → Prop} (H : Q none M) : wp kc (d + 1) 190 168 [none, none, none] [] M Q :=
  (x_goto c190_168 (x_vr c190_303 r190 H))
theorem s190_173 {kc : List va_E} {d : Nat} {v2 : Int} {M : fx_M} {Q : Option fx_V → fx_M → Prop} (H : wc kc d 179 [jR 125] M (fun v M1 => wp kc (d + 1) 190 181 [some (jR 0), none, some (jI v2)] (v.toList ++ [jI v2]) M1 Q)) : wp kc (d + 1) 190 173 [some (jR 0), none, some (jI v2)] [] M Q :=
  (x_ildn c190_173 rfl (x_aldn c190_174 rfl (x_gfr c190_175 k_0_16 (wp_wk (l' := [some (jR 0), none, some (jI v2)]) ⟨rfl, ⟨rfl, trivial⟩⟩ (x_cv (As := []) (st := [jI v2]) c190_178 cl_125 kl179 rfl (Nat.le_of_ble_eq_true rfl) mx179 (Nat.le_refl _) H)))))
theorem s190_181 {kc : List va_E} {d : Nat} {v2 u0 u1 : Int} {M : fx_M} {Q : Option fx_V → fx_M → Prop} (H : ((fx_in32 u1) ∧ (fx_in32 u0)) ∧ (u0 ≤ u1 → wc kc d 69 [jR 3, jI 46] M (fun v M1 => wp kc (d + 1) 190 211 [none, none, none] (v.toList ++ []) M1 Q)) ∧ (u1 < u0 → wc kc d 197 [jR 125, jI v2, jR 3] M (fun v M1 => wp kc (d + 1) 190 196 [some (jR 0), none, some (jI v2)] (v.toList ++ []) M1 Q))) : wp kc (d + 1) 190 181 [some (jR 0), none, some (jI v2)] [jI u0, jI u1] M Q :=
  (x_cge c190_181 H.1.1 H.1.2 (fun h1 => (x_aldn c190_202 rfl (x_gfr c190_203 k_0_3 (x_ci c190_206 (wp_wk (l' := [none, none, none]) trivial (x_cv (As := [jI 46]) (st := []) c190_208 cl_3 kl69 rfl (Nat.le_of_ble_eq_true rfl) mx69 (Nat.le_refl _) (H.2.1 h1))))))) (fun h2 => (x_aldn c190_184 rfl (x_gfr c190_185 k_0_16 (x_ildn c190_188 rfl (x_aldn c190_189 rfl (x_gfr c190_190 k_0_3 (wp_wk (l' := [some (jR 0), none, some (jI v2)]) ⟨rfl, ⟨rfl, trivial⟩⟩ (x_cv (As := [jI v2, jR 3]) (st := []) c190_193 cl_125 kl197 rfl (Nat.le_of_ble_eq_true rfl) mx197 (Nat.le_refl _) (H.2.2 h2))))))))))
theorem s190_196 {kc : List va_E} {d : Nat} {v2 : Int} {M : fx_M} {Q : Option fx_V → fx_M → Prop} (H : wp kc (d + 1) 190 173 [some (jR 0), none, some (jI (v2 + 1))] [] M Q) : wp kc (d + 1) 190 196 [some (jR 0), none, some (jI v2)] [] M Q :=
  (x_inc (l' := [some (jR 0), none, some (jI (v2 + 1))]) c190_196 rfl rfl (x_goto c190_199 (wp_wk (l' := [some (jR 0), none, some (jI (v2 + 1))]) ⟨rfl, ⟨rfl, trivial⟩⟩ H)))
theorem s190_211 {kc : List va_E} {d : Nat} {M : fx_M} {Q : Option fx_V → fx_M → Prop} (H : Q none M) : wp kc (d + 1) 190 211 [none, none, none] [] M Q :=
  (x_goto c190_211 (x_vr c190_303 r190 H))
theorem s190_234 {kc : List va_E} {d : Nat} {u0 : Int} {M : fx_M} {Q : Option fx_V → fx_M → Prop} (H : ((fx_in32 u0)) ∧ (u0 = 0 → wc kc d 64 [jR 3, jR 1000171] M (fun v M1 => wp kc (d + 1) 190 249 [none, none, none] (v.toList ++ []) M1 Q)) ∧ (u0 ≠ 0 → wc kc d 64 [jR 3, jR 1000063] M (fun v M1 => wp kc (d + 1) 190 249 [none, none, none] (v.toList ++ []) M1 Q))) : wp kc (d + 1) 190 234 [none, none, none] [jI u0, jR 3] M Q :=
  (x_zeq c190_234 H.1 (fun h1 => (x_cr c190_243 (wp_wk (l' := [none, none, none]) trivial (x_cv (As := [jR 1000171]) (st := []) c190_246 cl_3 kl64 rfl (Nat.le_of_ble_eq_true rfl) mx64 (Nat.le_refl _) (H.2.1 h1))))) (fun h2 => (x_cr c190_237 (x_goto c190_240 (wp_wk (l' := [none, none, none]) trivial (x_cv (As := [jR 1000063]) (st := []) c190_246 cl_3 kl64 rfl (Nat.le_of_ble_eq_true rfl) mx64 (Nat.le_refl _) (H.2.2 h2)))))))
theorem s190_249 {kc : List va_E} {d : Nat} {M : fx_M} {Q : Option fx_V → fx_M → Prop} (H : Q none M) : wp kc (d + 1) 190 249 [none, none, none] [] M Q :=
  (x_goto c190_249 (x_vr c190_303 r190 H))
theorem s190_267 {kc : List va_E} {d : Nat} {u0 : Int} {M : fx_M} {Q : Option fx_V → fx_M → Prop} (H : ((fx_in32 u0)) ∧ (u0 = 0 → wc kc d 64 [jR 3, jR 1000173] M (fun v M1 => wp kc (d + 1) 190 282 [none, none, none] (v.toList ++ []) M1 Q)) ∧ (u0 ≠ 0 → wc kc d 64 [jR 3, jR 1000063] M (fun v M1 => wp kc (d + 1) 190 282 [none, none, none] (v.toList ++ []) M1 Q))) : wp kc (d + 1) 190 267 [none, none, none] [jI u0, jR 3] M Q :=
  (x_zeq c190_267 H.1 (fun h1 => (x_cr c190_276 (wp_wk (l' := [none, none, none]) trivial (x_cv (As := [jR 1000173]) (st := []) c190_279 cl_3 kl64 rfl (Nat.le_of_ble_eq_true rfl) mx64 (Nat.le_refl _) (H.2.1 h1))))) (fun h2 => (x_cr c190_270 (x_goto c190_273 (wp_wk (l' := [none, none, none]) trivial (x_cv (As := [jR 1000063]) (st := []) c190_279 cl_3 kl64 rfl (Nat.le_of_ble_eq_true rfl) mx64 (Nat.le_refl _) (H.2.2 h2)))))))
theorem s190_282 {kc : List va_E} {d : Nat} {M : fx_M} {Q : Option fx_V → fx_M → Prop} (H : Q none M) : wp kc (d + 1) 190 282 [none, none, none] [] M Q :=
  (x_goto c190_282 (x_vr c190_303 r190 H))
theorem s190_289 {kc : List va_E} {d : Nat} {M : fx_M} {Q : Option fx_V → fx_M → Prop} (H : Q none M) : wp kc (d + 1) 190 289 [none, none, none] [] M Q :=
  (x_goto c190_289 (x_vr c190_303 r190 H))
theorem s190_296 {kc : List va_E} {d : Nat} {M : fx_M} {Q : Option fx_V → fx_M → Prop} (H : Q none M) : wp kc (d + 1) 190 296 [none, none, none] [] M Q :=
  (x_goto c190_296 (x_vr c190_303 r190 H))
theorem s190_303 {kc : List va_E} {d : Nat} {M : fx_M} {Q : Option fx_V → fx_M → Prop} (H : Q none M) : wp kc (d + 1) 190 303 [none, none, none] [] M Q :=
  (x_vr c190_303 r190 H)
theorem s190 {kc : List va_E} {d : Nat} {x1 : Int} {M : fx_M} {Q : Option fx_V → fx_M → Prop} (H : fx_in32 x1 ∧ (x1 = 36 → wc kc d 63 [jR 5] M (fun v M1 => wp kc (d + 1) 190 55 [some (jR 0), none, none] (v.toList ++ []) M1 Q)) ∧ (x1 = 37 → wc kc d 195 [jR 0] M (fun v M1 => wp kc (d + 1) 190 121 [none, none, none] (v.toList ++ []) M1 Q)) ∧ (x1 = 38 → wc kc d 196 [jR 125, jR 2, jI (M 7 6), jI (M 7 7)] M (fun v M1 => wp kc (d + 1) 190 153 [none, none, none] (v.toList ++ [jR 3]) M1 Q)) ∧ (x1 = 39 → wp kc (d + 1) 190 173 [some (jR 0), none, some (jI 0)] [] M Q) ∧ (x1 = 40 → wc kc d 198 [jR 125, jI (M 9 0)] M (fun v M1 => wp kc (d + 1) 190 234 [none, none, none] (v.toList ++ [jR 3]) M1 Q)) ∧ (x1 = 41 → wc kc d 199 [jR 125, jR 20] M (fun v M1 => wp kc (d + 1) 190 267 [none, none, none] (v.toList ++ [jR 3]) M1 Q)) ∧ (x1 = 42 → wc kc d 200 [jR 0] M (fun v M1 => wp kc (d + 1) 190 289 [none, none, none] (v.toList ++ []) M1 Q)) ∧ (x1 = 43 → wc kc d 201 [jR 0] M (fun v M1 => wp kc (d + 1) 190 296 [none, none, none] (v.toList ++ []) M1 Q)) ∧ ((x1 < 36 ∨ 44 ≤ x1) → wc kc d 203 [jR 0] M (fun v M1 => wp kc (d + 1) 190 303 [none, none, none] (v.toList ++ []) M1 Q))) : wc kc (d + 1) 190 [jR 0, jI x1] M Q :=
  wc_of (wp_wk (l' := [some (jR 0), some (jI x1), none]) ⟨rfl, ⟨rfl, trivial⟩⟩ (s190_0 H))

/- PuzzleHouse.openEntry()V -/
theorem c195_0 : fx_op 195 0 = some (.aload_n 0, 1, 0) := by decide +kernel
theorem c195_1 : fx_gf 195 1 = some (0, 16, 4) := by decide +kernel
theorem c195_4 : fx_op 195 4 = some (.aload_n 0, 5, 4) := by decide +kernel
theorem c195_5 : fx_gf 195 5 = some (0, 2, 8) := by decide +kernel
theorem c195_8 : fx_op 195 8 = some (.aload_n 0, 9, 8) := by decide +kernel
theorem c195_9 : fx_gf 195 9 = some (0, 5, 12) := by decide +kernel
theorem c195_12 : fx_gf 195 12 = some (2, 6, 15) := by decide +kernel
theorem c195_15 : fx_op 195 15 = some (.aload_n 0, 16, 15) := by decide +kernel
theorem c195_16 : fx_gf 195 16 = some (0, 5, 19) := by decide +kernel
theorem c195_19 : fx_gf 195 19 = some (2, 7, 22) := by decide +kernel
theorem c195_22 : fx_ca 195 22 = some (178, 4, 2, 25) := by decide +kernel
theorem c195_25 : fx_op 195 25 = some (.istore_n 1, 26, 25) := by decide +kernel
theorem c195_26 : fx_op 195 26 = some (.iload_n 1, 27, 26) := by decide +kernel
theorem c195_27 : fx_op 195 27 = some (.ifCond .lt 18, 30, 45) := by decide +kernel
theorem c195_45 : fx_op 195 45 = some (.aload_n 0, 46, 45) := by decide +kernel
theorem c195_46 : fx_gf 195 46 = some (0, 3, 49) := by decide +kernel
theorem c195_49 : fx_cr 195 49 = some (1000149, 52) := by decide +kernel
theorem c195_30 : fx_op 195 30 = some (.aload_n 0, 31, 30) := by decide +kernel
theorem c195_31 : fx_gf 195 31 = some (0, 16, 34) := by decide +kernel
theorem c195_34 : fx_op 195 34 = some (.iload_n 1, 35, 34) := by decide +kernel
theorem c195_35 : fx_op 195 35 = some (.aload_n 0, 36, 35) := by decide +kernel
theorem c195_36 : fx_gf 195 36 = some (0, 7, 39) := by decide +kernel
theorem c195_52 : fx_ca 195 52 = some (64, 2, 2, 55) := by decide +kernel
theorem c195_39 : fx_ca 195 39 = some (182, 3, 2, 42) := by decide +kernel
theorem c195_55 : fx_op 195 55 = some (.return_, 56, 55) := by decide +kernel
theorem c195_42 : fx_op 195 42 = some (.ifCond .ne 14, 45, 56) := by decide +kernel
theorem c195_56 : fx_op 195 56 = some (.aload_n 0, 57, 56) := by decide +kernel
theorem c195_57 : fx_gf 195 57 = some (0, 6, 60) := by decide +kernel
theorem c195_60 : fx_op 195 60 = some (.aload_n 0, 61, 60) := by decide +kernel
theorem c195_61 : fx_gf 195 61 = some (0, 7, 64) := by decide +kernel
theorem c195_64 : fx_ca 195 64 = some (72, 2, 2, 67) := by decide +kernel
theorem c195_67 : fx_op 195 67 = some (.aload_n 0, 68, 67) := by decide +kernel
theorem c195_68 : fx_gf 195 68 = some (0, 14, 71) := by decide +kernel
theorem c195_71 : fx_ca 195 71 = some (73, 1, 2, 74) := by decide +kernel
theorem c195_74 : fx_op 195 74 = some (.aload_n 0, 75, 74) := by decide +kernel
theorem c195_75 : fx_gf 195 75 = some (0, 3, 78) := by decide +kernel
theorem c195_78 : fx_cr 195 78 = some (1000063, 81) := by decide +kernel
theorem c195_81 : fx_ca 195 81 = some (64, 2, 2, 84) := by decide +kernel
theorem c195_84 : fx_op 195 84 = some (.return_, 85, 84) := by decide +kernel
theorem s195_0 {kc : List va_E} {d : Nat} {M : fx_M} {Q : Option fx_V → fx_M → Prop} (H : wc kc d 178 [jR 125, jR 2, jI (M 7 6), jI (M 7 7)] M (fun v M1 => wp kc (d + 1) 195 25 [some (jR 0), none] (v.toList ++ []) M1 Q)) : wp kc (d + 1) 195 0 [some (jR 0), none] [] M Q :=
  (x_aldn c195_0 rfl (x_gfr c195_1 k_0_16 (x_aldn c195_4 rfl (x_gfr c195_5 k_0_2 (x_aldn c195_8 rfl (x_gfr c195_9 k_0_5 (x_gfi c195_12 k_7_6 (x_aldn c195_15 rfl (x_gfr c195_16 k_0_5 (x_gfi c195_19 k_7_7 (wp_wk (l' := [some (jR 0), none]) ⟨rfl, trivial⟩ (x_cv (As := [jR 2, jI (M 7 6), jI (M 7 7)]) (st := []) c195_22 cl_125 kl178 rfl (Nat.le_of_ble_eq_true rfl) mx178 (Nat.le_refl _) H))))))))))))
theorem s195_25 {kc : List va_E} {d : Nat} {u0 : Int} {M : fx_M} {Q : Option fx_V → fx_M → Prop} (H : ((fx_in32 u0)) ∧ (u0 < 0 → wc kc d 64 [jR 3, jR 1000149] M (fun v M1 => wp kc (d + 1) 195 55 [none, none] (v.toList ++ []) M1 Q)) ∧ (0 ≤ u0 → wc kc d 182 [jR 125, jI u0, jR 20] M (fun v M1 => wp kc (d + 1) 195 42 [some (jR 0), none] (v.toList ++ []) M1 Q))) : wp kc (d + 1) 195 25 [some (jR 0), none] [jI u0] M Q :=
  (x_istn (l' := [some (jR 0), some (jI u0)]) c195_25 rfl (x_ildn c195_26 rfl (x_zlt c195_27 H.1 (fun h1 => (x_aldn c195_45 rfl (x_gfr c195_46 k_0_3 (x_cr c195_49 (wp_wk (l' := [none, none]) trivial (x_cv (As := [jR 1000149]) (st := []) c195_52 cl_3 kl64 rfl (Nat.le_of_ble_eq_true rfl) mx64 (Nat.le_refl _) (H.2.1 h1))))))) (fun h2 => (x_aldn c195_30 rfl (x_gfr c195_31 k_0_16 (x_ildn c195_34 rfl (x_aldn c195_35 rfl (x_gfr c195_36 k_0_7 (wp_wk (l' := [some (jR 0), none]) ⟨rfl, trivial⟩ (x_cv (As := [jI u0, jR 20]) (st := []) c195_39 cl_125 kl182 rfl (Nat.le_of_ble_eq_true rfl) mx182 (Nat.le_refl _) (H.2.2 h2))))))))))))
theorem s195_42 {kc : List va_E} {d : Nat} {u0 : Int} {M : fx_M} {Q : Option fx_V → fx_M → Prop} (H : ((fx_in32 u0)) ∧ (u0 ≠ 0 → wc kc d 72 [jR 11, jR 20] M (fun v M1 => wp kc (d + 1) 195 67 [some (jR 0), none] (v.toList ++ []) M1 Q)) ∧ (u0 = 0 → wc kc d 64 [jR 3, jR 1000149] M (fun v M1 => wp kc (d + 1) 195 55 [none, none] (v.toList ++ []) M1 Q))) : wp kc (d + 1) 195 42 [some (jR 0), none] [jI u0] M Q :=
  (x_zne c195_42 H.1 (fun h1 => (x_aldn c195_56 rfl (x_gfr c195_57 k_0_6 (x_aldn c195_60 rfl (x_gfr c195_61 k_0_7 (wp_wk (l' := [some (jR 0), none]) ⟨rfl, trivial⟩ (x_cv (As := [jR 20]) (st := []) c195_64 cl_11 kl72 rfl (Nat.le_of_ble_eq_true rfl) mx72 (Nat.le_refl _) (H.2.1 h1)))))))) (fun h2 => (x_aldn c195_45 rfl (x_gfr c195_46 k_0_3 (x_cr c195_49 (wp_wk (l' := [none, none]) trivial (x_cv (As := [jR 1000149]) (st := []) c195_52 cl_3 kl64 rfl (Nat.le_of_ble_eq_true rfl) mx64 (Nat.le_refl _) (H.2.2 h2))))))))
theorem s195_55 {kc : List va_E} {d : Nat} {M : fx_M} {Q : Option fx_V → fx_M → Prop} (H : Q none M) : wp kc (d + 1) 195 55 [none, none] [] M Q :=
  (x_vr c195_55 r195 H)
theorem s195_67 {kc : List va_E} {d : Nat} {M : fx_M} {Q : Option fx_V → fx_M → Prop} (H : wc kc d 73 [jR 53] M (fun v M1 => wp kc (d + 1) 195 74 [some (jR 0), none] (v.toList ++ []) M1 Q)) : wp kc (d + 1) 195 67 [some (jR 0), none] [] M Q :=
  (x_aldn c195_67 rfl (x_gfr c195_68 k_0_14 (wp_wk (l' := [some (jR 0), none]) ⟨rfl, trivial⟩ (x_cv (As := []) (st := []) c195_71 cl_53 kl73 rfl (Nat.le_of_ble_eq_true rfl) mx73 (Nat.le_refl _) H))))
theorem s195_74 {kc : List va_E} {d : Nat} {M : fx_M} {Q : Option fx_V → fx_M → Prop} (H : wc kc d 64 [jR 3, jR 1000063] M (fun v M1 => wp kc (d + 1) 195 84 [none, none] (v.toList ++ []) M1 Q)) : wp kc (d + 1) 195 74 [some (jR 0), none] [] M Q :=
  (x_aldn c195_74 rfl (x_gfr c195_75 k_0_3 (x_cr c195_78 (wp_wk (l' := [none, none]) trivial (x_cv (As := [jR 1000063]) (st := []) c195_81 cl_3 kl64 rfl (Nat.le_of_ble_eq_true rfl) mx64 (Nat.le_refl _) H)))))
theorem s195_84 {kc : List va_E} {d : Nat} {M : fx_M} {Q : Option fx_V → fx_M → Prop} (H : Q none M) : wp kc (d + 1) 195 84 [none, none] [] M Q :=
  (x_vr c195_84 r195 H)
theorem s195 {kc : List va_E} {d : Nat} {M : fx_M} {Q : Option fx_V → fx_M → Prop} (H : wc kc d 178 [jR 125, jR 2, jI (M 7 6), jI (M 7 7)] M (fun v M1 => wp kc (d + 1) 195 25 [some (jR 0), none] (v.toList ++ []) M1 Q)) : wc kc (d + 1) 195 [jR 0] M Q :=
  wc_of (wp_wk (l' := [some (jR 0), none]) ⟨rfl, trivial⟩ (s195_0 H))

/- PuzzleHouse.exportBook()V -/
theorem c200_0 : fx_op 200 0 = some (.aload_n 0, 1, 0) := by decide +kernel
theorem c200_1 : fx_gf 200 1 = some (0, 3, 4) := by decide +kernel
theorem c200_4 : fx_cr 200 4 = some (1000175, 7) := by decide +kernel
theorem c200_7 : fx_ca 200 7 = some (64, 2, 2, 10) := by decide +kernel
theorem c200_10 : fx_op 200 10 = some (.aload_n 0, 11, 10) := by decide +kernel
theorem c200_11 : fx_gf 200 11 = some (0, 3, 14) := by decide +kernel
theorem c200_14 : fx_op 200 14 = some (.aload_n 0, 15, 14) := by decide +kernel
theorem c200_15 : fx_gf 200 15 = some (0, 16, 18) := by decide +kernel
theorem c200_18 : fx_ca 200 18 = some (179, 1, 2, 21) := by decide +kernel
theorem c200_21 : fx_ca 200 21 = some (65, 2, 2, 24) := by decide +kernel
theorem c200_24 : fx_ci 200 24 = some (0, 25) := by decide +kernel
theorem c200_25 : fx_op 200 25 = some (.istore_n 1, 26, 25) := by decide +kernel
theorem c200_26 : fx_op 200 26 = some (.iload_n 1, 27, 26) := by decide +kernel
theorem c200_27 : fx_op 200 27 = some (.aload_n 0, 28, 27) := by decide +kernel
theorem c200_28 : fx_gf 200 28 = some (0, 16, 31) := by decide +kernel
theorem c200_31 : fx_ca 200 31 = some (179, 1, 2, 34) := by decide +kernel
theorem c200_34 : fx_op 200 34 = some (.if_icmp .ge 56, 37, 90) := by decide +kernel
theorem c200_37 : fx_op 200 37 = some (.aload_n 0, 38, 37) := by decide +kernel
theorem c200_38 : fx_gf 200 38 = some (0, 3, 41) := by decide +kernel
theorem c200_41 : fx_ci 200 41 = some (47, 43) := by decide +kernel
theorem c200_90 : fx_op 200 90 = some (.aload_n 0, 91, 90) := by decide +kernel
theorem c200_91 : fx_gf 200 91 = some (0, 3, 94) := by decide +kernel
theorem c200_94 : fx_ci 200 94 = some (47, 96) := by decide +kernel
theorem c200_96 : fx_ca 200 96 = some (69, 2, 2, 99) := by decide +kernel
theorem c200_43 : fx_ca 200 43 = some (69, 2, 2, 46) := by decide +kernel
theorem c200_99 : fx_op 200 99 = some (.aload_n 0, 100, 99) := by decide +kernel
theorem c200_100 : fx_gf 200 100 = some (0, 3, 103) := by decide +kernel
theorem c200_103 : fx_op 200 103 = some (.aload_n 0, 104, 103) := by decide +kernel
theorem c200_104 : fx_gf 200 104 = some (0, 3, 107) := by decide +kernel
theorem c200_107 : fx_gf 200 107 = some (1, 0, 110) := by decide +kernel
theorem c200_110 : fx_ci 200 110 = some (0, 111) := by decide +kernel
theorem c200_111 : fx_op 200 111 = some (.aload_n 0, 112, 111) := by decide +kernel
theorem c200_112 : fx_gf 200 112 = some (0, 3, 115) := by decide +kernel
theorem c200_115 : fx_gf 200 115 = some (1, 1, 118) := by decide +kernel
theorem c200_118 : fx_ca 200 118 = some (62, 3, 0, 121) := by decide +kernel
theorem c200_46 : fx_op 200 46 = some (.aload_n 0, 47, 46) := by decide +kernel
theorem c200_47 : fx_gf 200 47 = some (0, 16, 50) := by decide +kernel
theorem c200_50 : fx_op 200 50 = some (.iload_n 1, 51, 50) := by decide +kernel
theorem c200_51 : fx_op 200 51 = some (.aload_n 0, 52, 51) := by decide +kernel
theorem c200_52 : fx_gf 200 52 = some (0, 3, 55) := by decide +kernel
theorem c200_55 : fx_ca 200 55 = some (197, 3, 2, 58) := by decide +kernel
theorem c200_121 : fx_ca 200 121 = some (65, 2, 2, 124) := by decide +kernel
theorem c200_58 : fx_op 200 58 = some (.aload_n 0, 59, 58) := by decide +kernel
theorem c200_59 : fx_gf 200 59 = some (0, 16, 62) := by decide +kernel
theorem c200_62 : fx_op 200 62 = some (.iload_n 1, 63, 62) := by decide +kernel
theorem c200_63 : fx_op 200 63 = some (.aload_n 0, 64, 63) := by decide +kernel
theorem c200_64 : fx_gf 200 64 = some (0, 7, 67) := by decide +kernel
theorem c200_67 : fx_ca 200 67 = some (182, 3, 2, 70) := by decide +kernel
theorem c200_124 : fx_op 200 124 = some (.return_, 125, 124) := by decide +kernel
theorem c200_70 : fx_op 200 70 = some (.ifCond .eq 14, 73, 84) := by decide +kernel
theorem c200_73 : fx_op 200 73 = some (.aload_n 0, 74, 73) := by decide +kernel
theorem c200_74 : fx_gf 200 74 = some (0, 7, 77) := by decide +kernel
theorem c200_77 : fx_op 200 77 = some (.aload_n 0, 78, 77) := by decide +kernel
theorem c200_78 : fx_gf 200 78 = some (0, 3, 81) := by decide +kernel
theorem c200_84 : fx_op 200 84 = some (.iinc 1 1, 87, 84) := by decide +kernel
theorem c200_87 : fx_op 200 87 = some (.goto (-61), 90, 26) := by decide +kernel
theorem c200_81 : fx_ca 200 81 = some (68, 2, 2, 84) := by decide +kernel
theorem s200_0 {kc : List va_E} {d : Nat} {M : fx_M} {Q : Option fx_V → fx_M → Prop} (H : wc kc d 64 [jR 3, jR 1000175] M (fun v M1 => wp kc (d + 1) 200 10 [some (jR 0), none] (v.toList ++ []) M1 Q)) : wp kc (d + 1) 200 0 [some (jR 0), none] [] M Q :=
  (x_aldn c200_0 rfl (x_gfr c200_1 k_0_3 (x_cr c200_4 (wp_wk (l' := [some (jR 0), none]) ⟨rfl, trivial⟩ (x_cv (As := [jR 1000175]) (st := []) c200_7 cl_3 kl64 rfl (Nat.le_of_ble_eq_true rfl) mx64 (Nat.le_refl _) H)))))
theorem s200_10 {kc : List va_E} {d : Nat} {M : fx_M} {Q : Option fx_V → fx_M → Prop} (H : wc kc d 179 [jR 125] M (fun v M1 => wp kc (d + 1) 200 21 [some (jR 0), none] (v.toList ++ [jR 3]) M1 Q)) : wp kc (d + 1) 200 10 [some (jR 0), none] [] M Q :=
  (x_aldn c200_10 rfl (x_gfr c200_11 k_0_3 (x_aldn c200_14 rfl (x_gfr c200_15 k_0_16 (wp_wk (l' := [some (jR 0), none]) ⟨rfl, trivial⟩ (x_cv (As := []) (st := [jR 3]) c200_18 cl_125 kl179 rfl (Nat.le_of_ble_eq_true rfl) mx179 (Nat.le_refl _) H))))))
theorem s200_21 {kc : List va_E} {d : Nat} {u0 : Int} {M : fx_M} {Q : Option fx_V → fx_M → Prop} (H : wc kc d 65 [jR 3, jI u0] M (fun v M1 => wp kc (d + 1) 200 24 [some (jR 0), none] (v.toList ++ []) M1 Q)) : wp kc (d + 1) 200 21 [some (jR 0), none] [jI u0, jR 3] M Q :=
  (wp_wk (l' := [some (jR 0), none]) ⟨rfl, trivial⟩ (x_cv (As := [jI u0]) (st := []) c200_21 cl_3 kl65 rfl (Nat.le_of_ble_eq_true rfl) mx65 (Nat.le_refl _) H))
theorem s200_24 {kc : List va_E} {d : Nat} {M : fx_M} {Q : Option fx_V → fx_M → Prop} (H : wp kc (d + 1) 200 26 [some (jR 0), some (jI 0)] [] M Q) : wp kc (d + 1) 200 24 [some (jR 0), none] [] M Q :=
  (x_ci c200_24 (x_istn (l' := [some (jR 0), some (jI 0)]) c200_25 rfl (wp_wk (l' := [some (jR 0), some (jI 0)]) ⟨rfl, ⟨rfl, trivial⟩⟩ H)))
theorem s200_26 {kc : List va_E} {d : Nat} {v1 : Int} {M : fx_M} {Q : Option fx_V → fx_M → Prop} (H : wc kc d 179 [jR 125] M (fun v M1 => wp kc (d + 1) 200 34 [some (jR 0), some (jI v1)] (v.toList ++ [jI v1]) M1 Q)) : wp kc (d + 1) 200 26 [some (jR 0), some (jI v1)] [] M Q :=
  (x_ildn c200_26 rfl (x_aldn c200_27 rfl (x_gfr c200_28 k_0_16 (wp_wk (l' := [some (jR 0), some (jI v1)]) ⟨rfl, ⟨rfl, trivial⟩⟩ (x_cv (As := []) (st := [jI v1]) c200_31 cl_125 kl179 rfl (Nat.le_of_ble_eq_true rfl) mx179 (Nat.le_refl _) H)))))
theorem s200_34 {kc : List va_E} {d : Nat} {v1 u0 u1 : Int} {M : fx_M} {Q : Option fx_V → fx_M → Prop} (H : ((fx_in32 u1) ∧ (fx_in32 u0)) ∧ (u0 ≤ u1 → wc kc d 69 [jR 3, jI 47] M (fun v M1 => wp kc (d + 1) 200 99 [some (jR 0), none] (v.toList ++ []) M1 Q)) ∧ (u1 < u0 → wc kc d 69 [jR 3, jI 47] M (fun v M1 => wp kc (d + 1) 200 46 [some (jR 0), some (jI v1)] (v.toList ++ []) M1 Q))) : wp kc (d + 1) 200 34 [some (jR 0), some (jI v1)] [jI u0, jI u1] M Q :=
  (x_cge c200_34 H.1.1 H.1.2 (fun h1 => (x_aldn c200_90 rfl (x_gfr c200_91 k_0_3 (x_ci c200_94 (wp_wk (l' := [some (jR 0), none]) ⟨rfl, trivial⟩ (x_cv (As := [jI 47]) (st := []) c200_96 cl_3 kl69 rfl (Nat.le_of_ble_eq_true rfl) mx69 (Nat.le_refl _) (H.2.1 h1))))))) (fun h2 => (x_aldn c200_37 rfl (x_gfr c200_38 k_0_3 (x_ci c200_41 (wp_wk (l' := [some (jR 0), some (jI v1)]) ⟨rfl, ⟨rfl, trivial⟩⟩ (x_cv (As := [jI 47]) (st := []) c200_43 cl_3 kl69 rfl (Nat.le_of_ble_eq_true rfl) mx69 (Nat.le_refl _) (H.2.2 h2))))))))
theorem s200_46 {kc : List va_E} {d : Nat} {v1 : Int} {M : fx_M} {Q : Option fx_V → fx_M → Prop} (H : wc kc d 197 [jR 125, jI v1, jR 3] M (fun v M1 => wp kc (d + 1) 200 58 [some (jR 0), some (jI v1)] (v.toList ++ []) M1 Q)) : wp kc (d + 1) 200 46 [some (jR 0), some (jI v1)] [] M Q :=
  (x_aldn c200_46 rfl (x_gfr c200_47 k_0_16 (x_ildn c200_50 rfl (x_aldn c200_51 rfl (x_gfr c200_52 k_0_3 (wp_wk (l' := [some (jR 0), some (jI v1)]) ⟨rfl, ⟨rfl, trivial⟩⟩ (x_cv (As := [jI v1, jR 3]) (st := []) c200_55 cl_125 kl197 rfl (Nat.le_of_ble_eq_true rfl) mx197 (Nat.le_refl _) H)))))))
theorem s200_58 {kc : List va_E} {d : Nat} {v1 : Int} {M : fx_M} {Q : Option fx_V → fx_M → Prop} (H : wc kc d 182 [jR 125, jI v1, jR 20] M (fun v M1 => wp kc (d + 1) 200 70 [some (jR 0), some (jI v1)] (v.toList ++ []) M1 Q)) : wp kc (d + 1) 200 58 [some (jR 0), some (jI v1)] [] M Q :=
  (x_aldn c200_58 rfl (x_gfr c200_59 k_0_16 (x_ildn c200_62 rfl (x_aldn c200_63 rfl (x_gfr c200_64 k_0_7 (wp_wk (l' := [some (jR 0), some (jI v1)]) ⟨rfl, ⟨rfl, trivial⟩⟩ (x_cv (As := [jI v1, jR 20]) (st := []) c200_67 cl_125 kl182 rfl (Nat.le_of_ble_eq_true rfl) mx182 (Nat.le_refl _) H)))))))
theorem s200_70 {kc : List va_E} {d : Nat} {v1 u0 : Int} {M : fx_M} {Q : Option fx_V → fx_M → Prop} (H : ((fx_in32 u0)) ∧ (u0 = 0 → wp kc (d + 1) 200 26 [some (jR 0), some (jI (v1 + 1))] [] M Q) ∧ (u0 ≠ 0 → wc kc d 68 [jR 20, jR 3] M (fun v M1 => wp kc (d + 1) 200 84 [some (jR 0), some (jI v1)] (v.toList ++ []) M1 Q))) : wp kc (d + 1) 200 70 [some (jR 0), some (jI v1)] [jI u0] M Q :=
  (x_zeq c200_70 H.1 (fun h1 => (x_inc (l' := [some (jR 0), some (jI (v1 + 1))]) c200_84 rfl rfl (x_goto c200_87 (wp_wk (l' := [some (jR 0), some (jI (v1 + 1))]) ⟨rfl, ⟨rfl, trivial⟩⟩ (H.2.1 h1))))) (fun h2 => (x_aldn c200_73 rfl (x_gfr c200_74 k_0_7 (x_aldn c200_77 rfl (x_gfr c200_78 k_0_3 (wp_wk (l' := [some (jR 0), some (jI v1)]) ⟨rfl, ⟨rfl, trivial⟩⟩ (x_cv (As := [jR 3]) (st := []) c200_81 cl_20 kl68 rfl (Nat.le_of_ble_eq_true rfl) mx68 (Nat.le_refl _) (H.2.2 h2)))))))))
theorem s200_84 {kc : List va_E} {d : Nat} {v1 : Int} {M : fx_M} {Q : Option fx_V → fx_M → Prop} (H : wp kc (d + 1) 200 26 [some (jR 0), some (jI (v1 + 1))] [] M Q) : wp kc (d + 1) 200 84 [some (jR 0), some (jI v1)] [] M Q :=
  (x_inc (l' := [some (jR 0), some (jI (v1 + 1))]) c200_84 rfl rfl (x_goto c200_87 (wp_wk (l' := [some (jR 0), some (jI (v1 + 1))]) ⟨rfl, ⟨rfl, trivial⟩⟩ H)))
theorem s200_99 {kc : List va_E} {d : Nat} {M : fx_M} {Q : Option fx_V → fx_M → Prop} (H : wc kc d 62 [jR 4, jI 0, jI (M 3 1)] M (fun v M1 => wp kc (d + 1) 200 121 [none, none] (v.toList ++ [jR 3]) M1 Q)) : wp kc (d + 1) 200 99 [some (jR 0), none] [] M Q :=
  (x_aldn c200_99 rfl (x_gfr c200_100 k_0_3 (x_aldn c200_103 rfl (x_gfr c200_104 k_0_3 (x_gfr c200_107 k_3_0 (x_ci c200_110 (x_aldn c200_111 rfl (x_gfr c200_112 k_0_3 (x_gfi c200_115 k_3_1 (wp_wk (l' := [none, none]) trivial (x_cs (As := [jR 4, jI 0, jI (M 3 1)]) (st := [jR 3]) c200_118 (by decide) rfl (Nat.le_of_ble_eq_true rfl) mx62 (Nat.le_refl _) H)))))))))))
theorem s200_121 {kc : List va_E} {d : Nat} {u0 : Int} {M : fx_M} {Q : Option fx_V → fx_M → Prop} (H : wc kc d 65 [jR 3, jI u0] M (fun v M1 => wp kc (d + 1) 200 124 [none, none] (v.toList ++ []) M1 Q)) : wp kc (d + 1) 200 121 [none, none] [jI u0, jR 3] M Q :=
  (wp_wk (l' := [none, none]) trivial (x_cv (As := [jI u0]) (st := []) c200_121 cl_3 kl65 rfl (Nat.le_of_ble_eq_true rfl) mx65 (Nat.le_refl _) H))
theorem s200_124 {kc : List va_E} {d : Nat} {M : fx_M} {Q : Option fx_V → fx_M → Prop} (H : Q none M) : wp kc (d + 1) 200 124 [none, none] [] M Q :=
  (x_vr c200_124 r200 H)
theorem s200 {kc : List va_E} {d : Nat} {M : fx_M} {Q : Option fx_V → fx_M → Prop} (H : wc kc d 64 [jR 3, jR 1000175] M (fun v M1 => wp kc (d + 1) 200 10 [some (jR 0), none] (v.toList ++ []) M1 Q)) : wc kc (d + 1) 200 [jR 0] M Q :=
  wc_of (wp_wk (l' := [some (jR 0), none]) ⟨rfl, trivial⟩ (s200_0 H))

/- PuzzleHouse.importBook()V -/
theorem c201_0 : fx_op 201 0 = some (.aload_n 0, 1, 0) := by decide +kernel
theorem c201_1 : fx_gf 201 1 = some (0, 5, 4) := by decide +kernel
theorem c201_4 : fx_gf 201 4 = some (2, 5, 7) := by decide +kernel
theorem c201_7 : fx_ci 201 7 = some (1, 8) := by decide +kernel
theorem c201_8 : fx_op 201 8 = some (.iaload, 9, 8) := by decide +kernel
theorem c201_9 : fx_op 201 9 = some (.istore_n 1, 10, 9) := by decide +kernel
theorem c201_10 : fx_op 201 10 = some (.aload_n 0, 11, 10) := by decide +kernel
theorem c201_11 : fx_gf 201 11 = some (0, 5, 14) := by decide +kernel
theorem c201_14 : fx_gf 201 14 = some (2, 5, 17) := by decide +kernel
theorem c201_17 : fx_ci 201 17 = some (0, 18) := by decide +kernel
theorem c201_18 : fx_op 201 18 = some (.iaload, 19, 18) := by decide +kernel
theorem c201_19 : fx_op 201 19 = some (.iload_n 1, 20, 19) := by decide +kernel
theorem c201_20 : fx_op 201 20 = some (.if_icmp .eq 14, 23, 34) := by decide +kernel
theorem c201_34 : fx_op 201 34 = some (.aload_n 0, 35, 34) := by decide +kernel
theorem c201_35 : fx_gf 201 35 = some (0, 5, 38) := by decide +kernel
theorem c201_38 : fx_gf 201 38 = some (2, 5, 41) := by decide +kernel
theorem c201_41 : fx_ci 201 41 = some (2, 42) := by decide +kernel
theorem c201_42 : fx_op 201 42 = some (.iaload, 43, 42) := by decide +kernel
theorem c201_43 : fx_op 201 43 = some (.aload_n 0, 44, 43) := by decide +kernel
theorem c201_44 : fx_gf 201 44 = some (0, 5, 47) := by decide +kernel
theorem c201_47 : fx_gf 201 47 = some (2, 5, 50) := by decide +kernel
theorem c201_50 : fx_ci 201 50 = some (3, 51) := by decide +kernel
theorem c201_51 : fx_op 201 51 = some (.iaload, 52, 51) := by decide +kernel
theorem c201_52 : fx_op 201 52 = some (.if_icmp .eq 14, 55, 66) := by decide +kernel
theorem c201_66 : fx_op 201 66 = some (.aload_n 0, 67, 66) := by decide +kernel
theorem c201_67 : fx_gf 201 67 = some (0, 5, 70) := by decide +kernel
theorem c201_70 : fx_gf 201 70 = some (2, 4, 73) := by decide +kernel
theorem c201_55 : fx_op 201 55 = some (.aload_n 0, 56, 55) := by decide +kernel
theorem c201_56 : fx_gf 201 56 = some (0, 3, 59) := by decide +kernel
theorem c201_59 : fx_cr 201 59 = some (1000179, 62) := by decide +kernel
theorem c201_23 : fx_op 201 23 = some (.aload_n 0, 24, 23) := by decide +kernel
theorem c201_24 : fx_gf 201 24 = some (0, 3, 27) := by decide +kernel
theorem c201_27 : fx_cr 201 27 = some (1000177, 30) := by decide +kernel
theorem c201_73 : fx_ca 201 73 = some (50, 1, 2, 76) := by decide +kernel
theorem c201_62 : fx_ca 201 62 = some (64, 2, 2, 65) := by decide +kernel
theorem c201_30 : fx_ca 201 30 = some (64, 2, 2, 33) := by decide +kernel
theorem c201_76 : fx_op 201 76 = some (.ifCond .ne 18, 79, 94) := by decide +kernel
theorem c201_94 : fx_op 201 94 = some (.aload_n 0, 95, 94) := by decide +kernel
theorem c201_95 : fx_gf 201 95 = some (0, 5, 98) := by decide +kernel
theorem c201_98 : fx_op 201 98 = some (.aload_n 0, 99, 98) := by decide +kernel
theorem c201_99 : fx_gf 201 99 = some (0, 5, 102) := by decide +kernel
theorem c201_102 : fx_gf 201 102 = some (2, 15, 105) := by decide +kernel
theorem c201_79 : fx_op 201 79 = some (.aload_n 0, 80, 79) := by decide +kernel
theorem c201_80 : fx_gf 201 80 = some (0, 3, 83) := by decide +kernel
theorem c201_83 : fx_op 201 83 = some (.aload_n 0, 84, 83) := by decide +kernel
theorem c201_84 : fx_gf 201 84 = some (0, 5, 87) := by decide +kernel
theorem c201_87 : fx_gf 201 87 = some (2, 4, 90) := by decide +kernel
theorem c201_105 : fx_ca 201 105 = some (202, 2, 2, 108) := by decide +kernel
theorem c201_90 : fx_ca 201 90 = some (64, 2, 2, 93) := by decide +kernel
theorem c201_65 : fx_op 201 65 = some (.return_, 66, 65) := by decide +kernel
theorem c201_33 : fx_op 201 33 = some (.return_, 34, 33) := by decide +kernel
theorem c201_108 : fx_ci 201 108 = some (0, 109) := by decide +kernel
theorem c201_109 : fx_op 201 109 = some (.istore_n 2, 110, 109) := by decide +kernel
theorem c201_93 : fx_op 201 93 = some (.return_, 94, 93) := by decide +kernel
theorem c201_110 : fx_op 201 110 = some (.iload_n 2, 111, 110) := by decide +kernel
theorem c201_111 : fx_op 201 111 = some (.iload_n 1, 112, 111) := by decide +kernel
theorem c201_112 : fx_op 201 112 = some (.if_icmp .ge 106, 115, 218) := by decide +kernel
theorem c201_218 : fx_op 201 218 = some (.aload_n 0, 219, 218) := by decide +kernel
theorem c201_219 : fx_gf 201 219 = some (0, 3, 222) := by decide +kernel
theorem c201_222 : fx_cr 201 222 = some (1000063, 225) := by decide +kernel
theorem c201_115 : fx_op 201 115 = some (.aload_n 0, 116, 115) := by decide +kernel
theorem c201_116 : fx_gf 201 116 = some (0, 5, 119) := by decide +kernel
theorem c201_119 : fx_ci 201 119 = some (47, 121) := by decide +kernel
theorem c201_225 : fx_ca 201 225 = some (64, 2, 2, 228) := by decide +kernel
theorem c201_121 : fx_ca 201 121 = some (34, 2, 2, 124) := by decide +kernel
theorem c201_228 : fx_op 201 228 = some (.return_, 229, 228) := by decide +kernel
theorem c201_124 : fx_op 201 124 = some (.aload_n 0, 125, 124) := by decide +kernel
theorem c201_125 : fx_gf 201 125 = some (0, 5, 128) := by decide +kernel
theorem c201_128 : fx_ca 201 128 = some (40, 1, 2, 131) := by decide +kernel
theorem c201_131 : fx_op 201 131 = some (.aload_n 0, 132, 131) := by decide +kernel
theorem c201_132 : fx_gf 201 132 = some (0, 5, 135) := by decide +kernel
theorem c201_135 : fx_ci 201 135 = some (32, 137) := by decide +kernel
theorem c201_137 : fx_ca 201 137 = some (34, 2, 2, 140) := by decide +kernel
theorem c201_140 : fx_op 201 140 = some (.aload_n 0, 141, 140) := by decide +kernel
theorem c201_141 : fx_gf 201 141 = some (0, 5, 144) := by decide +kernel
theorem c201_144 : fx_op 201 144 = some (.aload_n 0, 145, 144) := by decide +kernel
theorem c201_145 : fx_gf 201 145 = some (0, 7, 148) := by decide +kernel
theorem c201_148 : fx_ca 201 148 = some (49, 2, 2, 151) := by decide +kernel
theorem c201_151 : fx_op 201 151 = some (.aload_n 0, 152, 151) := by decide +kernel
theorem c201_152 : fx_gf 201 152 = some (0, 4, 155) := by decide +kernel
theorem c201_155 : fx_ca 201 155 = some (63, 1, 2, 158) := by decide +kernel
theorem c201_158 : fx_op 201 158 = some (.aload_n 0, 159, 158) := by decide +kernel
theorem c201_159 : fx_gf 201 159 = some (0, 7, 162) := by decide +kernel
theorem c201_162 : fx_op 201 162 = some (.aload_n 0, 163, 162) := by decide +kernel
theorem c201_163 : fx_gf 201 163 = some (0, 4, 166) := by decide +kernel
theorem c201_166 : fx_ca 201 166 = some (68, 2, 2, 169) := by decide +kernel
theorem c201_169 : fx_op 201 169 = some (.aload_n 0, 170, 169) := by decide +kernel
theorem c201_170 : fx_gf 201 170 = some (0, 16, 173) := by decide +kernel
theorem c201_173 : fx_op 201 173 = some (.aload_n 0, 174, 173) := by decide +kernel
theorem c201_174 : fx_gf 201 174 = some (0, 2, 177) := by decide +kernel
theorem c201_177 : fx_op 201 177 = some (.aload_n 0, 178, 177) := by decide +kernel
theorem c201_178 : fx_gf 201 178 = some (0, 5, 181) := by decide +kernel
theorem c201_181 : fx_gf 201 181 = some (2, 6, 184) := by decide +kernel
theorem c201_184 : fx_op 201 184 = some (.aload_n 0, 185, 184) := by decide +kernel
theorem c201_185 : fx_gf 201 185 = some (0, 5, 188) := by decide +kernel
theorem c201_188 : fx_gf 201 188 = some (2, 7, 191) := by decide +kernel
theorem c201_191 : fx_op 201 191 = some (.aload_n 0, 192, 191) := by decide +kernel
theorem c201_192 : fx_gf 201 192 = some (0, 4, 195) := by decide +kernel
theorem c201_195 : fx_ca 201 195 = some (191, 5, 2, 198) := by decide +kernel
theorem c201_198 : fx_op 201 198 = some (.ifCond .ne 14, 201, 212) := by decide +kernel
theorem c201_212 : fx_op 201 212 = some (.iinc 2 1, 215, 212) := by decide +kernel
theorem c201_201 : fx_op 201 201 = some (.aload_n 0, 202, 201) := by decide +kernel
theorem c201_202 : fx_gf 201 202 = some (0, 3, 205) := by decide +kernel
theorem c201_205 : fx_cr 201 205 = some (1000169, 208) := by decide +kernel
theorem c201_215 : fx_op 201 215 = some (.goto (-105), 218, 110) := by decide +kernel
theorem c201_208 : fx_ca 201 208 = some (64, 2, 2, 211) := by decide +kernel
theorem c201_211 : fx_op 201 211 = some (.return_, 212, 211) := by decide +kernel
theorem s201_0 {kc : List va_E} {d : Nat} {M : fx_M} {Q : Option fx_V → fx_M → Prop} (H : ((fx_in32 (M 9 0)) ∧ (fx_in32 (M 9 1))) ∧ (M 9 0 = M 9 1 → ((fx_in32 (M 9 2)) ∧ (fx_in32 (M 9 3))) ∧ (M 9 2 = M 9 3 → fx_lit kc ((M 7 4).toNat) ∧ wc kc d 50 [jR ((M 7 4).toNat)] M (fun v M1 => wp kc (d + 1) 201 76 [some (jR 0), some (jI (M 9 1)), none] (v.toList ++ []) M1 Q)) ∧ (M 9 2 ≠ M 9 3 → wc kc d 64 [jR 3, jR 1000179] M (fun v M1 => wp kc (d + 1) 201 65 [none, none, none] (v.toList ++ []) M1 Q))) ∧ (M 9 0 ≠ M 9 1 → wc kc d 64 [jR 3, jR 1000177] M (fun v M1 => wp kc (d + 1) 201 33 [none, none, none] (v.toList ++ []) M1 Q))) : wp kc (d + 1) 201 0 [some (jR 0), none, none] [] M Q :=
  (x_aldn c201_0 rfl (x_gfr c201_1 k_0_5 (x_gfr c201_4 k_7_5 (x_ci c201_7 (x_iald c201_8 a_9 (by decide) (by decide) (x_istn (l' := [some (jR 0), some (jI (M 9 1)), none]) c201_9 rfl (x_aldn c201_10 rfl (x_gfr c201_11 k_0_5 (x_gfr c201_14 k_7_5 (x_ci c201_17 (x_iald c201_18 a_9 (by decide) (by decide) (x_ildn c201_19 rfl (x_ceq c201_20 H.1.1 H.1.2 (fun h3 => (x_aldn c201_34 rfl (x_gfr c201_35 k_0_5 (x_gfr c201_38 k_7_5 (x_ci c201_41 (x_iald c201_42 a_9 (by decide) (by decide) (x_aldn c201_43 rfl (x_gfr c201_44 k_0_5 (x_gfr c201_47 k_7_5 (x_ci c201_50 (x_iald c201_51 a_9 (by decide) (by decide) (x_ceq c201_52 (H.2.1 h3).1.1 (H.2.1 h3).1.2 (fun h1 => (x_aldn c201_66 rfl (x_gfr c201_67 k_0_5 (x_gfd c201_70 k_7_4 (wp_wk (l' := [some (jR 0), some (jI (M 9 1)), none]) ⟨rfl, ⟨rfl, trivial⟩⟩ (x_cl (b := (M 7 4).toNat) (As := []) (st := []) c201_73 kl50 ((H.2.1 h3).2.1 h1).1 rfl (Nat.le_of_ble_eq_true rfl) mx50 (Nat.le_refl _) ((H.2.1 h3).2.1 h1).2)))))) (fun h2 => (x_aldn c201_55 rfl (x_gfr c201_56 k_0_3 (x_cr c201_59 (wp_wk (l' := [none, none, none]) trivial (x_cv (As := [jR 1000179]) (st := []) c201_62 cl_3 kl64 rfl (Nat.le_of_ble_eq_true rfl) mx64 (Nat.le_refl _) ((H.2.1 h3).2.2 h2))))))))))))))))))) (fun h4 => (x_aldn c201_23 rfl (x_gfr c201_24 k_0_3 (x_cr c201_27 (wp_wk (l' := [none, none, none]) trivial (x_cv (As := [jR 1000177]) (st := []) c201_30 cl_3 kl64 rfl (Nat.le_of_ble_eq_true rfl) mx64 (Nat.le_refl _) (H.2.2 h4))))))))))))))))))))
theorem s201_33 {kc : List va_E} {d : Nat} {M : fx_M} {Q : Option fx_V → fx_M → Prop} (H : Q none M) : wp kc (d + 1) 201 33 [none, none, none] [] M Q :=
  (x_vr c201_33 r201 H)
theorem s201_65 {kc : List va_E} {d : Nat} {M : fx_M} {Q : Option fx_V → fx_M → Prop} (H : Q none M) : wp kc (d + 1) 201 65 [none, none, none] [] M Q :=
  (x_vr c201_65 r201 H)
theorem s201_76 {kc : List va_E} {d : Nat} {v1 u0 : Int} {M : fx_M} {Q : Option fx_V → fx_M → Prop} (H : ((fx_in32 u0)) ∧ (u0 ≠ 0 → wc kc d 202 [jR 7, jI (M 7 15)] M (fun v M1 => wp kc (d + 1) 201 108 [some (jR 0), some (jI v1), none] (v.toList ++ []) M1 Q)) ∧ (u0 = 0 → wc kc d 64 [jR 3, jR ((M 7 4).toNat)] M (fun v M1 => wp kc (d + 1) 201 93 [none, none, none] (v.toList ++ []) M1 Q))) : wp kc (d + 1) 201 76 [some (jR 0), some (jI v1), none] [jI u0] M Q :=
  (x_zne c201_76 H.1 (fun h1 => (x_aldn c201_94 rfl (x_gfr c201_95 k_0_5 (x_aldn c201_98 rfl (x_gfr c201_99 k_0_5 (x_gfi c201_102 k_7_15 (wp_wk (l' := [some (jR 0), some (jI v1), none]) ⟨rfl, ⟨rfl, trivial⟩⟩ (x_cv (As := [jI (M 7 15)]) (st := []) c201_105 cl_7 kl202 rfl (Nat.le_of_ble_eq_true rfl) mx202 (Nat.le_refl _) (H.2.1 h1))))))))) (fun h2 => (x_aldn c201_79 rfl (x_gfr c201_80 k_0_3 (x_aldn c201_83 rfl (x_gfr c201_84 k_0_5 (x_gfd c201_87 k_7_4 (wp_wk (l' := [none, none, none]) trivial (x_cv (As := [jR ((M 7 4).toNat)]) (st := []) c201_90 cl_3 kl64 rfl (Nat.le_of_ble_eq_true rfl) mx64 (Nat.le_refl _) (H.2.2 h2))))))))))
theorem s201_93 {kc : List va_E} {d : Nat} {M : fx_M} {Q : Option fx_V → fx_M → Prop} (H : Q none M) : wp kc (d + 1) 201 93 [none, none, none] [] M Q :=
  (x_vr c201_93 r201 H)
theorem s201_108 {kc : List va_E} {d : Nat} {v1 : Int} {M : fx_M} {Q : Option fx_V → fx_M → Prop} (H : wp kc (d + 1) 201 110 [some (jR 0), some (jI v1), some (jI 0)] [] M Q) : wp kc (d + 1) 201 108 [some (jR 0), some (jI v1), none] [] M Q :=
  (x_ci c201_108 (x_istn (l' := [some (jR 0), some (jI v1), some (jI 0)]) c201_109 rfl (wp_wk (l' := [some (jR 0), some (jI v1), some (jI 0)]) ⟨rfl, ⟨rfl, ⟨rfl, trivial⟩⟩⟩ H)))
theorem s201_110 {kc : List va_E} {d : Nat} {v1 v2 : Int} {M : fx_M} {Q : Option fx_V → fx_M → Prop} (H : ((fx_in32 v2) ∧ (fx_in32 v1)) ∧ (v1 ≤ v2 → wc kc d 64 [jR 3, jR 1000063] M (fun v M1 => wp kc (d + 1) 201 228 [none, none, none] (v.toList ++ []) M1 Q)) ∧ (v2 < v1 → wc kc d 34 [jR 7, jI 47] M (fun v M1 => wp kc (d + 1) 201 124 [some (jR 0), some (jI v1), some (jI v2)] (v.toList ++ []) M1 Q))) : wp kc (d + 1) 201 110 [some (jR 0), some (jI v1), some (jI v2)] [] M Q :=
  (x_ildn c201_110 rfl (x_ildn c201_111 rfl (x_cge c201_112 H.1.1 H.1.2 (fun h1 => (x_aldn c201_218 rfl (x_gfr c201_219 k_0_3 (x_cr c201_222 (wp_wk (l' := [none, none, none]) trivial (x_cv (As := [jR 1000063]) (st := []) c201_225 cl_3 kl64 rfl (Nat.le_of_ble_eq_true rfl) mx64 (Nat.le_refl _) (H.2.1 h1))))))) (fun h2 => (x_aldn c201_115 rfl (x_gfr c201_116 k_0_5 (x_ci c201_119 (wp_wk (l' := [some (jR 0), some (jI v1), some (jI v2)]) ⟨rfl, ⟨rfl, ⟨rfl, trivial⟩⟩⟩ (x_cv (As := [jI 47]) (st := []) c201_121 cl_7 kl34 rfl (Nat.le_of_ble_eq_true rfl) mx34 (Nat.le_refl _) (H.2.2 h2))))))))))
theorem s201_124 {kc : List va_E} {d : Nat} {v1 v2 : Int} {M : fx_M} {Q : Option fx_V → fx_M → Prop} (H : wc kc d 40 [jR 7] M (fun v M1 => wp kc (d + 1) 201 131 [some (jR 0), some (jI v1), some (jI v2)] (v.toList ++ []) M1 Q)) : wp kc (d + 1) 201 124 [some (jR 0), some (jI v1), some (jI v2)] [] M Q :=
  (x_aldn c201_124 rfl (x_gfr c201_125 k_0_5 (wp_wk (l' := [some (jR 0), some (jI v1), some (jI v2)]) ⟨rfl, ⟨rfl, ⟨rfl, trivial⟩⟩⟩ (x_cv (As := []) (st := []) c201_128 cl_7 kl40 rfl (Nat.le_of_ble_eq_true rfl) mx40 (Nat.le_refl _) H))))
theorem s201_131 {kc : List va_E} {d : Nat} {v1 v2 : Int} {M : fx_M} {Q : Option fx_V → fx_M → Prop} (H : wc kc d 34 [jR 7, jI 32] M (fun v M1 => wp kc (d + 1) 201 140 [some (jR 0), some (jI v1), some (jI v2)] (v.toList ++ []) M1 Q)) : wp kc (d + 1) 201 131 [some (jR 0), some (jI v1), some (jI v2)] [] M Q :=
  (x_aldn c201_131 rfl (x_gfr c201_132 k_0_5 (x_ci c201_135 (wp_wk (l' := [some (jR 0), some (jI v1), some (jI v2)]) ⟨rfl, ⟨rfl, ⟨rfl, trivial⟩⟩⟩ (x_cv (As := [jI 32]) (st := []) c201_137 cl_7 kl34 rfl (Nat.le_of_ble_eq_true rfl) mx34 (Nat.le_refl _) H)))))
theorem s201_140 {kc : List va_E} {d : Nat} {v1 v2 : Int} {M : fx_M} {Q : Option fx_V → fx_M → Prop} (H : wc kc d 49 [jR 7, jR 20] M (fun v M1 => wp kc (d + 1) 201 151 [some (jR 0), some (jI v1), some (jI v2)] (v.toList ++ []) M1 Q)) : wp kc (d + 1) 201 140 [some (jR 0), some (jI v1), some (jI v2)] [] M Q :=
  (x_aldn c201_140 rfl (x_gfr c201_141 k_0_5 (x_aldn c201_144 rfl (x_gfr c201_145 k_0_7 (wp_wk (l' := [some (jR 0), some (jI v1), some (jI v2)]) ⟨rfl, ⟨rfl, ⟨rfl, trivial⟩⟩⟩ (x_cv (As := [jR 20]) (st := []) c201_148 cl_7 kl49 rfl (Nat.le_of_ble_eq_true rfl) mx49 (Nat.le_refl _) H))))))
theorem s201_151 {kc : List va_E} {d : Nat} {v1 v2 : Int} {M : fx_M} {Q : Option fx_V → fx_M → Prop} (H : wc kc d 63 [jR 5] M (fun v M1 => wp kc (d + 1) 201 158 [some (jR 0), some (jI v1), some (jI v2)] (v.toList ++ []) M1 Q)) : wp kc (d + 1) 201 151 [some (jR 0), some (jI v1), some (jI v2)] [] M Q :=
  (x_aldn c201_151 rfl (x_gfr c201_152 k_0_4 (wp_wk (l' := [some (jR 0), some (jI v1), some (jI v2)]) ⟨rfl, ⟨rfl, ⟨rfl, trivial⟩⟩⟩ (x_cv (As := []) (st := []) c201_155 cl_5 kl63 rfl (Nat.le_of_ble_eq_true rfl) mx63 (Nat.le_refl _) H))))
theorem s201_158 {kc : List va_E} {d : Nat} {v1 v2 : Int} {M : fx_M} {Q : Option fx_V → fx_M → Prop} (H : wc kc d 68 [jR 20, jR 5] M (fun v M1 => wp kc (d + 1) 201 169 [some (jR 0), some (jI v1), some (jI v2)] (v.toList ++ []) M1 Q)) : wp kc (d + 1) 201 158 [some (jR 0), some (jI v1), some (jI v2)] [] M Q :=
  (x_aldn c201_158 rfl (x_gfr c201_159 k_0_7 (x_aldn c201_162 rfl (x_gfr c201_163 k_0_4 (wp_wk (l' := [some (jR 0), some (jI v1), some (jI v2)]) ⟨rfl, ⟨rfl, ⟨rfl, trivial⟩⟩⟩ (x_cv (As := [jR 5]) (st := []) c201_166 cl_20 kl68 rfl (Nat.le_of_ble_eq_true rfl) mx68 (Nat.le_refl _) H))))))
theorem s201_169 {kc : List va_E} {d : Nat} {v1 v2 : Int} {M : fx_M} {Q : Option fx_V → fx_M → Prop} (H : wc kc d 191 [jR 125, jR 2, jI (M 7 6), jI (M 7 7), jR 5] M (fun v M1 => wp kc (d + 1) 201 198 [some (jR 0), some (jI v1), some (jI v2)] (v.toList ++ []) M1 Q)) : wp kc (d + 1) 201 169 [some (jR 0), some (jI v1), some (jI v2)] [] M Q :=
  (x_aldn c201_169 rfl (x_gfr c201_170 k_0_16 (x_aldn c201_173 rfl (x_gfr c201_174 k_0_2 (x_aldn c201_177 rfl (x_gfr c201_178 k_0_5 (x_gfi c201_181 k_7_6 (x_aldn c201_184 rfl (x_gfr c201_185 k_0_5 (x_gfi c201_188 k_7_7 (x_aldn c201_191 rfl (x_gfr c201_192 k_0_4 (wp_wk (l' := [some (jR 0), some (jI v1), some (jI v2)]) ⟨rfl, ⟨rfl, ⟨rfl, trivial⟩⟩⟩ (x_cv (As := [jR 2, jI (M 7 6), jI (M 7 7), jR 5]) (st := []) c201_195 cl_125 kl191 rfl (Nat.le_of_ble_eq_true rfl) mx191 (Nat.le_refl _) H))))))))))))))
theorem s201_198 {kc : List va_E} {d : Nat} {v1 v2 u0 : Int} {M : fx_M} {Q : Option fx_V → fx_M → Prop} (H : ((fx_in32 u0)) ∧ (u0 ≠ 0 → wp kc (d + 1) 201 110 [some (jR 0), some (jI v1), some (jI (v2 + 1))] [] M Q) ∧ (u0 = 0 → wc kc d 64 [jR 3, jR 1000169] M (fun v M1 => wp kc (d + 1) 201 211 [none, none, none] (v.toList ++ []) M1 Q))) : wp kc (d + 1) 201 198 [some (jR 0), some (jI v1), some (jI v2)] [jI u0] M Q :=
  (x_zne c201_198 H.1 (fun h1 => (x_inc (l' := [some (jR 0), some (jI v1), some (jI (v2 + 1))]) c201_212 rfl rfl (x_goto c201_215 (wp_wk (l' := [some (jR 0), some (jI v1), some (jI (v2 + 1))]) ⟨rfl, ⟨rfl, ⟨rfl, trivial⟩⟩⟩ (H.2.1 h1))))) (fun h2 => (x_aldn c201_201 rfl (x_gfr c201_202 k_0_3 (x_cr c201_205 (wp_wk (l' := [none, none, none]) trivial (x_cv (As := [jR 1000169]) (st := []) c201_208 cl_3 kl64 rfl (Nat.le_of_ble_eq_true rfl) mx64 (Nat.le_refl _) (H.2.2 h2))))))))
theorem s201_211 {kc : List va_E} {d : Nat} {M : fx_M} {Q : Option fx_V → fx_M → Prop} (H : Q none M) : wp kc (d + 1) 201 211 [none, none, none] [] M Q :=
  (x_vr c201_211 r201 H)
theorem s201_228 {kc : List va_E} {d : Nat} {M : fx_M} {Q : Option fx_V → fx_M → Prop} (H : Q none M) : wp kc (d + 1) 201 228 [none, none, none] [] M Q :=
  (x_vr c201_228 r201 H)
theorem s201 {kc : List va_E} {d : Nat} {M : fx_M} {Q : Option fx_V → fx_M → Prop} (H : ((fx_in32 (M 9 0)) ∧ (fx_in32 (M 9 1))) ∧ (M 9 0 = M 9 1 → ((fx_in32 (M 9 2)) ∧ (fx_in32 (M 9 3))) ∧ (M 9 2 = M 9 3 → fx_lit kc ((M 7 4).toNat) ∧ wc kc d 50 [jR ((M 7 4).toNat)] M (fun v M1 => wp kc (d + 1) 201 76 [some (jR 0), some (jI (M 9 1)), none] (v.toList ++ []) M1 Q)) ∧ (M 9 2 ≠ M 9 3 → wc kc d 64 [jR 3, jR 1000179] M (fun v M1 => wp kc (d + 1) 201 65 [none, none, none] (v.toList ++ []) M1 Q))) ∧ (M 9 0 ≠ M 9 1 → wc kc d 64 [jR 3, jR 1000177] M (fun v M1 => wp kc (d + 1) 201 33 [none, none, none] (v.toList ++ []) M1 Q))) : wc kc (d + 1) 201 [jR 0] M Q :=
  wc_of (wp_wk (l' := [some (jR 0), none, none]) ⟨rfl, trivial⟩ (s201_0 H))

/- PuzzleHouse.findSame()V -/
theorem c203_0 : fx_op 203 0 = some (.aload_n 0, 1, 0) := by decide +kernel
theorem c203_1 : fx_gf 203 1 = some (0, 11, 4) := by decide +kernel
theorem c203_4 : fx_op 203 4 = some (.aload_n 0, 5, 4) := by decide +kernel
theorem c203_5 : fx_gf 203 5 = some (0, 6, 8) := by decide +kernel
theorem c203_8 : fx_ca 203 8 = some (146, 2, 2, 11) := by decide +kernel
theorem c203_11 : fx_ci 203 11 = some (0, 12) := by decide +kernel
theorem c203_12 : fx_op 203 12 = some (.istore_n 1, 13, 12) := by decide +kernel
theorem c203_13 : fx_op 203 13 = some (.iload_n 1, 14, 13) := by decide +kernel
theorem c203_14 : fx_op 203 14 = some (.aload_n 0, 15, 14) := by decide +kernel
theorem c203_15 : fx_gf 203 15 = some (0, 16, 18) := by decide +kernel
theorem c203_18 : fx_ca 203 18 = some (179, 1, 2, 21) := by decide +kernel
theorem c203_21 : fx_op 203 21 = some (.if_icmp .ge 61, 24, 82) := by decide +kernel
theorem c203_24 : fx_op 203 24 = some (.aload_n 0, 25, 24) := by decide +kernel
theorem c203_25 : fx_gf 203 25 = some (0, 16, 28) := by decide +kernel
theorem c203_28 : fx_op 203 28 = some (.iload_n 1, 29, 28) := by decide +kernel
theorem c203_29 : fx_op 203 29 = some (.aload_n 0, 30, 29) := by decide +kernel
theorem c203_30 : fx_gf 203 30 = some (0, 7, 33) := by decide +kernel
theorem c203_82 : fx_op 203 82 = some (.aload_n 0, 83, 82) := by decide +kernel
theorem c203_83 : fx_gf 203 83 = some (0, 3, 86) := by decide +kernel
theorem c203_86 : fx_ci 203 86 = some (46, 88) := by decide +kernel
theorem c203_88 : fx_ca 203 88 = some (69, 2, 2, 91) := by decide +kernel
theorem c203_33 : fx_ca 203 33 = some (182, 3, 2, 36) := by decide +kernel
theorem c203_91 : fx_op 203 91 = some (.return_, 92, 91) := by decide +kernel
theorem c203_36 : fx_op 203 36 = some (.ifCond .eq 40, 39, 76) := by decide +kernel
theorem c203_39 : fx_op 203 39 = some (.aload_n 0, 40, 39) := by decide +kernel
theorem c203_40 : fx_gf 203 40 = some (0, 12, 43) := by decide +kernel
theorem c203_43 : fx_op 203 43 = some (.aload_n 0, 44, 43) := by decide +kernel
theorem c203_44 : fx_gf 203 44 = some (0, 7, 47) := by decide +kernel
theorem c203_76 : fx_op 203 76 = some (.iinc 1 1, 79, 76) := by decide +kernel
theorem c203_79 : fx_op 203 79 = some (.goto (-66), 82, 13) := by decide +kernel
theorem c203_47 : fx_ca 203 47 = some (146, 2, 2, 50) := by decide +kernel
theorem c203_50 : fx_op 203 50 = some (.aload_n 0, 51, 50) := by decide +kernel
theorem c203_51 : fx_gf 203 51 = some (0, 12, 54) := by decide +kernel
theorem c203_54 : fx_op 203 54 = some (.aload_n 0, 55, 54) := by decide +kernel
theorem c203_55 : fx_gf 203 55 = some (0, 11, 58) := by decide +kernel
theorem c203_58 : fx_ca 203 58 = some (204, 2, 2, 61) := by decide +kernel
theorem c203_61 : fx_op 203 61 = some (.ifCond .eq 15, 64, 76) := by decide +kernel
theorem c203_64 : fx_op 203 64 = some (.aload_n 0, 65, 64) := by decide +kernel
theorem c203_65 : fx_gf 203 65 = some (0, 16, 68) := by decide +kernel
theorem c203_68 : fx_op 203 68 = some (.iload_n 1, 69, 68) := by decide +kernel
theorem c203_69 : fx_op 203 69 = some (.aload_n 0, 70, 69) := by decide +kernel
theorem c203_70 : fx_gf 203 70 = some (0, 3, 73) := by decide +kernel
theorem c203_73 : fx_ca 203 73 = some (197, 3, 2, 76) := by decide +kernel
theorem s203_0 {kc : List va_E} {d : Nat} {M : fx_M} {Q : Option fx_V → fx_M → Prop} (H : wc kc d 146 [jR 40, jR 11] M (fun v M1 => wp kc (d + 1) 203 11 [some (jR 0), none] (v.toList ++ []) M1 Q)) : wp kc (d + 1) 203 0 [some (jR 0), none] [] M Q :=
  (x_aldn c203_0 rfl (x_gfr c203_1 k_0_11 (x_aldn c203_4 rfl (x_gfr c203_5 k_0_6 (wp_wk (l' := [some (jR 0), none]) ⟨rfl, trivial⟩ (x_cv (As := [jR 11]) (st := []) c203_8 cl_40 kl146 rfl (Nat.le_of_ble_eq_true rfl) mx146 (Nat.le_refl _) H))))))
theorem s203_11 {kc : List va_E} {d : Nat} {M : fx_M} {Q : Option fx_V → fx_M → Prop} (H : wp kc (d + 1) 203 13 [some (jR 0), some (jI 0)] [] M Q) : wp kc (d + 1) 203 11 [some (jR 0), none] [] M Q :=
  (x_ci c203_11 (x_istn (l' := [some (jR 0), some (jI 0)]) c203_12 rfl (wp_wk (l' := [some (jR 0), some (jI 0)]) ⟨rfl, ⟨rfl, trivial⟩⟩ H)))
theorem s203_13 {kc : List va_E} {d : Nat} {v1 : Int} {M : fx_M} {Q : Option fx_V → fx_M → Prop} (H : wc kc d 179 [jR 125] M (fun v M1 => wp kc (d + 1) 203 21 [some (jR 0), some (jI v1)] (v.toList ++ [jI v1]) M1 Q)) : wp kc (d + 1) 203 13 [some (jR 0), some (jI v1)] [] M Q :=
  (x_ildn c203_13 rfl (x_aldn c203_14 rfl (x_gfr c203_15 k_0_16 (wp_wk (l' := [some (jR 0), some (jI v1)]) ⟨rfl, ⟨rfl, trivial⟩⟩ (x_cv (As := []) (st := [jI v1]) c203_18 cl_125 kl179 rfl (Nat.le_of_ble_eq_true rfl) mx179 (Nat.le_refl _) H)))))
theorem s203_21 {kc : List va_E} {d : Nat} {v1 u0 u1 : Int} {M : fx_M} {Q : Option fx_V → fx_M → Prop} (H : ((fx_in32 u1) ∧ (fx_in32 u0)) ∧ (u0 ≤ u1 → wc kc d 69 [jR 3, jI 46] M (fun v M1 => wp kc (d + 1) 203 91 [none, none] (v.toList ++ []) M1 Q)) ∧ (u1 < u0 → wc kc d 182 [jR 125, jI v1, jR 20] M (fun v M1 => wp kc (d + 1) 203 36 [some (jR 0), some (jI v1)] (v.toList ++ []) M1 Q))) : wp kc (d + 1) 203 21 [some (jR 0), some (jI v1)] [jI u0, jI u1] M Q :=
  (x_cge c203_21 H.1.1 H.1.2 (fun h1 => (x_aldn c203_82 rfl (x_gfr c203_83 k_0_3 (x_ci c203_86 (wp_wk (l' := [none, none]) trivial (x_cv (As := [jI 46]) (st := []) c203_88 cl_3 kl69 rfl (Nat.le_of_ble_eq_true rfl) mx69 (Nat.le_refl _) (H.2.1 h1))))))) (fun h2 => (x_aldn c203_24 rfl (x_gfr c203_25 k_0_16 (x_ildn c203_28 rfl (x_aldn c203_29 rfl (x_gfr c203_30 k_0_7 (wp_wk (l' := [some (jR 0), some (jI v1)]) ⟨rfl, ⟨rfl, trivial⟩⟩ (x_cv (As := [jI v1, jR 20]) (st := []) c203_33 cl_125 kl182 rfl (Nat.le_of_ble_eq_true rfl) mx182 (Nat.le_refl _) (H.2.2 h2))))))))))
theorem s203_36 {kc : List va_E} {d : Nat} {v1 u0 : Int} {M : fx_M} {Q : Option fx_V → fx_M → Prop} (H : ((fx_in32 u0)) ∧ (u0 = 0 → wp kc (d + 1) 203 13 [some (jR 0), some (jI (v1 + 1))] [] M Q) ∧ (u0 ≠ 0 → wc kc d 146 [jR 45, jR 20] M (fun v M1 => wp kc (d + 1) 203 50 [some (jR 0), some (jI v1)] (v.toList ++ []) M1 Q))) : wp kc (d + 1) 203 36 [some (jR 0), some (jI v1)] [jI u0] M Q :=
  (x_zeq c203_36 H.1 (fun h1 => (x_inc (l' := [some (jR 0), some (jI (v1 + 1))]) c203_76 rfl rfl (x_goto c203_79 (wp_wk (l' := [some (jR 0), some (jI (v1 + 1))]) ⟨rfl, ⟨rfl, trivial⟩⟩ (H.2.1 h1))))) (fun h2 => (x_aldn c203_39 rfl (x_gfr c203_40 k_0_12 (x_aldn c203_43 rfl (x_gfr c203_44 k_0_7 (wp_wk (l' := [some (jR 0), some (jI v1)]) ⟨rfl, ⟨rfl, trivial⟩⟩ (x_cv (As := [jR 20]) (st := []) c203_47 cl_45 kl146 rfl (Nat.le_of_ble_eq_true rfl) mx146 (Nat.le_refl _) (H.2.2 h2)))))))))
theorem s203_50 {kc : List va_E} {d : Nat} {v1 : Int} {M : fx_M} {Q : Option fx_V → fx_M → Prop} (H : wc kc d 204 [jR 45, jR 40] M (fun v M1 => wp kc (d + 1) 203 61 [some (jR 0), some (jI v1)] (v.toList ++ []) M1 Q)) : wp kc (d + 1) 203 50 [some (jR 0), some (jI v1)] [] M Q :=
  (x_aldn c203_50 rfl (x_gfr c203_51 k_0_12 (x_aldn c203_54 rfl (x_gfr c203_55 k_0_11 (wp_wk (l' := [some (jR 0), some (jI v1)]) ⟨rfl, ⟨rfl, trivial⟩⟩ (x_cv (As := [jR 40]) (st := []) c203_58 cl_45 kl204 rfl (Nat.le_of_ble_eq_true rfl) mx204 (Nat.le_refl _) H))))))
theorem s203_61 {kc : List va_E} {d : Nat} {v1 u0 : Int} {M : fx_M} {Q : Option fx_V → fx_M → Prop} (H : ((fx_in32 u0)) ∧ (u0 = 0 → wp kc (d + 1) 203 13 [some (jR 0), some (jI (v1 + 1))] [] M Q) ∧ (u0 ≠ 0 → wc kc d 197 [jR 125, jI v1, jR 3] M (fun v M1 => wp kc (d + 1) 203 76 [some (jR 0), some (jI v1)] (v.toList ++ []) M1 Q))) : wp kc (d + 1) 203 61 [some (jR 0), some (jI v1)] [jI u0] M Q :=
  (x_zeq c203_61 H.1 (fun h1 => (x_inc (l' := [some (jR 0), some (jI (v1 + 1))]) c203_76 rfl rfl (x_goto c203_79 (wp_wk (l' := [some (jR 0), some (jI (v1 + 1))]) ⟨rfl, ⟨rfl, trivial⟩⟩ (H.2.1 h1))))) (fun h2 => (x_aldn c203_64 rfl (x_gfr c203_65 k_0_16 (x_ildn c203_68 rfl (x_aldn c203_69 rfl (x_gfr c203_70 k_0_3 (wp_wk (l' := [some (jR 0), some (jI v1)]) ⟨rfl, ⟨rfl, trivial⟩⟩ (x_cv (As := [jI v1, jR 3]) (st := []) c203_73 cl_125 kl197 rfl (Nat.le_of_ble_eq_true rfl) mx197 (Nat.le_refl _) (H.2.2 h2))))))))))
theorem s203_76 {kc : List va_E} {d : Nat} {v1 : Int} {M : fx_M} {Q : Option fx_V → fx_M → Prop} (H : wp kc (d + 1) 203 13 [some (jR 0), some (jI (v1 + 1))] [] M Q) : wp kc (d + 1) 203 76 [some (jR 0), some (jI v1)] [] M Q :=
  (x_inc (l' := [some (jR 0), some (jI (v1 + 1))]) c203_76 rfl rfl (x_goto c203_79 (wp_wk (l' := [some (jR 0), some (jI (v1 + 1))]) ⟨rfl, ⟨rfl, trivial⟩⟩ H)))
theorem s203_91 {kc : List va_E} {d : Nat} {M : fx_M} {Q : Option fx_V → fx_M → Prop} (H : Q none M) : wp kc (d + 1) 203 91 [none, none] [] M Q :=
  (x_vr c203_91 r203 H)
theorem s203 {kc : List va_E} {d : Nat} {M : fx_M} {Q : Option fx_V → fx_M → Prop} (H : wc kc d 146 [jR 40, jR 11] M (fun v M1 => wp kc (d + 1) 203 11 [some (jR 0), none] (v.toList ++ []) M1 Q)) : wc kc (d + 1) 203 [jR 0] M Q :=
  wc_of (wp_wk (l' := [some (jR 0), none]) ⟨rfl, trivial⟩ (s203_0 H))

/- PuzzleHouse.answer(I)I -/
theorem c205_0 : fx_op 205 0 = some (.iload_n 1, 1, 0) := by decide +kernel
theorem c205_1 : fx_op 205 1 = some (.ifCond .lt 14, 4, 15) := by decide +kernel
theorem c205_15 : fx_ci 205 15 = some ((-1), 16) := by decide +kernel
theorem c205_4 : fx_op 205 4 = some (.iload_n 1, 5, 4) := by decide +kernel
theorem c205_5 : fx_op 205 5 = some (.aload_n 0, 6, 5) := by decide +kernel
theorem c205_6 : fx_gf 205 6 = some (0, 3, 9) := by decide +kernel
theorem c205_9 : fx_gf 205 9 = some (1, 1, 12) := by decide +kernel
theorem c205_12 : fx_op 205 12 = some (.if_icmp .lt 5, 15, 17) := by decide +kernel
theorem c205_17 : fx_op 205 17 = some (.aload_n 0, 18, 17) := by decide +kernel
theorem c205_18 : fx_gf 205 18 = some (0, 3, 21) := by decide +kernel
theorem c205_21 : fx_gf 205 21 = some (1, 0, 24) := by decide +kernel
theorem c205_24 : fx_op 205 24 = some (.iload_n 1, 25, 24) := by decide +kernel
theorem c205_16 : fx_op 205 16 = some (.ireturn, 17, 16) := by decide +kernel
theorem c205_25 : fx_op 205 25 = some (.caload, 26, 25) := by decide +kernel
theorem c205_26 : fx_op 205 26 = some (.ireturn, 27, 26) := by decide +kernel
theorem s205_0 {kc : List va_E} {d : Nat} {x1 : Int} {M : fx_M} {Q : Option fx_V → fx_M → Prop} (H : ((fx_in32 x1)) ∧ (x1 < 0 → Q (some (jI (-1))) M) ∧ (0 ≤ x1 → ((fx_in32 x1) ∧ (fx_in32 (M 3 1))) ∧ (x1 < M 3 1 → (((0 : Int) ≤ x1 ∧ x1 < 5600)) ∧ Q (some (jI (M 4 x1))) M) ∧ (M 3 1 ≤ x1 → Q (some (jI (-1))) M))) : wp kc (d + 1) 205 0 [some (jR 0), some (jI x1)] [] M Q :=
  (x_ildn c205_0 rfl (x_zlt c205_1 H.1 (fun h3 => (x_ci c205_15 (x_irt c205_16 r205 (H.2.1 h3)))) (fun h4 => (x_ildn c205_4 rfl (x_aldn c205_5 rfl (x_gfr c205_6 k_0_3 (x_gfi c205_9 k_3_1 (x_clt c205_12 (H.2.2 h4).1.1 (H.2.2 h4).1.2 (fun h1 => (x_aldn c205_17 rfl (x_gfr c205_18 k_0_3 (x_gfr c205_21 k_3_0 (x_ildn c205_24 rfl (x_cald c205_25 a_4 ((H.2.2 h4).2.1 h1).1 (by decide) (x_irt c205_26 r205 ((H.2.2 h4).2.1 h1).2))))))) (fun h2 => (x_ci c205_15 (x_irt c205_16 r205 ((H.2.2 h4).2.2 h2))))))))))))
theorem s205 {kc : List va_E} {d : Nat} {x1 : Int} {M : fx_M} {Q : Option fx_V → fx_M → Prop} (H : ((fx_in32 x1)) ∧ (x1 < 0 → Q (some (jI (-1))) M) ∧ (0 ≤ x1 → ((fx_in32 x1) ∧ (fx_in32 (M 3 1))) ∧ (x1 < M 3 1 → (((0 : Int) ≤ x1 ∧ x1 < 5600)) ∧ Q (some (jI (M 4 x1))) M) ∧ (M 3 1 ≤ x1 → Q (some (jI (-1))) M))) : wc kc (d + 1) 205 [jR 0, jI x1] M Q :=
  wc_of (wp_wk (l' := [some (jR 0), some (jI x1)]) ⟨rfl, ⟨rfl, trivial⟩⟩ (s205_0 H))

/- PuzzleHouse.checkAnswer()I -/
theorem c206_0 : fx_op 206 0 = some (.aload_n 0, 1, 0) := by decide +kernel
theorem c206_1 : fx_gf 206 1 = some (0, 4, 4) := by decide +kernel
theorem c206_4 : fx_ca 206 4 = some (63, 1, 2, 7) := by decide +kernel
theorem c206_7 : fx_op 206 7 = some (.aload_n 0, 8, 7) := by decide +kernel
theorem c206_8 : fx_gf 206 8 = some (0, 4, 11) := by decide +kernel
theorem c206_11 : fx_cr 206 11 = some (1000181, 13) := by decide +kernel
theorem c206_13 : fx_ca 206 13 = some (64, 2, 2, 16) := by decide +kernel
theorem c206_16 : fx_op 206 16 = some (.aload_n 0, 17, 16) := by decide +kernel
theorem c206_17 : fx_gf 206 17 = some (0, 4, 20) := by decide +kernel
theorem c206_20 : fx_gf 206 20 = some (1, 0, 23) := by decide +kernel
theorem c206_23 : fx_ci 206 23 = some (0, 24) := by decide +kernel
theorem c206_24 : fx_op 206 24 = some (.aload_n 0, 25, 24) := by decide +kernel
theorem c206_25 : fx_gf 206 25 = some (0, 2, 28) := by decide +kernel
theorem c206_28 : fx_ci 206 28 = some (0, 29) := by decide +kernel
theorem c206_29 : fx_op 206 29 = some (.aload_n 0, 30, 29) := by decide +kernel
theorem c206_30 : fx_gf 206 30 = some (0, 4, 33) := by decide +kernel
theorem c206_33 : fx_gf 206 33 = some (1, 1, 36) := by decide +kernel
theorem c206_39 : fx_op 206 39 = some (.aload_n 0, 40, 39) := by decide +kernel
theorem c206_40 : fx_gf 206 40 = some (0, 3, 43) := by decide +kernel
theorem c206_43 : fx_gf 206 43 = some (1, 0, 46) := by decide +kernel
theorem c206_46 : fx_ci 206 46 = some (0, 47) := by decide +kernel
theorem c206_47 : fx_op 206 47 = some (.aload_n 0, 48, 47) := by decide +kernel
theorem c206_48 : fx_gf 206 48 = some (0, 2, 51) := by decide +kernel
theorem c206_51 : fx_op 206 51 = some (.aload_n 0, 52, 51) := by decide +kernel
theorem c206_52 : fx_gf 206 52 = some (0, 4, 55) := by decide +kernel
theorem c206_55 : fx_gf 206 55 = some (1, 1, 58) := by decide +kernel
theorem c206_58 : fx_op 206 58 = some (.aload_n 0, 59, 58) := by decide +kernel
theorem c206_59 : fx_gf 206 59 = some (0, 3, 62) := by decide +kernel
theorem c206_62 : fx_gf 206 62 = some (1, 1, 65) := by decide +kernel
theorem c206_68 : fx_op 206 68 = some (.aload_n 0, 69, 68) := by decide +kernel
theorem c206_69 : fx_op 206 69 = some (.aload_n 0, 70, 69) := by decide +kernel
theorem c206_70 : fx_gf 206 70 = some (0, 4, 73) := by decide +kernel
theorem c206_73 : fx_gf 206 73 = some (1, 1, 76) := by decide +kernel
theorem c206_76 : fx_op 206 76 = some (.aload_n 0, 77, 76) := by decide +kernel
theorem c206_77 : fx_gf 206 77 = some (0, 3, 80) := by decide +kernel
theorem c206_80 : fx_gf 206 80 = some (1, 1, 83) := by decide +kernel
theorem c206_83 : fx_op 206 83 = some (.iadd, 84, 83) := by decide +kernel
theorem c206_36 : fx_nt 206 36 = some (0, 39) := by decide +kernel
theorem c206_65 : fx_nt 206 65 = some (0, 68) := by decide +kernel
theorem c206_84 : fx_ca 206 84 = some (17, 2, 2, 87) := by decide +kernel
theorem c206_87 : fx_op 206 87 = some (.aload_n 0, 88, 87) := by decide +kernel
theorem c206_88 : fx_gf 206 88 = some (0, 3, 91) := by decide +kernel
theorem c206_91 : fx_gf 206 91 = some (1, 1, 94) := by decide +kernel
theorem c206_94 : fx_op 206 94 = some (.ireturn, 95, 94) := by decide +kernel
theorem n206_36 : xS 206 ((xI 206 36).getD .nop) = none := by decide +kernel
theorem n206_65 : xS 206 ((xI 206 65).getD .nop) = none := by decide +kernel
theorem s206_0 {kc : List va_E} {d : Nat} {M : fx_M} {Q : Option fx_V → fx_M → Prop} (H : wc kc d 63 [jR 5] M (fun v M1 => wp kc (d + 1) 206 7 [some (jR 0)] (v.toList ++ []) M1 Q)) : wp kc (d + 1) 206 0 [some (jR 0)] [] M Q :=
  (x_aldn c206_0 rfl (x_gfr c206_1 k_0_4 (wp_wk (l' := [some (jR 0)]) ⟨rfl, trivial⟩ (x_cv (As := []) (st := []) c206_4 cl_5 kl63 rfl (Nat.le_of_ble_eq_true rfl) mx63 (Nat.le_refl _) H))))
theorem s206_7 {kc : List va_E} {d : Nat} {M : fx_M} {Q : Option fx_V → fx_M → Prop} (H : wc kc d 64 [jR 5, jR 1000181] M (fun v M1 => wp kc (d + 1) 206 16 [some (jR 0)] (v.toList ++ []) M1 Q)) : wp kc (d + 1) 206 7 [some (jR 0)] [] M Q :=
  (x_aldn c206_7 rfl (x_gfr c206_8 k_0_4 (x_cr c206_11 (wp_wk (l' := [some (jR 0)]) ⟨rfl, trivial⟩ (x_cv (As := [jR 1000181]) (st := []) c206_13 cl_5 kl64 rfl (Nat.le_of_ble_eq_true rfl) mx64 (Nat.le_refl _) H)))))
theorem s206_16 {kc : List va_E} {d : Nat} {M : fx_M} {Q : Option fx_V → fx_M → Prop} (H : (((0 : Int) ≤ M 5 1 ∧ (0 : Int) ≤ 0 ∧ (0 : Int) ≤ 0 ∧ (0 : Int) + M 5 1 ≤ 512 ∧ (0 : Int) + M 5 1 ≤ 5606)) ∧ (((0 : Int) ≤ (fx_cpy M 6 0 2 0 (M 5 1)) 3 1 ∧ (0 : Int) ≤ 0 ∧ (0 : Int) ≤ (fx_cpy M 6 0 2 0 (M 5 1)) 5 1 ∧ (0 : Int) + (fx_cpy M 6 0 2 0 (M 5 1)) 3 1 ≤ 5600 ∧ ((fx_cpy M 6 0 2 0 (M 5 1)) 5 1 : Int) + (fx_cpy M 6 0 2 0 (M 5 1)) 3 1 ≤ 5606)) ∧ wc kc d 17 [jR 0, jI (((fx_cpy (fx_cpy M 6 0 2 0 (M 5 1)) 4 0 2 ((fx_cpy M 6 0 2 0 (M 5 1)) 5 1) ((fx_cpy M 6 0 2 0 (M 5 1)) 3 1)) 5 1) + ((fx_cpy (fx_cpy M 6 0 2 0 (M 5 1)) 4 0 2 ((fx_cpy M 6 0 2 0 (M 5 1)) 5 1) ((fx_cpy M 6 0 2 0 (M 5 1)) 3 1)) 3 1))] (fx_cpy (fx_cpy M 6 0 2 0 (M 5 1)) 4 0 2 ((fx_cpy M 6 0 2 0 (M 5 1)) 5 1) ((fx_cpy M 6 0 2 0 (M 5 1)) 3 1)) (fun v M1 => wp kc (d + 1) 206 87 [some (jR 0)] (v.toList ++ []) M1 Q)) : wp kc (d + 1) 206 16 [some (jR 0)] [] M Q :=
  (x_aldn c206_16 rfl (x_gfr c206_17 k_0_4 (x_gfr c206_20 k_5_0 (x_ci c206_23 (x_aldn c206_24 rfl (x_gfr c206_25 k_0_2 (x_ci c206_28 (x_aldn c206_29 rfl (x_gfr c206_30 k_0_4 (x_gfi c206_33 k_5_1 (x_cpy c206_36 n206_36 a_6 a_2 (by decide) H.1 ⟨(by decide), (by decide)⟩ (Nat.le_of_ble_eq_true rfl) (x_aldn c206_39 rfl (x_gfr c206_40 k_0_3 (x_gfr c206_43 k_3_0 (x_ci c206_46 (x_aldn c206_47 rfl (x_gfr c206_48 k_0_2 (x_aldn c206_51 rfl (x_gfr c206_52 k_0_4 (x_gfi c206_55 k_5_1 (x_aldn c206_58 rfl (x_gfr c206_59 k_0_3 (x_gfi c206_62 k_3_1 (x_cpy c206_65 n206_65 a_4 a_2 (by decide) H.2.1 ⟨(by decide), (by decide)⟩ (Nat.le_of_ble_eq_true rfl) (x_aldn c206_68 rfl (x_aldn c206_69 rfl (x_gfr c206_70 k_0_4 (x_gfi c206_73 k_5_1 (x_aldn c206_76 rfl (x_gfr c206_77 k_0_3 (x_gfi c206_80 k_3_1 (x_iadd c206_83 (wp_wk (l' := [some (jR 0)]) ⟨rfl, trivial⟩ (x_cv (As := [jI (((fx_cpy (fx_cpy M 6 0 2 0 (M 5 1)) 4 0 2 ((fx_cpy M 6 0 2 0 (M 5 1)) 5 1) ((fx_cpy M 6 0 2 0 (M 5 1)) 3 1)) 5 1) + ((fx_cpy (fx_cpy M 6 0 2 0 (M 5 1)) 4 0 2 ((fx_cpy M 6 0 2 0 (M 5 1)) 5 1) ((fx_cpy M 6 0 2 0 (M 5 1)) 3 1)) 3 1))]) (st := []) c206_84 cl_0 kl17 rfl (Nat.le_of_ble_eq_true rfl) mx17 (Nat.le_refl _) H.2.2))))))))))))))))))))))))))))))))))
theorem s206_87 {kc : List va_E} {d : Nat} {M : fx_M} {Q : Option fx_V → fx_M → Prop} (H : Q (some (jI (M 3 1))) M) : wp kc (d + 1) 206 87 [some (jR 0)] [] M Q :=
  (x_aldn c206_87 rfl (x_gfr c206_88 k_0_3 (x_gfi c206_91 k_3_1 (x_irt c206_94 r206 H))))
theorem s206 {kc : List va_E} {d : Nat} {M : fx_M} {Q : Option fx_V → fx_M → Prop} (H : wc kc d 63 [jR 5] M (fun v M1 => wp kc (d + 1) 206 7 [some (jR 0)] (v.toList ++ []) M1 Q)) : wc kc (d + 1) 206 [jR 0] M Q :=
  wc_of (wp_wk (l' := [some (jR 0)]) ⟨rfl, trivial⟩ (s206_0 H))

/- PuzzleHouse.state(I)I -/
theorem c207_0 : fx_op 207 0 = some (.iload_n 1, 1, 0) := by decide +kernel
theorem c207_56 : fx_op 207 56 = some (.aload_n 0, 57, 56) := by decide +kernel
theorem c207_57 : fx_gf 207 57 = some (0, 6, 60) := by decide +kernel
theorem c207_60 : fx_gf 207 60 = some (3, 4, 63) := by decide +kernel
theorem c207_64 : fx_op 207 64 = some (.aload_n 0, 65, 64) := by decide +kernel
theorem c207_65 : fx_gf 207 65 = some (0, 6, 68) := by decide +kernel
theorem c207_72 : fx_op 207 72 = some (.aload_n 0, 73, 72) := by decide +kernel
theorem c207_73 : fx_gf 207 73 = some (0, 6, 76) := by decide +kernel
theorem c207_76 : fx_gf 207 76 = some (3, 2, 79) := by decide +kernel
theorem c207_80 : fx_op 207 80 = some (.aload_n 0, 81, 80) := by decide +kernel
theorem c207_81 : fx_gf 207 81 = some (0, 6, 84) := by decide +kernel
theorem c207_84 : fx_gf 207 84 = some (3, 3, 87) := by decide +kernel
theorem c207_88 : fx_op 207 88 = some (.aload_n 0, 89, 88) := by decide +kernel
theorem c207_89 : fx_gf 207 89 = some (0, 14, 92) := by decide +kernel
theorem c207_96 : fx_op 207 96 = some (.aload_n 0, 97, 96) := by decide +kernel
theorem c207_97 : fx_gf 207 97 = some (0, 16, 100) := by decide +kernel
theorem c207_100 : fx_gf 207 100 = some (11, 1, 103) := by decide +kernel
theorem c207_103 : fx_op 207 103 = some (.ifCond .eq 13, 106, 116) := by decide +kernel
theorem c207_116 : fx_ci 207 116 = some ((-1), 117) := by decide +kernel
theorem c207_106 : fx_op 207 106 = some (.aload_n 0, 107, 106) := by decide +kernel
theorem c207_107 : fx_gf 207 107 = some (0, 16, 110) := by decide +kernel
theorem c207_118 : fx_op 207 118 = some (.aload_n 0, 119, 118) := by decide +kernel
theorem c207_119 : fx_gf 207 119 = some (0, 1, 122) := by decide +kernel
theorem c207_123 : fx_op 207 123 = some (.aload_n 0, 124, 123) := by decide +kernel
theorem c207_124 : fx_gf 207 124 = some (0, 3, 127) := by decide +kernel
theorem c207_127 : fx_gf 207 127 = some (1, 1, 130) := by decide +kernel
theorem c207_131 : fx_op 207 131 = some (.aload_n 0, 132, 131) := by decide +kernel
theorem c207_132 : fx_gf 207 132 = some (0, 14, 135) := by decide +kernel
theorem c207_135 : fx_gf 207 135 = some (9, 0, 138) := by decide +kernel
theorem c207_139 : fx_op 207 139 = some (.aload_n 0, 140, 139) := by decide +kernel
theorem c207_140 : fx_gf 207 140 = some (0, 15, 143) := by decide +kernel
theorem c207_143 : fx_gf 207 143 = some (10, 0, 146) := by decide +kernel
theorem c207_147 : fx_ci 207 147 = some ((-1), 148) := by decide +kernel
theorem c207_63 : fx_op 207 63 = some (.ireturn, 64, 63) := by decide +kernel
theorem c207_68 : fx_ca 207 68 = some (97, 1, 2, 71) := by decide +kernel
theorem c207_79 : fx_op 207 79 = some (.ireturn, 80, 79) := by decide +kernel
theorem c207_87 : fx_op 207 87 = some (.ireturn, 88, 87) := by decide +kernel
theorem c207_92 : fx_ca 207 92 = some (208, 1, 2, 95) := by decide +kernel
theorem c207_117 : fx_op 207 117 = some (.ireturn, 118, 117) := by decide +kernel
theorem c207_110 : fx_ca 207 110 = some (179, 1, 2, 113) := by decide +kernel
theorem c207_122 : fx_op 207 122 = some (.ireturn, 123, 122) := by decide +kernel
theorem c207_130 : fx_op 207 130 = some (.ireturn, 131, 130) := by decide +kernel
theorem c207_138 : fx_op 207 138 = some (.ireturn, 139, 138) := by decide +kernel
theorem c207_146 : fx_op 207 146 = some (.ireturn, 147, 146) := by decide +kernel
theorem c207_1 : fx_ts 207 1 = some (0, [56, 64, 72, 80, 88, 96, 118, 123, 131, 139], 147) := by decide +kernel
theorem c207_148 : fx_op 207 148 = some (.ireturn, 149, 148) := by decide +kernel
theorem c207_71 : fx_op 207 71 = some (.ireturn, 72, 71) := by decide +kernel
theorem c207_95 : fx_op 207 95 = some (.ireturn, 96, 95) := by decide +kernel
theorem c207_113 : fx_op 207 113 = some (.goto 4, 116, 117) := by decide +kernel
theorem s207_0 {kc : List va_E} {d : Nat} {x1 : Int} {M : fx_M} {Q : Option fx_V → fx_M → Prop} (H : fx_in32 x1 ∧ (x1 = 0 → Q (some (jI (M 11 4))) M) ∧ (x1 = 1 → wc kc d 97 [jR 11] M (fun v M1 => wp kc (d + 1) 207 71 [none, none] (v.toList ++ []) M1 Q)) ∧ (x1 = 2 → Q (some (jI (M 11 2))) M) ∧ (x1 = 3 → Q (some (jI (M 11 3))) M) ∧ (x1 = 4 → wc kc d 208 [jR 53] M (fun v M1 => wp kc (d + 1) 207 95 [none, none] (v.toList ++ []) M1 Q)) ∧ (x1 = 5 → ((fx_in32 (M 125 1))) ∧ (M 125 1 = 0 → Q (some (jI (-1))) M) ∧ (M 125 1 ≠ 0 → wc kc d 179 [jR 125] M (fun v M1 => wp kc (d + 1) 207 113 [none, none] (v.toList ++ []) M1 Q))) ∧ (x1 = 6 → Q (some (jI (M 0 1))) M) ∧ (x1 = 7 → Q (some (jI (M 3 1))) M) ∧ (x1 = 8 → Q (some (jI (M 53 0))) M) ∧ (x1 = 9 → Q (some (jI (M 62 0))) M) ∧ ((x1 < 0 ∨ 10 ≤ x1) → Q (some (jI (-1))) M)) : wp kc (d + 1) 207 0 [some (jR 0), some (jI x1)] [] M Q :=
  (x_ildn c207_0 rfl (x_sw c207_1 H.1 ⟨fun h3 => (x_aldn c207_56 rfl (x_gfr c207_57 k_0_6 (x_gfi c207_60 k_11_4 (x_irt c207_63 r207 (H.2.1 h3))))), ⟨fun h4 => (x_aldn c207_64 rfl (x_gfr c207_65 k_0_6 (wp_wk (l' := [none, none]) trivial (x_cv (As := []) (st := []) c207_68 cl_11 kl97 rfl (Nat.le_of_ble_eq_true rfl) mx97 (Nat.le_refl _) (H.2.2.1 h4))))), ⟨fun h5 => (x_aldn c207_72 rfl (x_gfr c207_73 k_0_6 (x_gfi c207_76 k_11_2 (x_irt c207_79 r207 (H.2.2.2.1 h5))))), ⟨fun h6 => (x_aldn c207_80 rfl (x_gfr c207_81 k_0_6 (x_gfi c207_84 k_11_3 (x_irt c207_87 r207 (H.2.2.2.2.1 h6))))), ⟨fun h7 => (x_aldn c207_88 rfl (x_gfr c207_89 k_0_14 (wp_wk (l' := [none, none]) trivial (x_cv (As := []) (st := []) c207_92 cl_53 kl208 rfl (Nat.le_of_ble_eq_true rfl) mx208 (Nat.le_refl _) (H.2.2.2.2.2.1 h7))))), ⟨fun h8 => (x_aldn c207_96 rfl (x_gfr c207_97 k_0_16 (x_gfi c207_100 k_125_1 (x_zeq c207_103 (H.2.2.2.2.2.2.1 h8).1 (fun h1 => (x_ci c207_116 (x_irt c207_117 r207 ((H.2.2.2.2.2.2.1 h8).2.1 h1)))) (fun h2 => (x_aldn c207_106 rfl (x_gfr c207_107 k_0_16 (wp_wk (l' := [none, none]) trivial (x_cv (As := []) (st := []) c207_110 cl_125 kl179 rfl (Nat.le_of_ble_eq_true rfl) mx179 (Nat.le_refl _) ((H.2.2.2.2.2.2.1 h8).2.2 h2)))))))))), ⟨fun h9 => (x_aldn c207_118 rfl (x_gfi c207_119 k_0_1 (x_irt c207_122 r207 (H.2.2.2.2.2.2.2.1 h9)))), ⟨fun h10 => (x_aldn c207_123 rfl (x_gfr c207_124 k_0_3 (x_gfi c207_127 k_3_1 (x_irt c207_130 r207 (H.2.2.2.2.2.2.2.2.1 h10))))), ⟨fun h11 => (x_aldn c207_131 rfl (x_gfr c207_132 k_0_14 (x_gfi c207_135 k_53_0 (x_irt c207_138 r207 (H.2.2.2.2.2.2.2.2.2.1 h11))))), ⟨fun h12 => (x_aldn c207_139 rfl (x_gfr c207_140 k_0_15 (x_gfi c207_143 k_62_0 (x_irt c207_146 r207 (H.2.2.2.2.2.2.2.2.2.2.1 h12))))), trivial⟩⟩⟩⟩⟩⟩⟩⟩⟩⟩ (fun h13 => (x_ci c207_147 (x_irt c207_148 r207 (H.2.2.2.2.2.2.2.2.2.2.2 h13))))))
theorem s207_71 {kc : List va_E} {d : Nat} {u0 : Int} {M : fx_M} {Q : Option fx_V → fx_M → Prop} (H : Q (some (jI u0)) M) : wp kc (d + 1) 207 71 [none, none] [jI u0] M Q :=
  (x_irt c207_71 r207 H)
theorem s207_95 {kc : List va_E} {d : Nat} {u0 : Int} {M : fx_M} {Q : Option fx_V → fx_M → Prop} (H : Q (some (jI u0)) M) : wp kc (d + 1) 207 95 [none, none] [jI u0] M Q :=
  (x_irt c207_95 r207 H)
theorem s207_113 {kc : List va_E} {d : Nat} {u0 : Int} {M : fx_M} {Q : Option fx_V → fx_M → Prop} (H : Q (some (jI u0)) M) : wp kc (d + 1) 207 113 [none, none] [jI u0] M Q :=
  (x_goto c207_113 (x_irt c207_117 r207 H))
theorem s207 {kc : List va_E} {d : Nat} {x1 : Int} {M : fx_M} {Q : Option fx_V → fx_M → Prop} (H : fx_in32 x1 ∧ (x1 = 0 → Q (some (jI (M 11 4))) M) ∧ (x1 = 1 → wc kc d 97 [jR 11] M (fun v M1 => wp kc (d + 1) 207 71 [none, none] (v.toList ++ []) M1 Q)) ∧ (x1 = 2 → Q (some (jI (M 11 2))) M) ∧ (x1 = 3 → Q (some (jI (M 11 3))) M) ∧ (x1 = 4 → wc kc d 208 [jR 53] M (fun v M1 => wp kc (d + 1) 207 95 [none, none] (v.toList ++ []) M1 Q)) ∧ (x1 = 5 → ((fx_in32 (M 125 1))) ∧ (M 125 1 = 0 → Q (some (jI (-1))) M) ∧ (M 125 1 ≠ 0 → wc kc d 179 [jR 125] M (fun v M1 => wp kc (d + 1) 207 113 [none, none] (v.toList ++ []) M1 Q))) ∧ (x1 = 6 → Q (some (jI (M 0 1))) M) ∧ (x1 = 7 → Q (some (jI (M 3 1))) M) ∧ (x1 = 8 → Q (some (jI (M 53 0))) M) ∧ (x1 = 9 → Q (some (jI (M 62 0))) M) ∧ ((x1 < 0 ∨ 10 ≤ x1) → Q (some (jI (-1))) M)) : wc kc (d + 1) 207 [jR 0, jI x1] M Q :=
  wc_of (wp_wk (l' := [some (jR 0), some (jI x1)]) ⟨rfl, ⟨rfl, trivial⟩⟩ (s207_0 H))

/- PuzzleHouse.byteAt(II)I -/
theorem c209_0 : fx_op 209 0 = some (.iload_n 1, 1, 0) := by decide +kernel
theorem c209_1 : fx_op 209 1 = some (.iload_n 2, 2, 1) := by decide +kernel
theorem c209_2 : fx_ca 209 2 = some (210, 2, 0, 5) := by decide +kernel
theorem c209_5 : fx_op 209 5 = some (.ifCond .eq 20, 8, 25) := by decide +kernel
theorem c209_25 : fx_ci 209 25 = some ((-1), 26) := by decide +kernel
theorem c209_8 : fx_op 209 8 = some (.aload_n 0, 9, 8) := by decide +kernel
theorem c209_9 : fx_gf 209 9 = some (0, 16, 12) := by decide +kernel
theorem c209_12 : fx_gf 209 12 = some (11, 0, 15) := by decide +kernel
theorem c209_15 : fx_ci 209 15 = some (32, 17) := by decide +kernel
theorem c209_17 : fx_op 209 17 = some (.iload_n 1, 18, 17) := by decide +kernel
theorem c209_18 : fx_op 209 18 = some (.imul, 19, 18) := by decide +kernel
theorem c209_19 : fx_op 209 19 = some (.iload_n 2, 20, 19) := by decide +kernel
theorem c209_20 : fx_op 209 20 = some (.iadd, 21, 20) := by decide +kernel
theorem c209_21 : fx_op 209 21 = some (.caload, 22, 21) := by decide +kernel
theorem c209_22 : fx_op 209 22 = some (.goto 4, 25, 26) := by decide +kernel
theorem c209_26 : fx_op 209 26 = some (.ireturn, 27, 26) := by decide +kernel
theorem s209_0 {kc : List va_E} {d : Nat} {x1 x2 : Int} {M : fx_M} {Q : Option fx_V → fx_M → Prop} (H : wc kc d 210 [jI x1, jI x2] M (fun v M1 => wp kc (d + 1) 209 5 [some (jR 0), some (jI x1), some (jI x2)] (v.toList ++ []) M1 Q)) : wp kc (d + 1) 209 0 [some (jR 0), some (jI x1), some (jI x2)] [] M Q :=
  (x_ildn c209_0 rfl (x_ildn c209_1 rfl (wp_wk (l' := [some (jR 0), some (jI x1), some (jI x2)]) ⟨rfl, ⟨rfl, ⟨rfl, trivial⟩⟩⟩ (x_cs (As := [jI x1, jI x2]) (st := []) c209_2 (by decide) rfl (Nat.le_of_ble_eq_true rfl) mx210 (Nat.le_refl _) H))))
theorem s209_5 {kc : List va_E} {d : Nat} {v1 v2 u0 : Int} {M : fx_M} {Q : Option fx_V → fx_M → Prop} (H : ((fx_in32 u0)) ∧ (u0 ≠ 0 → ((((0 : Int) ≤ (32 * v1) + v2 ∧ (32 * v1) + v2 < 1024)))) ∧ Q (some (jI (if u0 = 0 then ((-1) : Int) else M 126 ((32 * v1) + v2)))) M) : wp kc (d + 1) 209 5 [some (jR 0), some (jI v1), some (jI v2)] [jI u0] M Q :=
  (have K : wp kc (d + 1) 209 26 [none, none, none] [jI (if u0 = 0 then ((-1) : Int) else M 126 ((32 * v1) + v2))] M Q := (x_irt c209_26 r209 H.2.2); (x_zeq c209_5 H.1 (fun (h1 : u0 = 0) => (x_ci c209_25 (wp_wk (l' := [none, none, none]) trivial (by have K := K; first | (simp only [if_pos h1] at K ⊢; exact K) | (exfalso; omega))))) (fun (h2 : u0 ≠ 0) => (x_aldn c209_8 rfl (x_gfr c209_9 k_0_16 (x_gfr c209_12 k_125_0 (x_ci c209_15 (x_ildn c209_17 rfl (x_imul c209_18 (x_ildn c209_19 rfl (x_iadd c209_20 (x_cald c209_21 a_126 (H.2.1 h2) (by decide) (x_goto c209_22 (wp_wk (l' := [none, none, none]) trivial (by have K := K; first | (simp only [if_neg h2] at K ⊢; exact K) | (exfalso; omega))))))))))))))))
theorem s209 {kc : List va_E} {d : Nat} {x1 x2 : Int} {M : fx_M} {Q : Option fx_V → fx_M → Prop} (H : wc kc d 210 [jI x1, jI x2] M (fun v M1 => wp kc (d + 1) 209 5 [some (jR 0), some (jI x1), some (jI x2)] (v.toList ++ []) M1 Q)) : wc kc (d + 1) 209 [jR 0, jI x1, jI x2] M Q :=
  wc_of (wp_wk (l' := [some (jR 0), some (jI x1), some (jI x2)]) ⟨rfl, ⟨rfl, ⟨rfl, trivial⟩⟩⟩ (s209_0 H))

/- PuzzleHouse.poke(III)Z -/
theorem c211_0 : fx_op 211 0 = some (.iload_n 1, 1, 0) := by decide +kernel
theorem c211_1 : fx_op 211 1 = some (.iload_n 2, 2, 1) := by decide +kernel
theorem c211_2 : fx_ca 211 2 = some (210, 2, 0, 5) := by decide +kernel
theorem c211_5 : fx_op 211 5 = some (.ifCond .eq 15, 8, 20) := by decide +kernel
theorem c211_20 : fx_ci 211 20 = some (0, 21) := by decide +kernel
theorem c211_8 : fx_op 211 8 = some (.iload_n 3, 9, 8) := by decide +kernel
theorem c211_9 : fx_ci 211 9 = some (1, 10) := by decide +kernel
theorem c211_10 : fx_op 211 10 = some (.if_icmp .lt 10, 13, 20) := by decide +kernel
theorem c211_13 : fx_op 211 13 = some (.iload_n 3, 14, 13) := by decide +kernel
theorem c211_14 : fx_ci 211 14 = some (255, 17) := by decide +kernel
theorem c211_17 : fx_op 211 17 = some (.if_icmp .le 5, 20, 22) := by decide +kernel
theorem c211_22 : fx_op 211 22 = some (.aload_n 0, 23, 22) := by decide +kernel
theorem c211_23 : fx_gf 211 23 = some (0, 16, 26) := by decide +kernel
theorem c211_26 : fx_ci 211 26 = some (32, 28) := by decide +kernel
theorem c211_28 : fx_op 211 28 = some (.iload_n 1, 29, 28) := by decide +kernel
theorem c211_29 : fx_op 211 29 = some (.imul, 30, 29) := by decide +kernel
theorem c211_30 : fx_op 211 30 = some (.iload_n 2, 31, 30) := by decide +kernel
theorem c211_31 : fx_op 211 31 = some (.iadd, 32, 31) := by decide +kernel
theorem c211_32 : fx_op 211 32 = some (.iload_n 3, 33, 32) := by decide +kernel
theorem c211_21 : fx_op 211 21 = some (.ireturn, 22, 21) := by decide +kernel
theorem c211_33 : fx_ca 211 33 = some (212, 3, 2, 36) := by decide +kernel
theorem c211_36 : fx_ci 211 36 = some (1, 37) := by decide +kernel
theorem c211_37 : fx_op 211 37 = some (.ireturn, 38, 37) := by decide +kernel
theorem s211_0 {kc : List va_E} {d : Nat} {x1 x2 x3 : Int} {M : fx_M} {Q : Option fx_V → fx_M → Prop} (H : wc kc d 210 [jI x1, jI x2] M (fun v M1 => wp kc (d + 1) 211 5 [some (jR 0), some (jI x1), some (jI x2), some (jI x3)] (v.toList ++ []) M1 Q)) : wp kc (d + 1) 211 0 [some (jR 0), some (jI x1), some (jI x2), some (jI x3)] [] M Q :=
  (x_ildn c211_0 rfl (x_ildn c211_1 rfl (wp_wk (l' := [some (jR 0), some (jI x1), some (jI x2), some (jI x3)]) ⟨rfl, ⟨rfl, ⟨rfl, ⟨rfl, trivial⟩⟩⟩⟩ (x_cs (As := [jI x1, jI x2]) (st := []) c211_2 (by decide) rfl (Nat.le_of_ble_eq_true rfl) mx210 (Nat.le_refl _) H))))
theorem s211_5 {kc : List va_E} {d : Nat} {v1 v2 v3 u0 : Int} {M : fx_M} {Q : Option fx_V → fx_M → Prop} (H : ((fx_in32 u0)) ∧ (u0 = 0 → Q (some (jI 0)) M) ∧ (u0 ≠ 0 → ((fx_in32 v3)) ∧ (v3 < 1 → Q (some (jI 0)) M) ∧ (1 ≤ v3 → ((fx_in32 v3)) ∧ (v3 ≤ 255 → wc kc d 212 [jR 125, jI ((32 * v1) + v2), jI v3] M (fun v M1 => wp kc (d + 1) 211 36 [none, none, none, none] (v.toList ++ []) M1 Q)) ∧ (255 < v3 → Q (some (jI 0)) M)))) : wp kc (d + 1) 211 5 [some (jR 0), some (jI v1), some (jI v2), some (jI v3)] [jI u0] M Q :=
  (x_zeq c211_5 H.1 (fun h5 => (x_ci c211_20 (x_zrt c211_21 r211 (by decide) (H.2.1 h5)))) (fun h6 => (x_ildn c211_8 rfl (x_ci c211_9 (x_clt c211_10 (H.2.2 h6).1 (by decide) (fun h3 => (x_ci c211_20 (x_zrt c211_21 r211 (by decide) ((H.2.2 h6).2.1 h3)))) (fun h4 => (x_ildn c211_13 rfl (x_ci c211_14 (x_cle c211_17 ((H.2.2 h6).2.2 h4).1 (by decide) (fun h1 => (x_aldn c211_22 rfl (x_gfr c211_23 k_0_16 (x_ci c211_26 (x_ildn c211_28 rfl (x_imul c211_29 (x_ildn c211_30 rfl (x_iadd c211_31 (x_ildn c211_32 rfl (wp_wk (l' := [none, none, none, none]) trivial (x_cv (As := [jI ((32 * v1) + v2), jI v3]) (st := []) c211_33 cl_125 kl212 rfl (Nat.le_of_ble_eq_true rfl) mx212 (Nat.le_refl _) (((H.2.2 h6).2.2 h4).2.1 h1)))))))))))) (fun h2 => (x_ci c211_20 (x_zrt c211_21 r211 (by decide) (((H.2.2 h6).2.2 h4).2.2 h2)))))))))))))
theorem s211_36 {kc : List va_E} {d : Nat} {M : fx_M} {Q : Option fx_V → fx_M → Prop} (H : Q (some (jI 1)) M) : wp kc (d + 1) 211 36 [none, none, none, none] [] M Q :=
  (x_ci c211_36 (x_zrt c211_37 r211 (by decide) H))
theorem s211 {kc : List va_E} {d : Nat} {x1 x2 x3 : Int} {M : fx_M} {Q : Option fx_V → fx_M → Prop} (H : wc kc d 210 [jI x1, jI x2] M (fun v M1 => wp kc (d + 1) 211 5 [some (jR 0), some (jI x1), some (jI x2), some (jI x3)] (v.toList ++ []) M1 Q)) : wc kc (d + 1) 211 [jR 0, jI x1, jI x2, jI x3] M Q :=
  wc_of (wp_wk (l' := [some (jR 0), some (jI x1), some (jI x2), some (jI x3)]) ⟨rfl, ⟨rfl, ⟨rfl, ⟨rfl, trivial⟩⟩⟩⟩ (s211_0 H))
