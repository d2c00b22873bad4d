/-! SEGMENTS of the model, 5 (by gen/emit_segs.py) -/
/- PuzzleHouseModel.sayWrong()V -/
theorem c331_0 : fx_op 331 0 = some (.aload_n 0, 1, 0) := by decide +kernel
theorem c331_1 : fx_ci 331 1 = some (2, 2) := by decide +kernel
theorem c331_2 : fx_ca 331 2 = some (268, 2, 2, 5) := by decide +kernel
theorem c331_5 : fx_ci 331 5 = some (1, 6) := by decide +kernel
theorem c331_6 : fx_op 331 6 = some (.if_icmp .eq 8, 9, 14) := by decide +kernel
theorem c331_14 : fx_op 331 14 = some (.aload_n 0, 15, 14) := by decide +kernel
theorem c331_15 : fx_ci 331 15 = some (1, 16) := by decide +kernel
theorem c331_9 : fx_op 331 9 = some (.aload_n 0, 10, 9) := by decide +kernel
theorem c331_16 : fx_ca 331 16 = some (269, 2, 2, 19) := by decide +kernel
theorem c331_10 : fx_ca 331 10 = some (279, 1, 2, 13) := by decide +kernel
theorem c331_19 : fx_op 331 19 = some (.pop, 20, 19) := by decide +kernel
theorem c331_20 : fx_ci 331 20 = some (0, 21) := by decide +kernel
theorem c331_21 : fx_op 331 21 = some (.istore_n 1, 22, 21) := by decide +kernel
theorem c331_22 : fx_ci 331 22 = some (0, 23) := by decide +kernel
theorem c331_23 : fx_op 331 23 = some (.istore_n 2, 24, 23) := by decide +kernel
theorem c331_13 : fx_op 331 13 = some (.return_, 14, 13) := by decide +kernel
theorem c331_24 : fx_op 331 24 = some (.iload_n 2, 25, 24) := by decide +kernel
theorem c331_25 : fx_op 331 25 = some (.aload_n 0, 26, 25) := by decide +kernel
theorem c331_26 : fx_ca 331 26 = some (248, 1, 2, 29) := by decide +kernel
theorem c331_29 : fx_op 331 29 = some (.if_icmp .ge 65, 32, 94) := by decide +kernel
theorem c331_32 : fx_op 331 32 = some (.iload_n 1, 33, 32) := by decide +kernel
theorem c331_33 : fx_op 331 33 = some (.aload_n 0, 34, 33) := by decide +kernel
theorem c331_34 : fx_op 331 34 = some (.iload_n 2, 35, 34) := by decide +kernel
theorem c331_94 : fx_op 331 94 = some (.aload_n 0, 95, 94) := by decide +kernel
theorem c331_95 : fx_op 331 95 = some (.iload_n 1, 96, 95) := by decide +kernel
theorem c331_96 : fx_ca 331 96 = some (256, 2, 2, 99) := by decide +kernel
theorem c331_35 : fx_ca 331 35 = some (271, 2, 2, 38) := by decide +kernel
theorem c331_99 : fx_op 331 99 = some (.return_, 100, 99) := by decide +kernel
theorem c331_38 : fx_op 331 38 = some (.ifCond .ge 47, 41, 85) := by decide +kernel
theorem c331_85 : fx_ci 331 85 = some (0, 86) := by decide +kernel
theorem c331_41 : fx_op 331 41 = some (.aload_n 0, 42, 41) := by decide +kernel
theorem c331_42 : fx_gf 331 42 = some (12, 81, 45) := by decide +kernel
theorem c331_45 : fx_ci 331 45 = some (9, 47) := by decide +kernel
theorem c331_47 : fx_op 331 47 = some (.aload_n 0, 48, 47) := by decide +kernel
theorem c331_48 : fx_gf 331 48 = some (12, 80, 51) := by decide +kernel
theorem c331_51 : fx_op 331 51 = some (.imul, 52, 51) := by decide +kernel
theorem c331_52 : fx_op 331 52 = some (.iload_n 2, 53, 52) := by decide +kernel
theorem c331_53 : fx_op 331 53 = some (.iadd, 54, 53) := by decide +kernel
theorem c331_54 : fx_op 331 54 = some (.iaload, 55, 54) := by decide +kernel
theorem c331_55 : fx_op 331 55 = some (.ifCond .lt 30, 58, 85) := by decide +kernel
theorem c331_58 : fx_op 331 58 = some (.aload_n 0, 59, 58) := by decide +kernel
theorem c331_59 : fx_gf 331 59 = some (12, 81, 62) := by decide +kernel
theorem c331_62 : fx_ci 331 62 = some (9, 64) := by decide +kernel
theorem c331_64 : fx_op 331 64 = some (.aload_n 0, 65, 64) := by decide +kernel
theorem c331_65 : fx_gf 331 65 = some (12, 80, 68) := by decide +kernel
theorem c331_68 : fx_op 331 68 = some (.imul, 69, 68) := by decide +kernel
theorem c331_69 : fx_op 331 69 = some (.iload_n 2, 70, 69) := by decide +kernel
theorem c331_70 : fx_op 331 70 = some (.iadd, 71, 70) := by decide +kernel
theorem c331_71 : fx_op 331 71 = some (.iaload, 72, 71) := by decide +kernel
theorem c331_72 : fx_op 331 72 = some (.aload_n 0, 73, 72) := by decide +kernel
theorem c331_73 : fx_gf 331 73 = some (12, 46, 76) := by decide +kernel
theorem c331_76 : fx_op 331 76 = some (.iload_n 2, 77, 76) := by decide +kernel
theorem c331_77 : fx_op 331 77 = some (.iaload, 78, 77) := by decide +kernel
theorem c331_78 : fx_op 331 78 = some (.if_icmp .eq 7, 81, 85) := by decide +kernel
theorem c331_81 : fx_ci 331 81 = some (1, 82) := by decide +kernel
theorem c331_82 : fx_op 331 82 = some (.goto 4, 85, 86) := by decide +kernel
theorem c331_86 : fx_op 331 86 = some (.iadd, 87, 86) := by decide +kernel
theorem c331_87 : fx_op 331 87 = some (.istore_n 1, 88, 87) := by decide +kernel
theorem c331_88 : fx_op 331 88 = some (.iinc 2 1, 91, 88) := by decide +kernel
theorem c331_91 : fx_op 331 91 = some (.goto (-67), 94, 24) := by decide +kernel
theorem s331_0 {kc : List va_E} {d : Nat} {M : fx_M} {Q : Option fx_V → fx_M → Prop} (H : wc kc d 268 [jR 133, jI 2] M (fun v M1 => wp kc (d + 1) 331 5 [some (jR 133), none, none] (v.toList ++ []) M1 Q)) : wp kc (d + 1) 331 0 [some (jR 133), none, none] [] M Q :=
  (x_aldn c331_0 rfl (x_ci c331_1 (wp_wk (l' := [some (jR 133), none, none]) ⟨rfl, trivial⟩ (x_cv (As := [jI 2]) (st := []) c331_2 cl_133 kl268 rfl (Nat.le_of_ble_eq_true rfl) mx268 (Nat.le_refl _) H))))
theorem s331_5 {kc : List va_E} {d : Nat} {u0 : Int} {M : fx_M} {Q : Option fx_V → fx_M → Prop} (H : ((fx_in32 u0)) ∧ (u0 = 1 → wc kc d 269 [jR 133, jI 1] M (fun v M1 => wp kc (d + 1) 331 19 [some (jR 133), none, none] (v.toList ++ []) M1 Q)) ∧ (u0 ≠ 1 → wc kc d 279 [jR 133] M (fun v M1 => wp kc (d + 1) 331 13 [none, none, none] (v.toList ++ []) M1 Q))) : wp kc (d + 1) 331 5 [some (jR 133), none, none] [jI u0] M Q :=
  (x_ci c331_5 (x_ceq c331_6 H.1 (by decide) (fun h1 => (x_aldn c331_14 rfl (x_ci c331_15 (wp_wk (l' := [some (jR 133), none, none]) ⟨rfl, trivial⟩ (x_cv (As := [jI 1]) (st := []) c331_16 cl_133 kl269 rfl (Nat.le_of_ble_eq_true rfl) mx269 (Nat.le_refl _) (H.2.1 h1)))))) (fun h2 => (x_aldn c331_9 rfl (wp_wk (l' := [none, none, none]) trivial (x_cv (As := []) (st := []) c331_10 cl_133 kl279 rfl (Nat.le_of_ble_eq_true rfl) mx279 (Nat.le_refl _) (H.2.2 h2)))))))
theorem s331_13 {kc : List va_E} {d : Nat} {M : fx_M} {Q : Option fx_V → fx_M → Prop} (H : Q none M) : wp kc (d + 1) 331 13 [none, none, none] [] M Q :=
  (x_vr c331_13 r331 H)
theorem s331_19 {kc : List va_E} {d : Nat} {u0 : Int} {M : fx_M} {Q : Option fx_V → fx_M → Prop} (H : wp kc (d + 1) 331 24 [some (jR 133), some (jI 0), some (jI 0)] [] M Q) : wp kc (d + 1) 331 19 [some (jR 133), none, none] [jI u0] M Q :=
  (x_popi c331_19 (x_ci c331_20 (x_istn (l' := [some (jR 133), some (jI 0), none]) c331_21 rfl (x_ci c331_22 (x_istn (l' := [some (jR 133), some (jI 0), some (jI 0)]) c331_23 rfl (wp_wk (l' := [some (jR 133), some (jI 0), some (jI 0)]) ⟨rfl, ⟨rfl, ⟨rfl, trivial⟩⟩⟩ H))))))
theorem s331_24 {kc : List va_E} {d : Nat} {v1 v2 : Int} {M : fx_M} {Q : Option fx_V → fx_M → Prop} (H : wc kc d 248 [jR 133] M (fun v M1 => wp kc (d + 1) 331 29 [some (jR 133), some (jI v1), some (jI v2)] (v.toList ++ [jI v2]) M1 Q)) : wp kc (d + 1) 331 24 [some (jR 133), some (jI v1), some (jI v2)] [] M Q :=
  (x_ildn c331_24 rfl (x_aldn c331_25 rfl (wp_wk (l' := [some (jR 133), some (jI v1), some (jI v2)]) ⟨rfl, ⟨rfl, ⟨rfl, trivial⟩⟩⟩ (x_cv (As := []) (st := [jI v2]) c331_26 cl_133 kl248 rfl (Nat.le_of_ble_eq_true rfl) mx248 (Nat.le_refl _) H))))
theorem s331_29 {kc : List va_E} {d : Nat} {v1 v2 u0 u1 : Int} {M : fx_M} {Q : Option fx_V → fx_M → Prop} (H : ((fx_in32 u1) ∧ (fx_in32 u0)) ∧ (u0 ≤ u1 → wc kc d 256 [jR 133, jI v1] M (fun v M1 => wp kc (d + 1) 331 99 [none, none, none] (v.toList ++ []) M1 Q)) ∧ (u1 < u0 → wc kc d 271 [jR 133, jI v2] M (fun v M1 => wp kc (d + 1) 331 38 [some (jR 133), none, some (jI v2)] (v.toList ++ [jI v1]) M1 Q))) : wp kc (d + 1) 331 29 [some (jR 133), some (jI v1), some (jI v2)] [jI u0, jI u1] M Q :=
  (x_cge c331_29 H.1.1 H.1.2 (fun h1 => (x_aldn c331_94 rfl (x_ildn c331_95 rfl (wp_wk (l' := [none, none, none]) trivial (x_cv (As := [jI v1]) (st := []) c331_96 cl_133 kl256 rfl (Nat.le_of_ble_eq_true rfl) mx256 (Nat.le_refl _) (H.2.1 h1)))))) (fun h2 => (x_ildn c331_32 rfl (x_aldn c331_33 rfl (x_ildn c331_34 rfl (wp_wk (l' := [some (jR 133), none, some (jI v2)]) ⟨rfl, ⟨rfl, trivial⟩⟩ (x_cv (As := [jI v2]) (st := [jI v1]) c331_35 cl_133 kl271 rfl (Nat.le_of_ble_eq_true rfl) mx271 (Nat.le_refl _) (H.2.2 h2))))))))
theorem s331_38 {kc : List va_E} {d : Nat} {v2 u0 u1 : Int} {M : fx_M} {Q : Option fx_V → fx_M → Prop} (H : ((fx_in32 u0)) ∧ (u0 < 0 → ((((0 : Int) ≤ (9 * (M 133 80)) + v2 ∧ (9 * (M 133 80)) + v2 < 27)))) ∧ (u0 < 0 → (fx_in32 (M 174 ((9 * (M 133 80)) + v2)))) ∧ (u0 < 0 → 0 ≤ M 174 ((9 * (M 133 80)) + v2) → ((((0 : Int) ≤ (9 * (M 133 80)) + v2 ∧ (9 * (M 133 80)) + v2 < 27)))) ∧ (u0 < 0 → 0 ≤ M 174 ((9 * (M 133 80)) + v2) → ((((0 : Int) ≤ v2 ∧ v2 < 9)))) ∧ (u0 < 0 → 0 ≤ M 174 ((9 * (M 133 80)) + v2) → (fx_in32 (M 174 ((9 * (M 133 80)) + v2)))) ∧ (u0 < 0 → 0 ≤ M 174 ((9 * (M 133 80)) + v2) → (fx_in32 (M 155 v2))) ∧ wp kc (d + 1) 331 24 [some (jR 133), some (jI (u1 + (if u0 < 0 then ((if M 174 ((9 * (M 133 80)) + v2) < 0 then (0 : Int) else (if M 174 ((9 * (M 133 80)) + v2) = M 155 v2 then (0 : Int) else 1)) : Int) else 0))), some (jI (v2 + 1))] [] M Q) : wp kc (d + 1) 331 38 [some (jR 133), none, some (jI v2)] [jI u0, jI u1] M Q :=
  (have K : wp kc (d + 1) 331 86 [some (jR 133), none, some (jI v2)] [jI (if u0 < 0 then ((if M 174 ((9 * (M 133 80)) + v2) < 0 then (0 : Int) else (if M 174 ((9 * (M 133 80)) + v2) = M 155 v2 then (0 : Int) else 1)) : Int) else 0), jI u1] M Q := (x_iadd c331_86 (x_istn (l' := [some (jR 133), some (jI (u1 + (if u0 < 0 then ((if M 174 ((9 * (M 133 80)) + v2) < 0 then (0 : Int) else (if M 174 ((9 * (M 133 80)) + v2) = M 155 v2 then (0 : Int) else 1)) : Int) else 0))), some (jI v2)]) c331_87 rfl (x_inc (l' := [some (jR 133), some (jI (u1 + (if u0 < 0 then ((if M 174 ((9 * (M 133 80)) + v2) < 0 then (0 : Int) else (if M 174 ((9 * (M 133 80)) + v2) = M 155 v2 then (0 : Int) else 1)) : Int) else 0))), some (jI (v2 + 1))]) c331_88 rfl rfl (x_goto c331_91 (wp_wk (l' := [some (jR 133), some (jI (u1 + (if u0 < 0 then ((if M 174 ((9 * (M 133 80)) + v2) < 0 then (0 : Int) else (if M 174 ((9 * (M 133 80)) + v2) = M 155 v2 then (0 : Int) else 1)) : Int) else 0))), some (jI (v2 + 1))]) ⟨rfl, ⟨rfl, ⟨rfl, trivial⟩⟩⟩ H.2.2.2.2.2.2.2))))); (x_zge c331_38 H.1 (fun (h1 : 0 ≤ u0) => (x_ci c331_85 (wp_wk (l' := [some (jR 133), none, some (jI v2)]) ⟨rfl, ⟨rfl, trivial⟩⟩ (by have K := K; first | (simp only [if_neg (Int.not_lt.mpr h1)] at K ⊢; exact K) | (exfalso; omega))))) (fun (h2 : u0 < 0) => (x_aldn c331_41 rfl (x_gfr c331_42 k_133_81 (x_ci c331_45 (x_aldn c331_47 rfl (x_gfi c331_48 k_133_80 (x_imul c331_51 (x_ildn c331_52 rfl (x_iadd c331_53 (x_iald c331_54 a_174 (H.2.1 h2) (by decide) (x_zlt c331_55 (H.2.2.1 h2) (fun (h3 : M 174 ((9 * (M 133 80)) + v2) < 0) => (x_ci c331_85 (wp_wk (l' := [some (jR 133), none, some (jI v2)]) ⟨rfl, ⟨rfl, trivial⟩⟩ (by have K := K; first | (simp only [if_pos h2, if_pos h3] at K ⊢; exact K) | (exfalso; omega))))) (fun (h4 : 0 ≤ M 174 ((9 * (M 133 80)) + v2)) => (x_aldn c331_58 rfl (x_gfr c331_59 k_133_81 (x_ci c331_62 (x_aldn c331_64 rfl (x_gfi c331_65 k_133_80 (x_imul c331_68 (x_ildn c331_69 rfl (x_iadd c331_70 (x_iald c331_71 a_174 (H.2.2.2.1 h2 h4) (by decide) (x_aldn c331_72 rfl (x_gfr c331_73 k_133_46 (x_ildn c331_76 rfl (x_iald c331_77 a_155 (H.2.2.2.2.1 h2 h4) (by decide) (x_ceq c331_78 (H.2.2.2.2.2.1 h2 h4) (H.2.2.2.2.2.2.1 h2 h4) (fun (h5 : M 174 ((9 * (M 133 80)) + v2) = M 155 v2) => (x_ci c331_85 (wp_wk (l' := [some (jR 133), none, some (jI v2)]) ⟨rfl, ⟨rfl, trivial⟩⟩ (by have K := K; first | (simp only [if_pos h2, if_neg (Int.not_lt.mpr h4), if_pos h5] at K ⊢; exact K) | (exfalso; omega))))) (fun (h6 : M 174 ((9 * (M 133 80)) + v2) ≠ M 155 v2) => (x_ci c331_81 (x_goto c331_82 (wp_wk (l' := [some (jR 133), none, some (jI v2)]) ⟨rfl, ⟨rfl, trivial⟩⟩ (by have K := K; first | (simp only [if_pos h2, if_neg (Int.not_lt.mpr h4), if_neg h6] at K ⊢; exact K) | (exfalso; omega))))))))))))))))))))))))))))))))))
theorem s331_99 {kc : List va_E} {d : Nat} {M : fx_M} {Q : Option fx_V → fx_M → Prop} (H : Q none M) : wp kc (d + 1) 331 99 [none, none, none] [] M Q :=
  (x_vr c331_99 r331 H)
theorem s331 {kc : List va_E} {d : Nat} {M : fx_M} {Q : Option fx_V → fx_M → Prop} (H : wc kc d 268 [jR 133, jI 2] M (fun v M1 => wp kc (d + 1) 331 5 [some (jR 133), none, none] (v.toList ++ []) M1 Q)) : wc kc (d + 1) 331 [jR 133] M Q :=
  wc_of (wp_wk (l' := [some (jR 133), none, none]) ⟨rfl, trivial⟩ (s331_0 H))

/- PuzzleHouseModel.sayFind()V -/
theorem c332_0 : fx_op 332 0 = some (.aload_n 0, 1, 0) := by decide +kernel
theorem c332_1 : fx_gf 332 1 = some (12, 96, 4) := by decide +kernel
theorem c332_4 : fx_op 332 4 = some (.ifCond .ne 8, 7, 12) := by decide +kernel
theorem c332_12 : fx_op 332 12 = some (.aload_n 0, 13, 12) := by decide +kernel
theorem c332_13 : fx_ci 332 13 = some (0, 14) := by decide +kernel
theorem c332_7 : fx_op 332 7 = some (.aload_n 0, 8, 7) := by decide +kernel
theorem c332_14 : fx_ca 332 14 = some (334, 2, 2, 17) := by decide +kernel
theorem c332_8 : fx_ca 332 8 = some (333, 1, 2, 11) := by decide +kernel
theorem c332_17 : fx_op 332 17 = some (.aload_n 0, 18, 17) := by decide +kernel
theorem c332_18 : fx_op 332 18 = some (.aload_n 0, 19, 18) := by decide +kernel
theorem c332_19 : fx_gf 332 19 = some (12, 74, 22) := by decide +kernel
theorem c332_22 : fx_pf 332 22 = some (12, 77, 0, 25) := by decide +kernel
theorem c332_25 : fx_ci 332 25 = some (0, 26) := by decide +kernel
theorem c332_26 : fx_op 332 26 = some (.istore_n 1, 27, 26) := by decide +kernel
theorem c332_11 : fx_op 332 11 = some (.return_, 12, 11) := by decide +kernel
theorem c332_27 : fx_op 332 27 = some (.iload_n 1, 28, 27) := by decide +kernel
theorem c332_28 : fx_op 332 28 = some (.aload_n 0, 29, 28) := by decide +kernel
theorem c332_29 : fx_gf 332 29 = some (12, 74, 32) := by decide +kernel
theorem c332_32 : fx_op 332 32 = some (.if_icmp .ge 21, 35, 53) := by decide +kernel
theorem c332_35 : fx_op 332 35 = some (.aload_n 0, 36, 35) := by decide +kernel
theorem c332_36 : fx_gf 332 36 = some (12, 76, 39) := by decide +kernel
theorem c332_39 : fx_op 332 39 = some (.iload_n 1, 40, 39) := by decide +kernel
theorem c332_40 : fx_op 332 40 = some (.aload_n 0, 41, 40) := by decide +kernel
theorem c332_41 : fx_gf 332 41 = some (12, 75, 44) := by decide +kernel
theorem c332_44 : fx_op 332 44 = some (.iload_n 1, 45, 44) := by decide +kernel
theorem c332_45 : fx_op 332 45 = some (.iaload, 46, 45) := by decide +kernel
theorem c332_53 : fx_ci 332 53 = some (0, 54) := by decide +kernel
theorem c332_54 : fx_op 332 54 = some (.istore_n 1, 55, 54) := by decide +kernel
theorem c332_47 : fx_op 332 47 = some (.iinc 1 1, 50, 47) := by decide +kernel
theorem c332_46 : fx_op 332 46 = some (.iastore, 47, 46) := by decide +kernel
theorem c332_50 : fx_op 332 50 = some (.goto (-23), 53, 27) := by decide +kernel
theorem c332_55 : fx_op 332 55 = some (.iload_n 1, 56, 55) := by decide +kernel
theorem c332_56 : fx_op 332 56 = some (.aload_n 0, 57, 56) := by decide +kernel
theorem c332_57 : fx_ca 332 57 = some (341, 1, 2, 60) := by decide +kernel
theorem c332_60 : fx_op 332 60 = some (.if_icmp .ge 38, 63, 98) := by decide +kernel
theorem c332_63 : fx_op 332 63 = some (.aload_n 0, 64, 63) := by decide +kernel
theorem c332_64 : fx_op 332 64 = some (.iload_n 1, 65, 64) := by decide +kernel
theorem c332_98 : fx_op 332 98 = some (.aload_n 0, 99, 98) := by decide +kernel
theorem c332_99 : fx_ci 332 99 = some (46, 101) := by decide +kernel
theorem c332_101 : fx_ca 332 101 = some (254, 2, 2, 104) := by decide +kernel
theorem c332_65 : fx_ca 332 65 = some (343, 2, 2, 68) := by decide +kernel
theorem c332_104 : fx_op 332 104 = some (.return_, 105, 104) := by decide +kernel
theorem c332_68 : fx_op 332 68 = some (.pop, 69, 68) := by decide +kernel
theorem c332_69 : fx_op 332 69 = some (.aload_n 0, 70, 69) := by decide +kernel
theorem c332_70 : fx_ci 332 70 = some (1, 71) := by decide +kernel
theorem c332_71 : fx_ca 332 71 = some (238, 2, 2, 74) := by decide +kernel
theorem c332_74 : fx_op 332 74 = some (.pop, 75, 74) := by decide +kernel
theorem c332_75 : fx_op 332 75 = some (.aload_n 0, 76, 75) := by decide +kernel
theorem c332_76 : fx_ci 332 76 = some (1, 77) := by decide +kernel
theorem c332_77 : fx_ca 332 77 = some (334, 2, 2, 80) := by decide +kernel
theorem c332_80 : fx_op 332 80 = some (.aload_n 0, 81, 80) := by decide +kernel
theorem c332_81 : fx_ca 332 81 = some (346, 1, 2, 84) := by decide +kernel
theorem c332_84 : fx_op 332 84 = some (.ifCond .eq 8, 87, 92) := by decide +kernel
theorem c332_87 : fx_op 332 87 = some (.aload_n 0, 88, 87) := by decide +kernel
theorem c332_88 : fx_op 332 88 = some (.iload_n 1, 89, 88) := by decide +kernel
theorem c332_92 : fx_op 332 92 = some (.iinc 1 1, 95, 92) := by decide +kernel
theorem c332_95 : fx_op 332 95 = some (.goto (-40), 98, 55) := by decide +kernel
theorem c332_89 : fx_ca 332 89 = some (347, 2, 2, 92) := by decide +kernel
theorem s332_0 {kc : List va_E} {d : Nat} {M : fx_M} {Q : Option fx_V → fx_M → Prop} (H : ((fx_in32 (M 133 96))) ∧ (M 133 96 ≠ 0 → wc kc d 334 [jR 133, jI 0] M (fun v M1 => wp kc (d + 1) 332 17 [some (jR 133), none] (v.toList ++ []) M1 Q)) ∧ (M 133 96 = 0 → wc kc d 333 [jR 133] M (fun v M1 => wp kc (d + 1) 332 11 [none, none] (v.toList ++ []) M1 Q))) : wp kc (d + 1) 332 0 [some (jR 133), none] [] M Q :=
  (x_aldn c332_0 rfl (x_gfi c332_1 k_133_96 (x_zne c332_4 H.1 (fun h1 => (x_aldn c332_12 rfl (x_ci c332_13 (wp_wk (l' := [some (jR 133), none]) ⟨rfl, trivial⟩ (x_cv (As := [jI 0]) (st := []) c332_14 cl_133 kl334 rfl (Nat.le_of_ble_eq_true rfl) mx334 (Nat.le_refl _) (H.2.1 h1)))))) (fun h2 => (x_aldn c332_7 rfl (wp_wk (l' := [none, none]) trivial (x_cv (As := []) (st := []) c332_8 cl_133 kl333 rfl (Nat.le_of_ble_eq_true rfl) mx333 (Nat.le_refl _) (H.2.2 h2))))))))
theorem s332_11 {kc : List va_E} {d : Nat} {M : fx_M} {Q : Option fx_V → fx_M → Prop} (H : Q none M) : wp kc (d + 1) 332 11 [none, none] [] M Q :=
  (x_vr c332_11 r332 H)
theorem s332_17 {kc : List va_E} {d : Nat} {M : fx_M} {Q : Option fx_V → fx_M → Prop} (H : wp kc (d + 1) 332 27 [some (jR 133), some (jI 0)] [] (fx_up M 133 77 (M 133 74)) Q) : wp kc (d + 1) 332 17 [some (jR 133), none] [] M Q :=
  (x_aldn c332_17 rfl (x_aldn c332_18 rfl (x_gfi c332_19 k_133_74 (x_pfi c332_22 k_133_77 (x_ci c332_25 (x_istn (l' := [some (jR 133), some (jI 0)]) c332_26 rfl (wp_wk (l' := [some (jR 133), some (jI 0)]) ⟨rfl, ⟨rfl, trivial⟩⟩ H)))))))
theorem s332_27 {kc : List va_E} {d : Nat} {v1 : Int} {M : fx_M} {Q : Option fx_V → fx_M → Prop} (H : ((fx_in32 v1) ∧ (fx_in32 (M 133 74))) ∧ (M 133 74 ≤ v1 → wp kc (d + 1) 332 55 [some (jR 133), some (jI 0)] [] M Q) ∧ (v1 < M 133 74 → (((0 : Int) ≤ v1 ∧ v1 < 600)) ∧ (((0 : Int) ≤ v1 ∧ v1 < 600)) ∧ wp kc (d + 1) 332 27 [some (jR 133), some (jI (v1 + 1))] [] (fx_up M 171 v1 (M 170 v1)) Q)) : wp kc (d + 1) 332 27 [some (jR 133), some (jI v1)] [] M Q :=
  (x_ildn c332_27 rfl (x_aldn c332_28 rfl (x_gfi c332_29 k_133_74 (x_cge c332_32 H.1.1 H.1.2 (fun h1 => (x_ci c332_53 (x_istn (l' := [some (jR 133), some (jI 0)]) c332_54 rfl (wp_wk (l' := [some (jR 133), some (jI 0)]) ⟨rfl, ⟨rfl, trivial⟩⟩ (H.2.1 h1))))) (fun h2 => (x_aldn c332_35 rfl (x_gfr c332_36 k_133_76 (x_ildn c332_39 rfl (x_aldn c332_40 rfl (x_gfr c332_41 k_133_75 (x_ildn c332_44 rfl (x_iald c332_45 a_170 (H.2.2 h2).1 (by decide) (x_iast c332_46 a_171 (H.2.2 h2).2.1 (by decide) (x_inc (l' := [some (jR 133), some (jI (v1 + 1))]) c332_47 rfl rfl (x_goto c332_50 (wp_wk (l' := [some (jR 133), some (jI (v1 + 1))]) ⟨rfl, ⟨rfl, trivial⟩⟩ (H.2.2 h2).2.2))))))))))))))))
theorem s332_55 {kc : List va_E} {d : Nat} {v1 : Int} {M : fx_M} {Q : Option fx_V → fx_M → Prop} (H : wc kc d 341 [jR 133] M (fun v M1 => wp kc (d + 1) 332 60 [some (jR 133), some (jI v1)] (v.toList ++ [jI v1]) M1 Q)) : wp kc (d + 1) 332 55 [some (jR 133), some (jI v1)] [] M Q :=
  (x_ildn c332_55 rfl (x_aldn c332_56 rfl (wp_wk (l' := [some (jR 133), some (jI v1)]) ⟨rfl, ⟨rfl, trivial⟩⟩ (x_cv (As := []) (st := [jI v1]) c332_57 cl_133 kl341 rfl (Nat.le_of_ble_eq_true rfl) mx341 (Nat.le_refl _) H))))
theorem s332_60 {kc : List va_E} {d : Nat} {v1 u0 u1 : Int} {M : fx_M} {Q : Option fx_V → fx_M → Prop} (H : ((fx_in32 u1) ∧ (fx_in32 u0)) ∧ (u0 ≤ u1 → wc kc d 254 [jR 133, jI 46] M (fun v M1 => wp kc (d + 1) 332 104 [none, none] (v.toList ++ []) M1 Q)) ∧ (u1 < u0 → wc kc d 343 [jR 133, jI v1] M (fun v M1 => wp kc (d + 1) 332 68 [some (jR 133), some (jI v1)] (v.toList ++ []) M1 Q))) : wp kc (d + 1) 332 60 [some (jR 133), some (jI v1)] [jI u0, jI u1] M Q :=
  (x_cge c332_60 H.1.1 H.1.2 (fun h1 => (x_aldn c332_98 rfl (x_ci c332_99 (wp_wk (l' := [none, none]) trivial (x_cv (As := [jI 46]) (st := []) c332_101 cl_133 kl254 rfl (Nat.le_of_ble_eq_true rfl) mx254 (Nat.le_refl _) (H.2.1 h1)))))) (fun h2 => (x_aldn c332_63 rfl (x_ildn c332_64 rfl (wp_wk (l' := [some (jR 133), some (jI v1)]) ⟨rfl, ⟨rfl, trivial⟩⟩ (x_cv (As := [jI v1]) (st := []) c332_65 cl_133 kl343 rfl (Nat.le_of_ble_eq_true rfl) mx343 (Nat.le_refl _) (H.2.2 h2)))))))
theorem s332_68 {kc : List va_E} {d : Nat} {v1 u0 : Int} {M : fx_M} {Q : Option fx_V → fx_M → Prop} (H : wc kc d 238 [jR 133, jI 1] M (fun v M1 => wp kc (d + 1) 332 74 [some (jR 133), some (jI v1)] (v.toList ++ []) M1 Q)) : wp kc (d + 1) 332 68 [some (jR 133), some (jI v1)] [jI u0] M Q :=
  (x_popi c332_68 (x_aldn c332_69 rfl (x_ci c332_70 (wp_wk (l' := [some (jR 133), some (jI v1)]) ⟨rfl, ⟨rfl, trivial⟩⟩ (x_cv (As := [jI 1]) (st := []) c332_71 cl_133 kl238 rfl (Nat.le_of_ble_eq_true rfl) mx238 (Nat.le_refl _) H)))))
theorem s332_74 {kc : List va_E} {d : Nat} {v1 u0 : Int} {M : fx_M} {Q : Option fx_V → fx_M → Prop} (H : wc kc d 334 [jR 133, jI 1] M (fun v M1 => wp kc (d + 1) 332 80 [some (jR 133), some (jI v1)] (v.toList ++ []) M1 Q)) : wp kc (d + 1) 332 74 [some (jR 133), some (jI v1)] [jI u0] M Q :=
  (x_popi c332_74 (x_aldn c332_75 rfl (x_ci c332_76 (wp_wk (l' := [some (jR 133), some (jI v1)]) ⟨rfl, ⟨rfl, trivial⟩⟩ (x_cv (As := [jI 1]) (st := []) c332_77 cl_133 kl334 rfl (Nat.le_of_ble_eq_true rfl) mx334 (Nat.le_refl _) H)))))
theorem s332_80 {kc : List va_E} {d : Nat} {v1 : Int} {M : fx_M} {Q : Option fx_V → fx_M → Prop} (H : wc kc d 346 [jR 133] M (fun v M1 => wp kc (d + 1) 332 84 [some (jR 133), some (jI v1)] (v.toList ++ []) M1 Q)) : wp kc (d + 1) 332 80 [some (jR 133), some (jI v1)] [] M Q :=
  (x_aldn c332_80 rfl (wp_wk (l' := [some (jR 133), some (jI v1)]) ⟨rfl, ⟨rfl, trivial⟩⟩ (x_cv (As := []) (st := []) c332_81 cl_133 kl346 rfl (Nat.le_of_ble_eq_true rfl) mx346 (Nat.le_refl _) H)))
theorem s332_84 {kc : List va_E} {d : Nat} {v1 u0 : Int} {M : fx_M} {Q : Option fx_V → fx_M → Prop} (H : ((fx_in32 u0)) ∧ (u0 = 0 → wp kc (d + 1) 332 55 [some (jR 133), some (jI (v1 + 1))] [] M Q) ∧ (u0 ≠ 0 → wc kc d 347 [jR 133, jI v1] M (fun v M1 => wp kc (d + 1) 332 92 [some (jR 133), some (jI v1)] (v.toList ++ []) M1 Q))) : wp kc (d + 1) 332 84 [some (jR 133), some (jI v1)] [jI u0] M Q :=
  (x_zeq c332_84 H.1 (fun h1 => (x_inc (l' := [some (jR 133), some (jI (v1 + 1))]) c332_92 rfl rfl (x_goto c332_95 (wp_wk (l' := [some (jR 133), some (jI (v1 + 1))]) ⟨rfl, ⟨rfl, trivial⟩⟩ (H.2.1 h1))))) (fun h2 => (x_aldn c332_87 rfl (x_ildn c332_88 rfl (wp_wk (l' := [some (jR 133), some (jI v1)]) ⟨rfl, ⟨rfl, trivial⟩⟩ (x_cv (As := [jI v1]) (st := []) c332_89 cl_133 kl347 rfl (Nat.le_of_ble_eq_true rfl) mx347 (Nat.le_refl _) (H.2.2 h2)))))))
theorem s332_92 {kc : List va_E} {d : Nat} {v1 : Int} {M : fx_M} {Q : Option fx_V → fx_M → Prop} (H : wp kc (d + 1) 332 55 [some (jR 133), some (jI (v1 + 1))] [] M Q) : wp kc (d + 1) 332 92 [some (jR 133), some (jI v1)] [] M Q :=
  (x_inc (l' := [some (jR 133), some (jI (v1 + 1))]) c332_92 rfl rfl (x_goto c332_95 (wp_wk (l' := [some (jR 133), some (jI (v1 + 1))]) ⟨rfl, ⟨rfl, trivial⟩⟩ H)))
theorem s332_104 {kc : List va_E} {d : Nat} {M : fx_M} {Q : Option fx_V → fx_M → Prop} (H : Q none M) : wp kc (d + 1) 332 104 [none, none] [] M Q :=
  (x_vr c332_104 r332 H)
theorem s332 {kc : List va_E} {d : Nat} {M : fx_M} {Q : Option fx_V → fx_M → Prop} (H : ((fx_in32 (M 133 96))) ∧ (M 133 96 ≠ 0 → wc kc d 334 [jR 133, jI 0] M (fun v M1 => wp kc (d + 1) 332 17 [some (jR 133), none] (v.toList ++ []) M1 Q)) ∧ (M 133 96 = 0 → wc kc d 333 [jR 133] M (fun v M1 => wp kc (d + 1) 332 11 [none, none] (v.toList ++ []) M1 Q))) : wc kc (d + 1) 332 [jR 133] M Q :=
  wc_of (wp_wk (l' := [some (jR 133), none]) ⟨rfl, trivial⟩ (s332_0 H))

/- PuzzleHouseModel.sayShut()V -/
theorem c333_0 : fx_op 333 0 = some (.aload_n 0, 1, 0) := by decide +kernel
theorem c333_1 : fx_cj 333 1 = some (1936225652, 4) := by decide +kernel
theorem c333_4 : fx_ca 333 4 = some (253, 2, 2, 7) := by decide +kernel
theorem c333_7 : fx_op 333 7 = some (.return_, 8, 7) := by decide +kernel
theorem s333_0 {kc : List va_E} {d : Nat} {M : fx_M} {Q : Option fx_V → fx_M → Prop} (H : wc kc d 253 [jR 133, jL 1936225652] M (fun v M1 => wp kc (d + 1) 333 7 [none] (v.toList ++ []) M1 Q)) : wp kc (d + 1) 333 0 [some (jR 133)] [] M Q :=
  (x_aldn c333_0 rfl (x_cj c333_1 (wp_wk (l' := [none]) trivial (x_cv (As := [jL 1936225652]) (st := []) c333_4 cl_133 kl253 rfl (Nat.le_of_ble_eq_true rfl) mx253 (Nat.le_refl _) H))))
theorem s333_7 {kc : List va_E} {d : Nat} {M : fx_M} {Q : Option fx_V → fx_M → Prop} (H : Q none M) : wp kc (d + 1) 333 7 [none] [] M Q :=
  (x_vr c333_7 r333 H)
theorem s333 {kc : List va_E} {d : Nat} {M : fx_M} {Q : Option fx_V → fx_M → Prop} (H : wc kc d 253 [jR 133, jL 1936225652] M (fun v M1 => wp kc (d + 1) 333 7 [none] (v.toList ++ []) M1 Q)) : wc kc (d + 1) 333 [jR 133] M Q :=
  wc_of (wp_wk (l' := [some (jR 133)]) ⟨rfl, trivial⟩ (s333_0 H))

/- PuzzleHouseModel.findForm(I)V -/
theorem c334_0 : fx_op 334 0 = some (.aload_n 0, 1, 0) := by decide +kernel
theorem c334_1 : fx_ci 334 1 = some (0, 2) := by decide +kernel
theorem c334_2 : fx_pf 334 2 = some (12, 74, 0, 5) := by decide +kernel
theorem c334_5 : fx_op 334 5 = some (.aload_n 0, 6, 5) := by decide +kernel
theorem c334_6 : fx_gf 334 6 = some (12, 5, 9) := by decide +kernel
theorem c334_9 : fx_op 334 9 = some (.istore_n 2, 10, 9) := by decide +kernel
theorem c334_10 : fx_ci 334 10 = some (0, 11) := by decide +kernel
theorem c334_11 : fx_op 334 11 = some (.istore_n 3, 12, 11) := by decide +kernel
theorem c334_12 : fx_op 334 12 = some (.iload_n 3, 13, 12) := by decide +kernel
theorem c334_13 : fx_op 334 13 = some (.aload_n 0, 14, 13) := by decide +kernel
theorem c334_14 : fx_op 334 14 = some (.iload_n 1, 15, 14) := by decide +kernel
theorem c334_15 : fx_ca 334 15 = some (287, 2, 2, 18) := by decide +kernel
theorem c334_18 : fx_op 334 18 = some (.aload_n 0, 19, 18) := by decide +kernel
theorem c334_19 : fx_op 334 19 = some (.iload_n 1, 20, 19) := by decide +kernel
theorem c334_20 : fx_ca 334 20 = some (288, 2, 2, 23) := by decide +kernel
theorem c334_23 : fx_op 334 23 = some (.imul, 24, 23) := by decide +kernel
theorem c334_24 : fx_op 334 24 = some (.if_icmp .ge 139, 27, 163) := by decide +kernel
theorem c334_27 : fx_op 334 27 = some (.aload_n 0, 28, 27) := by decide +kernel
theorem c334_28 : fx_op 334 28 = some (.iload_n 1, 29, 28) := by decide +kernel
theorem c334_29 : fx_op 334 29 = some (.iload_n 3, 30, 29) := by decide +kernel
theorem c334_30 : fx_op 334 30 = some (.aload_n 0, 31, 30) := by decide +kernel
theorem c334_31 : fx_op 334 31 = some (.iload_n 1, 32, 31) := by decide +kernel
theorem c334_163 : fx_op 334 163 = some (.return_, 164, 163) := by decide +kernel
theorem c334_32 : fx_ca 334 32 = some (287, 2, 2, 35) := by decide +kernel
theorem c334_36 : fx_op 334 36 = some (.iload_n 3, 37, 36) := by decide +kernel
theorem c334_37 : fx_op 334 37 = some (.aload_n 0, 38, 37) := by decide +kernel
theorem c334_38 : fx_op 334 38 = some (.iload_n 1, 39, 38) := by decide +kernel
theorem c334_35 : fx_op 334 35 = some (.irem, 36, 35) := by decide +kernel
theorem c334_39 : fx_ca 334 39 = some (287, 2, 2, 42) := by decide +kernel
theorem c334_43 : fx_ci 334 43 = some (3, 44) := by decide +kernel
theorem c334_42 : fx_op 334 42 = some (.idiv, 43, 42) := by decide +kernel
theorem c334_44 : fx_ca 334 44 = some (289, 5, 2, 47) := by decide +kernel
theorem c334_47 : fx_op 334 47 = some (.aload_n 0, 48, 47) := by decide +kernel
theorem c334_48 : fx_ci 334 48 = some (3, 49) := by decide +kernel
theorem c334_49 : fx_ca 334 49 = some (335, 2, 2, 52) := by decide +kernel
theorem c334_52 : fx_ci 334 52 = some (0, 53) := by decide +kernel
theorem c334_53 : fx_op 334 53 = some (.istore 4, 55, 53) := by decide +kernel
theorem c334_55 : fx_op 334 55 = some (.iload 4, 57, 55) := by decide +kernel
theorem c334_57 : fx_op 334 57 = some (.aload_n 0, 58, 57) := by decide +kernel
theorem c334_58 : fx_gf 334 58 = some (12, 74, 61) := by decide +kernel
theorem c334_61 : fx_op 334 61 = some (.if_icmp .ge 20, 64, 81) := by decide +kernel
theorem c334_64 : fx_op 334 64 = some (.aload_n 0, 65, 64) := by decide +kernel
theorem c334_65 : fx_op 334 65 = some (.aload_n 0, 66, 65) := by decide +kernel
theorem c334_66 : fx_gf 334 66 = some (12, 75, 69) := by decide +kernel
theorem c334_69 : fx_op 334 69 = some (.iload 4, 71, 69) := by decide +kernel
theorem c334_71 : fx_op 334 71 = some (.iaload, 72, 71) := by decide +kernel
theorem c334_81 : fx_op 334 81 = some (.aload_n 0, 82, 81) := by decide +kernel
theorem c334_82 : fx_gf 334 82 = some (12, 5, 85) := by decide +kernel
theorem c334_85 : fx_op 334 85 = some (.istore 4, 87, 85) := by decide +kernel
theorem c334_87 : fx_op 334 87 = some (.aload_n 0, 88, 87) := by decide +kernel
theorem c334_88 : fx_ci 334 88 = some (3, 89) := by decide +kernel
theorem c334_89 : fx_ca 334 89 = some (340, 2, 2, 92) := by decide +kernel
theorem c334_72 : fx_ca 334 72 = some (254, 2, 2, 75) := by decide +kernel
theorem c334_92 : fx_op 334 92 = some (.iload_n 3, 93, 92) := by decide +kernel
theorem c334_93 : fx_op 334 93 = some (.ifCond .eq 13, 96, 106) := by decide +kernel
theorem c334_106 : fx_op 334 106 = some (.aload_n 0, 107, 106) := by decide +kernel
theorem c334_107 : fx_op 334 107 = some (.aload_n 0, 108, 107) := by decide +kernel
theorem c334_108 : fx_gf 334 108 = some (12, 5, 111) := by decide +kernel
theorem c334_111 : fx_op 334 111 = some (.iload 4, 113, 111) := by decide +kernel
theorem c334_113 : fx_op 334 113 = some (.isub, 114, 113) := by decide +kernel
theorem c334_114 : fx_pf 334 114 = some (12, 74, 0, 117) := by decide +kernel
theorem c334_117 : fx_ci 334 117 = some (0, 118) := by decide +kernel
theorem c334_118 : fx_op 334 118 = some (.istore 5, 120, 118) := by decide +kernel
theorem c334_96 : fx_op 334 96 = some (.aload_n 0, 97, 96) := by decide +kernel
theorem c334_97 : fx_op 334 97 = some (.iload_n 2, 98, 97) := by decide +kernel
theorem c334_98 : fx_op 334 98 = some (.iload 4, 100, 98) := by decide +kernel
theorem c334_100 : fx_ca 334 100 = some (339, 3, 2, 103) := by decide +kernel
theorem c334_75 : fx_op 334 75 = some (.iinc 4 1, 78, 75) := by decide +kernel
theorem c334_78 : fx_op 334 78 = some (.goto (-23), 81, 55) := by decide +kernel
theorem c334_120 : fx_op 334 120 = some (.iload 5, 122, 120) := by decide +kernel
theorem c334_122 : fx_op 334 122 = some (.aload_n 0, 123, 122) := by decide +kernel
theorem c334_123 : fx_gf 334 123 = some (12, 74, 126) := by decide +kernel
theorem c334_126 : fx_op 334 126 = some (.if_icmp .ge 26, 129, 152) := by decide +kernel
theorem c334_129 : fx_op 334 129 = some (.aload_n 0, 130, 129) := by decide +kernel
theorem c334_130 : fx_gf 334 130 = some (12, 75, 133) := by decide +kernel
theorem c334_133 : fx_op 334 133 = some (.iload 5, 135, 133) := by decide +kernel
theorem c334_135 : fx_op 334 135 = some (.aload_n 0, 136, 135) := by decide +kernel
theorem c334_136 : fx_gf 334 136 = some (12, 6, 139) := by decide +kernel
theorem c334_139 : fx_op 334 139 = some (.iload 4, 141, 139) := by decide +kernel
theorem c334_141 : fx_op 334 141 = some (.iload 5, 143, 141) := by decide +kernel
theorem c334_143 : fx_op 334 143 = some (.iadd, 144, 143) := by decide +kernel
theorem c334_144 : fx_op 334 144 = some (.iaload, 145, 144) := by decide +kernel
theorem c334_152 : fx_op 334 152 = some (.aload_n 0, 153, 152) := by decide +kernel
theorem c334_153 : fx_op 334 153 = some (.iload_n 2, 154, 153) := by decide +kernel
theorem c334_154 : fx_pf 334 154 = some (12, 5, 0, 157) := by decide +kernel
theorem c334_157 : fx_op 334 157 = some (.iinc 3 1, 160, 157) := by decide +kernel
theorem c334_146 : fx_op 334 146 = some (.iinc 5 1, 149, 146) := by decide +kernel
theorem c334_160 : fx_op 334 160 = some (.goto (-148), 163, 12) := by decide +kernel
theorem c334_145 : fx_op 334 145 = some (.iastore, 146, 145) := by decide +kernel
theorem c334_149 : fx_op 334 149 = some (.goto (-29), 152, 120) := by decide +kernel
theorem c334_103 : fx_op 334 103 = some (.ifCond .le 49, 106, 152) := by decide +kernel
theorem s334_0 {kc : List va_E} {d : Nat} {x1 : Int} {M : fx_M} {Q : Option fx_V → fx_M → Prop} (H : wp kc (d + 1) 334 12 [some (jR 133), some (jI x1), some (jI (M 133 5)), some (jI 0), none, none] [] (fx_up M 133 74 0) Q) : wp kc (d + 1) 334 0 [some (jR 133), some (jI x1), none, none, none, none] [] M Q :=
  (x_aldn c334_0 rfl (x_ci c334_1 (x_pfi c334_2 k_133_74 (x_aldn c334_5 rfl (x_gfi c334_6 k_133_5 (wp_vI (fx_upK (by decide)) (x_istn (l' := [some (jR 133), some (jI x1), some (jI (M 133 5)), none, none, none]) c334_9 rfl (x_ci c334_10 (x_istn (l' := [some (jR 133), some (jI x1), some (jI (M 133 5)), some (jI 0), none, none]) c334_11 rfl (wp_wk (l' := [some (jR 133), some (jI x1), some (jI (M 133 5)), some (jI 0), none, none]) ⟨rfl, ⟨rfl, ⟨rfl, ⟨rfl, trivial⟩⟩⟩⟩ H))))))))))
theorem s334_12 {kc : List va_E} {d : Nat} {v1 v2 v3 : Int} {M : fx_M} {Q : Option fx_V → fx_M → Prop} (H : wc kc d 287 [jR 133, jI v1] M (fun v M1 => wp kc (d + 1) 334 18 [some (jR 133), some (jI v1), some (jI v2), some (jI v3), none, none] (v.toList ++ [jI v3]) M1 Q)) : wp kc (d + 1) 334 12 [some (jR 133), some (jI v1), some (jI v2), some (jI v3), none, none] [] M Q :=
  (x_ildn c334_12 rfl (x_aldn c334_13 rfl (x_ildn c334_14 rfl (wp_wk (l' := [some (jR 133), some (jI v1), some (jI v2), some (jI v3), none, none]) ⟨rfl, ⟨rfl, ⟨rfl, ⟨rfl, trivial⟩⟩⟩⟩ (x_cv (As := [jI v1]) (st := [jI v3]) c334_15 cl_133 kl287 rfl (Nat.le_of_ble_eq_true rfl) mx287 (Nat.le_refl _) H)))))
theorem s334_18 {kc : List va_E} {d : Nat} {v1 v2 v3 u0 u1 : Int} {M : fx_M} {Q : Option fx_V → fx_M → Prop} (H : wc kc d 288 [jR 133, jI v1] M (fun v M1 => wp kc (d + 1) 334 23 [some (jR 133), some (jI v1), some (jI v2), some (jI v3), none, none] (v.toList ++ [jI u0, jI u1]) M1 Q)) : wp kc (d + 1) 334 18 [some (jR 133), some (jI v1), some (jI v2), some (jI v3), none, none] [jI u0, jI u1] M Q :=
  (x_aldn c334_18 rfl (x_ildn c334_19 rfl (wp_wk (l' := [some (jR 133), some (jI v1), some (jI v2), some (jI v3), none, none]) ⟨rfl, ⟨rfl, ⟨rfl, ⟨rfl, trivial⟩⟩⟩⟩ (x_cv (As := [jI v1]) (st := [jI u0, jI u1]) c334_20 cl_133 kl288 rfl (Nat.le_of_ble_eq_true rfl) mx288 (Nat.le_refl _) H))))
theorem s334_23 {kc : List va_E} {d : Nat} {v1 v2 v3 u0 u1 u2 : Int} {M : fx_M} {Q : Option fx_V → fx_M → Prop} (H : ((fx_in32 u2) ∧ (fx_in32 (u1 * u0))) ∧ (u1 * u0 ≤ u2 → Q none M) ∧ (u2 < u1 * u0 → wc kc d 287 [jR 133, jI v1] M (fun v M1 => wp kc (d + 1) 334 35 [some (jR 133), some (jI v1), some (jI v2), some (jI v3), none, none] (v.toList ++ [jI v3, jI v1, jR 133]) M1 Q))) : wp kc (d + 1) 334 23 [some (jR 133), some (jI v1), some (jI v2), some (jI v3), none, none] [jI u0, jI u1, jI u2] M Q :=
  (x_imul c334_23 (x_cge c334_24 H.1.1 H.1.2 (fun h1 => (x_vr c334_163 r334 (H.2.1 h1))) (fun h2 => (x_aldn c334_27 rfl (x_ildn c334_28 rfl (x_ildn c334_29 rfl (x_aldn c334_30 rfl (x_ildn c334_31 rfl (wp_wk (l' := [some (jR 133), some (jI v1), some (jI v2), some (jI v3), none, none]) ⟨rfl, ⟨rfl, ⟨rfl, ⟨rfl, trivial⟩⟩⟩⟩ (x_cv (As := [jI v1]) (st := [jI v3, jI v1, jR 133]) c334_32 cl_133 kl287 rfl (Nat.le_of_ble_eq_true rfl) mx287 (Nat.le_refl _) (H.2.2 h2)))))))))))
theorem s334_35 {kc : List va_E} {d : Nat} {v1 v2 v3 u0 u1 u2 : Int} {M : fx_M} {Q : Option fx_V → fx_M → Prop} (H : (((0 : Int) ≤ u1 ∧ u1 ≤ 2147483647) ∧ ((0 : Int) < u0 ∧ u0 ≤ 2147483647)) ∧ wc kc d 287 [jR 133, jI v1] M (fun v M1 => wp kc (d + 1) 334 42 [some (jR 133), some (jI v1), some (jI v2), some (jI v3), none, none] (v.toList ++ [jI v3, jI (u1 % u0), jI u2, jR 133]) M1 Q)) : wp kc (d + 1) 334 35 [some (jR 133), some (jI v1), some (jI v2), some (jI v3), none, none] [jI u0, jI u1, jI u2, jR 133] M Q :=
  (x_irem c334_35 H.1.1 H.1.2 (x_ildn c334_36 rfl (x_aldn c334_37 rfl (x_ildn c334_38 rfl (wp_wk (l' := [some (jR 133), some (jI v1), some (jI v2), some (jI v3), none, none]) ⟨rfl, ⟨rfl, ⟨rfl, ⟨rfl, trivial⟩⟩⟩⟩ (x_cv (As := [jI v1]) (st := [jI v3, jI (u1 % u0), jI u2, jR 133]) c334_39 cl_133 kl287 rfl (Nat.le_of_ble_eq_true rfl) mx287 (Nat.le_refl _) H.2))))))
theorem s334_42 {kc : List va_E} {d : Nat} {v1 v2 v3 u0 u1 u2 u3 : Int} {M : fx_M} {Q : Option fx_V → fx_M → Prop} (H : (((0 : Int) ≤ u1 ∧ u1 ≤ 2147483647) ∧ ((0 : Int) < u0 ∧ u0 ≤ 2147483647)) ∧ wc kc d 289 [jR 133, jI u3, jI u2, jI (u1 / u0), jI 3] M (fun v M1 => wp kc (d + 1) 334 47 [some (jR 133), some (jI v1), some (jI v2), some (jI v3), none, none] (v.toList ++ []) M1 Q)) : wp kc (d + 1) 334 42 [some (jR 133), some (jI v1), some (jI v2), some (jI v3), none, none] [jI u0, jI u1, jI u2, jI u3, jR 133] M Q :=
  (x_idiv c334_42 H.1.1 H.1.2 (x_ci c334_43 (wp_wk (l' := [some (jR 133), some (jI v1), some (jI v2), some (jI v3), none, none]) ⟨rfl, ⟨rfl, ⟨rfl, ⟨rfl, trivial⟩⟩⟩⟩ (x_cv (As := [jI u3, jI u2, jI (u1 / u0), jI 3]) (st := []) c334_44 cl_133 kl289 rfl (Nat.le_of_ble_eq_true rfl) mx289 (Nat.le_refl _) H.2))))
theorem s334_47 {kc : List va_E} {d : Nat} {v1 v2 v3 : Int} {M : fx_M} {Q : Option fx_V → fx_M → Prop} (H : wc kc d 335 [jR 133, jI 3] M (fun v M1 => wp kc (d + 1) 334 52 [some (jR 133), some (jI v1), some (jI v2), some (jI v3), none, none] (v.toList ++ []) M1 Q)) : wp kc (d + 1) 334 47 [some (jR 133), some (jI v1), some (jI v2), some (jI v3), none, none] [] M Q :=
  (x_aldn c334_47 rfl (x_ci c334_48 (wp_wk (l' := [some (jR 133), some (jI v1), some (jI v2), some (jI v3), none, none]) ⟨rfl, ⟨rfl, ⟨rfl, ⟨rfl, trivial⟩⟩⟩⟩ (x_cv (As := [jI 3]) (st := []) c334_49 cl_133 kl335 rfl (Nat.le_of_ble_eq_true rfl) mx335 (Nat.le_refl _) H))))
theorem s334_52 {kc : List va_E} {d : Nat} {v1 v2 v3 : Int} {M : fx_M} {Q : Option fx_V → fx_M → Prop} (H : wp kc (d + 1) 334 55 [some (jR 133), some (jI v1), some (jI v2), some (jI v3), some (jI 0), none] [] M Q) : wp kc (d + 1) 334 52 [some (jR 133), some (jI v1), some (jI v2), some (jI v3), none, none] [] M Q :=
  (x_ci c334_52 (x_ist (l' := [some (jR 133), some (jI v1), some (jI v2), some (jI v3), some (jI 0), none]) c334_53 rfl (wp_wk (l' := [some (jR 133), some (jI v1), some (jI v2), some (jI v3), some (jI 0), none]) ⟨rfl, ⟨rfl, ⟨rfl, ⟨rfl, ⟨rfl, trivial⟩⟩⟩⟩⟩ H)))
theorem s334_55 {kc : List va_E} {d : Nat} {v1 v2 v3 v4 : Int} {M : fx_M} {Q : Option fx_V → fx_M → Prop} (H : ((fx_in32 v4) ∧ (fx_in32 (M 133 74))) ∧ (M 133 74 ≤ v4 → wc kc d 340 [jR 133, jI 3] M (fun v M1 => wp kc (d + 1) 334 92 [some (jR 133), some (jI v1), some (jI v2), some (jI v3), some (jI (M 133 5)), none] (v.toList ++ []) M1 Q)) ∧ (v4 < M 133 74 → (((0 : Int) ≤ v4 ∧ v4 < 600)) ∧ wc kc d 254 [jR 133, jI (M 170 v4)] M (fun v M1 => wp kc (d + 1) 334 75 [some (jR 133), some (jI v1), some (jI v2), some (jI v3), some (jI v4), none] (v.toList ++ []) M1 Q))) : wp kc (d + 1) 334 55 [some (jR 133), some (jI v1), some (jI v2), some (jI v3), some (jI v4), none] [] M Q :=
  (x_ild c334_55 rfl (x_aldn c334_57 rfl (x_gfi c334_58 k_133_74 (x_cge c334_61 H.1.1 H.1.2 (fun h1 => (x_aldn c334_81 rfl (x_gfi c334_82 k_133_5 (x_ist (l' := [some (jR 133), some (jI v1), some (jI v2), some (jI v3), some (jI (M 133 5)), none]) c334_85 rfl (x_aldn c334_87 rfl (x_ci c334_88 (wp_wk (l' := [some (jR 133), some (jI v1), some (jI v2), some (jI v3), some (jI (M 133 5)), none]) ⟨rfl, ⟨rfl, ⟨rfl, ⟨rfl, ⟨rfl, trivial⟩⟩⟩⟩⟩ (x_cv (As := [jI 3]) (st := []) c334_89 cl_133 kl340 rfl (Nat.le_of_ble_eq_true rfl) mx340 (Nat.le_refl _) (H.2.1 h1))))))))) (fun h2 => (x_aldn c334_64 rfl (x_aldn c334_65 rfl (x_gfr c334_66 k_133_75 (x_ild c334_69 rfl (x_iald c334_71 a_170 (H.2.2 h2).1 (by decide) (wp_wk (l' := [some (jR 133), some (jI v1), some (jI v2), some (jI v3), some (jI v4), none]) ⟨rfl, ⟨rfl, ⟨rfl, ⟨rfl, ⟨rfl, trivial⟩⟩⟩⟩⟩ (x_cv (As := [jI (M 170 v4)]) (st := []) c334_72 cl_133 kl254 rfl (Nat.le_of_ble_eq_true rfl) mx254 (Nat.le_refl _) (H.2.2 h2).2))))))))))))
theorem s334_75 {kc : List va_E} {d : Nat} {v1 v2 v3 v4 : Int} {M : fx_M} {Q : Option fx_V → fx_M → Prop} (H : wp kc (d + 1) 334 55 [some (jR 133), some (jI v1), some (jI v2), some (jI v3), some (jI (v4 + 1)), none] [] M Q) : wp kc (d + 1) 334 75 [some (jR 133), some (jI v1), some (jI v2), some (jI v3), some (jI v4), none] [] M Q :=
  (x_inc (l' := [some (jR 133), some (jI v1), some (jI v2), some (jI v3), some (jI (v4 + 1)), none]) c334_75 rfl rfl (x_goto c334_78 (wp_wk (l' := [some (jR 133), some (jI v1), some (jI v2), some (jI v3), some (jI (v4 + 1)), none]) ⟨rfl, ⟨rfl, ⟨rfl, ⟨rfl, ⟨rfl, trivial⟩⟩⟩⟩⟩ H)))
theorem s334_92 {kc : List va_E} {d : Nat} {v1 v2 v3 v4 : Int} {M : fx_M} {Q : Option fx_V → fx_M → Prop} (H : ((fx_in32 v3)) ∧ (v3 = 0 → wp kc (d + 1) 334 120 [some (jR 133), some (jI v1), some (jI v2), some (jI v3), some (jI v4), some (jI 0)] [] (fx_up M 133 74 ((M 133 5) - v4)) Q) ∧ (v3 ≠ 0 → wc kc d 339 [jR 133, jI v2, jI v4] M (fun v M1 => wp kc (d + 1) 334 103 [some (jR 133), some (jI v1), some (jI v2), some (jI v3), some (jI v4), none] (v.toList ++ []) M1 Q))) : wp kc (d + 1) 334 92 [some (jR 133), some (jI v1), some (jI v2), some (jI v3), some (jI v4), none] [] M Q :=
  (x_ildn c334_92 rfl (x_zeq c334_93 H.1 (fun h1 => (x_aldn c334_106 rfl (x_aldn c334_107 rfl (x_gfi c334_108 k_133_5 (x_ild c334_111 rfl (x_isub c334_113 (x_pfi c334_114 k_133_74 (x_ci c334_117 (x_ist (l' := [some (jR 133), some (jI v1), some (jI v2), some (jI v3), some (jI v4), some (jI 0)]) c334_118 rfl (wp_wk (l' := [some (jR 133), some (jI v1), some (jI v2), some (jI v3), some (jI v4), some (jI 0)]) ⟨rfl, ⟨rfl, ⟨rfl, ⟨rfl, ⟨rfl, ⟨rfl, trivial⟩⟩⟩⟩⟩⟩ (H.2.1 h1))))))))))) (fun h2 => (x_aldn c334_96 rfl (x_ildn c334_97 rfl (x_ild c334_98 rfl (wp_wk (l' := [some (jR 133), some (jI v1), some (jI v2), some (jI v3), some (jI v4), none]) ⟨rfl, ⟨rfl, ⟨rfl, ⟨rfl, ⟨rfl, trivial⟩⟩⟩⟩⟩ (x_cv (As := [jI v2, jI v4]) (st := []) c334_100 cl_133 kl339 rfl (Nat.le_of_ble_eq_true rfl) mx339 (Nat.le_refl _) (H.2.2 h2)))))))))
theorem s334_103 {kc : List va_E} {d : Nat} {v1 v2 v3 v4 u0 : Int} {M : fx_M} {Q : Option fx_V → fx_M → Prop} (H : ((fx_in32 u0)) ∧ (u0 ≤ 0 → wp kc (d + 1) 334 12 [some (jR 133), some (jI v1), some (jI v2), some (jI (v3 + 1)), none, none] [] (fx_up M 133 5 v2) Q) ∧ (0 < u0 → wp kc (d + 1) 334 120 [some (jR 133), some (jI v1), some (jI v2), some (jI v3), some (jI v4), some (jI 0)] [] (fx_up M 133 74 ((M 133 5) - v4)) Q)) : wp kc (d + 1) 334 103 [some (jR 133), some (jI v1), some (jI v2), some (jI v3), some (jI v4), none] [jI u0] M Q :=
  (x_zle c334_103 H.1 (fun h1 => (x_aldn c334_152 rfl (x_ildn c334_153 rfl (x_pfi c334_154 k_133_5 (x_inc (l' := [some (jR 133), some (jI v1), some (jI v2), some (jI (v3 + 1)), some (jI v4), none]) c334_157 rfl rfl (x_goto c334_160 (wp_wk (l' := [some (jR 133), some (jI v1), some (jI v2), some (jI (v3 + 1)), none, none]) ⟨rfl, ⟨rfl, ⟨rfl, ⟨rfl, trivial⟩⟩⟩⟩ (H.2.1 h1)))))))) (fun h2 => (x_aldn c334_106 rfl (x_aldn c334_107 rfl (x_gfi c334_108 k_133_5 (x_ild c334_111 rfl (x_isub c334_113 (x_pfi c334_114 k_133_74 (x_ci c334_117 (x_ist (l' := [some (jR 133), some (jI v1), some (jI v2), some (jI v3), some (jI v4), some (jI 0)]) c334_118 rfl (wp_wk (l' := [some (jR 133), some (jI v1), some (jI v2), some (jI v3), some (jI v4), some (jI 0)]) ⟨rfl, ⟨rfl, ⟨rfl, ⟨rfl, ⟨rfl, ⟨rfl, trivial⟩⟩⟩⟩⟩⟩ (H.2.2 h2))))))))))))
theorem s334_120 {kc : List va_E} {d : Nat} {v1 v2 v3 v4 v5 : Int} {M : fx_M} {Q : Option fx_V → fx_M → Prop} (H : ((fx_in32 v5) ∧ (fx_in32 (M 133 74))) ∧ (M 133 74 ≤ v5 → wp kc (d + 1) 334 12 [some (jR 133), some (jI v1), some (jI v2), some (jI (v3 + 1)), none, none] [] (fx_up M 133 5 v2) Q) ∧ (v5 < M 133 74 → (((0 : Int) ≤ v4 + v5 ∧ v4 + v5 < 6000)) ∧ (((0 : Int) ≤ v5 ∧ v5 < 600)) ∧ wp kc (d + 1) 334 120 [some (jR 133), some (jI v1), some (jI v2), some (jI v3), some (jI v4), some (jI (v5 + 1))] [] (fx_up M 170 v5 (M 136 (v4 + v5))) Q)) : wp kc (d + 1) 334 120 [some (jR 133), some (jI v1), some (jI v2), some (jI v3), some (jI v4), some (jI v5)] [] M Q :=
  (x_ild c334_120 rfl (x_aldn c334_122 rfl (x_gfi c334_123 k_133_74 (x_cge c334_126 H.1.1 H.1.2 (fun h1 => (x_aldn c334_152 rfl (x_ildn c334_153 rfl (x_pfi c334_154 k_133_5 (x_inc (l' := [some (jR 133), some (jI v1), some (jI v2), some (jI (v3 + 1)), some (jI v4), some (jI v5)]) c334_157 rfl rfl (x_goto c334_160 (wp_wk (l' := [some (jR 133), some (jI v1), some (jI v2), some (jI (v3 + 1)), none, none]) ⟨rfl, ⟨rfl, ⟨rfl, ⟨rfl, trivial⟩⟩⟩⟩ (H.2.1 h1)))))))) (fun h2 => (x_aldn c334_129 rfl (x_gfr c334_130 k_133_75 (x_ild c334_133 rfl (x_aldn c334_135 rfl (x_gfr c334_136 k_133_6 (x_ild c334_139 rfl (x_ild c334_141 rfl (x_iadd c334_143 (x_iald c334_144 a_136 (H.2.2 h2).1 (by decide) (x_iast c334_145 a_170 (H.2.2 h2).2.1 (by decide) (x_inc (l' := [some (jR 133), some (jI v1), some (jI v2), some (jI v3), some (jI v4), some (jI (v5 + 1))]) c334_146 rfl rfl (x_goto c334_149 (wp_wk (l' := [some (jR 133), some (jI v1), some (jI v2), some (jI v3), some (jI v4), some (jI (v5 + 1))]) ⟨rfl, ⟨rfl, ⟨rfl, ⟨rfl, ⟨rfl, ⟨rfl, trivial⟩⟩⟩⟩⟩⟩ (H.2.2 h2).2.2))))))))))))))))))
theorem s334 {kc : List va_E} {d : Nat} {x1 : Int} {M : fx_M} {Q : Option fx_V → fx_M → Prop} (H : wp kc (d + 1) 334 12 [some (jR 133), some (jI x1), some (jI (M 133 5)), some (jI 0), none, none] [] (fx_up M 133 74 0) Q) : wc kc (d + 1) 334 [jR 133, jI x1] M Q :=
  wc_of (wp_wk (l' := [some (jR 133), some (jI x1), none, none, none, none]) ⟨rfl, ⟨rfl, trivial⟩⟩ (s334_0 H))

/- PuzzleHouseModel.order(I)V -/
theorem c335_0 : fx_ci 335 0 = some (12, 2) := by decide +kernel
theorem c335_2 : fx_op 335 2 = some (.iload_n 1, 3, 2) := by decide +kernel
theorem c335_3 : fx_op 335 3 = some (.imul, 4, 3) := by decide +kernel
theorem c335_4 : fx_op 335 4 = some (.istore_n 2, 5, 4) := by decide +kernel
theorem c335_5 : fx_ci 335 5 = some (24, 7) := by decide +kernel
theorem c335_7 : fx_op 335 7 = some (.istore_n 3, 8, 7) := by decide +kernel
theorem c335_8 : fx_ci 335 8 = some (0, 9) := by decide +kernel
theorem c335_9 : fx_op 335 9 = some (.istore 4, 11, 9) := by decide +kernel
theorem c335_11 : fx_op 335 11 = some (.iload 4, 13, 11) := by decide +kernel
theorem c335_13 : fx_op 335 13 = some (.aload_n 0, 14, 13) := by decide +kernel
theorem c335_14 : fx_gf 335 14 = some (12, 40, 17) := by decide +kernel
theorem c335_17 : fx_op 335 17 = some (.iload_n 1, 18, 17) := by decide +kernel
theorem c335_19 : fx_op 335 19 = some (.if_icmp .ge 17, 22, 36) := by decide +kernel
theorem c335_22 : fx_op 335 22 = some (.aload_n 0, 23, 22) := by decide +kernel
theorem c335_23 : fx_op 335 23 = some (.iload_n 2, 24, 23) := by decide +kernel
theorem c335_24 : fx_op 335 24 = some (.iload 4, 26, 24) := by decide +kernel
theorem c335_26 : fx_op 335 26 = some (.iadd, 27, 26) := by decide +kernel
theorem c335_36 : fx_ci 335 36 = some (0, 37) := by decide +kernel
theorem c335_37 : fx_op 335 37 = some (.istore 4, 39, 37) := by decide +kernel
theorem c335_39 : fx_ci 335 39 = some (0, 40) := by decide +kernel
theorem c335_40 : fx_op 335 40 = some (.istore 5, 42, 40) := by decide +kernel
theorem c335_18 : fx_op 335 18 = some (.iaload, 19, 18) := by decide +kernel
theorem c335_27 : fx_ca 335 27 = some (336, 2, 2, 30) := by decide +kernel
theorem c335_42 : fx_op 335 42 = some (.iload 5, 44, 42) := by decide +kernel
theorem c335_44 : fx_op 335 44 = some (.aload_n 0, 45, 44) := by decide +kernel
theorem c335_45 : fx_gf 335 45 = some (12, 40, 48) := by decide +kernel
theorem c335_48 : fx_op 335 48 = some (.iload_n 1, 49, 48) := by decide +kernel
theorem c335_50 : fx_op 335 50 = some (.if_icmp .ge 112, 53, 162) := by decide +kernel
theorem c335_53 : fx_op 335 53 = some (.aload_n 0, 54, 53) := by decide +kernel
theorem c335_54 : fx_op 335 54 = some (.iload_n 2, 55, 54) := by decide +kernel
theorem c335_55 : fx_op 335 55 = some (.iload 5, 57, 55) := by decide +kernel
theorem c335_57 : fx_op 335 57 = some (.iadd, 58, 57) := by decide +kernel
theorem c335_58 : fx_op 335 58 = some (.iload_n 3, 59, 58) := by decide +kernel
theorem c335_162 : fx_op 335 162 = some (.aload_n 0, 163, 162) := by decide +kernel
theorem c335_163 : fx_gf 335 163 = some (12, 40, 166) := by decide +kernel
theorem c335_166 : fx_op 335 166 = some (.iload_n 1, 167, 166) := by decide +kernel
theorem c335_167 : fx_op 335 167 = some (.iload 4, 169, 167) := by decide +kernel
theorem c335_49 : fx_op 335 49 = some (.iaload, 50, 49) := by decide +kernel
theorem c335_169 : fx_op 335 169 = some (.iastore, 170, 169) := by decide +kernel
theorem c335_170 : fx_op 335 170 = some (.return_, 171, 170) := by decide +kernel
theorem c335_59 : fx_ca 335 59 = some (265, 3, 2, 62) := by decide +kernel
theorem c335_30 : fx_op 335 30 = some (.iinc 4 1, 33, 30) := by decide +kernel
theorem c335_33 : fx_op 335 33 = some (.goto (-22), 36, 11) := by decide +kernel
theorem c335_62 : fx_op 335 62 = some (.iload 4, 64, 62) := by decide +kernel
theorem c335_64 : fx_op 335 64 = some (.istore 6, 66, 64) := by decide +kernel
theorem c335_66 : fx_op 335 66 = some (.iload 6, 68, 66) := by decide +kernel
theorem c335_68 : fx_op 335 68 = some (.ifCond .le 23, 71, 91) := by decide +kernel
theorem c335_71 : fx_op 335 71 = some (.aload_n 0, 72, 71) := by decide +kernel
theorem c335_72 : fx_op 335 72 = some (.iload_n 3, 73, 72) := by decide +kernel
theorem c335_73 : fx_op 335 73 = some (.iload_n 2, 74, 73) := by decide +kernel
theorem c335_74 : fx_op 335 74 = some (.iload 6, 76, 74) := by decide +kernel
theorem c335_76 : fx_op 335 76 = some (.iadd, 77, 76) := by decide +kernel
theorem c335_77 : fx_ci 335 77 = some (1, 78) := by decide +kernel
theorem c335_78 : fx_op 335 78 = some (.isub, 79, 78) := by decide +kernel
theorem c335_91 : fx_op 335 91 = some (.iload 6, 93, 91) := by decide +kernel
theorem c335_93 : fx_op 335 93 = some (.ifCond .le 20, 96, 113) := by decide +kernel
theorem c335_113 : fx_op 335 113 = some (.iload 4, 115, 113) := by decide +kernel
theorem c335_115 : fx_op 335 115 = some (.istore 7, 117, 115) := by decide +kernel
theorem c335_96 : fx_op 335 96 = some (.aload_n 0, 97, 96) := by decide +kernel
theorem c335_97 : fx_op 335 97 = some (.iload_n 3, 98, 97) := by decide +kernel
theorem c335_98 : fx_op 335 98 = some (.iload_n 2, 99, 98) := by decide +kernel
theorem c335_99 : fx_op 335 99 = some (.iload 6, 101, 99) := by decide +kernel
theorem c335_101 : fx_op 335 101 = some (.iadd, 102, 101) := by decide +kernel
theorem c335_102 : fx_ci 335 102 = some (1, 103) := by decide +kernel
theorem c335_103 : fx_op 335 103 = some (.isub, 104, 103) := by decide +kernel
theorem c335_104 : fx_ca 335 104 = some (337, 3, 2, 107) := by decide +kernel
theorem c335_79 : fx_ca 335 79 = some (337, 3, 2, 82) := by decide +kernel
theorem c335_117 : fx_op 335 117 = some (.iload 7, 119, 117) := by decide +kernel
theorem c335_119 : fx_op 335 119 = some (.iload 6, 121, 119) := by decide +kernel
theorem c335_121 : fx_op 335 121 = some (.if_icmp .le 23, 124, 144) := by decide +kernel
theorem c335_124 : fx_op 335 124 = some (.aload_n 0, 125, 124) := by decide +kernel
theorem c335_125 : fx_op 335 125 = some (.iload_n 2, 126, 125) := by decide +kernel
theorem c335_126 : fx_op 335 126 = some (.iload 7, 128, 126) := by decide +kernel
theorem c335_128 : fx_op 335 128 = some (.iadd, 129, 128) := by decide +kernel
theorem c335_129 : fx_ci 335 129 = some (1, 130) := by decide +kernel
theorem c335_130 : fx_op 335 130 = some (.isub, 131, 130) := by decide +kernel
theorem c335_131 : fx_op 335 131 = some (.iload_n 2, 132, 131) := by decide +kernel
theorem c335_132 : fx_op 335 132 = some (.iload 7, 134, 132) := by decide +kernel
theorem c335_134 : fx_op 335 134 = some (.iadd, 135, 134) := by decide +kernel
theorem c335_144 : fx_op 335 144 = some (.aload_n 0, 145, 144) := by decide +kernel
theorem c335_145 : fx_op 335 145 = some (.iload_n 3, 146, 145) := by decide +kernel
theorem c335_146 : fx_op 335 146 = some (.iload_n 2, 147, 146) := by decide +kernel
theorem c335_147 : fx_op 335 147 = some (.iload 6, 149, 147) := by decide +kernel
theorem c335_149 : fx_op 335 149 = some (.iadd, 150, 149) := by decide +kernel
theorem c335_150 : fx_ca 335 150 = some (265, 3, 2, 153) := by decide +kernel
theorem c335_135 : fx_ca 335 135 = some (265, 3, 2, 138) := by decide +kernel
theorem c335_107 : fx_op 335 107 = some (.ifCond .ne 6, 110, 113) := by decide +kernel
theorem c335_156 : fx_op 335 156 = some (.iinc 5 1, 159, 156) := by decide +kernel
theorem c335_110 : fx_op 335 110 = some (.goto 46, 113, 156) := by decide +kernel
theorem c335_159 : fx_op 335 159 = some (.goto (-117), 162, 42) := by decide +kernel
theorem c335_82 : fx_op 335 82 = some (.ifCond .ge 9, 85, 91) := by decide +kernel
theorem c335_85 : fx_op 335 85 = some (.iinc 6 (-1), 88, 85) := by decide +kernel
theorem c335_88 : fx_op 335 88 = some (.goto (-22), 91, 66) := by decide +kernel
theorem c335_153 : fx_op 335 153 = some (.iinc 4 1, 156, 153) := by decide +kernel
theorem c335_138 : fx_op 335 138 = some (.iinc 7 (-1), 141, 138) := by decide +kernel
theorem c335_141 : fx_op 335 141 = some (.goto (-24), 144, 117) := by decide +kernel
theorem s335_0 {kc : List va_E} {d : Nat} {x1 : Int} {M : fx_M} {Q : Option fx_V → fx_M → Prop} (H : wp kc (d + 1) 335 11 [some (jR 133), some (jI x1), some (jI (12 * x1)), some (jI 24), some (jI 0), none, none, none] [] M Q) : wp kc (d + 1) 335 0 [some (jR 133), some (jI x1), none, none, none, none, none, none] [] M Q :=
  (x_ci c335_0 (x_ildn c335_2 rfl (x_imul c335_3 (x_istn (l' := [some (jR 133), some (jI x1), some (jI (12 * x1)), none, none, none, none, none]) c335_4 rfl (x_ci c335_5 (x_istn (l' := [some (jR 133), some (jI x1), some (jI (12 * x1)), some (jI 24), none, none, none, none]) c335_7 rfl (x_ci c335_8 (x_ist (l' := [some (jR 133), some (jI x1), some (jI (12 * x1)), some (jI 24), some (jI 0), none, none, none]) c335_9 rfl (wp_wk (l' := [some (jR 133), some (jI x1), some (jI (12 * x1)), some (jI 24), some (jI 0), none, none, none]) ⟨rfl, ⟨rfl, ⟨rfl, ⟨rfl, ⟨rfl, trivial⟩⟩⟩⟩⟩ H)))))))))
theorem s335_11 {kc : List va_E} {d : Nat} {v1 v2 v3 v4 : Int} {M : fx_M} {Q : Option fx_V → fx_M → Prop} (H : (((0 : Int) ≤ v1 ∧ v1 < 10)) ∧ ((fx_in32 v4) ∧ (fx_in32 (M 149 v1))) ∧ (M 149 v1 ≤ v4 → wp kc (d + 1) 335 42 [some (jR 133), some (jI v1), some (jI v2), some (jI v3), some (jI 0), some (jI 0), none, none] [] M Q) ∧ (v4 < M 149 v1 → wc kc d 336 [jR 133, jI (v2 + v4)] M (fun v M1 => wp kc (d + 1) 335 30 [some (jR 133), some (jI v1), some (jI v2), some (jI v3), some (jI v4), none, none, none] (v.toList ++ []) M1 Q))) : wp kc (d + 1) 335 11 [some (jR 133), some (jI v1), some (jI v2), some (jI v3), some (jI v4), none, none, none] [] M Q :=
  (x_ild c335_11 rfl (x_aldn c335_13 rfl (x_gfr c335_14 k_133_40 (x_ildn c335_17 rfl (x_iald c335_18 a_149 H.1 (by decide) (x_cge c335_19 H.2.1.1 H.2.1.2 (fun h1 => (x_ci c335_36 (x_ist (l' := [some (jR 133), some (jI v1), some (jI v2), some (jI v3), some (jI 0), none, none, none]) c335_37 rfl (x_ci c335_39 (x_ist (l' := [some (jR 133), some (jI v1), some (jI v2), some (jI v3), some (jI 0), some (jI 0), none, none]) c335_40 rfl (wp_wk (l' := [some (jR 133), some (jI v1), some (jI v2), some (jI v3), some (jI 0), some (jI 0), none, none]) ⟨rfl, ⟨rfl, ⟨rfl, ⟨rfl, ⟨rfl, ⟨rfl, trivial⟩⟩⟩⟩⟩⟩ (H.2.2.1 h1))))))) (fun h2 => (x_aldn c335_22 rfl (x_ildn c335_23 rfl (x_ild c335_24 rfl (x_iadd c335_26 (wp_wk (l' := [some (jR 133), some (jI v1), some (jI v2), some (jI v3), some (jI v4), none, none, none]) ⟨rfl, ⟨rfl, ⟨rfl, ⟨rfl, ⟨rfl, trivial⟩⟩⟩⟩⟩ (x_cv (As := [jI (v2 + v4)]) (st := []) c335_27 cl_133 kl336 rfl (Nat.le_of_ble_eq_true rfl) mx336 (Nat.le_refl _) (H.2.2.2 h2))))))))))))))
theorem s335_30 {kc : List va_E} {d : Nat} {v1 v2 v3 v4 : Int} {M : fx_M} {Q : Option fx_V → fx_M → Prop} (H : wp kc (d + 1) 335 11 [some (jR 133), some (jI v1), some (jI v2), some (jI v3), some (jI (v4 + 1)), none, none, none] [] M Q) : wp kc (d + 1) 335 30 [some (jR 133), some (jI v1), some (jI v2), some (jI v3), some (jI v4), none, none, none] [] M Q :=
  (x_inc (l' := [some (jR 133), some (jI v1), some (jI v2), some (jI v3), some (jI (v4 + 1)), none, none, none]) c335_30 rfl rfl (x_goto c335_33 (wp_wk (l' := [some (jR 133), some (jI v1), some (jI v2), some (jI v3), some (jI (v4 + 1)), none, none, none]) ⟨rfl, ⟨rfl, ⟨rfl, ⟨rfl, ⟨rfl, trivial⟩⟩⟩⟩⟩ H)))
theorem s335_42 {kc : List va_E} {d : Nat} {v1 v2 v3 v4 v5 : Int} {M : fx_M} {Q : Option fx_V → fx_M → Prop} (H : (((0 : Int) ≤ v1 ∧ v1 < 10)) ∧ ((fx_in32 v5) ∧ (fx_in32 (M 149 v1))) ∧ (M 149 v1 ≤ v5 → (((0 : Int) ≤ v1 ∧ v1 < 10)) ∧ Q none (fx_up M 149 v1 v4)) ∧ (v5 < M 149 v1 → wc kc d 265 [jR 133, jI (v2 + v5), jI v3] M (fun v M1 => wp kc (d + 1) 335 62 [some (jR 133), some (jI v1), some (jI v2), some (jI v3), some (jI v4), some (jI v5), none, none] (v.toList ++ []) M1 Q))) : wp kc (d + 1) 335 42 [some (jR 133), some (jI v1), some (jI v2), some (jI v3), some (jI v4), some (jI v5), none, none] [] M Q :=
  (x_ild c335_42 rfl (x_aldn c335_44 rfl (x_gfr c335_45 k_133_40 (x_ildn c335_48 rfl (x_iald c335_49 a_149 H.1 (by decide) (x_cge c335_50 H.2.1.1 H.2.1.2 (fun h1 => (x_aldn c335_162 rfl (x_gfr c335_163 k_133_40 (x_ildn c335_166 rfl (x_ild c335_167 rfl (x_iast c335_169 a_149 (H.2.2.1 h1).1 (by decide) (x_vr c335_170 r335 (H.2.2.1 h1).2))))))) (fun h2 => (x_aldn c335_53 rfl (x_ildn c335_54 rfl (x_ild c335_55 rfl (x_iadd c335_57 (x_ildn c335_58 rfl (wp_wk (l' := [some (jR 133), some (jI v1), some (jI v2), some (jI v3), some (jI v4), some (jI v5), none, none]) ⟨rfl, ⟨rfl, ⟨rfl, ⟨rfl, ⟨rfl, ⟨rfl, trivial⟩⟩⟩⟩⟩⟩ (x_cv (As := [jI (v2 + v5), jI v3]) (st := []) c335_59 cl_133 kl265 rfl (Nat.le_of_ble_eq_true rfl) mx265 (Nat.le_refl _) (H.2.2.2 h2)))))))))))))))
theorem s335_62 {kc : List va_E} {d : Nat} {v1 v2 v3 v4 v5 : Int} {M : fx_M} {Q : Option fx_V → fx_M → Prop} (H : wp kc (d + 1) 335 66 [some (jR 133), some (jI v1), some (jI v2), some (jI v3), some (jI v4), some (jI v5), some (jI v4), none] [] M Q) : wp kc (d + 1) 335 62 [some (jR 133), some (jI v1), some (jI v2), some (jI v3), some (jI v4), some (jI v5), none, none] [] M Q :=
  (x_ild c335_62 rfl (x_ist (l' := [some (jR 133), some (jI v1), some (jI v2), some (jI v3), some (jI v4), some (jI v5), some (jI v4), none]) c335_64 rfl (wp_wk (l' := [some (jR 133), some (jI v1), some (jI v2), some (jI v3), some (jI v4), some (jI v5), some (jI v4), none]) ⟨rfl, ⟨rfl, ⟨rfl, ⟨rfl, ⟨rfl, ⟨rfl, ⟨rfl, trivial⟩⟩⟩⟩⟩⟩⟩ H)))
theorem s335_66 {kc : List va_E} {d : Nat} {v1 v2 v3 v4 v5 v6 : Int} {M : fx_M} {Q : Option fx_V → fx_M → Prop} (H : ((fx_in32 v6)) ∧ (v6 ≤ 0 → ((fx_in32 v6)) ∧ (v6 ≤ 0 → wp kc (d + 1) 335 117 [some (jR 133), some (jI v1), some (jI v2), some (jI v3), some (jI v4), some (jI v5), some (jI v6), some (jI v4)] [] M Q) ∧ (0 < v6 → wc kc d 337 [jR 133, jI v3, jI ((v2 + v6) - 1)] M (fun v M1 => wp kc (d + 1) 335 107 [some (jR 133), some (jI v1), some (jI v2), some (jI v3), some (jI v4), some (jI v5), some (jI v6), none] (v.toList ++ []) M1 Q))) ∧ (0 < v6 → wc kc d 337 [jR 133, jI v3, jI ((v2 + v6) - 1)] M (fun v M1 => wp kc (d + 1) 335 82 [some (jR 133), some (jI v1), some (jI v2), some (jI v3), some (jI v4), some (jI v5), some (jI v6), none] (v.toList ++ []) M1 Q))) : wp kc (d + 1) 335 66 [some (jR 133), some (jI v1), some (jI v2), some (jI v3), some (jI v4), some (jI v5), some (jI v6), none] [] M Q :=
  (x_ild c335_66 rfl (x_zle c335_68 H.1 (fun h3 => (x_ild c335_91 rfl (x_zle c335_93 (H.2.1 h3).1 (fun h1 => (x_ild c335_113 rfl (x_ist (l' := [some (jR 133), some (jI v1), some (jI v2), some (jI v3), some (jI v4), some (jI v5), some (jI v6), some (jI v4)]) c335_115 rfl (wp_wk (l' := [some (jR 133), some (jI v1), some (jI v2), some (jI v3), some (jI v4), some (jI v5), some (jI v6), some (jI v4)]) ⟨rfl, ⟨rfl, ⟨rfl, ⟨rfl, ⟨rfl, ⟨rfl, ⟨rfl, ⟨rfl, trivial⟩⟩⟩⟩⟩⟩⟩⟩ ((H.2.1 h3).2.1 h1))))) (fun h2 => (x_aldn c335_96 rfl (x_ildn c335_97 rfl (x_ildn c335_98 rfl (x_ild c335_99 rfl (x_iadd c335_101 (x_ci c335_102 (x_isub c335_103 (wp_wk (l' := [some (jR 133), some (jI v1), some (jI v2), some (jI v3), some (jI v4), some (jI v5), some (jI v6), none]) ⟨rfl, ⟨rfl, ⟨rfl, ⟨rfl, ⟨rfl, ⟨rfl, ⟨rfl, trivial⟩⟩⟩⟩⟩⟩⟩ (x_cv (As := [jI v3, jI ((v2 + v6) - 1)]) (st := []) c335_104 cl_133 kl337 rfl (Nat.le_of_ble_eq_true rfl) mx337 (Nat.le_refl _) ((H.2.1 h3).2.2 h2)))))))))))))) (fun h4 => (x_aldn c335_71 rfl (x_ildn c335_72 rfl (x_ildn c335_73 rfl (x_ild c335_74 rfl (x_iadd c335_76 (x_ci c335_77 (x_isub c335_78 (wp_wk (l' := [some (jR 133), some (jI v1), some (jI v2), some (jI v3), some (jI v4), some (jI v5), some (jI v6), none]) ⟨rfl, ⟨rfl, ⟨rfl, ⟨rfl, ⟨rfl, ⟨rfl, ⟨rfl, trivial⟩⟩⟩⟩⟩⟩⟩ (x_cv (As := [jI v3, jI ((v2 + v6) - 1)]) (st := []) c335_79 cl_133 kl337 rfl (Nat.le_of_ble_eq_true rfl) mx337 (Nat.le_refl _) (H.2.2 h4)))))))))))))
theorem s335_82 {kc : List va_E} {d : Nat} {v1 v2 v3 v4 v5 v6 u0 : Int} {M : fx_M} {Q : Option fx_V → fx_M → Prop} (H : ((fx_in32 u0)) ∧ (0 ≤ u0 → ((fx_in32 v6)) ∧ (v6 ≤ 0 → wp kc (d + 1) 335 117 [some (jR 133), some (jI v1), some (jI v2), some (jI v3), some (jI v4), some (jI v5), some (jI v6), some (jI v4)] [] M Q) ∧ (0 < v6 → wc kc d 337 [jR 133, jI v3, jI ((v2 + v6) - 1)] M (fun v M1 => wp kc (d + 1) 335 107 [some (jR 133), some (jI v1), some (jI v2), some (jI v3), some (jI v4), some (jI v5), some (jI v6), none] (v.toList ++ []) M1 Q))) ∧ (u0 < 0 → wp kc (d + 1) 335 66 [some (jR 133), some (jI v1), some (jI v2), some (jI v3), some (jI v4), some (jI v5), some (jI (v6 + (-1))), none] [] M Q)) : wp kc (d + 1) 335 82 [some (jR 133), some (jI v1), some (jI v2), some (jI v3), some (jI v4), some (jI v5), some (jI v6), none] [jI u0] M Q :=
  (x_zge c335_82 H.1 (fun h3 => (x_ild c335_91 rfl (x_zle c335_93 (H.2.1 h3).1 (fun h1 => (x_ild c335_113 rfl (x_ist (l' := [some (jR 133), some (jI v1), some (jI v2), some (jI v3), some (jI v4), some (jI v5), some (jI v6), some (jI v4)]) c335_115 rfl (wp_wk (l' := [some (jR 133), some (jI v1), some (jI v2), some (jI v3), some (jI v4), some (jI v5), some (jI v6), some (jI v4)]) ⟨rfl, ⟨rfl, ⟨rfl, ⟨rfl, ⟨rfl, ⟨rfl, ⟨rfl, ⟨rfl, trivial⟩⟩⟩⟩⟩⟩⟩⟩ ((H.2.1 h3).2.1 h1))))) (fun h2 => (x_aldn c335_96 rfl (x_ildn c335_97 rfl (x_ildn c335_98 rfl (x_ild c335_99 rfl (x_iadd c335_101 (x_ci c335_102 (x_isub c335_103 (wp_wk (l' := [some (jR 133), some (jI v1), some (jI v2), some (jI v3), some (jI v4), some (jI v5), some (jI v6), none]) ⟨rfl, ⟨rfl, ⟨rfl, ⟨rfl, ⟨rfl, ⟨rfl, ⟨rfl, trivial⟩⟩⟩⟩⟩⟩⟩ (x_cv (As := [jI v3, jI ((v2 + v6) - 1)]) (st := []) c335_104 cl_133 kl337 rfl (Nat.le_of_ble_eq_true rfl) mx337 (Nat.le_refl _) ((H.2.1 h3).2.2 h2)))))))))))))) (fun h4 => (x_inc (l' := [some (jR 133), some (jI v1), some (jI v2), some (jI v3), some (jI v4), some (jI v5), some (jI (v6 + (-1))), none]) c335_85 rfl rfl (x_goto c335_88 (wp_wk (l' := [some (jR 133), some (jI v1), some (jI v2), some (jI v3), some (jI v4), some (jI v5), some (jI (v6 + (-1))), none]) ⟨rfl, ⟨rfl, ⟨rfl, ⟨rfl, ⟨rfl, ⟨rfl, ⟨rfl, trivial⟩⟩⟩⟩⟩⟩⟩ (H.2.2 h4))))))
theorem s335_107 {kc : List va_E} {d : Nat} {v1 v2 v3 v4 v5 v6 u0 : Int} {M : fx_M} {Q : Option fx_V → fx_M → Prop} (H : ((fx_in32 u0)) ∧ (u0 ≠ 0 → wp kc (d + 1) 335 117 [some (jR 133), some (jI v1), some (jI v2), some (jI v3), some (jI v4), some (jI v5), some (jI v6), some (jI v4)] [] M Q) ∧ (u0 = 0 → wp kc (d + 1) 335 42 [some (jR 133), some (jI v1), some (jI v2), some (jI v3), some (jI v4), some (jI (v5 + 1)), none, none] [] M Q)) : wp kc (d + 1) 335 107 [some (jR 133), some (jI v1), some (jI v2), some (jI v3), some (jI v4), some (jI v5), some (jI v6), none] [jI u0] M Q :=
  (x_zne c335_107 H.1 (fun h1 => (x_ild c335_113 rfl (x_ist (l' := [some (jR 133), some (jI v1), some (jI v2), some (jI v3), some (jI v4), some (jI v5), some (jI v6), some (jI v4)]) c335_115 rfl (wp_wk (l' := [some (jR 133), some (jI v1), some (jI v2), some (jI v3), some (jI v4), some (jI v5), some (jI v6), some (jI v4)]) ⟨rfl, ⟨rfl, ⟨rfl, ⟨rfl, ⟨rfl, ⟨rfl, ⟨rfl, ⟨rfl, trivial⟩⟩⟩⟩⟩⟩⟩⟩ (H.2.1 h1))))) (fun h2 => (x_goto c335_110 (x_inc (l' := [some (jR 133), some (jI v1), some (jI v2), some (jI v3), some (jI v4), some (jI (v5 + 1)), some (jI v6), none]) c335_156 rfl rfl (x_goto c335_159 (wp_wk (l' := [some (jR 133), some (jI v1), some (jI v2), some (jI v3), some (jI v4), some (jI (v5 + 1)), none, none]) ⟨rfl, ⟨rfl, ⟨rfl, ⟨rfl, ⟨rfl, ⟨rfl, trivial⟩⟩⟩⟩⟩⟩ (H.2.2 h2)))))))
theorem s335_117 {kc : List va_E} {d : Nat} {v1 v2 v3 v4 v5 v6 v7 : Int} {M : fx_M} {Q : Option fx_V → fx_M → Prop} (H : ((fx_in32 v7) ∧ (fx_in32 v6)) ∧ (v7 ≤ v6 → wc kc d 265 [jR 133, jI v3, jI (v2 + v6)] M (fun v M1 => wp kc (d + 1) 335 153 [some (jR 133), some (jI v1), some (jI v2), some (jI v3), some (jI v4), some (jI v5), none, none] (v.toList ++ []) M1 Q)) ∧ (v6 < v7 → wc kc d 265 [jR 133, jI ((v2 + v7) - 1), jI (v2 + v7)] M (fun v M1 => wp kc (d + 1) 335 138 [some (jR 133), some (jI v1), some (jI v2), some (jI v3), some (jI v4), some (jI v5), some (jI v6), some (jI v7)] (v.toList ++ []) M1 Q))) : wp kc (d + 1) 335 117 [some (jR 133), some (jI v1), some (jI v2), some (jI v3), some (jI v4), some (jI v5), some (jI v6), some (jI v7)] [] M Q :=
  (x_ild c335_117 rfl (x_ild c335_119 rfl (x_cle c335_121 H.1.1 H.1.2 (fun h1 => (x_aldn c335_144 rfl (x_ildn c335_145 rfl (x_ildn c335_146 rfl (x_ild c335_147 rfl (x_iadd c335_149 (wp_wk (l' := [some (jR 133), some (jI v1), some (jI v2), some (jI v3), some (jI v4), some (jI v5), none, none]) ⟨rfl, ⟨rfl, ⟨rfl, ⟨rfl, ⟨rfl, ⟨rfl, trivial⟩⟩⟩⟩⟩⟩ (x_cv (As := [jI v3, jI (v2 + v6)]) (st := []) c335_150 cl_133 kl265 rfl (Nat.le_of_ble_eq_true rfl) mx265 (Nat.le_refl _) (H.2.1 h1))))))))) (fun h2 => (x_aldn c335_124 rfl (x_ildn c335_125 rfl (x_ild c335_126 rfl (x_iadd c335_128 (x_ci c335_129 (x_isub c335_130 (x_ildn c335_131 rfl (x_ild c335_132 rfl (x_iadd c335_134 (wp_wk (l' := [some (jR 133), some (jI v1), some (jI v2), some (jI v3), some (jI v4), some (jI v5), some (jI v6), some (jI v7)]) ⟨rfl, ⟨rfl, ⟨rfl, ⟨rfl, ⟨rfl, ⟨rfl, ⟨rfl, ⟨rfl, trivial⟩⟩⟩⟩⟩⟩⟩⟩ (x_cv (As := [jI ((v2 + v7) - 1), jI (v2 + v7)]) (st := []) c335_135 cl_133 kl265 rfl (Nat.le_of_ble_eq_true rfl) mx265 (Nat.le_refl _) (H.2.2 h2))))))))))))))))
theorem s335_138 {kc : List va_E} {d : Nat} {v1 v2 v3 v4 v5 v6 v7 : Int} {M : fx_M} {Q : Option fx_V → fx_M → Prop} (H : wp kc (d + 1) 335 117 [some (jR 133), some (jI v1), some (jI v2), some (jI v3), some (jI v4), some (jI v5), some (jI v6), some (jI (v7 + (-1)))] [] M Q) : wp kc (d + 1) 335 138 [some (jR 133), some (jI v1), some (jI v2), some (jI v3), some (jI v4), some (jI v5), some (jI v6), some (jI v7)] [] M Q :=
  (x_inc (l' := [some (jR 133), some (jI v1), some (jI v2), some (jI v3), some (jI v4), some (jI v5), some (jI v6), some (jI (v7 + (-1)))]) c335_138 rfl rfl (x_goto c335_141 (wp_wk (l' := [some (jR 133), some (jI v1), some (jI v2), some (jI v3), some (jI v4), some (jI v5), some (jI v6), some (jI (v7 + (-1)))]) ⟨rfl, ⟨rfl, ⟨rfl, ⟨rfl, ⟨rfl, ⟨rfl, ⟨rfl, ⟨rfl, trivial⟩⟩⟩⟩⟩⟩⟩⟩ H)))
theorem s335_153 {kc : List va_E} {d : Nat} {v1 v2 v3 v4 v5 : Int} {M : fx_M} {Q : Option fx_V → fx_M → Prop} (H : wp kc (d + 1) 335 42 [some (jR 133), some (jI v1), some (jI v2), some (jI v3), some (jI (v4 + 1)), some (jI (v5 + 1)), none, none] [] M Q) : wp kc (d + 1) 335 153 [some (jR 133), some (jI v1), some (jI v2), some (jI v3), some (jI v4), some (jI v5), none, none] [] M Q :=
  (x_inc (l' := [some (jR 133), some (jI v1), some (jI v2), some (jI v3), some (jI (v4 + 1)), some (jI v5), none, none]) c335_153 rfl rfl (x_inc (l' := [some (jR 133), some (jI v1), some (jI v2), some (jI v3), some (jI (v4 + 1)), some (jI (v5 + 1)), none, none]) c335_156 rfl rfl (x_goto c335_159 (wp_wk (l' := [some (jR 133), some (jI v1), some (jI v2), some (jI v3), some (jI (v4 + 1)), some (jI (v5 + 1)), none, none]) ⟨rfl, ⟨rfl, ⟨rfl, ⟨rfl, ⟨rfl, ⟨rfl, trivial⟩⟩⟩⟩⟩⟩ H))))
theorem s335 {kc : List va_E} {d : Nat} {x1 : Int} {M : fx_M} {Q : Option fx_V → fx_M → Prop} (H : wp kc (d + 1) 335 11 [some (jR 133), some (jI x1), some (jI (12 * x1)), some (jI 24), some (jI 0), none, none, none] [] M Q) : wc kc (d + 1) 335 [jR 133, jI x1] M Q :=
  wc_of (wp_wk (l' := [some (jR 133), some (jI x1), none, none, none, none, none, none]) ⟨rfl, ⟨rfl, trivial⟩⟩ (s335_0 H))

/- PuzzleHouseModel.orderCells(I)V -/
theorem c336_0 : fx_op 336 0 = some (.aload_n 0, 1, 0) := by decide +kernel
theorem c336_1 : fx_gf 336 1 = some (12, 41, 4) := by decide +kernel
theorem c336_4 : fx_op 336 4 = some (.iload_n 1, 5, 4) := by decide +kernel
theorem c336_6 : fx_op 336 6 = some (.istore_n 2, 7, 6) := by decide +kernel
theorem c336_7 : fx_op 336 7 = some (.iload_n 2, 8, 7) := by decide +kernel
theorem c336_8 : fx_ci 336 8 = some (48, 10) := by decide +kernel
theorem c336_10 : fx_op 336 10 = some (.if_icmp .eq 15, 13, 25) := by decide +kernel
theorem c336_13 : fx_op 336 13 = some (.iload_n 2, 14, 13) := by decide +kernel
theorem c336_14 : fx_ci 336 14 = some (51, 16) := by decide +kernel
theorem c336_16 : fx_op 336 16 = some (.if_icmp .eq 9, 19, 25) := by decide +kernel
theorem c336_19 : fx_op 336 19 = some (.iload_n 2, 20, 19) := by decide +kernel
theorem c336_20 : fx_ci 336 20 = some (52, 22) := by decide +kernel
theorem c336_22 : fx_op 336 22 = some (.if_icmp .ne 4, 25, 26) := by decide +kernel
theorem c336_26 : fx_op 336 26 = some (.iload_n 2, 27, 26) := by decide +kernel
theorem c336_27 : fx_ci 336 27 = some (50, 29) := by decide +kernel
theorem c336_29 : fx_op 336 29 = some (.if_icmp .ne 7, 32, 36) := by decide +kernel
theorem c336_36 : fx_ci 336 36 = some (0, 37) := by decide +kernel
theorem c336_32 : fx_ci 336 32 = some (1, 33) := by decide +kernel
theorem c336_33 : fx_op 336 33 = some (.goto 4, 36, 37) := by decide +kernel
theorem c336_37 : fx_op 336 37 = some (.istore_n 3, 38, 37) := by decide +kernel
theorem c336_38 : fx_op 336 38 = some (.iload_n 3, 39, 38) := by decide +kernel
theorem c336_39 : fx_ci 336 39 = some (1, 40) := by decide +kernel
theorem c336_40 : fx_op 336 40 = some (.iadd, 41, 40) := by decide +kernel
theorem c336_41 : fx_op 336 41 = some (.istore 4, 43, 41) := by decide +kernel
theorem c336_5 : fx_op 336 5 = some (.iaload, 6, 5) := by decide +kernel
theorem c336_25 : fx_op 336 25 = some (.return_, 26, 25) := by decide +kernel
theorem c336_43 : fx_op 336 43 = some (.iload 4, 45, 43) := by decide +kernel
theorem c336_45 : fx_op 336 45 = some (.aload_n 0, 46, 45) := by decide +kernel
theorem c336_46 : fx_gf 336 46 = some (12, 43, 49) := by decide +kernel
theorem c336_49 : fx_op 336 49 = some (.iload_n 1, 50, 49) := by decide +kernel
theorem c336_51 : fx_op 336 51 = some (.if_icmp .ge 104, 54, 155) := by decide +kernel
theorem c336_54 : fx_op 336 54 = some (.iload 4, 56, 54) := by decide +kernel
theorem c336_56 : fx_op 336 56 = some (.istore 5, 58, 56) := by decide +kernel
theorem c336_50 : fx_op 336 50 = some (.iaload, 51, 50) := by decide +kernel
theorem c336_155 : fx_op 336 155 = some (.return_, 156, 155) := by decide +kernel
theorem c336_58 : fx_op 336 58 = some (.iload 5, 60, 58) := by decide +kernel
theorem c336_60 : fx_op 336 60 = some (.iload_n 3, 61, 60) := by decide +kernel
theorem c336_61 : fx_op 336 61 = some (.if_icmp .le 88, 64, 149) := by decide +kernel
theorem c336_64 : fx_op 336 64 = some (.aload_n 0, 65, 64) := by decide +kernel
theorem c336_65 : fx_gf 336 65 = some (12, 44, 68) := by decide +kernel
theorem c336_68 : fx_ci 336 68 = some (4, 69) := by decide +kernel
theorem c336_69 : fx_op 336 69 = some (.iload_n 1, 70, 69) := by decide +kernel
theorem c336_70 : fx_op 336 70 = some (.imul, 71, 70) := by decide +kernel
theorem c336_71 : fx_op 336 71 = some (.iload 5, 73, 71) := by decide +kernel
theorem c336_73 : fx_op 336 73 = some (.iadd, 74, 73) := by decide +kernel
theorem c336_74 : fx_op 336 74 = some (.iaload, 75, 74) := by decide +kernel
theorem c336_75 : fx_op 336 75 = some (.aload_n 0, 76, 75) := by decide +kernel
theorem c336_76 : fx_gf 336 76 = some (12, 44, 79) := by decide +kernel
theorem c336_79 : fx_ci 336 79 = some (4, 80) := by decide +kernel
theorem c336_80 : fx_op 336 80 = some (.iload_n 1, 81, 80) := by decide +kernel
theorem c336_81 : fx_op 336 81 = some (.imul, 82, 81) := by decide +kernel
theorem c336_82 : fx_op 336 82 = some (.iload 5, 84, 82) := by decide +kernel
theorem c336_84 : fx_op 336 84 = some (.iadd, 85, 84) := by decide +kernel
theorem c336_85 : fx_ci 336 85 = some (1, 86) := by decide +kernel
theorem c336_86 : fx_op 336 86 = some (.isub, 87, 86) := by decide +kernel
theorem c336_87 : fx_op 336 87 = some (.iaload, 88, 87) := by decide +kernel
theorem c336_88 : fx_op 336 88 = some (.if_icmp .ge 61, 91, 149) := by decide +kernel
theorem c336_91 : fx_op 336 91 = some (.aload_n 0, 92, 91) := by decide +kernel
theorem c336_92 : fx_gf 336 92 = some (12, 44, 95) := by decide +kernel
theorem c336_95 : fx_ci 336 95 = some (4, 96) := by decide +kernel
theorem c336_96 : fx_op 336 96 = some (.iload_n 1, 97, 96) := by decide +kernel
theorem c336_97 : fx_op 336 97 = some (.imul, 98, 97) := by decide +kernel
theorem c336_98 : fx_op 336 98 = some (.iload 5, 100, 98) := by decide +kernel
theorem c336_100 : fx_op 336 100 = some (.iadd, 101, 100) := by decide +kernel
theorem c336_101 : fx_op 336 101 = some (.iaload, 102, 101) := by decide +kernel
theorem c336_102 : fx_op 336 102 = some (.istore 6, 104, 102) := by decide +kernel
theorem c336_104 : fx_op 336 104 = some (.aload_n 0, 105, 104) := by decide +kernel
theorem c336_105 : fx_gf 336 105 = some (12, 44, 108) := by decide +kernel
theorem c336_108 : fx_ci 336 108 = some (4, 109) := by decide +kernel
theorem c336_109 : fx_op 336 109 = some (.iload_n 1, 110, 109) := by decide +kernel
theorem c336_110 : fx_op 336 110 = some (.imul, 111, 110) := by decide +kernel
theorem c336_111 : fx_op 336 111 = some (.iload 5, 113, 111) := by decide +kernel
theorem c336_113 : fx_op 336 113 = some (.iadd, 114, 113) := by decide +kernel
theorem c336_114 : fx_op 336 114 = some (.aload_n 0, 115, 114) := by decide +kernel
theorem c336_115 : fx_gf 336 115 = some (12, 44, 118) := by decide +kernel
theorem c336_118 : fx_ci 336 118 = some (4, 119) := by decide +kernel
theorem c336_119 : fx_op 336 119 = some (.iload_n 1, 120, 119) := by decide +kernel
theorem c336_120 : fx_op 336 120 = some (.imul, 121, 120) := by decide +kernel
theorem c336_121 : fx_op 336 121 = some (.iload 5, 123, 121) := by decide +kernel
theorem c336_123 : fx_op 336 123 = some (.iadd, 124, 123) := by decide +kernel
theorem c336_124 : fx_ci 336 124 = some (1, 125) := by decide +kernel
theorem c336_125 : fx_op 336 125 = some (.isub, 126, 125) := by decide +kernel
theorem c336_126 : fx_op 336 126 = some (.iaload, 127, 126) := by decide +kernel
theorem c336_149 : fx_op 336 149 = some (.iinc 4 1, 152, 149) := by decide +kernel
theorem c336_128 : fx_op 336 128 = some (.aload_n 0, 129, 128) := by decide +kernel
theorem c336_129 : fx_gf 336 129 = some (12, 44, 132) := by decide +kernel
theorem c336_132 : fx_ci 336 132 = some (4, 133) := by decide +kernel
theorem c336_133 : fx_op 336 133 = some (.iload_n 1, 134, 133) := by decide +kernel
theorem c336_134 : fx_op 336 134 = some (.imul, 135, 134) := by decide +kernel
theorem c336_135 : fx_op 336 135 = some (.iload 5, 137, 135) := by decide +kernel
theorem c336_137 : fx_op 336 137 = some (.iadd, 138, 137) := by decide +kernel
theorem c336_138 : fx_ci 336 138 = some (1, 139) := by decide +kernel
theorem c336_139 : fx_op 336 139 = some (.isub, 140, 139) := by decide +kernel
theorem c336_140 : fx_op 336 140 = some (.iload 6, 142, 140) := by decide +kernel
theorem c336_143 : fx_op 336 143 = some (.iinc 5 (-1), 146, 143) := by decide +kernel
theorem c336_152 : fx_op 336 152 = some (.goto (-109), 155, 43) := by decide +kernel
theorem c336_127 : fx_op 336 127 = some (.iastore, 128, 127) := by decide +kernel
theorem c336_142 : fx_op 336 142 = some (.iastore, 143, 142) := by decide +kernel
theorem c336_146 : fx_op 336 146 = some (.goto (-88), 149, 58) := by decide +kernel
theorem s336_0 {kc : List va_E} {d : Nat} {x1 : Int} {M : fx_M} {Q : Option fx_V → fx_M → Prop} (H : (((0 : Int) ≤ x1 ∧ x1 < 120)) ∧ ((fx_in32 (M 150 x1))) ∧ (M 150 x1 = 48 → Q none M) ∧ (M 150 x1 ≠ 48 → ((fx_in32 (M 150 x1))) ∧ (M 150 x1 = 51 → Q none M) ∧ (M 150 x1 ≠ 51 → ((fx_in32 (M 150 x1))) ∧ (M 150 x1 ≠ 52 → ((fx_in32 (M 150 x1))) ∧ wp kc (d + 1) 336 43 [some (jR 133), some (jI x1), none, some (jI (if M 150 x1 = 50 then (1 : Int) else 0)), some (jI ((if M 150 x1 = 50 then (1 : Int) else 0) + 1)), none, none] [] M Q) ∧ (M 150 x1 = 52 → Q none M)))) : wp kc (d + 1) 336 0 [some (jR 133), some (jI x1), none, none, none, none, none] [] M Q :=
  (x_aldn c336_0 rfl (x_gfr c336_1 k_133_41 (x_ildn c336_4 rfl (x_iald c336_5 a_150 H.1 (by decide) (x_istn (l' := [some (jR 133), some (jI x1), some (jI (M 150 x1)), none, none, none, none]) c336_6 rfl (x_ildn c336_7 rfl (x_ci c336_8 (x_ceq c336_10 H.2.1 (by decide) (fun h5 => (x_vr c336_25 r336 (H.2.2.1 h5))) (fun h6 => (x_ildn c336_13 rfl (x_ci c336_14 (x_ceq c336_16 (H.2.2.2 h6).1 (by decide) (fun h3 => (x_vr c336_25 r336 ((H.2.2.2 h6).2.1 h3))) (fun h4 => (x_ildn c336_19 rfl (x_ci c336_20 (x_cne c336_22 ((H.2.2.2 h6).2.2 h4).1 (by decide) (fun h1 => (x_ildn c336_26 rfl (x_ci c336_27 (have K : wp kc (d + 1) 336 37 [some (jR 133), some (jI x1), none, none, none, none, none] [jI (if M 150 x1 = 50 then (1 : Int) else 0)] M Q := (x_istn (l' := [some (jR 133), some (jI x1), none, some (jI (if M 150 x1 = 50 then (1 : Int) else 0)), none, none, none]) c336_37 rfl (x_ildn c336_38 rfl (x_ci c336_39 (x_iadd c336_40 (x_ist (l' := [some (jR 133), some (jI x1), none, some (jI (if M 150 x1 = 50 then (1 : Int) else 0)), some (jI ((if M 150 x1 = 50 then (1 : Int) else 0) + 1)), none, none]) c336_41 rfl (wp_wk (l' := [some (jR 133), some (jI x1), none, some (jI (if M 150 x1 = 50 then (1 : Int) else 0)), some (jI ((if M 150 x1 = 50 then (1 : Int) else 0) + 1)), none, none]) ⟨rfl, ⟨rfl, ⟨rfl, ⟨rfl, trivial⟩⟩⟩⟩ (((H.2.2.2 h6).2.2 h4).2.1 h1).2)))))); (x_cne c336_29 (((H.2.2.2 h6).2.2 h4).2.1 h1).1 (by decide) (fun (h7 : M 150 x1 ≠ 50) => (x_ci c336_36 (wp_wk (l' := [some (jR 133), some (jI x1), none, none, none, none, none]) ⟨rfl, ⟨rfl, trivial⟩⟩ (by have K := K; first | (simp only [if_neg h7] at K ⊢; exact K) | (exfalso; omega))))) (fun (h8 : M 150 x1 = 50) => (x_ci c336_32 (x_goto c336_33 (wp_wk (l' := [some (jR 133), some (jI x1), none, none, none, none, none]) ⟨rfl, ⟨rfl, trivial⟩⟩ (by have K := K; first | (simp only [if_pos h8] at K ⊢; exact K) | (exfalso; omega))))))))))) (fun h2 => (x_vr c336_25 r336 (((H.2.2.2 h6).2.2 h4).2.2 h2)))))))))))))))))))
theorem s336_43 {kc : List va_E} {d : Nat} {v1 v3 v4 : Int} {M : fx_M} {Q : Option fx_V → fx_M → Prop} (H : (((0 : Int) ≤ v1 ∧ v1 < 120)) ∧ ((fx_in32 v4) ∧ (fx_in32 (M 152 v1))) ∧ (M 152 v1 ≤ v4 → Q none M) ∧ (v4 < M 152 v1 → wp kc (d + 1) 336 58 [some (jR 133), some (jI v1), none, some (jI v3), some (jI v4), some (jI v4), none] [] M Q)) : wp kc (d + 1) 336 43 [some (jR 133), some (jI v1), none, some (jI v3), some (jI v4), none, none] [] M Q :=
  (x_ild c336_43 rfl (x_aldn c336_45 rfl (x_gfr c336_46 k_133_43 (x_ildn c336_49 rfl (x_iald c336_50 a_152 H.1 (by decide) (x_cge c336_51 H.2.1.1 H.2.1.2 (fun h1 => (x_vr c336_155 r336 (H.2.2.1 h1))) (fun h2 => (x_ild c336_54 rfl (x_ist (l' := [some (jR 133), some (jI v1), none, some (jI v3), some (jI v4), some (jI v4), none]) c336_56 rfl (wp_wk (l' := [some (jR 133), some (jI v1), none, some (jI v3), some (jI v4), some (jI v4), none]) ⟨rfl, ⟨rfl, ⟨rfl, ⟨rfl, ⟨rfl, trivial⟩⟩⟩⟩⟩ (H.2.2.2 h2)))))))))))
theorem s336_58 {kc : List va_E} {d : Nat} {v1 v3 v4 v5 : Int} {M : fx_M} {Q : Option fx_V → fx_M → Prop} (H : ((fx_in32 v5) ∧ (fx_in32 v3)) ∧ (v5 ≤ v3 → wp kc (d + 1) 336 43 [some (jR 133), some (jI v1), none, some (jI v3), some (jI (v4 + 1)), none, none] [] M Q) ∧ (v3 < v5 → (((0 : Int) ≤ (4 * v1) + v5 ∧ (4 * v1) + v5 < 480)) ∧ (((0 : Int) ≤ ((4 * v1) + v5) - 1 ∧ ((4 * v1) + v5) - 1 < 480)) ∧ ((fx_in32 (M 153 ((4 * v1) + v5))) ∧ (fx_in32 (M 153 (((4 * v1) + v5) - 1)))) ∧ (M 153 (((4 * v1) + v5) - 1) ≤ M 153 ((4 * v1) + v5) → wp kc (d + 1) 336 43 [some (jR 133), some (jI v1), none, some (jI v3), some (jI (v4 + 1)), none, none] [] M Q) ∧ (M 153 ((4 * v1) + v5) < M 153 (((4 * v1) + v5) - 1) → (((0 : Int) ≤ (4 * v1) + v5 ∧ (4 * v1) + v5 < 480)) ∧ (((0 : Int) ≤ ((4 * v1) + v5) - 1 ∧ ((4 * v1) + v5) - 1 < 480)) ∧ (((0 : Int) ≤ (4 * v1) + v5 ∧ (4 * v1) + v5 < 480)) ∧ (((0 : Int) ≤ ((4 * v1) + v5) - 1 ∧ ((4 * v1) + v5) - 1 < 480)) ∧ wp kc (d + 1) 336 58 [some (jR 133), some (jI v1), none, some (jI v3), some (jI v4), some (jI (v5 + (-1))), none] [] (fx_up (fx_up M 153 ((4 * v1) + v5) (M 153 (((4 * v1) + v5) - 1))) 153 (((4 * v1) + v5) - 1) (M 153 ((4 * v1) + v5))) Q))) : wp kc (d + 1) 336 58 [some (jR 133), some (jI v1), none, some (jI v3), some (jI v4), some (jI v5), none] [] M Q :=
  (x_ild c336_58 rfl (x_ildn c336_60 rfl (x_cle c336_61 H.1.1 H.1.2 (fun h3 => (x_inc (l' := [some (jR 133), some (jI v1), none, some (jI v3), some (jI (v4 + 1)), some (jI v5), none]) c336_149 rfl rfl (x_goto c336_152 (wp_wk (l' := [some (jR 133), some (jI v1), none, some (jI v3), some (jI (v4 + 1)), none, none]) ⟨rfl, ⟨rfl, ⟨rfl, ⟨rfl, trivial⟩⟩⟩⟩ (H.2.1 h3))))) (fun h4 => (x_aldn c336_64 rfl (x_gfr c336_65 k_133_44 (x_ci c336_68 (x_ildn c336_69 rfl (x_imul c336_70 (x_ild c336_71 rfl (x_iadd c336_73 (x_iald c336_74 a_153 (H.2.2 h4).1 (by decide) (x_aldn c336_75 rfl (x_gfr c336_76 k_133_44 (x_ci c336_79 (x_ildn c336_80 rfl (x_imul c336_81 (x_ild c336_82 rfl (x_iadd c336_84 (x_ci c336_85 (x_isub c336_86 (x_iald c336_87 a_153 (H.2.2 h4).2.1 (by decide) (x_cge c336_88 (H.2.2 h4).2.2.1.1 (H.2.2 h4).2.2.1.2 (fun h1 => (x_inc (l' := [some (jR 133), some (jI v1), none, some (jI v3), some (jI (v4 + 1)), some (jI v5), none]) c336_149 rfl rfl (x_goto c336_152 (wp_wk (l' := [some (jR 133), some (jI v1), none, some (jI v3), some (jI (v4 + 1)), none, none]) ⟨rfl, ⟨rfl, ⟨rfl, ⟨rfl, trivial⟩⟩⟩⟩ ((H.2.2 h4).2.2.2.1 h1))))) (fun h2 => (x_aldn c336_91 rfl (x_gfr c336_92 k_133_44 (x_ci c336_95 (x_ildn c336_96 rfl (x_imul c336_97 (x_ild c336_98 rfl (x_iadd c336_100 (x_iald c336_101 a_153 ((H.2.2 h4).2.2.2.2 h2).1 (by decide) (x_ist (l' := [some (jR 133), some (jI v1), none, some (jI v3), some (jI v4), some (jI v5), some (jI (M 153 ((4 * v1) + v5)))]) c336_102 rfl (x_aldn c336_104 rfl (x_gfr c336_105 k_133_44 (x_ci c336_108 (x_ildn c336_109 rfl (x_imul c336_110 (x_ild c336_111 rfl (x_iadd c336_113 (x_aldn c336_114 rfl (x_gfr c336_115 k_133_44 (x_ci c336_118 (x_ildn c336_119 rfl (x_imul c336_120 (x_ild c336_121 rfl (x_iadd c336_123 (x_ci c336_124 (x_isub c336_125 (x_iald c336_126 a_153 ((H.2.2 h4).2.2.2.2 h2).2.1 (by decide) (x_iast c336_127 a_153 ((H.2.2 h4).2.2.2.2 h2).2.2.1 (by decide) (x_aldn c336_128 rfl (x_gfr c336_129 k_133_44 (x_ci c336_132 (x_ildn c336_133 rfl (x_imul c336_134 (x_ild c336_135 rfl (x_iadd c336_137 (x_ci c336_138 (x_isub c336_139 (x_ild c336_140 rfl (x_iast c336_142 a_153 ((H.2.2 h4).2.2.2.2 h2).2.2.2.1 (by decide) (x_inc (l' := [some (jR 133), some (jI v1), none, some (jI v3), some (jI v4), some (jI (v5 + (-1))), some (jI (M 153 ((4 * v1) + v5)))]) c336_143 rfl rfl (x_goto c336_146 (wp_wk (l' := [some (jR 133), some (jI v1), none, some (jI v3), some (jI v4), some (jI (v5 + (-1))), none]) ⟨rfl, ⟨rfl, ⟨rfl, ⟨rfl, ⟨rfl, trivial⟩⟩⟩⟩⟩ ((H.2.2 h4).2.2.2.2 h2).2.2.2.2)))))))))))))))))))))))))))))))))))))))))))))))))))))))))))))))))
theorem s336 {kc : List va_E} {d : Nat} {x1 : Int} {M : fx_M} {Q : Option fx_V → fx_M → Prop} (H : (((0 : Int) ≤ x1 ∧ x1 < 120)) ∧ ((fx_in32 (M 150 x1))) ∧ (M 150 x1 = 48 → Q none M) ∧ (M 150 x1 ≠ 48 → ((fx_in32 (M 150 x1))) ∧ (M 150 x1 = 51 → Q none M) ∧ (M 150 x1 ≠ 51 → ((fx_in32 (M 150 x1))) ∧ (M 150 x1 ≠ 52 → ((fx_in32 (M 150 x1))) ∧ wp kc (d + 1) 336 43 [some (jR 133), some (jI x1), none, some (jI (if M 150 x1 = 50 then (1 : Int) else 0)), some (jI ((if M 150 x1 = 50 then (1 : Int) else 0) + 1)), none, none] [] M Q) ∧ (M 150 x1 = 52 → Q none M)))) : wc kc (d + 1) 336 [jR 133, jI x1] M Q :=
  wc_of (wp_wk (l' := [some (jR 133), some (jI x1), none, none, none, none, none]) ⟨rfl, ⟨rfl, trivial⟩⟩ (s336_0 H))

/- PuzzleHouseModel.compareRules(II)I -/
theorem c337_0 : fx_op 337 0 = some (.aload_n 0, 1, 0) := by decide +kernel
theorem c337_1 : fx_gf 337 1 = some (12, 5, 4) := by decide +kernel
theorem c337_4 : fx_op 337 4 = some (.istore_n 3, 5, 4) := by decide +kernel
theorem c337_5 : fx_op 337 5 = some (.aload_n 0, 6, 5) := by decide +kernel
theorem c337_6 : fx_op 337 6 = some (.iload_n 1, 7, 6) := by decide +kernel
theorem c337_7 : fx_ca 337 7 = some (338, 2, 2, 10) := by decide +kernel
theorem c337_10 : fx_op 337 10 = some (.aload_n 0, 11, 10) := by decide +kernel
theorem c337_11 : fx_gf 337 11 = some (12, 5, 14) := by decide +kernel
theorem c337_14 : fx_op 337 14 = some (.istore 4, 16, 14) := by decide +kernel
theorem c337_16 : fx_op 337 16 = some (.aload_n 0, 17, 16) := by decide +kernel
theorem c337_17 : fx_op 337 17 = some (.iload_n 2, 18, 17) := by decide +kernel
theorem c337_18 : fx_ca 337 18 = some (338, 2, 2, 21) := by decide +kernel
theorem c337_21 : fx_op 337 21 = some (.aload_n 0, 22, 21) := by decide +kernel
theorem c337_22 : fx_op 337 22 = some (.iload_n 3, 23, 22) := by decide +kernel
theorem c337_23 : fx_op 337 23 = some (.iload 4, 25, 23) := by decide +kernel
theorem c337_25 : fx_ca 337 25 = some (339, 3, 2, 28) := by decide +kernel
theorem c337_28 : fx_op 337 28 = some (.istore 5, 30, 28) := by decide +kernel
theorem c337_30 : fx_op 337 30 = some (.aload_n 0, 31, 30) := by decide +kernel
theorem c337_31 : fx_op 337 31 = some (.iload_n 3, 32, 31) := by decide +kernel
theorem c337_32 : fx_pf 337 32 = some (12, 5, 0, 35) := by decide +kernel
theorem c337_35 : fx_op 337 35 = some (.iload 5, 37, 35) := by decide +kernel
theorem c337_37 : fx_op 337 37 = some (.ireturn, 38, 37) := by decide +kernel
theorem s337_0 {kc : List va_E} {d : Nat} {x1 x2 : Int} {M : fx_M} {Q : Option fx_V → fx_M → Prop} (H : wc kc d 338 [jR 133, jI x1] M (fun v M1 => wp kc (d + 1) 337 10 [some (jR 133), none, some (jI x2), some (jI (M 133 5)), none, none] (v.toList ++ []) M1 Q)) : wp kc (d + 1) 337 0 [some (jR 133), some (jI x1), some (jI x2), none, none, none] [] M Q :=
  (x_aldn c337_0 rfl (x_gfi c337_1 k_133_5 (x_istn (l' := [some (jR 133), some (jI x1), some (jI x2), some (jI (M 133 5)), none, none]) c337_4 rfl (x_aldn c337_5 rfl (x_ildn c337_6 rfl (wp_wk (l' := [some (jR 133), none, some (jI x2), some (jI (M 133 5)), none, none]) ⟨rfl, ⟨rfl, ⟨rfl, trivial⟩⟩⟩ (x_cv (As := [jI x1]) (st := []) c337_7 cl_133 kl338 rfl (Nat.le_of_ble_eq_true rfl) mx338 (Nat.le_refl _) H)))))))
theorem s337_10 {kc : List va_E} {d : Nat} {v2 v3 : Int} {M : fx_M} {Q : Option fx_V → fx_M → Prop} (H : wc kc d 338 [jR 133, jI v2] M (fun v M1 => wp kc (d + 1) 337 21 [some (jR 133), none, none, some (jI v3), some (jI (M 133 5)), none] (v.toList ++ []) M1 Q)) : wp kc (d + 1) 337 10 [some (jR 133), none, some (jI v2), some (jI v3), none, none] [] M Q :=
  (x_aldn c337_10 rfl (x_gfi c337_11 k_133_5 (x_ist (l' := [some (jR 133), none, some (jI v2), some (jI v3), some (jI (M 133 5)), none]) c337_14 rfl (x_aldn c337_16 rfl (x_ildn c337_17 rfl (wp_wk (l' := [some (jR 133), none, none, some (jI v3), some (jI (M 133 5)), none]) ⟨rfl, ⟨rfl, ⟨rfl, trivial⟩⟩⟩ (x_cv (As := [jI v2]) (st := []) c337_18 cl_133 kl338 rfl (Nat.le_of_ble_eq_true rfl) mx338 (Nat.le_refl _) H)))))))
theorem s337_21 {kc : List va_E} {d : Nat} {v3 v4 : Int} {M : fx_M} {Q : Option fx_V → fx_M → Prop} (H : wc kc d 339 [jR 133, jI v3, jI v4] M (fun v M1 => wp kc (d + 1) 337 28 [some (jR 133), none, none, some (jI v3), none, none] (v.toList ++ []) M1 Q)) : wp kc (d + 1) 337 21 [some (jR 133), none, none, some (jI v3), some (jI v4), none] [] M Q :=
  (x_aldn c337_21 rfl (x_ildn c337_22 rfl (x_ild c337_23 rfl (wp_wk (l' := [some (jR 133), none, none, some (jI v3), none, none]) ⟨rfl, ⟨rfl, trivial⟩⟩ (x_cv (As := [jI v3, jI v4]) (st := []) c337_25 cl_133 kl339 rfl (Nat.le_of_ble_eq_true rfl) mx339 (Nat.le_refl _) H)))))
theorem s337_28 {kc : List va_E} {d : Nat} {v3 u0 : Int} {M : fx_M} {Q : Option fx_V → fx_M → Prop} (H : Q (some (jI u0)) (fx_up M 133 5 v3)) : wp kc (d + 1) 337 28 [some (jR 133), none, none, some (jI v3), none, none] [jI u0] M Q :=
  (x_ist (l' := [some (jR 133), none, none, some (jI v3), none, some (jI u0)]) c337_28 rfl (x_aldn c337_30 rfl (x_ildn c337_31 rfl (x_pfi c337_32 k_133_5 (x_ild c337_35 rfl (x_irt c337_37 r337 H))))))
theorem s337 {kc : List va_E} {d : Nat} {x1 x2 : Int} {M : fx_M} {Q : Option fx_V → fx_M → Prop} (H : wc kc d 338 [jR 133, jI x1] M (fun v M1 => wp kc (d + 1) 337 10 [some (jR 133), none, some (jI x2), some (jI (M 133 5)), none, none] (v.toList ++ []) M1 Q)) : wc kc (d + 1) 337 [jR 133, jI x1, jI x2] M Q :=
  wc_of (wp_wk (l' := [some (jR 133), some (jI x1), some (jI x2), none, none, none]) ⟨rfl, ⟨rfl, ⟨rfl, trivial⟩⟩⟩ (s337_0 H))

/- PuzzleHouseModel.sayRule(I)V -/
theorem c338_0 : fx_op 338 0 = some (.aload_n 0, 1, 0) := by decide +kernel
theorem c338_1 : fx_ci 338 1 = some (1, 2) := by decide +kernel
theorem c338_2 : fx_ca 338 2 = some (221, 1, 0, 5) := by decide +kernel
theorem c338_5 : fx_ca 338 5 = some (253, 2, 2, 8) := by decide +kernel
theorem c338_8 : fx_op 338 8 = some (.aload_n 0, 9, 8) := by decide +kernel
theorem c338_9 : fx_ci 338 9 = some (32, 11) := by decide +kernel
theorem c338_11 : fx_ca 338 11 = some (254, 2, 2, 14) := by decide +kernel
theorem c338_14 : fx_op 338 14 = some (.aload_n 0, 15, 14) := by decide +kernel
theorem c338_15 : fx_op 338 15 = some (.aload_n 0, 16, 15) := by decide +kernel
theorem c338_16 : fx_gf 338 16 = some (12, 41, 19) := by decide +kernel
theorem c338_19 : fx_op 338 19 = some (.iload_n 1, 20, 19) := by decide +kernel
theorem c338_20 : fx_op 338 20 = some (.iaload, 21, 20) := by decide +kernel
theorem c338_21 : fx_ca 338 21 = some (221, 1, 0, 24) := by decide +kernel
theorem c338_24 : fx_ca 338 24 = some (253, 2, 2, 27) := by decide +kernel
theorem c338_27 : fx_op 338 27 = some (.aload_n 0, 28, 27) := by decide +kernel
theorem c338_28 : fx_gf 338 28 = some (12, 41, 31) := by decide +kernel
theorem c338_31 : fx_op 338 31 = some (.iload_n 1, 32, 31) := by decide +kernel
theorem c338_33 : fx_ci 338 33 = some (49, 35) := by decide +kernel
theorem c338_35 : fx_op 338 35 = some (.if_icmp .lt 13, 38, 48) := by decide +kernel
theorem c338_38 : fx_op 338 38 = some (.aload_n 0, 39, 38) := by decide +kernel
theorem c338_39 : fx_op 338 39 = some (.aload_n 0, 40, 39) := by decide +kernel
theorem c338_40 : fx_gf 338 40 = some (12, 42, 43) := by decide +kernel
theorem c338_43 : fx_op 338 43 = some (.iload_n 1, 44, 43) := by decide +kernel
theorem c338_44 : fx_op 338 44 = some (.iaload, 45, 44) := by decide +kernel
theorem c338_48 : fx_ci 338 48 = some (0, 49) := by decide +kernel
theorem c338_49 : fx_op 338 49 = some (.istore_n 2, 50, 49) := by decide +kernel
theorem c338_32 : fx_op 338 32 = some (.iaload, 33, 32) := by decide +kernel
theorem c338_45 : fx_ca 338 45 = some (255, 2, 2, 48) := by decide +kernel
theorem c338_50 : fx_op 338 50 = some (.iload_n 2, 51, 50) := by decide +kernel
theorem c338_51 : fx_op 338 51 = some (.aload_n 0, 52, 51) := by decide +kernel
theorem c338_52 : fx_gf 338 52 = some (12, 43, 55) := by decide +kernel
theorem c338_55 : fx_op 338 55 = some (.iload_n 1, 56, 55) := by decide +kernel
theorem c338_57 : fx_op 338 57 = some (.if_icmp .ge 23, 60, 80) := by decide +kernel
theorem c338_60 : fx_op 338 60 = some (.aload_n 0, 61, 60) := by decide +kernel
theorem c338_61 : fx_op 338 61 = some (.aload_n 0, 62, 61) := by decide +kernel
theorem c338_62 : fx_gf 338 62 = some (12, 44, 65) := by decide +kernel
theorem c338_65 : fx_ci 338 65 = some (4, 66) := by decide +kernel
theorem c338_66 : fx_op 338 66 = some (.iload_n 1, 67, 66) := by decide +kernel
theorem c338_67 : fx_op 338 67 = some (.imul, 68, 67) := by decide +kernel
theorem c338_68 : fx_op 338 68 = some (.iload_n 2, 69, 68) := by decide +kernel
theorem c338_69 : fx_op 338 69 = some (.iadd, 70, 69) := by decide +kernel
theorem c338_70 : fx_op 338 70 = some (.iaload, 71, 70) := by decide +kernel
theorem c338_56 : fx_op 338 56 = some (.iaload, 57, 56) := by decide +kernel
theorem c338_80 : fx_op 338 80 = some (.return_, 81, 80) := by decide +kernel
theorem c338_71 : fx_ca 338 71 = some (255, 2, 2, 74) := by decide +kernel
theorem c338_74 : fx_op 338 74 = some (.iinc 2 1, 77, 74) := by decide +kernel
theorem c338_77 : fx_op 338 77 = some (.goto (-27), 80, 50) := by decide +kernel
theorem s338_0 {kc : List va_E} {d : Nat} {x1 : Int} {M : fx_M} {Q : Option fx_V → fx_M → Prop} (H : wc kc d 221 [jI 1] M (fun v M1 => wp kc (d + 1) 338 5 [some (jR 133), some (jI x1), none] (v.toList ++ [jR 133]) M1 Q)) : wp kc (d + 1) 338 0 [some (jR 133), some (jI x1), none] [] M Q :=
  (x_aldn c338_0 rfl (x_ci c338_1 (wp_wk (l' := [some (jR 133), some (jI x1), none]) ⟨rfl, ⟨rfl, trivial⟩⟩ (x_cs (As := [jI 1]) (st := [jR 133]) c338_2 (by decide) rfl (Nat.le_of_ble_eq_true rfl) mx221 (Nat.le_refl _) H))))
theorem s338_5 {kc : List va_E} {d : Nat} {v1 u0 : Int} {M : fx_M} {Q : Option fx_V → fx_M → Prop} (H : wc kc d 253 [jR 133, jL u0] M (fun v M1 => wp kc (d + 1) 338 8 [some (jR 133), some (jI v1), none] (v.toList ++ []) M1 Q)) : wp kc (d + 1) 338 5 [some (jR 133), some (jI v1), none] [jL u0, jR 133] M Q :=
  (wp_wk (l' := [some (jR 133), some (jI v1), none]) ⟨rfl, ⟨rfl, trivial⟩⟩ (x_cv (As := [jL u0]) (st := []) c338_5 cl_133 kl253 rfl (Nat.le_of_ble_eq_true rfl) mx253 (Nat.le_refl _) H))
theorem s338_8 {kc : List va_E} {d : Nat} {v1 : Int} {M : fx_M} {Q : Option fx_V → fx_M → Prop} (H : wc kc d 254 [jR 133, jI 32] M (fun v M1 => wp kc (d + 1) 338 14 [some (jR 133), some (jI v1), none] (v.toList ++ []) M1 Q)) : wp kc (d + 1) 338 8 [some (jR 133), some (jI v1), none] [] M Q :=
  (x_aldn c338_8 rfl (x_ci c338_9 (wp_wk (l' := [some (jR 133), some (jI v1), none]) ⟨rfl, ⟨rfl, trivial⟩⟩ (x_cv (As := [jI 32]) (st := []) c338_11 cl_133 kl254 rfl (Nat.le_of_ble_eq_true rfl) mx254 (Nat.le_refl _) H))))
theorem s338_14 {kc : List va_E} {d : Nat} {v1 : Int} {M : fx_M} {Q : Option fx_V → fx_M → Prop} (H : (((0 : Int) ≤ v1 ∧ v1 < 120)) ∧ wc kc d 221 [jI (M 150 v1)] M (fun v M1 => wp kc (d + 1) 338 24 [some (jR 133), some (jI v1), none] (v.toList ++ [jR 133]) M1 Q)) : wp kc (d + 1) 338 14 [some (jR 133), some (jI v1), none] [] M Q :=
  (x_aldn c338_14 rfl (x_aldn c338_15 rfl (x_gfr c338_16 k_133_41 (x_ildn c338_19 rfl (x_iald c338_20 a_150 H.1 (by decide) (wp_wk (l' := [some (jR 133), some (jI v1), none]) ⟨rfl, ⟨rfl, trivial⟩⟩ (x_cs (As := [jI (M 150 v1)]) (st := [jR 133]) c338_21 (by decide) rfl (Nat.le_of_ble_eq_true rfl) mx221 (Nat.le_refl _) H.2)))))))
theorem s338_24 {kc : List va_E} {d : Nat} {v1 u0 : Int} {M : fx_M} {Q : Option fx_V → fx_M → Prop} (H : wc kc d 253 [jR 133, jL u0] M (fun v M1 => wp kc (d + 1) 338 27 [some (jR 133), some (jI v1), none] (v.toList ++ []) M1 Q)) : wp kc (d + 1) 338 24 [some (jR 133), some (jI v1), none] [jL u0, jR 133] M Q :=
  (wp_wk (l' := [some (jR 133), some (jI v1), none]) ⟨rfl, ⟨rfl, trivial⟩⟩ (x_cv (As := [jL u0]) (st := []) c338_24 cl_133 kl253 rfl (Nat.le_of_ble_eq_true rfl) mx253 (Nat.le_refl _) H))
theorem s338_27 {kc : List va_E} {d : Nat} {v1 : Int} {M : fx_M} {Q : Option fx_V → fx_M → Prop} (H : (((0 : Int) ≤ v1 ∧ v1 < 120)) ∧ ((fx_in32 (M 150 v1))) ∧ (M 150 v1 < 49 → wp kc (d + 1) 338 50 [some (jR 133), some (jI v1), some (jI 0)] [] M Q) ∧ (49 ≤ M 150 v1 → (((0 : Int) ≤ v1 ∧ v1 < 120)) ∧ wc kc d 255 [jR 133, jI (M 151 v1)] M (fun v M1 => wp kc (d + 1) 338 48 [some (jR 133), some (jI v1), none] (v.toList ++ []) M1 Q))) : wp kc (d + 1) 338 27 [some (jR 133), some (jI v1), none] [] M Q :=
  (x_aldn c338_27 rfl (x_gfr c338_28 k_133_41 (x_ildn c338_31 rfl (x_iald c338_32 a_150 H.1 (by decide) (x_ci c338_33 (x_clt c338_35 H.2.1 (by decide) (fun h1 => (x_ci c338_48 (x_istn (l' := [some (jR 133), some (jI v1), some (jI 0)]) c338_49 rfl (wp_wk (l' := [some (jR 133), some (jI v1), some (jI 0)]) ⟨rfl, ⟨rfl, ⟨rfl, trivial⟩⟩⟩ (H.2.2.1 h1))))) (fun h2 => (x_aldn c338_38 rfl (x_aldn c338_39 rfl (x_gfr c338_40 k_133_42 (x_ildn c338_43 rfl (x_iald c338_44 a_151 (H.2.2.2 h2).1 (by decide) (wp_wk (l' := [some (jR 133), some (jI v1), none]) ⟨rfl, ⟨rfl, trivial⟩⟩ (x_cv (As := [jI (M 151 v1)]) (st := []) c338_45 cl_133 kl255 rfl (Nat.le_of_ble_eq_true rfl) mx255 (Nat.le_refl _) (H.2.2.2 h2).2))))))))))))))
theorem s338_48 {kc : List va_E} {d : Nat} {v1 : Int} {M : fx_M} {Q : Option fx_V → fx_M → Prop} (H : wp kc (d + 1) 338 50 [some (jR 133), some (jI v1), some (jI 0)] [] M Q) : wp kc (d + 1) 338 48 [some (jR 133), some (jI v1), none] [] M Q :=
  (x_ci c338_48 (x_istn (l' := [some (jR 133), some (jI v1), some (jI 0)]) c338_49 rfl (wp_wk (l' := [some (jR 133), some (jI v1), some (jI 0)]) ⟨rfl, ⟨rfl, ⟨rfl, trivial⟩⟩⟩ H)))
theorem s338_50 {kc : List va_E} {d : Nat} {v1 v2 : Int} {M : fx_M} {Q : Option fx_V → fx_M → Prop} (H : (((0 : Int) ≤ v1 ∧ v1 < 120)) ∧ ((fx_in32 v2) ∧ (fx_in32 (M 152 v1))) ∧ (M 152 v1 ≤ v2 → Q none M) ∧ (v2 < M 152 v1 → (((0 : Int) ≤ (4 * v1) + v2 ∧ (4 * v1) + v2 < 480)) ∧ wc kc d 255 [jR 133, jI (M 153 ((4 * v1) + v2))] M (fun v M1 => wp kc (d + 1) 338 74 [some (jR 133), some (jI v1), some (jI v2)] (v.toList ++ []) M1 Q))) : wp kc (d + 1) 338 50 [some (jR 133), some (jI v1), some (jI v2)] [] M Q :=
  (x_ildn c338_50 rfl (x_aldn c338_51 rfl (x_gfr c338_52 k_133_43 (x_ildn c338_55 rfl (x_iald c338_56 a_152 H.1 (by decide) (x_cge c338_57 H.2.1.1 H.2.1.2 (fun h1 => (x_vr c338_80 r338 (H.2.2.1 h1))) (fun h2 => (x_aldn c338_60 rfl (x_aldn c338_61 rfl (x_gfr c338_62 k_133_44 (x_ci c338_65 (x_ildn c338_66 rfl (x_imul c338_67 (x_ildn c338_68 rfl (x_iadd c338_69 (x_iald c338_70 a_153 (H.2.2.2 h2).1 (by decide) (wp_wk (l' := [some (jR 133), some (jI v1), some (jI v2)]) ⟨rfl, ⟨rfl, ⟨rfl, trivial⟩⟩⟩ (x_cv (As := [jI (M 153 ((4 * v1) + v2))]) (st := []) c338_71 cl_133 kl255 rfl (Nat.le_of_ble_eq_true rfl) mx255 (Nat.le_refl _) (H.2.2.2 h2).2))))))))))))))))))
theorem s338_74 {kc : List va_E} {d : Nat} {v1 v2 : Int} {M : fx_M} {Q : Option fx_V → fx_M → Prop} (H : wp kc (d + 1) 338 50 [some (jR 133), some (jI v1), some (jI (v2 + 1))] [] M Q) : wp kc (d + 1) 338 74 [some (jR 133), some (jI v1), some (jI v2)] [] M Q :=
  (x_inc (l' := [some (jR 133), some (jI v1), some (jI (v2 + 1))]) c338_74 rfl rfl (x_goto c338_77 (wp_wk (l' := [some (jR 133), some (jI v1), some (jI (v2 + 1))]) ⟨rfl, ⟨rfl, ⟨rfl, trivial⟩⟩⟩ H)))
theorem s338 {kc : List va_E} {d : Nat} {x1 : Int} {M : fx_M} {Q : Option fx_V → fx_M → Prop} (H : wc kc d 221 [jI 1] M (fun v M1 => wp kc (d + 1) 338 5 [some (jR 133), some (jI x1), none] (v.toList ++ [jR 133]) M1 Q)) : wc kc (d + 1) 338 [jR 133, jI x1] M Q :=
  wc_of (wp_wk (l' := [some (jR 133), some (jI x1), none]) ⟨rfl, ⟨rfl, trivial⟩⟩ (s338_0 H))

/- PuzzleHouseModel.compareSaid(II)I -/
theorem c339_0 : fx_op 339 0 = some (.iload_n 2, 1, 0) := by decide +kernel
theorem c339_1 : fx_op 339 1 = some (.iload_n 1, 2, 1) := by decide +kernel
theorem c339_2 : fx_op 339 2 = some (.isub, 3, 2) := by decide +kernel
theorem c339_3 : fx_op 339 3 = some (.istore_n 3, 4, 3) := by decide +kernel
theorem c339_4 : fx_op 339 4 = some (.aload_n 0, 5, 4) := by decide +kernel
theorem c339_5 : fx_gf 339 5 = some (12, 5, 8) := by decide +kernel
theorem c339_8 : fx_op 339 8 = some (.iload_n 2, 9, 8) := by decide +kernel
theorem c339_9 : fx_op 339 9 = some (.isub, 10, 9) := by decide +kernel
theorem c339_10 : fx_op 339 10 = some (.istore 4, 12, 10) := by decide +kernel
theorem c339_12 : fx_ci 339 12 = some (0, 13) := by decide +kernel
theorem c339_13 : fx_op 339 13 = some (.istore 5, 15, 13) := by decide +kernel
theorem c339_15 : fx_op 339 15 = some (.iload 5, 17, 15) := by decide +kernel
theorem c339_17 : fx_op 339 17 = some (.iload_n 3, 18, 17) := by decide +kernel
theorem c339_18 : fx_op 339 18 = some (.if_icmp .ge 57, 21, 75) := by decide +kernel
theorem c339_75 : fx_op 339 75 = some (.iload_n 3, 76, 75) := by decide +kernel
theorem c339_76 : fx_op 339 76 = some (.iload 4, 78, 76) := by decide +kernel
theorem c339_78 : fx_op 339 78 = some (.isub, 79, 78) := by decide +kernel
theorem c339_21 : fx_op 339 21 = some (.iload 5, 23, 21) := by decide +kernel
theorem c339_23 : fx_op 339 23 = some (.iload 4, 25, 23) := by decide +kernel
theorem c339_25 : fx_op 339 25 = some (.if_icmp .ge 50, 28, 75) := by decide +kernel
theorem c339_28 : fx_op 339 28 = some (.aload_n 0, 29, 28) := by decide +kernel
theorem c339_29 : fx_gf 339 29 = some (12, 6, 32) := by decide +kernel
theorem c339_32 : fx_op 339 32 = some (.iload_n 1, 33, 32) := by decide +kernel
theorem c339_33 : fx_op 339 33 = some (.iload 5, 35, 33) := by decide +kernel
theorem c339_35 : fx_op 339 35 = some (.iadd, 36, 35) := by decide +kernel
theorem c339_37 : fx_op 339 37 = some (.aload_n 0, 38, 37) := by decide +kernel
theorem c339_38 : fx_gf 339 38 = some (12, 6, 41) := by decide +kernel
theorem c339_41 : fx_op 339 41 = some (.iload_n 2, 42, 41) := by decide +kernel
theorem c339_42 : fx_op 339 42 = some (.iload 5, 44, 42) := by decide +kernel
theorem c339_44 : fx_op 339 44 = some (.iadd, 45, 44) := by decide +kernel
theorem c339_46 : fx_op 339 46 = some (.if_icmp .eq 23, 49, 69) := by decide +kernel
theorem c339_69 : fx_op 339 69 = some (.iinc 5 1, 72, 69) := by decide +kernel
theorem c339_49 : fx_op 339 49 = some (.aload_n 0, 50, 49) := by decide +kernel
theorem c339_50 : fx_gf 339 50 = some (12, 6, 53) := by decide +kernel
theorem c339_53 : fx_op 339 53 = some (.iload_n 1, 54, 53) := by decide +kernel
theorem c339_54 : fx_op 339 54 = some (.iload 5, 56, 54) := by decide +kernel
theorem c339_56 : fx_op 339 56 = some (.iadd, 57, 56) := by decide +kernel
theorem c339_58 : fx_op 339 58 = some (.aload_n 0, 59, 58) := by decide +kernel
theorem c339_59 : fx_gf 339 59 = some (12, 6, 62) := by decide +kernel
theorem c339_62 : fx_op 339 62 = some (.iload_n 2, 63, 62) := by decide +kernel
theorem c339_63 : fx_op 339 63 = some (.iload 5, 65, 63) := by decide +kernel
theorem c339_65 : fx_op 339 65 = some (.iadd, 66, 65) := by decide +kernel
theorem c339_67 : fx_op 339 67 = some (.isub, 68, 67) := by decide +kernel
theorem c339_79 : fx_op 339 79 = some (.ireturn, 80, 79) := by decide +kernel
theorem c339_36 : fx_op 339 36 = some (.iaload, 37, 36) := by decide +kernel
theorem c339_45 : fx_op 339 45 = some (.iaload, 46, 45) := by decide +kernel
theorem c339_72 : fx_op 339 72 = some (.goto (-57), 75, 15) := by decide +kernel
theorem c339_57 : fx_op 339 57 = some (.iaload, 58, 57) := by decide +kernel
theorem c339_66 : fx_op 339 66 = some (.iaload, 67, 66) := by decide +kernel
theorem c339_68 : fx_op 339 68 = some (.ireturn, 69, 68) := by decide +kernel
theorem s339_0 {kc : List va_E} {d : Nat} {x1 x2 : Int} {M : fx_M} {Q : Option fx_V → fx_M → Prop} (H : wp kc (d + 1) 339 15 [some (jR 133), some (jI x1), some (jI x2), some (jI (x2 - x1)), some (jI ((M 133 5) - x2)), some (jI 0)] [] M Q) : wp kc (d + 1) 339 0 [some (jR 133), some (jI x1), some (jI x2), none, none, none] [] M Q :=
  (x_ildn c339_0 rfl (x_ildn c339_1 rfl (x_isub c339_2 (x_istn (l' := [some (jR 133), some (jI x1), some (jI x2), some (jI (x2 - x1)), none, none]) c339_3 rfl (x_aldn c339_4 rfl (x_gfi c339_5 k_133_5 (x_ildn c339_8 rfl (x_isub c339_9 (x_ist (l' := [some (jR 133), some (jI x1), some (jI x2), some (jI (x2 - x1)), some (jI ((M 133 5) - x2)), none]) c339_10 rfl (x_ci c339_12 (x_ist (l' := [some (jR 133), some (jI x1), some (jI x2), some (jI (x2 - x1)), some (jI ((M 133 5) - x2)), some (jI 0)]) c339_13 rfl (wp_wk (l' := [some (jR 133), some (jI x1), some (jI x2), some (jI (x2 - x1)), some (jI ((M 133 5) - x2)), some (jI 0)]) ⟨rfl, ⟨rfl, ⟨rfl, ⟨rfl, ⟨rfl, ⟨rfl, trivial⟩⟩⟩⟩⟩⟩ H))))))))))))
theorem s339_15 {kc : List va_E} {d : Nat} {v1 v2 v3 v4 v5 : Int} {M : fx_M} {Q : Option fx_V → fx_M → Prop} (H : ((fx_in32 v5) ∧ (fx_in32 v3)) ∧ (v3 ≤ v5 → Q (some (jI (v3 - v4))) M) ∧ (v5 < v3 → ((fx_in32 v5) ∧ (fx_in32 v4)) ∧ (v4 ≤ v5 → Q (some (jI (v3 - v4))) M) ∧ (v5 < v4 → (((0 : Int) ≤ v1 + v5 ∧ v1 + v5 < 6000)) ∧ (((0 : Int) ≤ v2 + v5 ∧ v2 + v5 < 6000)) ∧ ((fx_in32 (M 136 (v1 + v5))) ∧ (fx_in32 (M 136 (v2 + v5)))) ∧ (M 136 (v1 + v5) = M 136 (v2 + v5) → wp kc (d + 1) 339 15 [some (jR 133), some (jI v1), some (jI v2), some (jI v3), some (jI v4), some (jI (v5 + 1))] [] M Q) ∧ (M 136 (v1 + v5) ≠ M 136 (v2 + v5) → (((0 : Int) ≤ v1 + v5 ∧ v1 + v5 < 6000)) ∧ (((0 : Int) ≤ v2 + v5 ∧ v2 + v5 < 6000)) ∧ Q (some (jI ((M 136 (v1 + v5)) - (M 136 (v2 + v5))))) M)))) : wp kc (d + 1) 339 15 [some (jR 133), some (jI v1), some (jI v2), some (jI v3), some (jI v4), some (jI v5)] [] M Q :=
  (x_ild c339_15 rfl (x_ildn c339_17 rfl (x_cge c339_18 H.1.1 H.1.2 (fun h5 => (x_ildn c339_75 rfl (x_ild c339_76 rfl (x_isub c339_78 (x_irt c339_79 r339 (H.2.1 h5)))))) (fun h6 => (x_ild c339_21 rfl (x_ild c339_23 rfl (x_cge c339_25 (H.2.2 h6).1.1 (H.2.2 h6).1.2 (fun h3 => (x_ildn c339_75 rfl (x_ild c339_76 rfl (x_isub c339_78 (x_irt c339_79 r339 ((H.2.2 h6).2.1 h3)))))) (fun h4 => (x_aldn c339_28 rfl (x_gfr c339_29 k_133_6 (x_ildn c339_32 rfl (x_ild c339_33 rfl (x_iadd c339_35 (x_iald c339_36 a_136 ((H.2.2 h6).2.2 h4).1 (by decide) (x_aldn c339_37 rfl (x_gfr c339_38 k_133_6 (x_ildn c339_41 rfl (x_ild c339_42 rfl (x_iadd c339_44 (x_iald c339_45 a_136 ((H.2.2 h6).2.2 h4).2.1 (by decide) (x_ceq c339_46 ((H.2.2 h6).2.2 h4).2.2.1.1 ((H.2.2 h6).2.2 h4).2.2.1.2 (fun h1 => (x_inc (l' := [some (jR 133), some (jI v1), some (jI v2), some (jI v3), some (jI v4), some (jI (v5 + 1))]) c339_69 rfl rfl (x_goto c339_72 (wp_wk (l' := [some (jR 133), some (jI v1), some (jI v2), some (jI v3), some (jI v4), some (jI (v5 + 1))]) ⟨rfl, ⟨rfl, ⟨rfl, ⟨rfl, ⟨rfl, ⟨rfl, trivial⟩⟩⟩⟩⟩⟩ (((H.2.2 h6).2.2 h4).2.2.2.1 h1))))) (fun h2 => (x_aldn c339_49 rfl (x_gfr c339_50 k_133_6 (x_ildn c339_53 rfl (x_ild c339_54 rfl (x_iadd c339_56 (x_iald c339_57 a_136 (((H.2.2 h6).2.2 h4).2.2.2.2 h2).1 (by decide) (x_aldn c339_58 rfl (x_gfr c339_59 k_133_6 (x_ildn c339_62 rfl (x_ild c339_63 rfl (x_iadd c339_65 (x_iald c339_66 a_136 (((H.2.2 h6).2.2 h4).2.2.2.2 h2).2.1 (by decide) (x_isub c339_67 (x_irt c339_68 r339 (((H.2.2 h6).2.2 h4).2.2.2.2 h2).2.2))))))))))))))))))))))))))))))))))))
theorem s339 {kc : List va_E} {d : Nat} {x1 x2 : Int} {M : fx_M} {Q : Option fx_V → fx_M → Prop} (H : wp kc (d + 1) 339 15 [some (jR 133), some (jI x1), some (jI x2), some (jI (x2 - x1)), some (jI ((M 133 5) - x2)), some (jI 0)] [] M Q) : wc kc (d + 1) 339 [jR 133, jI x1, jI x2] M Q :=
  wc_of (wp_wk (l' := [some (jR 133), some (jI x1), some (jI x2), none, none, none]) ⟨rfl, ⟨rfl, ⟨rfl, trivial⟩⟩⟩ (s339_0 H))

/- PuzzleHouseModel.sayText(I)V -/
theorem c340_0 : fx_op 340 0 = some (.aload_n 0, 1, 0) := by decide +kernel
theorem c340_1 : fx_ci 340 1 = some (0, 2) := by decide +kernel
theorem c340_2 : fx_ca 340 2 = some (221, 1, 0, 5) := by decide +kernel
theorem c340_5 : fx_ca 340 5 = some (253, 2, 2, 8) := by decide +kernel
theorem c340_8 : fx_op 340 8 = some (.aload_n 0, 9, 8) := by decide +kernel
theorem c340_9 : fx_op 340 9 = some (.aload_n 0, 10, 9) := by decide +kernel
theorem c340_10 : fx_gf 340 10 = some (12, 37, 13) := by decide +kernel
theorem c340_13 : fx_op 340 13 = some (.iload_n 1, 14, 13) := by decide +kernel
theorem c340_14 : fx_op 340 14 = some (.iaload, 15, 14) := by decide +kernel
theorem c340_15 : fx_ca 340 15 = some (255, 2, 2, 18) := by decide +kernel
theorem c340_18 : fx_op 340 18 = some (.aload_n 0, 19, 18) := by decide +kernel
theorem c340_19 : fx_op 340 19 = some (.aload_n 0, 20, 19) := by decide +kernel
theorem c340_20 : fx_gf 340 20 = some (12, 38, 23) := by decide +kernel
theorem c340_23 : fx_op 340 23 = some (.iload_n 1, 24, 23) := by decide +kernel
theorem c340_24 : fx_op 340 24 = some (.iaload, 25, 24) := by decide +kernel
theorem c340_25 : fx_ca 340 25 = some (255, 2, 2, 28) := by decide +kernel
theorem c340_28 : fx_op 340 28 = some (.aload_n 0, 29, 28) := by decide +kernel
theorem c340_29 : fx_op 340 29 = some (.aload_n 0, 30, 29) := by decide +kernel
theorem c340_30 : fx_gf 340 30 = some (12, 39, 33) := by decide +kernel
theorem c340_33 : fx_op 340 33 = some (.iload_n 1, 34, 33) := by decide +kernel
theorem c340_34 : fx_op 340 34 = some (.iaload, 35, 34) := by decide +kernel
theorem c340_35 : fx_ca 340 35 = some (255, 2, 2, 38) := by decide +kernel
theorem c340_38 : fx_ci 340 38 = some (0, 39) := by decide +kernel
theorem c340_39 : fx_op 340 39 = some (.istore_n 2, 40, 39) := by decide +kernel
theorem c340_40 : fx_op 340 40 = some (.iload_n 2, 41, 40) := by decide +kernel
theorem c340_41 : fx_op 340 41 = some (.aload_n 0, 42, 41) := by decide +kernel
theorem c340_42 : fx_gf 340 42 = some (12, 40, 45) := by decide +kernel
theorem c340_45 : fx_op 340 45 = some (.iload_n 1, 46, 45) := by decide +kernel
theorem c340_47 : fx_op 340 47 = some (.if_icmp .ge 25, 50, 72) := by decide +kernel
theorem c340_50 : fx_op 340 50 = some (.aload_n 0, 51, 50) := by decide +kernel
theorem c340_51 : fx_ci 340 51 = some (59, 53) := by decide +kernel
theorem c340_72 : fx_ci 340 72 = some (0, 73) := by decide +kernel
theorem c340_73 : fx_op 340 73 = some (.istore_n 2, 74, 73) := by decide +kernel
theorem c340_46 : fx_op 340 46 = some (.iaload, 47, 46) := by decide +kernel
theorem c340_53 : fx_ca 340 53 = some (254, 2, 2, 56) := by decide +kernel
theorem c340_74 : fx_op 340 74 = some (.iload_n 2, 75, 74) := by decide +kernel
theorem c340_75 : fx_op 340 75 = some (.aload_n 0, 76, 75) := by decide +kernel
theorem c340_76 : fx_gf 340 76 = some (12, 37, 79) := by decide +kernel
theorem c340_79 : fx_op 340 79 = some (.iload_n 1, 80, 79) := by decide +kernel
theorem c340_81 : fx_op 340 81 = some (.aload_n 0, 82, 81) := by decide +kernel
theorem c340_82 : fx_gf 340 82 = some (12, 38, 85) := by decide +kernel
theorem c340_85 : fx_op 340 85 = some (.iload_n 1, 86, 85) := by decide +kernel
theorem c340_87 : fx_op 340 87 = some (.imul, 88, 87) := by decide +kernel
theorem c340_88 : fx_op 340 88 = some (.if_icmp .ge 56, 91, 144) := by decide +kernel
theorem c340_91 : fx_op 340 91 = some (.aload_n 0, 92, 91) := by decide +kernel
theorem c340_92 : fx_gf 340 92 = some (12, 45, 95) := by decide +kernel
theorem c340_95 : fx_ci 340 95 = some (9, 97) := by decide +kernel
theorem c340_97 : fx_op 340 97 = some (.iload_n 1, 98, 97) := by decide +kernel
theorem c340_98 : fx_op 340 98 = some (.imul, 99, 98) := by decide +kernel
theorem c340_99 : fx_op 340 99 = some (.iload_n 2, 100, 99) := by decide +kernel
theorem c340_100 : fx_op 340 100 = some (.iadd, 101, 100) := by decide +kernel
theorem c340_101 : fx_op 340 101 = some (.iaload, 102, 101) := by decide +kernel
theorem c340_102 : fx_op 340 102 = some (.ifCond .ge 6, 105, 108) := by decide +kernel
theorem c340_108 : fx_op 340 108 = some (.aload_n 0, 109, 108) := by decide +kernel
theorem c340_109 : fx_ci 340 109 = some (59, 111) := by decide +kernel
theorem c340_138 : fx_op 340 138 = some (.iinc 2 1, 141, 138) := by decide +kernel
theorem c340_80 : fx_op 340 80 = some (.iaload, 81, 80) := by decide +kernel
theorem c340_86 : fx_op 340 86 = some (.iaload, 87, 86) := by decide +kernel
theorem c340_144 : fx_op 340 144 = some (.return_, 145, 144) := by decide +kernel
theorem c340_111 : fx_ca 340 111 = some (254, 2, 2, 114) := by decide +kernel
theorem c340_105 : fx_op 340 105 = some (.goto 33, 108, 138) := by decide +kernel
theorem c340_141 : fx_op 340 141 = some (.goto (-67), 144, 74) := by decide +kernel
theorem c340_56 : fx_op 340 56 = some (.aload_n 0, 57, 56) := by decide +kernel
theorem c340_57 : fx_ci 340 57 = some (12, 59) := by decide +kernel
theorem c340_59 : fx_op 340 59 = some (.iload_n 1, 60, 59) := by decide +kernel
theorem c340_60 : fx_op 340 60 = some (.imul, 61, 60) := by decide +kernel
theorem c340_61 : fx_op 340 61 = some (.iload_n 2, 62, 61) := by decide +kernel
theorem c340_62 : fx_op 340 62 = some (.iadd, 63, 62) := by decide +kernel
theorem c340_63 : fx_ca 340 63 = some (338, 2, 2, 66) := by decide +kernel
theorem c340_114 : fx_op 340 114 = some (.aload_n 0, 115, 114) := by decide +kernel
theorem c340_115 : fx_ci 340 115 = some (3, 116) := by decide +kernel
theorem c340_116 : fx_ca 340 116 = some (221, 1, 0, 119) := by decide +kernel
theorem c340_66 : fx_op 340 66 = some (.iinc 2 1, 69, 66) := by decide +kernel
theorem c340_69 : fx_op 340 69 = some (.goto (-29), 72, 40) := by decide +kernel
theorem c340_119 : fx_op 340 119 = some (.iload_n 2, 120, 119) := by decide +kernel
theorem c340_120 : fx_ca 340 120 = some (252, 3, 2, 123) := by decide +kernel
theorem c340_123 : fx_op 340 123 = some (.aload_n 0, 124, 123) := by decide +kernel
theorem c340_124 : fx_op 340 124 = some (.aload_n 0, 125, 124) := by decide +kernel
theorem c340_125 : fx_gf 340 125 = some (12, 45, 128) := by decide +kernel
theorem c340_128 : fx_ci 340 128 = some (9, 130) := by decide +kernel
theorem c340_130 : fx_op 340 130 = some (.iload_n 1, 131, 130) := by decide +kernel
theorem c340_131 : fx_op 340 131 = some (.imul, 132, 131) := by decide +kernel
theorem c340_132 : fx_op 340 132 = some (.iload_n 2, 133, 132) := by decide +kernel
theorem c340_133 : fx_op 340 133 = some (.iadd, 134, 133) := by decide +kernel
theorem c340_134 : fx_op 340 134 = some (.iaload, 135, 134) := by decide +kernel
theorem c340_135 : fx_ca 340 135 = some (255, 2, 2, 138) := by decide +kernel
theorem s340_0 {kc : List va_E} {d : Nat} {x1 : Int} {M : fx_M} {Q : Option fx_V → fx_M → Prop} (H : wc kc d 221 [jI 0] M (fun v M1 => wp kc (d + 1) 340 5 [some (jR 133), some (jI x1), none] (v.toList ++ [jR 133]) M1 Q)) : wp kc (d + 1) 340 0 [some (jR 133), some (jI x1), none] [] M Q :=
  (x_aldn c340_0 rfl (x_ci c340_1 (wp_wk (l' := [some (jR 133), some (jI x1), none]) ⟨rfl, ⟨rfl, trivial⟩⟩ (x_cs (As := [jI 0]) (st := [jR 133]) c340_2 (by decide) rfl (Nat.le_of_ble_eq_true rfl) mx221 (Nat.le_refl _) H))))
theorem s340_5 {kc : List va_E} {d : Nat} {v1 u0 : Int} {M : fx_M} {Q : Option fx_V → fx_M → Prop} (H : wc kc d 253 [jR 133, jL u0] M (fun v M1 => wp kc (d + 1) 340 8 [some (jR 133), some (jI v1), none] (v.toList ++ []) M1 Q)) : wp kc (d + 1) 340 5 [some (jR 133), some (jI v1), none] [jL u0, jR 133] M Q :=
  (wp_wk (l' := [some (jR 133), some (jI v1), none]) ⟨rfl, ⟨rfl, trivial⟩⟩ (x_cv (As := [jL u0]) (st := []) c340_5 cl_133 kl253 rfl (Nat.le_of_ble_eq_true rfl) mx253 (Nat.le_refl _) H))
theorem s340_8 {kc : List va_E} {d : Nat} {v1 : Int} {M : fx_M} {Q : Option fx_V → fx_M → Prop} (H : (((0 : Int) ≤ v1 ∧ v1 < 10)) ∧ wc kc d 255 [jR 133, jI (M 146 v1)] M (fun v M1 => wp kc (d + 1) 340 18 [some (jR 133), some (jI v1), none] (v.toList ++ []) M1 Q)) : wp kc (d + 1) 340 8 [some (jR 133), some (jI v1), none] [] M Q :=
  (x_aldn c340_8 rfl (x_aldn c340_9 rfl (x_gfr c340_10 k_133_37 (x_ildn c340_13 rfl (x_iald c340_14 a_146 H.1 (by decide) (wp_wk (l' := [some (jR 133), some (jI v1), none]) ⟨rfl, ⟨rfl, trivial⟩⟩ (x_cv (As := [jI (M 146 v1)]) (st := []) c340_15 cl_133 kl255 rfl (Nat.le_of_ble_eq_true rfl) mx255 (Nat.le_refl _) H.2)))))))
theorem s340_18 {kc : List va_E} {d : Nat} {v1 : Int} {M : fx_M} {Q : Option fx_V → fx_M → Prop} (H : (((0 : Int) ≤ v1 ∧ v1 < 10)) ∧ wc kc d 255 [jR 133, jI (M 147 v1)] M (fun v M1 => wp kc (d + 1) 340 28 [some (jR 133), some (jI v1), none] (v.toList ++ []) M1 Q)) : wp kc (d + 1) 340 18 [some (jR 133), some (jI v1), none] [] M Q :=
  (x_aldn c340_18 rfl (x_aldn c340_19 rfl (x_gfr c340_20 k_133_38 (x_ildn c340_23 rfl (x_iald c340_24 a_147 H.1 (by decide) (wp_wk (l' := [some (jR 133), some (jI v1), none]) ⟨rfl, ⟨rfl, trivial⟩⟩ (x_cv (As := [jI (M 147 v1)]) (st := []) c340_25 cl_133 kl255 rfl (Nat.le_of_ble_eq_true rfl) mx255 (Nat.le_refl _) H.2)))))))
theorem s340_28 {kc : List va_E} {d : Nat} {v1 : Int} {M : fx_M} {Q : Option fx_V → fx_M → Prop} (H : (((0 : Int) ≤ v1 ∧ v1 < 10)) ∧ wc kc d 255 [jR 133, jI (M 148 v1)] M (fun v M1 => wp kc (d + 1) 340 38 [some (jR 133), some (jI v1), none] (v.toList ++ []) M1 Q)) : wp kc (d + 1) 340 28 [some (jR 133), some (jI v1), none] [] M Q :=
  (x_aldn c340_28 rfl (x_aldn c340_29 rfl (x_gfr c340_30 k_133_39 (x_ildn c340_33 rfl (x_iald c340_34 a_148 H.1 (by decide) (wp_wk (l' := [some (jR 133), some (jI v1), none]) ⟨rfl, ⟨rfl, trivial⟩⟩ (x_cv (As := [jI (M 148 v1)]) (st := []) c340_35 cl_133 kl255 rfl (Nat.le_of_ble_eq_true rfl) mx255 (Nat.le_refl _) H.2)))))))
theorem s340_38 {kc : List va_E} {d : Nat} {v1 : Int} {M : fx_M} {Q : Option fx_V → fx_M → Prop} (H : wp kc (d + 1) 340 40 [some (jR 133), some (jI v1), some (jI 0)] [] M Q) : wp kc (d + 1) 340 38 [some (jR 133), some (jI v1), none] [] M Q :=
  (x_ci c340_38 (x_istn (l' := [some (jR 133), some (jI v1), some (jI 0)]) c340_39 rfl (wp_wk (l' := [some (jR 133), some (jI v1), some (jI 0)]) ⟨rfl, ⟨rfl, ⟨rfl, trivial⟩⟩⟩ H)))
theorem s340_40 {kc : List va_E} {d : Nat} {v1 v2 : Int} {M : fx_M} {Q : Option fx_V → fx_M → Prop} (H : (((0 : Int) ≤ v1 ∧ v1 < 10)) ∧ ((fx_in32 v2) ∧ (fx_in32 (M 149 v1))) ∧ (M 149 v1 ≤ v2 → wp kc (d + 1) 340 74 [some (jR 133), some (jI v1), some (jI 0)] [] M Q) ∧ (v2 < M 149 v1 → wc kc d 254 [jR 133, jI 59] M (fun v M1 => wp kc (d + 1) 340 56 [some (jR 133), some (jI v1), some (jI v2)] (v.toList ++ []) M1 Q))) : wp kc (d + 1) 340 40 [some (jR 133), some (jI v1), some (jI v2)] [] M Q :=
  (x_ildn c340_40 rfl (x_aldn c340_41 rfl (x_gfr c340_42 k_133_40 (x_ildn c340_45 rfl (x_iald c340_46 a_149 H.1 (by decide) (x_cge c340_47 H.2.1.1 H.2.1.2 (fun h1 => (x_ci c340_72 (x_istn (l' := [some (jR 133), some (jI v1), some (jI 0)]) c340_73 rfl (wp_wk (l' := [some (jR 133), some (jI v1), some (jI 0)]) ⟨rfl, ⟨rfl, ⟨rfl, trivial⟩⟩⟩ (H.2.2.1 h1))))) (fun h2 => (x_aldn c340_50 rfl (x_ci c340_51 (wp_wk (l' := [some (jR 133), some (jI v1), some (jI v2)]) ⟨rfl, ⟨rfl, ⟨rfl, trivial⟩⟩⟩ (x_cv (As := [jI 59]) (st := []) c340_53 cl_133 kl254 rfl (Nat.le_of_ble_eq_true rfl) mx254 (Nat.le_refl _) (H.2.2.2 h2))))))))))))
theorem s340_56 {kc : List va_E} {d : Nat} {v1 v2 : Int} {M : fx_M} {Q : Option fx_V → fx_M → Prop} (H : wc kc d 338 [jR 133, jI ((12 * v1) + v2)] M (fun v M1 => wp kc (d + 1) 340 66 [some (jR 133), some (jI v1), some (jI v2)] (v.toList ++ []) M1 Q)) : wp kc (d + 1) 340 56 [some (jR 133), some (jI v1), some (jI v2)] [] M Q :=
  (x_aldn c340_56 rfl (x_ci c340_57 (x_ildn c340_59 rfl (x_imul c340_60 (x_ildn c340_61 rfl (x_iadd c340_62 (wp_wk (l' := [some (jR 133), some (jI v1), some (jI v2)]) ⟨rfl, ⟨rfl, ⟨rfl, trivial⟩⟩⟩ (x_cv (As := [jI ((12 * v1) + v2)]) (st := []) c340_63 cl_133 kl338 rfl (Nat.le_of_ble_eq_true rfl) mx338 (Nat.le_refl _) H))))))))
theorem s340_66 {kc : List va_E} {d : Nat} {v1 v2 : Int} {M : fx_M} {Q : Option fx_V → fx_M → Prop} (H : wp kc (d + 1) 340 40 [some (jR 133), some (jI v1), some (jI (v2 + 1))] [] M Q) : wp kc (d + 1) 340 66 [some (jR 133), some (jI v1), some (jI v2)] [] M Q :=
  (x_inc (l' := [some (jR 133), some (jI v1), some (jI (v2 + 1))]) c340_66 rfl rfl (x_goto c340_69 (wp_wk (l' := [some (jR 133), some (jI v1), some (jI (v2 + 1))]) ⟨rfl, ⟨rfl, ⟨rfl, trivial⟩⟩⟩ H)))
theorem s340_74 {kc : List va_E} {d : Nat} {v1 v2 : Int} {M : fx_M} {Q : Option fx_V → fx_M → Prop} (H : (((0 : Int) ≤ v1 ∧ v1 < 10)) ∧ (((0 : Int) ≤ v1 ∧ v1 < 10)) ∧ ((fx_in32 v2) ∧ (fx_in32 ((M 146 v1) * (M 147 v1)))) ∧ ((M 146 v1) * (M 147 v1) ≤ v2 → Q none M) ∧ (v2 < (M 146 v1) * (M 147 v1) → (((0 : Int) ≤ (9 * v1) + v2 ∧ (9 * v1) + v2 < 90)) ∧ ((fx_in32 (M 154 ((9 * v1) + v2)))) ∧ (0 ≤ M 154 ((9 * v1) + v2) → wc kc d 254 [jR 133, jI 59] M (fun v M1 => wp kc (d + 1) 340 114 [some (jR 133), some (jI v1), some (jI v2)] (v.toList ++ []) M1 Q)) ∧ (M 154 ((9 * v1) + v2) < 0 → wp kc (d + 1) 340 74 [some (jR 133), some (jI v1), some (jI (v2 + 1))] [] M Q))) : wp kc (d + 1) 340 74 [some (jR 133), some (jI v1), some (jI v2)] [] M Q :=
  (x_ildn c340_74 rfl (x_aldn c340_75 rfl (x_gfr c340_76 k_133_37 (x_ildn c340_79 rfl (x_iald c340_80 a_146 H.1 (by decide) (x_aldn c340_81 rfl (x_gfr c340_82 k_133_38 (x_ildn c340_85 rfl (x_iald c340_86 a_147 H.2.1 (by decide) (x_imul c340_87 (x_cge c340_88 H.2.2.1.1 H.2.2.1.2 (fun h3 => (x_vr c340_144 r340 (H.2.2.2.1 h3))) (fun h4 => (x_aldn c340_91 rfl (x_gfr c340_92 k_133_45 (x_ci c340_95 (x_ildn c340_97 rfl (x_imul c340_98 (x_ildn c340_99 rfl (x_iadd c340_100 (x_iald c340_101 a_154 (H.2.2.2.2 h4).1 (by decide) (x_zge c340_102 (H.2.2.2.2 h4).2.1 (fun h1 => (x_aldn c340_108 rfl (x_ci c340_109 (wp_wk (l' := [some (jR 133), some (jI v1), some (jI v2)]) ⟨rfl, ⟨rfl, ⟨rfl, trivial⟩⟩⟩ (x_cv (As := [jI 59]) (st := []) c340_111 cl_133 kl254 rfl (Nat.le_of_ble_eq_true rfl) mx254 (Nat.le_refl _) ((H.2.2.2.2 h4).2.2.1 h1)))))) (fun h2 => (x_goto c340_105 (x_inc (l' := [some (jR 133), some (jI v1), some (jI (v2 + 1))]) c340_138 rfl rfl (x_goto c340_141 (wp_wk (l' := [some (jR 133), some (jI v1), some (jI (v2 + 1))]) ⟨rfl, ⟨rfl, ⟨rfl, trivial⟩⟩⟩ ((H.2.2.2.2 h4).2.2.2 h2)))))))))))))))))))))))))))
theorem s340_114 {kc : List va_E} {d : Nat} {v1 v2 : Int} {M : fx_M} {Q : Option fx_V → fx_M → Prop} (H : wc kc d 221 [jI 3] M (fun v M1 => wp kc (d + 1) 340 119 [some (jR 133), some (jI v1), some (jI v2)] (v.toList ++ [jR 133]) M1 Q)) : wp kc (d + 1) 340 114 [some (jR 133), some (jI v1), some (jI v2)] [] M Q :=
  (x_aldn c340_114 rfl (x_ci c340_115 (wp_wk (l' := [some (jR 133), some (jI v1), some (jI v2)]) ⟨rfl, ⟨rfl, ⟨rfl, trivial⟩⟩⟩ (x_cs (As := [jI 3]) (st := [jR 133]) c340_116 (by decide) rfl (Nat.le_of_ble_eq_true rfl) mx221 (Nat.le_refl _) H))))
theorem s340_119 {kc : List va_E} {d : Nat} {v1 v2 u0 : Int} {M : fx_M} {Q : Option fx_V → fx_M → Prop} (H : wc kc d 252 [jR 133, jL u0, jI v2] M (fun v M1 => wp kc (d + 1) 340 123 [some (jR 133), some (jI v1), some (jI v2)] (v.toList ++ []) M1 Q)) : wp kc (d + 1) 340 119 [some (jR 133), some (jI v1), some (jI v2)] [jL u0, jR 133] M Q :=
  (x_ildn c340_119 rfl (wp_wk (l' := [some (jR 133), some (jI v1), some (jI v2)]) ⟨rfl, ⟨rfl, ⟨rfl, trivial⟩⟩⟩ (x_cv (As := [jL u0, jI v2]) (st := []) c340_120 cl_133 kl252 rfl (Nat.le_of_ble_eq_true rfl) mx252 (Nat.le_refl _) H)))
theorem s340_123 {kc : List va_E} {d : Nat} {v1 v2 : Int} {M : fx_M} {Q : Option fx_V → fx_M → Prop} (H : (((0 : Int) ≤ (9 * v1) + v2 ∧ (9 * v1) + v2 < 90)) ∧ wc kc d 255 [jR 133, jI (M 154 ((9 * v1) + v2))] M (fun v M1 => wp kc (d + 1) 340 138 [some (jR 133), some (jI v1), some (jI v2)] (v.toList ++ []) M1 Q)) : wp kc (d + 1) 340 123 [some (jR 133), some (jI v1), some (jI v2)] [] M Q :=
  (x_aldn c340_123 rfl (x_aldn c340_124 rfl (x_gfr c340_125 k_133_45 (x_ci c340_128 (x_ildn c340_130 rfl (x_imul c340_131 (x_ildn c340_132 rfl (x_iadd c340_133 (x_iald c340_134 a_154 H.1 (by decide) (wp_wk (l' := [some (jR 133), some (jI v1), some (jI v2)]) ⟨rfl, ⟨rfl, ⟨rfl, trivial⟩⟩⟩ (x_cv (As := [jI (M 154 ((9 * v1) + v2))]) (st := []) c340_135 cl_133 kl255 rfl (Nat.le_of_ble_eq_true rfl) mx255 (Nat.le_refl _) H.2)))))))))))
theorem s340_138 {kc : List va_E} {d : Nat} {v1 v2 : Int} {M : fx_M} {Q : Option fx_V → fx_M → Prop} (H : wp kc (d + 1) 340 74 [some (jR 133), some (jI v1), some (jI (v2 + 1))] [] M Q) : wp kc (d + 1) 340 138 [some (jR 133), some (jI v1), some (jI v2)] [] M Q :=
  (x_inc (l' := [some (jR 133), some (jI v1), some (jI (v2 + 1))]) c340_138 rfl rfl (x_goto c340_141 (wp_wk (l' := [some (jR 133), some (jI v1), some (jI (v2 + 1))]) ⟨rfl, ⟨rfl, ⟨rfl, trivial⟩⟩⟩ H)))
theorem s340 {kc : List va_E} {d : Nat} {x1 : Int} {M : fx_M} {Q : Option fx_V → fx_M → Prop} (H : wc kc d 221 [jI 0] M (fun v M1 => wp kc (d + 1) 340 5 [some (jR 133), some (jI x1), none] (v.toList ++ [jR 133]) M1 Q)) : wc kc (d + 1) 340 [jR 133, jI x1] M Q :=
  wc_of (wp_wk (l' := [some (jR 133), some (jI x1), none]) ⟨rfl, ⟨rfl, trivial⟩⟩ (s340_0 H))

/- PuzzleHouseModel.entries()I -/
theorem c341_0 : fx_op 341 0 = some (.aload_n 0, 1, 0) := by decide +kernel
theorem c341_1 : fx_ci 341 1 = some (0, 2) := by decide +kernel
theorem c341_2 : fx_ca 341 2 = some (342, 2, 2, 5) := by decide +kernel
theorem c341_5 : fx_op 341 5 = some (.ireturn, 6, 5) := by decide +kernel
theorem s341_0 {kc : List va_E} {d : Nat} {M : fx_M} {Q : Option fx_V → fx_M → Prop} (H : wc kc d 342 [jR 133, jI 0] M (fun v M1 => wp kc (d + 1) 341 5 [none] (v.toList ++ []) M1 Q)) : wp kc (d + 1) 341 0 [some (jR 133)] [] M Q :=
  (x_aldn c341_0 rfl (x_ci c341_1 (wp_wk (l' := [none]) trivial (x_cv (As := [jI 0]) (st := []) c341_2 cl_133 kl342 rfl (Nat.le_of_ble_eq_true rfl) mx342 (Nat.le_refl _) H))))
theorem s341_5 {kc : List va_E} {d : Nat} {u0 : Int} {M : fx_M} {Q : Option fx_V → fx_M → Prop} (H : Q (some (jI u0)) M) : wp kc (d + 1) 341 5 [none] [jI u0] M Q :=
  (x_irt c341_5 r341 H)
theorem s341 {kc : List va_E} {d : Nat} {M : fx_M} {Q : Option fx_V → fx_M → Prop} (H : wc kc d 342 [jR 133, jI 0] M (fun v M1 => wp kc (d + 1) 341 5 [none] (v.toList ++ []) M1 Q)) : wc kc (d + 1) 341 [jR 133] M Q :=
  wc_of (wp_wk (l' := [some (jR 133)]) ⟨rfl, trivial⟩ (s341_0 H))

/- PuzzleHouseModel.rootByte(I)I -/
theorem c342_0 : fx_op 342 0 = some (.aload_n 0, 1, 0) := by decide +kernel
theorem c342_1 : fx_gf 342 1 = some (12, 97, 4) := by decide +kernel
theorem c342_4 : fx_ci 342 4 = some (32, 6) := by decide +kernel
theorem c342_6 : fx_op 342 6 = some (.aload_n 0, 7, 6) := by decide +kernel
theorem c342_7 : fx_gf 342 7 = some (12, 97, 10) := by decide +kernel
theorem c342_10 : fx_ci 342 10 = some (0, 11) := by decide +kernel
theorem c342_11 : fx_op 342 11 = some (.iaload, 12, 11) := by decide +kernel
theorem c342_12 : fx_op 342 12 = some (.imul, 13, 12) := by decide +kernel
theorem c342_13 : fx_op 342 13 = some (.iload_n 1, 14, 13) := by decide +kernel
theorem c342_14 : fx_op 342 14 = some (.iadd, 15, 14) := by decide +kernel
theorem c342_15 : fx_op 342 15 = some (.iaload, 16, 15) := by decide +kernel
theorem c342_16 : fx_op 342 16 = some (.ireturn, 17, 16) := by decide +kernel
theorem s342_0 {kc : List va_E} {d : Nat} {x1 : Int} {M : fx_M} {Q : Option fx_V → fx_M → Prop} (H : (((0 : Int) ≤ (32 * (M 188 0)) + x1 ∧ (32 * (M 188 0)) + x1 < 1024)) ∧ Q (some (jI (M 188 ((32 * (M 188 0)) + x1)))) M) : wp kc (d + 1) 342 0 [some (jR 133), some (jI x1)] [] M Q :=
  (x_aldn c342_0 rfl (x_gfr c342_1 k_133_97 (x_ci c342_4 (x_aldn c342_6 rfl (x_gfr c342_7 k_133_97 (x_ci c342_10 (x_iald c342_11 a_188 (by decide) (by decide) (x_imul c342_12 (x_ildn c342_13 rfl (x_iadd c342_14 (x_iald c342_15 a_188 H.1 (by decide) (x_irt c342_16 r342 H.2))))))))))))
theorem s342 {kc : List va_E} {d : Nat} {x1 : Int} {M : fx_M} {Q : Option fx_V → fx_M → Prop} (H : (((0 : Int) ≤ (32 * (M 188 0)) + x1 ∧ (32 * (M 188 0)) + x1 < 1024)) ∧ Q (some (jI (M 188 ((32 * (M 188 0)) + x1)))) M) : wc kc (d + 1) 342 [jR 133, jI x1] M Q :=
  wc_of (wp_wk (l' := [some (jR 133), some (jI x1)]) ⟨rfl, ⟨rfl, trivial⟩⟩ (s342_0 H))

/- PuzzleHouseModel.fetch(I)Z -/
theorem c343_0 : fx_ci 343 0 = some (32, 2) := by decide +kernel
theorem c343_2 : fx_op 343 2 = some (.aload_n 0, 3, 2) := by decide +kernel
theorem c343_3 : fx_op 343 3 = some (.iload_n 1, 4, 3) := by decide +kernel
theorem c343_4 : fx_ca 343 4 = some (344, 2, 2, 7) := by decide +kernel
theorem c343_7 : fx_op 343 7 = some (.imul, 8, 7) := by decide +kernel
theorem c343_8 : fx_op 343 8 = some (.istore_n 2, 9, 8) := by decide +kernel
theorem c343_9 : fx_op 343 9 = some (.iload_n 2, 10, 9) := by decide +kernel
theorem c343_10 : fx_ci 343 10 = some (32, 12) := by decide +kernel
theorem c343_12 : fx_op 343 12 = some (.aload_n 0, 13, 12) := by decide +kernel
theorem c343_13 : fx_op 343 13 = some (.iload_n 1, 14, 13) := by decide +kernel
theorem c343_14 : fx_ca 343 14 = some (345, 2, 2, 17) := by decide +kernel
theorem c343_17 : fx_op 343 17 = some (.imul, 18, 17) := by decide +kernel
theorem c343_18 : fx_op 343 18 = some (.iadd, 19, 18) := by decide +kernel
theorem c343_19 : fx_op 343 19 = some (.istore_n 3, 20, 19) := by decide +kernel
theorem c343_20 : fx_op 343 20 = some (.iload_n 2, 21, 20) := by decide +kernel
theorem c343_21 : fx_ci 343 21 = some (1, 22) := by decide +kernel
theorem c343_22 : fx_op 343 22 = some (.iadd, 23, 22) := by decide +kernel
theorem c343_23 : fx_op 343 23 = some (.aload_n 0, 24, 23) := by decide +kernel
theorem c343_24 : fx_gf 343 24 = some (12, 97, 27) := by decide +kernel
theorem c343_27 : fx_op 343 27 = some (.iload_n 2, 28, 27) := by decide +kernel
theorem c343_29 : fx_op 343 29 = some (.iadd, 30, 29) := by decide +kernel
theorem c343_30 : fx_ci 343 30 = some (2, 31) := by decide +kernel
theorem c343_31 : fx_op 343 31 = some (.iadd, 32, 31) := by decide +kernel
theorem c343_32 : fx_op 343 32 = some (.istore 4, 34, 32) := by decide +kernel
theorem c343_34 : fx_op 343 34 = some (.iload 4, 36, 34) := by decide +kernel
theorem c343_36 : fx_op 343 36 = some (.iload_n 3, 37, 36) := by decide +kernel
theorem c343_37 : fx_op 343 37 = some (.if_icmp .le 5, 40, 42) := by decide +kernel
theorem c343_42 : fx_op 343 42 = some (.aload_n 0, 43, 42) := by decide +kernel
theorem c343_43 : fx_gf 343 43 = some (12, 97, 46) := by decide +kernel
theorem c343_46 : fx_op 343 46 = some (.iload 4, 48, 46) := by decide +kernel
theorem c343_48 : fx_ci 343 48 = some (2, 49) := by decide +kernel
theorem c343_49 : fx_op 343 49 = some (.isub, 50, 49) := by decide +kernel
theorem c343_51 : fx_ci 343 51 = some (256, 54) := by decide +kernel
theorem c343_54 : fx_op 343 54 = some (.aload_n 0, 55, 54) := by decide +kernel
theorem c343_55 : fx_gf 343 55 = some (12, 97, 58) := by decide +kernel
theorem c343_58 : fx_op 343 58 = some (.iload 4, 60, 58) := by decide +kernel
theorem c343_60 : fx_ci 343 60 = some (1, 61) := by decide +kernel
theorem c343_61 : fx_op 343 61 = some (.isub, 62, 61) := by decide +kernel
theorem c343_63 : fx_op 343 63 = some (.imul, 64, 63) := by decide +kernel
theorem c343_64 : fx_op 343 64 = some (.iadd, 65, 64) := by decide +kernel
theorem c343_65 : fx_op 343 65 = some (.istore 5, 67, 65) := by decide +kernel
theorem c343_67 : fx_op 343 67 = some (.iload 4, 69, 67) := by decide +kernel
theorem c343_69 : fx_op 343 69 = some (.iload 5, 71, 69) := by decide +kernel
theorem c343_71 : fx_op 343 71 = some (.iadd, 72, 71) := by decide +kernel
theorem c343_72 : fx_op 343 72 = some (.iload_n 3, 73, 72) := by decide +kernel
theorem c343_73 : fx_op 343 73 = some (.if_icmp .le 5, 76, 78) := by decide +kernel
theorem c343_78 : fx_ci 343 78 = some (0, 79) := by decide +kernel
theorem c343_79 : fx_op 343 79 = some (.istore 6, 81, 79) := by decide +kernel
theorem c343_76 : fx_ci 343 76 = some (0, 77) := by decide +kernel
theorem c343_40 : fx_ci 343 40 = some (0, 41) := by decide +kernel
theorem c343_28 : fx_op 343 28 = some (.iaload, 29, 28) := by decide +kernel
theorem c343_50 : fx_op 343 50 = some (.iaload, 51, 50) := by decide +kernel
theorem c343_62 : fx_op 343 62 = some (.iaload, 63, 62) := by decide +kernel
theorem c343_77 : fx_op 343 77 = some (.ireturn, 78, 77) := by decide +kernel
theorem c343_41 : fx_op 343 41 = some (.ireturn, 42, 41) := by decide +kernel
theorem c343_81 : fx_op 343 81 = some (.iload 6, 83, 81) := by decide +kernel
theorem c343_83 : fx_op 343 83 = some (.iload 5, 85, 83) := by decide +kernel
theorem c343_85 : fx_op 343 85 = some (.if_icmp .ge 26, 88, 111) := by decide +kernel
theorem c343_88 : fx_op 343 88 = some (.aload_n 0, 89, 88) := by decide +kernel
theorem c343_89 : fx_gf 343 89 = some (12, 4, 92) := by decide +kernel
theorem c343_92 : fx_op 343 92 = some (.iload 6, 94, 92) := by decide +kernel
theorem c343_94 : fx_op 343 94 = some (.aload_n 0, 95, 94) := by decide +kernel
theorem c343_95 : fx_gf 343 95 = some (12, 97, 98) := by decide +kernel
theorem c343_98 : fx_op 343 98 = some (.iload 4, 100, 98) := by decide +kernel
theorem c343_100 : fx_op 343 100 = some (.iload 6, 102, 100) := by decide +kernel
theorem c343_102 : fx_op 343 102 = some (.iadd, 103, 102) := by decide +kernel
theorem c343_103 : fx_op 343 103 = some (.iaload, 104, 103) := by decide +kernel
theorem c343_111 : fx_op 343 111 = some (.aload_n 0, 112, 111) := by decide +kernel
theorem c343_112 : fx_op 343 112 = some (.iload 5, 114, 112) := by decide +kernel
theorem c343_114 : fx_pf 343 114 = some (12, 3, 0, 117) := by decide +kernel
theorem c343_117 : fx_op 343 117 = some (.aload_n 0, 118, 117) := by decide +kernel
theorem c343_118 : fx_ci 343 118 = some (0, 119) := by decide +kernel
theorem c343_119 : fx_pf 343 119 = some (12, 7, 0, 122) := by decide +kernel
theorem c343_122 : fx_ci 343 122 = some (1, 123) := by decide +kernel
theorem c343_105 : fx_op 343 105 = some (.iinc 6 1, 108, 105) := by decide +kernel
theorem c343_123 : fx_op 343 123 = some (.ireturn, 124, 123) := by decide +kernel
theorem c343_104 : fx_op 343 104 = some (.iastore, 105, 104) := by decide +kernel
theorem c343_108 : fx_op 343 108 = some (.goto (-27), 111, 81) := by decide +kernel
theorem s343_0 {kc : List va_E} {d : Nat} {x1 : Int} {M : fx_M} {Q : Option fx_V → fx_M → Prop} (H : wc kc d 344 [jR 133, jI x1] M (fun v M1 => wp kc (d + 1) 343 7 [some (jR 133), some (jI x1), none, none, none, none, none] (v.toList ++ [jI 32]) M1 Q)) : wp kc (d + 1) 343 0 [some (jR 133), some (jI x1), none, none, none, none, none] [] M Q :=
  (x_ci c343_0 (x_aldn c343_2 rfl (x_ildn c343_3 rfl (wp_wk (l' := [some (jR 133), some (jI x1), none, none, none, none, none]) ⟨rfl, ⟨rfl, trivial⟩⟩ (x_cv (As := [jI x1]) (st := [jI 32]) c343_4 cl_133 kl344 rfl (Nat.le_of_ble_eq_true rfl) mx344 (Nat.le_refl _) H)))))
theorem s343_7 {kc : List va_E} {d : Nat} {v1 u0 u1 : Int} {M : fx_M} {Q : Option fx_V → fx_M → Prop} (H : wc kc d 345 [jR 133, jI v1] M (fun v M1 => wp kc (d + 1) 343 17 [some (jR 133), none, some (jI (u1 * u0)), none, none, none, none] (v.toList ++ [jI 32, jI (u1 * u0)]) M1 Q)) : wp kc (d + 1) 343 7 [some (jR 133), some (jI v1), none, none, none, none, none] [jI u0, jI u1] M Q :=
  (x_imul c343_7 (x_istn (l' := [some (jR 133), some (jI v1), some (jI (u1 * u0)), none, none, none, none]) c343_8 rfl (x_ildn c343_9 rfl (x_ci c343_10 (x_aldn c343_12 rfl (x_ildn c343_13 rfl (wp_wk (l' := [some (jR 133), none, some (jI (u1 * u0)), none, none, none, none]) ⟨rfl, ⟨rfl, trivial⟩⟩ (x_cv (As := [jI v1]) (st := [jI 32, jI (u1 * u0)]) c343_14 cl_133 kl345 rfl (Nat.le_of_ble_eq_true rfl) mx345 (Nat.le_refl _) H))))))))
theorem s343_17 {kc : List va_E} {d : Nat} {v2 u0 u1 u2 : Int} {M : fx_M} {Q : Option fx_V → fx_M → Prop} (H : (((0 : Int) ≤ v2 ∧ v2 < 1024)) ∧ ((fx_in32 (((v2 + 1) + (M 188 v2)) + 2)) ∧ (fx_in32 (u2 + (u1 * u0)))) ∧ (((v2 + 1) + (M 188 v2)) + 2 ≤ u2 + (u1 * u0) → (((0 : Int) ≤ (((v2 + 1) + (M 188 v2)) + 2) - 2 ∧ (((v2 + 1) + (M 188 v2)) + 2) - 2 < 1024)) ∧ (((0 : Int) ≤ (((v2 + 1) + (M 188 v2)) + 2) - 1 ∧ (((v2 + 1) + (M 188 v2)) + 2) - 1 < 1024)) ∧ ((fx_in32 ((((v2 + 1) + (M 188 v2)) + 2) + ((M 188 ((((v2 + 1) + (M 188 v2)) + 2) - 2)) + (256 * (M 188 ((((v2 + 1) + (M 188 v2)) + 2) - 1)))))) ∧ (fx_in32 (u2 + (u1 * u0)))) ∧ ((((v2 + 1) + (M 188 v2)) + 2) + ((M 188 ((((v2 + 1) + (M 188 v2)) + 2) - 2)) + (256 * (M 188 ((((v2 + 1) + (M 188 v2)) + 2) - 1)))) ≤ u2 + (u1 * u0) → wp kc (d + 1) 343 81 [some (jR 133), none, none, none, some (jI (((v2 + 1) + (M 188 v2)) + 2)), some (jI ((M 188 ((((v2 + 1) + (M 188 v2)) + 2) - 2)) + (256 * (M 188 ((((v2 + 1) + (M 188 v2)) + 2) - 1))))), some (jI 0)] [] M Q) ∧ (u2 + (u1 * u0) < (((v2 + 1) + (M 188 v2)) + 2) + ((M 188 ((((v2 + 1) + (M 188 v2)) + 2) - 2)) + (256 * (M 188 ((((v2 + 1) + (M 188 v2)) + 2) - 1)))) → Q (some (jI 0)) M)) ∧ (u2 + (u1 * u0) < ((v2 + 1) + (M 188 v2)) + 2 → Q (some (jI 0)) M)) : wp kc (d + 1) 343 17 [some (jR 133), none, some (jI v2), none, none, none, none] [jI u0, jI u1, jI u2] M Q :=
  (x_imul c343_17 (x_iadd c343_18 (x_istn (l' := [some (jR 133), none, some (jI v2), some (jI (u2 + (u1 * u0))), none, none, none]) c343_19 rfl (x_ildn c343_20 rfl (x_ci c343_21 (x_iadd c343_22 (x_aldn c343_23 rfl (x_gfr c343_24 k_133_97 (x_ildn c343_27 rfl (x_iald c343_28 a_188 H.1 (by decide) (x_iadd c343_29 (x_ci c343_30 (x_iadd c343_31 (x_ist (l' := [some (jR 133), none, some (jI v2), some (jI (u2 + (u1 * u0))), some (jI (((v2 + 1) + (M 188 v2)) + 2)), none, none]) c343_32 rfl (x_ild c343_34 rfl (x_ildn c343_36 rfl (x_cle c343_37 H.2.1.1 H.2.1.2 (fun h3 => (x_aldn c343_42 rfl (x_gfr c343_43 k_133_97 (x_ild c343_46 rfl (x_ci c343_48 (x_isub c343_49 (x_iald c343_50 a_188 (H.2.2.1 h3).1 (by decide) (x_ci c343_51 (x_aldn c343_54 rfl (x_gfr c343_55 k_133_97 (x_ild c343_58 rfl (x_ci c343_60 (x_isub c343_61 (x_iald c343_62 a_188 (H.2.2.1 h3).2.1 (by decide) (x_imul c343_63 (x_iadd c343_64 (x_ist (l' := [some (jR 133), none, some (jI v2), some (jI (u2 + (u1 * u0))), some (jI (((v2 + 1) + (M 188 v2)) + 2)), some (jI ((M 188 ((((v2 + 1) + (M 188 v2)) + 2) - 2)) + (256 * (M 188 ((((v2 + 1) + (M 188 v2)) + 2) - 1))))), none]) c343_65 rfl (x_ild c343_67 rfl (x_ild c343_69 rfl (x_iadd c343_71 (x_ildn c343_72 rfl (x_cle c343_73 (H.2.2.1 h3).2.2.1.1 (H.2.2.1 h3).2.2.1.2 (fun h1 => (x_ci c343_78 (x_ist (l' := [some (jR 133), none, some (jI v2), some (jI (u2 + (u1 * u0))), some (jI (((v2 + 1) + (M 188 v2)) + 2)), some (jI ((M 188 ((((v2 + 1) + (M 188 v2)) + 2) - 2)) + (256 * (M 188 ((((v2 + 1) + (M 188 v2)) + 2) - 1))))), some (jI 0)]) c343_79 rfl (wp_wk (l' := [some (jR 133), none, none, none, some (jI (((v2 + 1) + (M 188 v2)) + 2)), some (jI ((M 188 ((((v2 + 1) + (M 188 v2)) + 2) - 2)) + (256 * (M 188 ((((v2 + 1) + (M 188 v2)) + 2) - 1))))), some (jI 0)]) ⟨rfl, ⟨rfl, ⟨rfl, ⟨rfl, trivial⟩⟩⟩⟩ ((H.2.2.1 h3).2.2.2.1 h1))))) (fun h2 => (x_ci c343_76 (x_zrt c343_77 r343 (by decide) ((H.2.2.1 h3).2.2.2.2 h2)))))))))))))))))))))))))) (fun h4 => (x_ci c343_40 (x_zrt c343_41 r343 (by decide) (H.2.2.2 h4)))))))))))))))))))))
theorem s343_81 {kc : List va_E} {d : Nat} {v4 v5 v6 : Int} {M : fx_M} {Q : Option fx_V → fx_M → Prop} (H : ((fx_in32 v6) ∧ (fx_in32 v5)) ∧ (v5 ≤ v6 → Q (some (jI 1)) (fx_up (fx_up M 133 3 v5) 133 7 0)) ∧ (v6 < v5 → (((0 : Int) ≤ v4 + v6 ∧ v4 + v6 < 1024)) ∧ (((0 : Int) ≤ v6 ∧ v6 < 6100)) ∧ wp kc (d + 1) 343 81 [some (jR 133), none, none, none, some (jI v4), some (jI v5), some (jI (v6 + 1))] [] (fx_up M 135 v6 (M 188 (v4 + v6))) Q)) : wp kc (d + 1) 343 81 [some (jR 133), none, none, none, some (jI v4), some (jI v5), some (jI v6)] [] M Q :=
  (x_ild c343_81 rfl (x_ild c343_83 rfl (x_cge c343_85 H.1.1 H.1.2 (fun h1 => (x_aldn c343_111 rfl (x_ild c343_112 rfl (x_pfi c343_114 k_133_3 (x_aldn c343_117 rfl (x_ci c343_118 (x_pfi c343_119 k_133_7 (x_ci c343_122 (x_zrt c343_123 r343 (by decide) (H.2.1 h1)))))))))) (fun h2 => (x_aldn c343_88 rfl (x_gfr c343_89 k_133_4 (x_ild c343_92 rfl (x_aldn c343_94 rfl (x_gfr c343_95 k_133_97 (x_ild c343_98 rfl (x_ild c343_100 rfl (x_iadd c343_102 (x_iald c343_103 a_188 (H.2.2 h2).1 (by decide) (x_iast c343_104 a_135 (H.2.2 h2).2.1 (by decide) (x_inc (l' := [some (jR 133), none, none, none, some (jI v4), some (jI v5), some (jI (v6 + 1))]) c343_105 rfl rfl (x_goto c343_108 (wp_wk (l' := [some (jR 133), none, none, none, some (jI v4), some (jI v5), some (jI (v6 + 1))]) ⟨rfl, ⟨rfl, ⟨rfl, ⟨rfl, trivial⟩⟩⟩⟩ (H.2.2 h2).2.2)))))))))))))))))
theorem s343 {kc : List va_E} {d : Nat} {x1 : Int} {M : fx_M} {Q : Option fx_V → fx_M → Prop} (H : wc kc d 344 [jR 133, jI x1] M (fun v M1 => wp kc (d + 1) 343 7 [some (jR 133), some (jI x1), none, none, none, none, none] (v.toList ++ [jI 32]) M1 Q)) : wc kc (d + 1) 343 [jR 133, jI x1] M Q :=
  wc_of (wp_wk (l' := [some (jR 133), some (jI x1), none, none, none, none, none]) ⟨rfl, ⟨rfl, trivial⟩⟩ (s343_0 H))

/- PuzzleHouseModel.entryFirst(I)I -/
theorem c344_0 : fx_op 344 0 = some (.aload_n 0, 1, 0) := by decide +kernel
theorem c344_1 : fx_ci 344 1 = some (1, 2) := by decide +kernel
theorem c344_2 : fx_ci 344 2 = some (2, 3) := by decide +kernel
theorem c344_3 : fx_op 344 3 = some (.iload_n 1, 4, 3) := by decide +kernel
theorem c344_4 : fx_op 344 4 = some (.imul, 5, 4) := by decide +kernel
theorem c344_5 : fx_op 344 5 = some (.iadd, 6, 5) := by decide +kernel
theorem c344_6 : fx_ca 344 6 = some (342, 2, 2, 9) := by decide +kernel
theorem c344_9 : fx_op 344 9 = some (.ireturn, 10, 9) := by decide +kernel
theorem s344_0 {kc : List va_E} {d : Nat} {x1 : Int} {M : fx_M} {Q : Option fx_V → fx_M → Prop} (H : wc kc d 342 [jR 133, jI (1 + (2 * x1))] M (fun v M1 => wp kc (d + 1) 344 9 [none, none] (v.toList ++ []) M1 Q)) : wp kc (d + 1) 344 0 [some (jR 133), some (jI x1)] [] M Q :=
  (x_aldn c344_0 rfl (x_ci c344_1 (x_ci c344_2 (x_ildn c344_3 rfl (x_imul c344_4 (x_iadd c344_5 (wp_wk (l' := [none, none]) trivial (x_cv (As := [jI (1 + (2 * x1))]) (st := []) c344_6 cl_133 kl342 rfl (Nat.le_of_ble_eq_true rfl) mx342 (Nat.le_refl _) H))))))))
theorem s344_9 {kc : List va_E} {d : Nat} {u0 : Int} {M : fx_M} {Q : Option fx_V → fx_M → Prop} (H : Q (some (jI u0)) M) : wp kc (d + 1) 344 9 [none, none] [jI u0] M Q :=
  (x_irt c344_9 r344 H)
theorem s344 {kc : List va_E} {d : Nat} {x1 : Int} {M : fx_M} {Q : Option fx_V → fx_M → Prop} (H : wc kc d 342 [jR 133, jI (1 + (2 * x1))] M (fun v M1 => wp kc (d + 1) 344 9 [none, none] (v.toList ++ []) M1 Q)) : wc kc (d + 1) 344 [jR 133, jI x1] M Q :=
  wc_of (wp_wk (l' := [some (jR 133), some (jI x1)]) ⟨rfl, ⟨rfl, trivial⟩⟩ (s344_0 H))

/- PuzzleHouseModel.entryPages(I)I -/
theorem c345_0 : fx_op 345 0 = some (.aload_n 0, 1, 0) := by decide +kernel
theorem c345_1 : fx_ci 345 1 = some (2, 2) := by decide +kernel
theorem c345_2 : fx_ci 345 2 = some (2, 3) := by decide +kernel
theorem c345_3 : fx_op 345 3 = some (.iload_n 1, 4, 3) := by decide +kernel
theorem c345_4 : fx_op 345 4 = some (.imul, 5, 4) := by decide +kernel
theorem c345_5 : fx_op 345 5 = some (.iadd, 6, 5) := by decide +kernel
theorem c345_6 : fx_ca 345 6 = some (342, 2, 2, 9) := by decide +kernel
theorem c345_9 : fx_op 345 9 = some (.ireturn, 10, 9) := by decide +kernel
theorem s345_0 {kc : List va_E} {d : Nat} {x1 : Int} {M : fx_M} {Q : Option fx_V → fx_M → Prop} (H : wc kc d 342 [jR 133, jI (2 + (2 * x1))] M (fun v M1 => wp kc (d + 1) 345 9 [none, none] (v.toList ++ []) M1 Q)) : wp kc (d + 1) 345 0 [some (jR 133), some (jI x1)] [] M Q :=
  (x_aldn c345_0 rfl (x_ci c345_1 (x_ci c345_2 (x_ildn c345_3 rfl (x_imul c345_4 (x_iadd c345_5 (wp_wk (l' := [none, none]) trivial (x_cv (As := [jI (2 + (2 * x1))]) (st := []) c345_6 cl_133 kl342 rfl (Nat.le_of_ble_eq_true rfl) mx342 (Nat.le_refl _) H))))))))
theorem s345_9 {kc : List va_E} {d : Nat} {u0 : Int} {M : fx_M} {Q : Option fx_V → fx_M → Prop} (H : Q (some (jI u0)) M) : wp kc (d + 1) 345 9 [none, none] [jI u0] M Q :=
  (x_irt c345_9 r345 H)
theorem s345 {kc : List va_E} {d : Nat} {x1 : Int} {M : fx_M} {Q : Option fx_V → fx_M → Prop} (H : wc kc d 342 [jR 133, jI (2 + (2 * x1))] M (fun v M1 => wp kc (d + 1) 345 9 [none, none] (v.toList ++ []) M1 Q)) : wc kc (d + 1) 345 [jR 133, jI x1] M Q :=
  wc_of (wp_wk (l' := [some (jR 133), some (jI x1)]) ⟨rfl, ⟨rfl, trivial⟩⟩ (s345_0 H))

/- PuzzleHouseModel.isFormThen()Z -/
theorem c346_0 : fx_op 346 0 = some (.aload_n 0, 1, 0) := by decide +kernel
theorem c346_1 : fx_gf 346 1 = some (12, 74, 4) := by decide +kernel
theorem c346_4 : fx_op 346 4 = some (.aload_n 0, 5, 4) := by decide +kernel
theorem c346_5 : fx_gf 346 5 = some (12, 77, 8) := by decide +kernel
theorem c346_8 : fx_op 346 8 = some (.if_icmp .ne 7, 11, 15) := by decide +kernel
theorem c346_15 : fx_ci 346 15 = some (0, 16) := by decide +kernel
theorem c346_11 : fx_ci 346 11 = some (1, 12) := by decide +kernel
theorem c346_12 : fx_op 346 12 = some (.goto 4, 15, 16) := by decide +kernel
theorem c346_16 : fx_op 346 16 = some (.istore_n 1, 17, 16) := by decide +kernel
theorem c346_17 : fx_ci 346 17 = some (0, 18) := by decide +kernel
theorem c346_18 : fx_op 346 18 = some (.istore_n 2, 19, 18) := by decide +kernel
theorem c346_19 : fx_op 346 19 = some (.iload_n 1, 20, 19) := by decide +kernel
theorem c346_20 : fx_op 346 20 = some (.ifCond .eq 38, 23, 58) := by decide +kernel
theorem c346_23 : fx_op 346 23 = some (.iload_n 2, 24, 23) := by decide +kernel
theorem c346_24 : fx_op 346 24 = some (.aload_n 0, 25, 24) := by decide +kernel
theorem c346_25 : fx_gf 346 25 = some (12, 74, 28) := by decide +kernel
theorem c346_28 : fx_op 346 28 = some (.if_icmp .ge 30, 31, 58) := by decide +kernel
theorem c346_31 : fx_op 346 31 = some (.aload_n 0, 32, 31) := by decide +kernel
theorem c346_32 : fx_gf 346 32 = some (12, 75, 35) := by decide +kernel
theorem c346_35 : fx_op 346 35 = some (.iload_n 2, 36, 35) := by decide +kernel
theorem c346_36 : fx_op 346 36 = some (.iaload, 37, 36) := by decide +kernel
theorem c346_37 : fx_op 346 37 = some (.aload_n 0, 38, 37) := by decide +kernel
theorem c346_38 : fx_gf 346 38 = some (12, 76, 41) := by decide +kernel
theorem c346_41 : fx_op 346 41 = some (.iload_n 2, 42, 41) := by decide +kernel
theorem c346_42 : fx_op 346 42 = some (.iaload, 43, 42) := by decide +kernel
theorem c346_43 : fx_op 346 43 = some (.if_icmp .ne 7, 46, 50) := by decide +kernel
theorem c346_50 : fx_ci 346 50 = some (0, 51) := by decide +kernel
theorem c346_51 : fx_op 346 51 = some (.istore_n 1, 52, 51) := by decide +kernel
theorem c346_52 : fx_op 346 52 = some (.iinc 2 1, 55, 52) := by decide +kernel
theorem c346_58 : fx_op 346 58 = some (.iload_n 1, 59, 58) := by decide +kernel
theorem c346_46 : fx_ci 346 46 = some (1, 47) := by decide +kernel
theorem c346_47 : fx_op 346 47 = some (.goto 4, 50, 51) := by decide +kernel
theorem c346_59 : fx_op 346 59 = some (.ireturn, 60, 59) := by decide +kernel
theorem c346_55 : fx_op 346 55 = some (.goto (-36), 58, 19) := by decide +kernel
theorem s346_0 {kc : List va_E} {d : Nat} {M : fx_M} {Q : Option fx_V → fx_M → Prop} (H : ((fx_in32 (M 133 74))) ∧ ((fx_in32 (M 133 77))) ∧ wp kc (d + 1) 346 19 [some (jR 133), some (jI (if M 133 74 = M 133 77 then (1 : Int) else 0)), some (jI 0)] [] M Q) : wp kc (d + 1) 346 0 [some (jR 133), none, none] [] M Q :=
  (x_aldn c346_0 rfl (x_gfi c346_1 k_133_74 (x_aldn c346_4 rfl (x_gfi c346_5 k_133_77 (have K : wp kc (d + 1) 346 16 [some (jR 133), none, none] [jI (if M 133 74 = M 133 77 then (1 : Int) else 0)] M Q := (x_istn (l' := [some (jR 133), some (jI (if M 133 74 = M 133 77 then (1 : Int) else 0)), none]) c346_16 rfl (x_ci c346_17 (x_istn (l' := [some (jR 133), some (jI (if M 133 74 = M 133 77 then (1 : Int) else 0)), some (jI 0)]) c346_18 rfl (wp_wk (l' := [some (jR 133), some (jI (if M 133 74 = M 133 77 then (1 : Int) else 0)), some (jI 0)]) ⟨rfl, ⟨rfl, ⟨rfl, trivial⟩⟩⟩ H.2.2)))); (x_cne c346_8 H.1 H.2.1 (fun (h1 : M 133 74 ≠ M 133 77) => (x_ci c346_15 (wp_wk (l' := [some (jR 133), none, none]) ⟨rfl, trivial⟩ (by have K := K; first | (simp only [if_neg h1] at K ⊢; exact K) | (exfalso; omega))))) (fun (h2 : M 133 74 = M 133 77) => (x_ci c346_11 (x_goto c346_12 (wp_wk (l' := [some (jR 133), none, none]) ⟨rfl, trivial⟩ (by have K := K; first | (simp only [if_pos h2] at K ⊢; exact K) | (exfalso; omega))))))))))))
theorem s346_19 {kc : List va_E} {d : Nat} {v1 v2 : Int} {M : fx_M} {Q : Option fx_V → fx_M → Prop} (H : ((fx_in32 v1)) ∧ (v1 = 0 → ((0 : Int) ≤ v1 ∧ v1 ≤ 1) ∧ Q (some (jI v1)) M) ∧ (v1 ≠ 0 → ((fx_in32 v2) ∧ (fx_in32 (M 133 74))) ∧ (M 133 74 ≤ v2 → ((0 : Int) ≤ v1 ∧ v1 ≤ 1) ∧ Q (some (jI v1)) M) ∧ (v2 < M 133 74 → (((0 : Int) ≤ v2 ∧ v2 < 600)) ∧ (((0 : Int) ≤ v2 ∧ v2 < 600)) ∧ ((fx_in32 (M 170 v2))) ∧ ((fx_in32 (M 171 v2))) ∧ wp kc (d + 1) 346 19 [some (jR 133), some (jI (if M 170 v2 = M 171 v2 then (1 : Int) else 0)), some (jI (v2 + 1))] [] M Q))) : wp kc (d + 1) 346 19 [some (jR 133), some (jI v1), some (jI v2)] [] M Q :=
  (x_ildn c346_19 rfl (x_zeq c346_20 H.1 (fun h3 => (x_ildn c346_58 rfl (x_zrt c346_59 r346 (H.2.1 h3).1 (H.2.1 h3).2))) (fun h4 => (x_ildn c346_23 rfl (x_aldn c346_24 rfl (x_gfi c346_25 k_133_74 (x_cge c346_28 (H.2.2 h4).1.1 (H.2.2 h4).1.2 (fun h1 => (x_ildn c346_58 rfl (x_zrt c346_59 r346 ((H.2.2 h4).2.1 h1).1 ((H.2.2 h4).2.1 h1).2))) (fun h2 => (x_aldn c346_31 rfl (x_gfr c346_32 k_133_75 (x_ildn c346_35 rfl (x_iald c346_36 a_170 ((H.2.2 h4).2.2 h2).1 (by decide) (x_aldn c346_37 rfl (x_gfr c346_38 k_133_76 (x_ildn c346_41 rfl (x_iald c346_42 a_171 ((H.2.2 h4).2.2 h2).2.1 (by decide) (have K : wp kc (d + 1) 346 51 [some (jR 133), none, some (jI v2)] [jI (if M 170 v2 = M 171 v2 then (1 : Int) else 0)] M Q := (x_istn (l' := [some (jR 133), some (jI (if M 170 v2 = M 171 v2 then (1 : Int) else 0)), some (jI v2)]) c346_51 rfl (x_inc (l' := [some (jR 133), some (jI (if M 170 v2 = M 171 v2 then (1 : Int) else 0)), some (jI (v2 + 1))]) c346_52 rfl rfl (x_goto c346_55 (wp_wk (l' := [some (jR 133), some (jI (if M 170 v2 = M 171 v2 then (1 : Int) else 0)), some (jI (v2 + 1))]) ⟨rfl, ⟨rfl, ⟨rfl, trivial⟩⟩⟩ ((H.2.2 h4).2.2 h2).2.2.2.2)))); (x_cne c346_43 ((H.2.2 h4).2.2 h2).2.2.1 ((H.2.2 h4).2.2 h2).2.2.2.1 (fun (h5 : M 170 v2 ≠ M 171 v2) => (x_ci c346_50 (wp_wk (l' := [some (jR 133), none, some (jI v2)]) ⟨rfl, ⟨rfl, trivial⟩⟩ (by have K := K; first | (simp only [if_neg h5] at K ⊢; exact K) | (exfalso; omega))))) (fun (h6 : M 170 v2 = M 171 v2) => (x_ci c346_46 (x_goto c346_47 (wp_wk (l' := [some (jR 133), none, some (jI v2)]) ⟨rfl, ⟨rfl, trivial⟩⟩ (by have K := K; first | (simp only [if_pos h6] at K ⊢; exact K) | (exfalso; omega))))))))))))))))))))))))
theorem s346 {kc : List va_E} {d : Nat} {M : fx_M} {Q : Option fx_V → fx_M → Prop} (H : ((fx_in32 (M 133 74))) ∧ ((fx_in32 (M 133 77))) ∧ wp kc (d + 1) 346 19 [some (jR 133), some (jI (if M 133 74 = M 133 77 then (1 : Int) else 0)), some (jI 0)] [] M Q) : wc kc (d + 1) 346 [jR 133] M Q :=
  wc_of (wp_wk (l' := [some (jR 133), none, none]) ⟨rfl, trivial⟩ (s346_0 H))

/- PuzzleHouseModel.sayEntryName(I)V -/
theorem c347_0 : fx_ci 347 0 = some (32, 2) := by decide +kernel
theorem c347_2 : fx_op 347 2 = some (.aload_n 0, 3, 2) := by decide +kernel
theorem c347_3 : fx_op 347 3 = some (.iload_n 1, 4, 3) := by decide +kernel
theorem c347_4 : fx_ca 347 4 = some (344, 2, 2, 7) := by decide +kernel
theorem c347_7 : fx_op 347 7 = some (.imul, 8, 7) := by decide +kernel
theorem c347_8 : fx_op 347 8 = some (.istore_n 2, 9, 8) := by decide +kernel
theorem c347_9 : fx_ci 347 9 = some (0, 10) := by decide +kernel
theorem c347_10 : fx_op 347 10 = some (.istore_n 3, 11, 10) := by decide +kernel
theorem c347_11 : fx_op 347 11 = some (.iload_n 3, 12, 11) := by decide +kernel
theorem c347_12 : fx_op 347 12 = some (.aload_n 0, 13, 12) := by decide +kernel
theorem c347_13 : fx_gf 347 13 = some (12, 97, 16) := by decide +kernel
theorem c347_16 : fx_op 347 16 = some (.iload_n 2, 17, 16) := by decide +kernel
theorem c347_18 : fx_op 347 18 = some (.if_icmp .ge 23, 21, 41) := by decide +kernel
theorem c347_21 : fx_op 347 21 = some (.aload_n 0, 22, 21) := by decide +kernel
theorem c347_22 : fx_op 347 22 = some (.aload_n 0, 23, 22) := by decide +kernel
theorem c347_23 : fx_gf 347 23 = some (12, 97, 26) := by decide +kernel
theorem c347_26 : fx_op 347 26 = some (.iload_n 2, 27, 26) := by decide +kernel
theorem c347_27 : fx_ci 347 27 = some (1, 28) := by decide +kernel
theorem c347_28 : fx_op 347 28 = some (.iadd, 29, 28) := by decide +kernel
theorem c347_29 : fx_op 347 29 = some (.iload_n 3, 30, 29) := by decide +kernel
theorem c347_30 : fx_op 347 30 = some (.iadd, 31, 30) := by decide +kernel
theorem c347_31 : fx_op 347 31 = some (.iaload, 32, 31) := by decide +kernel
theorem c347_41 : fx_op 347 41 = some (.aload_n 0, 42, 41) := by decide +kernel
theorem c347_42 : fx_ci 347 42 = some (32, 44) := by decide +kernel
theorem c347_17 : fx_op 347 17 = some (.iaload, 18, 17) := by decide +kernel
theorem c347_44 : fx_ca 347 44 = some (254, 2, 2, 47) := by decide +kernel
theorem c347_32 : fx_ca 347 32 = some (254, 2, 2, 35) := by decide +kernel
theorem c347_47 : fx_op 347 47 = some (.return_, 48, 47) := by decide +kernel
theorem c347_35 : fx_op 347 35 = some (.iinc 3 1, 38, 35) := by decide +kernel
theorem c347_38 : fx_op 347 38 = some (.goto (-27), 41, 11) := by decide +kernel
theorem s347_0 {kc : List va_E} {d : Nat} {x1 : Int} {M : fx_M} {Q : Option fx_V → fx_M → Prop} (H : wc kc d 344 [jR 133, jI x1] M (fun v M1 => wp kc (d + 1) 347 7 [some (jR 133), none, none, none] (v.toList ++ [jI 32]) M1 Q)) : wp kc (d + 1) 347 0 [some (jR 133), some (jI x1), none, none] [] M Q :=
  (x_ci c347_0 (x_aldn c347_2 rfl (x_ildn c347_3 rfl (wp_wk (l' := [some (jR 133), none, none, none]) ⟨rfl, trivial⟩ (x_cv (As := [jI x1]) (st := [jI 32]) c347_4 cl_133 kl344 rfl (Nat.le_of_ble_eq_true rfl) mx344 (Nat.le_refl _) H)))))
theorem s347_7 {kc : List va_E} {d : Nat} {u0 u1 : Int} {M : fx_M} {Q : Option fx_V → fx_M → Prop} (H : wp kc (d + 1) 347 11 [some (jR 133), none, some (jI (u1 * u0)), some (jI 0)] [] M Q) : wp kc (d + 1) 347 7 [some (jR 133), none, none, none] [jI u0, jI u1] M Q :=
  (x_imul c347_7 (x_istn (l' := [some (jR 133), none, some (jI (u1 * u0)), none]) c347_8 rfl (x_ci c347_9 (x_istn (l' := [some (jR 133), none, some (jI (u1 * u0)), some (jI 0)]) c347_10 rfl (wp_wk (l' := [some (jR 133), none, some (jI (u1 * u0)), some (jI 0)]) ⟨rfl, ⟨rfl, ⟨rfl, trivial⟩⟩⟩ H)))))
theorem s347_11 {kc : List va_E} {d : Nat} {v2 v3 : Int} {M : fx_M} {Q : Option fx_V → fx_M → Prop} (H : (((0 : Int) ≤ v2 ∧ v2 < 1024)) ∧ ((fx_in32 v3) ∧ (fx_in32 (M 188 v2))) ∧ (M 188 v2 ≤ v3 → wc kc d 254 [jR 133, jI 32] M (fun v M1 => wp kc (d + 1) 347 47 [none, none, none, none] (v.toList ++ []) M1 Q)) ∧ (v3 < M 188 v2 → (((0 : Int) ≤ (v2 + 1) + v3 ∧ (v2 + 1) + v3 < 1024)) ∧ wc kc d 254 [jR 133, jI (M 188 ((v2 + 1) + v3))] M (fun v M1 => wp kc (d + 1) 347 35 [some (jR 133), none, some (jI v2), some (jI v3)] (v.toList ++ []) M1 Q))) : wp kc (d + 1) 347 11 [some (jR 133), none, some (jI v2), some (jI v3)] [] M Q :=
  (x_ildn c347_11 rfl (x_aldn c347_12 rfl (x_gfr c347_13 k_133_97 (x_ildn c347_16 rfl (x_iald c347_17 a_188 H.1 (by decide) (x_cge c347_18 H.2.1.1 H.2.1.2 (fun h1 => (x_aldn c347_41 rfl (x_ci c347_42 (wp_wk (l' := [none, none, none, none]) trivial (x_cv (As := [jI 32]) (st := []) c347_44 cl_133 kl254 rfl (Nat.le_of_ble_eq_true rfl) mx254 (Nat.le_refl _) (H.2.2.1 h1)))))) (fun h2 => (x_aldn c347_21 rfl (x_aldn c347_22 rfl (x_gfr c347_23 k_133_97 (x_ildn c347_26 rfl (x_ci c347_27 (x_iadd c347_28 (x_ildn c347_29 rfl (x_iadd c347_30 (x_iald c347_31 a_188 (H.2.2.2 h2).1 (by decide) (wp_wk (l' := [some (jR 133), none, some (jI v2), some (jI v3)]) ⟨rfl, ⟨rfl, ⟨rfl, trivial⟩⟩⟩ (x_cv (As := [jI (M 188 ((v2 + 1) + v3))]) (st := []) c347_32 cl_133 kl254 rfl (Nat.le_of_ble_eq_true rfl) mx254 (Nat.le_refl _) (H.2.2.2 h2).2))))))))))))))))))
theorem s347_35 {kc : List va_E} {d : Nat} {v2 v3 : Int} {M : fx_M} {Q : Option fx_V → fx_M → Prop} (H : wp kc (d + 1) 347 11 [some (jR 133), none, some (jI v2), some (jI (v3 + 1))] [] M Q) : wp kc (d + 1) 347 35 [some (jR 133), none, some (jI v2), some (jI v3)] [] M Q :=
  (x_inc (l' := [some (jR 133), none, some (jI v2), some (jI (v3 + 1))]) c347_35 rfl rfl (x_goto c347_38 (wp_wk (l' := [some (jR 133), none, some (jI v2), some (jI (v3 + 1))]) ⟨rfl, ⟨rfl, ⟨rfl, trivial⟩⟩⟩ H)))
theorem s347_47 {kc : List va_E} {d : Nat} {M : fx_M} {Q : Option fx_V → fx_M → Prop} (H : Q none M) : wp kc (d + 1) 347 47 [none, none, none, none] [] M Q :=
  (x_vr c347_47 r347 H)
theorem s347 {kc : List va_E} {d : Nat} {x1 : Int} {M : fx_M} {Q : Option fx_V → fx_M → Prop} (H : wc kc d 344 [jR 133, jI x1] M (fun v M1 => wp kc (d + 1) 347 7 [some (jR 133), none, none, none] (v.toList ++ [jI 32]) M1 Q)) : wc kc (d + 1) 347 [jR 133, jI x1] M Q :=
  wc_of (wp_wk (l' := [some (jR 133), some (jI x1), none, none]) ⟨rfl, ⟨rfl, trivial⟩⟩ (s347_0 H))

/- PuzzleHouseModel.sayContest()V -/
theorem c348_0 : fx_op 348 0 = some (.aload_n 0, 1, 0) := by decide +kernel
theorem c348_1 : fx_ci 348 1 = some (0, 2) := by decide +kernel
theorem c348_2 : fx_pf 348 2 = some (12, 89, 0, 5) := by decide +kernel
theorem c348_5 : fx_op 348 5 = some (.aload_n 0, 6, 5) := by decide +kernel
theorem c348_6 : fx_ca 348 6 = some (261, 1, 2, 9) := by decide +kernel
theorem c348_9 : fx_op 348 9 = some (.return_, 10, 9) := by decide +kernel
theorem s348_0 {kc : List va_E} {d : Nat} {M : fx_M} {Q : Option fx_V → fx_M → Prop} (H : wc kc d 261 [jR 133] (fx_up M 133 89 0) (fun v M1 => wp kc (d + 1) 348 9 [none] (v.toList ++ []) M1 Q)) : wp kc (d + 1) 348 0 [some (jR 133)] [] M Q :=
  (x_aldn c348_0 rfl (x_ci c348_1 (x_pfi c348_2 k_133_89 (x_aldn c348_5 rfl (wp_wk (l' := [none]) trivial (x_cv (As := []) (st := []) c348_6 cl_133 kl261 rfl (Nat.le_of_ble_eq_true rfl) mx261 (Nat.le_refl _) H))))))
theorem s348_9 {kc : List va_E} {d : Nat} {M : fx_M} {Q : Option fx_V → fx_M → Prop} (H : Q none M) : wp kc (d + 1) 348 9 [none] [] M Q :=
  (x_vr c348_9 r348 H)
theorem s348 {kc : List va_E} {d : Nat} {M : fx_M} {Q : Option fx_V → fx_M → Prop} (H : wc kc d 261 [jR 133] (fx_up M 133 89 0) (fun v M1 => wp kc (d + 1) 348 9 [none] (v.toList ++ []) M1 Q)) : wc kc (d + 1) 348 [jR 133] M Q :=
  wc_of (wp_wk (l' := [some (jR 133)]) ⟨rfl, trivial⟩ (s348_0 H))

/- PuzzleHouseModel.saySubmit(II)V -/
theorem c349_0 : fx_op 349 0 = some (.iload_n 1, 1, 0) := by decide +kernel
theorem c349_1 : fx_ci 349 1 = some (3, 2) := by decide +kernel
theorem c349_2 : fx_op 349 2 = some (.if_icmp .lt 13, 5, 15) := by decide +kernel
theorem c349_15 : fx_op 349 15 = some (.aload_n 0, 16, 15) := by decide +kernel
theorem c349_5 : fx_op 349 5 = some (.aload_n 0, 6, 5) := by decide +kernel
theorem c349_6 : fx_ci 349 6 = some (25, 8) := by decide +kernel
theorem c349_16 : fx_ca 349 16 = some (350, 1, 2, 19) := by decide +kernel
theorem c349_8 : fx_ca 349 8 = some (221, 1, 0, 11) := by decide +kernel
theorem c349_19 : fx_op 349 19 = some (.istore_n 3, 20, 19) := by decide +kernel
theorem c349_20 : fx_op 349 20 = some (.iload_n 3, 21, 20) := by decide +kernel
theorem c349_21 : fx_op 349 21 = some (.ifCond .ge 11, 24, 32) := by decide +kernel
theorem c349_32 : fx_ci 349 32 = some (6, 34) := by decide +kernel
theorem c349_34 : fx_op 349 34 = some (.iload_n 1, 35, 34) := by decide +kernel
theorem c349_35 : fx_op 349 35 = some (.imul, 36, 35) := by decide +kernel
theorem c349_36 : fx_op 349 36 = some (.iload_n 3, 37, 36) := by decide +kernel
theorem c349_37 : fx_op 349 37 = some (.iadd, 38, 37) := by decide +kernel
theorem c349_38 : fx_op 349 38 = some (.istore 4, 40, 38) := by decide +kernel
theorem c349_40 : fx_op 349 40 = some (.aload_n 0, 41, 40) := by decide +kernel
theorem c349_41 : fx_gf 349 41 = some (12, 94, 44) := by decide +kernel
theorem c349_44 : fx_op 349 44 = some (.iload 4, 46, 44) := by decide +kernel
theorem c349_47 : fx_op 349 47 = some (.ifCond .eq 13, 50, 60) := by decide +kernel
theorem c349_60 : fx_op 349 60 = some (.aload_n 0, 61, 60) := by decide +kernel
theorem c349_61 : fx_ci 349 61 = some (4, 62) := by decide +kernel
theorem c349_62 : fx_op 349 62 = some (.iload_n 3, 63, 62) := by decide +kernel
theorem c349_63 : fx_op 349 63 = some (.iadd, 64, 63) := by decide +kernel
theorem c349_50 : fx_op 349 50 = some (.aload_n 0, 51, 50) := by decide +kernel
theorem c349_51 : fx_cj 349 51 = some (1870030194, 54) := by decide +kernel
theorem c349_24 : fx_op 349 24 = some (.aload_n 0, 25, 24) := by decide +kernel
theorem c349_25 : fx_cj 349 25 = some (1769235821, 28) := by decide +kernel
theorem c349_46 : fx_op 349 46 = some (.baload, 47, 46) := by decide +kernel
theorem c349_64 : fx_ca 349 64 = some (351, 2, 2, 67) := by decide +kernel
theorem c349_54 : fx_ca 349 54 = some (253, 2, 2, 57) := by decide +kernel
theorem c349_28 : fx_ca 349 28 = some (260, 2, 2, 31) := by decide +kernel
theorem c349_11 : fx_ca 349 11 = some (260, 2, 2, 14) := by decide +kernel
theorem c349_67 : fx_op 349 67 = some (.ifCond .ne 13, 70, 80) := by decide +kernel
theorem c349_80 : fx_op 349 80 = some (.aload_n 0, 81, 80) := by decide +kernel
theorem c349_81 : fx_ci 349 81 = some (4, 82) := by decide +kernel
theorem c349_82 : fx_op 349 82 = some (.iload_n 3, 83, 82) := by decide +kernel
theorem c349_83 : fx_op 349 83 = some (.iadd, 84, 83) := by decide +kernel
theorem c349_70 : fx_op 349 70 = some (.aload_n 0, 71, 70) := by decide +kernel
theorem c349_71 : fx_cj 349 71 = some (28826362020720231, 74) := by decide +kernel
theorem c349_84 : fx_ca 349 84 = some (352, 2, 2, 87) := by decide +kernel
theorem c349_74 : fx_ca 349 74 = some (260, 2, 2, 77) := by decide +kernel
theorem c349_57 : fx_op 349 57 = some (.goto 79, 60, 136) := by decide +kernel
theorem c349_136 : fx_op 349 136 = some (.return_, 137, 136) := by decide +kernel
theorem c349_31 : fx_op 349 31 = some (.return_, 32, 31) := by decide +kernel
theorem c349_14 : fx_op 349 14 = some (.return_, 15, 14) := by decide +kernel
theorem c349_87 : fx_op 349 87 = some (.ifCond .eq 29, 90, 116) := by decide +kernel
theorem c349_116 : fx_op 349 116 = some (.aload_n 0, 117, 116) := by decide +kernel
theorem c349_117 : fx_gf 349 117 = some (12, 93, 120) := by decide +kernel
theorem c349_120 : fx_op 349 120 = some (.iload 4, 122, 120) := by decide +kernel
theorem c349_122 : fx_op 349 122 = some (.dup2, 123, 122) := by decide +kernel
theorem c349_123 : fx_op 349 123 = some (.iaload, 124, 123) := by decide +kernel
theorem c349_124 : fx_ci 349 124 = some (1, 125) := by decide +kernel
theorem c349_125 : fx_op 349 125 = some (.iadd, 126, 125) := by decide +kernel
theorem c349_127 : fx_op 349 127 = some (.aload_n 0, 128, 127) := by decide +kernel
theorem c349_128 : fx_ci 349 128 = some (32, 130) := by decide +kernel
theorem c349_90 : fx_op 349 90 = some (.aload_n 0, 91, 90) := by decide +kernel
theorem c349_91 : fx_gf 349 91 = some (12, 94, 94) := by decide +kernel
theorem c349_94 : fx_op 349 94 = some (.iload 4, 96, 94) := by decide +kernel
theorem c349_96 : fx_ci 349 96 = some (1, 97) := by decide +kernel
theorem c349_98 : fx_op 349 98 = some (.aload_n 0, 99, 98) := by decide +kernel
theorem c349_99 : fx_gf 349 99 = some (12, 95, 102) := by decide +kernel
theorem c349_102 : fx_op 349 102 = some (.iload 4, 104, 102) := by decide +kernel
theorem c349_104 : fx_op 349 104 = some (.iload_n 2, 105, 104) := by decide +kernel
theorem c349_106 : fx_op 349 106 = some (.aload_n 0, 107, 106) := by decide +kernel
theorem c349_107 : fx_cj 349 107 = some (491394656372, 110) := by decide +kernel
theorem c349_126 : fx_op 349 126 = some (.iastore, 127, 126) := by decide +kernel
theorem c349_130 : fx_ca 349 130 = some (221, 1, 0, 133) := by decide +kernel
theorem c349_97 : fx_op 349 97 = some (.bastore, 98, 97) := by decide +kernel
theorem c349_105 : fx_op 349 105 = some (.iastore, 106, 105) := by decide +kernel
theorem c349_110 : fx_ca 349 110 = some (253, 2, 2, 113) := by decide +kernel
theorem c349_77 : fx_op 349 77 = some (.goto 59, 80, 136) := by decide +kernel
theorem c349_133 : fx_ca 349 133 = some (253, 2, 2, 136) := by decide +kernel
theorem c349_113 : fx_op 349 113 = some (.goto 23, 116, 136) := by decide +kernel
theorem s349_0 {kc : List va_E} {d : Nat} {x1 x2 : Int} {M : fx_M} {Q : Option fx_V → fx_M → Prop} (H : ((fx_in32 x1)) ∧ (x1 < 3 → wc kc d 350 [jR 133] M (fun v M1 => wp kc (d + 1) 349 19 [some (jR 133), some (jI x1), some (jI x2), none, none] (v.toList ++ []) M1 Q)) ∧ (3 ≤ x1 → wc kc d 221 [jI 25] M (fun v M1 => wp kc (d + 1) 349 11 [none, none, none, none, none] (v.toList ++ [jR 133]) M1 Q))) : wp kc (d + 1) 349 0 [some (jR 133), some (jI x1), some (jI x2), none, none] [] M Q :=
  (x_ildn c349_0 rfl (x_ci c349_1 (x_clt c349_2 H.1 (by decide) (fun h1 => (x_aldn c349_15 rfl (wp_wk (l' := [some (jR 133), some (jI x1), some (jI x2), none, none]) ⟨rfl, ⟨rfl, ⟨rfl, trivial⟩⟩⟩ (x_cv (As := []) (st := []) c349_16 cl_133 kl350 rfl (Nat.le_of_ble_eq_true rfl) mx350 (Nat.le_refl _) (H.2.1 h1))))) (fun h2 => (x_aldn c349_5 rfl (x_ci c349_6 (wp_wk (l' := [none, none, none, none, none]) trivial (x_cs (As := [jI 25]) (st := [jR 133]) c349_8 (by decide) rfl (Nat.le_of_ble_eq_true rfl) mx221 (Nat.le_refl _) (H.2.2 h2)))))))))
theorem s349_11 {kc : List va_E} {d : Nat} {u0 : Int} {M : fx_M} {Q : Option fx_V → fx_M → Prop} (H : wc kc d 260 [jR 133, jL u0] M (fun v M1 => wp kc (d + 1) 349 14 [none, none, none, none, none] (v.toList ++ []) M1 Q)) : wp kc (d + 1) 349 11 [none, none, none, none, none] [jL u0, jR 133] M Q :=
  (wp_wk (l' := [none, none, none, none, none]) trivial (x_cv (As := [jL u0]) (st := []) c349_11 cl_133 kl260 rfl (Nat.le_of_ble_eq_true rfl) mx260 (Nat.le_refl _) H))
theorem s349_14 {kc : List va_E} {d : Nat} {M : fx_M} {Q : Option fx_V → fx_M → Prop} (H : Q none M) : wp kc (d + 1) 349 14 [none, none, none, none, none] [] M Q :=
  (x_vr c349_14 r349 H)
theorem s349_19 {kc : List va_E} {d : Nat} {v1 v2 u0 : Int} {M : fx_M} {Q : Option fx_V → fx_M → Prop} (H : ((fx_in32 u0)) ∧ (0 ≤ u0 → (((0 : Int) ≤ (6 * v1) + u0 ∧ (6 * v1) + u0 < 18)) ∧ ((fx_in32 (M 186 ((6 * v1) + u0)))) ∧ (M 186 ((6 * v1) + u0) = 0 → wc kc d 351 [jR 133, jI (4 + u0)] M (fun v M1 => wp kc (d + 1) 349 67 [some (jR 133), none, some (jI v2), some (jI u0), some (jI ((6 * v1) + u0))] (v.toList ++ []) M1 Q)) ∧ (M 186 ((6 * v1) + u0) ≠ 0 → wc kc d 253 [jR 133, jL 1870030194] M (fun v M1 => wp kc (d + 1) 349 57 [none, none, none, none, none] (v.toList ++ []) M1 Q))) ∧ (u0 < 0 → wc kc d 260 [jR 133, jL 1769235821] M (fun v M1 => wp kc (d + 1) 349 31 [none, none, none, none, none] (v.toList ++ []) M1 Q))) : wp kc (d + 1) 349 19 [some (jR 133), some (jI v1), some (jI v2), none, none] [jI u0] M Q :=
  (x_istn (l' := [some (jR 133), some (jI v1), some (jI v2), some (jI u0), none]) c349_19 rfl (x_ildn c349_20 rfl (x_zge c349_21 H.1 (fun h3 => (x_ci c349_32 (x_ildn c349_34 rfl (x_imul c349_35 (x_ildn c349_36 rfl (x_iadd c349_37 (x_ist (l' := [some (jR 133), some (jI v1), some (jI v2), some (jI u0), some (jI ((6 * v1) + u0))]) c349_38 rfl (x_aldn c349_40 rfl (x_gfr c349_41 k_133_94 (x_ild c349_44 rfl (x_bald c349_46 a_186 (H.2.1 h3).1 (by decide) (x_zeq c349_47 (H.2.1 h3).2.1 (fun h1 => (x_aldn c349_60 rfl (x_ci c349_61 (x_ildn c349_62 rfl (x_iadd c349_63 (wp_wk (l' := [some (jR 133), none, some (jI v2), some (jI u0), some (jI ((6 * v1) + u0))]) ⟨rfl, ⟨rfl, ⟨rfl, ⟨rfl, trivial⟩⟩⟩⟩ (x_cv (As := [jI (4 + u0)]) (st := []) c349_64 cl_133 kl351 rfl (Nat.le_of_ble_eq_true rfl) mx351 (Nat.le_refl _) ((H.2.1 h3).2.2.1 h1)))))))) (fun h2 => (x_aldn c349_50 rfl (x_cj c349_51 (wp_wk (l' := [none, none, none, none, none]) trivial (x_cv (As := [jL 1870030194]) (st := []) c349_54 cl_133 kl253 rfl (Nat.le_of_ble_eq_true rfl) mx253 (Nat.le_refl _) ((H.2.1 h3).2.2.2 h2)))))))))))))))))) (fun h4 => (x_aldn c349_24 rfl (x_cj c349_25 (wp_wk (l' := [none, none, none, none, none]) trivial (x_cv (As := [jL 1769235821]) (st := []) c349_28 cl_133 kl260 rfl (Nat.le_of_ble_eq_true rfl) mx260 (Nat.le_refl _) (H.2.2 h4)))))))))
theorem s349_31 {kc : List va_E} {d : Nat} {M : fx_M} {Q : Option fx_V → fx_M → Prop} (H : Q none M) : wp kc (d + 1) 349 31 [none, none, none, none, none] [] M Q :=
  (x_vr c349_31 r349 H)
theorem s349_57 {kc : List va_E} {d : Nat} {M : fx_M} {Q : Option fx_V → fx_M → Prop} (H : Q none M) : wp kc (d + 1) 349 57 [none, none, none, none, none] [] M Q :=
  (x_goto c349_57 (x_vr c349_136 r349 H))
theorem s349_67 {kc : List va_E} {d : Nat} {v2 v3 v4 u0 : Int} {M : fx_M} {Q : Option fx_V → fx_M → Prop} (H : ((fx_in32 u0)) ∧ (u0 ≠ 0 → wc kc d 352 [jR 133, jI (4 + v3)] M (fun v M1 => wp kc (d + 1) 349 87 [some (jR 133), none, some (jI v2), none, some (jI v4)] (v.toList ++ []) M1 Q)) ∧ (u0 = 0 → wc kc d 260 [jR 133, jL 28826362020720231] M (fun v M1 => wp kc (d + 1) 349 77 [none, none, none, none, none] (v.toList ++ []) M1 Q))) : wp kc (d + 1) 349 67 [some (jR 133), none, some (jI v2), some (jI v3), some (jI v4)] [jI u0] M Q :=
  (x_zne c349_67 H.1 (fun h1 => (x_aldn c349_80 rfl (x_ci c349_81 (x_ildn c349_82 rfl (x_iadd c349_83 (wp_wk (l' := [some (jR 133), none, some (jI v2), none, some (jI v4)]) ⟨rfl, ⟨rfl, ⟨rfl, trivial⟩⟩⟩ (x_cv (As := [jI (4 + v3)]) (st := []) c349_84 cl_133 kl352 rfl (Nat.le_of_ble_eq_true rfl) mx352 (Nat.le_refl _) (H.2.1 h1)))))))) (fun h2 => (x_aldn c349_70 rfl (x_cj c349_71 (wp_wk (l' := [none, none, none, none, none]) trivial (x_cv (As := [jL 28826362020720231]) (st := []) c349_74 cl_133 kl260 rfl (Nat.le_of_ble_eq_true rfl) mx260 (Nat.le_refl _) (H.2.2 h2)))))))
theorem s349_77 {kc : List va_E} {d : Nat} {M : fx_M} {Q : Option fx_V → fx_M → Prop} (H : Q none M) : wp kc (d + 1) 349 77 [none, none, none, none, none] [] M Q :=
  (x_goto c349_77 (x_vr c349_136 r349 H))
theorem s349_87 {kc : List va_E} {d : Nat} {v2 v4 u0 : Int} {M : fx_M} {Q : Option fx_V → fx_M → Prop} (H : ((fx_in32 u0)) ∧ (u0 = 0 → (((0 : Int) ≤ v4 ∧ v4 < 18)) ∧ (((0 : Int) ≤ v4 ∧ v4 < 18)) ∧ wc kc d 221 [jI 32] (fx_up M 185 v4 ((M 185 v4) + 1)) (fun v M1 => wp kc (d + 1) 349 133 [none, none, none, none, none] (v.toList ++ [jR 133]) M1 Q)) ∧ (u0 ≠ 0 → (((0 : Int) ≤ v4 ∧ v4 < 18)) ∧ (((0 : Int) ≤ v4 ∧ v4 < 18)) ∧ wc kc d 253 [jR 133, jL 491394656372] (fx_up (fx_up M 186 v4 1) 187 v4 v2) (fun v M1 => wp kc (d + 1) 349 113 [none, none, none, none, none] (v.toList ++ []) M1 Q))) : wp kc (d + 1) 349 87 [some (jR 133), none, some (jI v2), none, some (jI v4)] [jI u0] M Q :=
  (x_zeq c349_87 H.1 (fun h1 => (x_aldn c349_116 rfl (x_gfr c349_117 k_133_93 (x_ild c349_120 rfl (x_dup2 c349_122 (x_iald c349_123 a_185 (H.2.1 h1).1 (by decide) (x_ci c349_124 (x_iadd c349_125 (x_iast c349_126 a_185 (H.2.1 h1).2.1 (by decide) (x_aldn c349_127 rfl (x_ci c349_128 (wp_wk (l' := [none, none, none, none, none]) trivial (x_cs (As := [jI 32]) (st := [jR 133]) c349_130 (by decide) rfl (Nat.le_of_ble_eq_true rfl) mx221 (Nat.le_refl _) (H.2.1 h1).2.2))))))))))))) (fun h2 => (x_aldn c349_90 rfl (x_gfr c349_91 k_133_94 (x_ild c349_94 rfl (x_ci c349_96 (x_bast c349_97 a_186 (H.2.2 h2).1 (by decide) (by decide) (x_aldn c349_98 rfl (x_gfr c349_99 k_133_95 (x_ild c349_102 rfl (x_ildn c349_104 rfl (x_iast c349_105 a_187 (H.2.2 h2).2.1 (by decide) (x_aldn c349_106 rfl (x_cj c349_107 (wp_wk (l' := [none, none, none, none, none]) trivial (x_cv (As := [jL 491394656372]) (st := []) c349_110 cl_133 kl253 rfl (Nat.le_of_ble_eq_true rfl) mx253 (Nat.le_refl _) (H.2.2 h2).2.2))))))))))))))))
theorem s349_113 {kc : List va_E} {d : Nat} {M : fx_M} {Q : Option fx_V → fx_M → Prop} (H : Q none M) : wp kc (d + 1) 349 113 [none, none, none, none, none] [] M Q :=
  (x_goto c349_113 (x_vr c349_136 r349 H))
theorem s349_133 {kc : List va_E} {d : Nat} {u0 : Int} {M : fx_M} {Q : Option fx_V → fx_M → Prop} (H : wc kc d 253 [jR 133, jL u0] M (fun v M1 => wp kc (d + 1) 349 136 [none, none, none, none, none] (v.toList ++ []) M1 Q)) : wp kc (d + 1) 349 133 [none, none, none, none, none] [jL u0, jR 133] M Q :=
  (wp_wk (l' := [none, none, none, none, none]) trivial (x_cv (As := [jL u0]) (st := []) c349_133 cl_133 kl253 rfl (Nat.le_of_ble_eq_true rfl) mx253 (Nat.le_refl _) H))
theorem s349_136 {kc : List va_E} {d : Nat} {M : fx_M} {Q : Option fx_V → fx_M → Prop} (H : Q none M) : wp kc (d + 1) 349 136 [none, none, none, none, none] [] M Q :=
  (x_vr c349_136 r349 H)
theorem s349 {kc : List va_E} {d : Nat} {x1 x2 : Int} {M : fx_M} {Q : Option fx_V → fx_M → Prop} (H : ((fx_in32 x1)) ∧ (x1 < 3 → wc kc d 350 [jR 133] M (fun v M1 => wp kc (d + 1) 349 19 [some (jR 133), some (jI x1), some (jI x2), none, none] (v.toList ++ []) M1 Q)) ∧ (3 ≤ x1 → wc kc d 221 [jI 25] M (fun v M1 => wp kc (d + 1) 349 11 [none, none, none, none, none] (v.toList ++ [jR 133]) M1 Q))) : wc kc (d + 1) 349 [jR 133, jI x1, jI x2] M Q :=
  wc_of (wp_wk (l' := [some (jR 133), some (jI x1), some (jI x2), none, none]) ⟨rfl, ⟨rfl, ⟨rfl, trivial⟩⟩⟩ (s349_0 H))

/- PuzzleHouseModel.findItem()I -/
theorem c350_0 : fx_ci 350 0 = some (0, 1) := by decide +kernel
theorem c350_1 : fx_op 350 1 = some (.istore_n 1, 2, 1) := by decide +kernel
theorem c350_2 : fx_op 350 2 = some (.iload_n 1, 3, 2) := by decide +kernel
theorem c350_3 : fx_op 350 3 = some (.aload_n 0, 4, 3) := by decide +kernel
theorem c350_4 : fx_gf 350 4 = some (12, 89, 7) := by decide +kernel
theorem c350_7 : fx_op 350 7 = some (.if_icmp .ge 85, 10, 92) := by decide +kernel
theorem c350_92 : fx_ci 350 92 = some ((-1), 93) := by decide +kernel
theorem c350_10 : fx_op 350 10 = some (.aload_n 0, 11, 10) := by decide +kernel
theorem c350_11 : fx_gf 350 11 = some (12, 91, 14) := by decide +kernel
theorem c350_14 : fx_op 350 14 = some (.iload_n 1, 15, 14) := by decide +kernel
theorem c350_16 : fx_op 350 16 = some (.aload_n 0, 17, 16) := by decide +kernel
theorem c350_17 : fx_gf 350 17 = some (12, 16, 20) := by decide +kernel
theorem c350_20 : fx_op 350 20 = some (.if_icmp .ne 7, 23, 27) := by decide +kernel
theorem c350_27 : fx_ci 350 27 = some (0, 28) := by decide +kernel
theorem c350_23 : fx_ci 350 23 = some (1, 24) := by decide +kernel
theorem c350_24 : fx_op 350 24 = some (.goto 4, 27, 28) := by decide +kernel
theorem c350_28 : fx_op 350 28 = some (.istore_n 2, 29, 28) := by decide +kernel
theorem c350_29 : fx_ci 350 29 = some (0, 30) := by decide +kernel
theorem c350_30 : fx_op 350 30 = some (.istore_n 3, 31, 30) := by decide +kernel
theorem c350_93 : fx_op 350 93 = some (.ireturn, 94, 93) := by decide +kernel
theorem c350_15 : fx_op 350 15 = some (.iaload, 16, 15) := by decide +kernel
theorem c350_31 : fx_op 350 31 = some (.iload_n 2, 32, 31) := by decide +kernel
theorem c350_32 : fx_op 350 32 = some (.ifCond .eq 48, 35, 80) := by decide +kernel
theorem c350_35 : fx_op 350 35 = some (.iload_n 3, 36, 35) := by decide +kernel
theorem c350_36 : fx_op 350 36 = some (.aload_n 0, 37, 36) := by decide +kernel
theorem c350_37 : fx_gf 350 37 = some (12, 16, 40) := by decide +kernel
theorem c350_40 : fx_op 350 40 = some (.if_icmp .ge 40, 43, 80) := by decide +kernel
theorem c350_43 : fx_op 350 43 = some (.aload_n 0, 44, 43) := by decide +kernel
theorem c350_44 : fx_gf 350 44 = some (12, 90, 47) := by decide +kernel
theorem c350_47 : fx_ci 350 47 = some (8, 49) := by decide +kernel
theorem c350_49 : fx_op 350 49 = some (.iload_n 1, 50, 49) := by decide +kernel
theorem c350_50 : fx_op 350 50 = some (.imul, 51, 50) := by decide +kernel
theorem c350_51 : fx_op 350 51 = some (.iload_n 3, 52, 51) := by decide +kernel
theorem c350_52 : fx_op 350 52 = some (.iadd, 53, 52) := by decide +kernel
theorem c350_53 : fx_op 350 53 = some (.iaload, 54, 53) := by decide +kernel
theorem c350_54 : fx_op 350 54 = some (.aload_n 0, 55, 54) := by decide +kernel
theorem c350_55 : fx_gf 350 55 = some (12, 4, 58) := by decide +kernel
theorem c350_58 : fx_op 350 58 = some (.aload_n 0, 59, 58) := by decide +kernel
theorem c350_59 : fx_gf 350 59 = some (12, 15, 62) := by decide +kernel
theorem c350_62 : fx_op 350 62 = some (.iload_n 3, 63, 62) := by decide +kernel
theorem c350_63 : fx_op 350 63 = some (.iadd, 64, 63) := by decide +kernel
theorem c350_64 : fx_op 350 64 = some (.iaload, 65, 64) := by decide +kernel
theorem c350_65 : fx_op 350 65 = some (.if_icmp .ne 7, 68, 72) := by decide +kernel
theorem c350_72 : fx_ci 350 72 = some (0, 73) := by decide +kernel
theorem c350_73 : fx_op 350 73 = some (.istore_n 2, 74, 73) := by decide +kernel
theorem c350_74 : fx_op 350 74 = some (.iinc 3 1, 77, 74) := by decide +kernel
theorem c350_80 : fx_op 350 80 = some (.iload_n 2, 81, 80) := by decide +kernel
theorem c350_81 : fx_op 350 81 = some (.ifCond .eq 5, 84, 86) := by decide +kernel
theorem c350_86 : fx_op 350 86 = some (.iinc 1 1, 89, 86) := by decide +kernel
theorem c350_84 : fx_op 350 84 = some (.iload_n 1, 85, 84) := by decide +kernel
theorem c350_68 : fx_ci 350 68 = some (1, 69) := by decide +kernel
theorem c350_69 : fx_op 350 69 = some (.goto 4, 72, 73) := by decide +kernel
theorem c350_89 : fx_op 350 89 = some (.goto (-87), 92, 2) := by decide +kernel
theorem c350_85 : fx_op 350 85 = some (.ireturn, 86, 85) := by decide +kernel
theorem c350_77 : fx_op 350 77 = some (.goto (-46), 80, 31) := by decide +kernel
theorem s350_0 {kc : List va_E} {d : Nat} {M : fx_M} {Q : Option fx_V → fx_M → Prop} (H : wp kc (d + 1) 350 2 [some (jR 133), some (jI 0), none, none] [] M Q) : wp kc (d + 1) 350 0 [some (jR 133), none, none, none] [] M Q :=
  (x_ci c350_0 (x_istn (l' := [some (jR 133), some (jI 0), none, none]) c350_1 rfl (wp_wk (l' := [some (jR 133), some (jI 0), none, none]) ⟨rfl, ⟨rfl, trivial⟩⟩ H)))
theorem s350_2 {kc : List va_E} {d : Nat} {v1 : Int} {M : fx_M} {Q : Option fx_V → fx_M → Prop} (H : ((fx_in32 v1) ∧ (fx_in32 (M 133 89))) ∧ (M 133 89 ≤ v1 → Q (some (jI (-1))) M) ∧ (v1 < M 133 89 → (((0 : Int) ≤ v1 ∧ v1 < 6)) ∧ ((fx_in32 (M 183 v1))) ∧ ((fx_in32 (M 133 16))) ∧ wp kc (d + 1) 350 31 [some (jR 133), some (jI v1), some (jI (if M 183 v1 = M 133 16 then (1 : Int) else 0)), some (jI 0)] [] M Q)) : wp kc (d + 1) 350 2 [some (jR 133), some (jI v1), none, none] [] M Q :=
  (x_ildn c350_2 rfl (x_aldn c350_3 rfl (x_gfi c350_4 k_133_89 (x_cge c350_7 H.1.1 H.1.2 (fun h1 => (x_ci c350_92 (x_irt c350_93 r350 (H.2.1 h1)))) (fun h2 => (x_aldn c350_10 rfl (x_gfr c350_11 k_133_91 (x_ildn c350_14 rfl (x_iald c350_15 a_183 (H.2.2 h2).1 (by decide) (x_aldn c350_16 rfl (x_gfi c350_17 k_133_16 (have K : wp kc (d + 1) 350 28 [some (jR 133), some (jI v1), none, none] [jI (if M 183 v1 = M 133 16 then (1 : Int) else 0)] M Q := (x_istn (l' := [some (jR 133), some (jI v1), some (jI (if M 183 v1 = M 133 16 then (1 : Int) else 0)), none]) c350_28 rfl (x_ci c350_29 (x_istn (l' := [some (jR 133), some (jI v1), some (jI (if M 183 v1 = M 133 16 then (1 : Int) else 0)), some (jI 0)]) c350_30 rfl (wp_wk (l' := [some (jR 133), some (jI v1), some (jI (if M 183 v1 = M 133 16 then (1 : Int) else 0)), some (jI 0)]) ⟨rfl, ⟨rfl, ⟨rfl, ⟨rfl, trivial⟩⟩⟩⟩ (H.2.2 h2).2.2.2)))); (x_cne c350_20 (H.2.2 h2).2.1 (H.2.2 h2).2.2.1 (fun (h3 : M 183 v1 ≠ M 133 16) => (x_ci c350_27 (wp_wk (l' := [some (jR 133), some (jI v1), none, none]) ⟨rfl, ⟨rfl, trivial⟩⟩ (by have K := K; first | (simp only [if_neg h3] at K ⊢; exact K) | (exfalso; omega))))) (fun (h4 : M 183 v1 = M 133 16) => (x_ci c350_23 (x_goto c350_24 (wp_wk (l' := [some (jR 133), some (jI v1), none, none]) ⟨rfl, ⟨rfl, trivial⟩⟩ (by have K := K; first | (simp only [if_pos h4] at K ⊢; exact K) | (exfalso; omega)))))))))))))))))))
theorem s350_31 {kc : List va_E} {d : Nat} {v1 v2 v3 : Int} {M : fx_M} {Q : Option fx_V → fx_M → Prop} (H : ((fx_in32 v2)) ∧ (v2 = 0 → ((fx_in32 v2)) ∧ (v2 = 0 → wp kc (d + 1) 350 2 [some (jR 133), some (jI (v1 + 1)), none, none] [] M Q) ∧ (v2 ≠ 0 → Q (some (jI v1)) M)) ∧ (v2 ≠ 0 → ((fx_in32 v3) ∧ (fx_in32 (M 133 16))) ∧ (M 133 16 ≤ v3 → ((fx_in32 v2)) ∧ (v2 = 0 → wp kc (d + 1) 350 2 [some (jR 133), some (jI (v1 + 1)), none, none] [] M Q) ∧ (v2 ≠ 0 → Q (some (jI v1)) M)) ∧ (v3 < M 133 16 → (((0 : Int) ≤ (8 * v1) + v3 ∧ (8 * v1) + v3 < 48)) ∧ (((0 : Int) ≤ (M 133 15) + v3 ∧ (M 133 15) + v3 < 6100)) ∧ ((fx_in32 (M 182 ((8 * v1) + v3)))) ∧ ((fx_in32 (M 135 ((M 133 15) + v3)))) ∧ wp kc (d + 1) 350 31 [some (jR 133), some (jI v1), some (jI (if M 182 ((8 * v1) + v3) = M 135 ((M 133 15) + v3) then (1 : Int) else 0)), some (jI (v3 + 1))] [] M Q))) : wp kc (d + 1) 350 31 [some (jR 133), some (jI v1), some (jI v2), some (jI v3)] [] M Q :=
  (x_ildn c350_31 rfl (x_zeq c350_32 H.1 (fun h7 => (x_ildn c350_80 rfl (x_zeq c350_81 (H.2.1 h7).1 (fun h1 => (x_inc (l' := [some (jR 133), some (jI (v1 + 1)), some (jI v2), some (jI v3)]) c350_86 rfl rfl (x_goto c350_89 (wp_wk (l' := [some (jR 133), some (jI (v1 + 1)), none, none]) ⟨rfl, ⟨rfl, trivial⟩⟩ ((H.2.1 h7).2.1 h1))))) (fun h2 => (x_ildn c350_84 rfl (x_irt c350_85 r350 ((H.2.1 h7).2.2 h2))))))) (fun h8 => (x_ildn c350_35 rfl (x_aldn c350_36 rfl (x_gfi c350_37 k_133_16 (x_cge c350_40 (H.2.2 h8).1.1 (H.2.2 h8).1.2 (fun h5 => (x_ildn c350_80 rfl (x_zeq c350_81 ((H.2.2 h8).2.1 h5).1 (fun h3 => (x_inc (l' := [some (jR 133), some (jI (v1 + 1)), some (jI v2), some (jI v3)]) c350_86 rfl rfl (x_goto c350_89 (wp_wk (l' := [some (jR 133), some (jI (v1 + 1)), none, none]) ⟨rfl, ⟨rfl, trivial⟩⟩ (((H.2.2 h8).2.1 h5).2.1 h3))))) (fun h4 => (x_ildn c350_84 rfl (x_irt c350_85 r350 (((H.2.2 h8).2.1 h5).2.2 h4))))))) (fun h6 => (x_aldn c350_43 rfl (x_gfr c350_44 k_133_90 (x_ci c350_47 (x_ildn c350_49 rfl (x_imul c350_50 (x_ildn c350_51 rfl (x_iadd c350_52 (x_iald c350_53 a_182 ((H.2.2 h8).2.2 h6).1 (by decide) (x_aldn c350_54 rfl (x_gfr c350_55 k_133_4 (x_aldn c350_58 rfl (x_gfi c350_59 k_133_15 (x_ildn c350_62 rfl (x_iadd c350_63 (x_iald c350_64 a_135 ((H.2.2 h8).2.2 h6).2.1 (by decide) (have K : wp kc (d + 1) 350 73 [some (jR 133), some (jI v1), none, some (jI v3)] [jI (if M 182 ((8 * v1) + v3) = M 135 ((M 133 15) + v3) then (1 : Int) else 0)] M Q := (x_istn (l' := [some (jR 133), some (jI v1), some (jI (if M 182 ((8 * v1) + v3) = M 135 ((M 133 15) + v3) then (1 : Int) else 0)), some (jI v3)]) c350_73 rfl (x_inc (l' := [some (jR 133), some (jI v1), some (jI (if M 182 ((8 * v1) + v3) = M 135 ((M 133 15) + v3) then (1 : Int) else 0)), some (jI (v3 + 1))]) c350_74 rfl rfl (x_goto c350_77 (wp_wk (l' := [some (jR 133), some (jI v1), some (jI (if M 182 ((8 * v1) + v3) = M 135 ((M 133 15) + v3) then (1 : Int) else 0)), some (jI (v3 + 1))]) ⟨rfl, ⟨rfl, ⟨rfl, ⟨rfl, trivial⟩⟩⟩⟩ ((H.2.2 h8).2.2 h6).2.2.2.2)))); (x_cne c350_65 ((H.2.2 h8).2.2 h6).2.2.1 ((H.2.2 h8).2.2 h6).2.2.2.1 (fun (h9 : M 182 ((8 * v1) + v3) ≠ M 135 ((M 133 15) + v3)) => (x_ci c350_72 (wp_wk (l' := [some (jR 133), some (jI v1), none, some (jI v3)]) ⟨rfl, ⟨rfl, ⟨rfl, trivial⟩⟩⟩ (by have K := K; first | (simp only [if_neg h9] at K ⊢; exact K) | (exfalso; omega))))) (fun (h10 : M 182 ((8 * v1) + v3) = M 135 ((M 133 15) + v3)) => (x_ci c350_68 (x_goto c350_69 (wp_wk (l' := [some (jR 133), some (jI v1), none, some (jI v3)]) ⟨rfl, ⟨rfl, ⟨rfl, trivial⟩⟩⟩ (by have K := K; first | (simp only [if_pos h10] at K ⊢; exact K) | (exfalso; omega)))))))))))))))))))))))))))))))
theorem s350 {kc : List va_E} {d : Nat} {M : fx_M} {Q : Option fx_V → fx_M → Prop} (H : wp kc (d + 1) 350 2 [some (jR 133), some (jI 0), none, none] [] M Q) : wc kc (d + 1) 350 [jR 133] M Q :=
  wc_of (wp_wk (l' := [some (jR 133), none, none, none]) ⟨rfl, trivial⟩ (s350_0 H))

/- PuzzleHouseModel.isFillingOf(I)Z -/
theorem c351_0 : fx_op 351 0 = some (.aload_n 0, 1, 0) := by decide +kernel
theorem c351_1 : fx_gf 351 1 = some (12, 22, 4) := by decide +kernel
theorem c351_4 : fx_op 351 4 = some (.aload_n 0, 5, 4) := by decide +kernel
theorem c351_5 : fx_gf 351 5 = some (12, 37, 8) := by decide +kernel
theorem c351_8 : fx_op 351 8 = some (.iload_n 1, 9, 8) := by decide +kernel
theorem c351_10 : fx_op 351 10 = some (.aload_n 0, 11, 10) := by decide +kernel
theorem c351_11 : fx_gf 351 11 = some (12, 38, 14) := by decide +kernel
theorem c351_14 : fx_op 351 14 = some (.iload_n 1, 15, 14) := by decide +kernel
theorem c351_16 : fx_op 351 16 = some (.imul, 17, 16) := by decide +kernel
theorem c351_17 : fx_op 351 17 = some (.if_icmp .ne 7, 20, 24) := by decide +kernel
theorem c351_24 : fx_ci 351 24 = some (0, 25) := by decide +kernel
theorem c351_20 : fx_ci 351 20 = some (1, 21) := by decide +kernel
theorem c351_21 : fx_op 351 21 = some (.goto 4, 24, 25) := by decide +kernel
theorem c351_25 : fx_op 351 25 = some (.istore_n 2, 26, 25) := by decide +kernel
theorem c351_26 : fx_ci 351 26 = some (0, 27) := by decide +kernel
theorem c351_27 : fx_op 351 27 = some (.istore_n 3, 28, 27) := by decide +kernel
theorem c351_9 : fx_op 351 9 = some (.iaload, 10, 9) := by decide +kernel
theorem c351_15 : fx_op 351 15 = some (.iaload, 16, 15) := by decide +kernel
theorem c351_28 : fx_op 351 28 = some (.iload_n 2, 29, 28) := by decide +kernel
theorem c351_29 : fx_op 351 29 = some (.ifCond .eq 46, 32, 75) := by decide +kernel
theorem c351_32 : fx_op 351 32 = some (.iload_n 3, 33, 32) := by decide +kernel
theorem c351_33 : fx_op 351 33 = some (.aload_n 0, 34, 33) := by decide +kernel
theorem c351_34 : fx_gf 351 34 = some (12, 22, 37) := by decide +kernel
theorem c351_37 : fx_op 351 37 = some (.if_icmp .ge 38, 40, 75) := by decide +kernel
theorem c351_40 : fx_op 351 40 = some (.aload_n 0, 41, 40) := by decide +kernel
theorem c351_41 : fx_gf 351 41 = some (12, 4, 44) := by decide +kernel
theorem c351_44 : fx_op 351 44 = some (.aload_n 0, 45, 44) := by decide +kernel
theorem c351_45 : fx_gf 351 45 = some (12, 21, 48) := by decide +kernel
theorem c351_48 : fx_op 351 48 = some (.iload_n 3, 49, 48) := by decide +kernel
theorem c351_49 : fx_op 351 49 = some (.iadd, 50, 49) := by decide +kernel
theorem c351_50 : fx_op 351 50 = some (.iaload, 51, 50) := by decide +kernel
theorem c351_51 : fx_ci 351 51 = some (48, 53) := by decide +kernel
theorem c351_53 : fx_op 351 53 = some (.isub, 54, 53) := by decide +kernel
theorem c351_54 : fx_op 351 54 = some (.aload_n 0, 55, 54) := by decide +kernel
theorem c351_55 : fx_gf 351 55 = some (12, 39, 58) := by decide +kernel
theorem c351_58 : fx_op 351 58 = some (.iload_n 1, 59, 58) := by decide +kernel
theorem c351_59 : fx_op 351 59 = some (.iaload, 60, 59) := by decide +kernel
theorem c351_60 : fx_op 351 60 = some (.if_icmp .ge 7, 63, 67) := by decide +kernel
theorem c351_67 : fx_ci 351 67 = some (0, 68) := by decide +kernel
theorem c351_68 : fx_op 351 68 = some (.istore_n 2, 69, 68) := by decide +kernel
theorem c351_69 : fx_op 351 69 = some (.iinc 3 1, 72, 69) := by decide +kernel
theorem c351_75 : fx_op 351 75 = some (.iload_n 2, 76, 75) := by decide +kernel
theorem c351_63 : fx_ci 351 63 = some (1, 64) := by decide +kernel
theorem c351_64 : fx_op 351 64 = some (.goto 4, 67, 68) := by decide +kernel
theorem c351_76 : fx_op 351 76 = some (.ireturn, 77, 76) := by decide +kernel
theorem c351_72 : fx_op 351 72 = some (.goto (-44), 75, 28) := by decide +kernel
theorem s351_0 {kc : List va_E} {d : Nat} {x1 : Int} {M : fx_M} {Q : Option fx_V → fx_M → Prop} (H : (((0 : Int) ≤ x1 ∧ x1 < 10)) ∧ (((0 : Int) ≤ x1 ∧ x1 < 10)) ∧ ((fx_in32 (M 133 22))) ∧ ((fx_in32 ((M 146 x1) * (M 147 x1)))) ∧ wp kc (d + 1) 351 28 [some (jR 133), some (jI x1), some (jI (if M 133 22 = (M 146 x1) * (M 147 x1) then (1 : Int) else 0)), some (jI 0)] [] M Q) : wp kc (d + 1) 351 0 [some (jR 133), some (jI x1), none, none] [] M Q :=
  (x_aldn c351_0 rfl (x_gfi c351_1 k_133_22 (x_aldn c351_4 rfl (x_gfr c351_5 k_133_37 (x_ildn c351_8 rfl (x_iald c351_9 a_146 H.1 (by decide) (x_aldn c351_10 rfl (x_gfr c351_11 k_133_38 (x_ildn c351_14 rfl (x_iald c351_15 a_147 H.2.1 (by decide) (x_imul c351_16 (have K : wp kc (d + 1) 351 25 [some (jR 133), some (jI x1), none, none] [jI (if M 133 22 = (M 146 x1) * (M 147 x1) then (1 : Int) else 0)] M Q := (x_istn (l' := [some (jR 133), some (jI x1), some (jI (if M 133 22 = (M 146 x1) * (M 147 x1) then (1 : Int) else 0)), none]) c351_25 rfl (x_ci c351_26 (x_istn (l' := [some (jR 133), some (jI x1), some (jI (if M 133 22 = (M 146 x1) * (M 147 x1) then (1 : Int) else 0)), some (jI 0)]) c351_27 rfl (wp_wk (l' := [some (jR 133), some (jI x1), some (jI (if M 133 22 = (M 146 x1) * (M 147 x1) then (1 : Int) else 0)), some (jI 0)]) ⟨rfl, ⟨rfl, ⟨rfl, ⟨rfl, trivial⟩⟩⟩⟩ H.2.2.2.2)))); (x_cne c351_17 H.2.2.1 H.2.2.2.1 (fun (h1 : M 133 22 ≠ (M 146 x1) * (M 147 x1)) => (x_ci c351_24 (wp_wk (l' := [some (jR 133), some (jI x1), none, none]) ⟨rfl, ⟨rfl, trivial⟩⟩ (by have K := K; first | (simp only [if_neg h1] at K ⊢; exact K) | (exfalso; omega))))) (fun (h2 : M 133 22 = (M 146 x1) * (M 147 x1)) => (x_ci c351_20 (x_goto c351_21 (wp_wk (l' := [some (jR 133), some (jI x1), none, none]) ⟨rfl, ⟨rfl, trivial⟩⟩ (by have K := K; first | (simp only [if_pos h2] at K ⊢; exact K) | (exfalso; omega)))))))))))))))))))
theorem s351_28 {kc : List va_E} {d : Nat} {v1 v2 v3 : Int} {M : fx_M} {Q : Option fx_V → fx_M → Prop} (H : ((fx_in32 v2)) ∧ (v2 = 0 → ((0 : Int) ≤ v2 ∧ v2 ≤ 1) ∧ Q (some (jI v2)) M) ∧ (v2 ≠ 0 → ((fx_in32 v3) ∧ (fx_in32 (M 133 22))) ∧ (M 133 22 ≤ v3 → ((0 : Int) ≤ v2 ∧ v2 ≤ 1) ∧ Q (some (jI v2)) M) ∧ (v3 < M 133 22 → (((0 : Int) ≤ (M 133 21) + v3 ∧ (M 133 21) + v3 < 6100)) ∧ (((0 : Int) ≤ v1 ∧ v1 < 10)) ∧ ((fx_in32 ((M 135 ((M 133 21) + v3)) - 48))) ∧ ((fx_in32 (M 148 v1))) ∧ wp kc (d + 1) 351 28 [some (jR 133), some (jI v1), some (jI (if (M 135 ((M 133 21) + v3)) - 48 < M 148 v1 then (1 : Int) else 0)), some (jI (v3 + 1))] [] M Q))) : wp kc (d + 1) 351 28 [some (jR 133), some (jI v1), some (jI v2), some (jI v3)] [] M Q :=
  (x_ildn c351_28 rfl (x_zeq c351_29 H.1 (fun h3 => (x_ildn c351_75 rfl (x_zrt c351_76 r351 (H.2.1 h3).1 (H.2.1 h3).2))) (fun h4 => (x_ildn c351_32 rfl (x_aldn c351_33 rfl (x_gfi c351_34 k_133_22 (x_cge c351_37 (H.2.2 h4).1.1 (H.2.2 h4).1.2 (fun h1 => (x_ildn c351_75 rfl (x_zrt c351_76 r351 ((H.2.2 h4).2.1 h1).1 ((H.2.2 h4).2.1 h1).2))) (fun h2 => (x_aldn c351_40 rfl (x_gfr c351_41 k_133_4 (x_aldn c351_44 rfl (x_gfi c351_45 k_133_21 (x_ildn c351_48 rfl (x_iadd c351_49 (x_iald c351_50 a_135 ((H.2.2 h4).2.2 h2).1 (by decide) (x_ci c351_51 (x_isub c351_53 (x_aldn c351_54 rfl (x_gfr c351_55 k_133_39 (x_ildn c351_58 rfl (x_iald c351_59 a_148 ((H.2.2 h4).2.2 h2).2.1 (by decide) (have K : wp kc (d + 1) 351 68 [some (jR 133), some (jI v1), none, some (jI v3)] [jI (if (M 135 ((M 133 21) + v3)) - 48 < M 148 v1 then (1 : Int) else 0)] M Q := (x_istn (l' := [some (jR 133), some (jI v1), some (jI (if (M 135 ((M 133 21) + v3)) - 48 < M 148 v1 then (1 : Int) else 0)), some (jI v3)]) c351_68 rfl (x_inc (l' := [some (jR 133), some (jI v1), some (jI (if (M 135 ((M 133 21) + v3)) - 48 < M 148 v1 then (1 : Int) else 0)), some (jI (v3 + 1))]) c351_69 rfl rfl (x_goto c351_72 (wp_wk (l' := [some (jR 133), some (jI v1), some (jI (if (M 135 ((M 133 21) + v3)) - 48 < M 148 v1 then (1 : Int) else 0)), some (jI (v3 + 1))]) ⟨rfl, ⟨rfl, ⟨rfl, ⟨rfl, trivial⟩⟩⟩⟩ ((H.2.2 h4).2.2 h2).2.2.2.2)))); (x_cge c351_60 ((H.2.2 h4).2.2 h2).2.2.1 ((H.2.2 h4).2.2 h2).2.2.2.1 (fun (h5 : M 148 v1 ≤ (M 135 ((M 133 21) + v3)) - 48) => (x_ci c351_67 (wp_wk (l' := [some (jR 133), some (jI v1), none, some (jI v3)]) ⟨rfl, ⟨rfl, ⟨rfl, trivial⟩⟩⟩ (by have K := K; first | (simp only [if_neg (Int.not_lt.mpr h5)] at K ⊢; exact K) | (exfalso; omega))))) (fun (h6 : (M 135 ((M 133 21) + v3)) - 48 < M 148 v1) => (x_ci c351_63 (x_goto c351_64 (wp_wk (l' := [some (jR 133), some (jI v1), none, some (jI v3)]) ⟨rfl, ⟨rfl, ⟨rfl, trivial⟩⟩⟩ (by have K := K; first | (simp only [if_pos h6] at K ⊢; exact K) | (exfalso; omega)))))))))))))))))))))))))))))
theorem s351 {kc : List va_E} {d : Nat} {x1 : Int} {M : fx_M} {Q : Option fx_V → fx_M → Prop} (H : (((0 : Int) ≤ x1 ∧ x1 < 10)) ∧ (((0 : Int) ≤ x1 ∧ x1 < 10)) ∧ ((fx_in32 (M 133 22))) ∧ ((fx_in32 ((M 146 x1) * (M 147 x1)))) ∧ wp kc (d + 1) 351 28 [some (jR 133), some (jI x1), some (jI (if M 133 22 = (M 146 x1) * (M 147 x1) then (1 : Int) else 0)), some (jI 0)] [] M Q) : wc kc (d + 1) 351 [jR 133, jI x1] M Q :=
  wc_of (wp_wk (l' := [some (jR 133), some (jI x1), none, none]) ⟨rfl, ⟨rfl, trivial⟩⟩ (s351_0 H))

/- PuzzleHouseModel.isAnswerOf(I)Z -/
theorem c352_0 : fx_op 352 0 = some (.aload_n 0, 1, 0) := by decide +kernel
theorem c352_1 : fx_ci 352 1 = some (0, 2) := by decide +kernel
theorem c352_2 : fx_ci 352 2 = some (2, 3) := by decide +kernel
theorem c352_3 : fx_ca 352 3 = some (264, 3, 2, 6) := by decide +kernel
theorem c352_6 : fx_op 352 6 = some (.aload_n 0, 7, 6) := by decide +kernel
theorem c352_7 : fx_op 352 7 = some (.iload_n 1, 8, 7) := by decide +kernel
theorem c352_8 : fx_ci 352 8 = some (0, 9) := by decide +kernel
theorem c352_9 : fx_ca 352 9 = some (264, 3, 2, 12) := by decide +kernel
theorem c352_12 : fx_ci 352 12 = some (0, 13) := by decide +kernel
theorem c352_13 : fx_op 352 13 = some (.istore_n 2, 14, 13) := by decide +kernel
theorem c352_14 : fx_op 352 14 = some (.iload_n 2, 15, 14) := by decide +kernel
theorem c352_15 : fx_op 352 15 = some (.aload_n 0, 16, 15) := by decide +kernel
theorem c352_16 : fx_gf 352 16 = some (12, 22, 19) := by decide +kernel
theorem c352_19 : fx_op 352 19 = some (.if_icmp .ge 29, 22, 48) := by decide +kernel
theorem c352_22 : fx_op 352 22 = some (.aload_n 0, 23, 22) := by decide +kernel
theorem c352_23 : fx_gf 352 23 = some (12, 46, 26) := by decide +kernel
theorem c352_26 : fx_op 352 26 = some (.iload_n 2, 27, 26) := by decide +kernel
theorem c352_27 : fx_op 352 27 = some (.aload_n 0, 28, 27) := by decide +kernel
theorem c352_28 : fx_gf 352 28 = some (12, 4, 31) := by decide +kernel
theorem c352_31 : fx_op 352 31 = some (.aload_n 0, 32, 31) := by decide +kernel
theorem c352_32 : fx_gf 352 32 = some (12, 21, 35) := by decide +kernel
theorem c352_35 : fx_op 352 35 = some (.iload_n 2, 36, 35) := by decide +kernel
theorem c352_36 : fx_op 352 36 = some (.iadd, 37, 36) := by decide +kernel
theorem c352_37 : fx_op 352 37 = some (.iaload, 38, 37) := by decide +kernel
theorem c352_38 : fx_ci 352 38 = some (48, 40) := by decide +kernel
theorem c352_40 : fx_op 352 40 = some (.isub, 41, 40) := by decide +kernel
theorem c352_48 : fx_op 352 48 = some (.aload_n 0, 49, 48) := by decide +kernel
theorem c352_42 : fx_op 352 42 = some (.iinc 2 1, 45, 42) := by decide +kernel
theorem c352_49 : fx_ca 352 49 = some (353, 1, 2, 52) := by decide +kernel
theorem c352_41 : fx_op 352 41 = some (.iastore, 42, 41) := by decide +kernel
theorem c352_45 : fx_op 352 45 = some (.goto (-31), 48, 14) := by decide +kernel
theorem c352_52 : fx_op 352 52 = some (.istore_n 2, 53, 52) := by decide +kernel
theorem c352_53 : fx_op 352 53 = some (.aload_n 0, 54, 53) := by decide +kernel
theorem c352_54 : fx_ci 352 54 = some (2, 55) := by decide +kernel
theorem c352_55 : fx_ci 352 55 = some (0, 56) := by decide +kernel
theorem c352_56 : fx_ca 352 56 = some (264, 3, 2, 59) := by decide +kernel
theorem c352_59 : fx_op 352 59 = some (.iload_n 2, 60, 59) := by decide +kernel
theorem c352_60 : fx_op 352 60 = some (.ireturn, 61, 60) := by decide +kernel
theorem s352_0 {kc : List va_E} {d : Nat} {x1 : Int} {M : fx_M} {Q : Option fx_V → fx_M → Prop} (H : wc kc d 264 [jR 133, jI 0, jI 2] M (fun v M1 => wp kc (d + 1) 352 6 [some (jR 133), some (jI x1), none] (v.toList ++ []) M1 Q)) : wp kc (d + 1) 352 0 [some (jR 133), some (jI x1), none] [] M Q :=
  (x_aldn c352_0 rfl (x_ci c352_1 (x_ci c352_2 (wp_wk (l' := [some (jR 133), some (jI x1), none]) ⟨rfl, ⟨rfl, trivial⟩⟩ (x_cv (As := [jI 0, jI 2]) (st := []) c352_3 cl_133 kl264 rfl (Nat.le_of_ble_eq_true rfl) mx264 (Nat.le_refl _) H)))))
theorem s352_6 {kc : List va_E} {d : Nat} {v1 : Int} {M : fx_M} {Q : Option fx_V → fx_M → Prop} (H : wc kc d 264 [jR 133, jI v1, jI 0] M (fun v M1 => wp kc (d + 1) 352 12 [some (jR 133), none, none] (v.toList ++ []) M1 Q)) : wp kc (d + 1) 352 6 [some (jR 133), some (jI v1), none] [] M Q :=
  (x_aldn c352_6 rfl (x_ildn c352_7 rfl (x_ci c352_8 (wp_wk (l' := [some (jR 133), none, none]) ⟨rfl, trivial⟩ (x_cv (As := [jI v1, jI 0]) (st := []) c352_9 cl_133 kl264 rfl (Nat.le_of_ble_eq_true rfl) mx264 (Nat.le_refl _) H)))))
theorem s352_12 {kc : List va_E} {d : Nat} {M : fx_M} {Q : Option fx_V → fx_M → Prop} (H : wp kc (d + 1) 352 14 [some (jR 133), none, some (jI 0)] [] M Q) : wp kc (d + 1) 352 12 [some (jR 133), none, none] [] M Q :=
  (x_ci c352_12 (x_istn (l' := [some (jR 133), none, some (jI 0)]) c352_13 rfl (wp_wk (l' := [some (jR 133), none, some (jI 0)]) ⟨rfl, ⟨rfl, trivial⟩⟩ H)))
theorem s352_14 {kc : List va_E} {d : Nat} {v2 : Int} {M : fx_M} {Q : Option fx_V → fx_M → Prop} (H : ((fx_in32 v2) ∧ (fx_in32 (M 133 22))) ∧ (M 133 22 ≤ v2 → wc kc d 353 [jR 133] M (fun v M1 => wp kc (d + 1) 352 52 [some (jR 133), none, none] (v.toList ++ []) M1 Q)) ∧ (v2 < M 133 22 → (((0 : Int) ≤ (M 133 21) + v2 ∧ (M 133 21) + v2 < 6100)) ∧ (((0 : Int) ≤ v2 ∧ v2 < 9)) ∧ wp kc (d + 1) 352 14 [some (jR 133), none, some (jI (v2 + 1))] [] (fx_up M 155 v2 ((M 135 ((M 133 21) + v2)) - 48)) Q)) : wp kc (d + 1) 352 14 [some (jR 133), none, some (jI v2)] [] M Q :=
  (x_ildn c352_14 rfl (x_aldn c352_15 rfl (x_gfi c352_16 k_133_22 (x_cge c352_19 H.1.1 H.1.2 (fun h1 => (x_aldn c352_48 rfl (wp_wk (l' := [some (jR 133), none, none]) ⟨rfl, trivial⟩ (x_cv (As := []) (st := []) c352_49 cl_133 kl353 rfl (Nat.le_of_ble_eq_true rfl) mx353 (Nat.le_refl _) (H.2.1 h1))))) (fun h2 => (x_aldn c352_22 rfl (x_gfr c352_23 k_133_46 (x_ildn c352_26 rfl (x_aldn c352_27 rfl (x_gfr c352_28 k_133_4 (x_aldn c352_31 rfl (x_gfi c352_32 k_133_21 (x_ildn c352_35 rfl (x_iadd c352_36 (x_iald c352_37 a_135 (H.2.2 h2).1 (by decide) (x_ci c352_38 (x_isub c352_40 (x_iast c352_41 a_155 (H.2.2 h2).2.1 (by decide) (x_inc (l' := [some (jR 133), none, some (jI (v2 + 1))]) c352_42 rfl rfl (x_goto c352_45 (wp_wk (l' := [some (jR 133), none, some (jI (v2 + 1))]) ⟨rfl, ⟨rfl, trivial⟩⟩ (H.2.2 h2).2.2)))))))))))))))))))))
theorem s352_52 {kc : List va_E} {d : Nat} {u0 : Int} {M : fx_M} {Q : Option fx_V → fx_M → Prop} (H : wc kc d 264 [jR 133, jI 2, jI 0] M (fun v M1 => wp kc (d + 1) 352 59 [none, none, some (jI u0)] (v.toList ++ []) M1 Q)) : wp kc (d + 1) 352 52 [some (jR 133), none, none] [jI u0] M Q :=
  (x_istn (l' := [some (jR 133), none, some (jI u0)]) c352_52 rfl (x_aldn c352_53 rfl (x_ci c352_54 (x_ci c352_55 (wp_wk (l' := [none, none, some (jI u0)]) ⟨rfl, trivial⟩ (x_cv (As := [jI 2, jI 0]) (st := []) c352_56 cl_133 kl264 rfl (Nat.le_of_ble_eq_true rfl) mx264 (Nat.le_refl _) H))))))
theorem s352_59 {kc : List va_E} {d : Nat} {v2 : Int} {M : fx_M} {Q : Option fx_V → fx_M → Prop} (H : ((0 : Int) ≤ v2 ∧ v2 ≤ 1) ∧ Q (some (jI v2)) M) : wp kc (d + 1) 352 59 [none, none, some (jI v2)] [] M Q :=
  (x_ildn c352_59 rfl (x_zrt c352_60 r352 H.1 H.2))
theorem s352 {kc : List va_E} {d : Nat} {x1 : Int} {M : fx_M} {Q : Option fx_V → fx_M → Prop} (H : wc kc d 264 [jR 133, jI 0, jI 2] M (fun v M1 => wp kc (d + 1) 352 6 [some (jR 133), some (jI x1), none] (v.toList ++ []) M1 Q)) : wc kc (d + 1) 352 [jR 133, jI x1] M Q :=
  wc_of (wp_wk (l' := [some (jR 133), some (jI x1), none]) ⟨rfl, ⟨rfl, trivial⟩⟩ (s352_0 H))

/- PuzzleHouseModel.isAnswer()Z -/
theorem c353_0 : fx_ci 353 0 = some (0, 1) := by decide +kernel
theorem c353_1 : fx_op 353 1 = some (.istore_n 1, 2, 1) := by decide +kernel
theorem c353_2 : fx_op 353 2 = some (.iload_n 1, 3, 2) := by decide +kernel
theorem c353_3 : fx_op 353 3 = some (.aload_n 0, 4, 3) := by decide +kernel
theorem c353_4 : fx_ca 353 4 = some (248, 1, 2, 7) := by decide +kernel
theorem c353_7 : fx_op 353 7 = some (.if_icmp .ge 33, 10, 40) := by decide +kernel
theorem c353_40 : fx_ci 353 40 = some (0, 41) := by decide +kernel
theorem c353_41 : fx_op 353 41 = some (.istore_n 1, 42, 41) := by decide +kernel
theorem c353_10 : fx_op 353 10 = some (.aload_n 0, 11, 10) := by decide +kernel
theorem c353_11 : fx_op 353 11 = some (.iload_n 1, 12, 11) := by decide +kernel
theorem c353_12 : fx_ca 353 12 = some (271, 2, 2, 15) := by decide +kernel
theorem c353_42 : fx_op 353 42 = some (.iload_n 1, 43, 42) := by decide +kernel
theorem c353_43 : fx_op 353 43 = some (.aload_n 0, 44, 43) := by decide +kernel
theorem c353_44 : fx_gf 353 44 = some (12, 40, 47) := by decide +kernel
theorem c353_47 : fx_ci 353 47 = some (0, 48) := by decide +kernel
theorem c353_48 : fx_op 353 48 = some (.iaload, 49, 48) := by decide +kernel
theorem c353_49 : fx_op 353 49 = some (.if_icmp .ge 19, 52, 68) := by decide +kernel
theorem c353_68 : fx_ci 353 68 = some (1, 69) := by decide +kernel
theorem c353_52 : fx_op 353 52 = some (.aload_n 0, 53, 52) := by decide +kernel
theorem c353_53 : fx_op 353 53 = some (.iload_n 1, 54, 53) := by decide +kernel
theorem c353_69 : fx_op 353 69 = some (.ireturn, 70, 69) := by decide +kernel
theorem c353_54 : fx_ca 353 54 = some (273, 2, 2, 57) := by decide +kernel
theorem c353_15 : fx_op 353 15 = some (.ifCond .lt 19, 18, 34) := by decide +kernel
theorem c353_34 : fx_op 353 34 = some (.iinc 1 1, 37, 34) := by decide +kernel
theorem c353_18 : fx_op 353 18 = some (.aload_n 0, 19, 18) := by decide +kernel
theorem c353_19 : fx_gf 353 19 = some (12, 46, 22) := by decide +kernel
theorem c353_22 : fx_op 353 22 = some (.iload_n 1, 23, 22) := by decide +kernel
theorem c353_24 : fx_op 353 24 = some (.aload_n 0, 25, 24) := by decide +kernel
theorem c353_25 : fx_op 353 25 = some (.iload_n 1, 26, 25) := by decide +kernel
theorem c353_37 : fx_op 353 37 = some (.goto (-35), 40, 2) := by decide +kernel
theorem c353_23 : fx_op 353 23 = some (.iaload, 24, 23) := by decide +kernel
theorem c353_26 : fx_ca 353 26 = some (271, 2, 2, 29) := by decide +kernel
theorem c353_57 : fx_op 353 57 = some (.ifCond .ne 5, 60, 62) := by decide +kernel
theorem c353_62 : fx_op 353 62 = some (.iinc 1 1, 65, 62) := by decide +kernel
theorem c353_60 : fx_ci 353 60 = some (0, 61) := by decide +kernel
theorem c353_65 : fx_op 353 65 = some (.goto (-23), 68, 42) := by decide +kernel
theorem c353_61 : fx_op 353 61 = some (.ireturn, 62, 61) := by decide +kernel
theorem c353_29 : fx_op 353 29 = some (.if_icmp .eq 5, 32, 34) := by decide +kernel
theorem c353_32 : fx_ci 353 32 = some (0, 33) := by decide +kernel
theorem c353_33 : fx_op 353 33 = some (.ireturn, 34, 33) := by decide +kernel
theorem s353_0 {kc : List va_E} {d : Nat} {M : fx_M} {Q : Option fx_V → fx_M → Prop} (H : wp kc (d + 1) 353 2 [some (jR 133), some (jI 0)] [] M Q) : wp kc (d + 1) 353 0 [some (jR 133), none] [] M Q :=
  (x_ci c353_0 (x_istn (l' := [some (jR 133), some (jI 0)]) c353_1 rfl (wp_wk (l' := [some (jR 133), some (jI 0)]) ⟨rfl, ⟨rfl, trivial⟩⟩ H)))
theorem s353_2 {kc : List va_E} {d : Nat} {v1 : Int} {M : fx_M} {Q : Option fx_V → fx_M → Prop} (H : wc kc d 248 [jR 133] M (fun v M1 => wp kc (d + 1) 353 7 [some (jR 133), some (jI v1)] (v.toList ++ [jI v1]) M1 Q)) : wp kc (d + 1) 353 2 [some (jR 133), some (jI v1)] [] M Q :=
  (x_ildn c353_2 rfl (x_aldn c353_3 rfl (wp_wk (l' := [some (jR 133), some (jI v1)]) ⟨rfl, ⟨rfl, trivial⟩⟩ (x_cv (As := []) (st := [jI v1]) c353_4 cl_133 kl248 rfl (Nat.le_of_ble_eq_true rfl) mx248 (Nat.le_refl _) H))))
theorem s353_7 {kc : List va_E} {d : Nat} {v1 u0 u1 : Int} {M : fx_M} {Q : Option fx_V → fx_M → Prop} (H : ((fx_in32 u1) ∧ (fx_in32 u0)) ∧ (u0 ≤ u1 → wp kc (d + 1) 353 42 [some (jR 133), some (jI 0)] [] M Q) ∧ (u1 < u0 → wc kc d 271 [jR 133, jI v1] M (fun v M1 => wp kc (d + 1) 353 15 [some (jR 133), some (jI v1)] (v.toList ++ []) M1 Q))) : wp kc (d + 1) 353 7 [some (jR 133), some (jI v1)] [jI u0, jI u1] M Q :=
  (x_cge c353_7 H.1.1 H.1.2 (fun h1 => (x_ci c353_40 (x_istn (l' := [some (jR 133), some (jI 0)]) c353_41 rfl (wp_wk (l' := [some (jR 133), some (jI 0)]) ⟨rfl, ⟨rfl, trivial⟩⟩ (H.2.1 h1))))) (fun h2 => (x_aldn c353_10 rfl (x_ildn c353_11 rfl (wp_wk (l' := [some (jR 133), some (jI v1)]) ⟨rfl, ⟨rfl, trivial⟩⟩ (x_cv (As := [jI v1]) (st := []) c353_12 cl_133 kl271 rfl (Nat.le_of_ble_eq_true rfl) mx271 (Nat.le_refl _) (H.2.2 h2)))))))
theorem s353_15 {kc : List va_E} {d : Nat} {v1 u0 : Int} {M : fx_M} {Q : Option fx_V → fx_M → Prop} (H : ((fx_in32 u0)) ∧ (u0 < 0 → wp kc (d + 1) 353 2 [some (jR 133), some (jI (v1 + 1))] [] M Q) ∧ (0 ≤ u0 → (((0 : Int) ≤ v1 ∧ v1 < 9)) ∧ wc kc d 271 [jR 133, jI v1] M (fun v M1 => wp kc (d + 1) 353 29 [some (jR 133), some (jI v1)] (v.toList ++ [jI (M 155 v1)]) M1 Q))) : wp kc (d + 1) 353 15 [some (jR 133), some (jI v1)] [jI u0] M Q :=
  (x_zlt c353_15 H.1 (fun h1 => (x_inc (l' := [some (jR 133), some (jI (v1 + 1))]) c353_34 rfl rfl (x_goto c353_37 (wp_wk (l' := [some (jR 133), some (jI (v1 + 1))]) ⟨rfl, ⟨rfl, trivial⟩⟩ (H.2.1 h1))))) (fun h2 => (x_aldn c353_18 rfl (x_gfr c353_19 k_133_46 (x_ildn c353_22 rfl (x_iald c353_23 a_155 (H.2.2 h2).1 (by decide) (x_aldn c353_24 rfl (x_ildn c353_25 rfl (wp_wk (l' := [some (jR 133), some (jI v1)]) ⟨rfl, ⟨rfl, trivial⟩⟩ (x_cv (As := [jI v1]) (st := [jI (M 155 v1)]) c353_26 cl_133 kl271 rfl (Nat.le_of_ble_eq_true rfl) mx271 (Nat.le_refl _) (H.2.2 h2).2))))))))))
theorem s353_29 {kc : List va_E} {d : Nat} {v1 u0 u1 : Int} {M : fx_M} {Q : Option fx_V → fx_M → Prop} (H : ((fx_in32 u1) ∧ (fx_in32 u0)) ∧ (u1 = u0 → wp kc (d + 1) 353 2 [some (jR 133), some (jI (v1 + 1))] [] M Q) ∧ (u1 ≠ u0 → Q (some (jI 0)) M)) : wp kc (d + 1) 353 29 [some (jR 133), some (jI v1)] [jI u0, jI u1] M Q :=
  (x_ceq c353_29 H.1.1 H.1.2 (fun h1 => (x_inc (l' := [some (jR 133), some (jI (v1 + 1))]) c353_34 rfl rfl (x_goto c353_37 (wp_wk (l' := [some (jR 133), some (jI (v1 + 1))]) ⟨rfl, ⟨rfl, trivial⟩⟩ (H.2.1 h1))))) (fun h2 => (x_ci c353_32 (x_zrt c353_33 r353 (by decide) (H.2.2 h2)))))
theorem s353_42 {kc : List va_E} {d : Nat} {v1 : Int} {M : fx_M} {Q : Option fx_V → fx_M → Prop} (H : ((fx_in32 v1) ∧ (fx_in32 (M 149 0))) ∧ (M 149 0 ≤ v1 → Q (some (jI 1)) M) ∧ (v1 < M 149 0 → wc kc d 273 [jR 133, jI v1] M (fun v M1 => wp kc (d + 1) 353 57 [some (jR 133), some (jI v1)] (v.toList ++ []) M1 Q))) : wp kc (d + 1) 353 42 [some (jR 133), some (jI v1)] [] M Q :=
  (x_ildn c353_42 rfl (x_aldn c353_43 rfl (x_gfr c353_44 k_133_40 (x_ci c353_47 (x_iald c353_48 a_149 (by decide) (by decide) (x_cge c353_49 H.1.1 H.1.2 (fun h1 => (x_ci c353_68 (x_zrt c353_69 r353 (by decide) (H.2.1 h1)))) (fun h2 => (x_aldn c353_52 rfl (x_ildn c353_53 rfl (wp_wk (l' := [some (jR 133), some (jI v1)]) ⟨rfl, ⟨rfl, trivial⟩⟩ (x_cv (As := [jI v1]) (st := []) c353_54 cl_133 kl273 rfl (Nat.le_of_ble_eq_true rfl) mx273 (Nat.le_refl _) (H.2.2 h2))))))))))))
theorem s353_57 {kc : List va_E} {d : Nat} {v1 u0 : Int} {M : fx_M} {Q : Option fx_V → fx_M → Prop} (H : ((fx_in32 u0)) ∧ (u0 ≠ 0 → wp kc (d + 1) 353 42 [some (jR 133), some (jI (v1 + 1))] [] M Q) ∧ (u0 = 0 → Q (some (jI 0)) M)) : wp kc (d + 1) 353 57 [some (jR 133), some (jI v1)] [jI u0] M Q :=
  (x_zne c353_57 H.1 (fun h1 => (x_inc (l' := [some (jR 133), some (jI (v1 + 1))]) c353_62 rfl rfl (x_goto c353_65 (wp_wk (l' := [some (jR 133), some (jI (v1 + 1))]) ⟨rfl, ⟨rfl, trivial⟩⟩ (H.2.1 h1))))) (fun h2 => (x_ci c353_60 (x_zrt c353_61 r353 (by decide) (H.2.2 h2)))))
theorem s353 {kc : List va_E} {d : Nat} {M : fx_M} {Q : Option fx_V → fx_M → Prop} (H : wp kc (d + 1) 353 2 [some (jR 133), some (jI 0)] [] M Q) : wc kc (d + 1) 353 [jR 133] M Q :=
  wc_of (wp_wk (l' := [some (jR 133), none]) ⟨rfl, trivial⟩ (s353_0 H))

/- PuzzleHouseModel.sayTable()V -/
theorem c354_0 : fx_ci 354 0 = some (0, 1) := by decide +kernel
theorem c354_1 : fx_op 354 1 = some (.istore_n 1, 2, 1) := by decide +kernel
theorem c354_2 : fx_op 354 2 = some (.iload_n 1, 3, 2) := by decide +kernel
theorem c354_3 : fx_ci 354 3 = some (3, 4) := by decide +kernel
theorem c354_4 : fx_op 354 4 = some (.if_icmp .ge 63, 7, 67) := by decide +kernel
theorem c354_7 : fx_ci 354 7 = some (0, 8) := by decide +kernel
theorem c354_8 : fx_op 354 8 = some (.istore_n 2, 9, 8) := by decide +kernel
theorem c354_67 : fx_op 354 67 = some (.return_, 68, 67) := by decide +kernel
theorem c354_9 : fx_op 354 9 = some (.iload_n 2, 10, 9) := by decide +kernel
theorem c354_10 : fx_ci 354 10 = some (3, 11) := by decide +kernel
theorem c354_11 : fx_op 354 11 = some (.if_icmp .ge 50, 14, 61) := by decide +kernel
theorem c354_14 : fx_op 354 14 = some (.aload_n 0, 15, 14) := by decide +kernel
theorem c354_15 : fx_op 354 15 = some (.iload_n 2, 16, 15) := by decide +kernel
theorem c354_61 : fx_op 354 61 = some (.iinc 1 1, 64, 61) := by decide +kernel
theorem c354_64 : fx_op 354 64 = some (.goto (-62), 67, 2) := by decide +kernel
theorem c354_16 : fx_ca 354 16 = some (355, 2, 2, 19) := by decide +kernel
theorem c354_19 : fx_op 354 19 = some (.iload_n 1, 20, 19) := by decide +kernel
theorem c354_20 : fx_op 354 20 = some (.if_icmp .eq 6, 23, 26) := by decide +kernel
theorem c354_26 : fx_op 354 26 = some (.aload_n 0, 27, 26) := by decide +kernel
theorem c354_27 : fx_op 354 27 = some (.iload_n 2, 28, 27) := by decide +kernel
theorem c354_55 : fx_op 354 55 = some (.iinc 2 1, 58, 55) := by decide +kernel
theorem c354_28 : fx_ca 354 28 = some (256, 2, 2, 31) := by decide +kernel
theorem c354_23 : fx_op 354 23 = some (.goto 32, 26, 55) := by decide +kernel
theorem c354_58 : fx_op 354 58 = some (.goto (-49), 61, 9) := by decide +kernel
theorem c354_31 : fx_op 354 31 = some (.aload_n 0, 32, 31) := by decide +kernel
theorem c354_32 : fx_op 354 32 = some (.aload_n 0, 33, 32) := by decide +kernel
theorem c354_33 : fx_op 354 33 = some (.iload_n 2, 34, 33) := by decide +kernel
theorem c354_34 : fx_ca 354 34 = some (356, 2, 2, 37) := by decide +kernel
theorem c354_37 : fx_ca 354 37 = some (255, 2, 2, 40) := by decide +kernel
theorem c354_40 : fx_op 354 40 = some (.aload_n 0, 41, 40) := by decide +kernel
theorem c354_41 : fx_op 354 41 = some (.aload_n 0, 42, 41) := by decide +kernel
theorem c354_42 : fx_op 354 42 = some (.iload_n 2, 43, 42) := by decide +kernel
theorem c354_43 : fx_ca 354 43 = some (357, 2, 2, 46) := by decide +kernel
theorem c354_46 : fx_ca 354 46 = some (255, 2, 2, 49) := by decide +kernel
theorem c354_49 : fx_op 354 49 = some (.aload_n 0, 50, 49) := by decide +kernel
theorem c354_50 : fx_ci 354 50 = some (59, 52) := by decide +kernel
theorem c354_52 : fx_ca 354 52 = some (254, 2, 2, 55) := by decide +kernel
theorem s354_0 {kc : List va_E} {d : Nat} {M : fx_M} {Q : Option fx_V → fx_M → Prop} (H : wp kc (d + 1) 354 2 [some (jR 133), some (jI 0), none] [] M Q) : wp kc (d + 1) 354 0 [some (jR 133), none, none] [] M Q :=
  (x_ci c354_0 (x_istn (l' := [some (jR 133), some (jI 0), none]) c354_1 rfl (wp_wk (l' := [some (jR 133), some (jI 0), none]) ⟨rfl, ⟨rfl, trivial⟩⟩ H)))
theorem s354_2 {kc : List va_E} {d : Nat} {v1 : Int} {M : fx_M} {Q : Option fx_V → fx_M → Prop} (H : ((fx_in32 v1)) ∧ (3 ≤ v1 → Q none M) ∧ (v1 < 3 → wp kc (d + 1) 354 9 [some (jR 133), some (jI v1), some (jI 0)] [] M Q)) : wp kc (d + 1) 354 2 [some (jR 133), some (jI v1), none] [] M Q :=
  (x_ildn c354_2 rfl (x_ci c354_3 (x_cge c354_4 H.1 (by decide) (fun h1 => (x_vr c354_67 r354 (H.2.1 h1))) (fun h2 => (x_ci c354_7 (x_istn (l' := [some (jR 133), some (jI v1), some (jI 0)]) c354_8 rfl (wp_wk (l' := [some (jR 133), some (jI v1), some (jI 0)]) ⟨rfl, ⟨rfl, ⟨rfl, trivial⟩⟩⟩ (H.2.2 h2))))))))
theorem s354_9 {kc : List va_E} {d : Nat} {v1 v2 : Int} {M : fx_M} {Q : Option fx_V → fx_M → Prop} (H : ((fx_in32 v2)) ∧ (3 ≤ v2 → wp kc (d + 1) 354 2 [some (jR 133), some (jI (v1 + 1)), none] [] M Q) ∧ (v2 < 3 → wc kc d 355 [jR 133, jI v2] M (fun v M1 => wp kc (d + 1) 354 19 [some (jR 133), some (jI v1), some (jI v2)] (v.toList ++ []) M1 Q))) : wp kc (d + 1) 354 9 [some (jR 133), some (jI v1), some (jI v2)] [] M Q :=
  (x_ildn c354_9 rfl (x_ci c354_10 (x_cge c354_11 H.1 (by decide) (fun h1 => (x_inc (l' := [some (jR 133), some (jI (v1 + 1)), some (jI v2)]) c354_61 rfl rfl (x_goto c354_64 (wp_wk (l' := [some (jR 133), some (jI (v1 + 1)), none]) ⟨rfl, ⟨rfl, trivial⟩⟩ (H.2.1 h1))))) (fun h2 => (x_aldn c354_14 rfl (x_ildn c354_15 rfl (wp_wk (l' := [some (jR 133), some (jI v1), some (jI v2)]) ⟨rfl, ⟨rfl, ⟨rfl, trivial⟩⟩⟩ (x_cv (As := [jI v2]) (st := []) c354_16 cl_133 kl355 rfl (Nat.le_of_ble_eq_true rfl) mx355 (Nat.le_refl _) (H.2.2 h2)))))))))
theorem s354_19 {kc : List va_E} {d : Nat} {v1 v2 u0 : Int} {M : fx_M} {Q : Option fx_V → fx_M → Prop} (H : ((fx_in32 u0) ∧ (fx_in32 v1)) ∧ (u0 = v1 → wc kc d 256 [jR 133, jI v2] M (fun v M1 => wp kc (d + 1) 354 31 [some (jR 133), some (jI v1), some (jI v2)] (v.toList ++ []) M1 Q)) ∧ (u0 ≠ v1 → wp kc (d + 1) 354 9 [some (jR 133), some (jI v1), some (jI (v2 + 1))] [] M Q)) : wp kc (d + 1) 354 19 [some (jR 133), some (jI v1), some (jI v2)] [jI u0] M Q :=
  (x_ildn c354_19 rfl (x_ceq c354_20 H.1.1 H.1.2 (fun h1 => (x_aldn c354_26 rfl (x_ildn c354_27 rfl (wp_wk (l' := [some (jR 133), some (jI v1), some (jI v2)]) ⟨rfl, ⟨rfl, ⟨rfl, trivial⟩⟩⟩ (x_cv (As := [jI v2]) (st := []) c354_28 cl_133 kl256 rfl (Nat.le_of_ble_eq_true rfl) mx256 (Nat.le_refl _) (H.2.1 h1)))))) (fun h2 => (x_goto c354_23 (x_inc (l' := [some (jR 133), some (jI v1), some (jI (v2 + 1))]) c354_55 rfl rfl (x_goto c354_58 (wp_wk (l' := [some (jR 133), some (jI v1), some (jI (v2 + 1))]) ⟨rfl, ⟨rfl, ⟨rfl, trivial⟩⟩⟩ (H.2.2 h2))))))))
theorem s354_31 {kc : List va_E} {d : Nat} {v1 v2 : Int} {M : fx_M} {Q : Option fx_V → fx_M → Prop} (H : wc kc d 356 [jR 133, jI v2] M (fun v M1 => wp kc (d + 1) 354 37 [some (jR 133), some (jI v1), some (jI v2)] (v.toList ++ [jR 133]) M1 Q)) : wp kc (d + 1) 354 31 [some (jR 133), some (jI v1), some (jI v2)] [] M Q :=
  (x_aldn c354_31 rfl (x_aldn c354_32 rfl (x_ildn c354_33 rfl (wp_wk (l' := [some (jR 133), some (jI v1), some (jI v2)]) ⟨rfl, ⟨rfl, ⟨rfl, trivial⟩⟩⟩ (x_cv (As := [jI v2]) (st := [jR 133]) c354_34 cl_133 kl356 rfl (Nat.le_of_ble_eq_true rfl) mx356 (Nat.le_refl _) H)))))
theorem s354_37 {kc : List va_E} {d : Nat} {v1 v2 u0 : Int} {M : fx_M} {Q : Option fx_V → fx_M → Prop} (H : wc kc d 255 [jR 133, jI u0] M (fun v M1 => wp kc (d + 1) 354 40 [some (jR 133), some (jI v1), some (jI v2)] (v.toList ++ []) M1 Q)) : wp kc (d + 1) 354 37 [some (jR 133), some (jI v1), some (jI v2)] [jI u0, jR 133] M Q :=
  (wp_wk (l' := [some (jR 133), some (jI v1), some (jI v2)]) ⟨rfl, ⟨rfl, ⟨rfl, trivial⟩⟩⟩ (x_cv (As := [jI u0]) (st := []) c354_37 cl_133 kl255 rfl (Nat.le_of_ble_eq_true rfl) mx255 (Nat.le_refl _) H))
theorem s354_40 {kc : List va_E} {d : Nat} {v1 v2 : Int} {M : fx_M} {Q : Option fx_V → fx_M → Prop} (H : wc kc d 357 [jR 133, jI v2] M (fun v M1 => wp kc (d + 1) 354 46 [some (jR 133), some (jI v1), some (jI v2)] (v.toList ++ [jR 133]) M1 Q)) : wp kc (d + 1) 354 40 [some (jR 133), some (jI v1), some (jI v2)] [] M Q :=
  (x_aldn c354_40 rfl (x_aldn c354_41 rfl (x_ildn c354_42 rfl (wp_wk (l' := [some (jR 133), some (jI v1), some (jI v2)]) ⟨rfl, ⟨rfl, ⟨rfl, trivial⟩⟩⟩ (x_cv (As := [jI v2]) (st := [jR 133]) c354_43 cl_133 kl357 rfl (Nat.le_of_ble_eq_true rfl) mx357 (Nat.le_refl _) H)))))
theorem s354_46 {kc : List va_E} {d : Nat} {v1 v2 u0 : Int} {M : fx_M} {Q : Option fx_V → fx_M → Prop} (H : wc kc d 255 [jR 133, jI u0] M (fun v M1 => wp kc (d + 1) 354 49 [some (jR 133), some (jI v1), some (jI v2)] (v.toList ++ []) M1 Q)) : wp kc (d + 1) 354 46 [some (jR 133), some (jI v1), some (jI v2)] [jI u0, jR 133] M Q :=
  (wp_wk (l' := [some (jR 133), some (jI v1), some (jI v2)]) ⟨rfl, ⟨rfl, ⟨rfl, trivial⟩⟩⟩ (x_cv (As := [jI u0]) (st := []) c354_46 cl_133 kl255 rfl (Nat.le_of_ble_eq_true rfl) mx255 (Nat.le_refl _) H))
theorem s354_49 {kc : List va_E} {d : Nat} {v1 v2 : Int} {M : fx_M} {Q : Option fx_V → fx_M → Prop} (H : wc kc d 254 [jR 133, jI 59] M (fun v M1 => wp kc (d + 1) 354 55 [some (jR 133), some (jI v1), some (jI v2)] (v.toList ++ []) M1 Q)) : wp kc (d + 1) 354 49 [some (jR 133), some (jI v1), some (jI v2)] [] M Q :=
  (x_aldn c354_49 rfl (x_ci c354_50 (wp_wk (l' := [some (jR 133), some (jI v1), some (jI v2)]) ⟨rfl, ⟨rfl, ⟨rfl, trivial⟩⟩⟩ (x_cv (As := [jI 59]) (st := []) c354_52 cl_133 kl254 rfl (Nat.le_of_ble_eq_true rfl) mx254 (Nat.le_refl _) H))))
theorem s354_55 {kc : List va_E} {d : Nat} {v1 v2 : Int} {M : fx_M} {Q : Option fx_V → fx_M → Prop} (H : wp kc (d + 1) 354 9 [some (jR 133), some (jI v1), some (jI (v2 + 1))] [] M Q) : wp kc (d + 1) 354 55 [some (jR 133), some (jI v1), some (jI v2)] [] M Q :=
  (x_inc (l' := [some (jR 133), some (jI v1), some (jI (v2 + 1))]) c354_55 rfl rfl (x_goto c354_58 (wp_wk (l' := [some (jR 133), some (jI v1), some (jI (v2 + 1))]) ⟨rfl, ⟨rfl, ⟨rfl, trivial⟩⟩⟩ H)))
theorem s354 {kc : List va_E} {d : Nat} {M : fx_M} {Q : Option fx_V → fx_M → Prop} (H : wp kc (d + 1) 354 2 [some (jR 133), some (jI 0), none] [] M Q) : wc kc (d + 1) 354 [jR 133] M Q :=
  wc_of (wp_wk (l' := [some (jR 133), none, none]) ⟨rfl, trivial⟩ (s354_0 H))
