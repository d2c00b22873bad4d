/-! SEGMENTS of Checker (by gen/emit_segs.py) -/
/- PuzzleHouse$Checker.read(LPuzzleHouse$Scan;)V -/
theorem c58_0 : fx_op 58 0 = some (.aload_n 0, 1, 0) := by decide +kernel
theorem c58_1 : fx_ci 58 1 = some (0, 2) := by decide +kernel
theorem c58_2 : fx_pf 58 2 = some (6, 0, 0, 5) := by decide +kernel
theorem c58_5 : fx_ci 58 5 = some (1, 6) := by decide +kernel
theorem c58_6 : fx_op 58 6 = some (.istore_n 2, 7, 6) := by decide +kernel
theorem c58_7 : fx_ci 58 7 = some (0, 8) := by decide +kernel
theorem c58_8 : fx_op 58 8 = some (.istore_n 3, 9, 8) := by decide +kernel
theorem c58_9 : fx_op 58 9 = some (.iload_n 3, 10, 9) := by decide +kernel
theorem c58_10 : fx_ci 58 10 = some (1600, 13) := by decide +kernel
theorem c58_13 : fx_op 58 13 = some (.if_icmp .ge 53, 16, 66) := by decide +kernel
theorem c58_16 : fx_op 58 16 = some (.iload_n 2, 17, 16) := by decide +kernel
theorem c58_17 : fx_op 58 17 = some (.ifCond .eq 49, 20, 66) := by decide +kernel
theorem c58_20 : fx_op 58 20 = some (.aload_n 1, 21, 20) := by decide +kernel
theorem c58_21 : fx_gf 58 21 = some (2, 3, 24) := by decide +kernel
theorem c58_24 : fx_op 58 24 = some (.ifCond .ne 42, 27, 66) := by decide +kernel
theorem c58_27 : fx_op 58 27 = some (.aload_n 0, 28, 27) := by decide +kernel
theorem c58_28 : fx_op 58 28 = some (.aload_n 1, 29, 28) := by decide +kernel
theorem c58_29 : fx_op 58 29 = some (.iload_n 3, 30, 29) := by decide +kernel
theorem c58_66 : fx_op 58 66 = some (.return_, 67, 66) := by decide +kernel
theorem c58_30 : fx_ca 58 30 = some (59, 3, 2, 33) := by decide +kernel
theorem c58_33 : fx_op 58 33 = some (.aload_n 0, 34, 33) := by decide +kernel
theorem c58_34 : fx_op 58 34 = some (.dup, 35, 34) := by decide +kernel
theorem c58_35 : fx_gf 58 35 = some (6, 0, 38) := by decide +kernel
theorem c58_38 : fx_ci 58 38 = some (1, 39) := by decide +kernel
theorem c58_39 : fx_op 58 39 = some (.iadd, 40, 39) := by decide +kernel
theorem c58_40 : fx_pf 58 40 = some (6, 0, 0, 43) := by decide +kernel
theorem c58_43 : fx_op 58 43 = some (.aload_n 1, 44, 43) := by decide +kernel
theorem c58_44 : fx_gf 58 44 = some (2, 1, 47) := by decide +kernel
theorem c58_47 : fx_op 58 47 = some (.aload_n 1, 48, 47) := by decide +kernel
theorem c58_48 : fx_gf 58 48 = some (2, 2, 51) := by decide +kernel
theorem c58_51 : fx_op 58 51 = some (.if_icmp .ge 7, 54, 58) := by decide +kernel
theorem c58_58 : fx_ci 58 58 = some (0, 59) := by decide +kernel
theorem c58_54 : fx_ci 58 54 = some (1, 55) := by decide +kernel
theorem c58_55 : fx_op 58 55 = some (.goto 4, 58, 59) := by decide +kernel
theorem c58_59 : fx_op 58 59 = some (.istore_n 2, 60, 59) := by decide +kernel
theorem c58_60 : fx_op 58 60 = some (.iinc 3 1, 63, 60) := by decide +kernel
theorem c58_63 : fx_op 58 63 = some (.goto (-54), 66, 9) := by decide +kernel
theorem s58_0 {kc : List va_E} {d : Nat} {s : Nat} {M : fx_M} {Q : Option fx_V → fx_M → Prop} (Hs : fx_scn s) (H : wp kc (d + 1) 58 9 [some (jR 34), some (jR s), some (jI 1), some (jI 0)] [] (fx_up M 34 0 0) Q) : wp kc (d + 1) 58 0 [some (jR 34), some (jR s), none, none] [] M Q :=
  (x_aldn c58_0 rfl (x_ci c58_1 (x_pfi c58_2 k_34_0 (x_ci c58_5 (x_istn (l' := [some (jR 34), some (jR s), some (jI 1), none]) c58_6 rfl (x_ci c58_7 (x_istn (l' := [some (jR 34), some (jR s), some (jI 1), some (jI 0)]) c58_8 rfl (wp_wk (l' := [some (jR 34), some (jR s), some (jI 1), some (jI 0)]) ⟨rfl, ⟨rfl, ⟨rfl, ⟨rfl, trivial⟩⟩⟩⟩ H))))))))
theorem s58_9 {kc : List va_E} {d : Nat} {s : Nat} {v2 v3 : Int} {M : fx_M} {Q : Option fx_V → fx_M → Prop} (Hs : fx_scn s) (H : ((fx_in32 v3)) ∧ (1600 ≤ v3 → Q none M) ∧ (v3 < 1600 → ((fx_in32 v2)) ∧ (v2 = 0 → Q none M) ∧ (v2 ≠ 0 → ((fx_in32 (M s 3))) ∧ (M s 3 ≠ 0 → Q none M) ∧ (M s 3 = 0 → wc kc d 59 [jR 34, jR s, jI v3] M (fun v M1 => wp kc (d + 1) 58 33 [some (jR 34), some (jR s), none, some (jI v3)] (v.toList ++ []) M1 Q))))) : wp kc (d + 1) 58 9 [some (jR 34), some (jR s), some (jI v2), some (jI v3)] [] M Q :=
  (x_ildn c58_9 rfl (x_ci c58_10 (x_cge c58_13 H.1 (by decide) (fun h5 => (x_vr c58_66 r58 (H.2.1 h5))) (fun h6 => (x_ildn c58_16 rfl (x_zeq c58_17 (H.2.2 h6).1 (fun h3 => (x_vr c58_66 r58 ((H.2.2 h6).2.1 h3))) (fun h4 => (x_aldn c58_20 rfl (x_gfi c58_21 (ks_3 Hs) (x_zne c58_24 ((H.2.2 h6).2.2 h4).1 (fun h1 => (x_vr c58_66 r58 (((H.2.2 h6).2.2 h4).2.1 h1))) (fun h2 => (x_aldn c58_27 rfl (x_aldn c58_28 rfl (x_ildn c58_29 rfl (wp_wk (l' := [some (jR 34), some (jR s), none, some (jI v3)]) ⟨rfl, ⟨rfl, ⟨rfl, trivial⟩⟩⟩ (x_cv (As := [jR s, jI v3]) (st := []) c58_30 cl_34 kl59 rfl (Nat.le_of_ble_eq_true rfl) mx59 (Nat.le_refl _) (((H.2.2 h6).2.2 h4).2.2 h2)))))))))))))))))
theorem s58_33 {kc : List va_E} {d : Nat} {s : Nat} {v3 : Int} {M : fx_M} {Q : Option fx_V → fx_M → Prop} (Hs : fx_scn s) (H : ((fx_in32 (M s 1))) ∧ ((fx_in32 (M s 2))) ∧ wp kc (d + 1) 58 9 [some (jR 34), some (jR s), some (jI (if M s 1 < M s 2 then (1 : Int) else 0)), some (jI (v3 + 1))] [] (fx_up M 34 0 ((M 34 0) + 1)) Q) : wp kc (d + 1) 58 33 [some (jR 34), some (jR s), none, some (jI v3)] [] M Q :=
  (x_aldn c58_33 rfl (x_dupr c58_34 (x_gfi c58_35 k_34_0 (x_ci c58_38 (x_iadd c58_39 (x_pfi c58_40 k_34_0 (x_aldn c58_43 rfl (x_gfi c58_44 (ks_1 Hs) (wp_vI (fx_upK (by decide)) (x_aldn c58_47 rfl (x_gfi c58_48 (ks_2 Hs) (wp_vI (fx_upK (by decide)) (have K : wp kc (d + 1) 58 59 [some (jR 34), some (jR s), none, some (jI v3)] [jI (if M s 1 < M s 2 then (1 : Int) else 0)] (fx_up M 34 0 ((M 34 0) + 1)) Q := (x_istn (l' := [some (jR 34), some (jR s), some (jI (if M s 1 < M s 2 then (1 : Int) else 0)), some (jI v3)]) c58_59 rfl (x_inc (l' := [some (jR 34), some (jR s), some (jI (if M s 1 < M s 2 then (1 : Int) else 0)), some (jI (v3 + 1))]) c58_60 rfl rfl (x_goto c58_63 (wp_wk (l' := [some (jR 34), some (jR s), some (jI (if M s 1 < M s 2 then (1 : Int) else 0)), some (jI (v3 + 1))]) ⟨rfl, ⟨rfl, ⟨rfl, ⟨rfl, trivial⟩⟩⟩⟩ H.2.2)))); (x_cge c58_51 H.1 H.2.1 (fun (h1 : M s 2 ≤ M s 1) => (x_ci c58_58 (wp_wk (l' := [some (jR 34), some (jR s), none, some (jI v3)]) ⟨rfl, ⟨rfl, ⟨rfl, trivial⟩⟩⟩ (by have K := K; first | (simp only [if_neg (Int.not_lt.mpr h1)] at K ⊢; exact K) | (exfalso; omega))))) (fun (h2 : M s 1 < M s 2) => (x_ci c58_54 (x_goto c58_55 (wp_wk (l' := [some (jR 34), some (jR s), none, some (jI v3)]) ⟨rfl, ⟨rfl, ⟨rfl, trivial⟩⟩⟩ (by have K := K; first | (simp only [if_pos h2] at K ⊢; exact K) | (exfalso; omega))))))))))))))))))))
theorem s58 {kc : List va_E} {d : Nat} {s : Nat} {M : fx_M} {Q : Option fx_V → fx_M → Prop} (Hs : fx_scn s) (H : wp kc (d + 1) 58 9 [some (jR 34), some (jR s), some (jI 1), some (jI 0)] [] (fx_up M 34 0 0) Q) : wc kc (d + 1) 58 [jR 34, jR s] M Q :=
  wc_of (wp_wk (l' := [some (jR 34), some (jR s), none, none]) ⟨rfl, ⟨rfl, trivial⟩⟩ (s58_0 Hs H))

/- PuzzleHouse$Checker.readLine(LPuzzleHouse$Scan;I)V -/
theorem c59_0 : fx_op 59 0 = some (.aload_n 0, 1, 0) := by decide +kernel
theorem c59_1 : fx_gf 59 1 = some (6, 1, 4) := by decide +kernel
theorem c59_4 : fx_op 59 4 = some (.iload_n 2, 5, 4) := by decide +kernel
theorem c59_5 : fx_op 59 5 = some (.aload_n 1, 6, 5) := by decide +kernel
theorem c59_6 : fx_cr 59 6 = some (1000025, 8) := by decide +kernel
theorem c59_8 : fx_ca 59 8 = some (20, 2, 2, 11) := by decide +kernel
theorem c59_12 : fx_op 59 12 = some (.aload_n 0, 13, 12) := by decide +kernel
theorem c59_13 : fx_gf 59 13 = some (6, 2, 16) := by decide +kernel
theorem c59_16 : fx_op 59 16 = some (.iload_n 2, 17, 16) := by decide +kernel
theorem c59_17 : fx_ci 59 17 = some (0, 18) := by decide +kernel
theorem c59_19 : fx_op 59 19 = some (.aload_n 0, 20, 19) := by decide +kernel
theorem c59_20 : fx_gf 59 20 = some (6, 3, 23) := by decide +kernel
theorem c59_23 : fx_op 59 23 = some (.iload_n 2, 24, 23) := by decide +kernel
theorem c59_24 : fx_ci 59 24 = some (0, 25) := by decide +kernel
theorem c59_26 : fx_op 59 26 = some (.aload_n 0, 27, 26) := by decide +kernel
theorem c59_27 : fx_gf 59 27 = some (6, 4, 30) := by decide +kernel
theorem c59_30 : fx_op 59 30 = some (.iload_n 2, 31, 30) := by decide +kernel
theorem c59_31 : fx_cj 59 31 = some (0, 32) := by decide +kernel
theorem c59_33 : fx_op 59 33 = some (.aload_n 0, 34, 33) := by decide +kernel
theorem c59_34 : fx_gf 59 34 = some (6, 5, 37) := by decide +kernel
theorem c59_37 : fx_op 59 37 = some (.iload_n 2, 38, 37) := by decide +kernel
theorem c59_38 : fx_cj 59 38 = some (0, 39) := by decide +kernel
theorem c59_40 : fx_op 59 40 = some (.aload_n 0, 41, 40) := by decide +kernel
theorem c59_41 : fx_gf 59 41 = some (6, 1, 44) := by decide +kernel
theorem c59_44 : fx_op 59 44 = some (.iload_n 2, 45, 44) := by decide +kernel
theorem c59_46 : fx_op 59 46 = some (.ifCond .eq 23, 49, 69) := by decide +kernel
theorem c59_69 : fx_op 59 69 = some (.aload_n 0, 70, 69) := by decide +kernel
theorem c59_70 : fx_gf 59 70 = some (6, 2, 73) := by decide +kernel
theorem c59_73 : fx_op 59 73 = some (.iload_n 2, 74, 73) := by decide +kernel
theorem c59_74 : fx_op 59 74 = some (.aload_n 1, 75, 74) := by decide +kernel
theorem c59_75 : fx_ci 59 75 = some (3, 76) := by decide +kernel
theorem c59_49 : fx_op 59 49 = some (.aload_n 0, 50, 49) := by decide +kernel
theorem c59_50 : fx_gf 59 50 = some (6, 1, 53) := by decide +kernel
theorem c59_53 : fx_op 59 53 = some (.iload_n 2, 54, 53) := by decide +kernel
theorem c59_55 : fx_ci 59 55 = some (1, 56) := by decide +kernel
theorem c59_56 : fx_op 59 56 = some (.if_icmp .eq 13, 59, 69) := by decide +kernel
theorem c59_59 : fx_op 59 59 = some (.aload_n 0, 60, 59) := by decide +kernel
theorem c59_60 : fx_gf 59 60 = some (6, 1, 63) := by decide +kernel
theorem c59_63 : fx_op 59 63 = some (.iload_n 2, 64, 63) := by decide +kernel
theorem c59_65 : fx_ci 59 65 = some (2, 66) := by decide +kernel
theorem c59_66 : fx_op 59 66 = some (.if_icmp .ne 14, 69, 80) := by decide +kernel
theorem c59_80 : fx_op 59 80 = some (.aload_n 0, 81, 80) := by decide +kernel
theorem c59_81 : fx_gf 59 81 = some (6, 1, 84) := by decide +kernel
theorem c59_84 : fx_op 59 84 = some (.iload_n 2, 85, 84) := by decide +kernel
theorem c59_86 : fx_ci 59 86 = some (2, 87) := by decide +kernel
theorem c59_87 : fx_op 59 87 = some (.if_icmp .ne 20, 90, 107) := by decide +kernel
theorem c59_90 : fx_op 59 90 = some (.aload_n 1, 91, 90) := by decide +kernel
theorem c59_91 : fx_ci 59 91 = some (32, 93) := by decide +kernel
theorem c59_107 : fx_op 59 107 = some (.aload_n 1, 108, 107) := by decide +kernel
theorem c59_108 : fx_gf 59 108 = some (2, 1, 111) := by decide +kernel
theorem c59_111 : fx_op 59 111 = some (.istore_n 3, 112, 111) := by decide +kernel
theorem c59_11 : fx_op 59 11 = some (.iastore, 12, 11) := by decide +kernel
theorem c59_18 : fx_op 59 18 = some (.iastore, 19, 18) := by decide +kernel
theorem c59_25 : fx_op 59 25 = some (.iastore, 26, 25) := by decide +kernel
theorem c59_32 : fx_op 59 32 = some (.lastore, 33, 32) := by decide +kernel
theorem c59_39 : fx_op 59 39 = some (.lastore, 40, 39) := by decide +kernel
theorem c59_45 : fx_op 59 45 = some (.iaload, 46, 45) := by decide +kernel
theorem c59_76 : fx_ca 59 76 = some (35, 2, 2, 79) := by decide +kernel
theorem c59_54 : fx_op 59 54 = some (.iaload, 55, 54) := by decide +kernel
theorem c59_64 : fx_op 59 64 = some (.iaload, 65, 64) := by decide +kernel
theorem c59_85 : fx_op 59 85 = some (.iaload, 86, 85) := by decide +kernel
theorem c59_93 : fx_ca 59 93 = some (34, 2, 2, 96) := by decide +kernel
theorem c59_112 : fx_op 59 112 = some (.iload_n 3, 113, 112) := by decide +kernel
theorem c59_113 : fx_op 59 113 = some (.aload_n 1, 114, 113) := by decide +kernel
theorem c59_114 : fx_gf 59 114 = some (2, 2, 117) := by decide +kernel
theorem c59_117 : fx_op 59 117 = some (.if_icmp .gt 24, 120, 141) := by decide +kernel
theorem c59_120 : fx_op 59 120 = some (.aload_n 1, 121, 120) := by decide +kernel
theorem c59_121 : fx_ci 59 121 = some (32, 123) := by decide +kernel
theorem c59_141 : fx_op 59 141 = some (.aload_n 1, 142, 141) := by decide +kernel
theorem c59_142 : fx_ci 59 142 = some (59, 144) := by decide +kernel
theorem c59_144 : fx_ca 59 144 = some (34, 2, 2, 147) := by decide +kernel
theorem c59_123 : fx_ca 59 123 = some (38, 2, 2, 126) := by decide +kernel
theorem c59_79 : fx_op 59 79 = some (.iastore, 80, 79) := by decide +kernel
theorem c59_96 : fx_op 59 96 = some (.aload_n 0, 97, 96) := by decide +kernel
theorem c59_97 : fx_gf 59 97 = some (6, 3, 100) := by decide +kernel
theorem c59_100 : fx_op 59 100 = some (.iload_n 2, 101, 100) := by decide +kernel
theorem c59_101 : fx_op 59 101 = some (.aload_n 1, 102, 101) := by decide +kernel
theorem c59_102 : fx_ci 59 102 = some (3, 103) := by decide +kernel
theorem c59_103 : fx_ca 59 103 = some (35, 2, 2, 106) := by decide +kernel
theorem c59_147 : fx_op 59 147 = some (.return_, 148, 147) := by decide +kernel
theorem c59_126 : fx_op 59 126 = some (.ifCond .eq 15, 129, 141) := by decide +kernel
theorem c59_129 : fx_op 59 129 = some (.aload_n 0, 130, 129) := by decide +kernel
theorem c59_130 : fx_op 59 130 = some (.aload_n 1, 131, 130) := by decide +kernel
theorem c59_131 : fx_op 59 131 = some (.iload_n 2, 132, 131) := by decide +kernel
theorem c59_132 : fx_ca 59 132 = some (60, 3, 2, 135) := by decide +kernel
theorem c59_106 : fx_op 59 106 = some (.iastore, 107, 106) := by decide +kernel
theorem c59_135 : fx_op 59 135 = some (.iinc 3 1, 138, 135) := by decide +kernel
theorem c59_138 : fx_op 59 138 = some (.goto (-26), 141, 112) := by decide +kernel
theorem s59_0 {kc : List va_E} {d : Nat} {s : Nat} {x2 : Int} {M : fx_M} {Q : Option fx_V → fx_M → Prop} (Hs : fx_scn s) (H : wc kc d 20 [jR s, jR 1000025] M (fun v M1 => wp kc (d + 1) 59 11 [some (jR 34), some (jR s), some (jI x2), none] (v.toList ++ [jI x2, jR 35]) M1 Q)) : wp kc (d + 1) 59 0 [some (jR 34), some (jR s), some (jI x2), none] [] M Q :=
  (x_aldn c59_0 rfl (x_gfr c59_1 k_34_1 (x_ildn c59_4 rfl (x_aldn c59_5 rfl (x_cr c59_6 (wp_wk (l' := [some (jR 34), some (jR s), some (jI x2), none]) ⟨rfl, ⟨rfl, ⟨rfl, trivial⟩⟩⟩ (x_cv (As := [jR 1000025]) (st := [jI x2, jR 35]) c59_8 (cls Hs) kl20 rfl (Nat.le_of_ble_eq_true rfl) mx20 (Nat.le_refl _) H)))))))
theorem s59_11 {kc : List va_E} {d : Nat} {s : Nat} {v2 u0 u1 : Int} {M : fx_M} {Q : Option fx_V → fx_M → Prop} (Hs : fx_scn s) (H : (((0 : Int) ≤ u1 ∧ u1 < 1600)) ∧ (((0 : Int) ≤ v2 ∧ v2 < 1600)) ∧ (((0 : Int) ≤ v2 ∧ v2 < 1600)) ∧ (((0 : Int) ≤ v2 ∧ v2 < 1600)) ∧ (((0 : Int) ≤ v2 ∧ v2 < 1600)) ∧ (((0 : Int) ≤ v2 ∧ v2 < 1600)) ∧ ((fx_in32 ((fx_up M 35 u1 u0) 35 v2))) ∧ ((fx_up M 35 u1 u0) 35 v2 = 0 → wc kc d 35 [jR s, jI 3] (fx_up (fx_up (fx_up (fx_up (fx_up M 35 u1 u0) 36 v2 0) 37 v2 0) 38 v2 0) 39 v2 0) (fun v M1 => wp kc (d + 1) 59 79 [some (jR 34), some (jR s), some (jI v2), none] (v.toList ++ [jI v2, jR 36]) M1 Q)) ∧ ((fx_up M 35 u1 u0) 35 v2 ≠ 0 → (((0 : Int) ≤ v2 ∧ v2 < 1600)) ∧ ((fx_in32 ((fx_up M 35 u1 u0) 35 v2))) ∧ ((fx_up M 35 u1 u0) 35 v2 = 1 → wc kc d 35 [jR s, jI 3] (fx_up (fx_up (fx_up (fx_up (fx_up M 35 u1 u0) 36 v2 0) 37 v2 0) 38 v2 0) 39 v2 0) (fun v M1 => wp kc (d + 1) 59 79 [some (jR 34), some (jR s), some (jI v2), none] (v.toList ++ [jI v2, jR 36]) M1 Q)) ∧ ((fx_up M 35 u1 u0) 35 v2 ≠ 1 → (((0 : Int) ≤ v2 ∧ v2 < 1600)) ∧ ((fx_in32 ((fx_up M 35 u1 u0) 35 v2))) ∧ ((fx_up M 35 u1 u0) 35 v2 ≠ 2 → (((0 : Int) ≤ v2 ∧ v2 < 1600)) ∧ ((fx_in32 ((fx_up M 35 u1 u0) 35 v2))) ∧ ((fx_up M 35 u1 u0) 35 v2 ≠ 2 → wp kc (d + 1) 59 112 [some (jR 34), some (jR s), some (jI v2), some (jI ((fx_up (fx_up (fx_up (fx_up (fx_up M 35 u1 u0) 36 v2 0) 37 v2 0) 38 v2 0) 39 v2 0) s 1))] [] (fx_up (fx_up (fx_up (fx_up (fx_up M 35 u1 u0) 36 v2 0) 37 v2 0) 38 v2 0) 39 v2 0) Q) ∧ ((fx_up M 35 u1 u0) 35 v2 = 2 → wc kc d 34 [jR s, jI 32] (fx_up (fx_up (fx_up (fx_up (fx_up M 35 u1 u0) 36 v2 0) 37 v2 0) 38 v2 0) 39 v2 0) (fun v M1 => wp kc (d + 1) 59 96 [some (jR 34), some (jR s), some (jI v2), none] (v.toList ++ []) M1 Q))) ∧ ((fx_up M 35 u1 u0) 35 v2 = 2 → wc kc d 35 [jR s, jI 3] (fx_up (fx_up (fx_up (fx_up (fx_up M 35 u1 u0) 36 v2 0) 37 v2 0) 38 v2 0) 39 v2 0) (fun v M1 => wp kc (d + 1) 59 79 [some (jR 34), some (jR s), some (jI v2), none] (v.toList ++ [jI v2, jR 36]) M1 Q))))) : wp kc (d + 1) 59 11 [some (jR 34), some (jR s), some (jI v2), none] [jI u0, jI u1, jR 35] M Q :=
  (x_iast c59_11 a_35 H.1 (by decide) (x_aldn c59_12 rfl (x_gfr c59_13 k_34_2 (x_ildn c59_16 rfl (x_ci c59_17 (x_iast c59_18 a_36 H.2.1 (by decide) (x_aldn c59_19 rfl (x_gfr c59_20 k_34_3 (x_ildn c59_23 rfl (x_ci c59_24 (x_iast c59_25 a_37 H.2.2.1 (by decide) (x_aldn c59_26 rfl (x_gfr c59_27 k_34_4 (x_ildn c59_30 rfl (x_cj c59_31 (x_last c59_32 a_38 H.2.2.2.1 (by decide) (x_aldn c59_33 rfl (x_gfr c59_34 k_34_5 (x_ildn c59_37 rfl (x_cj c59_38 (x_last c59_39 a_39 H.2.2.2.2.1 (by decide) (x_aldn c59_40 rfl (x_gfr c59_41 k_34_1 (x_ildn c59_44 rfl (x_iald c59_45 a_35 H.2.2.2.2.2.1 (by decide) (wp_vI (((fx_upA (by decide)).trans ((fx_upA (by decide)).trans ((fx_upA (by decide)).trans (fx_upA (by decide)))))) (x_zeq c59_46 H.2.2.2.2.2.2.1 (fun h7 => (x_aldn c59_69 rfl (x_gfr c59_70 k_34_2 (x_ildn c59_73 rfl (x_aldn c59_74 rfl (x_ci c59_75 (wp_wk (l' := [some (jR 34), some (jR s), some (jI v2), none]) ⟨rfl, ⟨rfl, ⟨rfl, trivial⟩⟩⟩ (x_cv (As := [jI 3]) (st := [jI v2, jR 36]) c59_76 (cls Hs) kl35 rfl (Nat.le_of_ble_eq_true rfl) mx35 (Nat.le_refl _) (H.2.2.2.2.2.2.2.1 h7))))))))) (fun h8 => (x_aldn c59_49 rfl (x_gfr c59_50 k_34_1 (x_ildn c59_53 rfl (x_iald c59_54 a_35 (H.2.2.2.2.2.2.2.2 h8).1 (by decide) (wp_vI (((fx_upA (by decide)).trans ((fx_upA (by decide)).trans ((fx_upA (by decide)).trans (fx_upA (by decide)))))) (x_ci c59_55 (x_ceq c59_56 (H.2.2.2.2.2.2.2.2 h8).2.1 (by decide) (fun h5 => (x_aldn c59_69 rfl (x_gfr c59_70 k_34_2 (x_ildn c59_73 rfl (x_aldn c59_74 rfl (x_ci c59_75 (wp_wk (l' := [some (jR 34), some (jR s), some (jI v2), none]) ⟨rfl, ⟨rfl, ⟨rfl, trivial⟩⟩⟩ (x_cv (As := [jI 3]) (st := [jI v2, jR 36]) c59_76 (cls Hs) kl35 rfl (Nat.le_of_ble_eq_true rfl) mx35 (Nat.le_refl _) ((H.2.2.2.2.2.2.2.2 h8).2.2.1 h5))))))))) (fun h6 => (x_aldn c59_59 rfl (x_gfr c59_60 k_34_1 (x_ildn c59_63 rfl (x_iald c59_64 a_35 ((H.2.2.2.2.2.2.2.2 h8).2.2.2 h6).1 (by decide) (wp_vI (((fx_upA (by decide)).trans ((fx_upA (by decide)).trans ((fx_upA (by decide)).trans (fx_upA (by decide)))))) (x_ci c59_65 (x_cne c59_66 ((H.2.2.2.2.2.2.2.2 h8).2.2.2 h6).2.1 (by decide) (fun h3 => (x_aldn c59_80 rfl (x_gfr c59_81 k_34_1 (x_ildn c59_84 rfl (x_iald c59_85 a_35 (((H.2.2.2.2.2.2.2.2 h8).2.2.2 h6).2.2.1 h3).1 (by decide) (wp_vI (((fx_upA (by decide)).trans ((fx_upA (by decide)).trans ((fx_upA (by decide)).trans (fx_upA (by decide)))))) (x_ci c59_86 (x_cne c59_87 (((H.2.2.2.2.2.2.2.2 h8).2.2.2 h6).2.2.1 h3).2.1 (by decide) (fun h1 => (x_aldn c59_107 rfl (x_gfi c59_108 (ks_1 Hs) (x_istn (l' := [some (jR 34), some (jR s), some (jI v2), some (jI ((fx_up (fx_up (fx_up (fx_up (fx_up M 35 u1 u0) 36 v2 0) 37 v2 0) 38 v2 0) 39 v2 0) s 1))]) c59_111 rfl (wp_wk (l' := [some (jR 34), some (jR s), some (jI v2), some (jI ((fx_up (fx_up (fx_up (fx_up (fx_up M 35 u1 u0) 36 v2 0) 37 v2 0) 38 v2 0) 39 v2 0) s 1))]) ⟨rfl, ⟨rfl, ⟨rfl, ⟨rfl, trivial⟩⟩⟩⟩ ((((H.2.2.2.2.2.2.2.2 h8).2.2.2 h6).2.2.1 h3).2.2.1 h1)))))) (fun h2 => (x_aldn c59_90 rfl (x_ci c59_91 (wp_wk (l' := [some (jR 34), some (jR s), some (jI v2), none]) ⟨rfl, ⟨rfl, ⟨rfl, trivial⟩⟩⟩ (x_cv (As := [jI 32]) (st := []) c59_93 (cls Hs) kl34 rfl (Nat.le_of_ble_eq_true rfl) mx34 (Nat.le_refl _) ((((H.2.2.2.2.2.2.2.2 h8).2.2.2 h6).2.2.1 h3).2.2.2 h2)))))))))))))) (fun h4 => (x_aldn c59_69 rfl (x_gfr c59_70 k_34_2 (x_ildn c59_73 rfl (x_aldn c59_74 rfl (x_ci c59_75 (wp_wk (l' := [some (jR 34), some (jR s), some (jI v2), none]) ⟨rfl, ⟨rfl, ⟨rfl, trivial⟩⟩⟩ (x_cv (As := [jI 3]) (st := [jI v2, jR 36]) c59_76 (cls Hs) kl35 rfl (Nat.le_of_ble_eq_true rfl) mx35 (Nat.le_refl _) (((H.2.2.2.2.2.2.2.2 h8).2.2.2 h6).2.2.2 h4))))))))))))))))))))))))))))))))))))))))))))))))))))
theorem s59_79 {kc : List va_E} {d : Nat} {s : Nat} {v2 u0 u1 : Int} {M : fx_M} {Q : Option fx_V → fx_M → Prop} (Hs : fx_scn s) (H : (((0 : Int) ≤ u1 ∧ u1 < 1600)) ∧ (((0 : Int) ≤ v2 ∧ v2 < 1600)) ∧ ((fx_in32 (M 35 v2))) ∧ (M 35 v2 ≠ 2 → wp kc (d + 1) 59 112 [some (jR 34), some (jR s), some (jI v2), some (jI ((fx_up M 36 u1 u0) s 1))] [] (fx_up M 36 u1 u0) Q) ∧ (M 35 v2 = 2 → wc kc d 34 [jR s, jI 32] (fx_up M 36 u1 u0) (fun v M1 => wp kc (d + 1) 59 96 [some (jR 34), some (jR s), some (jI v2), none] (v.toList ++ []) M1 Q))) : wp kc (d + 1) 59 79 [some (jR 34), some (jR s), some (jI v2), none] [jI u0, jI u1, jR 36] M Q :=
  (x_iast c59_79 a_36 H.1 (by decide) (x_aldn c59_80 rfl (x_gfr c59_81 k_34_1 (x_ildn c59_84 rfl (x_iald c59_85 a_35 H.2.1 (by decide) (wp_vI (fx_upA (by decide)) (x_ci c59_86 (x_cne c59_87 H.2.2.1 (by decide) (fun h1 => (x_aldn c59_107 rfl (x_gfi c59_108 (ks_1 Hs) (x_istn (l' := [some (jR 34), some (jR s), some (jI v2), some (jI ((fx_up M 36 u1 u0) s 1))]) c59_111 rfl (wp_wk (l' := [some (jR 34), some (jR s), some (jI v2), some (jI ((fx_up M 36 u1 u0) s 1))]) ⟨rfl, ⟨rfl, ⟨rfl, ⟨rfl, trivial⟩⟩⟩⟩ (H.2.2.2.1 h1)))))) (fun h2 => (x_aldn c59_90 rfl (x_ci c59_91 (wp_wk (l' := [some (jR 34), some (jR s), some (jI v2), none]) ⟨rfl, ⟨rfl, ⟨rfl, trivial⟩⟩⟩ (x_cv (As := [jI 32]) (st := []) c59_93 (cls Hs) kl34 rfl (Nat.le_of_ble_eq_true rfl) mx34 (Nat.le_refl _) (H.2.2.2.2 h2))))))))))))))
theorem s59_96 {kc : List va_E} {d : Nat} {s : Nat} {v2 : Int} {M : fx_M} {Q : Option fx_V → fx_M → Prop} (Hs : fx_scn s) (H : wc kc d 35 [jR s, jI 3] M (fun v M1 => wp kc (d + 1) 59 106 [some (jR 34), some (jR s), some (jI v2), none] (v.toList ++ [jI v2, jR 37]) M1 Q)) : wp kc (d + 1) 59 96 [some (jR 34), some (jR s), some (jI v2), none] [] M Q :=
  (x_aldn c59_96 rfl (x_gfr c59_97 k_34_3 (x_ildn c59_100 rfl (x_aldn c59_101 rfl (x_ci c59_102 (wp_wk (l' := [some (jR 34), some (jR s), some (jI v2), none]) ⟨rfl, ⟨rfl, ⟨rfl, trivial⟩⟩⟩ (x_cv (As := [jI 3]) (st := [jI v2, jR 37]) c59_103 (cls Hs) kl35 rfl (Nat.le_of_ble_eq_true rfl) mx35 (Nat.le_refl _) H)))))))
theorem s59_106 {kc : List va_E} {d : Nat} {s : Nat} {v2 u0 u1 : Int} {M : fx_M} {Q : Option fx_V → fx_M → Prop} (Hs : fx_scn s) (H : (((0 : Int) ≤ u1 ∧ u1 < 1600)) ∧ wp kc (d + 1) 59 112 [some (jR 34), some (jR s), some (jI v2), some (jI ((fx_up M 37 u1 u0) s 1))] [] (fx_up M 37 u1 u0) Q) : wp kc (d + 1) 59 106 [some (jR 34), some (jR s), some (jI v2), none] [jI u0, jI u1, jR 37] M Q :=
  (x_iast c59_106 a_37 H.1 (by decide) (x_aldn c59_107 rfl (x_gfi c59_108 (ks_1 Hs) (x_istn (l' := [some (jR 34), some (jR s), some (jI v2), some (jI ((fx_up M 37 u1 u0) s 1))]) c59_111 rfl (wp_wk (l' := [some (jR 34), some (jR s), some (jI v2), some (jI ((fx_up M 37 u1 u0) s 1))]) ⟨rfl, ⟨rfl, ⟨rfl, ⟨rfl, trivial⟩⟩⟩⟩ H.2)))))
theorem s59_112 {kc : List va_E} {d : Nat} {s : Nat} {v2 v3 : Int} {M : fx_M} {Q : Option fx_V → fx_M → Prop} (Hs : fx_scn s) (H : ((fx_in32 v3) ∧ (fx_in32 (M s 2))) ∧ (M s 2 < v3 → wc kc d 34 [jR s, jI 59] M (fun v M1 => wp kc (d + 1) 59 147 [none, none, none, none] (v.toList ++ []) M1 Q)) ∧ (v3 ≤ M s 2 → wc kc d 38 [jR s, jI 32] M (fun v M1 => wp kc (d + 1) 59 126 [some (jR 34), some (jR s), some (jI v2), some (jI v3)] (v.toList ++ []) M1 Q))) : wp kc (d + 1) 59 112 [some (jR 34), some (jR s), some (jI v2), some (jI v3)] [] M Q :=
  (x_ildn c59_112 rfl (x_aldn c59_113 rfl (x_gfi c59_114 (ks_2 Hs) (x_cgt c59_117 H.1.1 H.1.2 (fun h1 => (x_aldn c59_141 rfl (x_ci c59_142 (wp_wk (l' := [none, none, none, none]) trivial (x_cv (As := [jI 59]) (st := []) c59_144 (cls Hs) kl34 rfl (Nat.le_of_ble_eq_true rfl) mx34 (Nat.le_refl _) (H.2.1 h1)))))) (fun h2 => (x_aldn c59_120 rfl (x_ci c59_121 (wp_wk (l' := [some (jR 34), some (jR s), some (jI v2), some (jI v3)]) ⟨rfl, ⟨rfl, ⟨rfl, ⟨rfl, trivial⟩⟩⟩⟩ (x_cv (As := [jI 32]) (st := []) c59_123 (cls Hs) kl38 rfl (Nat.le_of_ble_eq_true rfl) mx38 (Nat.le_refl _) (H.2.2 h2))))))))))
theorem s59_126 {kc : List va_E} {d : Nat} {s : Nat} {v2 v3 u0 : Int} {M : fx_M} {Q : Option fx_V → fx_M → Prop} (Hs : fx_scn s) (H : ((fx_in32 u0)) ∧ (u0 = 0 → wc kc d 34 [jR s, jI 59] M (fun v M1 => wp kc (d + 1) 59 147 [none, none, none, none] (v.toList ++ []) M1 Q)) ∧ (u0 ≠ 0 → wc kc d 60 [jR 34, jR s, jI v2] M (fun v M1 => wp kc (d + 1) 59 135 [some (jR 34), some (jR s), some (jI v2), some (jI v3)] (v.toList ++ []) M1 Q))) : wp kc (d + 1) 59 126 [some (jR 34), some (jR s), some (jI v2), some (jI v3)] [jI u0] M Q :=
  (x_zeq c59_126 H.1 (fun h1 => (x_aldn c59_141 rfl (x_ci c59_142 (wp_wk (l' := [none, none, none, none]) trivial (x_cv (As := [jI 59]) (st := []) c59_144 (cls Hs) kl34 rfl (Nat.le_of_ble_eq_true rfl) mx34 (Nat.le_refl _) (H.2.1 h1)))))) (fun h2 => (x_aldn c59_129 rfl (x_aldn c59_130 rfl (x_ildn c59_131 rfl (wp_wk (l' := [some (jR 34), some (jR s), some (jI v2), some (jI v3)]) ⟨rfl, ⟨rfl, ⟨rfl, ⟨rfl, trivial⟩⟩⟩⟩ (x_cv (As := [jR s, jI v2]) (st := []) c59_132 cl_34 kl60 rfl (Nat.le_of_ble_eq_true rfl) mx60 (Nat.le_refl _) (H.2.2 h2))))))))
theorem s59_135 {kc : List va_E} {d : Nat} {s : Nat} {v2 v3 : Int} {M : fx_M} {Q : Option fx_V → fx_M → Prop} (Hs : fx_scn s) (H : wp kc (d + 1) 59 112 [some (jR 34), some (jR s), some (jI v2), some (jI (v3 + 1))] [] M Q) : wp kc (d + 1) 59 135 [some (jR 34), some (jR s), some (jI v2), some (jI v3)] [] M Q :=
  (x_inc (l' := [some (jR 34), some (jR s), some (jI v2), some (jI (v3 + 1))]) c59_135 rfl rfl (x_goto c59_138 (wp_wk (l' := [some (jR 34), some (jR s), some (jI v2), some (jI (v3 + 1))]) ⟨rfl, ⟨rfl, ⟨rfl, ⟨rfl, trivial⟩⟩⟩⟩ H)))
theorem s59_147 {kc : List va_E} {d : Nat} {s : Nat} {M : fx_M} {Q : Option fx_V → fx_M → Prop} (Hs : fx_scn s) (H : Q none M) : wp kc (d + 1) 59 147 [none, none, none, none] [] M Q :=
  (x_vr c59_147 r59 H)
theorem s59 {kc : List va_E} {d : Nat} {s : Nat} {x2 : Int} {M : fx_M} {Q : Option fx_V → fx_M → Prop} (Hs : fx_scn s) (H : wc kc d 20 [jR s, jR 1000025] M (fun v M1 => wp kc (d + 1) 59 11 [some (jR 34), some (jR s), some (jI x2), none] (v.toList ++ [jI x2, jR 35]) M1 Q)) : wc kc (d + 1) 59 [jR 34, jR s, jI x2] M Q :=
  wc_of (wp_wk (l' := [some (jR 34), some (jR s), some (jI x2), none]) ⟨rfl, ⟨rfl, ⟨rfl, trivial⟩⟩⟩ (s59_0 Hs H))

/- PuzzleHouse$Checker.readLiteral(LPuzzleHouse$Scan;I)V -/
theorem c60_0 : fx_op 60 0 = some (.aload_n 1, 1, 0) := by decide +kernel
theorem c60_1 : fx_ci 60 1 = some (32, 3) := by decide +kernel
theorem c60_3 : fx_ca 60 3 = some (34, 2, 2, 6) := by decide +kernel
theorem c60_6 : fx_op 60 6 = some (.aload_n 1, 7, 6) := by decide +kernel
theorem c60_7 : fx_cr 60 7 = some (1000027, 9) := by decide +kernel
theorem c60_9 : fx_ca 60 9 = some (20, 2, 2, 12) := by decide +kernel
theorem c60_12 : fx_op 60 12 = some (.istore_n 3, 13, 12) := by decide +kernel
theorem c60_13 : fx_op 60 13 = some (.aload_n 1, 14, 13) := by decide +kernel
theorem c60_14 : fx_ci 60 14 = some (3, 15) := by decide +kernel
theorem c60_15 : fx_ca 60 15 = some (35, 2, 2, 18) := by decide +kernel
theorem c60_18 : fx_op 60 18 = some (.istore 4, 20, 18) := by decide +kernel
theorem c60_20 : fx_op 60 20 = some (.aload_n 1, 21, 20) := by decide +kernel
theorem c60_21 : fx_ci 60 21 = some (46, 23) := by decide +kernel
theorem c60_23 : fx_ca 60 23 = some (34, 2, 2, 26) := by decide +kernel
theorem c60_26 : fx_op 60 26 = some (.aload_n 1, 27, 26) := by decide +kernel
theorem c60_27 : fx_ci 60 27 = some (3, 28) := by decide +kernel
theorem c60_28 : fx_ca 60 28 = some (35, 2, 2, 31) := by decide +kernel
theorem c60_31 : fx_op 60 31 = some (.istore 5, 33, 31) := by decide +kernel
theorem c60_33 : fx_op 60 33 = some (.iload 4, 35, 33) := by decide +kernel
theorem c60_35 : fx_op 60 35 = some (.aload_n 0, 36, 35) := by decide +kernel
theorem c60_36 : fx_gf 60 36 = some (6, 6, 39) := by decide +kernel
theorem c60_39 : fx_gf 60 39 = some (3, 2, 42) := by decide +kernel
theorem c60_42 : fx_op 60 42 = some (.if_icmp .ge 15, 45, 57) := by decide +kernel
theorem c60_57 : fx_op 60 57 = some (.aload_n 0, 58, 57) := by decide +kernel
theorem c60_58 : fx_gf 60 58 = some (6, 1, 61) := by decide +kernel
theorem c60_61 : fx_op 60 61 = some (.iload_n 2, 62, 61) := by decide +kernel
theorem c60_62 : fx_ci 60 62 = some (5, 63) := by decide +kernel
theorem c60_45 : fx_op 60 45 = some (.iload 5, 47, 45) := by decide +kernel
theorem c60_47 : fx_op 60 47 = some (.aload_n 0, 48, 47) := by decide +kernel
theorem c60_48 : fx_gf 60 48 = some (6, 6, 51) := by decide +kernel
theorem c60_51 : fx_gf 60 51 = some (3, 3, 54) := by decide +kernel
theorem c60_54 : fx_op 60 54 = some (.if_icmp .lt 11, 57, 65) := by decide +kernel
theorem c60_65 : fx_cj 60 65 = some (1, 66) := by decide +kernel
theorem c60_66 : fx_ci 60 66 = some (4, 67) := by decide +kernel
theorem c60_67 : fx_op 60 67 = some (.iload 4, 69, 67) := by decide +kernel
theorem c60_69 : fx_op 60 69 = some (.imul, 70, 69) := by decide +kernel
theorem c60_70 : fx_op 60 70 = some (.iload 5, 72, 70) := by decide +kernel
theorem c60_72 : fx_op 60 72 = some (.iadd, 73, 72) := by decide +kernel
theorem c60_73 : fx_op 60 73 = some (.lshl, 74, 73) := by decide +kernel
theorem c60_74 : fx_op 60 74 = some (.lstore 6, 76, 74) := by decide +kernel
theorem c60_76 : fx_op 60 76 = some (.iload_n 3, 77, 76) := by decide +kernel
theorem c60_77 : fx_op 60 77 = some (.ifCond .ne 12, 80, 89) := by decide +kernel
theorem c60_89 : fx_op 60 89 = some (.aload_n 0, 90, 89) := by decide +kernel
theorem c60_90 : fx_gf 60 90 = some (6, 5, 93) := by decide +kernel
theorem c60_93 : fx_op 60 93 = some (.iload_n 2, 94, 93) := by decide +kernel
theorem c60_94 : fx_op 60 94 = some (.laload, 95, 94) := by decide +kernel
theorem c60_80 : fx_op 60 80 = some (.aload_n 0, 81, 80) := by decide +kernel
theorem c60_81 : fx_gf 60 81 = some (6, 4, 84) := by decide +kernel
theorem c60_84 : fx_op 60 84 = some (.iload_n 2, 85, 84) := by decide +kernel
theorem c60_85 : fx_op 60 85 = some (.laload, 86, 85) := by decide +kernel
theorem c60_86 : fx_op 60 86 = some (.goto 9, 89, 95) := by decide +kernel
theorem c60_95 : fx_op 60 95 = some (.lload 6, 97, 95) := by decide +kernel
theorem c60_97 : fx_op 60 97 = some (.land, 98, 97) := by decide +kernel
theorem c60_98 : fx_cj 60 98 = some (0, 99) := by decide +kernel
theorem c60_100 : fx_op 60 100 = some (.ifCond .eq 10, 103, 110) := by decide +kernel
theorem c60_103 : fx_op 60 103 = some (.aload_n 0, 104, 103) := by decide +kernel
theorem c60_104 : fx_gf 60 104 = some (6, 1, 107) := by decide +kernel
theorem c60_107 : fx_op 60 107 = some (.iload_n 2, 108, 107) := by decide +kernel
theorem c60_108 : fx_ci 60 108 = some (5, 109) := by decide +kernel
theorem c60_110 : fx_op 60 110 = some (.iload_n 3, 111, 110) := by decide +kernel
theorem c60_111 : fx_op 60 111 = some (.ifCond .ne 17, 114, 128) := by decide +kernel
theorem c60_128 : fx_op 60 128 = some (.aload_n 0, 129, 128) := by decide +kernel
theorem c60_129 : fx_gf 60 129 = some (6, 5, 132) := by decide +kernel
theorem c60_132 : fx_op 60 132 = some (.iload_n 2, 133, 132) := by decide +kernel
theorem c60_133 : fx_op 60 133 = some (.dup2, 134, 133) := by decide +kernel
theorem c60_134 : fx_op 60 134 = some (.laload, 135, 134) := by decide +kernel
theorem c60_135 : fx_op 60 135 = some (.lload 6, 137, 135) := by decide +kernel
theorem c60_137 : fx_op 60 137 = some (.lor, 138, 137) := by decide +kernel
theorem c60_114 : fx_op 60 114 = some (.aload_n 0, 115, 114) := by decide +kernel
theorem c60_115 : fx_gf 60 115 = some (6, 4, 118) := by decide +kernel
theorem c60_118 : fx_op 60 118 = some (.iload_n 2, 119, 118) := by decide +kernel
theorem c60_119 : fx_op 60 119 = some (.dup2, 120, 119) := by decide +kernel
theorem c60_121 : fx_op 60 121 = some (.lload 6, 123, 121) := by decide +kernel
theorem c60_123 : fx_op 60 123 = some (.lor, 124, 123) := by decide +kernel
theorem c60_63 : fx_op 60 63 = some (.iastore, 64, 63) := by decide +kernel
theorem c60_64 : fx_op 60 64 = some (.return_, 65, 64) := by decide +kernel
theorem c60_99 : fx_op 60 99 = some (.lcmp, 100, 99) := by decide +kernel
theorem c60_138 : fx_op 60 138 = some (.lastore, 139, 138) := by decide +kernel
theorem c60_139 : fx_op 60 139 = some (.return_, 140, 139) := by decide +kernel
theorem c60_120 : fx_op 60 120 = some (.laload, 121, 120) := by decide +kernel
theorem c60_124 : fx_op 60 124 = some (.lastore, 125, 124) := by decide +kernel
theorem c60_125 : fx_op 60 125 = some (.goto 14, 128, 139) := by decide +kernel
theorem c60_109 : fx_op 60 109 = some (.iastore, 110, 109) := by decide +kernel
theorem s60_0 {kc : List va_E} {d : Nat} {s : Nat} {x2 : Int} {M : fx_M} {Q : Option fx_V → fx_M → Prop} (Hs : fx_scn s) (H : wc kc d 34 [jR s, jI 32] M (fun v M1 => wp kc (d + 1) 60 6 [some (jR 34), some (jR s), some (jI x2), none, none, none, none, none] (v.toList ++ []) M1 Q)) : wp kc (d + 1) 60 0 [some (jR 34), some (jR s), some (jI x2), none, none, none, none, none] [] M Q :=
  (x_aldn c60_0 rfl (x_ci c60_1 (wp_wk (l' := [some (jR 34), some (jR s), some (jI x2), none, none, none, none, none]) ⟨rfl, ⟨rfl, ⟨rfl, trivial⟩⟩⟩ (x_cv (As := [jI 32]) (st := []) c60_3 (cls Hs) kl34 rfl (Nat.le_of_ble_eq_true rfl) mx34 (Nat.le_refl _) H))))
theorem s60_6 {kc : List va_E} {d : Nat} {s : Nat} {v2 : Int} {M : fx_M} {Q : Option fx_V → fx_M → Prop} (Hs : fx_scn s) (H : wc kc d 20 [jR s, jR 1000027] M (fun v M1 => wp kc (d + 1) 60 12 [some (jR 34), some (jR s), some (jI v2), none, none, none, none, none] (v.toList ++ []) M1 Q)) : wp kc (d + 1) 60 6 [some (jR 34), some (jR s), some (jI v2), none, none, none, none, none] [] M Q :=
  (x_aldn c60_6 rfl (x_cr c60_7 (wp_wk (l' := [some (jR 34), some (jR s), some (jI v2), none, none, none, none, none]) ⟨rfl, ⟨rfl, ⟨rfl, trivial⟩⟩⟩ (x_cv (As := [jR 1000027]) (st := []) c60_9 (cls Hs) kl20 rfl (Nat.le_of_ble_eq_true rfl) mx20 (Nat.le_refl _) H))))
theorem s60_12 {kc : List va_E} {d : Nat} {s : Nat} {v2 u0 : Int} {M : fx_M} {Q : Option fx_V → fx_M → Prop} (Hs : fx_scn s) (H : wc kc d 35 [jR s, jI 3] M (fun v M1 => wp kc (d + 1) 60 18 [some (jR 34), some (jR s), some (jI v2), some (jI u0), none, none, none, none] (v.toList ++ []) M1 Q)) : wp kc (d + 1) 60 12 [some (jR 34), some (jR s), some (jI v2), none, none, none, none, none] [jI u0] M Q :=
  (x_istn (l' := [some (jR 34), some (jR s), some (jI v2), some (jI u0), none, none, none, none]) c60_12 rfl (x_aldn c60_13 rfl (x_ci c60_14 (wp_wk (l' := [some (jR 34), some (jR s), some (jI v2), some (jI u0), none, none, none, none]) ⟨rfl, ⟨rfl, ⟨rfl, ⟨rfl, trivial⟩⟩⟩⟩ (x_cv (As := [jI 3]) (st := []) c60_15 (cls Hs) kl35 rfl (Nat.le_of_ble_eq_true rfl) mx35 (Nat.le_refl _) H)))))
theorem s60_18 {kc : List va_E} {d : Nat} {s : Nat} {v2 v3 u0 : Int} {M : fx_M} {Q : Option fx_V → fx_M → Prop} (Hs : fx_scn s) (H : wc kc d 34 [jR s, jI 46] M (fun v M1 => wp kc (d + 1) 60 26 [some (jR 34), some (jR s), some (jI v2), some (jI v3), some (jI u0), none, none, none] (v.toList ++ []) M1 Q)) : wp kc (d + 1) 60 18 [some (jR 34), some (jR s), some (jI v2), some (jI v3), none, none, none, none] [jI u0] M Q :=
  (x_ist (l' := [some (jR 34), some (jR s), some (jI v2), some (jI v3), some (jI u0), none, none, none]) c60_18 rfl (x_aldn c60_20 rfl (x_ci c60_21 (wp_wk (l' := [some (jR 34), some (jR s), some (jI v2), some (jI v3), some (jI u0), none, none, none]) ⟨rfl, ⟨rfl, ⟨rfl, ⟨rfl, ⟨rfl, trivial⟩⟩⟩⟩⟩ (x_cv (As := [jI 46]) (st := []) c60_23 (cls Hs) kl34 rfl (Nat.le_of_ble_eq_true rfl) mx34 (Nat.le_refl _) H)))))
theorem s60_26 {kc : List va_E} {d : Nat} {s : Nat} {v2 v3 v4 : Int} {M : fx_M} {Q : Option fx_V → fx_M → Prop} (Hs : fx_scn s) (H : wc kc d 35 [jR s, jI 3] M (fun v M1 => wp kc (d + 1) 60 31 [some (jR 34), none, some (jI v2), some (jI v3), some (jI v4), none, none, none] (v.toList ++ []) M1 Q)) : wp kc (d + 1) 60 26 [some (jR 34), some (jR s), some (jI v2), some (jI v3), some (jI v4), none, none, none] [] M Q :=
  (x_aldn c60_26 rfl (x_ci c60_27 (wp_wk (l' := [some (jR 34), none, some (jI v2), some (jI v3), some (jI v4), none, none, none]) ⟨rfl, ⟨rfl, ⟨rfl, ⟨rfl, trivial⟩⟩⟩⟩ (x_cv (As := [jI 3]) (st := []) c60_28 (cls Hs) kl35 rfl (Nat.le_of_ble_eq_true rfl) mx35 (Nat.le_refl _) H))))
theorem s60_31 {kc : List va_E} {d : Nat} {s : Nat} {v2 v3 v4 u0 : Int} {M : fx_M} {Q : Option fx_V → fx_M → Prop} (Hs : fx_scn s) (H : ((fx_in32 v4) ∧ (fx_in32 (M 11 2))) ∧ (M 11 2 ≤ v4 → (((0 : Int) ≤ v2 ∧ v2 < 1600)) ∧ Q none (fx_up M 35 v2 5)) ∧ (v4 < M 11 2 → ((fx_in32 u0) ∧ (fx_in32 (M 11 3))) ∧ (u0 < M 11 3 → ((fx_in32 v3)) ∧ (v3 ≠ 0 → ((((0 : Int) ≤ v2 ∧ v2 < 1600)))) ∧ (v3 = 0 → ((((0 : Int) ≤ v2 ∧ v2 < 1600)))) ∧ ((fx_in64 (fx_land (if v3 = 0 then (M 38 v2 : Int) else M 39 v2) (fx_lshl 1 ((4 * v4) + u0))))) ∧ (fx_cmp (fx_land (if v3 = 0 then (M 38 v2 : Int) else M 39 v2) (fx_lshl 1 ((4 * v4) + u0))) 0 = 0 → ((fx_in32 v3)) ∧ (v3 ≠ 0 → (((0 : Int) ≤ v2 ∧ v2 < 1600)) ∧ (((0 : Int) ≤ v2 ∧ v2 < 1600)) ∧ Q none (fx_up M 39 v2 (fx_lor (M 39 v2) (fx_lshl 1 ((4 * v4) + u0))))) ∧ (v3 = 0 → (((0 : Int) ≤ v2 ∧ v2 < 1600)) ∧ (((0 : Int) ≤ v2 ∧ v2 < 1600)) ∧ Q none (fx_up M 38 v2 (fx_lor (M 38 v2) (fx_lshl 1 ((4 * v4) + u0)))))) ∧ (fx_cmp (fx_land (if v3 = 0 then (M 38 v2 : Int) else M 39 v2) (fx_lshl 1 ((4 * v4) + u0))) 0 ≠ 0 → (((0 : Int) ≤ v2 ∧ v2 < 1600)) ∧ ((fx_in32 v3)) ∧ (v3 ≠ 0 → (((0 : Int) ≤ v2 ∧ v2 < 1600)) ∧ (((0 : Int) ≤ v2 ∧ v2 < 1600)) ∧ Q none (fx_up (fx_up M 35 v2 5) 39 v2 (fx_lor (M 39 v2) (fx_lshl 1 ((4 * v4) + u0))))) ∧ (v3 = 0 → (((0 : Int) ≤ v2 ∧ v2 < 1600)) ∧ (((0 : Int) ≤ v2 ∧ v2 < 1600)) ∧ Q none (fx_up (fx_up M 35 v2 5) 38 v2 (fx_lor (M 38 v2) (fx_lshl 1 ((4 * v4) + u0))))))) ∧ (M 11 3 ≤ u0 → (((0 : Int) ≤ v2 ∧ v2 < 1600)) ∧ Q none (fx_up M 35 v2 5)))) : wp kc (d + 1) 60 31 [some (jR 34), none, some (jI v2), some (jI v3), some (jI v4), none, none, none] [jI u0] M Q :=
  (x_ist (l' := [some (jR 34), none, some (jI v2), some (jI v3), some (jI v4), some (jI u0), none, none]) c60_31 rfl (x_ild c60_33 rfl (x_aldn c60_35 rfl (x_gfr c60_36 k_34_6 (x_gfi c60_39 k_11_2 (x_cge c60_42 H.1.1 H.1.2 (fun h9 => (x_aldn c60_57 rfl (x_gfr c60_58 k_34_1 (x_ildn c60_61 rfl (x_ci c60_62 (x_iast c60_63 a_35 (H.2.1 h9).1 (by decide) (x_vr c60_64 r60 (H.2.1 h9).2))))))) (fun h10 => (x_ild c60_45 rfl (x_aldn c60_47 rfl (x_gfr c60_48 k_34_6 (x_gfi c60_51 k_11_3 (x_clt c60_54 (H.2.2 h10).1.1 (H.2.2 h10).1.2 (fun h7 => (x_cj c60_65 (x_ci c60_66 (x_ild c60_67 rfl (x_imul c60_69 (x_ild c60_70 rfl (x_iadd c60_72 (x_lshl c60_73 (x_lst (l' := [some (jR 34), none, some (jI v2), some (jI v3), some (jI v4), some (jI u0), some (jL (fx_lshl 1 ((4 * v4) + u0))), none]) c60_74 rfl (x_ildn c60_76 rfl (have K : wp kc (d + 1) 60 95 [some (jR 34), none, some (jI v2), some (jI v3), none, none, some (jL (fx_lshl 1 ((4 * v4) + u0))), none] [jL (if v3 = 0 then (M 38 v2 : Int) else M 39 v2)] M Q := (x_lld c60_95 rfl (x_land c60_97 (x_cj c60_98 (x_lcmp c60_99 ((H.2.2 h10).2.1 h7).2.2.2.1 (by decide) (x_zeq c60_100 (fx_cmp_in _ _) (fun h5 => (x_ildn c60_110 rfl (x_zne c60_111 (((H.2.2 h10).2.1 h7).2.2.2.2.1 h5).1 (fun h1 => (x_aldn c60_128 rfl (x_gfr c60_129 k_34_5 (x_ildn c60_132 rfl (x_dup2 c60_133 (x_lald c60_134 a_39 ((((H.2.2 h10).2.1 h7).2.2.2.2.1 h5).2.1 h1).1 (by decide) (x_lld c60_135 rfl (x_lor c60_137 (x_last c60_138 a_39 ((((H.2.2 h10).2.1 h7).2.2.2.2.1 h5).2.1 h1).2.1 (by decide) (x_vr c60_139 r60 ((((H.2.2 h10).2.1 h7).2.2.2.2.1 h5).2.1 h1).2.2)))))))))) (fun h2 => (x_aldn c60_114 rfl (x_gfr c60_115 k_34_4 (x_ildn c60_118 rfl (x_dup2 c60_119 (x_lald c60_120 a_38 ((((H.2.2 h10).2.1 h7).2.2.2.2.1 h5).2.2 h2).1 (by decide) (x_lld c60_121 rfl (x_lor c60_123 (x_last c60_124 a_38 ((((H.2.2 h10).2.1 h7).2.2.2.2.1 h5).2.2 h2).2.1 (by decide) (x_goto c60_125 (x_vr c60_139 r60 ((((H.2.2 h10).2.1 h7).2.2.2.2.1 h5).2.2 h2).2.2)))))))))))))) (fun h6 => (x_aldn c60_103 rfl (x_gfr c60_104 k_34_1 (x_ildn c60_107 rfl (x_ci c60_108 (x_iast c60_109 a_35 (((H.2.2 h10).2.1 h7).2.2.2.2.2 h6).1 (by decide) (x_ildn c60_110 rfl (x_zne c60_111 (((H.2.2 h10).2.1 h7).2.2.2.2.2 h6).2.1 (fun h3 => (x_aldn c60_128 rfl (x_gfr c60_129 k_34_5 (x_ildn c60_132 rfl (x_dup2 c60_133 (x_lald c60_134 a_39 ((((H.2.2 h10).2.1 h7).2.2.2.2.2 h6).2.2.1 h3).1 (by decide) (wp_vL (fx_upA (by decide)) (x_lld c60_135 rfl (x_lor c60_137 (x_last c60_138 a_39 ((((H.2.2 h10).2.1 h7).2.2.2.2.2 h6).2.2.1 h3).2.1 (by decide) (x_vr c60_139 r60 ((((H.2.2 h10).2.1 h7).2.2.2.2.2 h6).2.2.1 h3).2.2))))))))))) (fun h4 => (x_aldn c60_114 rfl (x_gfr c60_115 k_34_4 (x_ildn c60_118 rfl (x_dup2 c60_119 (x_lald c60_120 a_38 ((((H.2.2 h10).2.1 h7).2.2.2.2.2 h6).2.2.2 h4).1 (by decide) (wp_vL (fx_upA (by decide)) (x_lld c60_121 rfl (x_lor c60_123 (x_last c60_124 a_38 ((((H.2.2 h10).2.1 h7).2.2.2.2.2 h6).2.2.2 h4).2.1 (by decide) (x_goto c60_125 (x_vr c60_139 r60 ((((H.2.2 h10).2.1 h7).2.2.2.2.2 h6).2.2.2 h4).2.2))))))))))))))))))))))))); (x_zne c60_77 ((H.2.2 h10).2.1 h7).1 (fun (h11 : v3 ≠ 0) => (x_aldn c60_89 rfl (x_gfr c60_90 k_34_5 (x_ildn c60_93 rfl (x_lald c60_94 a_39 (((H.2.2 h10).2.1 h7).2.1 h11) (by decide) (wp_wk (l' := [some (jR 34), none, some (jI v2), some (jI v3), none, none, some (jL (fx_lshl 1 ((4 * v4) + u0))), none]) ⟨rfl, ⟨rfl, ⟨rfl, ⟨rfl, trivial⟩⟩⟩⟩ (by have K := K; first | (simp only [if_neg h11] at K ⊢; exact K) | (exfalso; omega)))))))) (fun (h12 : v3 = 0) => (x_aldn c60_80 rfl (x_gfr c60_81 k_34_4 (x_ildn c60_84 rfl (x_lald c60_85 a_38 (((H.2.2 h10).2.1 h7).2.2.1 h12) (by decide) (x_goto c60_86 (wp_wk (l' := [some (jR 34), none, some (jI v2), some (jI v3), none, none, some (jL (fx_lshl 1 ((4 * v4) + u0))), none]) ⟨rfl, ⟨rfl, ⟨rfl, ⟨rfl, trivial⟩⟩⟩⟩ (by have K := K; first | (simp only [if_pos h12] at K ⊢; exact K) | (exfalso; omega))))))))))))))))))))) (fun h8 => (x_aldn c60_57 rfl (x_gfr c60_58 k_34_1 (x_ildn c60_61 rfl (x_ci c60_62 (x_iast c60_63 a_35 ((H.2.2 h10).2.2 h8).1 (by decide) (x_vr c60_64 r60 ((H.2.2 h10).2.2 h8).2)))))))))))))))))))
theorem s60 {kc : List va_E} {d : Nat} {s : Nat} {x2 : Int} {M : fx_M} {Q : Option fx_V → fx_M → Prop} (Hs : fx_scn s) (H : wc kc d 34 [jR s, jI 32] M (fun v M1 => wp kc (d + 1) 60 6 [some (jR 34), some (jR s), some (jI x2), none, none, none, none, none] (v.toList ++ []) M1 Q)) : wc kc (d + 1) 60 [jR 34, jR s, jI x2] M Q :=
  wc_of (wp_wk (l' := [some (jR 34), some (jR s), some (jI x2), none, none, none, none, none]) ⟨rfl, ⟨rfl, ⟨rfl, trivial⟩⟩⟩ (s60_0 Hs H))

/- PuzzleHouse$Checker.verdict()V -/
theorem c120_0 : fx_op 120 0 = some (.aload_n 0, 1, 0) := by decide +kernel
theorem c120_1 : fx_op 120 1 = some (.aload_n 0, 2, 1) := by decide +kernel
theorem c120_2 : fx_gf 120 2 = some (6, 6, 5) := by decide +kernel
theorem c120_5 : fx_ca 120 5 = some (82, 1, 2, 8) := by decide +kernel
theorem c120_8 : fx_pf 120 8 = some (6, 8, 1, 11) := by decide +kernel
theorem c120_11 : fx_ci 120 11 = some (0, 12) := by decide +kernel
theorem c120_12 : fx_op 120 12 = some (.istore_n 1, 13, 12) := by decide +kernel
theorem c120_13 : fx_op 120 13 = some (.iload_n 1, 14, 13) := by decide +kernel
theorem c120_14 : fx_op 120 14 = some (.aload_n 0, 15, 14) := by decide +kernel
theorem c120_15 : fx_gf 120 15 = some (6, 0, 18) := by decide +kernel
theorem c120_18 : fx_op 120 18 = some (.if_icmp .ge 35, 21, 53) := by decide +kernel
theorem c120_53 : fx_op 120 53 = some (.aload_n 0, 54, 53) := by decide +kernel
theorem c120_54 : fx_gf 120 54 = some (6, 0, 57) := by decide +kernel
theorem c120_57 : fx_ci 120 57 = some (1, 58) := by decide +kernel
theorem c120_58 : fx_op 120 58 = some (.isub, 59, 58) := by decide +kernel
theorem c120_59 : fx_ci 120 59 = some (0, 60) := by decide +kernel
theorem c120_63 : fx_op 120 63 = some (.istore_n 1, 64, 63) := by decide +kernel
theorem c120_64 : fx_op 120 64 = some (.aload_n 0, 65, 64) := by decide +kernel
theorem c120_65 : fx_gf 120 65 = some (6, 1, 68) := by decide +kernel
theorem c120_68 : fx_op 120 68 = some (.iload_n 1, 69, 68) := by decide +kernel
theorem c120_70 : fx_ci 120 70 = some (3, 71) := by decide +kernel
theorem c120_71 : fx_op 120 71 = some (.if_icmp .ne 21, 74, 92) := by decide +kernel
theorem c120_92 : fx_op 120 92 = some (.aload_n 0, 93, 92) := by decide +kernel
theorem c120_93 : fx_gf 120 93 = some (6, 7, 96) := by decide +kernel
theorem c120_96 : fx_cr 120 96 = some (1000089, 98) := by decide +kernel
theorem c120_74 : fx_op 120 74 = some (.aload_n 0, 75, 74) := by decide +kernel
theorem c120_75 : fx_gf 120 75 = some (6, 4, 78) := by decide +kernel
theorem c120_78 : fx_op 120 78 = some (.iload_n 1, 79, 78) := by decide +kernel
theorem c120_80 : fx_op 120 80 = some (.aload_n 0, 81, 80) := by decide +kernel
theorem c120_81 : fx_gf 120 81 = some (6, 5, 84) := by decide +kernel
theorem c120_84 : fx_op 120 84 = some (.iload_n 1, 85, 84) := by decide +kernel
theorem c120_86 : fx_op 120 86 = some (.lor, 87, 86) := by decide +kernel
theorem c120_87 : fx_cj 120 87 = some (0, 88) := by decide +kernel
theorem c120_89 : fx_op 120 89 = some (.ifCond .eq 13, 92, 102) := by decide +kernel
theorem c120_102 : fx_op 120 102 = some (.aload_n 0, 103, 102) := by decide +kernel
theorem c120_103 : fx_gf 120 103 = some (6, 7, 106) := by decide +kernel
theorem c120_106 : fx_cr 120 106 = some (1000091, 108) := by decide +kernel
theorem c120_21 : fx_op 120 21 = some (.aload_n 0, 22, 21) := by decide +kernel
theorem c120_22 : fx_op 120 22 = some (.iload_n 1, 23, 22) := by decide +kernel
theorem c120_60 : fx_nt 120 60 = some (1, 63) := by decide +kernel
theorem c120_69 : fx_op 120 69 = some (.iaload, 70, 69) := by decide +kernel
theorem c120_98 : fx_ca 120 98 = some (64, 2, 2, 101) := by decide +kernel
theorem c120_79 : fx_op 120 79 = some (.laload, 80, 79) := by decide +kernel
theorem c120_85 : fx_op 120 85 = some (.laload, 86, 85) := by decide +kernel
theorem c120_88 : fx_op 120 88 = some (.lcmp, 89, 88) := by decide +kernel
theorem c120_108 : fx_ca 120 108 = some (64, 2, 2, 111) := by decide +kernel
theorem c120_23 : fx_ca 120 23 = some (121, 2, 2, 26) := by decide +kernel
theorem c120_101 : fx_op 120 101 = some (.return_, 102, 101) := by decide +kernel
theorem c120_111 : fx_op 120 111 = some (.aload_n 0, 112, 111) := by decide +kernel
theorem c120_112 : fx_gf 120 112 = some (6, 7, 115) := by decide +kernel
theorem c120_115 : fx_op 120 115 = some (.aload_n 0, 116, 115) := by decide +kernel
theorem c120_116 : fx_ca 120 116 = some (132, 1, 2, 119) := by decide +kernel
theorem c120_26 : fx_op 120 26 = some (.ifCond .ne 21, 29, 47) := by decide +kernel
theorem c120_47 : fx_op 120 47 = some (.iinc 1 1, 50, 47) := by decide +kernel
theorem c120_29 : fx_op 120 29 = some (.aload_n 0, 30, 29) := by decide +kernel
theorem c120_30 : fx_gf 120 30 = some (6, 7, 33) := by decide +kernel
theorem c120_33 : fx_cr 120 33 = some (1000087, 35) := by decide +kernel
theorem c120_50 : fx_op 120 50 = some (.goto (-37), 53, 13) := by decide +kernel
theorem c120_35 : fx_ca 120 35 = some (64, 2, 2, 38) := by decide +kernel
theorem c120_119 : fx_ca 120 119 = some (65, 2, 2, 122) := by decide +kernel
theorem c120_38 : fx_op 120 38 = some (.aload_n 0, 39, 38) := by decide +kernel
theorem c120_39 : fx_gf 120 39 = some (6, 7, 42) := by decide +kernel
theorem c120_42 : fx_op 120 42 = some (.iload_n 1, 43, 42) := by decide +kernel
theorem c120_43 : fx_ca 120 43 = some (65, 2, 2, 46) := by decide +kernel
theorem c120_122 : fx_op 120 122 = some (.return_, 123, 122) := by decide +kernel
theorem c120_46 : fx_op 120 46 = some (.return_, 47, 46) := by decide +kernel
theorem n120_60 : xS 120 ((xI 120 60).getD .nop) = none := by decide +kernel
theorem s120_0 {kc : List va_E} {d : Nat} {M : fx_M} {Q : Option fx_V → fx_M → Prop} (H : wc kc d 82 [jR 11] M (fun v M1 => wp kc (d + 1) 120 8 [some (jR 34), none] (v.toList ++ [jR 34]) M1 Q)) : wp kc (d + 1) 120 0 [some (jR 34), none] [] M Q :=
  (x_aldn c120_0 rfl (x_aldn c120_1 rfl (x_gfr c120_2 k_34_6 (wp_wk (l' := [some (jR 34), none]) ⟨rfl, trivial⟩ (x_cv (As := []) (st := [jR 34]) c120_5 cl_11 kl82 rfl (Nat.le_of_ble_eq_true rfl) mx82 (Nat.le_refl _) H)))))
theorem s120_8 {kc : List va_E} {d : Nat} {u0 : Int} {M : fx_M} {Q : Option fx_V → fx_M → Prop} (H : wp kc (d + 1) 120 13 [some (jR 34), some (jI 0)] [] (fx_up M 34 8 u0) Q) : wp kc (d + 1) 120 8 [some (jR 34), none] [jL u0, jR 34] M Q :=
  (x_pfl c120_8 k_34_8 (x_ci c120_11 (x_istn (l' := [some (jR 34), some (jI 0)]) c120_12 rfl (wp_wk (l' := [some (jR 34), some (jI 0)]) ⟨rfl, ⟨rfl, trivial⟩⟩ H))))
theorem s120_13 {kc : List va_E} {d : Nat} {v1 : Int} {M : fx_M} {Q : Option fx_V → fx_M → Prop} (H : ((fx_in32 v1) ∧ (fx_in32 (M 34 0))) ∧ (M 34 0 ≤ v1 → ((fx_in32 ((M 34 0) - 1))) ∧ (((0 : Int) ≤ (if (M 34 0) - 1 < 0 then (0 : Int) else (M 34 0) - 1) ∧ (if (M 34 0) - 1 < 0 then (0 : Int) else (M 34 0) - 1) < 1600)) ∧ ((fx_in32 (M 35 (if (M 34 0) - 1 < 0 then (0 : Int) else (M 34 0) - 1)))) ∧ (M 35 (if (M 34 0) - 1 < 0 then (0 : Int) else (M 34 0) - 1) ≠ 3 → wc kc d 64 [jR 3, jR 1000089] M (fun v M1 => wp kc (d + 1) 120 101 [none, none] (v.toList ++ []) M1 Q)) ∧ (M 35 (if (M 34 0) - 1 < 0 then (0 : Int) else (M 34 0) - 1) = 3 → (((0 : Int) ≤ (if (M 34 0) - 1 < 0 then (0 : Int) else (M 34 0) - 1) ∧ (if (M 34 0) - 1 < 0 then (0 : Int) else (M 34 0) - 1) < 1600)) ∧ (((0 : Int) ≤ (if (M 34 0) - 1 < 0 then (0 : Int) else (M 34 0) - 1) ∧ (if (M 34 0) - 1 < 0 then (0 : Int) else (M 34 0) - 1) < 1600)) ∧ ((fx_in64 (fx_lor (M 38 (if (M 34 0) - 1 < 0 then (0 : Int) else (M 34 0) - 1)) (M 39 (if (M 34 0) - 1 < 0 then (0 : Int) else (M 34 0) - 1))))) ∧ (fx_cmp (fx_lor (M 38 (if (M 34 0) - 1 < 0 then (0 : Int) else (M 34 0) - 1)) (M 39 (if (M 34 0) - 1 < 0 then (0 : Int) else (M 34 0) - 1))) 0 = 0 → wc kc d 64 [jR 3, jR 1000091] M (fun v M1 => wp kc (d + 1) 120 111 [some (jR 34), none] (v.toList ++ []) M1 Q)) ∧ (fx_cmp (fx_lor (M 38 (if (M 34 0) - 1 < 0 then (0 : Int) else (M 34 0) - 1)) (M 39 (if (M 34 0) - 1 < 0 then (0 : Int) else (M 34 0) - 1))) 0 ≠ 0 → wc kc d 64 [jR 3, jR 1000089] M (fun v M1 => wp kc (d + 1) 120 101 [none, none] (v.toList ++ []) M1 Q)))) ∧ (v1 < M 34 0 → wc kc d 121 [jR 34, jI v1] M (fun v M1 => wp kc (d + 1) 120 26 [some (jR 34), some (jI v1)] (v.toList ++ []) M1 Q))) : wp kc (d + 1) 120 13 [some (jR 34), some (jI v1)] [] M Q :=
  (x_ildn c120_13 rfl (x_aldn c120_14 rfl (x_gfi c120_15 k_34_0 (x_cge c120_18 H.1.1 H.1.2 (fun h5 => (x_aldn c120_53 rfl (x_gfi c120_54 k_34_0 (x_ci c120_57 (x_isub c120_58 (x_ci c120_59 (x_max c120_60 n120_60 (H.2.1 h5).1 (by decide) (Nat.le_of_ble_eq_true rfl) (x_istn (l' := [some (jR 34), some (jI (if (M 34 0) - 1 < 0 then (0 : Int) else (M 34 0) - 1))]) c120_63 rfl (x_aldn c120_64 rfl (x_gfr c120_65 k_34_1 (x_ildn c120_68 rfl (x_iald c120_69 a_35 (H.2.1 h5).2.1 (by decide) (x_ci c120_70 (x_cne c120_71 (H.2.1 h5).2.2.1 (by decide) (fun h3 => (x_aldn c120_92 rfl (x_gfr c120_93 k_34_7 (x_cr c120_96 (wp_wk (l' := [none, none]) trivial (x_cv (As := [jR 1000089]) (st := []) c120_98 cl_3 kl64 rfl (Nat.le_of_ble_eq_true rfl) mx64 (Nat.le_refl _) ((H.2.1 h5).2.2.2.1 h3))))))) (fun h4 => (x_aldn c120_74 rfl (x_gfr c120_75 k_34_4 (x_ildn c120_78 rfl (x_lald c120_79 a_38 ((H.2.1 h5).2.2.2.2 h4).1 (by decide) (x_aldn c120_80 rfl (x_gfr c120_81 k_34_5 (x_ildn c120_84 rfl (x_lald c120_85 a_39 ((H.2.1 h5).2.2.2.2 h4).2.1 (by decide) (x_lor c120_86 (x_cj c120_87 (x_lcmp c120_88 ((H.2.1 h5).2.2.2.2 h4).2.2.1 (by decide) (x_zeq c120_89 (fx_cmp_in _ _) (fun h1 => (x_aldn c120_102 rfl (x_gfr c120_103 k_34_7 (x_cr c120_106 (wp_wk (l' := [some (jR 34), none]) ⟨rfl, trivial⟩ (x_cv (As := [jR 1000091]) (st := []) c120_108 cl_3 kl64 rfl (Nat.le_of_ble_eq_true rfl) mx64 (Nat.le_refl _) (((H.2.1 h5).2.2.2.2 h4).2.2.2.1 h1))))))) (fun h2 => (x_aldn c120_92 rfl (x_gfr c120_93 k_34_7 (x_cr c120_96 (wp_wk (l' := [none, none]) trivial (x_cv (As := [jR 1000089]) (st := []) c120_98 cl_3 kl64 rfl (Nat.le_of_ble_eq_true rfl) mx64 (Nat.le_refl _) (((H.2.1 h5).2.2.2.2 h4).2.2.2.2 h2)))))))))))))))))))))))))))))))))) (fun h6 => (x_aldn c120_21 rfl (x_ildn c120_22 rfl (wp_wk (l' := [some (jR 34), some (jI v1)]) ⟨rfl, ⟨rfl, trivial⟩⟩ (x_cv (As := [jI v1]) (st := []) c120_23 cl_34 kl121 rfl (Nat.le_of_ble_eq_true rfl) mx121 (Nat.le_refl _) (H.2.2 h6))))))))))
theorem s120_26 {kc : List va_E} {d : Nat} {v1 u0 : Int} {M : fx_M} {Q : Option fx_V → fx_M → Prop} (H : ((fx_in32 u0)) ∧ (u0 ≠ 0 → wp kc (d + 1) 120 13 [some (jR 34), some (jI (v1 + 1))] [] M Q) ∧ (u0 = 0 → wc kc d 64 [jR 3, jR 1000087] M (fun v M1 => wp kc (d + 1) 120 38 [some (jR 34), some (jI v1)] (v.toList ++ []) M1 Q))) : wp kc (d + 1) 120 26 [some (jR 34), some (jI v1)] [jI u0] M Q :=
  (x_zne c120_26 H.1 (fun h1 => (x_inc (l' := [some (jR 34), some (jI (v1 + 1))]) c120_47 rfl rfl (x_goto c120_50 (wp_wk (l' := [some (jR 34), some (jI (v1 + 1))]) ⟨rfl, ⟨rfl, trivial⟩⟩ (H.2.1 h1))))) (fun h2 => (x_aldn c120_29 rfl (x_gfr c120_30 k_34_7 (x_cr c120_33 (wp_wk (l' := [some (jR 34), some (jI v1)]) ⟨rfl, ⟨rfl, trivial⟩⟩ (x_cv (As := [jR 1000087]) (st := []) c120_35 cl_3 kl64 rfl (Nat.le_of_ble_eq_true rfl) mx64 (Nat.le_refl _) (H.2.2 h2))))))))
theorem s120_38 {kc : List va_E} {d : Nat} {v1 : Int} {M : fx_M} {Q : Option fx_V → fx_M → Prop} (H : wc kc d 65 [jR 3, jI v1] M (fun v M1 => wp kc (d + 1) 120 46 [none, none] (v.toList ++ []) M1 Q)) : wp kc (d + 1) 120 38 [some (jR 34), some (jI v1)] [] M Q :=
  (x_aldn c120_38 rfl (x_gfr c120_39 k_34_7 (x_ildn c120_42 rfl (wp_wk (l' := [none, none]) trivial (x_cv (As := [jI v1]) (st := []) c120_43 cl_3 kl65 rfl (Nat.le_of_ble_eq_true rfl) mx65 (Nat.le_refl _) H)))))
theorem s120_46 {kc : List va_E} {d : Nat} {M : fx_M} {Q : Option fx_V → fx_M → Prop} (H : Q none M) : wp kc (d + 1) 120 46 [none, none] [] M Q :=
  (x_vr c120_46 r120 H)
theorem s120_101 {kc : List va_E} {d : Nat} {M : fx_M} {Q : Option fx_V → fx_M → Prop} (H : Q none M) : wp kc (d + 1) 120 101 [none, none] [] M Q :=
  (x_vr c120_101 r120 H)
theorem s120_111 {kc : List va_E} {d : Nat} {M : fx_M} {Q : Option fx_V → fx_M → Prop} (H : wc kc d 132 [jR 34] M (fun v M1 => wp kc (d + 1) 120 119 [none, none] (v.toList ++ [jR 3]) M1 Q)) : wp kc (d + 1) 120 111 [some (jR 34), none] [] M Q :=
  (x_aldn c120_111 rfl (x_gfr c120_112 k_34_7 (x_aldn c120_115 rfl (wp_wk (l' := [none, none]) trivial (x_cv (As := []) (st := [jR 3]) c120_116 cl_34 kl132 rfl (Nat.le_of_ble_eq_true rfl) mx132 (Nat.le_refl _) H)))))
theorem s120_119 {kc : List va_E} {d : Nat} {u0 : Int} {M : fx_M} {Q : Option fx_V → fx_M → Prop} (H : wc kc d 65 [jR 3, jI u0] M (fun v M1 => wp kc (d + 1) 120 122 [none, none] (v.toList ++ []) M1 Q)) : wp kc (d + 1) 120 119 [none, none] [jI u0, jR 3] M Q :=
  (wp_wk (l' := [none, none]) trivial (x_cv (As := [jI u0]) (st := []) c120_119 cl_3 kl65 rfl (Nat.le_of_ble_eq_true rfl) mx65 (Nat.le_refl _) H))
theorem s120_122 {kc : List va_E} {d : Nat} {M : fx_M} {Q : Option fx_V → fx_M → Prop} (H : Q none M) : wp kc (d + 1) 120 122 [none, none] [] M Q :=
  (x_vr c120_122 r120 H)
theorem s120 {kc : List va_E} {d : Nat} {M : fx_M} {Q : Option fx_V → fx_M → Prop} (H : wc kc d 82 [jR 11] M (fun v M1 => wp kc (d + 1) 120 8 [some (jR 34), none] (v.toList ++ [jR 34]) M1 Q)) : wc kc (d + 1) 120 [jR 34] M Q :=
  wc_of (wp_wk (l' := [some (jR 34), none]) ⟨rfl, trivial⟩ (s120_0 H))

/- PuzzleHouse$Checker.isRight(I)Z -/
theorem c121_0 : fx_op 121 0 = some (.aload_n 0, 1, 0) := by decide +kernel
theorem c121_1 : fx_gf 121 1 = some (6, 1, 4) := by decide +kernel
theorem c121_4 : fx_op 121 4 = some (.iload_n 1, 5, 4) := by decide +kernel
theorem c121_40 : fx_op 121 40 = some (.aload_n 0, 41, 40) := by decide +kernel
theorem c121_41 : fx_op 121 41 = some (.iload_n 1, 42, 41) := by decide +kernel
theorem c121_46 : fx_op 121 46 = some (.aload_n 0, 47, 46) := by decide +kernel
theorem c121_47 : fx_gf 121 47 = some (6, 2, 50) := by decide +kernel
theorem c121_50 : fx_op 121 50 = some (.iload_n 1, 51, 50) := by decide +kernel
theorem c121_52 : fx_op 121 52 = some (.aload_n 0, 53, 52) := by decide +kernel
theorem c121_53 : fx_gf 121 53 = some (6, 6, 56) := by decide +kernel
theorem c121_56 : fx_gf 121 56 = some (3, 4, 59) := by decide +kernel
theorem c121_59 : fx_op 121 59 = some (.if_icmp .ge 28, 62, 87) := by decide +kernel
theorem c121_87 : fx_ci 121 87 = some (0, 88) := by decide +kernel
theorem c121_62 : fx_op 121 62 = some (.aload_n 0, 63, 62) := by decide +kernel
theorem c121_63 : fx_gf 121 63 = some (6, 6, 66) := by decide +kernel
theorem c121_66 : fx_op 121 66 = some (.aload_n 0, 67, 66) := by decide +kernel
theorem c121_67 : fx_gf 121 67 = some (6, 2, 70) := by decide +kernel
theorem c121_70 : fx_op 121 70 = some (.iload_n 1, 71, 70) := by decide +kernel
theorem c121_71 : fx_op 121 71 = some (.iaload, 72, 71) := by decide +kernel
theorem c121_72 : fx_op 121 72 = some (.aload_n 0, 73, 72) := by decide +kernel
theorem c121_73 : fx_op 121 73 = some (.iload_n 1, 74, 73) := by decide +kernel
theorem c121_89 : fx_op 121 89 = some (.aload_n 0, 90, 89) := by decide +kernel
theorem c121_90 : fx_op 121 90 = some (.iload_n 1, 91, 90) := by decide +kernel
theorem c121_95 : fx_op 121 95 = some (.aload_n 0, 96, 95) := by decide +kernel
theorem c121_96 : fx_op 121 96 = some (.iload_n 1, 97, 96) := by decide +kernel
theorem c121_101 : fx_op 121 101 = some (.aload_n 0, 102, 101) := by decide +kernel
theorem c121_102 : fx_op 121 102 = some (.iload_n 1, 103, 102) := by decide +kernel
theorem c121_107 : fx_ci 121 107 = some (0, 108) := by decide +kernel
theorem c121_5 : fx_op 121 5 = some (.iaload, 6, 5) := by decide +kernel
theorem c121_42 : fx_ca 121 42 = some (122, 2, 2, 45) := by decide +kernel
theorem c121_51 : fx_op 121 51 = some (.iaload, 52, 51) := by decide +kernel
theorem c121_88 : fx_op 121 88 = some (.ireturn, 89, 88) := by decide +kernel
theorem c121_74 : fx_ca 121 74 = some (123, 2, 2, 77) := by decide +kernel
theorem c121_91 : fx_ca 121 91 = some (124, 2, 2, 94) := by decide +kernel
theorem c121_97 : fx_ca 121 97 = some (126, 2, 2, 100) := by decide +kernel
theorem c121_103 : fx_ca 121 103 = some (130, 2, 2, 106) := by decide +kernel
theorem c121_6 : fx_ts 121 6 = some (0, [40, 46, 89, 95, 101], 107) := by decide +kernel
theorem c121_108 : fx_op 121 108 = some (.ireturn, 109, 108) := by decide +kernel
theorem c121_45 : fx_op 121 45 = some (.ireturn, 46, 45) := by decide +kernel
theorem c121_77 : fx_ca 121 77 = some (111, 3, 2, 80) := by decide +kernel
theorem c121_94 : fx_op 121 94 = some (.ireturn, 95, 94) := by decide +kernel
theorem c121_100 : fx_op 121 100 = some (.ireturn, 101, 100) := by decide +kernel
theorem c121_106 : fx_op 121 106 = some (.ireturn, 107, 106) := by decide +kernel
theorem c121_80 : fx_op 121 80 = some (.ifCond .ne 7, 83, 87) := by decide +kernel
theorem c121_83 : fx_ci 121 83 = some (1, 84) := by decide +kernel
theorem c121_84 : fx_op 121 84 = some (.goto 4, 87, 88) := by decide +kernel
theorem s121_0 {kc : List va_E} {d : Nat} {x1 : Int} {M : fx_M} {Q : Option fx_V → fx_M → Prop} (H : (((0 : Int) ≤ x1 ∧ x1 < 1600)) ∧ (fx_in32 (M 35 x1) ∧ (M 35 x1 = 0 → wc kc d 122 [jR 34, jI x1] M (fun v M1 => wp kc (d + 1) 121 45 [none, none] (v.toList ++ []) M1 Q)) ∧ (M 35 x1 = 1 → (((0 : Int) ≤ x1 ∧ x1 < 1600)) ∧ ((fx_in32 (M 36 x1)) ∧ (fx_in32 (M 11 4))) ∧ (M 11 4 ≤ M 36 x1 → Q (some (jI 0)) M) ∧ (M 36 x1 < M 11 4 → (((0 : Int) ≤ x1 ∧ x1 < 1600)) ∧ wc kc d 123 [jR 34, jI x1] M (fun v M1 => wp kc (d + 1) 121 77 [none, none] (v.toList ++ [jI (M 36 x1), jR 11]) M1 Q))) ∧ (M 35 x1 = 2 → wc kc d 124 [jR 34, jI x1] M (fun v M1 => wp kc (d + 1) 121 94 [none, none] (v.toList ++ []) M1 Q)) ∧ (M 35 x1 = 3 → wc kc d 126 [jR 34, jI x1] M (fun v M1 => wp kc (d + 1) 121 100 [none, none] (v.toList ++ []) M1 Q)) ∧ (M 35 x1 = 4 → wc kc d 130 [jR 34, jI x1] M (fun v M1 => wp kc (d + 1) 121 106 [none, none] (v.toList ++ []) M1 Q)) ∧ ((M 35 x1 < 0 ∨ 5 ≤ M 35 x1) → Q (some (jI 0)) M))) : wp kc (d + 1) 121 0 [some (jR 34), some (jI x1)] [] M Q :=
  (x_aldn c121_0 rfl (x_gfr c121_1 k_34_1 (x_ildn c121_4 rfl (x_iald c121_5 a_35 H.1 (by decide) (x_sw c121_6 H.2.1 ⟨fun h3 => (x_aldn c121_40 rfl (x_ildn c121_41 rfl (wp_wk (l' := [none, none]) trivial (x_cv (As := [jI x1]) (st := []) c121_42 cl_34 kl122 rfl (Nat.le_of_ble_eq_true rfl) mx122 (Nat.le_refl _) (H.2.2.1 h3))))), ⟨fun h4 => (x_aldn c121_46 rfl (x_gfr c121_47 k_34_2 (x_ildn c121_50 rfl (x_iald c121_51 a_36 (H.2.2.2.1 h4).1 (by decide) (x_aldn c121_52 rfl (x_gfr c121_53 k_34_6 (x_gfi c121_56 k_11_4 (x_cge c121_59 (H.2.2.2.1 h4).2.1.1 (H.2.2.2.1 h4).2.1.2 (fun h1 => (x_ci c121_87 (x_zrt c121_88 r121 (by decide) ((H.2.2.2.1 h4).2.2.1 h1)))) (fun h2 => (x_aldn c121_62 rfl (x_gfr c121_63 k_34_6 (x_aldn c121_66 rfl (x_gfr c121_67 k_34_2 (x_ildn c121_70 rfl (x_iald c121_71 a_36 ((H.2.2.2.1 h4).2.2.2 h2).1 (by decide) (x_aldn c121_72 rfl (x_ildn c121_73 rfl (wp_wk (l' := [none, none]) trivial (x_cv (As := [jI x1]) (st := [jI (M 36 x1), jR 11]) c121_74 cl_34 kl123 rfl (Nat.le_of_ble_eq_true rfl) mx123 (Nat.le_refl _) ((H.2.2.2.1 h4).2.2.2 h2).2))))))))))))))))))), ⟨fun h5 => (x_aldn c121_89 rfl (x_ildn c121_90 rfl (wp_wk (l' := [none, none]) trivial (x_cv (As := [jI x1]) (st := []) c121_91 cl_34 kl124 rfl (Nat.le_of_ble_eq_true rfl) mx124 (Nat.le_refl _) (H.2.2.2.2.1 h5))))), ⟨fun h6 => (x_aldn c121_95 rfl (x_ildn c121_96 rfl (wp_wk (l' := [none, none]) trivial (x_cv (As := [jI x1]) (st := []) c121_97 cl_34 kl126 rfl (Nat.le_of_ble_eq_true rfl) mx126 (Nat.le_refl _) (H.2.2.2.2.2.1 h6))))), ⟨fun h7 => (x_aldn c121_101 rfl (x_ildn c121_102 rfl (wp_wk (l' := [none, none]) trivial (x_cv (As := [jI x1]) (st := []) c121_103 cl_34 kl130 rfl (Nat.le_of_ble_eq_true rfl) mx130 (Nat.le_refl _) (H.2.2.2.2.2.2.1 h7))))), trivial⟩⟩⟩⟩⟩ (fun h8 => (x_ci c121_107 (x_zrt c121_108 r121 (by decide) (H.2.2.2.2.2.2.2 h8)))))))))
theorem s121_45 {kc : List va_E} {d : Nat} {u0 : Int} {M : fx_M} {Q : Option fx_V → fx_M → Prop} (H : ((0 : Int) ≤ u0 ∧ u0 ≤ 1) ∧ Q (some (jI u0)) M) : wp kc (d + 1) 121 45 [none, none] [jI u0] M Q :=
  (x_zrt c121_45 r121 H.1 H.2)
theorem s121_77 {kc : List va_E} {d : Nat} {u0 u1 : Int} {M : fx_M} {Q : Option fx_V → fx_M → Prop} (H : wc kc d 111 [jR 11, jI u1, jL u0] M (fun v M1 => wp kc (d + 1) 121 80 [none, none] (v.toList ++ []) M1 Q)) : wp kc (d + 1) 121 77 [none, none] [jL u0, jI u1, jR 11] M Q :=
  (wp_wk (l' := [none, none]) trivial (x_cv (As := [jI u1, jL u0]) (st := []) c121_77 cl_11 kl111 rfl (Nat.le_of_ble_eq_true rfl) mx111 (Nat.le_refl _) H))
theorem s121_80 {kc : List va_E} {d : Nat} {u0 : Int} {M : fx_M} {Q : Option fx_V → fx_M → Prop} (H : ((fx_in32 u0)) ∧ ((0 : Int) ≤ (if u0 = 0 then (1 : Int) else 0) ∧ (if u0 = 0 then (1 : Int) else 0) ≤ 1) ∧ Q (some (jI (if u0 = 0 then (1 : Int) else 0))) M) : wp kc (d + 1) 121 80 [none, none] [jI u0] M Q :=
  (have K : wp kc (d + 1) 121 88 [none, none] [jI (if u0 = 0 then (1 : Int) else 0)] M Q := (x_zrt c121_88 r121 H.2.1 H.2.2); (x_zne c121_80 H.1 (fun (h1 : u0 ≠ 0) => (x_ci c121_87 (wp_wk (l' := [none, none]) trivial (by have K := K; first | (simp only [if_neg h1] at K ⊢; exact K) | (exfalso; omega))))) (fun (h2 : u0 = 0) => (x_ci c121_83 (x_goto c121_84 (wp_wk (l' := [none, none]) trivial (by have K := K; first | (simp only [if_pos h2] at K ⊢; exact K) | (exfalso; omega))))))))
theorem s121_94 {kc : List va_E} {d : Nat} {u0 : Int} {M : fx_M} {Q : Option fx_V → fx_M → Prop} (H : ((0 : Int) ≤ u0 ∧ u0 ≤ 1) ∧ Q (some (jI u0)) M) : wp kc (d + 1) 121 94 [none, none] [jI u0] M Q :=
  (x_zrt c121_94 r121 H.1 H.2)
theorem s121_100 {kc : List va_E} {d : Nat} {u0 : Int} {M : fx_M} {Q : Option fx_V → fx_M → Prop} (H : ((0 : Int) ≤ u0 ∧ u0 ≤ 1) ∧ Q (some (jI u0)) M) : wp kc (d + 1) 121 100 [none, none] [jI u0] M Q :=
  (x_zrt c121_100 r121 H.1 H.2)
theorem s121_106 {kc : List va_E} {d : Nat} {u0 : Int} {M : fx_M} {Q : Option fx_V → fx_M → Prop} (H : ((0 : Int) ≤ u0 ∧ u0 ≤ 1) ∧ Q (some (jI u0)) M) : wp kc (d + 1) 121 106 [none, none] [jI u0] M Q :=
  (x_zrt c121_106 r121 H.1 H.2)
theorem s121 {kc : List va_E} {d : Nat} {x1 : Int} {M : fx_M} {Q : Option fx_V → fx_M → Prop} (H : (((0 : Int) ≤ x1 ∧ x1 < 1600)) ∧ (fx_in32 (M 35 x1) ∧ (M 35 x1 = 0 → wc kc d 122 [jR 34, jI x1] M (fun v M1 => wp kc (d + 1) 121 45 [none, none] (v.toList ++ []) M1 Q)) ∧ (M 35 x1 = 1 → (((0 : Int) ≤ x1 ∧ x1 < 1600)) ∧ ((fx_in32 (M 36 x1)) ∧ (fx_in32 (M 11 4))) ∧ (M 11 4 ≤ M 36 x1 → Q (some (jI 0)) M) ∧ (M 36 x1 < M 11 4 → (((0 : Int) ≤ x1 ∧ x1 < 1600)) ∧ wc kc d 123 [jR 34, jI x1] M (fun v M1 => wp kc (d + 1) 121 77 [none, none] (v.toList ++ [jI (M 36 x1), jR 11]) M1 Q))) ∧ (M 35 x1 = 2 → wc kc d 124 [jR 34, jI x1] M (fun v M1 => wp kc (d + 1) 121 94 [none, none] (v.toList ++ []) M1 Q)) ∧ (M 35 x1 = 3 → wc kc d 126 [jR 34, jI x1] M (fun v M1 => wp kc (d + 1) 121 100 [none, none] (v.toList ++ []) M1 Q)) ∧ (M 35 x1 = 4 → wc kc d 130 [jR 34, jI x1] M (fun v M1 => wp kc (d + 1) 121 106 [none, none] (v.toList ++ []) M1 Q)) ∧ ((M 35 x1 < 0 ∨ 5 ≤ M 35 x1) → Q (some (jI 0)) M))) : wc kc (d + 1) 121 [jR 34, jI x1] M Q :=
  wc_of (wp_wk (l' := [some (jR 34), some (jI x1)]) ⟨rfl, ⟨rfl, trivial⟩⟩ (s121_0 H))

/- PuzzleHouse$Checker.isGiven(I)Z -/
theorem c122_0 : fx_op 122 0 = some (.aload_n 0, 1, 0) := by decide +kernel
theorem c122_1 : fx_gf 122 1 = some (6, 2, 4) := by decide +kernel
theorem c122_4 : fx_op 122 4 = some (.iload_n 1, 5, 4) := by decide +kernel
theorem c122_6 : fx_op 122 6 = some (.istore_n 2, 7, 6) := by decide +kernel
theorem c122_7 : fx_op 122 7 = some (.iload_n 2, 8, 7) := by decide +kernel
theorem c122_8 : fx_op 122 8 = some (.aload_n 0, 9, 8) := by decide +kernel
theorem c122_9 : fx_gf 122 9 = some (6, 6, 12) := by decide +kernel
theorem c122_12 : fx_gf 122 12 = some (3, 2, 15) := by decide +kernel
theorem c122_15 : fx_op 122 15 = some (.if_icmp .ge 46, 18, 61) := by decide +kernel
theorem c122_61 : fx_ci 122 61 = some (0, 62) := by decide +kernel
theorem c122_18 : fx_op 122 18 = some (.aload_n 0, 19, 18) := by decide +kernel
theorem c122_19 : fx_gf 122 19 = some (6, 6, 22) := by decide +kernel
theorem c122_22 : fx_gf 122 22 = some (3, 10, 25) := by decide +kernel
theorem c122_25 : fx_op 122 25 = some (.iload_n 2, 26, 25) := by decide +kernel
theorem c122_26 : fx_op 122 26 = some (.iaload, 27, 26) := by decide +kernel
theorem c122_27 : fx_op 122 27 = some (.ifCond .lt 34, 30, 61) := by decide +kernel
theorem c122_30 : fx_op 122 30 = some (.aload_n 0, 31, 30) := by decide +kernel
theorem c122_31 : fx_gf 122 31 = some (6, 4, 34) := by decide +kernel
theorem c122_34 : fx_op 122 34 = some (.iload_n 1, 35, 34) := by decide +kernel
theorem c122_35 : fx_op 122 35 = some (.laload, 36, 35) := by decide +kernel
theorem c122_36 : fx_ci 122 36 = some (4, 37) := by decide +kernel
theorem c122_37 : fx_op 122 37 = some (.iload_n 2, 38, 37) := by decide +kernel
theorem c122_38 : fx_op 122 38 = some (.imul, 39, 38) := by decide +kernel
theorem c122_39 : fx_op 122 39 = some (.aload_n 0, 40, 39) := by decide +kernel
theorem c122_40 : fx_gf 122 40 = some (6, 6, 43) := by decide +kernel
theorem c122_43 : fx_gf 122 43 = some (3, 10, 46) := by decide +kernel
theorem c122_46 : fx_op 122 46 = some (.iload_n 2, 47, 46) := by decide +kernel
theorem c122_47 : fx_op 122 47 = some (.iaload, 48, 47) := by decide +kernel
theorem c122_48 : fx_op 122 48 = some (.iadd, 49, 48) := by decide +kernel
theorem c122_49 : fx_op 122 49 = some (.lushr, 50, 49) := by decide +kernel
theorem c122_50 : fx_cj 122 50 = some (1, 51) := by decide +kernel
theorem c122_51 : fx_op 122 51 = some (.land, 52, 51) := by decide +kernel
theorem c122_52 : fx_cj 122 52 = some (0, 53) := by decide +kernel
theorem c122_53 : fx_op 122 53 = some (.lcmp, 54, 53) := by decide +kernel
theorem c122_54 : fx_op 122 54 = some (.ifCond .eq 7, 57, 61) := by decide +kernel
theorem c122_57 : fx_ci 122 57 = some (1, 58) := by decide +kernel
theorem c122_58 : fx_op 122 58 = some (.goto 4, 61, 62) := by decide +kernel
theorem c122_5 : fx_op 122 5 = some (.iaload, 6, 5) := by decide +kernel
theorem c122_62 : fx_op 122 62 = some (.ireturn, 63, 62) := by decide +kernel
theorem s122_0 {kc : List va_E} {d : Nat} {x1 : Int} {M : fx_M} {Q : Option fx_V → fx_M → Prop} (H : (((0 : Int) ≤ x1 ∧ x1 < 1600)) ∧ ((fx_in32 (M 36 x1))) ∧ ((fx_in32 (M 11 2))) ∧ (M 36 x1 < M 11 2 → ((((0 : Int) ≤ M 36 x1 ∧ M 36 x1 < 9)))) ∧ (M 36 x1 < M 11 2 → (fx_in32 (M 17 (M 36 x1)))) ∧ (M 36 x1 < M 11 2 → 0 ≤ M 17 (M 36 x1) → ((((0 : Int) ≤ x1 ∧ x1 < 1600)))) ∧ (M 36 x1 < M 11 2 → 0 ≤ M 17 (M 36 x1) → ((((0 : Int) ≤ M 36 x1 ∧ M 36 x1 < 9)))) ∧ (M 36 x1 < M 11 2 → 0 ≤ M 17 (M 36 x1) → (((fx_in64 (fx_land (fx_lushr (M 38 x1) ((4 * (M 36 x1)) + (M 17 (M 36 x1)))) 1))))) ∧ ((0 : Int) ≤ (if M 36 x1 < M 11 2 then ((if M 17 (M 36 x1) < 0 then (0 : Int) else (if fx_cmp (fx_land (fx_lushr (M 38 x1) ((4 * (M 36 x1)) + (M 17 (M 36 x1)))) 1) 0 = 0 then (0 : Int) else 1)) : Int) else 0) ∧ (if M 36 x1 < M 11 2 then ((if M 17 (M 36 x1) < 0 then (0 : Int) else (if fx_cmp (fx_land (fx_lushr (M 38 x1) ((4 * (M 36 x1)) + (M 17 (M 36 x1)))) 1) 0 = 0 then (0 : Int) else 1)) : Int) else 0) ≤ 1) ∧ Q (some (jI (if M 36 x1 < M 11 2 then ((if M 17 (M 36 x1) < 0 then (0 : Int) else (if fx_cmp (fx_land (fx_lushr (M 38 x1) ((4 * (M 36 x1)) + (M 17 (M 36 x1)))) 1) 0 = 0 then (0 : Int) else 1)) : Int) else 0))) M) : wp kc (d + 1) 122 0 [some (jR 34), some (jI x1), none] [] M Q :=
  (x_aldn c122_0 rfl (x_gfr c122_1 k_34_2 (x_ildn c122_4 rfl (x_iald c122_5 a_36 H.1 (by decide) (x_istn (l' := [some (jR 34), some (jI x1), some (jI (M 36 x1))]) c122_6 rfl (x_ildn c122_7 rfl (x_aldn c122_8 rfl (x_gfr c122_9 k_34_6 (x_gfi c122_12 k_11_2 (have K : wp kc (d + 1) 122 62 [none, none, none] [jI (if M 36 x1 < M 11 2 then ((if M 17 (M 36 x1) < 0 then (0 : Int) else (if fx_cmp (fx_land (fx_lushr (M 38 x1) ((4 * (M 36 x1)) + (M 17 (M 36 x1)))) 1) 0 = 0 then (0 : Int) else 1)) : Int) else 0)] M Q := (x_zrt c122_62 r122 H.2.2.2.2.2.2.2.2.1 H.2.2.2.2.2.2.2.2.2); (x_cge c122_15 H.2.1 H.2.2.1 (fun (h1 : M 11 2 ≤ M 36 x1) => (x_ci c122_61 (wp_wk (l' := [none, none, none]) trivial (by have K := K; first | (simp only [if_neg (Int.not_lt.mpr h1)] at K ⊢; exact K) | (exfalso; omega))))) (fun (h2 : M 36 x1 < M 11 2) => (x_aldn c122_18 rfl (x_gfr c122_19 k_34_6 (x_gfr c122_22 k_11_10 (x_ildn c122_25 rfl (x_iald c122_26 a_17 (H.2.2.2.1 h2) (by decide) (x_zlt c122_27 (H.2.2.2.2.1 h2) (fun (h3 : M 17 (M 36 x1) < 0) => (x_ci c122_61 (wp_wk (l' := [none, none, none]) trivial (by have K := K; first | (simp only [if_pos h2, if_pos h3] at K ⊢; exact K) | (exfalso; omega))))) (fun (h4 : 0 ≤ M 17 (M 36 x1)) => (x_aldn c122_30 rfl (x_gfr c122_31 k_34_4 (x_ildn c122_34 rfl (x_lald c122_35 a_38 (H.2.2.2.2.2.1 h2 h4) (by decide) (x_ci c122_36 (x_ildn c122_37 rfl (x_imul c122_38 (x_aldn c122_39 rfl (x_gfr c122_40 k_34_6 (x_gfr c122_43 k_11_10 (x_ildn c122_46 rfl (x_iald c122_47 a_17 (H.2.2.2.2.2.2.1 h2 h4) (by decide) (x_iadd c122_48 (x_lushr c122_49 (x_cj c122_50 (x_land c122_51 (x_cj c122_52 (x_lcmp c122_53 (H.2.2.2.2.2.2.2.1 h2 h4) (by decide) (x_zeq c122_54 (fx_cmp_in _ _) (fun (h5 : fx_cmp (fx_land (fx_lushr (M 38 x1) ((4 * (M 36 x1)) + (M 17 (M 36 x1)))) 1) 0 = 0) => (x_ci c122_61 (wp_wk (l' := [none, none, none]) trivial (by have K := K; first | (simp only [if_pos h2, if_neg (Int.not_lt.mpr h4), if_pos h5] at K ⊢; exact K) | (exfalso; omega))))) (fun (h6 : fx_cmp (fx_land (fx_lushr (M 38 x1) ((4 * (M 36 x1)) + (M 17 (M 36 x1)))) 1) 0 ≠ 0) => (x_ci c122_57 (x_goto c122_58 (wp_wk (l' := [none, none, none]) trivial (by have K := K; first | (simp only [if_pos h2, if_neg (Int.not_lt.mpr h4), if_neg h6] at K ⊢; exact K) | (exfalso; omega))))))))))))))))))))))))))))))))))))))))))))
theorem s122 {kc : List va_E} {d : Nat} {x1 : Int} {M : fx_M} {Q : Option fx_V → fx_M → Prop} (H : (((0 : Int) ≤ x1 ∧ x1 < 1600)) ∧ ((fx_in32 (M 36 x1))) ∧ ((fx_in32 (M 11 2))) ∧ (M 36 x1 < M 11 2 → ((((0 : Int) ≤ M 36 x1 ∧ M 36 x1 < 9)))) ∧ (M 36 x1 < M 11 2 → (fx_in32 (M 17 (M 36 x1)))) ∧ (M 36 x1 < M 11 2 → 0 ≤ M 17 (M 36 x1) → ((((0 : Int) ≤ x1 ∧ x1 < 1600)))) ∧ (M 36 x1 < M 11 2 → 0 ≤ M 17 (M 36 x1) → ((((0 : Int) ≤ M 36 x1 ∧ M 36 x1 < 9)))) ∧ (M 36 x1 < M 11 2 → 0 ≤ M 17 (M 36 x1) → (((fx_in64 (fx_land (fx_lushr (M 38 x1) ((4 * (M 36 x1)) + (M 17 (M 36 x1)))) 1))))) ∧ ((0 : Int) ≤ (if M 36 x1 < M 11 2 then ((if M 17 (M 36 x1) < 0 then (0 : Int) else (if fx_cmp (fx_land (fx_lushr (M 38 x1) ((4 * (M 36 x1)) + (M 17 (M 36 x1)))) 1) 0 = 0 then (0 : Int) else 1)) : Int) else 0) ∧ (if M 36 x1 < M 11 2 then ((if M 17 (M 36 x1) < 0 then (0 : Int) else (if fx_cmp (fx_land (fx_lushr (M 38 x1) ((4 * (M 36 x1)) + (M 17 (M 36 x1)))) 1) 0 = 0 then (0 : Int) else 1)) : Int) else 0) ≤ 1) ∧ Q (some (jI (if M 36 x1 < M 11 2 then ((if M 17 (M 36 x1) < 0 then (0 : Int) else (if fx_cmp (fx_land (fx_lushr (M 38 x1) ((4 * (M 36 x1)) + (M 17 (M 36 x1)))) 1) 0 = 0 then (0 : Int) else 1)) : Int) else 0))) M) : wc kc (d + 1) 122 [jR 34, jI x1] M Q :=
  wc_of (wp_wk (l' := [some (jR 34), some (jI x1), none]) ⟨rfl, ⟨rfl, trivial⟩⟩ (s122_0 H))

/- PuzzleHouse$Checker.denied(I)J -/
theorem c123_0 : fx_op 123 0 = some (.aload_n 0, 1, 0) := by decide +kernel
theorem c123_1 : fx_gf 123 1 = some (6, 8, 4) := by decide +kernel
theorem c123_4 : fx_op 123 4 = some (.aload_n 0, 5, 4) := by decide +kernel
theorem c123_5 : fx_gf 123 5 = some (6, 4, 8) := by decide +kernel
theorem c123_8 : fx_op 123 8 = some (.iload_n 1, 9, 8) := by decide +kernel
theorem c123_10 : fx_cj 123 10 = some ((-1), 13) := by decide +kernel
theorem c123_13 : fx_op 123 13 = some (.lxor, 14, 13) := by decide +kernel
theorem c123_14 : fx_op 123 14 = some (.land, 15, 14) := by decide +kernel
theorem c123_15 : fx_op 123 15 = some (.lstore_n 2, 16, 15) := by decide +kernel
theorem c123_16 : fx_ci 123 16 = some (0, 17) := by decide +kernel
theorem c123_17 : fx_op 123 17 = some (.istore 4, 19, 17) := by decide +kernel
theorem c123_9 : fx_op 123 9 = some (.laload, 10, 9) := by decide +kernel
theorem c123_19 : fx_op 123 19 = some (.iload 4, 21, 19) := by decide +kernel
theorem c123_21 : fx_op 123 21 = some (.aload_n 0, 22, 21) := by decide +kernel
theorem c123_22 : fx_gf 123 22 = some (6, 6, 25) := by decide +kernel
theorem c123_25 : fx_gf 123 25 = some (3, 2, 28) := by decide +kernel
theorem c123_28 : fx_op 123 28 = some (.if_icmp .ge 68, 31, 96) := by decide +kernel
theorem c123_31 : fx_op 123 31 = some (.aload_n 0, 32, 31) := by decide +kernel
theorem c123_32 : fx_gf 123 32 = some (6, 5, 35) := by decide +kernel
theorem c123_35 : fx_op 123 35 = some (.iload_n 1, 36, 35) := by decide +kernel
theorem c123_36 : fx_op 123 36 = some (.laload, 37, 36) := by decide +kernel
theorem c123_37 : fx_op 123 37 = some (.iload 4, 39, 37) := by decide +kernel
theorem c123_96 : fx_op 123 96 = some (.lload_n 2, 97, 96) := by decide +kernel
theorem c123_97 : fx_op 123 97 = some (.lreturn, 98, 97) := by decide +kernel
theorem c123_39 : fx_ca 123 39 = some (86, 2, 1, 42) := by decide +kernel
theorem c123_42 : fx_op 123 42 = some (.istore 5, 44, 42) := by decide +kernel
theorem c123_44 : fx_op 123 44 = some (.iload 5, 46, 44) := by decide +kernel
theorem c123_46 : fx_op 123 46 = some (.ifCond .eq 44, 49, 90) := by decide +kernel
theorem c123_49 : fx_op 123 49 = some (.iload 5, 51, 49) := by decide +kernel
theorem c123_90 : fx_op 123 90 = some (.iinc 4 1, 93, 90) := by decide +kernel
theorem c123_93 : fx_op 123 93 = some (.goto (-74), 96, 19) := by decide +kernel
theorem c123_51 : fx_ca 123 51 = some (79, 1, 0, 54) := by decide +kernel
theorem c123_54 : fx_ci 123 54 = some (1, 55) := by decide +kernel
theorem c123_55 : fx_op 123 55 = some (.if_icmp .ne 14, 58, 69) := by decide +kernel
theorem c123_69 : fx_cj 123 69 = some (0, 70) := by decide +kernel
theorem c123_58 : fx_op 123 58 = some (.iload 5, 60, 58) := by decide +kernel
theorem c123_60 : fx_op 123 60 = some (.i2l, 61, 60) := by decide +kernel
theorem c123_61 : fx_ci 123 61 = some (4, 62) := by decide +kernel
theorem c123_62 : fx_op 123 62 = some (.iload 4, 64, 62) := by decide +kernel
theorem c123_64 : fx_op 123 64 = some (.imul, 65, 64) := by decide +kernel
theorem c123_65 : fx_op 123 65 = some (.lshl, 66, 65) := by decide +kernel
theorem c123_66 : fx_op 123 66 = some (.goto 4, 69, 70) := by decide +kernel
theorem c123_70 : fx_op 123 70 = some (.lstore 6, 72, 70) := by decide +kernel
theorem c123_72 : fx_op 123 72 = some (.lload_n 2, 73, 72) := by decide +kernel
theorem c123_73 : fx_cj 123 73 = some (15, 76) := by decide +kernel
theorem c123_76 : fx_ci 123 76 = some (4, 77) := by decide +kernel
theorem c123_77 : fx_op 123 77 = some (.iload 4, 79, 77) := by decide +kernel
theorem c123_79 : fx_op 123 79 = some (.imul, 80, 79) := by decide +kernel
theorem c123_80 : fx_op 123 80 = some (.lshl, 81, 80) := by decide +kernel
theorem c123_81 : fx_cj 123 81 = some ((-1), 84) := by decide +kernel
theorem c123_84 : fx_op 123 84 = some (.lxor, 85, 84) := by decide +kernel
theorem c123_85 : fx_op 123 85 = some (.lload 6, 87, 85) := by decide +kernel
theorem c123_87 : fx_op 123 87 = some (.lor, 88, 87) := by decide +kernel
theorem c123_88 : fx_op 123 88 = some (.land, 89, 88) := by decide +kernel
theorem c123_89 : fx_op 123 89 = some (.lstore_n 2, 90, 89) := by decide +kernel
theorem s123_0 {kc : List va_E} {d : Nat} {x1 : Int} {M : fx_M} {Q : Option fx_V → fx_M → Prop} (H : (((0 : Int) ≤ x1 ∧ x1 < 1600)) ∧ wp kc (d + 1) 123 19 [some (jR 34), some (jI x1), some (jL (fx_land (M 34 8) (fx_lxor (M 38 x1) (-1)))), none, some (jI 0), none, none, none] [] M Q) : wp kc (d + 1) 123 0 [some (jR 34), some (jI x1), none, none, none, none, none, none] [] M Q :=
  (x_aldn c123_0 rfl (x_gfl c123_1 k_34_8 (x_aldn c123_4 rfl (x_gfr c123_5 k_34_4 (x_ildn c123_8 rfl (x_lald c123_9 a_38 H.1 (by decide) (x_cj c123_10 (x_lxor c123_13 (x_land c123_14 (x_lstn (l' := [some (jR 34), some (jI x1), some (jL (fx_land (M 34 8) (fx_lxor (M 38 x1) (-1)))), none, none, none, none, none]) c123_15 rfl (x_ci c123_16 (x_ist (l' := [some (jR 34), some (jI x1), some (jL (fx_land (M 34 8) (fx_lxor (M 38 x1) (-1)))), none, some (jI 0), none, none, none]) c123_17 rfl (wp_wk (l' := [some (jR 34), some (jI x1), some (jL (fx_land (M 34 8) (fx_lxor (M 38 x1) (-1)))), none, some (jI 0), none, none, none]) ⟨rfl, ⟨rfl, ⟨rfl, ⟨rfl, trivial⟩⟩⟩⟩ H.2)))))))))))))
theorem s123_19 {kc : List va_E} {d : Nat} {v1 v2 v4 : Int} {M : fx_M} {Q : Option fx_V → fx_M → Prop} (H : ((fx_in32 v4) ∧ (fx_in32 (M 11 2))) ∧ (M 11 2 ≤ v4 → Q (some (jL v2)) M) ∧ (v4 < M 11 2 → (((0 : Int) ≤ v1 ∧ v1 < 1600)) ∧ wc kc d 86 [jL (M 39 v1), jI v4] M (fun v M1 => wp kc (d + 1) 123 42 [some (jR 34), some (jI v1), some (jL v2), none, some (jI v4), none, none, none] (v.toList ++ []) M1 Q))) : wp kc (d + 1) 123 19 [some (jR 34), some (jI v1), some (jL v2), none, some (jI v4), none, none, none] [] M Q :=
  (x_ild c123_19 rfl (x_aldn c123_21 rfl (x_gfr c123_22 k_34_6 (x_gfi c123_25 k_11_2 (x_cge c123_28 H.1.1 H.1.2 (fun h1 => (x_lldn c123_96 rfl (x_lrt c123_97 r123 (H.2.1 h1)))) (fun h2 => (x_aldn c123_31 rfl (x_gfr c123_32 k_34_5 (x_ildn c123_35 rfl (x_lald c123_36 a_39 (H.2.2 h2).1 (by decide) (x_ild c123_37 rfl (wp_wk (l' := [some (jR 34), some (jI v1), some (jL v2), none, some (jI v4), none, none, none]) ⟨rfl, ⟨rfl, ⟨rfl, ⟨rfl, trivial⟩⟩⟩⟩ (x_cs (As := [jL (M 39 v1), jI v4]) (st := []) c123_39 (by decide) rfl (Nat.le_of_ble_eq_true rfl) mx86 (Nat.le_refl _) (H.2.2 h2).2)))))))))))))
theorem s123_42 {kc : List va_E} {d : Nat} {v1 v2 v4 u0 : Int} {M : fx_M} {Q : Option fx_V → fx_M → Prop} (H : ((fx_in32 u0)) ∧ (u0 = 0 → wp kc (d + 1) 123 19 [some (jR 34), some (jI v1), some (jL v2), none, some (jI (v4 + 1)), none, none, none] [] M Q) ∧ (u0 ≠ 0 → wc kc d 79 [jI u0] M (fun v M1 => wp kc (d + 1) 123 54 [some (jR 34), some (jI v1), some (jL v2), none, some (jI v4), some (jI u0), none, none] (v.toList ++ []) M1 Q))) : wp kc (d + 1) 123 42 [some (jR 34), some (jI v1), some (jL v2), none, some (jI v4), none, none, none] [jI u0] M Q :=
  (x_ist (l' := [some (jR 34), some (jI v1), some (jL v2), none, some (jI v4), some (jI u0), none, none]) c123_42 rfl (x_ild c123_44 rfl (x_zeq c123_46 H.1 (fun h1 => (x_inc (l' := [some (jR 34), some (jI v1), some (jL v2), none, some (jI (v4 + 1)), some (jI u0), none, none]) c123_90 rfl rfl (x_goto c123_93 (wp_wk (l' := [some (jR 34), some (jI v1), some (jL v2), none, some (jI (v4 + 1)), none, none, none]) ⟨rfl, ⟨rfl, ⟨rfl, ⟨rfl, trivial⟩⟩⟩⟩ (H.2.1 h1))))) (fun h2 => (x_ild c123_49 rfl (wp_wk (l' := [some (jR 34), some (jI v1), some (jL v2), none, some (jI v4), some (jI u0), none, none]) ⟨rfl, ⟨rfl, ⟨rfl, ⟨rfl, ⟨rfl, trivial⟩⟩⟩⟩⟩ (x_cs (As := [jI u0]) (st := []) c123_51 (by decide) rfl (Nat.le_of_ble_eq_true rfl) mx79 (Nat.le_refl _) (H.2.2 h2))))))))
theorem s123_54 {kc : List va_E} {d : Nat} {v1 v2 v4 v5 u0 : Int} {M : fx_M} {Q : Option fx_V → fx_M → Prop} (H : ((fx_in32 u0)) ∧ (u0 = 1 → (((fx_in32 v5)))) ∧ wp kc (d + 1) 123 19 [some (jR 34), some (jI v1), some (jL (fx_land v2 (fx_lor (fx_lxor (fx_lshl 15 (4 * v4)) (-1)) (if u0 = 1 then (fx_lshl v5 (4 * v4) : Int) else 0)))), none, some (jI (v4 + 1)), none, none, none] [] M Q) : wp kc (d + 1) 123 54 [some (jR 34), some (jI v1), some (jL v2), none, some (jI v4), some (jI v5), none, none] [jI u0] M Q :=
  (x_ci c123_54 (have K : wp kc (d + 1) 123 70 [some (jR 34), some (jI v1), some (jL v2), none, some (jI v4), none, none, none] [jL (if u0 = 1 then (fx_lshl v5 (4 * v4) : Int) else 0)] M Q := (x_lst (l' := [some (jR 34), some (jI v1), some (jL v2), none, some (jI v4), none, some (jL (if u0 = 1 then (fx_lshl v5 (4 * v4) : Int) else 0)), none]) c123_70 rfl (x_lldn c123_72 rfl (x_cj c123_73 (x_ci c123_76 (x_ild c123_77 rfl (x_imul c123_79 (x_lshl c123_80 (x_cj c123_81 (x_lxor c123_84 (x_lld c123_85 rfl (x_lor c123_87 (x_land c123_88 (x_lstn (l' := [some (jR 34), some (jI v1), some (jL (fx_land v2 (fx_lor (fx_lxor (fx_lshl 15 (4 * v4)) (-1)) (if u0 = 1 then (fx_lshl v5 (4 * v4) : Int) else 0)))), none, some (jI v4), none, some (jL (if u0 = 1 then (fx_lshl v5 (4 * v4) : Int) else 0)), none]) c123_89 rfl (x_inc (l' := [some (jR 34), some (jI v1), some (jL (fx_land v2 (fx_lor (fx_lxor (fx_lshl 15 (4 * v4)) (-1)) (if u0 = 1 then (fx_lshl v5 (4 * v4) : Int) else 0)))), none, some (jI (v4 + 1)), none, some (jL (if u0 = 1 then (fx_lshl v5 (4 * v4) : Int) else 0)), none]) c123_90 rfl rfl (x_goto c123_93 (wp_wk (l' := [some (jR 34), some (jI v1), some (jL (fx_land v2 (fx_lor (fx_lxor (fx_lshl 15 (4 * v4)) (-1)) (if u0 = 1 then (fx_lshl v5 (4 * v4) : Int) else 0)))), none, some (jI (v4 + 1)), none, none, none]) ⟨rfl, ⟨rfl, ⟨rfl, ⟨rfl, trivial⟩⟩⟩⟩ H.2.2)))))))))))))))); (x_cne c123_55 H.1 (by decide) (fun (h1 : u0 ≠ 1) => (x_cj c123_69 (wp_wk (l' := [some (jR 34), some (jI v1), some (jL v2), none, some (jI v4), none, none, none]) ⟨rfl, ⟨rfl, ⟨rfl, ⟨rfl, trivial⟩⟩⟩⟩ (by have K := K; first | (simp only [if_neg h1] at K ⊢; exact K) | (exfalso; omega))))) (fun (h2 : u0 = 1) => (x_ild c123_58 rfl (x_i2l c123_60 (H.2.1 h2) (x_ci c123_61 (x_ild c123_62 rfl (x_imul c123_64 (x_lshl c123_65 (x_goto c123_66 (wp_wk (l' := [some (jR 34), some (jI v1), some (jL v2), none, some (jI v4), none, none, none]) ⟨rfl, ⟨rfl, ⟨rfl, ⟨rfl, trivial⟩⟩⟩⟩ (by have K := K; first | (simp only [if_pos h2] at K ⊢; exact K) | (exfalso; omega))))))))))))))
theorem s123 {kc : List va_E} {d : Nat} {x1 : Int} {M : fx_M} {Q : Option fx_V → fx_M → Prop} (H : (((0 : Int) ≤ x1 ∧ x1 < 1600)) ∧ wp kc (d + 1) 123 19 [some (jR 34), some (jI x1), some (jL (fx_land (M 34 8) (fx_lxor (M 38 x1) (-1)))), none, some (jI 0), none, none, none] [] M Q) : wc kc (d + 1) 123 [jR 34, jI x1] M Q :=
  wc_of (wp_wk (l' := [some (jR 34), some (jI x1), none, none, none, none, none, none]) ⟨rfl, ⟨rfl, trivial⟩⟩ (s123_0 H))

/- PuzzleHouse$Checker.isByTwo(I)Z -/
theorem c124_0 : fx_op 124 0 = some (.aload_n 0, 1, 0) := by decide +kernel
theorem c124_1 : fx_gf 124 1 = some (6, 2, 4) := by decide +kernel
theorem c124_4 : fx_op 124 4 = some (.iload_n 1, 5, 4) := by decide +kernel
theorem c124_6 : fx_op 124 6 = some (.istore_n 2, 7, 6) := by decide +kernel
theorem c124_7 : fx_op 124 7 = some (.aload_n 0, 8, 7) := by decide +kernel
theorem c124_8 : fx_gf 124 8 = some (6, 3, 11) := by decide +kernel
theorem c124_11 : fx_op 124 11 = some (.iload_n 1, 12, 11) := by decide +kernel
theorem c124_13 : fx_op 124 13 = some (.istore_n 3, 14, 13) := by decide +kernel
theorem c124_14 : fx_op 124 14 = some (.iload_n 2, 15, 14) := by decide +kernel
theorem c124_15 : fx_op 124 15 = some (.iload_n 3, 16, 15) := by decide +kernel
theorem c124_16 : fx_op 124 16 = some (.if_icmp .ge 14, 19, 30) := by decide +kernel
theorem c124_30 : fx_ci 124 30 = some (0, 31) := by decide +kernel
theorem c124_19 : fx_op 124 19 = some (.iload_n 3, 20, 19) := by decide +kernel
theorem c124_20 : fx_op 124 20 = some (.aload_n 0, 21, 20) := by decide +kernel
theorem c124_21 : fx_gf 124 21 = some (6, 6, 24) := by decide +kernel
theorem c124_24 : fx_gf 124 24 = some (3, 4, 27) := by decide +kernel
theorem c124_27 : fx_op 124 27 = some (.if_icmp .lt 5, 30, 32) := by decide +kernel
theorem c124_32 : fx_op 124 32 = some (.aload_n 0, 33, 32) := by decide +kernel
theorem c124_33 : fx_gf 124 33 = some (6, 6, 36) := by decide +kernel
theorem c124_36 : fx_gf 124 36 = some (3, 9, 39) := by decide +kernel
theorem c124_39 : fx_op 124 39 = some (.iload_n 2, 40, 39) := by decide +kernel
theorem c124_41 : fx_op 124 41 = some (.aload_n 0, 42, 41) := by decide +kernel
theorem c124_42 : fx_gf 124 42 = some (6, 6, 45) := by decide +kernel
theorem c124_45 : fx_gf 124 45 = some (3, 9, 48) := by decide +kernel
theorem c124_48 : fx_op 124 48 = some (.iload_n 3, 49, 48) := by decide +kernel
theorem c124_50 : fx_op 124 50 = some (.iand, 51, 50) := by decide +kernel
theorem c124_51 : fx_op 124 51 = some (.istore 4, 53, 51) := by decide +kernel
theorem c124_53 : fx_op 124 53 = some (.aload_n 0, 54, 53) := by decide +kernel
theorem c124_54 : fx_gf 124 54 = some (6, 6, 57) := by decide +kernel
theorem c124_57 : fx_gf 124 57 = some (3, 9, 60) := by decide +kernel
theorem c124_60 : fx_op 124 60 = some (.iload_n 2, 61, 60) := by decide +kernel
theorem c124_62 : fx_op 124 62 = some (.aload_n 0, 63, 62) := by decide +kernel
theorem c124_63 : fx_gf 124 63 = some (6, 6, 66) := by decide +kernel
theorem c124_66 : fx_gf 124 66 = some (3, 9, 69) := by decide +kernel
theorem c124_69 : fx_op 124 69 = some (.iload_n 3, 70, 69) := by decide +kernel
theorem c124_71 : fx_op 124 71 = some (.ior, 72, 71) := by decide +kernel
theorem c124_5 : fx_op 124 5 = some (.iaload, 6, 5) := by decide +kernel
theorem c124_12 : fx_op 124 12 = some (.iaload, 13, 12) := by decide +kernel
theorem c124_31 : fx_op 124 31 = some (.ireturn, 32, 31) := by decide +kernel
theorem c124_40 : fx_op 124 40 = some (.iaload, 41, 40) := by decide +kernel
theorem c124_49 : fx_op 124 49 = some (.iaload, 50, 49) := by decide +kernel
theorem c124_61 : fx_op 124 61 = some (.iaload, 62, 61) := by decide +kernel
theorem c124_70 : fx_op 124 70 = some (.iaload, 71, 70) := by decide +kernel
theorem c124_72 : fx_ca 124 72 = some (79, 1, 0, 75) := by decide +kernel
theorem c124_75 : fx_ci 124 75 = some (6, 77) := by decide +kernel
theorem c124_77 : fx_op 124 77 = some (.if_icmp .gt 28, 80, 105) := by decide +kernel
theorem c124_105 : fx_ci 124 105 = some (0, 106) := by decide +kernel
theorem c124_80 : fx_op 124 80 = some (.aload_n 0, 81, 80) := by decide +kernel
theorem c124_81 : fx_gf 124 81 = some (6, 6, 84) := by decide +kernel
theorem c124_84 : fx_op 124 84 = some (.iload_n 2, 85, 84) := by decide +kernel
theorem c124_85 : fx_op 124 85 = some (.iload_n 3, 86, 85) := by decide +kernel
theorem c124_86 : fx_op 124 86 = some (.aload_n 0, 87, 86) := by decide +kernel
theorem c124_87 : fx_op 124 87 = some (.iload_n 1, 88, 87) := by decide +kernel
theorem c124_106 : fx_op 124 106 = some (.ireturn, 107, 106) := by decide +kernel
theorem c124_88 : fx_ca 124 88 = some (123, 2, 2, 91) := by decide +kernel
theorem c124_91 : fx_op 124 91 = some (.iload 4, 93, 91) := by decide +kernel
theorem c124_93 : fx_ca 124 93 = some (125, 5, 3, 96) := by decide +kernel
theorem c124_96 : fx_cj 124 96 = some (0, 97) := by decide +kernel
theorem c124_98 : fx_op 124 98 = some (.ifCond .ne 7, 101, 105) := by decide +kernel
theorem c124_101 : fx_ci 124 101 = some (1, 102) := by decide +kernel
theorem c124_102 : fx_op 124 102 = some (.goto 4, 105, 106) := by decide +kernel
theorem c124_97 : fx_op 124 97 = some (.lcmp, 98, 97) := by decide +kernel
theorem s124_0 {kc : List va_E} {d : Nat} {x1 : Int} {M : fx_M} {Q : Option fx_V → fx_M → Prop} (H : (((0 : Int) ≤ x1 ∧ x1 < 1600)) ∧ (((0 : Int) ≤ x1 ∧ x1 < 1600)) ∧ ((fx_in32 (M 36 x1)) ∧ (fx_in32 (M 37 x1))) ∧ (M 37 x1 ≤ M 36 x1 → Q (some (jI 0)) M) ∧ (M 36 x1 < M 37 x1 → ((fx_in32 (M 37 x1)) ∧ (fx_in32 (M 11 4))) ∧ (M 37 x1 < M 11 4 → (((0 : Int) ≤ M 36 x1 ∧ M 36 x1 < 12)) ∧ (((0 : Int) ≤ M 37 x1 ∧ M 37 x1 < 12)) ∧ (((0 : Int) ≤ M 36 x1 ∧ M 36 x1 < 12)) ∧ (((0 : Int) ≤ M 37 x1 ∧ M 37 x1 < 12)) ∧ wc kc d 79 [jI (fx_or (M 16 (M 36 x1)) (M 16 (M 37 x1)))] M (fun v M1 => wp kc (d + 1) 124 75 [some (jR 34), some (jI x1), some (jI (M 36 x1)), some (jI (M 37 x1)), some (jI (fx_and (M 16 (M 36 x1)) (M 16 (M 37 x1))))] (v.toList ++ []) M1 Q)) ∧ (M 11 4 ≤ M 37 x1 → Q (some (jI 0)) M))) : wp kc (d + 1) 124 0 [some (jR 34), some (jI x1), none, none, none] [] M Q :=
  (x_aldn c124_0 rfl (x_gfr c124_1 k_34_2 (x_ildn c124_4 rfl (x_iald c124_5 a_36 H.1 (by decide) (x_istn (l' := [some (jR 34), some (jI x1), some (jI (M 36 x1)), none, none]) c124_6 rfl (x_aldn c124_7 rfl (x_gfr c124_8 k_34_3 (x_ildn c124_11 rfl (x_iald c124_12 a_37 H.2.1 (by decide) (x_istn (l' := [some (jR 34), some (jI x1), some (jI (M 36 x1)), some (jI (M 37 x1)), none]) c124_13 rfl (x_ildn c124_14 rfl (x_ildn c124_15 rfl (x_cge c124_16 H.2.2.1.1 H.2.2.1.2 (fun h3 => (x_ci c124_30 (x_zrt c124_31 r124 (by decide) (H.2.2.2.1 h3)))) (fun h4 => (x_ildn c124_19 rfl (x_aldn c124_20 rfl (x_gfr c124_21 k_34_6 (x_gfi c124_24 k_11_4 (x_clt c124_27 (H.2.2.2.2 h4).1.1 (H.2.2.2.2 h4).1.2 (fun h1 => (x_aldn c124_32 rfl (x_gfr c124_33 k_34_6 (x_gfr c124_36 k_11_9 (x_ildn c124_39 rfl (x_iald c124_40 a_16 ((H.2.2.2.2 h4).2.1 h1).1 (by decide) (x_aldn c124_41 rfl (x_gfr c124_42 k_34_6 (x_gfr c124_45 k_11_9 (x_ildn c124_48 rfl (x_iald c124_49 a_16 ((H.2.2.2.2 h4).2.1 h1).2.1 (by decide) (x_iand c124_50 (x_ist (l' := [some (jR 34), some (jI x1), some (jI (M 36 x1)), some (jI (M 37 x1)), some (jI (fx_and (M 16 (M 36 x1)) (M 16 (M 37 x1))))]) c124_51 rfl (x_aldn c124_53 rfl (x_gfr c124_54 k_34_6 (x_gfr c124_57 k_11_9 (x_ildn c124_60 rfl (x_iald c124_61 a_16 ((H.2.2.2.2 h4).2.1 h1).2.2.1 (by decide) (x_aldn c124_62 rfl (x_gfr c124_63 k_34_6 (x_gfr c124_66 k_11_9 (x_ildn c124_69 rfl (x_iald c124_70 a_16 ((H.2.2.2.2 h4).2.1 h1).2.2.2.1 (by decide) (x_ior c124_71 (wp_wk (l' := [some (jR 34), some (jI x1), some (jI (M 36 x1)), some (jI (M 37 x1)), some (jI (fx_and (M 16 (M 36 x1)) (M 16 (M 37 x1))))]) ⟨rfl, ⟨rfl, ⟨rfl, ⟨rfl, ⟨rfl, trivial⟩⟩⟩⟩⟩ (x_cs (As := [jI (fx_or (M 16 (M 36 x1)) (M 16 (M 37 x1)))]) (st := []) c124_72 (by decide) rfl (Nat.le_of_ble_eq_true rfl) mx79 (Nat.le_refl _) ((H.2.2.2.2 h4).2.1 h1).2.2.2.2)))))))))))))))))))))))))) (fun h2 => (x_ci c124_30 (x_zrt c124_31 r124 (by decide) ((H.2.2.2.2 h4).2.2 h2)))))))))))))))))))))))
theorem s124_75 {kc : List va_E} {d : Nat} {v1 v2 v3 v4 u0 : Int} {M : fx_M} {Q : Option fx_V → fx_M → Prop} (H : ((fx_in32 u0)) ∧ (6 < u0 → Q (some (jI 0)) M) ∧ (u0 ≤ 6 → wc kc d 123 [jR 34, jI v1] M (fun v M1 => wp kc (d + 1) 124 91 [none, none, none, none, some (jI v4)] (v.toList ++ [jI v3, jI v2, jR 11]) M1 Q))) : wp kc (d + 1) 124 75 [some (jR 34), some (jI v1), some (jI v2), some (jI v3), some (jI v4)] [jI u0] M Q :=
  (x_ci c124_75 (x_cgt c124_77 H.1 (by decide) (fun h1 => (x_ci c124_105 (x_zrt c124_106 r124 (by decide) (H.2.1 h1)))) (fun h2 => (x_aldn c124_80 rfl (x_gfr c124_81 k_34_6 (x_ildn c124_84 rfl (x_ildn c124_85 rfl (x_aldn c124_86 rfl (x_ildn c124_87 rfl (wp_wk (l' := [none, none, none, none, some (jI v4)]) ⟨rfl, trivial⟩ (x_cv (As := [jI v1]) (st := [jI v3, jI v2, jR 11]) c124_88 cl_34 kl123 rfl (Nat.le_of_ble_eq_true rfl) mx123 (Nat.le_refl _) (H.2.2 h2))))))))))))
theorem s124_91 {kc : List va_E} {d : Nat} {v4 u0 u1 u2 : Int} {M : fx_M} {Q : Option fx_V → fx_M → Prop} (H : wc kc d 125 [jR 11, jI u2, jI u1, jL u0, jI v4] M (fun v M1 => wp kc (d + 1) 124 96 [none, none, none, none, none] (v.toList ++ []) M1 Q)) : wp kc (d + 1) 124 91 [none, none, none, none, some (jI v4)] [jL u0, jI u1, jI u2, jR 11] M Q :=
  (x_ild c124_91 rfl (wp_wk (l' := [none, none, none, none, none]) trivial (x_cv (As := [jI u2, jI u1, jL u0, jI v4]) (st := []) c124_93 cl_11 kl125 rfl (Nat.le_of_ble_eq_true rfl) mx125 (Nat.le_refl _) H)))
theorem s124_96 {kc : List va_E} {d : Nat} {u0 : Int} {M : fx_M} {Q : Option fx_V → fx_M → Prop} (H : ((fx_in64 u0)) ∧ ((0 : Int) ≤ (if fx_cmp u0 0 = 0 then (1 : Int) else 0) ∧ (if fx_cmp u0 0 = 0 then (1 : Int) else 0) ≤ 1) ∧ Q (some (jI (if fx_cmp u0 0 = 0 then (1 : Int) else 0))) M) : wp kc (d + 1) 124 96 [none, none, none, none, none] [jL u0] M Q :=
  (x_cj c124_96 (x_lcmp c124_97 H.1 (by decide) (have K : wp kc (d + 1) 124 106 [none, none, none, none, none] [jI (if fx_cmp u0 0 = 0 then (1 : Int) else 0)] M Q := (x_zrt c124_106 r124 H.2.1 H.2.2); (x_zne c124_98 (fx_cmp_in _ _) (fun (h1 : fx_cmp u0 0 ≠ 0) => (x_ci c124_105 (wp_wk (l' := [none, none, none, none, none]) trivial (by have K := K; first | (simp only [if_neg h1] at K ⊢; exact K) | (exfalso; omega))))) (fun (h2 : fx_cmp u0 0 = 0) => (x_ci c124_101 (x_goto c124_102 (wp_wk (l' := [none, none, none, none, none]) trivial (by have K := K; first | (simp only [if_pos h2] at K ⊢; exact K) | (exfalso; omega))))))))))
theorem s124 {kc : List va_E} {d : Nat} {x1 : Int} {M : fx_M} {Q : Option fx_V → fx_M → Prop} (H : (((0 : Int) ≤ x1 ∧ x1 < 1600)) ∧ (((0 : Int) ≤ x1 ∧ x1 < 1600)) ∧ ((fx_in32 (M 36 x1)) ∧ (fx_in32 (M 37 x1))) ∧ (M 37 x1 ≤ M 36 x1 → Q (some (jI 0)) M) ∧ (M 36 x1 < M 37 x1 → ((fx_in32 (M 37 x1)) ∧ (fx_in32 (M 11 4))) ∧ (M 37 x1 < M 11 4 → (((0 : Int) ≤ M 36 x1 ∧ M 36 x1 < 12)) ∧ (((0 : Int) ≤ M 37 x1 ∧ M 37 x1 < 12)) ∧ (((0 : Int) ≤ M 36 x1 ∧ M 36 x1 < 12)) ∧ (((0 : Int) ≤ M 37 x1 ∧ M 37 x1 < 12)) ∧ wc kc d 79 [jI (fx_or (M 16 (M 36 x1)) (M 16 (M 37 x1)))] M (fun v M1 => wp kc (d + 1) 124 75 [some (jR 34), some (jI x1), some (jI (M 36 x1)), some (jI (M 37 x1)), some (jI (fx_and (M 16 (M 36 x1)) (M 16 (M 37 x1))))] (v.toList ++ []) M1 Q)) ∧ (M 11 4 ≤ M 37 x1 → Q (some (jI 0)) M))) : wc kc (d + 1) 124 [jR 34, jI x1] M Q :=
  wc_of (wp_wk (l' := [some (jR 34), some (jI x1), none, none, none]) ⟨rfl, ⟨rfl, trivial⟩⟩ (s124_0 H))

/- PuzzleHouse$Checker.isByUnits(I)Z -/
theorem c126_0 : fx_op 126 0 = some (.aload_n 0, 1, 0) := by decide +kernel
theorem c126_1 : fx_op 126 1 = some (.iload_n 1, 2, 1) := by decide +kernel
theorem c126_2 : fx_ca 126 2 = some (123, 2, 2, 5) := by decide +kernel
theorem c126_5 : fx_op 126 5 = some (.lstore_n 2, 6, 5) := by decide +kernel
theorem c126_6 : fx_op 126 6 = some (.lload_n 2, 7, 6) := by decide +kernel
theorem c126_7 : fx_ca 126 7 = some (114, 1, 1, 10) := by decide +kernel
theorem c126_10 : fx_op 126 10 = some (.ifCond .eq 5, 13, 15) := by decide +kernel
theorem c126_15 : fx_op 126 15 = some (.lload_n 2, 16, 15) := by decide +kernel
theorem c126_13 : fx_ci 126 13 = some (1, 14) := by decide +kernel
theorem c126_16 : fx_ca 126 16 = some (127, 1, 1, 19) := by decide +kernel
theorem c126_14 : fx_op 126 14 = some (.ireturn, 15, 14) := by decide +kernel
theorem c126_19 : fx_op 126 19 = some (.lstore 4, 21, 19) := by decide +kernel
theorem c126_21 : fx_ci 126 21 = some (0, 22) := by decide +kernel
theorem c126_22 : fx_op 126 22 = some (.istore 6, 24, 22) := by decide +kernel
theorem c126_24 : fx_op 126 24 = some (.iload 6, 26, 24) := by decide +kernel
theorem c126_26 : fx_ci 126 26 = some (40, 28) := by decide +kernel
theorem c126_28 : fx_op 126 28 = some (.if_icmp .ge 150, 31, 178) := by decide +kernel
theorem c126_178 : fx_ci 126 178 = some (0, 179) := by decide +kernel
theorem c126_31 : fx_op 126 31 = some (.lload_n 2, 32, 31) := by decide +kernel
theorem c126_32 : fx_op 126 32 = some (.lstore 7, 34, 32) := by decide +kernel
theorem c126_34 : fx_ci 126 34 = some (0, 35) := by decide +kernel
theorem c126_35 : fx_op 126 35 = some (.istore 9, 37, 35) := by decide +kernel
theorem c126_179 : fx_op 126 179 = some (.ireturn, 180, 179) := by decide +kernel
theorem c126_37 : fx_op 126 37 = some (.iload 9, 39, 37) := by decide +kernel
theorem c126_39 : fx_op 126 39 = some (.iload_n 1, 40, 39) := by decide +kernel
theorem c126_40 : fx_op 126 40 = some (.if_icmp .ge 123, 43, 163) := by decide +kernel
theorem c126_163 : fx_op 126 163 = some (.lload_n 2, 164, 163) := by decide +kernel
theorem c126_164 : fx_op 126 164 = some (.lload 7, 166, 164) := by decide +kernel
theorem c126_167 : fx_op 126 167 = some (.ifCond .ne 5, 170, 172) := by decide +kernel
theorem c126_172 : fx_op 126 172 = some (.iinc 6 1, 175, 172) := by decide +kernel
theorem c126_170 : fx_ci 126 170 = some (0, 171) := by decide +kernel
theorem c126_43 : fx_op 126 43 = some (.aload_n 0, 44, 43) := by decide +kernel
theorem c126_44 : fx_gf 126 44 = some (6, 4, 47) := by decide +kernel
theorem c126_47 : fx_op 126 47 = some (.iload 9, 49, 47) := by decide +kernel
theorem c126_50 : fx_op 126 50 = some (.lload 4, 52, 50) := by decide +kernel
theorem c126_52 : fx_op 126 52 = some (.land, 53, 52) := by decide +kernel
theorem c126_53 : fx_op 126 53 = some (.aload_n 0, 54, 53) := by decide +kernel
theorem c126_54 : fx_gf 126 54 = some (6, 5, 57) := by decide +kernel
theorem c126_57 : fx_op 126 57 = some (.iload 9, 59, 57) := by decide +kernel
theorem c126_60 : fx_op 126 60 = some (.lload_n 2, 61, 60) := by decide +kernel
theorem c126_61 : fx_cj 126 61 = some ((-1), 64) := by decide +kernel
theorem c126_64 : fx_op 126 64 = some (.lxor, 65, 64) := by decide +kernel
theorem c126_65 : fx_op 126 65 = some (.land, 66, 65) := by decide +kernel
theorem c126_66 : fx_op 126 66 = some (.lor, 67, 66) := by decide +kernel
theorem c126_67 : fx_cj 126 67 = some (0, 68) := by decide +kernel
theorem c126_69 : fx_op 126 69 = some (.ifCond .ne 88, 72, 157) := by decide +kernel
theorem c126_157 : fx_op 126 157 = some (.iinc 9 1, 160, 157) := by decide +kernel
theorem c126_72 : fx_op 126 72 = some (.aload_n 0, 73, 72) := by decide +kernel
theorem c126_73 : fx_gf 126 73 = some (6, 4, 76) := by decide +kernel
theorem c126_76 : fx_op 126 76 = some (.iload 9, 78, 76) := by decide +kernel
theorem c126_79 : fx_op 126 79 = some (.lload_n 2, 80, 79) := by decide +kernel
theorem c126_80 : fx_op 126 80 = some (.land, 81, 80) := by decide +kernel
theorem c126_81 : fx_op 126 81 = some (.lstore 10, 83, 81) := by decide +kernel
theorem c126_83 : fx_op 126 83 = some (.aload_n 0, 84, 83) := by decide +kernel
theorem c126_84 : fx_gf 126 84 = some (6, 5, 87) := by decide +kernel
theorem c126_87 : fx_op 126 87 = some (.iload 9, 89, 87) := by decide +kernel
theorem c126_90 : fx_op 126 90 = some (.lload 4, 92, 90) := by decide +kernel
theorem c126_92 : fx_cj 126 92 = some ((-1), 95) := by decide +kernel
theorem c126_95 : fx_op 126 95 = some (.lxor, 96, 95) := by decide +kernel
theorem c126_96 : fx_op 126 96 = some (.land, 97, 96) := by decide +kernel
theorem c126_97 : fx_op 126 97 = some (.lstore 12, 99, 97) := by decide +kernel
theorem c126_99 : fx_op 126 99 = some (.lload 10, 101, 99) := by decide +kernel
theorem c126_166 : fx_op 126 166 = some (.lcmp, 167, 166) := by decide +kernel
theorem c126_175 : fx_op 126 175 = some (.goto (-151), 178, 24) := by decide +kernel
theorem c126_171 : fx_op 126 171 = some (.ireturn, 172, 171) := by decide +kernel
theorem c126_49 : fx_op 126 49 = some (.laload, 50, 49) := by decide +kernel
theorem c126_59 : fx_op 126 59 = some (.laload, 60, 59) := by decide +kernel
theorem c126_68 : fx_op 126 68 = some (.lcmp, 69, 68) := by decide +kernel
theorem c126_160 : fx_op 126 160 = some (.goto (-123), 163, 37) := by decide +kernel
theorem c126_78 : fx_op 126 78 = some (.laload, 79, 78) := by decide +kernel
theorem c126_89 : fx_op 126 89 = some (.laload, 90, 89) := by decide +kernel
theorem c126_101 : fx_ca 126 101 = some (128, 1, 0, 104) := by decide +kernel
theorem c126_104 : fx_op 126 104 = some (.lload 12, 106, 104) := by decide +kernel
theorem c126_106 : fx_ca 126 106 = some (128, 1, 0, 109) := by decide +kernel
theorem c126_109 : fx_op 126 109 = some (.iadd, 110, 109) := by decide +kernel
theorem c126_110 : fx_op 126 110 = some (.istore 14, 112, 110) := by decide +kernel
theorem c126_112 : fx_op 126 112 = some (.iload 14, 114, 112) := by decide +kernel
theorem c126_114 : fx_op 126 114 = some (.ifCond .ne 5, 117, 119) := by decide +kernel
theorem c126_119 : fx_op 126 119 = some (.iload 14, 121, 119) := by decide +kernel
theorem c126_121 : fx_ci 126 121 = some (1, 122) := by decide +kernel
theorem c126_122 : fx_op 126 122 = some (.if_icmp .ne 35, 125, 157) := by decide +kernel
theorem c126_125 : fx_op 126 125 = some (.lload 10, 127, 125) := by decide +kernel
theorem c126_127 : fx_cj 126 127 = some (0, 128) := by decide +kernel
theorem c126_128 : fx_op 126 128 = some (.lcmp, 129, 128) := by decide +kernel
theorem c126_129 : fx_op 126 129 = some (.ifCond .eq 13, 132, 142) := by decide +kernel
theorem c126_142 : fx_op 126 142 = some (.lload_n 2, 143, 142) := by decide +kernel
theorem c126_143 : fx_op 126 143 = some (.lload 12, 145, 143) := by decide +kernel
theorem c126_145 : fx_cj 126 145 = some ((-1), 148) := by decide +kernel
theorem c126_148 : fx_op 126 148 = some (.lxor, 149, 148) := by decide +kernel
theorem c126_149 : fx_op 126 149 = some (.land, 150, 149) := by decide +kernel
theorem c126_150 : fx_op 126 150 = some (.lstore_n 2, 151, 150) := by decide +kernel
theorem c126_151 : fx_op 126 151 = some (.lload_n 2, 152, 151) := by decide +kernel
theorem c126_132 : fx_op 126 132 = some (.aload_n 0, 133, 132) := by decide +kernel
theorem c126_133 : fx_op 126 133 = some (.lload_n 2, 134, 133) := by decide +kernel
theorem c126_134 : fx_op 126 134 = some (.lload 10, 136, 134) := by decide +kernel
theorem c126_117 : fx_ci 126 117 = some (1, 118) := by decide +kernel
theorem c126_152 : fx_ca 126 152 = some (127, 1, 1, 155) := by decide +kernel
theorem c126_136 : fx_ca 126 136 = some (129, 3, 2, 139) := by decide +kernel
theorem c126_118 : fx_op 126 118 = some (.ireturn, 119, 118) := by decide +kernel
theorem c126_155 : fx_op 126 155 = some (.lstore 4, 157, 155) := by decide +kernel
theorem c126_139 : fx_op 126 139 = some (.goto 11, 142, 150) := by decide +kernel
theorem s126_0 {kc : List va_E} {d : Nat} {x1 : Int} {M : fx_M} {Q : Option fx_V → fx_M → Prop} (H : wc kc d 123 [jR 34, jI x1] M (fun v M1 => wp kc (d + 1) 126 5 [some (jR 34), some (jI x1), none, none, none, none, none, none, none, none, none, none, none, none, none] (v.toList ++ []) M1 Q)) : wp kc (d + 1) 126 0 [some (jR 34), some (jI x1), none, none, none, none, none, none, none, none, none, none, none, none, none] [] M Q :=
  (x_aldn c126_0 rfl (x_ildn c126_1 rfl (wp_wk (l' := [some (jR 34), some (jI x1), none, none, none, none, none, none, none, none, none, none, none, none, none]) ⟨rfl, ⟨rfl, trivial⟩⟩ (x_cv (As := [jI x1]) (st := []) c126_2 cl_34 kl123 rfl (Nat.le_of_ble_eq_true rfl) mx123 (Nat.le_refl _) H))))
theorem s126_5 {kc : List va_E} {d : Nat} {v1 u0 : Int} {M : fx_M} {Q : Option fx_V → fx_M → Prop} (H : wc kc d 114 [jL u0] M (fun v M1 => wp kc (d + 1) 126 10 [some (jR 34), some (jI v1), some (jL u0), none, none, none, none, none, none, none, none, none, none, none, none] (v.toList ++ []) M1 Q)) : wp kc (d + 1) 126 5 [some (jR 34), some (jI v1), none, none, none, none, none, none, none, none, none, none, none, none, none] [jL u0] M Q :=
  (x_lstn (l' := [some (jR 34), some (jI v1), some (jL u0), none, none, none, none, none, none, none, none, none, none, none, none]) c126_5 rfl (x_lldn c126_6 rfl (wp_wk (l' := [some (jR 34), some (jI v1), some (jL u0), none, none, none, none, none, none, none, none, none, none, none, none]) ⟨rfl, ⟨rfl, ⟨rfl, trivial⟩⟩⟩ (x_cs (As := [jL u0]) (st := []) c126_7 (by decide) rfl (Nat.le_of_ble_eq_true rfl) mx114 (Nat.le_refl _) H))))
theorem s126_10 {kc : List va_E} {d : Nat} {v1 v2 u0 : Int} {M : fx_M} {Q : Option fx_V → fx_M → Prop} (H : ((fx_in32 u0)) ∧ (u0 = 0 → wc kc d 127 [jL v2] M (fun v M1 => wp kc (d + 1) 126 19 [some (jR 34), some (jI v1), some (jL v2), none, none, none, none, none, none, none, none, none, none, none, none] (v.toList ++ []) M1 Q)) ∧ (u0 ≠ 0 → Q (some (jI 1)) M)) : wp kc (d + 1) 126 10 [some (jR 34), some (jI v1), some (jL v2), none, none, none, none, none, none, none, none, none, none, none, none] [jI u0] M Q :=
  (x_zeq c126_10 H.1 (fun h1 => (x_lldn c126_15 rfl (wp_wk (l' := [some (jR 34), some (jI v1), some (jL v2), none, none, none, none, none, none, none, none, none, none, none, none]) ⟨rfl, ⟨rfl, ⟨rfl, trivial⟩⟩⟩ (x_cs (As := [jL v2]) (st := []) c126_16 (by decide) rfl (Nat.le_of_ble_eq_true rfl) mx127 (Nat.le_refl _) (H.2.1 h1))))) (fun h2 => (x_ci c126_13 (x_zrt c126_14 r126 (by decide) (H.2.2 h2)))))
theorem s126_19 {kc : List va_E} {d : Nat} {v1 v2 u0 : Int} {M : fx_M} {Q : Option fx_V → fx_M → Prop} (H : wp kc (d + 1) 126 24 [some (jR 34), some (jI v1), some (jL v2), none, some (jL u0), none, some (jI 0), none, none, none, none, none, none, none, none] [] M Q) : wp kc (d + 1) 126 19 [some (jR 34), some (jI v1), some (jL v2), none, none, none, none, none, none, none, none, none, none, none, none] [jL u0] M Q :=
  (x_lst (l' := [some (jR 34), some (jI v1), some (jL v2), none, some (jL u0), none, none, none, none, none, none, none, none, none, none]) c126_19 rfl (x_ci c126_21 (x_ist (l' := [some (jR 34), some (jI v1), some (jL v2), none, some (jL u0), none, some (jI 0), none, none, none, none, none, none, none, none]) c126_22 rfl (wp_wk (l' := [some (jR 34), some (jI v1), some (jL v2), none, some (jL u0), none, some (jI 0), none, none, none, none, none, none, none, none]) ⟨rfl, ⟨rfl, ⟨rfl, ⟨rfl, ⟨rfl, trivial⟩⟩⟩⟩⟩ H))))
theorem s126_24 {kc : List va_E} {d : Nat} {v1 v2 v4 v6 : Int} {M : fx_M} {Q : Option fx_V → fx_M → Prop} (H : ((fx_in32 v6)) ∧ (40 ≤ v6 → Q (some (jI 0)) M) ∧ (v6 < 40 → wp kc (d + 1) 126 37 [some (jR 34), some (jI v1), some (jL v2), none, some (jL v4), none, some (jI v6), some (jL v2), none, some (jI 0), none, none, none, none, none] [] M Q)) : wp kc (d + 1) 126 24 [some (jR 34), some (jI v1), some (jL v2), none, some (jL v4), none, some (jI v6), none, none, none, none, none, none, none, none] [] M Q :=
  (x_ild c126_24 rfl (x_ci c126_26 (x_cge c126_28 H.1 (by decide) (fun h1 => (x_ci c126_178 (x_zrt c126_179 r126 (by decide) (H.2.1 h1)))) (fun h2 => (x_lldn c126_31 rfl (x_lst (l' := [some (jR 34), some (jI v1), some (jL v2), none, some (jL v4), none, some (jI v6), some (jL v2), none, none, none, none, none, none, none]) c126_32 rfl (x_ci c126_34 (x_ist (l' := [some (jR 34), some (jI v1), some (jL v2), none, some (jL v4), none, some (jI v6), some (jL v2), none, some (jI 0), none, none, none, none, none]) c126_35 rfl (wp_wk (l' := [some (jR 34), some (jI v1), some (jL v2), none, some (jL v4), none, some (jI v6), some (jL v2), none, some (jI 0), none, none, none, none, none]) ⟨rfl, ⟨rfl, ⟨rfl, ⟨rfl, ⟨rfl, ⟨rfl, ⟨rfl, trivial⟩⟩⟩⟩⟩⟩⟩ (H.2.2 h2))))))))))
theorem s126_37 {kc : List va_E} {d : Nat} {v1 v2 v4 v6 v7 v9 : Int} {M : fx_M} {Q : Option fx_V → fx_M → Prop} (H : ((fx_in32 v9) ∧ (fx_in32 v1)) ∧ (v1 ≤ v9 → ((fx_in64 v2) ∧ (fx_in64 v7)) ∧ (fx_cmp v2 v7 ≠ 0 → wp kc (d + 1) 126 24 [some (jR 34), some (jI v1), some (jL v2), none, some (jL v4), none, some (jI (v6 + 1)), none, none, none, none, none, none, none, none] [] M Q) ∧ (fx_cmp v2 v7 = 0 → Q (some (jI 0)) M)) ∧ (v9 < v1 → (((0 : Int) ≤ v9 ∧ v9 < 1600)) ∧ (((0 : Int) ≤ v9 ∧ v9 < 1600)) ∧ ((fx_in64 (fx_lor (fx_land (M 38 v9) v4) (fx_land (M 39 v9) (fx_lxor v2 (-1)))))) ∧ (fx_cmp (fx_lor (fx_land (M 38 v9) v4) (fx_land (M 39 v9) (fx_lxor v2 (-1)))) 0 ≠ 0 → wp kc (d + 1) 126 37 [some (jR 34), some (jI v1), some (jL v2), none, some (jL v4), none, some (jI v6), some (jL v7), none, some (jI (v9 + 1)), none, none, none, none, none] [] M Q) ∧ (fx_cmp (fx_lor (fx_land (M 38 v9) v4) (fx_land (M 39 v9) (fx_lxor v2 (-1)))) 0 = 0 → (((0 : Int) ≤ v9 ∧ v9 < 1600)) ∧ (((0 : Int) ≤ v9 ∧ v9 < 1600)) ∧ wc kc d 128 [jL (fx_land (M 38 v9) v2)] M (fun v M1 => wp kc (d + 1) 126 104 [some (jR 34), some (jI v1), some (jL v2), none, some (jL v4), none, some (jI v6), some (jL v7), none, some (jI v9), some (jL (fx_land (M 38 v9) v2)), none, some (jL (fx_land (M 39 v9) (fx_lxor v4 (-1)))), none, none] (v.toList ++ []) M1 Q)))) : wp kc (d + 1) 126 37 [some (jR 34), some (jI v1), some (jL v2), none, some (jL v4), none, some (jI v6), some (jL v7), none, some (jI v9), none, none, none, none, none] [] M Q :=
  (x_ild c126_37 rfl (x_ildn c126_39 rfl (x_cge c126_40 H.1.1 H.1.2 (fun h5 => (x_lldn c126_163 rfl (x_lld c126_164 rfl (x_lcmp c126_166 (H.2.1 h5).1.1 (H.2.1 h5).1.2 (x_zne c126_167 (fx_cmp_in _ _) (fun h1 => (x_inc (l' := [some (jR 34), some (jI v1), some (jL v2), none, some (jL v4), none, some (jI (v6 + 1)), some (jL v7), none, some (jI v9), none, none, none, none, none]) c126_172 rfl rfl (x_goto c126_175 (wp_wk (l' := [some (jR 34), some (jI v1), some (jL v2), none, some (jL v4), none, some (jI (v6 + 1)), none, none, none, none, none, none, none, none]) ⟨rfl, ⟨rfl, ⟨rfl, ⟨rfl, ⟨rfl, trivial⟩⟩⟩⟩⟩ ((H.2.1 h5).2.1 h1))))) (fun h2 => (x_ci c126_170 (x_zrt c126_171 r126 (by decide) ((H.2.1 h5).2.2 h2))))))))) (fun h6 => (x_aldn c126_43 rfl (x_gfr c126_44 k_34_4 (x_ild c126_47 rfl (x_lald c126_49 a_38 (H.2.2 h6).1 (by decide) (x_lld c126_50 rfl (x_land c126_52 (x_aldn c126_53 rfl (x_gfr c126_54 k_34_5 (x_ild c126_57 rfl (x_lald c126_59 a_39 (H.2.2 h6).2.1 (by decide) (x_lldn c126_60 rfl (x_cj c126_61 (x_lxor c126_64 (x_land c126_65 (x_lor c126_66 (x_cj c126_67 (x_lcmp c126_68 (H.2.2 h6).2.2.1 (by decide) (x_zne c126_69 (fx_cmp_in _ _) (fun h3 => (x_inc (l' := [some (jR 34), some (jI v1), some (jL v2), none, some (jL v4), none, some (jI v6), some (jL v7), none, some (jI (v9 + 1)), none, none, none, none, none]) c126_157 rfl rfl (x_goto c126_160 (wp_wk (l' := [some (jR 34), some (jI v1), some (jL v2), none, some (jL v4), none, some (jI v6), some (jL v7), none, some (jI (v9 + 1)), none, none, none, none, none]) ⟨rfl, ⟨rfl, ⟨rfl, ⟨rfl, ⟨rfl, ⟨rfl, ⟨rfl, trivial⟩⟩⟩⟩⟩⟩⟩ ((H.2.2 h6).2.2.2.1 h3))))) (fun h4 => (x_aldn c126_72 rfl (x_gfr c126_73 k_34_4 (x_ild c126_76 rfl (x_lald c126_78 a_38 ((H.2.2 h6).2.2.2.2 h4).1 (by decide) (x_lldn c126_79 rfl (x_land c126_80 (x_lst (l' := [some (jR 34), some (jI v1), some (jL v2), none, some (jL v4), none, some (jI v6), some (jL v7), none, some (jI v9), some (jL (fx_land (M 38 v9) v2)), none, none, none, none]) c126_81 rfl (x_aldn c126_83 rfl (x_gfr c126_84 k_34_5 (x_ild c126_87 rfl (x_lald c126_89 a_39 ((H.2.2 h6).2.2.2.2 h4).2.1 (by decide) (x_lld c126_90 rfl (x_cj c126_92 (x_lxor c126_95 (x_land c126_96 (x_lst (l' := [some (jR 34), some (jI v1), some (jL v2), none, some (jL v4), none, some (jI v6), some (jL v7), none, some (jI v9), some (jL (fx_land (M 38 v9) v2)), none, some (jL (fx_land (M 39 v9) (fx_lxor v4 (-1)))), none, none]) c126_97 rfl (x_lld c126_99 rfl (wp_wk (l' := [some (jR 34), some (jI v1), some (jL v2), none, some (jL v4), none, some (jI v6), some (jL v7), none, some (jI v9), some (jL (fx_land (M 38 v9) v2)), none, some (jL (fx_land (M 39 v9) (fx_lxor v4 (-1)))), none, none]) ⟨rfl, ⟨rfl, ⟨rfl, ⟨rfl, ⟨rfl, ⟨rfl, ⟨rfl, ⟨rfl, ⟨rfl, trivial⟩⟩⟩⟩⟩⟩⟩⟩⟩ (x_cs (As := [jL (fx_land (M 38 v9) v2)]) (st := []) c126_101 (by decide) rfl (Nat.le_of_ble_eq_true rfl) mx128 (Nat.le_refl _) ((H.2.2 h6).2.2.2.2 h4).2.2))))))))))))))))))))))))))))))))))))))))))
theorem s126_104 {kc : List va_E} {d : Nat} {v1 v2 v4 v6 v7 v9 v10 v12 u0 : Int} {M : fx_M} {Q : Option fx_V → fx_M → Prop} (H : wc kc d 128 [jL v12] M (fun v M1 => wp kc (d + 1) 126 109 [some (jR 34), some (jI v1), some (jL v2), none, some (jL v4), none, some (jI v6), some (jL v7), none, some (jI v9), some (jL v10), none, some (jL v12), none, none] (v.toList ++ [jI u0]) M1 Q)) : wp kc (d + 1) 126 104 [some (jR 34), some (jI v1), some (jL v2), none, some (jL v4), none, some (jI v6), some (jL v7), none, some (jI v9), some (jL v10), none, some (jL v12), none, none] [jI u0] M Q :=
  (x_lld c126_104 rfl (wp_wk (l' := [some (jR 34), some (jI v1), some (jL v2), none, some (jL v4), none, some (jI v6), some (jL v7), none, some (jI v9), some (jL v10), none, some (jL v12), none, none]) ⟨rfl, ⟨rfl, ⟨rfl, ⟨rfl, ⟨rfl, ⟨rfl, ⟨rfl, ⟨rfl, ⟨rfl, trivial⟩⟩⟩⟩⟩⟩⟩⟩⟩ (x_cs (As := [jL v12]) (st := [jI u0]) c126_106 (by decide) rfl (Nat.le_of_ble_eq_true rfl) mx128 (Nat.le_refl _) H)))
theorem s126_109 {kc : List va_E} {d : Nat} {v1 v2 v4 v6 v7 v9 v10 v12 u0 u1 : Int} {M : fx_M} {Q : Option fx_V → fx_M → Prop} (H : ((fx_in32 (u1 + u0))) ∧ (u1 + u0 ≠ 0 → ((fx_in32 (u1 + u0))) ∧ (u1 + u0 ≠ 1 → wp kc (d + 1) 126 37 [some (jR 34), some (jI v1), some (jL v2), none, some (jL v4), none, some (jI v6), some (jL v7), none, some (jI (v9 + 1)), none, none, none, none, none] [] M Q) ∧ (u1 + u0 = 1 → ((fx_in64 v10)) ∧ (fx_cmp v10 0 = 0 → wc kc d 127 [jL (fx_land v2 (fx_lxor v12 (-1)))] M (fun v M1 => wp kc (d + 1) 126 155 [some (jR 34), some (jI v1), some (jL (fx_land v2 (fx_lxor v12 (-1)))), none, none, none, some (jI v6), some (jL v7), none, some (jI v9), none, none, none, none, none] (v.toList ++ []) M1 Q)) ∧ (fx_cmp v10 0 ≠ 0 → wc kc d 129 [jR 34, jL v2, jL v10] M (fun v M1 => wp kc (d + 1) 126 139 [some (jR 34), some (jI v1), none, none, none, none, some (jI v6), some (jL v7), none, some (jI v9), none, none, none, none, none] (v.toList ++ []) M1 Q)))) ∧ (u1 + u0 = 0 → Q (some (jI 1)) M)) : wp kc (d + 1) 126 109 [some (jR 34), some (jI v1), some (jL v2), none, some (jL v4), none, some (jI v6), some (jL v7), none, some (jI v9), some (jL v10), none, some (jL v12), none, none] [jI u0, jI u1] M Q :=
  (x_iadd c126_109 (x_ist (l' := [some (jR 34), some (jI v1), some (jL v2), none, some (jL v4), none, some (jI v6), some (jL v7), none, some (jI v9), some (jL v10), none, some (jL v12), none, some (jI (u1 + u0))]) c126_110 rfl (x_ild c126_112 rfl (x_zne c126_114 H.1 (fun h5 => (x_ild c126_119 rfl (x_ci c126_121 (x_cne c126_122 (H.2.1 h5).1 (by decide) (fun h3 => (x_inc (l' := [some (jR 34), some (jI v1), some (jL v2), none, some (jL v4), none, some (jI v6), some (jL v7), none, some (jI (v9 + 1)), some (jL v10), none, some (jL v12), none, some (jI (u1 + u0))]) c126_157 rfl rfl (x_goto c126_160 (wp_wk (l' := [some (jR 34), some (jI v1), some (jL v2), none, some (jL v4), none, some (jI v6), some (jL v7), none, some (jI (v9 + 1)), none, none, none, none, none]) ⟨rfl, ⟨rfl, ⟨rfl, ⟨rfl, ⟨rfl, ⟨rfl, ⟨rfl, trivial⟩⟩⟩⟩⟩⟩⟩ ((H.2.1 h5).2.1 h3))))) (fun h4 => (x_lld c126_125 rfl (x_cj c126_127 (x_lcmp c126_128 ((H.2.1 h5).2.2 h4).1 (by decide) (x_zeq c126_129 (fx_cmp_in _ _) (fun h1 => (x_lldn c126_142 rfl (x_lld c126_143 rfl (x_cj c126_145 (x_lxor c126_148 (x_land c126_149 (x_lstn (l' := [some (jR 34), some (jI v1), some (jL (fx_land v2 (fx_lxor v12 (-1)))), none, some (jL v4), none, some (jI v6), some (jL v7), none, some (jI v9), some (jL v10), none, some (jL v12), none, some (jI (u1 + u0))]) c126_150 rfl (x_lldn c126_151 rfl (wp_wk (l' := [some (jR 34), some (jI v1), some (jL (fx_land v2 (fx_lxor v12 (-1)))), none, none, none, some (jI v6), some (jL v7), none, some (jI v9), none, none, none, none, none]) ⟨rfl, ⟨rfl, ⟨rfl, ⟨rfl, ⟨rfl, ⟨rfl, trivial⟩⟩⟩⟩⟩⟩ (x_cs (As := [jL (fx_land v2 (fx_lxor v12 (-1)))]) (st := []) c126_152 (by decide) rfl (Nat.le_of_ble_eq_true rfl) mx127 (Nat.le_refl _) (((H.2.1 h5).2.2 h4).2.1 h1))))))))))) (fun h2 => (x_aldn c126_132 rfl (x_lldn c126_133 rfl (x_lld c126_134 rfl (wp_wk (l' := [some (jR 34), some (jI v1), none, none, none, none, some (jI v6), some (jL v7), none, some (jI v9), none, none, none, none, none]) ⟨rfl, ⟨rfl, ⟨rfl, ⟨rfl, ⟨rfl, trivial⟩⟩⟩⟩⟩ (x_cv (As := [jL v2, jL v10]) (st := []) c126_136 cl_34 kl129 rfl (Nat.le_of_ble_eq_true rfl) mx129 (Nat.le_refl _) (((H.2.1 h5).2.2 h4).2.2 h2)))))))))))))))) (fun h6 => (x_ci c126_117 (x_zrt c126_118 r126 (by decide) (H.2.2 h6))))))))
theorem s126_139 {kc : List va_E} {d : Nat} {v1 v6 v7 v9 u0 : Int} {M : fx_M} {Q : Option fx_V → fx_M → Prop} (H : wc kc d 127 [jL u0] M (fun v M1 => wp kc (d + 1) 126 155 [some (jR 34), some (jI v1), some (jL u0), none, none, none, some (jI v6), some (jL v7), none, some (jI v9), none, none, none, none, none] (v.toList ++ []) M1 Q)) : wp kc (d + 1) 126 139 [some (jR 34), some (jI v1), none, none, none, none, some (jI v6), some (jL v7), none, some (jI v9), none, none, none, none, none] [jL u0] M Q :=
  (x_goto c126_139 (x_lstn (l' := [some (jR 34), some (jI v1), some (jL u0), none, none, none, some (jI v6), some (jL v7), none, some (jI v9), none, none, none, none, none]) c126_150 rfl (x_lldn c126_151 rfl (wp_wk (l' := [some (jR 34), some (jI v1), some (jL u0), none, none, none, some (jI v6), some (jL v7), none, some (jI v9), none, none, none, none, none]) ⟨rfl, ⟨rfl, ⟨rfl, ⟨rfl, ⟨rfl, ⟨rfl, trivial⟩⟩⟩⟩⟩⟩ (x_cs (As := [jL u0]) (st := []) c126_152 (by decide) rfl (Nat.le_of_ble_eq_true rfl) mx127 (Nat.le_refl _) H)))))
theorem s126_155 {kc : List va_E} {d : Nat} {v1 v2 v6 v7 v9 u0 : Int} {M : fx_M} {Q : Option fx_V → fx_M → Prop} (H : wp kc (d + 1) 126 37 [some (jR 34), some (jI v1), some (jL v2), none, some (jL u0), none, some (jI v6), some (jL v7), none, some (jI (v9 + 1)), none, none, none, none, none] [] M Q) : wp kc (d + 1) 126 155 [some (jR 34), some (jI v1), some (jL v2), none, none, none, some (jI v6), some (jL v7), none, some (jI v9), none, none, none, none, none] [jL u0] M Q :=
  (x_lst (l' := [some (jR 34), some (jI v1), some (jL v2), none, some (jL u0), none, some (jI v6), some (jL v7), none, some (jI v9), none, none, none, none, none]) c126_155 rfl (x_inc (l' := [some (jR 34), some (jI v1), some (jL v2), none, some (jL u0), none, some (jI v6), some (jL v7), none, some (jI (v9 + 1)), none, none, none, none, none]) c126_157 rfl rfl (x_goto c126_160 (wp_wk (l' := [some (jR 34), some (jI v1), some (jL v2), none, some (jL u0), none, some (jI v6), some (jL v7), none, some (jI (v9 + 1)), none, none, none, none, none]) ⟨rfl, ⟨rfl, ⟨rfl, ⟨rfl, ⟨rfl, ⟨rfl, ⟨rfl, trivial⟩⟩⟩⟩⟩⟩⟩ H))))
theorem s126 {kc : List va_E} {d : Nat} {x1 : Int} {M : fx_M} {Q : Option fx_V → fx_M → Prop} (H : wc kc d 123 [jR 34, jI x1] M (fun v M1 => wp kc (d + 1) 126 5 [some (jR 34), some (jI x1), none, none, none, none, none, none, none, none, none, none, none, none, none] (v.toList ++ []) M1 Q)) : wc kc (d + 1) 126 [jR 34, jI x1] M Q :=
  wc_of (wp_wk (l' := [some (jR 34), some (jI x1), none, none, none, none, none, none, none, none, none, none, none, none, none]) ⟨rfl, ⟨rfl, trivial⟩⟩ (s126_0 H))

/- PuzzleHouse$Checker.made(JJ)J -/
theorem c129_0 : fx_op 129 0 = some (.lload_n 3, 1, 0) := by decide +kernel
theorem c129_1 : fx_cj 129 1 = some (1, 2) := by decide +kernel
theorem c129_2 : fx_op 129 2 = some (.lsub, 3, 2) := by decide +kernel
theorem c129_3 : fx_ca 129 3 = some (128, 1, 0, 6) := by decide +kernel
theorem c129_6 : fx_ci 129 6 = some (2, 7) := by decide +kernel
theorem c129_7 : fx_op 129 7 = some (.ishr, 8, 7) := by decide +kernel
theorem c129_8 : fx_op 129 8 = some (.istore 5, 10, 8) := by decide +kernel
theorem c129_10 : fx_op 129 10 = some (.lload_n 1, 11, 10) := by decide +kernel
theorem c129_11 : fx_cj 129 11 = some (15, 14) := by decide +kernel
theorem c129_14 : fx_ci 129 14 = some (4, 15) := by decide +kernel
theorem c129_15 : fx_op 129 15 = some (.iload 5, 17, 15) := by decide +kernel
theorem c129_17 : fx_op 129 17 = some (.imul, 18, 17) := by decide +kernel
theorem c129_18 : fx_op 129 18 = some (.lshl, 19, 18) := by decide +kernel
theorem c129_19 : fx_cj 129 19 = some ((-1), 22) := by decide +kernel
theorem c129_22 : fx_op 129 22 = some (.lxor, 23, 22) := by decide +kernel
theorem c129_23 : fx_op 129 23 = some (.land, 24, 23) := by decide +kernel
theorem c129_24 : fx_op 129 24 = some (.lload_n 3, 25, 24) := by decide +kernel
theorem c129_25 : fx_op 129 25 = some (.lor, 26, 25) := by decide +kernel
theorem c129_26 : fx_op 129 26 = some (.lreturn, 27, 26) := by decide +kernel
theorem s129_0 {kc : List va_E} {d : Nat} {x1 x3 : Int} {M : fx_M} {Q : Option fx_V → fx_M → Prop} (H : wc kc d 128 [jL (x3 - 1)] M (fun v M1 => wp kc (d + 1) 129 6 [none, some (jL x1), none, some (jL x3), none, none] (v.toList ++ []) M1 Q)) : wp kc (d + 1) 129 0 [some (jR 34), some (jL x1), none, some (jL x3), none, none] [] M Q :=
  (x_lldn c129_0 rfl (x_cj c129_1 (x_lsub c129_2 (wp_wk (l' := [none, some (jL x1), none, some (jL x3), none, none]) ⟨rfl, ⟨rfl, trivial⟩⟩ (x_cs (As := [jL (x3 - 1)]) (st := []) c129_3 (by decide) rfl (Nat.le_of_ble_eq_true rfl) mx128 (Nat.le_refl _) H)))))
theorem s129_6 {kc : List va_E} {d : Nat} {v1 v3 u0 : Int} {M : fx_M} {Q : Option fx_V → fx_M → Prop} (H : Q (some (jL (fx_lor (fx_land v1 (fx_lxor (fx_lshl 15 (4 * (fx_shr u0 2))) (-1))) v3))) M) : wp kc (d + 1) 129 6 [none, some (jL v1), none, some (jL v3), none, none] [jI u0] M Q :=
  (x_ci c129_6 (x_ishr c129_7 (x_ist (l' := [none, some (jL v1), none, some (jL v3), none, some (jI (fx_shr u0 2))]) c129_8 rfl (x_lldn c129_10 rfl (x_cj c129_11 (x_ci c129_14 (x_ild c129_15 rfl (x_imul c129_17 (x_lshl c129_18 (x_cj c129_19 (x_lxor c129_22 (x_land c129_23 (x_lldn c129_24 rfl (x_lor c129_25 (x_lrt c129_26 r129 H)))))))))))))))
theorem s129 {kc : List va_E} {d : Nat} {x1 x3 : Int} {M : fx_M} {Q : Option fx_V → fx_M → Prop} (H : wc kc d 128 [jL (x3 - 1)] M (fun v M1 => wp kc (d + 1) 129 6 [none, some (jL x1), none, some (jL x3), none, none] (v.toList ++ []) M1 Q)) : wc kc (d + 1) 129 [jR 34, jL x1, jL x3] M Q :=
  wc_of (wp_wk (l' := [some (jR 34), some (jL x1), none, some (jL x3), none, none]) ⟨rfl, ⟨rfl, ⟨rfl, trivial⟩⟩⟩ (s129_0 H))

/- PuzzleHouse$Checker.isByAnswer(I)Z -/
theorem c130_0 : fx_op 130 0 = some (.aload_n 0, 1, 0) := by decide +kernel
theorem c130_1 : fx_gf 130 1 = some (6, 4, 4) := by decide +kernel
theorem c130_4 : fx_op 130 4 = some (.iload_n 1, 5, 4) := by decide +kernel
theorem c130_6 : fx_cj 130 6 = some (0, 7) := by decide +kernel
theorem c130_8 : fx_op 130 8 = some (.ifCond .eq 5, 11, 13) := by decide +kernel
theorem c130_13 : fx_ci 130 13 = some (0, 14) := by decide +kernel
theorem c130_14 : fx_op 130 14 = some (.istore_n 2, 15, 14) := by decide +kernel
theorem c130_11 : fx_ci 130 11 = some (0, 12) := by decide +kernel
theorem c130_5 : fx_op 130 5 = some (.laload, 6, 5) := by decide +kernel
theorem c130_7 : fx_op 130 7 = some (.lcmp, 8, 7) := by decide +kernel
theorem c130_12 : fx_op 130 12 = some (.ireturn, 13, 12) := by decide +kernel
theorem c130_15 : fx_op 130 15 = some (.iload_n 2, 16, 15) := by decide +kernel
theorem c130_16 : fx_op 130 16 = some (.aload_n 0, 17, 16) := by decide +kernel
theorem c130_17 : fx_gf 130 17 = some (6, 6, 20) := by decide +kernel
theorem c130_20 : fx_gf 130 20 = some (3, 2, 23) := by decide +kernel
theorem c130_23 : fx_op 130 23 = some (.if_icmp .ge 28, 26, 51) := by decide +kernel
theorem c130_51 : fx_op 130 51 = some (.aload_n 0, 52, 51) := by decide +kernel
theorem c130_52 : fx_gf 130 52 = some (6, 6, 55) := by decide +kernel
theorem c130_55 : fx_op 130 55 = some (.aload_n 0, 56, 55) := by decide +kernel
theorem c130_56 : fx_op 130 56 = some (.iload_n 1, 57, 56) := by decide +kernel
theorem c130_26 : fx_op 130 26 = some (.aload_n 0, 27, 26) := by decide +kernel
theorem c130_27 : fx_gf 130 27 = some (6, 5, 30) := by decide +kernel
theorem c130_30 : fx_op 130 30 = some (.iload_n 1, 31, 30) := by decide +kernel
theorem c130_32 : fx_op 130 32 = some (.iload_n 2, 33, 32) := by decide +kernel
theorem c130_57 : fx_ca 130 57 = some (123, 2, 2, 60) := by decide +kernel
theorem c130_31 : fx_op 130 31 = some (.laload, 32, 31) := by decide +kernel
theorem c130_33 : fx_ca 130 33 = some (86, 2, 1, 36) := by decide +kernel
theorem c130_60 : fx_ca 130 60 = some (131, 2, 2, 63) := by decide +kernel
theorem c130_36 : fx_ca 130 36 = some (79, 1, 0, 39) := by decide +kernel
theorem c130_63 : fx_op 130 63 = some (.ireturn, 64, 63) := by decide +kernel
theorem c130_39 : fx_ci 130 39 = some (1, 40) := by decide +kernel
theorem c130_40 : fx_op 130 40 = some (.if_icmp .eq 5, 43, 45) := by decide +kernel
theorem c130_45 : fx_op 130 45 = some (.iinc 2 1, 48, 45) := by decide +kernel
theorem c130_43 : fx_ci 130 43 = some (0, 44) := by decide +kernel
theorem c130_48 : fx_op 130 48 = some (.goto (-33), 51, 15) := by decide +kernel
theorem c130_44 : fx_op 130 44 = some (.ireturn, 45, 44) := by decide +kernel
theorem s130_0 {kc : List va_E} {d : Nat} {x1 : Int} {M : fx_M} {Q : Option fx_V → fx_M → Prop} (H : (((0 : Int) ≤ x1 ∧ x1 < 1600)) ∧ ((fx_in64 (M 38 x1))) ∧ (fx_cmp (M 38 x1) 0 = 0 → wp kc (d + 1) 130 15 [some (jR 34), some (jI x1), some (jI 0)] [] M Q) ∧ (fx_cmp (M 38 x1) 0 ≠ 0 → Q (some (jI 0)) M)) : wp kc (d + 1) 130 0 [some (jR 34), some (jI x1), none] [] M Q :=
  (x_aldn c130_0 rfl (x_gfr c130_1 k_34_4 (x_ildn c130_4 rfl (x_lald c130_5 a_38 H.1 (by decide) (x_cj c130_6 (x_lcmp c130_7 H.2.1 (by decide) (x_zeq c130_8 (fx_cmp_in _ _) (fun h1 => (x_ci c130_13 (x_istn (l' := [some (jR 34), some (jI x1), some (jI 0)]) c130_14 rfl (wp_wk (l' := [some (jR 34), some (jI x1), some (jI 0)]) ⟨rfl, ⟨rfl, ⟨rfl, trivial⟩⟩⟩ (H.2.2.1 h1))))) (fun h2 => (x_ci c130_11 (x_zrt c130_12 r130 (by decide) (H.2.2.2 h2)))))))))))
theorem s130_15 {kc : List va_E} {d : Nat} {v1 v2 : Int} {M : fx_M} {Q : Option fx_V → fx_M → Prop} (H : ((fx_in32 v2) ∧ (fx_in32 (M 11 2))) ∧ (M 11 2 ≤ v2 → wc kc d 123 [jR 34, jI v1] M (fun v M1 => wp kc (d + 1) 130 60 [none, none, none] (v.toList ++ [jR 11]) M1 Q)) ∧ (v2 < M 11 2 → (((0 : Int) ≤ v1 ∧ v1 < 1600)) ∧ wc kc d 86 [jL (M 39 v1), jI v2] M (fun v M1 => wp kc (d + 1) 130 36 [some (jR 34), some (jI v1), some (jI v2)] (v.toList ++ []) M1 Q))) : wp kc (d + 1) 130 15 [some (jR 34), some (jI v1), some (jI v2)] [] M Q :=
  (x_ildn c130_15 rfl (x_aldn c130_16 rfl (x_gfr c130_17 k_34_6 (x_gfi c130_20 k_11_2 (x_cge c130_23 H.1.1 H.1.2 (fun h1 => (x_aldn c130_51 rfl (x_gfr c130_52 k_34_6 (x_aldn c130_55 rfl (x_ildn c130_56 rfl (wp_wk (l' := [none, none, none]) trivial (x_cv (As := [jI v1]) (st := [jR 11]) c130_57 cl_34 kl123 rfl (Nat.le_of_ble_eq_true rfl) mx123 (Nat.le_refl _) (H.2.1 h1)))))))) (fun h2 => (x_aldn c130_26 rfl (x_gfr c130_27 k_34_5 (x_ildn c130_30 rfl (x_lald c130_31 a_39 (H.2.2 h2).1 (by decide) (x_ildn c130_32 rfl (wp_wk (l' := [some (jR 34), some (jI v1), some (jI v2)]) ⟨rfl, ⟨rfl, ⟨rfl, trivial⟩⟩⟩ (x_cs (As := [jL (M 39 v1), jI v2]) (st := []) c130_33 (by decide) rfl (Nat.le_of_ble_eq_true rfl) mx86 (Nat.le_refl _) (H.2.2 h2).2)))))))))))))
theorem s130_36 {kc : List va_E} {d : Nat} {v1 v2 u0 : Int} {M : fx_M} {Q : Option fx_V → fx_M → Prop} (H : wc kc d 79 [jI u0] M (fun v M1 => wp kc (d + 1) 130 39 [some (jR 34), some (jI v1), some (jI v2)] (v.toList ++ []) M1 Q)) : wp kc (d + 1) 130 36 [some (jR 34), some (jI v1), some (jI v2)] [jI u0] M Q :=
  (wp_wk (l' := [some (jR 34), some (jI v1), some (jI v2)]) ⟨rfl, ⟨rfl, ⟨rfl, trivial⟩⟩⟩ (x_cs (As := [jI u0]) (st := []) c130_36 (by decide) rfl (Nat.le_of_ble_eq_true rfl) mx79 (Nat.le_refl _) H))
theorem s130_39 {kc : List va_E} {d : Nat} {v1 v2 u0 : Int} {M : fx_M} {Q : Option fx_V → fx_M → Prop} (H : ((fx_in32 u0)) ∧ (u0 = 1 → wp kc (d + 1) 130 15 [some (jR 34), some (jI v1), some (jI (v2 + 1))] [] M Q) ∧ (u0 ≠ 1 → Q (some (jI 0)) M)) : wp kc (d + 1) 130 39 [some (jR 34), some (jI v1), some (jI v2)] [jI u0] M Q :=
  (x_ci c130_39 (x_ceq c130_40 H.1 (by decide) (fun h1 => (x_inc (l' := [some (jR 34), some (jI v1), some (jI (v2 + 1))]) c130_45 rfl rfl (x_goto c130_48 (wp_wk (l' := [some (jR 34), some (jI v1), some (jI (v2 + 1))]) ⟨rfl, ⟨rfl, ⟨rfl, trivial⟩⟩⟩ (H.2.1 h1))))) (fun h2 => (x_ci c130_43 (x_zrt c130_44 r130 (by decide) (H.2.2 h2))))))
theorem s130_60 {kc : List va_E} {d : Nat} {u0 : Int} {M : fx_M} {Q : Option fx_V → fx_M → Prop} (H : wc kc d 131 [jR 11, jL u0] M (fun v M1 => wp kc (d + 1) 130 63 [none, none, none] (v.toList ++ []) M1 Q)) : wp kc (d + 1) 130 60 [none, none, none] [jL u0, jR 11] M Q :=
  (wp_wk (l' := [none, none, none]) trivial (x_cv (As := [jL u0]) (st := []) c130_60 cl_11 kl131 rfl (Nat.le_of_ble_eq_true rfl) mx131 (Nat.le_refl _) H))
theorem s130_63 {kc : List va_E} {d : Nat} {u0 : Int} {M : fx_M} {Q : Option fx_V → fx_M → Prop} (H : ((0 : Int) ≤ u0 ∧ u0 ≤ 1) ∧ Q (some (jI u0)) M) : wp kc (d + 1) 130 63 [none, none, none] [jI u0] M Q :=
  (x_zrt c130_63 r130 H.1 H.2)
theorem s130 {kc : List va_E} {d : Nat} {x1 : Int} {M : fx_M} {Q : Option fx_V → fx_M → Prop} (H : (((0 : Int) ≤ x1 ∧ x1 < 1600)) ∧ ((fx_in64 (M 38 x1))) ∧ (fx_cmp (M 38 x1) 0 = 0 → wp kc (d + 1) 130 15 [some (jR 34), some (jI x1), some (jI 0)] [] M Q) ∧ (fx_cmp (M 38 x1) 0 ≠ 0 → Q (some (jI 0)) M)) : wc kc (d + 1) 130 [jR 34, jI x1] M Q :=
  wc_of (wp_wk (l' := [some (jR 34), some (jI x1), none]) ⟨rfl, ⟨rfl, trivial⟩⟩ (s130_0 H))

/- PuzzleHouse$Checker.fillings()I -/
theorem c132_0 : fx_ci 132 0 = some (0, 1) := by decide +kernel
theorem c132_1 : fx_op 132 1 = some (.istore_n 1, 2, 1) := by decide +kernel
theorem c132_2 : fx_ci 132 2 = some (0, 3) := by decide +kernel
theorem c132_3 : fx_op 132 3 = some (.istore_n 2, 4, 3) := by decide +kernel
theorem c132_4 : fx_op 132 4 = some (.iload_n 2, 5, 4) := by decide +kernel
theorem c132_5 : fx_op 132 5 = some (.aload_n 0, 6, 5) := by decide +kernel
theorem c132_6 : fx_gf 132 6 = some (6, 0, 9) := by decide +kernel
theorem c132_9 : fx_op 132 9 = some (.if_icmp .ge 35, 12, 44) := by decide +kernel
theorem c132_12 : fx_op 132 12 = some (.iload_n 1, 13, 12) := by decide +kernel
theorem c132_13 : fx_op 132 13 = some (.aload_n 0, 14, 13) := by decide +kernel
theorem c132_14 : fx_gf 132 14 = some (6, 1, 17) := by decide +kernel
theorem c132_17 : fx_op 132 17 = some (.iload_n 2, 18, 17) := by decide +kernel
theorem c132_18 : fx_op 132 18 = some (.iaload, 19, 18) := by decide +kernel
theorem c132_19 : fx_ci 132 19 = some (4, 20) := by decide +kernel
theorem c132_20 : fx_op 132 20 = some (.if_icmp .ne 15, 23, 35) := by decide +kernel
theorem c132_35 : fx_ci 132 35 = some (0, 36) := by decide +kernel
theorem c132_36 : fx_op 132 36 = some (.iadd, 37, 36) := by decide +kernel
theorem c132_37 : fx_op 132 37 = some (.istore_n 1, 38, 37) := by decide +kernel
theorem c132_38 : fx_op 132 38 = some (.iinc 2 1, 41, 38) := by decide +kernel
theorem c132_44 : fx_op 132 44 = some (.iload_n 1, 45, 44) := by decide +kernel
theorem c132_23 : fx_op 132 23 = some (.aload_n 0, 24, 23) := by decide +kernel
theorem c132_24 : fx_op 132 24 = some (.iload_n 2, 25, 24) := by decide +kernel
theorem c132_45 : fx_op 132 45 = some (.ireturn, 46, 45) := by decide +kernel
theorem c132_41 : fx_op 132 41 = some (.goto (-37), 44, 4) := by decide +kernel
theorem c132_25 : fx_ca 132 25 = some (133, 2, 2, 28) := by decide +kernel
theorem c132_28 : fx_op 132 28 = some (.ifCond .eq 7, 31, 35) := by decide +kernel
theorem c132_31 : fx_ci 132 31 = some (1, 32) := by decide +kernel
theorem c132_32 : fx_op 132 32 = some (.goto 4, 35, 36) := by decide +kernel
theorem s132_0 {kc : List va_E} {d : Nat} {M : fx_M} {Q : Option fx_V → fx_M → Prop} (H : wp kc (d + 1) 132 4 [some (jR 34), some (jI 0), some (jI 0)] [] M Q) : wp kc (d + 1) 132 0 [some (jR 34), none, none] [] M Q :=
  (x_ci c132_0 (x_istn (l' := [some (jR 34), some (jI 0), none]) c132_1 rfl (x_ci c132_2 (x_istn (l' := [some (jR 34), some (jI 0), some (jI 0)]) c132_3 rfl (wp_wk (l' := [some (jR 34), some (jI 0), some (jI 0)]) ⟨rfl, ⟨rfl, ⟨rfl, trivial⟩⟩⟩ H)))))
theorem s132_4 {kc : List va_E} {d : Nat} {v1 v2 : Int} {M : fx_M} {Q : Option fx_V → fx_M → Prop} (H : ((fx_in32 v2) ∧ (fx_in32 (M 34 0))) ∧ (M 34 0 ≤ v2 → Q (some (jI v1)) M) ∧ (v2 < M 34 0 → (((0 : Int) ≤ v2 ∧ v2 < 1600)) ∧ ((fx_in32 (M 35 v2))) ∧ (M 35 v2 ≠ 4 → wp kc (d + 1) 132 4 [some (jR 34), some (jI (v1 + 0)), some (jI (v2 + 1))] [] M Q) ∧ (M 35 v2 = 4 → wc kc d 133 [jR 34, jI v2] M (fun v M1 => wp kc (d + 1) 132 28 [some (jR 34), none, some (jI v2)] (v.toList ++ [jI v1]) M1 Q)))) : wp kc (d + 1) 132 4 [some (jR 34), some (jI v1), some (jI v2)] [] M Q :=
  (x_ildn c132_4 rfl (x_aldn c132_5 rfl (x_gfi c132_6 k_34_0 (x_cge c132_9 H.1.1 H.1.2 (fun h3 => (x_ildn c132_44 rfl (x_irt c132_45 r132 (H.2.1 h3)))) (fun h4 => (x_ildn c132_12 rfl (x_aldn c132_13 rfl (x_gfr c132_14 k_34_1 (x_ildn c132_17 rfl (x_iald c132_18 a_35 (H.2.2 h4).1 (by decide) (x_ci c132_19 (x_cne c132_20 (H.2.2 h4).2.1 (by decide) (fun h1 => (x_ci c132_35 (x_iadd c132_36 (x_istn (l' := [some (jR 34), some (jI (v1 + 0)), some (jI v2)]) c132_37 rfl (x_inc (l' := [some (jR 34), some (jI (v1 + 0)), some (jI (v2 + 1))]) c132_38 rfl rfl (x_goto c132_41 (wp_wk (l' := [some (jR 34), some (jI (v1 + 0)), some (jI (v2 + 1))]) ⟨rfl, ⟨rfl, ⟨rfl, trivial⟩⟩⟩ ((H.2.2 h4).2.2.1 h1)))))))) (fun h2 => (x_aldn c132_23 rfl (x_ildn c132_24 rfl (wp_wk (l' := [some (jR 34), none, some (jI v2)]) ⟨rfl, ⟨rfl, trivial⟩⟩ (x_cv (As := [jI v2]) (st := [jI v1]) c132_25 cl_34 kl133 rfl (Nat.le_of_ble_eq_true rfl) mx133 (Nat.le_refl _) ((H.2.2 h4).2.2.2 h2))))))))))))))))))
theorem s132_28 {kc : List va_E} {d : Nat} {v2 u0 u1 : Int} {M : fx_M} {Q : Option fx_V → fx_M → Prop} (H : ((fx_in32 u0)) ∧ wp kc (d + 1) 132 4 [some (jR 34), some (jI (u1 + (if u0 = 0 then (0 : Int) else 1))), some (jI (v2 + 1))] [] M Q) : wp kc (d + 1) 132 28 [some (jR 34), none, some (jI v2)] [jI u0, jI u1] M Q :=
  (have K : wp kc (d + 1) 132 36 [some (jR 34), none, some (jI v2)] [jI (if u0 = 0 then (0 : Int) else 1), jI u1] M Q := (x_iadd c132_36 (x_istn (l' := [some (jR 34), some (jI (u1 + (if u0 = 0 then (0 : Int) else 1))), some (jI v2)]) c132_37 rfl (x_inc (l' := [some (jR 34), some (jI (u1 + (if u0 = 0 then (0 : Int) else 1))), some (jI (v2 + 1))]) c132_38 rfl rfl (x_goto c132_41 (wp_wk (l' := [some (jR 34), some (jI (u1 + (if u0 = 0 then (0 : Int) else 1))), some (jI (v2 + 1))]) ⟨rfl, ⟨rfl, ⟨rfl, trivial⟩⟩⟩ H.2))))); (x_zeq c132_28 H.1 (fun (h1 : u0 = 0) => (x_ci c132_35 (wp_wk (l' := [some (jR 34), none, some (jI v2)]) ⟨rfl, ⟨rfl, trivial⟩⟩ (by have K := K; first | (simp only [if_pos h1] at K ⊢; exact K) | (exfalso; omega))))) (fun (h2 : u0 ≠ 0) => (x_ci c132_31 (x_goto c132_32 (wp_wk (l' := [some (jR 34), none, some (jI v2)]) ⟨rfl, ⟨rfl, trivial⟩⟩ (by have K := K; first | (simp only [if_neg h2] at K ⊢; exact K) | (exfalso; omega))))))))
theorem s132 {kc : List va_E} {d : Nat} {M : fx_M} {Q : Option fx_V → fx_M → Prop} (H : wp kc (d + 1) 132 4 [some (jR 34), some (jI 0), some (jI 0)] [] M Q) : wc kc (d + 1) 132 [jR 34] M Q :=
  wc_of (wp_wk (l' := [some (jR 34), none, none]) ⟨rfl, trivial⟩ (s132_0 H))

/- PuzzleHouse$Checker.isFirstTold(I)Z -/
theorem c133_0 : fx_ci 133 0 = some (0, 1) := by decide +kernel
theorem c133_1 : fx_op 133 1 = some (.istore_n 2, 2, 1) := by decide +kernel
theorem c133_2 : fx_op 133 2 = some (.iload_n 2, 3, 2) := by decide +kernel
theorem c133_3 : fx_op 133 3 = some (.iload_n 1, 4, 3) := by decide +kernel
theorem c133_4 : fx_op 133 4 = some (.if_icmp .ge 37, 7, 41) := by decide +kernel
theorem c133_41 : fx_ci 133 41 = some (1, 42) := by decide +kernel
theorem c133_7 : fx_op 133 7 = some (.aload_n 0, 8, 7) := by decide +kernel
theorem c133_8 : fx_gf 133 8 = some (6, 1, 11) := by decide +kernel
theorem c133_11 : fx_op 133 11 = some (.iload_n 2, 12, 11) := by decide +kernel
theorem c133_13 : fx_ci 133 13 = some (4, 14) := by decide +kernel
theorem c133_14 : fx_op 133 14 = some (.if_icmp .ne 21, 17, 35) := by decide +kernel
theorem c133_35 : fx_op 133 35 = some (.iinc 2 1, 38, 35) := by decide +kernel
theorem c133_17 : fx_op 133 17 = some (.aload_n 0, 18, 17) := by decide +kernel
theorem c133_18 : fx_gf 133 18 = some (6, 5, 21) := by decide +kernel
theorem c133_21 : fx_op 133 21 = some (.iload_n 2, 22, 21) := by decide +kernel
theorem c133_23 : fx_op 133 23 = some (.aload_n 0, 24, 23) := by decide +kernel
theorem c133_24 : fx_gf 133 24 = some (6, 5, 27) := by decide +kernel
theorem c133_27 : fx_op 133 27 = some (.iload_n 1, 28, 27) := by decide +kernel
theorem c133_30 : fx_op 133 30 = some (.ifCond .ne 5, 33, 35) := by decide +kernel
theorem c133_33 : fx_ci 133 33 = some (0, 34) := by decide +kernel
theorem c133_42 : fx_op 133 42 = some (.ireturn, 43, 42) := by decide +kernel
theorem c133_12 : fx_op 133 12 = some (.iaload, 13, 12) := by decide +kernel
theorem c133_38 : fx_op 133 38 = some (.goto (-36), 41, 2) := by decide +kernel
theorem c133_22 : fx_op 133 22 = some (.laload, 23, 22) := by decide +kernel
theorem c133_28 : fx_op 133 28 = some (.laload, 29, 28) := by decide +kernel
theorem c133_29 : fx_op 133 29 = some (.lcmp, 30, 29) := by decide +kernel
theorem c133_34 : fx_op 133 34 = some (.ireturn, 35, 34) := by decide +kernel
theorem s133_0 {kc : List va_E} {d : Nat} {x1 : Int} {M : fx_M} {Q : Option fx_V → fx_M → Prop} (H : wp kc (d + 1) 133 2 [some (jR 34), some (jI x1), some (jI 0)] [] M Q) : wp kc (d + 1) 133 0 [some (jR 34), some (jI x1), none] [] M Q :=
  (x_ci c133_0 (x_istn (l' := [some (jR 34), some (jI x1), some (jI 0)]) c133_1 rfl (wp_wk (l' := [some (jR 34), some (jI x1), some (jI 0)]) ⟨rfl, ⟨rfl, ⟨rfl, trivial⟩⟩⟩ H)))
theorem s133_2 {kc : List va_E} {d : Nat} {v1 v2 : Int} {M : fx_M} {Q : Option fx_V → fx_M → Prop} (H : ((fx_in32 v2) ∧ (fx_in32 v1)) ∧ (v1 ≤ v2 → Q (some (jI 1)) M) ∧ (v2 < v1 → (((0 : Int) ≤ v2 ∧ v2 < 1600)) ∧ ((fx_in32 (M 35 v2))) ∧ (M 35 v2 ≠ 4 → wp kc (d + 1) 133 2 [some (jR 34), some (jI v1), some (jI (v2 + 1))] [] M Q) ∧ (M 35 v2 = 4 → (((0 : Int) ≤ v2 ∧ v2 < 1600)) ∧ (((0 : Int) ≤ v1 ∧ v1 < 1600)) ∧ ((fx_in64 (M 39 v2)) ∧ (fx_in64 (M 39 v1))) ∧ (fx_cmp (M 39 v2) (M 39 v1) ≠ 0 → wp kc (d + 1) 133 2 [some (jR 34), some (jI v1), some (jI (v2 + 1))] [] M Q) ∧ (fx_cmp (M 39 v2) (M 39 v1) = 0 → Q (some (jI 0)) M)))) : wp kc (d + 1) 133 2 [some (jR 34), some (jI v1), some (jI v2)] [] M Q :=
  (x_ildn c133_2 rfl (x_ildn c133_3 rfl (x_cge c133_4 H.1.1 H.1.2 (fun h5 => (x_ci c133_41 (x_zrt c133_42 r133 (by decide) (H.2.1 h5)))) (fun h6 => (x_aldn c133_7 rfl (x_gfr c133_8 k_34_1 (x_ildn c133_11 rfl (x_iald c133_12 a_35 (H.2.2 h6).1 (by decide) (x_ci c133_13 (x_cne c133_14 (H.2.2 h6).2.1 (by decide) (fun h3 => (x_inc (l' := [some (jR 34), some (jI v1), some (jI (v2 + 1))]) c133_35 rfl rfl (x_goto c133_38 (wp_wk (l' := [some (jR 34), some (jI v1), some (jI (v2 + 1))]) ⟨rfl, ⟨rfl, ⟨rfl, trivial⟩⟩⟩ ((H.2.2 h6).2.2.1 h3))))) (fun h4 => (x_aldn c133_17 rfl (x_gfr c133_18 k_34_5 (x_ildn c133_21 rfl (x_lald c133_22 a_39 ((H.2.2 h6).2.2.2 h4).1 (by decide) (x_aldn c133_23 rfl (x_gfr c133_24 k_34_5 (x_ildn c133_27 rfl (x_lald c133_28 a_39 ((H.2.2 h6).2.2.2 h4).2.1 (by decide) (x_lcmp c133_29 ((H.2.2 h6).2.2.2 h4).2.2.1.1 ((H.2.2 h6).2.2.2 h4).2.2.1.2 (x_zne c133_30 (fx_cmp_in _ _) (fun h1 => (x_inc (l' := [some (jR 34), some (jI v1), some (jI (v2 + 1))]) c133_35 rfl rfl (x_goto c133_38 (wp_wk (l' := [some (jR 34), some (jI v1), some (jI (v2 + 1))]) ⟨rfl, ⟨rfl, ⟨rfl, trivial⟩⟩⟩ (((H.2.2 h6).2.2.2 h4).2.2.2.1 h1))))) (fun h2 => (x_ci c133_33 (x_zrt c133_34 r133 (by decide) (((H.2.2 h6).2.2.2 h4).2.2.2.2 h2)))))))))))))))))))))))))
theorem s133 {kc : List va_E} {d : Nat} {x1 : Int} {M : fx_M} {Q : Option fx_V → fx_M → Prop} (H : wp kc (d + 1) 133 2 [some (jR 34), some (jI x1), some (jI 0)] [] M Q) : wc kc (d + 1) 133 [jR 34, jI x1] M Q :=
  wc_of (wp_wk (l' := [some (jR 34), some (jI x1), none]) ⟨rfl, ⟨rfl, trivial⟩⟩ (s133_0 H))
