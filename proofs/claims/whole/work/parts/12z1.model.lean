/-! SEGMENTS of the model, 1 (by gen/emit_segs.py) -/
/- PuzzleHouseModel.addRule(I)I -/
theorem c240_0 : fx_op 240 0 = some (.aload_n 0, 1, 0) := by decide +kernel
theorem c240_1 : fx_gf 240 1 = some (12, 12, 4) := by decide +kernel
theorem c240_4 : fx_ci 240 4 = some (4, 5) := by decide +kernel
theorem c240_5 : fx_op 240 5 = some (.if_icmp .le 5, 8, 10) := by decide +kernel
theorem c240_10 : fx_ci 240 10 = some (0, 11) := by decide +kernel
theorem c240_11 : fx_op 240 11 = some (.istore_n 2, 12, 11) := by decide +kernel
theorem c240_8 : fx_ci 240 8 = some (2, 9) := by decide +kernel
theorem c240_9 : fx_op 240 9 = some (.ireturn, 10, 9) := by decide +kernel
theorem c240_12 : fx_op 240 12 = some (.iload_n 2, 13, 12) := by decide +kernel
theorem c240_13 : fx_op 240 13 = some (.aload_n 0, 14, 13) := by decide +kernel
theorem c240_14 : fx_gf 240 14 = some (12, 12, 17) := by decide +kernel
theorem c240_17 : fx_op 240 17 = some (.if_icmp .ge 55, 20, 72) := by decide +kernel
theorem c240_72 : fx_op 240 72 = some (.aload_n 0, 73, 72) := by decide +kernel
theorem c240_73 : fx_gf 240 73 = some (12, 11, 76) := by decide +kernel
theorem c240_76 : fx_ci 240 76 = some (99, 78) := by decide +kernel
theorem c240_78 : fx_op 240 78 = some (.if_icmp .le 5, 81, 83) := by decide +kernel
theorem c240_83 : fx_op 240 83 = some (.aload_n 0, 84, 83) := by decide +kernel
theorem c240_84 : fx_gf 240 84 = some (12, 40, 87) := by decide +kernel
theorem c240_87 : fx_op 240 87 = some (.iload_n 1, 88, 87) := by decide +kernel
theorem c240_89 : fx_ci 240 89 = some (12, 91) := by decide +kernel
theorem c240_91 : fx_op 240 91 = some (.if_icmp .ne 5, 94, 96) := by decide +kernel
theorem c240_96 : fx_op 240 96 = some (.aload_n 0, 97, 96) := by decide +kernel
theorem c240_97 : fx_op 240 97 = some (.iload_n 1, 98, 97) := by decide +kernel
theorem c240_94 : fx_ci 240 94 = some (4, 95) := by decide +kernel
theorem c240_81 : fx_ci 240 81 = some (3, 82) := by decide +kernel
theorem c240_20 : fx_op 240 20 = some (.aload_n 0, 21, 20) := by decide +kernel
theorem c240_21 : fx_op 240 21 = some (.iload_n 1, 22, 21) := by decide +kernel
theorem c240_22 : fx_op 240 22 = some (.aload_n 0, 23, 22) := by decide +kernel
theorem c240_23 : fx_gf 240 23 = some (12, 13, 26) := by decide +kernel
theorem c240_26 : fx_op 240 26 = some (.iload_n 2, 27, 26) := by decide +kernel
theorem c240_88 : fx_op 240 88 = some (.iaload, 89, 88) := by decide +kernel
theorem c240_98 : fx_ca 240 98 = some (242, 2, 2, 101) := by decide +kernel
theorem c240_95 : fx_op 240 95 = some (.ireturn, 96, 95) := by decide +kernel
theorem c240_82 : fx_op 240 82 = some (.ireturn, 83, 82) := by decide +kernel
theorem c240_27 : fx_op 240 27 = some (.iaload, 28, 27) := by decide +kernel
theorem c240_28 : fx_ca 240 28 = some (241, 3, 2, 31) := by decide +kernel
theorem c240_101 : fx_ci 240 101 = some (0, 102) := by decide +kernel
theorem c240_102 : fx_op 240 102 = some (.ireturn, 103, 102) := by decide +kernel
theorem c240_31 : fx_op 240 31 = some (.ifCond .ne 5, 34, 36) := by decide +kernel
theorem c240_36 : fx_ci 240 36 = some (0, 37) := by decide +kernel
theorem c240_37 : fx_op 240 37 = some (.istore_n 3, 38, 37) := by decide +kernel
theorem c240_34 : fx_ci 240 34 = some (2, 35) := by decide +kernel
theorem c240_35 : fx_op 240 35 = some (.ireturn, 36, 35) := by decide +kernel
theorem c240_38 : fx_op 240 38 = some (.iload_n 3, 39, 38) := by decide +kernel
theorem c240_39 : fx_op 240 39 = some (.iload_n 2, 40, 39) := by decide +kernel
theorem c240_40 : fx_op 240 40 = some (.if_icmp .ge 26, 43, 66) := by decide +kernel
theorem c240_66 : fx_op 240 66 = some (.iinc 2 1, 69, 66) := by decide +kernel
theorem c240_43 : fx_op 240 43 = some (.aload_n 0, 44, 43) := by decide +kernel
theorem c240_44 : fx_gf 240 44 = some (12, 13, 47) := by decide +kernel
theorem c240_47 : fx_op 240 47 = some (.iload_n 2, 48, 47) := by decide +kernel
theorem c240_49 : fx_op 240 49 = some (.aload_n 0, 50, 49) := by decide +kernel
theorem c240_50 : fx_gf 240 50 = some (12, 13, 53) := by decide +kernel
theorem c240_53 : fx_op 240 53 = some (.iload_n 3, 54, 53) := by decide +kernel
theorem c240_55 : fx_op 240 55 = some (.if_icmp .ne 5, 58, 60) := by decide +kernel
theorem c240_60 : fx_op 240 60 = some (.iinc 3 1, 63, 60) := by decide +kernel
theorem c240_58 : fx_ci 240 58 = some (2, 59) := by decide +kernel
theorem c240_69 : fx_op 240 69 = some (.goto (-57), 72, 12) := by decide +kernel
theorem c240_48 : fx_op 240 48 = some (.iaload, 49, 48) := by decide +kernel
theorem c240_54 : fx_op 240 54 = some (.iaload, 55, 54) := by decide +kernel
theorem c240_63 : fx_op 240 63 = some (.goto (-25), 66, 38) := by decide +kernel
theorem c240_59 : fx_op 240 59 = some (.ireturn, 60, 59) := by decide +kernel
theorem s240_0 {kc : List va_E} {d : Nat} {x1 : Int} {M : fx_M} {Q : Option fx_V → fx_M → Prop} (H : ((fx_in32 (M 133 12))) ∧ (M 133 12 ≤ 4 → wp kc (d + 1) 240 12 [some (jR 133), some (jI x1), some (jI 0), none] [] M Q) ∧ (4 < M 133 12 → Q (some (jI 2)) M)) : wp kc (d + 1) 240 0 [some (jR 133), some (jI x1), none, none] [] M Q :=
  (x_aldn c240_0 rfl (x_gfi c240_1 k_133_12 (x_ci c240_4 (x_cle c240_5 H.1 (by decide) (fun h1 => (x_ci c240_10 (x_istn (l' := [some (jR 133), some (jI x1), some (jI 0), none]) c240_11 rfl (wp_wk (l' := [some (jR 133), some (jI x1), some (jI 0), none]) ⟨rfl, ⟨rfl, ⟨rfl, trivial⟩⟩⟩ (H.2.1 h1))))) (fun h2 => (x_ci c240_8 (x_irt c240_9 r240 (H.2.2 h2))))))))
theorem s240_12 {kc : List va_E} {d : Nat} {v1 v2 : Int} {M : fx_M} {Q : Option fx_V → fx_M → Prop} (H : ((fx_in32 v2) ∧ (fx_in32 (M 133 12))) ∧ (M 133 12 ≤ v2 → ((fx_in32 (M 133 11))) ∧ (M 133 11 ≤ 99 → (((0 : Int) ≤ v1 ∧ v1 < 10)) ∧ ((fx_in32 (M 149 v1))) ∧ (M 149 v1 ≠ 12 → wc kc d 242 [jR 133, jI v1] M (fun v M1 => wp kc (d + 1) 240 101 [none, none, none, none] (v.toList ++ []) M1 Q)) ∧ (M 149 v1 = 12 → Q (some (jI 4)) M)) ∧ (99 < M 133 11 → Q (some (jI 3)) M)) ∧ (v2 < M 133 12 → (((0 : Int) ≤ v2 ∧ v2 < 4)) ∧ wc kc d 241 [jR 133, jI v1, jI (M 137 v2)] M (fun v M1 => wp kc (d + 1) 240 31 [some (jR 133), some (jI v1), some (jI v2), none] (v.toList ++ []) M1 Q))) : wp kc (d + 1) 240 12 [some (jR 133), some (jI v1), some (jI v2), none] [] M Q :=
  (x_ildn c240_12 rfl (x_aldn c240_13 rfl (x_gfi c240_14 k_133_12 (x_cge c240_17 H.1.1 H.1.2 (fun h5 => (x_aldn c240_72 rfl (x_gfi c240_73 k_133_11 (x_ci c240_76 (x_cle c240_78 (H.2.1 h5).1 (by decide) (fun h3 => (x_aldn c240_83 rfl (x_gfr c240_84 k_133_40 (x_ildn c240_87 rfl (x_iald c240_88 a_149 ((H.2.1 h5).2.1 h3).1 (by decide) (x_ci c240_89 (x_cne c240_91 ((H.2.1 h5).2.1 h3).2.1 (by decide) (fun h1 => (x_aldn c240_96 rfl (x_ildn c240_97 rfl (wp_wk (l' := [none, none, none, none]) trivial (x_cv (As := [jI v1]) (st := []) c240_98 cl_133 kl242 rfl (Nat.le_of_ble_eq_true rfl) mx242 (Nat.le_refl _) (((H.2.1 h5).2.1 h3).2.2.1 h1)))))) (fun h2 => (x_ci c240_94 (x_irt c240_95 r240 (((H.2.1 h5).2.1 h3).2.2.2 h2))))))))))) (fun h4 => (x_ci c240_81 (x_irt c240_82 r240 ((H.2.1 h5).2.2 h4))))))))) (fun h6 => (x_aldn c240_20 rfl (x_ildn c240_21 rfl (x_aldn c240_22 rfl (x_gfr c240_23 k_133_13 (x_ildn c240_26 rfl (x_iald c240_27 a_137 (H.2.2 h6).1 (by decide) (wp_wk (l' := [some (jR 133), some (jI v1), some (jI v2), none]) ⟨rfl, ⟨rfl, ⟨rfl, trivial⟩⟩⟩ (x_cv (As := [jI v1, jI (M 137 v2)]) (st := []) c240_28 cl_133 kl241 rfl (Nat.le_of_ble_eq_true rfl) mx241 (Nat.le_refl _) (H.2.2 h6).2)))))))))))))
theorem s240_31 {kc : List va_E} {d : Nat} {v1 v2 u0 : Int} {M : fx_M} {Q : Option fx_V → fx_M → Prop} (H : ((fx_in32 u0)) ∧ (u0 ≠ 0 → wp kc (d + 1) 240 38 [some (jR 133), some (jI v1), some (jI v2), some (jI 0)] [] M Q) ∧ (u0 = 0 → Q (some (jI 2)) M)) : wp kc (d + 1) 240 31 [some (jR 133), some (jI v1), some (jI v2), none] [jI u0] M Q :=
  (x_zne c240_31 H.1 (fun h1 => (x_ci c240_36 (x_istn (l' := [some (jR 133), some (jI v1), some (jI v2), some (jI 0)]) c240_37 rfl (wp_wk (l' := [some (jR 133), some (jI v1), some (jI v2), some (jI 0)]) ⟨rfl, ⟨rfl, ⟨rfl, ⟨rfl, trivial⟩⟩⟩⟩ (H.2.1 h1))))) (fun h2 => (x_ci c240_34 (x_irt c240_35 r240 (H.2.2 h2)))))
theorem s240_38 {kc : List va_E} {d : Nat} {v1 v2 v3 : Int} {M : fx_M} {Q : Option fx_V → fx_M → Prop} (H : ((fx_in32 v3) ∧ (fx_in32 v2)) ∧ (v2 ≤ v3 → wp kc (d + 1) 240 12 [some (jR 133), some (jI v1), some (jI (v2 + 1)), none] [] M Q) ∧ (v3 < v2 → (((0 : Int) ≤ v2 ∧ v2 < 4)) ∧ (((0 : Int) ≤ v3 ∧ v3 < 4)) ∧ ((fx_in32 (M 137 v2)) ∧ (fx_in32 (M 137 v3))) ∧ (M 137 v2 ≠ M 137 v3 → wp kc (d + 1) 240 38 [some (jR 133), some (jI v1), some (jI v2), some (jI (v3 + 1))] [] M Q) ∧ (M 137 v2 = M 137 v3 → Q (some (jI 2)) M))) : wp kc (d + 1) 240 38 [some (jR 133), some (jI v1), some (jI v2), some (jI v3)] [] M Q :=
  (x_ildn c240_38 rfl (x_ildn c240_39 rfl (x_cge c240_40 H.1.1 H.1.2 (fun h3 => (x_inc (l' := [some (jR 133), some (jI v1), some (jI (v2 + 1)), some (jI v3)]) c240_66 rfl rfl (x_goto c240_69 (wp_wk (l' := [some (jR 133), some (jI v1), some (jI (v2 + 1)), none]) ⟨rfl, ⟨rfl, ⟨rfl, trivial⟩⟩⟩ (H.2.1 h3))))) (fun h4 => (x_aldn c240_43 rfl (x_gfr c240_44 k_133_13 (x_ildn c240_47 rfl (x_iald c240_48 a_137 (H.2.2 h4).1 (by decide) (x_aldn c240_49 rfl (x_gfr c240_50 k_133_13 (x_ildn c240_53 rfl (x_iald c240_54 a_137 (H.2.2 h4).2.1 (by decide) (x_cne c240_55 (H.2.2 h4).2.2.1.1 (H.2.2 h4).2.2.1.2 (fun h1 => (x_inc (l' := [some (jR 133), some (jI v1), some (jI v2), some (jI (v3 + 1))]) c240_60 rfl rfl (x_goto c240_63 (wp_wk (l' := [some (jR 133), some (jI v1), some (jI v2), some (jI (v3 + 1))]) ⟨rfl, ⟨rfl, ⟨rfl, ⟨rfl, trivial⟩⟩⟩⟩ ((H.2.2 h4).2.2.2.1 h1))))) (fun h2 => (x_ci c240_58 (x_irt c240_59 r240 ((H.2.2 h4).2.2.2.2 h2)))))))))))))))))
theorem s240_101 {kc : List va_E} {d : Nat} {M : fx_M} {Q : Option fx_V → fx_M → Prop} (H : Q (some (jI 0)) M) : wp kc (d + 1) 240 101 [none, none, none, none] [] M Q :=
  (x_ci c240_101 (x_irt c240_102 r240 H))
theorem s240 {kc : List va_E} {d : Nat} {x1 : Int} {M : fx_M} {Q : Option fx_V → fx_M → Prop} (H : ((fx_in32 (M 133 12))) ∧ (M 133 12 ≤ 4 → wp kc (d + 1) 240 12 [some (jR 133), some (jI x1), some (jI 0), none] [] M Q) ∧ (4 < M 133 12 → Q (some (jI 2)) M)) : wc kc (d + 1) 240 [jR 133, jI x1] M Q :=
  wc_of (wp_wk (l' := [some (jR 133), some (jI x1), none, none]) ⟨rfl, ⟨rfl, trivial⟩⟩ (s240_0 H))

/- PuzzleHouseModel.isCell(II)Z -/
theorem c241_0 : fx_op 241 0 = some (.iload_n 2, 1, 0) := by decide +kernel
theorem c241_1 : fx_op 241 1 = some (.ifCond .lt 24, 4, 25) := by decide +kernel
theorem c241_25 : fx_ci 241 25 = some (0, 26) := by decide +kernel
theorem c241_4 : fx_op 241 4 = some (.iload_n 2, 5, 4) := by decide +kernel
theorem c241_5 : fx_op 241 5 = some (.aload_n 0, 6, 5) := by decide +kernel
theorem c241_6 : fx_gf 241 6 = some (12, 37, 9) := by decide +kernel
theorem c241_9 : fx_op 241 9 = some (.iload_n 1, 10, 9) := by decide +kernel
theorem c241_10 : fx_op 241 10 = some (.iaload, 11, 10) := by decide +kernel
theorem c241_11 : fx_op 241 11 = some (.aload_n 0, 12, 11) := by decide +kernel
theorem c241_12 : fx_gf 241 12 = some (12, 38, 15) := by decide +kernel
theorem c241_15 : fx_op 241 15 = some (.iload_n 1, 16, 15) := by decide +kernel
theorem c241_16 : fx_op 241 16 = some (.iaload, 17, 16) := by decide +kernel
theorem c241_17 : fx_op 241 17 = some (.imul, 18, 17) := by decide +kernel
theorem c241_18 : fx_op 241 18 = some (.if_icmp .ge 7, 21, 25) := by decide +kernel
theorem c241_21 : fx_ci 241 21 = some (1, 22) := by decide +kernel
theorem c241_22 : fx_op 241 22 = some (.goto 4, 25, 26) := by decide +kernel
theorem c241_26 : fx_op 241 26 = some (.ireturn, 27, 26) := by decide +kernel
theorem s241_0 {kc : List va_E} {d : Nat} {x1 x2 : Int} {M : fx_M} {Q : Option fx_V → fx_M → Prop} (H : ((fx_in32 x2)) ∧ (0 ≤ x2 → ((((0 : Int) ≤ x1 ∧ x1 < 10)))) ∧ (0 ≤ x2 → ((((0 : Int) ≤ x1 ∧ x1 < 10)))) ∧ (0 ≤ x2 → (fx_in32 x2)) ∧ (0 ≤ x2 → (fx_in32 ((M 146 x1) * (M 147 x1)))) ∧ ((0 : Int) ≤ (if x2 < 0 then (0 : Int) else (if x2 < (M 146 x1) * (M 147 x1) then (1 : Int) else 0)) ∧ (if x2 < 0 then (0 : Int) else (if x2 < (M 146 x1) * (M 147 x1) then (1 : Int) else 0)) ≤ 1) ∧ Q (some (jI (if x2 < 0 then (0 : Int) else (if x2 < (M 146 x1) * (M 147 x1) then (1 : Int) else 0)))) M) : wp kc (d + 1) 241 0 [some (jR 133), some (jI x1), some (jI x2)] [] M Q :=
  (x_ildn c241_0 rfl (have K : wp kc (d + 1) 241 26 [none, none, none] [jI (if x2 < 0 then (0 : Int) else (if x2 < (M 146 x1) * (M 147 x1) then (1 : Int) else 0))] M Q := (x_zrt c241_26 r241 H.2.2.2.2.2.1 H.2.2.2.2.2.2); (x_zlt c241_1 H.1 (fun (h1 : x2 < 0) => (x_ci c241_25 (wp_wk (l' := [none, none, none]) trivial (by have K := K; first | (simp only [if_pos h1] at K ⊢; exact K) | (exfalso; omega))))) (fun (h2 : 0 ≤ x2) => (x_ildn c241_4 rfl (x_aldn c241_5 rfl (x_gfr c241_6 k_133_37 (x_ildn c241_9 rfl (x_iald c241_10 a_146 (H.2.1 h2) (by decide) (x_aldn c241_11 rfl (x_gfr c241_12 k_133_38 (x_ildn c241_15 rfl (x_iald c241_16 a_147 (H.2.2.1 h2) (by decide) (x_imul c241_17 (x_cge c241_18 (H.2.2.2.1 h2) (H.2.2.2.2.1 h2) (fun (h3 : (M 146 x1) * (M 147 x1) ≤ x2) => (x_ci c241_25 (wp_wk (l' := [none, none, none]) trivial (by have K := K; first | (simp only [if_neg (Int.not_lt.mpr h2), if_neg (Int.not_lt.mpr h3)] at K ⊢; exact K) | (exfalso; omega))))) (fun (h4 : x2 < (M 146 x1) * (M 147 x1)) => (x_ci c241_21 (x_goto c241_22 (wp_wk (l' := [none, none, none]) trivial (by have K := K; first | (simp only [if_neg (Int.not_lt.mpr h2), if_pos h4] at K ⊢; exact K) | (exfalso; omega)))))))))))))))))))))
theorem s241 {kc : List va_E} {d : Nat} {x1 x2 : Int} {M : fx_M} {Q : Option fx_V → fx_M → Prop} (H : ((fx_in32 x2)) ∧ (0 ≤ x2 → ((((0 : Int) ≤ x1 ∧ x1 < 10)))) ∧ (0 ≤ x2 → ((((0 : Int) ≤ x1 ∧ x1 < 10)))) ∧ (0 ≤ x2 → (fx_in32 x2)) ∧ (0 ≤ x2 → (fx_in32 ((M 146 x1) * (M 147 x1)))) ∧ ((0 : Int) ≤ (if x2 < 0 then (0 : Int) else (if x2 < (M 146 x1) * (M 147 x1) then (1 : Int) else 0)) ∧ (if x2 < 0 then (0 : Int) else (if x2 < (M 146 x1) * (M 147 x1) then (1 : Int) else 0)) ≤ 1) ∧ Q (some (jI (if x2 < 0 then (0 : Int) else (if x2 < (M 146 x1) * (M 147 x1) then (1 : Int) else 0)))) M) : wc kc (d + 1) 241 [jR 133, jI x1, jI x2] M Q :=
  wc_of (wp_wk (l' := [some (jR 133), some (jI x1), some (jI x2)]) ⟨rfl, ⟨rfl, ⟨rfl, trivial⟩⟩⟩ (s241_0 H))

/- PuzzleHouseModel.putRule(I)V -/
theorem c242_0 : fx_ci 242 0 = some (12, 2) := by decide +kernel
theorem c242_2 : fx_op 242 2 = some (.iload_n 1, 3, 2) := by decide +kernel
theorem c242_3 : fx_op 242 3 = some (.imul, 4, 3) := by decide +kernel
theorem c242_4 : fx_op 242 4 = some (.aload_n 0, 5, 4) := by decide +kernel
theorem c242_5 : fx_gf 242 5 = some (12, 40, 8) := by decide +kernel
theorem c242_8 : fx_op 242 8 = some (.iload_n 1, 9, 8) := by decide +kernel
theorem c242_10 : fx_op 242 10 = some (.iadd, 11, 10) := by decide +kernel
theorem c242_11 : fx_op 242 11 = some (.istore_n 2, 12, 11) := by decide +kernel
theorem c242_12 : fx_op 242 12 = some (.aload_n 0, 13, 12) := by decide +kernel
theorem c242_13 : fx_gf 242 13 = some (12, 41, 16) := by decide +kernel
theorem c242_16 : fx_op 242 16 = some (.iload_n 2, 17, 16) := by decide +kernel
theorem c242_17 : fx_op 242 17 = some (.aload_n 0, 18, 17) := by decide +kernel
theorem c242_18 : fx_gf 242 18 = some (12, 10, 21) := by decide +kernel
theorem c242_22 : fx_op 242 22 = some (.aload_n 0, 23, 22) := by decide +kernel
theorem c242_23 : fx_gf 242 23 = some (12, 42, 26) := by decide +kernel
theorem c242_26 : fx_op 242 26 = some (.iload_n 2, 27, 26) := by decide +kernel
theorem c242_27 : fx_op 242 27 = some (.aload_n 0, 28, 27) := by decide +kernel
theorem c242_28 : fx_gf 242 28 = some (12, 11, 31) := by decide +kernel
theorem c242_32 : fx_op 242 32 = some (.aload_n 0, 33, 32) := by decide +kernel
theorem c242_33 : fx_gf 242 33 = some (12, 43, 36) := by decide +kernel
theorem c242_36 : fx_op 242 36 = some (.iload_n 2, 37, 36) := by decide +kernel
theorem c242_37 : fx_op 242 37 = some (.aload_n 0, 38, 37) := by decide +kernel
theorem c242_38 : fx_gf 242 38 = some (12, 12, 41) := by decide +kernel
theorem c242_42 : fx_ci 242 42 = some (0, 43) := by decide +kernel
theorem c242_43 : fx_op 242 43 = some (.istore_n 3, 44, 43) := by decide +kernel
theorem c242_9 : fx_op 242 9 = some (.iaload, 10, 9) := by decide +kernel
theorem c242_21 : fx_op 242 21 = some (.iastore, 22, 21) := by decide +kernel
theorem c242_31 : fx_op 242 31 = some (.iastore, 32, 31) := by decide +kernel
theorem c242_41 : fx_op 242 41 = some (.iastore, 42, 41) := by decide +kernel
theorem c242_44 : fx_op 242 44 = some (.iload_n 3, 45, 44) := by decide +kernel
theorem c242_45 : fx_op 242 45 = some (.aload_n 0, 46, 45) := by decide +kernel
theorem c242_46 : fx_gf 242 46 = some (12, 12, 49) := by decide +kernel
theorem c242_49 : fx_op 242 49 = some (.if_icmp .ge 25, 52, 74) := by decide +kernel
theorem c242_52 : fx_op 242 52 = some (.aload_n 0, 53, 52) := by decide +kernel
theorem c242_53 : fx_gf 242 53 = some (12, 44, 56) := by decide +kernel
theorem c242_56 : fx_ci 242 56 = some (4, 57) := by decide +kernel
theorem c242_57 : fx_op 242 57 = some (.iload_n 2, 58, 57) := by decide +kernel
theorem c242_58 : fx_op 242 58 = some (.imul, 59, 58) := by decide +kernel
theorem c242_59 : fx_op 242 59 = some (.iload_n 3, 60, 59) := by decide +kernel
theorem c242_60 : fx_op 242 60 = some (.iadd, 61, 60) := by decide +kernel
theorem c242_61 : fx_op 242 61 = some (.aload_n 0, 62, 61) := by decide +kernel
theorem c242_62 : fx_gf 242 62 = some (12, 13, 65) := by decide +kernel
theorem c242_65 : fx_op 242 65 = some (.iload_n 3, 66, 65) := by decide +kernel
theorem c242_66 : fx_op 242 66 = some (.iaload, 67, 66) := by decide +kernel
theorem c242_74 : fx_op 242 74 = some (.aload_n 0, 75, 74) := by decide +kernel
theorem c242_75 : fx_gf 242 75 = some (12, 40, 78) := by decide +kernel
theorem c242_78 : fx_op 242 78 = some (.iload_n 1, 79, 78) := by decide +kernel
theorem c242_79 : fx_op 242 79 = some (.dup2, 80, 79) := by decide +kernel
theorem c242_81 : fx_ci 242 81 = some (1, 82) := by decide +kernel
theorem c242_82 : fx_op 242 82 = some (.iadd, 83, 82) := by decide +kernel
theorem c242_68 : fx_op 242 68 = some (.iinc 3 1, 71, 68) := by decide +kernel
theorem c242_80 : fx_op 242 80 = some (.iaload, 81, 80) := by decide +kernel
theorem c242_83 : fx_op 242 83 = some (.iastore, 84, 83) := by decide +kernel
theorem c242_84 : fx_op 242 84 = some (.return_, 85, 84) := by decide +kernel
theorem c242_67 : fx_op 242 67 = some (.iastore, 68, 67) := by decide +kernel
theorem c242_71 : fx_op 242 71 = some (.goto (-27), 74, 44) := by decide +kernel
theorem s242_0 {kc : List va_E} {d : Nat} {x1 : Int} {M : fx_M} {Q : Option fx_V → fx_M → Prop} (H : (((0 : Int) ≤ x1 ∧ x1 < 10)) ∧ (((0 : Int) ≤ (12 * x1) + (M 149 x1) ∧ (12 * x1) + (M 149 x1) < 120)) ∧ (((0 : Int) ≤ (12 * x1) + (M 149 x1) ∧ (12 * x1) + (M 149 x1) < 120)) ∧ (((0 : Int) ≤ (12 * x1) + (M 149 x1) ∧ (12 * x1) + (M 149 x1) < 120)) ∧ wp kc (d + 1) 242 44 [some (jR 133), some (jI x1), some (jI ((12 * x1) + (M 149 x1))), some (jI 0)] [] (fx_up (fx_up (fx_up M 150 ((12 * x1) + (M 149 x1)) (M 133 10)) 151 ((12 * x1) + (M 149 x1)) (M 133 11)) 152 ((12 * x1) + (M 149 x1)) (M 133 12)) Q) : wp kc (d + 1) 242 0 [some (jR 133), some (jI x1), none, none] [] M Q :=
  (x_ci c242_0 (x_ildn c242_2 rfl (x_imul c242_3 (x_aldn c242_4 rfl (x_gfr c242_5 k_133_40 (x_ildn c242_8 rfl (x_iald c242_9 a_149 H.1 (by decide) (x_iadd c242_10 (x_istn (l' := [some (jR 133), some (jI x1), some (jI ((12 * x1) + (M 149 x1))), none]) c242_11 rfl (x_aldn c242_12 rfl (x_gfr c242_13 k_133_41 (x_ildn c242_16 rfl (x_aldn c242_17 rfl (x_gfi c242_18 k_133_10 (x_iast c242_21 a_150 H.2.1 (by decide) (x_aldn c242_22 rfl (x_gfr c242_23 k_133_42 (x_ildn c242_26 rfl (x_aldn c242_27 rfl (x_gfi c242_28 k_133_11 (wp_vI (fx_upA (by decide)) (x_iast c242_31 a_151 H.2.2.1 (by decide) (x_aldn c242_32 rfl (x_gfr c242_33 k_133_43 (x_ildn c242_36 rfl (x_aldn c242_37 rfl (x_gfi c242_38 k_133_12 (wp_vI (((fx_upA (by decide)).trans (fx_upA (by decide)))) (x_iast c242_41 a_152 H.2.2.2.1 (by decide) (x_ci c242_42 (x_istn (l' := [some (jR 133), some (jI x1), some (jI ((12 * x1) + (M 149 x1))), some (jI 0)]) c242_43 rfl (wp_wk (l' := [some (jR 133), some (jI x1), some (jI ((12 * x1) + (M 149 x1))), some (jI 0)]) ⟨rfl, ⟨rfl, ⟨rfl, ⟨rfl, trivial⟩⟩⟩⟩ H.2.2.2.2))))))))))))))))))))))))))))))))
theorem s242_44 {kc : List va_E} {d : Nat} {v1 v2 v3 : Int} {M : fx_M} {Q : Option fx_V → fx_M → Prop} (H : ((fx_in32 v3) ∧ (fx_in32 (M 133 12))) ∧ (M 133 12 ≤ v3 → (((0 : Int) ≤ v1 ∧ v1 < 10)) ∧ (((0 : Int) ≤ v1 ∧ v1 < 10)) ∧ Q none (fx_up M 149 v1 ((M 149 v1) + 1))) ∧ (v3 < M 133 12 → (((0 : Int) ≤ v3 ∧ v3 < 4)) ∧ (((0 : Int) ≤ (4 * v2) + v3 ∧ (4 * v2) + v3 < 480)) ∧ wp kc (d + 1) 242 44 [some (jR 133), some (jI v1), some (jI v2), some (jI (v3 + 1))] [] (fx_up M 153 ((4 * v2) + v3) (M 137 v3)) Q)) : wp kc (d + 1) 242 44 [some (jR 133), some (jI v1), some (jI v2), some (jI v3)] [] M Q :=
  (x_ildn c242_44 rfl (x_aldn c242_45 rfl (x_gfi c242_46 k_133_12 (x_cge c242_49 H.1.1 H.1.2 (fun h1 => (x_aldn c242_74 rfl (x_gfr c242_75 k_133_40 (x_ildn c242_78 rfl (x_dup2 c242_79 (x_iald c242_80 a_149 (H.2.1 h1).1 (by decide) (x_ci c242_81 (x_iadd c242_82 (x_iast c242_83 a_149 (H.2.1 h1).2.1 (by decide) (x_vr c242_84 r242 (H.2.1 h1).2.2)))))))))) (fun h2 => (x_aldn c242_52 rfl (x_gfr c242_53 k_133_44 (x_ci c242_56 (x_ildn c242_57 rfl (x_imul c242_58 (x_ildn c242_59 rfl (x_iadd c242_60 (x_aldn c242_61 rfl (x_gfr c242_62 k_133_13 (x_ildn c242_65 rfl (x_iald c242_66 a_137 (H.2.2 h2).1 (by decide) (x_iast c242_67 a_153 (H.2.2 h2).2.1 (by decide) (x_inc (l' := [some (jR 133), some (jI v1), some (jI v2), some (jI (v3 + 1))]) c242_68 rfl rfl (x_goto c242_71 (wp_wk (l' := [some (jR 133), some (jI v1), some (jI v2), some (jI (v3 + 1))]) ⟨rfl, ⟨rfl, ⟨rfl, ⟨rfl, trivial⟩⟩⟩⟩ (H.2.2 h2).2.2))))))))))))))))))))
theorem s242 {kc : List va_E} {d : Nat} {x1 : Int} {M : fx_M} {Q : Option fx_V → fx_M → Prop} (H : (((0 : Int) ≤ x1 ∧ x1 < 10)) ∧ (((0 : Int) ≤ (12 * x1) + (M 149 x1) ∧ (12 * x1) + (M 149 x1) < 120)) ∧ (((0 : Int) ≤ (12 * x1) + (M 149 x1) ∧ (12 * x1) + (M 149 x1) < 120)) ∧ (((0 : Int) ≤ (12 * x1) + (M 149 x1) ∧ (12 * x1) + (M 149 x1) < 120)) ∧ wp kc (d + 1) 242 44 [some (jR 133), some (jI x1), some (jI ((12 * x1) + (M 149 x1))), some (jI 0)] [] (fx_up (fx_up (fx_up M 150 ((12 * x1) + (M 149 x1)) (M 133 10)) 151 ((12 * x1) + (M 149 x1)) (M 133 11)) 152 ((12 * x1) + (M 149 x1)) (M 133 12)) Q) : wc kc (d + 1) 242 [jR 133, jI x1] M Q :=
  wc_of (wp_wk (l' := [some (jR 133), some (jI x1), none, none]) ⟨rfl, ⟨rfl, trivial⟩⟩ (s242_0 H))

/- PuzzleHouseModel.addEach(I)I -/
theorem c243_0 : fx_op 243 0 = some (.aload_n 0, 1, 0) := by decide +kernel
theorem c243_1 : fx_gf 243 1 = some (12, 37, 4) := by decide +kernel
theorem c243_4 : fx_op 243 4 = some (.iload_n 1, 5, 4) := by decide +kernel
theorem c243_6 : fx_op 243 6 = some (.istore_n 2, 7, 6) := by decide +kernel
theorem c243_7 : fx_op 243 7 = some (.aload_n 0, 8, 7) := by decide +kernel
theorem c243_8 : fx_gf 243 8 = some (12, 38, 11) := by decide +kernel
theorem c243_11 : fx_op 243 11 = some (.iload_n 1, 12, 11) := by decide +kernel
theorem c243_13 : fx_op 243 13 = some (.istore_n 3, 14, 13) := by decide +kernel
theorem c243_14 : fx_op 243 14 = some (.aload_n 0, 15, 14) := by decide +kernel
theorem c243_15 : fx_gf 243 15 = some (12, 11, 18) := by decide +kernel
theorem c243_18 : fx_ci 243 18 = some (99, 20) := by decide +kernel
theorem c243_20 : fx_op 243 20 = some (.if_icmp .le 5, 23, 25) := by decide +kernel
theorem c243_25 : fx_op 243 25 = some (.aload_n 0, 26, 25) := by decide +kernel
theorem c243_26 : fx_gf 243 26 = some (12, 14, 29) := by decide +kernel
theorem c243_29 : fx_ci 243 29 = some (53, 31) := by decide +kernel
theorem c243_31 : fx_op 243 31 = some (.if_icmp .ne 7, 34, 38) := by decide +kernel
theorem c243_38 : fx_op 243 38 = some (.aload_n 0, 39, 38) := by decide +kernel
theorem c243_39 : fx_gf 243 39 = some (12, 14, 42) := by decide +kernel
theorem c243_42 : fx_ci 243 42 = some (54, 44) := by decide +kernel
theorem c243_44 : fx_op 243 44 = some (.if_icmp .ne 7, 47, 51) := by decide +kernel
theorem c243_51 : fx_op 243 51 = some (.iload_n 3, 52, 51) := by decide +kernel
theorem c243_52 : fx_op 243 52 = some (.iload_n 2, 53, 52) := by decide +kernel
theorem c243_53 : fx_ci 243 53 = some (1, 54) := by decide +kernel
theorem c243_54 : fx_op 243 54 = some (.isub, 55, 54) := by decide +kernel
theorem c243_55 : fx_op 243 55 = some (.imul, 56, 55) := by decide +kernel
theorem c243_56 : fx_op 243 56 = some (.iload_n 2, 57, 56) := by decide +kernel
theorem c243_57 : fx_op 243 57 = some (.iload_n 3, 58, 57) := by decide +kernel
theorem c243_58 : fx_ci 243 58 = some (1, 59) := by decide +kernel
theorem c243_59 : fx_op 243 59 = some (.isub, 60, 59) := by decide +kernel
theorem c243_60 : fx_op 243 60 = some (.imul, 61, 60) := by decide +kernel
theorem c243_61 : fx_op 243 61 = some (.iadd, 62, 61) := by decide +kernel
theorem c243_47 : fx_op 243 47 = some (.iload_n 2, 48, 47) := by decide +kernel
theorem c243_48 : fx_op 243 48 = some (.goto 14, 51, 62) := by decide +kernel
theorem c243_34 : fx_op 243 34 = some (.iload_n 3, 35, 34) := by decide +kernel
theorem c243_35 : fx_op 243 35 = some (.goto 27, 38, 62) := by decide +kernel
theorem c243_62 : fx_op 243 62 = some (.istore 4, 64, 62) := by decide +kernel
theorem c243_64 : fx_op 243 64 = some (.aload_n 0, 65, 64) := by decide +kernel
theorem c243_65 : fx_gf 243 65 = some (12, 40, 68) := by decide +kernel
theorem c243_68 : fx_op 243 68 = some (.iload_n 1, 69, 68) := by decide +kernel
theorem c243_70 : fx_op 243 70 = some (.iload 4, 72, 70) := by decide +kernel
theorem c243_72 : fx_op 243 72 = some (.iadd, 73, 72) := by decide +kernel
theorem c243_73 : fx_ci 243 73 = some (12, 75) := by decide +kernel
theorem c243_75 : fx_op 243 75 = some (.if_icmp .le 5, 78, 80) := by decide +kernel
theorem c243_80 : fx_op 243 80 = some (.aload_n 0, 81, 80) := by decide +kernel
theorem c243_81 : fx_gf 243 81 = some (12, 14, 84) := by decide +kernel
theorem c243_84 : fx_ci 243 84 = some (55, 86) := by decide +kernel
theorem c243_86 : fx_op 243 86 = some (.if_icmp .ne 64, 89, 150) := by decide +kernel
theorem c243_150 : fx_ci 243 150 = some (0, 151) := by decide +kernel
theorem c243_151 : fx_op 243 151 = some (.istore 5, 153, 151) := by decide +kernel
theorem c243_89 : fx_ci 243 89 = some (0, 90) := by decide +kernel
theorem c243_90 : fx_op 243 90 = some (.istore 5, 92, 90) := by decide +kernel
theorem c243_78 : fx_ci 243 78 = some (4, 79) := by decide +kernel
theorem c243_23 : fx_ci 243 23 = some (3, 24) := by decide +kernel
theorem c243_5 : fx_op 243 5 = some (.iaload, 6, 5) := by decide +kernel
theorem c243_12 : fx_op 243 12 = some (.iaload, 13, 12) := by decide +kernel
theorem c243_69 : fx_op 243 69 = some (.iaload, 70, 69) := by decide +kernel
theorem c243_79 : fx_op 243 79 = some (.ireturn, 80, 79) := by decide +kernel
theorem c243_24 : fx_op 243 24 = some (.ireturn, 25, 24) := by decide +kernel
theorem c243_153 : fx_op 243 153 = some (.iload 5, 155, 153) := by decide +kernel
theorem c243_155 : fx_op 243 155 = some (.iload 4, 157, 155) := by decide +kernel
theorem c243_157 : fx_op 243 157 = some (.if_icmp .ge 83, 160, 240) := by decide +kernel
theorem c243_160 : fx_op 243 160 = some (.aload_n 0, 161, 160) := by decide +kernel
theorem c243_161 : fx_op 243 161 = some (.aload_n 0, 162, 161) := by decide +kernel
theorem c243_162 : fx_gf 243 162 = some (12, 14, 165) := by decide +kernel
theorem c243_165 : fx_ci 243 165 = some (53, 167) := by decide +kernel
theorem c243_167 : fx_op 243 167 = some (.if_icmp .ne 7, 170, 174) := by decide +kernel
theorem c243_174 : fx_op 243 174 = some (.iload_n 3, 175, 174) := by decide +kernel
theorem c243_240 : fx_ci 243 240 = some (0, 241) := by decide +kernel
theorem c243_170 : fx_op 243 170 = some (.iload_n 2, 171, 170) := by decide +kernel
theorem c243_171 : fx_op 243 171 = some (.goto 4, 174, 175) := by decide +kernel
theorem c243_175 : fx_pf 243 175 = some (12, 12, 0, 178) := by decide +kernel
theorem c243_178 : fx_ci 243 178 = some (0, 179) := by decide +kernel
theorem c243_179 : fx_op 243 179 = some (.istore 6, 181, 179) := by decide +kernel
theorem c243_241 : fx_op 243 241 = some (.ireturn, 242, 241) := by decide +kernel
theorem c243_92 : fx_op 243 92 = some (.iload 5, 94, 92) := by decide +kernel
theorem c243_94 : fx_op 243 94 = some (.iload_n 2, 95, 94) := by decide +kernel
theorem c243_95 : fx_op 243 95 = some (.iload_n 3, 96, 95) := by decide +kernel
theorem c243_96 : fx_op 243 96 = some (.imul, 97, 96) := by decide +kernel
theorem c243_97 : fx_op 243 97 = some (.if_icmp .ge 51, 100, 148) := by decide +kernel
theorem c243_100 : fx_op 243 100 = some (.iload 5, 102, 100) := by decide +kernel
theorem c243_102 : fx_op 243 102 = some (.iload_n 2, 103, 102) := by decide +kernel
theorem c243_103 : fx_op 243 103 = some (.irem, 104, 103) := by decide +kernel
theorem c243_104 : fx_ci 243 104 = some (1, 105) := by decide +kernel
theorem c243_105 : fx_op 243 105 = some (.iadd, 106, 105) := by decide +kernel
theorem c243_106 : fx_op 243 106 = some (.iload_n 2, 107, 106) := by decide +kernel
theorem c243_107 : fx_op 243 107 = some (.if_icmp .ge 14, 110, 121) := by decide +kernel
theorem c243_121 : fx_op 243 121 = some (.iload 5, 123, 121) := by decide +kernel
theorem c243_123 : fx_op 243 123 = some (.iload_n 2, 124, 123) := by decide +kernel
theorem c243_124 : fx_op 243 124 = some (.iadd, 125, 124) := by decide +kernel
theorem c243_125 : fx_op 243 125 = some (.iload_n 2, 126, 125) := by decide +kernel
theorem c243_126 : fx_op 243 126 = some (.iload_n 3, 127, 126) := by decide +kernel
theorem c243_127 : fx_op 243 127 = some (.imul, 128, 127) := by decide +kernel
theorem c243_128 : fx_op 243 128 = some (.if_icmp .ge 14, 131, 142) := by decide +kernel
theorem c243_142 : fx_op 243 142 = some (.iinc 5 1, 145, 142) := by decide +kernel
theorem c243_148 : fx_ci 243 148 = some (0, 149) := by decide +kernel
theorem c243_110 : fx_op 243 110 = some (.aload_n 0, 111, 110) := by decide +kernel
theorem c243_111 : fx_op 243 111 = some (.iload_n 1, 112, 111) := by decide +kernel
theorem c243_112 : fx_op 243 112 = some (.iload 5, 114, 112) := by decide +kernel
theorem c243_114 : fx_op 243 114 = some (.iload 5, 116, 114) := by decide +kernel
theorem c243_116 : fx_ci 243 116 = some (1, 117) := by decide +kernel
theorem c243_117 : fx_op 243 117 = some (.iadd, 118, 117) := by decide +kernel
theorem c243_131 : fx_op 243 131 = some (.aload_n 0, 132, 131) := by decide +kernel
theorem c243_132 : fx_op 243 132 = some (.iload_n 1, 133, 132) := by decide +kernel
theorem c243_133 : fx_op 243 133 = some (.iload 5, 135, 133) := by decide +kernel
theorem c243_135 : fx_op 243 135 = some (.iload 5, 137, 135) := by decide +kernel
theorem c243_137 : fx_op 243 137 = some (.iload_n 2, 138, 137) := by decide +kernel
theorem c243_138 : fx_op 243 138 = some (.iadd, 139, 138) := by decide +kernel
theorem c243_149 : fx_op 243 149 = some (.ireturn, 150, 149) := by decide +kernel
theorem c243_145 : fx_op 243 145 = some (.goto (-53), 148, 92) := by decide +kernel
theorem c243_139 : fx_ca 243 139 = some (244, 4, 2, 142) := by decide +kernel
theorem c243_118 : fx_ca 243 118 = some (244, 4, 2, 121) := by decide +kernel
theorem c243_181 : fx_op 243 181 = some (.iload 6, 183, 181) := by decide +kernel
theorem c243_183 : fx_op 243 183 = some (.aload_n 0, 184, 183) := by decide +kernel
theorem c243_184 : fx_gf 243 184 = some (12, 12, 187) := by decide +kernel
theorem c243_187 : fx_op 243 187 = some (.if_icmp .ge 42, 190, 229) := by decide +kernel
theorem c243_190 : fx_op 243 190 = some (.aload_n 0, 191, 190) := by decide +kernel
theorem c243_191 : fx_gf 243 191 = some (12, 13, 194) := by decide +kernel
theorem c243_194 : fx_op 243 194 = some (.iload 6, 196, 194) := by decide +kernel
theorem c243_196 : fx_op 243 196 = some (.aload_n 0, 197, 196) := by decide +kernel
theorem c243_197 : fx_gf 243 197 = some (12, 14, 200) := by decide +kernel
theorem c243_200 : fx_ci 243 200 = some (53, 202) := by decide +kernel
theorem c243_202 : fx_op 243 202 = some (.if_icmp .ne 13, 205, 215) := by decide +kernel
theorem c243_215 : fx_op 243 215 = some (.iload_n 2, 216, 215) := by decide +kernel
theorem c243_216 : fx_op 243 216 = some (.iload 6, 218, 216) := by decide +kernel
theorem c243_218 : fx_op 243 218 = some (.imul, 219, 218) := by decide +kernel
theorem c243_219 : fx_op 243 219 = some (.iload 5, 221, 219) := by decide +kernel
theorem c243_221 : fx_op 243 221 = some (.iadd, 222, 221) := by decide +kernel
theorem c243_229 : fx_op 243 229 = some (.aload_n 0, 230, 229) := by decide +kernel
theorem c243_230 : fx_op 243 230 = some (.iload_n 1, 231, 230) := by decide +kernel
theorem c243_205 : fx_op 243 205 = some (.iload_n 2, 206, 205) := by decide +kernel
theorem c243_206 : fx_op 243 206 = some (.iload 5, 208, 206) := by decide +kernel
theorem c243_208 : fx_op 243 208 = some (.imul, 209, 208) := by decide +kernel
theorem c243_209 : fx_op 243 209 = some (.iload 6, 211, 209) := by decide +kernel
theorem c243_211 : fx_op 243 211 = some (.iadd, 212, 211) := by decide +kernel
theorem c243_212 : fx_op 243 212 = some (.goto 10, 215, 222) := by decide +kernel
theorem c243_223 : fx_op 243 223 = some (.iinc 6 1, 226, 223) := by decide +kernel
theorem c243_231 : fx_ca 243 231 = some (242, 2, 2, 234) := by decide +kernel
theorem c243_222 : fx_op 243 222 = some (.iastore, 223, 222) := by decide +kernel
theorem c243_226 : fx_op 243 226 = some (.goto (-45), 229, 181) := by decide +kernel
theorem c243_234 : fx_op 243 234 = some (.iinc 5 1, 237, 234) := by decide +kernel
theorem c243_237 : fx_op 243 237 = some (.goto (-84), 240, 153) := by decide +kernel
theorem s243_0 {kc : List va_E} {d : Nat} {x1 : Int} {M : fx_M} {Q : Option fx_V → fx_M → Prop} (H : (((0 : Int) ≤ x1 ∧ x1 < 10)) ∧ (((0 : Int) ≤ x1 ∧ x1 < 10)) ∧ ((fx_in32 (M 133 11))) ∧ (M 133 11 ≤ 99 → ((fx_in32 (M 133 14))) ∧ (M 133 14 ≠ 53 → (fx_in32 (M 133 14))) ∧ (((0 : Int) ≤ x1 ∧ x1 < 10)) ∧ ((fx_in32 ((M 149 x1) + (if M 133 14 = 53 then (M 147 x1 : Int) else (if M 133 14 = 54 then (M 146 x1 : Int) else ((M 147 x1) * ((M 146 x1) - 1)) + ((M 146 x1) * ((M 147 x1) - 1))))))) ∧ ((M 149 x1) + (if M 133 14 = 53 then (M 147 x1 : Int) else (if M 133 14 = 54 then (M 146 x1 : Int) else ((M 147 x1) * ((M 146 x1) - 1)) + ((M 146 x1) * ((M 147 x1) - 1)))) ≤ 12 → ((fx_in32 (M 133 14))) ∧ (M 133 14 ≠ 55 → wp kc (d + 1) 243 153 [some (jR 133), some (jI x1), some (jI (M 146 x1)), some (jI (M 147 x1)), some (jI (if M 133 14 = 53 then (M 147 x1 : Int) else (if M 133 14 = 54 then (M 146 x1 : Int) else ((M 147 x1) * ((M 146 x1) - 1)) + ((M 146 x1) * ((M 147 x1) - 1))))), some (jI 0), none] [] M Q) ∧ (M 133 14 = 55 → wp kc (d + 1) 243 92 [some (jR 133), some (jI x1), some (jI (M 146 x1)), some (jI (M 147 x1)), none, some (jI 0), none] [] M Q)) ∧ (12 < (M 149 x1) + (if M 133 14 = 53 then (M 147 x1 : Int) else (if M 133 14 = 54 then (M 146 x1 : Int) else ((M 147 x1) * ((M 146 x1) - 1)) + ((M 146 x1) * ((M 147 x1) - 1)))) → Q (some (jI 4)) M)) ∧ (99 < M 133 11 → Q (some (jI 3)) M)) : wp kc (d + 1) 243 0 [some (jR 133), some (jI x1), none, none, none, none, none] [] M Q :=
  (x_aldn c243_0 rfl (x_gfr c243_1 k_133_37 (x_ildn c243_4 rfl (x_iald c243_5 a_146 H.1 (by decide) (x_istn (l' := [some (jR 133), some (jI x1), some (jI (M 146 x1)), none, none, none, none]) c243_6 rfl (x_aldn c243_7 rfl (x_gfr c243_8 k_133_38 (x_ildn c243_11 rfl (x_iald c243_12 a_147 H.2.1 (by decide) (x_istn (l' := [some (jR 133), some (jI x1), some (jI (M 146 x1)), some (jI (M 147 x1)), none, none, none]) c243_13 rfl (x_aldn c243_14 rfl (x_gfi c243_15 k_133_11 (x_ci c243_18 (x_cle c243_20 H.2.2.1 (by decide) (fun h5 => (x_aldn c243_25 rfl (x_gfi c243_26 k_133_14 (x_ci c243_29 (have K : wp kc (d + 1) 243 62 [some (jR 133), some (jI x1), some (jI (M 146 x1)), some (jI (M 147 x1)), none, none, none] [jI (if M 133 14 = 53 then (M 147 x1 : Int) else (if M 133 14 = 54 then (M 146 x1 : Int) else ((M 147 x1) * ((M 146 x1) - 1)) + ((M 146 x1) * ((M 147 x1) - 1))))] M Q := (x_ist (l' := [some (jR 133), some (jI x1), some (jI (M 146 x1)), some (jI (M 147 x1)), some (jI (if M 133 14 = 53 then (M 147 x1 : Int) else (if M 133 14 = 54 then (M 146 x1 : Int) else ((M 147 x1) * ((M 146 x1) - 1)) + ((M 146 x1) * ((M 147 x1) - 1))))), none, none]) c243_62 rfl (x_aldn c243_64 rfl (x_gfr c243_65 k_133_40 (x_ildn c243_68 rfl (x_iald c243_69 a_149 (H.2.2.2.1 h5).2.2.1 (by decide) (x_ild c243_70 rfl (x_iadd c243_72 (x_ci c243_73 (x_cle c243_75 (H.2.2.2.1 h5).2.2.2.1 (by decide) (fun h3 => (x_aldn c243_80 rfl (x_gfi c243_81 k_133_14 (x_ci c243_84 (x_cne c243_86 ((H.2.2.2.1 h5).2.2.2.2.1 h3).1 (by decide) (fun h1 => (x_ci c243_150 (x_ist (l' := [some (jR 133), some (jI x1), some (jI (M 146 x1)), some (jI (M 147 x1)), some (jI (if M 133 14 = 53 then (M 147 x1 : Int) else (if M 133 14 = 54 then (M 146 x1 : Int) else ((M 147 x1) * ((M 146 x1) - 1)) + ((M 146 x1) * ((M 147 x1) - 1))))), some (jI 0), none]) c243_151 rfl (wp_wk (l' := [some (jR 133), some (jI x1), some (jI (M 146 x1)), some (jI (M 147 x1)), some (jI (if M 133 14 = 53 then (M 147 x1 : Int) else (if M 133 14 = 54 then (M 146 x1 : Int) else ((M 147 x1) * ((M 146 x1) - 1)) + ((M 146 x1) * ((M 147 x1) - 1))))), some (jI 0), none]) ⟨rfl, ⟨rfl, ⟨rfl, ⟨rfl, ⟨rfl, ⟨rfl, trivial⟩⟩⟩⟩⟩⟩ (((H.2.2.2.1 h5).2.2.2.2.1 h3).2.1 h1))))) (fun h2 => (x_ci c243_89 (x_ist (l' := [some (jR 133), some (jI x1), some (jI (M 146 x1)), some (jI (M 147 x1)), some (jI (if M 133 14 = 53 then (M 147 x1 : Int) else (if M 133 14 = 54 then (M 146 x1 : Int) else ((M 147 x1) * ((M 146 x1) - 1)) + ((M 146 x1) * ((M 147 x1) - 1))))), some (jI 0), none]) c243_90 rfl (wp_wk (l' := [some (jR 133), some (jI x1), some (jI (M 146 x1)), some (jI (M 147 x1)), none, some (jI 0), none]) ⟨rfl, ⟨rfl, ⟨rfl, ⟨rfl, ⟨rfl, trivial⟩⟩⟩⟩⟩ (((H.2.2.2.1 h5).2.2.2.2.1 h3).2.2 h2)))))))))) (fun h4 => (x_ci c243_78 (x_irt c243_79 r243 ((H.2.2.2.1 h5).2.2.2.2.2 h4))))))))))))); (x_cne c243_31 (H.2.2.2.1 h5).1 (by decide) (fun (h7 : M 133 14 ≠ 53) => (x_aldn c243_38 rfl (x_gfi c243_39 k_133_14 (x_ci c243_42 (x_cne c243_44 ((H.2.2.2.1 h5).2.1 h7) (by decide) (fun (h9 : M 133 14 ≠ 54) => (x_ildn c243_51 rfl (x_ildn c243_52 rfl (x_ci c243_53 (x_isub c243_54 (x_imul c243_55 (x_ildn c243_56 rfl (x_ildn c243_57 rfl (x_ci c243_58 (x_isub c243_59 (x_imul c243_60 (x_iadd c243_61 (wp_wk (l' := [some (jR 133), some (jI x1), some (jI (M 146 x1)), some (jI (M 147 x1)), none, none, none]) ⟨rfl, ⟨rfl, ⟨rfl, ⟨rfl, trivial⟩⟩⟩⟩ (by have K := K; first | (simp only [if_neg h7, if_neg h9] at K ⊢; exact K) | (exfalso; omega))))))))))))))) (fun (h10 : M 133 14 = 54) => (x_ildn c243_47 rfl (x_goto c243_48 (wp_wk (l' := [some (jR 133), some (jI x1), some (jI (M 146 x1)), some (jI (M 147 x1)), none, none, none]) ⟨rfl, ⟨rfl, ⟨rfl, ⟨rfl, trivial⟩⟩⟩⟩ (by have K := K; first | (simp only [if_neg h7, if_pos h10] at K ⊢; exact K) | (exfalso; omega))))))))))) (fun (h8 : M 133 14 = 53) => (x_ildn c243_34 rfl (x_goto c243_35 (wp_wk (l' := [some (jR 133), some (jI x1), some (jI (M 146 x1)), some (jI (M 147 x1)), none, none, none]) ⟨rfl, ⟨rfl, ⟨rfl, ⟨rfl, trivial⟩⟩⟩⟩ (by have K := K; first | (simp only [if_pos h8] at K ⊢; exact K) | (exfalso; omega)))))))))))) (fun h6 => (x_ci c243_23 (x_irt c243_24 r243 (H.2.2.2.2 h6))))))))))))))))))
theorem s243_92 {kc : List va_E} {d : Nat} {v1 v2 v3 v5 : Int} {M : fx_M} {Q : Option fx_V → fx_M → Prop} (H : ((fx_in32 v5) ∧ (fx_in32 (v2 * v3))) ∧ (v2 * v3 ≤ v5 → Q (some (jI 0)) M) ∧ (v5 < v2 * v3 → (((0 : Int) ≤ v5 ∧ v5 ≤ 2147483647) ∧ ((0 : Int) < v2 ∧ v2 ≤ 2147483647)) ∧ ((fx_in32 ((v5 % v2) + 1)) ∧ (fx_in32 v2)) ∧ (v2 ≤ (v5 % v2) + 1 → ((fx_in32 (v5 + v2)) ∧ (fx_in32 (v2 * v3))) ∧ (v2 * v3 ≤ v5 + v2 → wp kc (d + 1) 243 92 [some (jR 133), some (jI v1), some (jI v2), some (jI v3), none, some (jI (v5 + 1)), none] [] M Q) ∧ (v5 + v2 < v2 * v3 → wc kc d 244 [jR 133, jI v1, jI v5, jI (v5 + v2)] M (fun v M1 => wp kc (d + 1) 243 142 [some (jR 133), some (jI v1), some (jI v2), some (jI v3), none, some (jI v5), none] (v.toList ++ []) M1 Q))) ∧ ((v5 % v2) + 1 < v2 → wc kc d 244 [jR 133, jI v1, jI v5, jI (v5 + 1)] M (fun v M1 => wp kc (d + 1) 243 121 [some (jR 133), some (jI v1), some (jI v2), some (jI v3), none, some (jI v5), none] (v.toList ++ []) M1 Q)))) : wp kc (d + 1) 243 92 [some (jR 133), some (jI v1), some (jI v2), some (jI v3), none, some (jI v5), none] [] M Q :=
  (x_ild c243_92 rfl (x_ildn c243_94 rfl (x_ildn c243_95 rfl (x_imul c243_96 (x_cge c243_97 H.1.1 H.1.2 (fun h5 => (x_ci c243_148 (x_irt c243_149 r243 (H.2.1 h5)))) (fun h6 => (x_ild c243_100 rfl (x_ildn c243_102 rfl (x_irem c243_103 (H.2.2 h6).1.1 (H.2.2 h6).1.2 (x_ci c243_104 (x_iadd c243_105 (x_ildn c243_106 rfl (x_cge c243_107 (H.2.2 h6).2.1.1 (H.2.2 h6).2.1.2 (fun h3 => (x_ild c243_121 rfl (x_ildn c243_123 rfl (x_iadd c243_124 (x_ildn c243_125 rfl (x_ildn c243_126 rfl (x_imul c243_127 (x_cge c243_128 ((H.2.2 h6).2.2.1 h3).1.1 ((H.2.2 h6).2.2.1 h3).1.2 (fun h1 => (x_inc (l' := [some (jR 133), some (jI v1), some (jI v2), some (jI v3), none, some (jI (v5 + 1)), none]) c243_142 rfl rfl (x_goto c243_145 (wp_wk (l' := [some (jR 133), some (jI v1), some (jI v2), some (jI v3), none, some (jI (v5 + 1)), none]) ⟨rfl, ⟨rfl, ⟨rfl, ⟨rfl, ⟨rfl, trivial⟩⟩⟩⟩⟩ (((H.2.2 h6).2.2.1 h3).2.1 h1))))) (fun h2 => (x_aldn c243_131 rfl (x_ildn c243_132 rfl (x_ild c243_133 rfl (x_ild c243_135 rfl (x_ildn c243_137 rfl (x_iadd c243_138 (wp_wk (l' := [some (jR 133), some (jI v1), some (jI v2), some (jI v3), none, some (jI v5), none]) ⟨rfl, ⟨rfl, ⟨rfl, ⟨rfl, ⟨rfl, trivial⟩⟩⟩⟩⟩ (x_cv (As := [jI v1, jI v5, jI (v5 + v2)]) (st := []) c243_139 cl_133 kl244 rfl (Nat.le_of_ble_eq_true rfl) mx244 (Nat.le_refl _) (((H.2.2 h6).2.2.1 h3).2.2 h2)))))))))))))))))) (fun h4 => (x_aldn c243_110 rfl (x_ildn c243_111 rfl (x_ild c243_112 rfl (x_ild c243_114 rfl (x_ci c243_116 (x_iadd c243_117 (wp_wk (l' := [some (jR 133), some (jI v1), some (jI v2), some (jI v3), none, some (jI v5), none]) ⟨rfl, ⟨rfl, ⟨rfl, ⟨rfl, ⟨rfl, trivial⟩⟩⟩⟩⟩ (x_cv (As := [jI v1, jI v5, jI (v5 + 1)]) (st := []) c243_118 cl_133 kl244 rfl (Nat.le_of_ble_eq_true rfl) mx244 (Nat.le_refl _) ((H.2.2 h6).2.2.2 h4)))))))))))))))))))))))
theorem s243_121 {kc : List va_E} {d : Nat} {v1 v2 v3 v5 : Int} {M : fx_M} {Q : Option fx_V → fx_M → Prop} (H : ((fx_in32 (v5 + v2)) ∧ (fx_in32 (v2 * v3))) ∧ (v2 * v3 ≤ v5 + v2 → wp kc (d + 1) 243 92 [some (jR 133), some (jI v1), some (jI v2), some (jI v3), none, some (jI (v5 + 1)), none] [] M Q) ∧ (v5 + v2 < v2 * v3 → wc kc d 244 [jR 133, jI v1, jI v5, jI (v5 + v2)] M (fun v M1 => wp kc (d + 1) 243 142 [some (jR 133), some (jI v1), some (jI v2), some (jI v3), none, some (jI v5), none] (v.toList ++ []) M1 Q))) : wp kc (d + 1) 243 121 [some (jR 133), some (jI v1), some (jI v2), some (jI v3), none, some (jI v5), none] [] M Q :=
  (x_ild c243_121 rfl (x_ildn c243_123 rfl (x_iadd c243_124 (x_ildn c243_125 rfl (x_ildn c243_126 rfl (x_imul c243_127 (x_cge c243_128 H.1.1 H.1.2 (fun h1 => (x_inc (l' := [some (jR 133), some (jI v1), some (jI v2), some (jI v3), none, some (jI (v5 + 1)), none]) c243_142 rfl rfl (x_goto c243_145 (wp_wk (l' := [some (jR 133), some (jI v1), some (jI v2), some (jI v3), none, some (jI (v5 + 1)), none]) ⟨rfl, ⟨rfl, ⟨rfl, ⟨rfl, ⟨rfl, trivial⟩⟩⟩⟩⟩ (H.2.1 h1))))) (fun h2 => (x_aldn c243_131 rfl (x_ildn c243_132 rfl (x_ild c243_133 rfl (x_ild c243_135 rfl (x_ildn c243_137 rfl (x_iadd c243_138 (wp_wk (l' := [some (jR 133), some (jI v1), some (jI v2), some (jI v3), none, some (jI v5), none]) ⟨rfl, ⟨rfl, ⟨rfl, ⟨rfl, ⟨rfl, trivial⟩⟩⟩⟩⟩ (x_cv (As := [jI v1, jI v5, jI (v5 + v2)]) (st := []) c243_139 cl_133 kl244 rfl (Nat.le_of_ble_eq_true rfl) mx244 (Nat.le_refl _) (H.2.2 h2)))))))))))))))))
theorem s243_142 {kc : List va_E} {d : Nat} {v1 v2 v3 v5 : Int} {M : fx_M} {Q : Option fx_V → fx_M → Prop} (H : wp kc (d + 1) 243 92 [some (jR 133), some (jI v1), some (jI v2), some (jI v3), none, some (jI (v5 + 1)), none] [] M Q) : wp kc (d + 1) 243 142 [some (jR 133), some (jI v1), some (jI v2), some (jI v3), none, some (jI v5), none] [] M Q :=
  (x_inc (l' := [some (jR 133), some (jI v1), some (jI v2), some (jI v3), none, some (jI (v5 + 1)), none]) c243_142 rfl rfl (x_goto c243_145 (wp_wk (l' := [some (jR 133), some (jI v1), some (jI v2), some (jI v3), none, some (jI (v5 + 1)), none]) ⟨rfl, ⟨rfl, ⟨rfl, ⟨rfl, ⟨rfl, trivial⟩⟩⟩⟩⟩ H)))
theorem s243_153 {kc : List va_E} {d : Nat} {v1 v2 v3 v4 v5 : Int} {M : fx_M} {Q : Option fx_V → fx_M → Prop} (H : ((fx_in32 v5) ∧ (fx_in32 v4)) ∧ (v4 ≤ v5 → Q (some (jI 0)) M) ∧ (v5 < v4 → ((fx_in32 (M 133 14))) ∧ wp kc (d + 1) 243 181 [some (jR 133), some (jI v1), some (jI v2), some (jI v3), some (jI v4), some (jI v5), some (jI 0)] [] (fx_up M 133 12 (if M 133 14 = 53 then (v2 : Int) else v3)) Q)) : wp kc (d + 1) 243 153 [some (jR 133), some (jI v1), some (jI v2), some (jI v3), some (jI v4), some (jI v5), none] [] M Q :=
  (x_ild c243_153 rfl (x_ild c243_155 rfl (x_cge c243_157 H.1.1 H.1.2 (fun h1 => (x_ci c243_240 (x_irt c243_241 r243 (H.2.1 h1)))) (fun h2 => (x_aldn c243_160 rfl (x_aldn c243_161 rfl (x_gfi c243_162 k_133_14 (x_ci c243_165 (have K : wp kc (d + 1) 243 175 [some (jR 133), some (jI v1), some (jI v2), some (jI v3), some (jI v4), some (jI v5), none] [jI (if M 133 14 = 53 then (v2 : Int) else v3), jR 133] M Q := (x_pfi c243_175 k_133_12 (x_ci c243_178 (x_ist (l' := [some (jR 133), some (jI v1), some (jI v2), some (jI v3), some (jI v4), some (jI v5), some (jI 0)]) c243_179 rfl (wp_wk (l' := [some (jR 133), some (jI v1), some (jI v2), some (jI v3), some (jI v4), some (jI v5), some (jI 0)]) ⟨rfl, ⟨rfl, ⟨rfl, ⟨rfl, ⟨rfl, ⟨rfl, ⟨rfl, trivial⟩⟩⟩⟩⟩⟩⟩ (H.2.2 h2).2)))); (x_cne c243_167 (H.2.2 h2).1 (by decide) (fun (h3 : M 133 14 ≠ 53) => (x_ildn c243_174 rfl (wp_wk (l' := [some (jR 133), some (jI v1), some (jI v2), some (jI v3), some (jI v4), some (jI v5), none]) ⟨rfl, ⟨rfl, ⟨rfl, ⟨rfl, ⟨rfl, ⟨rfl, trivial⟩⟩⟩⟩⟩⟩ (by have K := K; first | (simp only [if_neg h3] at K ⊢; exact K) | (exfalso; omega))))) (fun (h4 : M 133 14 = 53) => (x_ildn c243_170 rfl (x_goto c243_171 (wp_wk (l' := [some (jR 133), some (jI v1), some (jI v2), some (jI v3), some (jI v4), some (jI v5), none]) ⟨rfl, ⟨rfl, ⟨rfl, ⟨rfl, ⟨rfl, ⟨rfl, trivial⟩⟩⟩⟩⟩⟩ (by have K := K; first | (simp only [if_pos h4] at K ⊢; exact K) | (exfalso; omega))))))))))))))))
theorem s243_181 {kc : List va_E} {d : Nat} {v1 v2 v3 v4 v5 v6 : Int} {M : fx_M} {Q : Option fx_V → fx_M → Prop} (H : ((fx_in32 v6) ∧ (fx_in32 (M 133 12))) ∧ (M 133 12 ≤ v6 → wc kc d 242 [jR 133, jI v1] M (fun v M1 => wp kc (d + 1) 243 234 [some (jR 133), some (jI v1), some (jI v2), some (jI v3), some (jI v4), some (jI v5), none] (v.toList ++ []) M1 Q)) ∧ (v6 < M 133 12 → ((fx_in32 (M 133 14))) ∧ (((0 : Int) ≤ v6 ∧ v6 < 4)) ∧ wp kc (d + 1) 243 181 [some (jR 133), some (jI v1), some (jI v2), some (jI v3), some (jI v4), some (jI v5), some (jI (v6 + 1))] [] (fx_up M 137 v6 (if M 133 14 = 53 then ((v2 * v5) + v6 : Int) else (v2 * v6) + v5)) Q)) : wp kc (d + 1) 243 181 [some (jR 133), some (jI v1), some (jI v2), some (jI v3), some (jI v4), some (jI v5), some (jI v6)] [] M Q :=
  (x_ild c243_181 rfl (x_aldn c243_183 rfl (x_gfi c243_184 k_133_12 (x_cge c243_187 H.1.1 H.1.2 (fun h1 => (x_aldn c243_229 rfl (x_ildn c243_230 rfl (wp_wk (l' := [some (jR 133), some (jI v1), some (jI v2), some (jI v3), some (jI v4), some (jI v5), none]) ⟨rfl, ⟨rfl, ⟨rfl, ⟨rfl, ⟨rfl, ⟨rfl, trivial⟩⟩⟩⟩⟩⟩ (x_cv (As := [jI v1]) (st := []) c243_231 cl_133 kl242 rfl (Nat.le_of_ble_eq_true rfl) mx242 (Nat.le_refl _) (H.2.1 h1)))))) (fun h2 => (x_aldn c243_190 rfl (x_gfr c243_191 k_133_13 (x_ild c243_194 rfl (x_aldn c243_196 rfl (x_gfi c243_197 k_133_14 (x_ci c243_200 (have K : wp kc (d + 1) 243 222 [some (jR 133), some (jI v1), some (jI v2), some (jI v3), some (jI v4), some (jI v5), some (jI v6)] [jI (if M 133 14 = 53 then ((v2 * v5) + v6 : Int) else (v2 * v6) + v5), jI v6, jR 137] M Q := (x_iast c243_222 a_137 (H.2.2 h2).2.1 (by decide) (x_inc (l' := [some (jR 133), some (jI v1), some (jI v2), some (jI v3), some (jI v4), some (jI v5), some (jI (v6 + 1))]) c243_223 rfl rfl (x_goto c243_226 (wp_wk (l' := [some (jR 133), some (jI v1), some (jI v2), some (jI v3), some (jI v4), some (jI v5), some (jI (v6 + 1))]) ⟨rfl, ⟨rfl, ⟨rfl, ⟨rfl, ⟨rfl, ⟨rfl, ⟨rfl, trivial⟩⟩⟩⟩⟩⟩⟩ (H.2.2 h2).2.2)))); (x_cne c243_202 (H.2.2 h2).1 (by decide) (fun (h3 : M 133 14 ≠ 53) => (x_ildn c243_215 rfl (x_ild c243_216 rfl (x_imul c243_218 (x_ild c243_219 rfl (x_iadd c243_221 (wp_wk (l' := [some (jR 133), some (jI v1), some (jI v2), some (jI v3), some (jI v4), some (jI v5), some (jI v6)]) ⟨rfl, ⟨rfl, ⟨rfl, ⟨rfl, ⟨rfl, ⟨rfl, ⟨rfl, trivial⟩⟩⟩⟩⟩⟩⟩ (by have K := K; first | (simp only [if_neg h3] at K ⊢; exact K) | (exfalso; omega))))))))) (fun (h4 : M 133 14 = 53) => (x_ildn c243_205 rfl (x_ild c243_206 rfl (x_imul c243_208 (x_ild c243_209 rfl (x_iadd c243_211 (x_goto c243_212 (wp_wk (l' := [some (jR 133), some (jI v1), some (jI v2), some (jI v3), some (jI v4), some (jI v5), some (jI v6)]) ⟨rfl, ⟨rfl, ⟨rfl, ⟨rfl, ⟨rfl, ⟨rfl, ⟨rfl, trivial⟩⟩⟩⟩⟩⟩⟩ (by have K := K; first | (simp only [if_pos h4] at K ⊢; exact K) | (exfalso; omega)))))))))))))))))))))))
theorem s243_234 {kc : List va_E} {d : Nat} {v1 v2 v3 v4 v5 : Int} {M : fx_M} {Q : Option fx_V → fx_M → Prop} (H : wp kc (d + 1) 243 153 [some (jR 133), some (jI v1), some (jI v2), some (jI v3), some (jI v4), some (jI (v5 + 1)), none] [] M Q) : wp kc (d + 1) 243 234 [some (jR 133), some (jI v1), some (jI v2), some (jI v3), some (jI v4), some (jI v5), none] [] M Q :=
  (x_inc (l' := [some (jR 133), some (jI v1), some (jI v2), some (jI v3), some (jI v4), some (jI (v5 + 1)), none]) c243_234 rfl rfl (x_goto c243_237 (wp_wk (l' := [some (jR 133), some (jI v1), some (jI v2), some (jI v3), some (jI v4), some (jI (v5 + 1)), none]) ⟨rfl, ⟨rfl, ⟨rfl, ⟨rfl, ⟨rfl, ⟨rfl, trivial⟩⟩⟩⟩⟩⟩ H)))
theorem s243 {kc : List va_E} {d : Nat} {x1 : Int} {M : fx_M} {Q : Option fx_V → fx_M → Prop} (H : (((0 : Int) ≤ x1 ∧ x1 < 10)) ∧ (((0 : Int) ≤ x1 ∧ x1 < 10)) ∧ ((fx_in32 (M 133 11))) ∧ (M 133 11 ≤ 99 → ((fx_in32 (M 133 14))) ∧ (M 133 14 ≠ 53 → (fx_in32 (M 133 14))) ∧ (((0 : Int) ≤ x1 ∧ x1 < 10)) ∧ ((fx_in32 ((M 149 x1) + (if M 133 14 = 53 then (M 147 x1 : Int) else (if M 133 14 = 54 then (M 146 x1 : Int) else ((M 147 x1) * ((M 146 x1) - 1)) + ((M 146 x1) * ((M 147 x1) - 1))))))) ∧ ((M 149 x1) + (if M 133 14 = 53 then (M 147 x1 : Int) else (if M 133 14 = 54 then (M 146 x1 : Int) else ((M 147 x1) * ((M 146 x1) - 1)) + ((M 146 x1) * ((M 147 x1) - 1)))) ≤ 12 → ((fx_in32 (M 133 14))) ∧ (M 133 14 ≠ 55 → wp kc (d + 1) 243 153 [some (jR 133), some (jI x1), some (jI (M 146 x1)), some (jI (M 147 x1)), some (jI (if M 133 14 = 53 then (M 147 x1 : Int) else (if M 133 14 = 54 then (M 146 x1 : Int) else ((M 147 x1) * ((M 146 x1) - 1)) + ((M 146 x1) * ((M 147 x1) - 1))))), some (jI 0), none] [] M Q) ∧ (M 133 14 = 55 → wp kc (d + 1) 243 92 [some (jR 133), some (jI x1), some (jI (M 146 x1)), some (jI (M 147 x1)), none, some (jI 0), none] [] M Q)) ∧ (12 < (M 149 x1) + (if M 133 14 = 53 then (M 147 x1 : Int) else (if M 133 14 = 54 then (M 146 x1 : Int) else ((M 147 x1) * ((M 146 x1) - 1)) + ((M 146 x1) * ((M 147 x1) - 1)))) → Q (some (jI 4)) M)) ∧ (99 < M 133 11 → Q (some (jI 3)) M)) : wc kc (d + 1) 243 [jR 133, jI x1] M Q :=
  wc_of (wp_wk (l' := [some (jR 133), some (jI x1), none, none, none, none, none]) ⟨rfl, ⟨rfl, trivial⟩⟩ (s243_0 H))

/- PuzzleHouseModel.putPair(III)V -/
theorem c244_0 : fx_op 244 0 = some (.aload_n 0, 1, 0) := by decide +kernel
theorem c244_1 : fx_ci 244 1 = some (2, 2) := by decide +kernel
theorem c244_2 : fx_pf 244 2 = some (12, 12, 0, 5) := by decide +kernel
theorem c244_5 : fx_op 244 5 = some (.aload_n 0, 6, 5) := by decide +kernel
theorem c244_6 : fx_gf 244 6 = some (12, 13, 9) := by decide +kernel
theorem c244_9 : fx_ci 244 9 = some (0, 10) := by decide +kernel
theorem c244_10 : fx_op 244 10 = some (.iload_n 2, 11, 10) := by decide +kernel
theorem c244_12 : fx_op 244 12 = some (.aload_n 0, 13, 12) := by decide +kernel
theorem c244_13 : fx_gf 244 13 = some (12, 13, 16) := by decide +kernel
theorem c244_16 : fx_ci 244 16 = some (1, 17) := by decide +kernel
theorem c244_17 : fx_op 244 17 = some (.iload_n 3, 18, 17) := by decide +kernel
theorem c244_19 : fx_op 244 19 = some (.aload_n 0, 20, 19) := by decide +kernel
theorem c244_20 : fx_op 244 20 = some (.iload_n 1, 21, 20) := by decide +kernel
theorem c244_11 : fx_op 244 11 = some (.iastore, 12, 11) := by decide +kernel
theorem c244_18 : fx_op 244 18 = some (.iastore, 19, 18) := by decide +kernel
theorem c244_21 : fx_ca 244 21 = some (242, 2, 2, 24) := by decide +kernel
theorem c244_24 : fx_op 244 24 = some (.return_, 25, 24) := by decide +kernel
theorem s244_0 {kc : List va_E} {d : Nat} {x1 x2 x3 : Int} {M : fx_M} {Q : Option fx_V → fx_M → Prop} (H : wc kc d 242 [jR 133, jI x1] (fx_up (fx_up (fx_up M 133 12 2) 137 0 x2) 137 1 x3) (fun v M1 => wp kc (d + 1) 244 24 [none, none, none, none] (v.toList ++ []) M1 Q)) : wp kc (d + 1) 244 0 [some (jR 133), some (jI x1), some (jI x2), some (jI x3)] [] M Q :=
  (x_aldn c244_0 rfl (x_ci c244_1 (x_pfi c244_2 k_133_12 (x_aldn c244_5 rfl (x_gfr c244_6 k_133_13 (x_ci c244_9 (x_ildn c244_10 rfl (x_iast c244_11 a_137 (by decide) (by decide) (x_aldn c244_12 rfl (x_gfr c244_13 k_133_13 (x_ci c244_16 (x_ildn c244_17 rfl (x_iast c244_18 a_137 (by decide) (by decide) (x_aldn c244_19 rfl (x_ildn c244_20 rfl (wp_wk (l' := [none, none, none, none]) trivial (x_cv (As := [jI x1]) (st := []) c244_21 cl_133 kl242 rfl (Nat.le_of_ble_eq_true rfl) mx242 (Nat.le_refl _) H)))))))))))))))))
theorem s244_24 {kc : List va_E} {d : Nat} {M : fx_M} {Q : Option fx_V → fx_M → Prop} (H : Q none M) : wp kc (d + 1) 244 24 [none, none, none, none] [] M Q :=
  (x_vr c244_24 r244 H)
theorem s244 {kc : List va_E} {d : Nat} {x1 x2 x3 : Int} {M : fx_M} {Q : Option fx_V → fx_M → Prop} (H : wc kc d 242 [jR 133, jI x1] (fx_up (fx_up (fx_up M 133 12 2) 137 0 x2) 137 1 x3) (fun v M1 => wp kc (d + 1) 244 24 [none, none, none, none] (v.toList ++ []) M1 Q)) : wc kc (d + 1) 244 [jR 133, jI x1, jI x2, jI x3] M Q :=
  wc_of (wp_wk (l' := [some (jR 133), some (jI x1), some (jI x2), some (jI x3)]) ⟨rfl, ⟨rfl, ⟨rfl, ⟨rfl, trivial⟩⟩⟩⟩ (s244_0 H))

/- PuzzleHouseModel.give(III)I -/
theorem c245_0 : fx_op 245 0 = some (.aload_n 0, 1, 0) := by decide +kernel
theorem c245_1 : fx_op 245 1 = some (.iload_n 1, 2, 1) := by decide +kernel
theorem c245_2 : fx_op 245 2 = some (.iload_n 2, 3, 2) := by decide +kernel
theorem c245_3 : fx_ca 245 3 = some (241, 3, 2, 6) := by decide +kernel
theorem c245_6 : fx_op 245 6 = some (.ifCond .ne 5, 9, 11) := by decide +kernel
theorem c245_11 : fx_op 245 11 = some (.iload_n 3, 12, 11) := by decide +kernel
theorem c245_12 : fx_op 245 12 = some (.aload_n 0, 13, 12) := by decide +kernel
theorem c245_13 : fx_gf 245 13 = some (12, 39, 16) := by decide +kernel
theorem c245_16 : fx_op 245 16 = some (.iload_n 1, 17, 16) := by decide +kernel
theorem c245_18 : fx_op 245 18 = some (.if_icmp .lt 5, 21, 23) := by decide +kernel
theorem c245_23 : fx_op 245 23 = some (.aload_n 0, 24, 23) := by decide +kernel
theorem c245_24 : fx_gf 245 24 = some (12, 45, 27) := by decide +kernel
theorem c245_27 : fx_ci 245 27 = some (9, 29) := by decide +kernel
theorem c245_29 : fx_op 245 29 = some (.iload_n 1, 30, 29) := by decide +kernel
theorem c245_30 : fx_op 245 30 = some (.imul, 31, 30) := by decide +kernel
theorem c245_31 : fx_op 245 31 = some (.iload_n 2, 32, 31) := by decide +kernel
theorem c245_32 : fx_op 245 32 = some (.iadd, 33, 32) := by decide +kernel
theorem c245_33 : fx_op 245 33 = some (.iload_n 3, 34, 33) := by decide +kernel
theorem c245_35 : fx_ci 245 35 = some (0, 36) := by decide +kernel
theorem c245_21 : fx_ci 245 21 = some (5, 22) := by decide +kernel
theorem c245_9 : fx_ci 245 9 = some (2, 10) := by decide +kernel
theorem c245_17 : fx_op 245 17 = some (.iaload, 18, 17) := by decide +kernel
theorem c245_34 : fx_op 245 34 = some (.iastore, 35, 34) := by decide +kernel
theorem c245_36 : fx_op 245 36 = some (.ireturn, 37, 36) := by decide +kernel
theorem c245_22 : fx_op 245 22 = some (.ireturn, 23, 22) := by decide +kernel
theorem c245_10 : fx_op 245 10 = some (.ireturn, 11, 10) := by decide +kernel
theorem s245_0 {kc : List va_E} {d : Nat} {x1 x2 x3 : Int} {M : fx_M} {Q : Option fx_V → fx_M → Prop} (H : wc kc d 241 [jR 133, jI x1, jI x2] M (fun v M1 => wp kc (d + 1) 245 6 [some (jR 133), some (jI x1), some (jI x2), some (jI x3)] (v.toList ++ []) M1 Q)) : wp kc (d + 1) 245 0 [some (jR 133), some (jI x1), some (jI x2), some (jI x3)] [] M Q :=
  (x_aldn c245_0 rfl (x_ildn c245_1 rfl (x_ildn c245_2 rfl (wp_wk (l' := [some (jR 133), some (jI x1), some (jI x2), some (jI x3)]) ⟨rfl, ⟨rfl, ⟨rfl, ⟨rfl, trivial⟩⟩⟩⟩ (x_cv (As := [jI x1, jI x2]) (st := []) c245_3 cl_133 kl241 rfl (Nat.le_of_ble_eq_true rfl) mx241 (Nat.le_refl _) H)))))
theorem s245_6 {kc : List va_E} {d : Nat} {v1 v2 v3 u0 : Int} {M : fx_M} {Q : Option fx_V → fx_M → Prop} (H : ((fx_in32 u0)) ∧ (u0 ≠ 0 → (((0 : Int) ≤ v1 ∧ v1 < 10)) ∧ ((fx_in32 v3) ∧ (fx_in32 (M 148 v1))) ∧ (v3 < M 148 v1 → (((0 : Int) ≤ (9 * v1) + v2 ∧ (9 * v1) + v2 < 90)) ∧ Q (some (jI 0)) (fx_up M 154 ((9 * v1) + v2) v3)) ∧ (M 148 v1 ≤ v3 → Q (some (jI 5)) M)) ∧ (u0 = 0 → Q (some (jI 2)) M)) : wp kc (d + 1) 245 6 [some (jR 133), some (jI v1), some (jI v2), some (jI v3)] [jI u0] M Q :=
  (x_zne c245_6 H.1 (fun h3 => (x_ildn c245_11 rfl (x_aldn c245_12 rfl (x_gfr c245_13 k_133_39 (x_ildn c245_16 rfl (x_iald c245_17 a_148 (H.2.1 h3).1 (by decide) (x_clt c245_18 (H.2.1 h3).2.1.1 (H.2.1 h3).2.1.2 (fun h1 => (x_aldn c245_23 rfl (x_gfr c245_24 k_133_45 (x_ci c245_27 (x_ildn c245_29 rfl (x_imul c245_30 (x_ildn c245_31 rfl (x_iadd c245_32 (x_ildn c245_33 rfl (x_iast c245_34 a_154 ((H.2.1 h3).2.2.1 h1).1 (by decide) (x_ci c245_35 (x_irt c245_36 r245 ((H.2.1 h3).2.2.1 h1).2)))))))))))) (fun h2 => (x_ci c245_21 (x_irt c245_22 r245 ((H.2.1 h3).2.2.2 h2))))))))))) (fun h4 => (x_ci c245_9 (x_irt c245_10 r245 (H.2.2 h4)))))
theorem s245 {kc : List va_E} {d : Nat} {x1 x2 x3 : Int} {M : fx_M} {Q : Option fx_V → fx_M → Prop} (H : wc kc d 241 [jR 133, jI x1, jI x2] M (fun v M1 => wp kc (d + 1) 245 6 [some (jR 133), some (jI x1), some (jI x2), some (jI x3)] (v.toList ++ []) M1 Q)) : wc kc (d + 1) 245 [jR 133, jI x1, jI x2, jI x3] M Q :=
  wc_of (wp_wk (l' := [some (jR 133), some (jI x1), some (jI x2), some (jI x3)]) ⟨rfl, ⟨rfl, ⟨rfl, ⟨rfl, trivial⟩⟩⟩⟩ (s245_0 H))

/- PuzzleHouseModel.scanProof()Z -/
theorem c246_0 : fx_op 246 0 = some (.aload_n 0, 1, 0) := by decide +kernel
theorem c246_1 : fx_ci 246 1 = some (0, 2) := by decide +kernel
theorem c246_2 : fx_pf 246 2 = some (12, 24, 0, 5) := by decide +kernel
theorem c246_5 : fx_op 246 5 = some (.aload_n 0, 6, 5) := by decide +kernel
theorem c246_6 : fx_gf 246 6 = some (12, 28, 9) := by decide +kernel
theorem c246_9 : fx_ci 246 9 = some (0, 10) := by decide +kernel
theorem c246_10 : fx_ci 246 10 = some (0, 11) := by decide +kernel
theorem c246_12 : fx_op 246 12 = some (.aload_n 0, 13, 12) := by decide +kernel
theorem c246_11 : fx_op 246 11 = some (.iastore, 12, 11) := by decide +kernel
theorem c246_13 : fx_ca 246 13 = some (247, 1, 2, 16) := by decide +kernel
theorem c246_16 : fx_op 246 16 = some (.ifCond .ne 5, 19, 21) := by decide +kernel
theorem c246_19 : fx_ci 246 19 = some (0, 20) := by decide +kernel
theorem c246_20 : fx_op 246 20 = some (.ireturn, 21, 20) := by decide +kernel
theorem c246_21 : fx_op 246 21 = some (.aload_n 0, 22, 21) := by decide +kernel
theorem c246_22 : fx_gf 246 22 = some (12, 7, 25) := by decide +kernel
theorem c246_25 : fx_op 246 25 = some (.aload_n 0, 26, 25) := by decide +kernel
theorem c246_26 : fx_gf 246 26 = some (12, 3, 29) := by decide +kernel
theorem c246_29 : fx_op 246 29 = some (.if_icmp .ge 12, 32, 41) := by decide +kernel
theorem c246_41 : fx_ci 246 41 = some (1, 42) := by decide +kernel
theorem c246_32 : fx_op 246 32 = some (.aload_n 0, 33, 32) := by decide +kernel
theorem c246_42 : fx_op 246 42 = some (.ireturn, 43, 42) := by decide +kernel
theorem c246_33 : fx_ca 246 33 = some (247, 1, 2, 36) := by decide +kernel
theorem c246_36 : fx_op 246 36 = some (.ifCond .ne (-15), 39, 21) := by decide +kernel
theorem c246_39 : fx_ci 246 39 = some (0, 40) := by decide +kernel
theorem c246_40 : fx_op 246 40 = some (.ireturn, 41, 40) := by decide +kernel
theorem s246_0 {kc : List va_E} {d : Nat} {M : fx_M} {Q : Option fx_V → fx_M → Prop} (H : wc kc d 247 [jR 133] (fx_up (fx_up M 133 24 0) 141 0 0) (fun v M1 => wp kc (d + 1) 246 16 [some (jR 133)] (v.toList ++ []) M1 Q)) : wp kc (d + 1) 246 0 [some (jR 133)] [] M Q :=
  (x_aldn c246_0 rfl (x_ci c246_1 (x_pfi c246_2 k_133_24 (x_aldn c246_5 rfl (x_gfr c246_6 k_133_28 (x_ci c246_9 (x_ci c246_10 (x_iast c246_11 a_141 (by decide) (by decide) (x_aldn c246_12 rfl (wp_wk (l' := [some (jR 133)]) ⟨rfl, trivial⟩ (x_cv (As := []) (st := []) c246_13 cl_133 kl247 rfl (Nat.le_of_ble_eq_true rfl) mx247 (Nat.le_refl _) H)))))))))))
theorem s246_16 {kc : List va_E} {d : Nat} {u0 : Int} {M : fx_M} {Q : Option fx_V → fx_M → Prop} (H : ((fx_in32 u0)) ∧ (u0 ≠ 0 → wp kc (d + 1) 246 21 [some (jR 133)] [] M Q) ∧ (u0 = 0 → Q (some (jI 0)) M)) : wp kc (d + 1) 246 16 [some (jR 133)] [jI u0] M Q :=
  (x_zne c246_16 H.1 (fun h1 => (wp_wk (l' := [some (jR 133)]) ⟨rfl, trivial⟩ (H.2.1 h1))) (fun h2 => (x_ci c246_19 (x_zrt c246_20 r246 (by decide) (H.2.2 h2)))))
theorem s246_21 {kc : List va_E} {d : Nat} {M : fx_M} {Q : Option fx_V → fx_M → Prop} (H : ((fx_in32 (M 133 7)) ∧ (fx_in32 (M 133 3))) ∧ (M 133 3 ≤ M 133 7 → Q (some (jI 1)) M) ∧ (M 133 7 < M 133 3 → wc kc d 247 [jR 133] M (fun v M1 => wp kc (d + 1) 246 36 [some (jR 133)] (v.toList ++ []) M1 Q))) : wp kc (d + 1) 246 21 [some (jR 133)] [] M Q :=
  (x_aldn c246_21 rfl (x_gfi c246_22 k_133_7 (x_aldn c246_25 rfl (x_gfi c246_26 k_133_3 (x_cge c246_29 H.1.1 H.1.2 (fun h1 => (x_ci c246_41 (x_zrt c246_42 r246 (by decide) (H.2.1 h1)))) (fun h2 => (x_aldn c246_32 rfl (wp_wk (l' := [some (jR 133)]) ⟨rfl, trivial⟩ (x_cv (As := []) (st := []) c246_33 cl_133 kl247 rfl (Nat.le_of_ble_eq_true rfl) mx247 (Nat.le_refl _) (H.2.2 h2))))))))))
theorem s246_36 {kc : List va_E} {d : Nat} {u0 : Int} {M : fx_M} {Q : Option fx_V → fx_M → Prop} (H : ((fx_in32 u0)) ∧ (u0 ≠ 0 → wp kc (d + 1) 246 21 [some (jR 133)] [] M Q) ∧ (u0 = 0 → Q (some (jI 0)) M)) : wp kc (d + 1) 246 36 [some (jR 133)] [jI u0] M Q :=
  (x_zne c246_36 H.1 (fun h1 => (wp_wk (l' := [some (jR 133)]) ⟨rfl, trivial⟩ (H.2.1 h1))) (fun h2 => (x_ci c246_39 (x_zrt c246_40 r246 (by decide) (H.2.2 h2)))))
theorem s246 {kc : List va_E} {d : Nat} {M : fx_M} {Q : Option fx_V → fx_M → Prop} (H : wc kc d 247 [jR 133] (fx_up (fx_up M 133 24 0) 141 0 0) (fun v M1 => wp kc (d + 1) 246 16 [some (jR 133)] (v.toList ++ []) M1 Q)) : wc kc (d + 1) 246 [jR 133] M Q :=
  wc_of (wp_wk (l' := [some (jR 133)]) ⟨rfl, trivial⟩ (s246_0 H))

/- PuzzleHouseModel.scanLine()Z -/
theorem c247_0 : fx_op 247 0 = some (.aload_n 0, 1, 0) := by decide +kernel
theorem c247_1 : fx_ca 247 1 = some (228, 1, 2, 4) := by decide +kernel
theorem c247_4 : fx_op 247 4 = some (.istore_n 1, 5, 4) := by decide +kernel
theorem c247_5 : fx_op 247 5 = some (.iload_n 1, 6, 5) := by decide +kernel
theorem c247_6 : fx_ci 247 6 = some (103, 8) := by decide +kernel
theorem c247_8 : fx_op 247 8 = some (.if_icmp .eq 29, 11, 37) := by decide +kernel
theorem c247_37 : fx_op 247 37 = some (.aload_n 0, 38, 37) := by decide +kernel
theorem c247_38 : fx_op 247 38 = some (.dup, 39, 38) := by decide +kernel
theorem c247_39 : fx_gf 247 39 = some (12, 7, 42) := by decide +kernel
theorem c247_42 : fx_ci 247 42 = some (1, 43) := by decide +kernel
theorem c247_43 : fx_op 247 43 = some (.iadd, 44, 43) := by decide +kernel
theorem c247_44 : fx_pf 247 44 = some (12, 7, 0, 47) := by decide +kernel
theorem c247_47 : fx_op 247 47 = some (.aload_n 0, 48, 47) := by decide +kernel
theorem c247_48 : fx_ci 247 48 = some (0, 49) := by decide +kernel
theorem c247_49 : fx_pf 247 49 = some (12, 8, 0, 52) := by decide +kernel
theorem c247_52 : fx_op 247 52 = some (.iload_n 1, 53, 52) := by decide +kernel
theorem c247_53 : fx_ci 247 53 = some (117, 55) := by decide +kernel
theorem c247_55 : fx_op 247 55 = some (.if_icmp .eq 18, 58, 73) := by decide +kernel
theorem c247_73 : fx_op 247 73 = some (.aload_n 0, 74, 73) := by decide +kernel
theorem c247_74 : fx_gf 247 74 = some (12, 25, 77) := by decide +kernel
theorem c247_77 : fx_op 247 77 = some (.aload_n 0, 78, 77) := by decide +kernel
theorem c247_78 : fx_gf 247 78 = some (12, 24, 81) := by decide +kernel
theorem c247_81 : fx_op 247 81 = some (.iload_n 1, 82, 81) := by decide +kernel
theorem c247_83 : fx_op 247 83 = some (.aload_n 0, 84, 83) := by decide +kernel
theorem c247_84 : fx_gf 247 84 = some (12, 26, 87) := by decide +kernel
theorem c247_87 : fx_op 247 87 = some (.aload_n 0, 88, 87) := by decide +kernel
theorem c247_88 : fx_gf 247 88 = some (12, 24, 91) := by decide +kernel
theorem c247_91 : fx_op 247 91 = some (.aload_n 0, 92, 91) := by decide +kernel
theorem c247_92 : fx_gf 247 92 = some (12, 8, 95) := by decide +kernel
theorem c247_96 : fx_op 247 96 = some (.iload_n 1, 97, 96) := by decide +kernel
theorem c247_97 : fx_ci 247 97 = some (119, 99) := by decide +kernel
theorem c247_99 : fx_op 247 99 = some (.if_icmp .ne 21, 102, 120) := by decide +kernel
theorem c247_120 : fx_op 247 120 = some (.aload_n 0, 121, 120) := by decide +kernel
theorem c247_121 : fx_gf 247 121 = some (12, 27, 124) := by decide +kernel
theorem c247_124 : fx_op 247 124 = some (.aload_n 0, 125, 124) := by decide +kernel
theorem c247_125 : fx_gf 247 125 = some (12, 24, 128) := by decide +kernel
theorem c247_128 : fx_op 247 128 = some (.aload_n 0, 129, 128) := by decide +kernel
theorem c247_129 : fx_gf 247 129 = some (12, 8, 132) := by decide +kernel
theorem c247_133 : fx_op 247 133 = some (.aload_n 0, 134, 133) := by decide +kernel
theorem c247_134 : fx_gf 247 134 = some (12, 28, 137) := by decide +kernel
theorem c247_137 : fx_op 247 137 = some (.aload_n 0, 138, 137) := by decide +kernel
theorem c247_138 : fx_gf 247 138 = some (12, 24, 141) := by decide +kernel
theorem c247_142 : fx_op 247 142 = some (.istore_n 2, 143, 142) := by decide +kernel
theorem c247_102 : fx_op 247 102 = some (.aload_n 0, 103, 102) := by decide +kernel
theorem c247_103 : fx_ci 247 103 = some (32, 105) := by decide +kernel
theorem c247_58 : fx_op 247 58 = some (.iload_n 1, 59, 58) := by decide +kernel
theorem c247_59 : fx_ci 247 59 = some (98, 61) := by decide +kernel
theorem c247_61 : fx_op 247 61 = some (.if_icmp .eq 12, 64, 73) := by decide +kernel
theorem c247_64 : fx_op 247 64 = some (.aload_n 0, 65, 64) := by decide +kernel
theorem c247_11 : fx_op 247 11 = some (.iload_n 1, 12, 11) := by decide +kernel
theorem c247_12 : fx_ci 247 12 = some (114, 14) := by decide +kernel
theorem c247_14 : fx_op 247 14 = some (.if_icmp .eq 23, 17, 37) := by decide +kernel
theorem c247_17 : fx_op 247 17 = some (.iload_n 1, 18, 17) := by decide +kernel
theorem c247_18 : fx_ci 247 18 = some (119, 20) := by decide +kernel
theorem c247_20 : fx_op 247 20 = some (.if_icmp .eq 17, 23, 37) := by decide +kernel
theorem c247_23 : fx_op 247 23 = some (.iload_n 1, 24, 23) := by decide +kernel
theorem c247_24 : fx_ci 247 24 = some (117, 26) := by decide +kernel
theorem c247_26 : fx_op 247 26 = some (.if_icmp .eq 11, 29, 37) := by decide +kernel
theorem c247_29 : fx_op 247 29 = some (.iload_n 1, 30, 29) := by decide +kernel
theorem c247_30 : fx_ci 247 30 = some (98, 32) := by decide +kernel
theorem c247_32 : fx_op 247 32 = some (.if_icmp .eq 5, 35, 37) := by decide +kernel
theorem c247_35 : fx_ci 247 35 = some (0, 36) := by decide +kernel
theorem c247_82 : fx_op 247 82 = some (.iastore, 83, 82) := by decide +kernel
theorem c247_95 : fx_op 247 95 = some (.iastore, 96, 95) := by decide +kernel
theorem c247_132 : fx_op 247 132 = some (.iastore, 133, 132) := by decide +kernel
theorem c247_141 : fx_op 247 141 = some (.iaload, 142, 141) := by decide +kernel
theorem c247_105 : fx_ca 247 105 = some (227, 2, 2, 108) := by decide +kernel
theorem c247_65 : fx_ca 247 65 = some (232, 1, 2, 68) := by decide +kernel
theorem c247_36 : fx_op 247 36 = some (.ireturn, 37, 36) := by decide +kernel
theorem c247_143 : fx_op 247 143 = some (.aload_n 0, 144, 143) := by decide +kernel
theorem c247_144 : fx_ca 247 144 = some (228, 1, 2, 147) := by decide +kernel
theorem c247_108 : fx_op 247 108 = some (.ifCond .eq 10, 111, 118) := by decide +kernel
theorem c247_118 : fx_ci 247 118 = some (0, 119) := by decide +kernel
theorem c247_111 : fx_op 247 111 = some (.aload_n 0, 112, 111) := by decide +kernel
theorem c247_119 : fx_op 247 119 = some (.ireturn, 120, 119) := by decide +kernel
theorem c247_112 : fx_ca 247 112 = some (232, 1, 2, 115) := by decide +kernel
theorem c247_68 : fx_op 247 68 = some (.ifCond .ne 5, 71, 73) := by decide +kernel
theorem c247_71 : fx_ci 247 71 = some (0, 72) := by decide +kernel
theorem c247_72 : fx_op 247 72 = some (.ireturn, 73, 72) := by decide +kernel
theorem c247_147 : fx_ci 247 147 = some (32, 149) := by decide +kernel
theorem c247_149 : fx_op 247 149 = some (.if_icmp .ne 139, 152, 288) := by decide +kernel
theorem c247_288 : fx_op 247 288 = some (.aload_n 0, 289, 288) := by decide +kernel
theorem c247_289 : fx_op 247 289 = some (.dup, 290, 289) := by decide +kernel
theorem c247_290 : fx_gf 247 290 = some (12, 24, 293) := by decide +kernel
theorem c247_293 : fx_ci 247 293 = some (1, 294) := by decide +kernel
theorem c247_294 : fx_op 247 294 = some (.iadd, 295, 294) := by decide +kernel
theorem c247_295 : fx_pf 247 295 = some (12, 24, 0, 298) := by decide +kernel
theorem c247_298 : fx_op 247 298 = some (.aload_n 0, 299, 298) := by decide +kernel
theorem c247_299 : fx_gf 247 299 = some (12, 28, 302) := by decide +kernel
theorem c247_302 : fx_op 247 302 = some (.aload_n 0, 303, 302) := by decide +kernel
theorem c247_303 : fx_gf 247 303 = some (12, 24, 306) := by decide +kernel
theorem c247_306 : fx_op 247 306 = some (.iload_n 2, 307, 306) := by decide +kernel
theorem c247_308 : fx_op 247 308 = some (.aload_n 0, 309, 308) := by decide +kernel
theorem c247_309 : fx_ci 247 309 = some (59, 311) := by decide +kernel
theorem c247_152 : fx_op 247 152 = some (.aload_n 0, 153, 152) := by decide +kernel
theorem c247_153 : fx_op 247 153 = some (.dup, 154, 153) := by decide +kernel
theorem c247_154 : fx_gf 247 154 = some (12, 7, 157) := by decide +kernel
theorem c247_157 : fx_ci 247 157 = some (1, 158) := by decide +kernel
theorem c247_158 : fx_op 247 158 = some (.iadd, 159, 158) := by decide +kernel
theorem c247_159 : fx_pf 247 159 = some (12, 7, 0, 162) := by decide +kernel
theorem c247_162 : fx_op 247 162 = some (.aload_n 0, 163, 162) := by decide +kernel
theorem c247_307 : fx_op 247 307 = some (.iastore, 308, 307) := by decide +kernel
theorem c247_311 : fx_ca 247 311 = some (227, 2, 2, 314) := by decide +kernel
theorem c247_163 : fx_ca 247 163 = some (228, 1, 2, 166) := by decide +kernel
theorem c247_115 : fx_op 247 115 = some (.ifCond .ne 5, 118, 120) := by decide +kernel
theorem c247_314 : fx_op 247 314 = some (.ireturn, 315, 314) := by decide +kernel
theorem c247_166 : fx_ci 247 166 = some (43, 168) := by decide +kernel
theorem c247_168 : fx_op 247 168 = some (.if_icmp .ne 7, 171, 175) := by decide +kernel
theorem c247_175 : fx_ci 247 175 = some (0, 176) := by decide +kernel
theorem c247_171 : fx_ci 247 171 = some (1, 172) := by decide +kernel
theorem c247_172 : fx_op 247 172 = some (.goto 4, 175, 176) := by decide +kernel
theorem c247_176 : fx_op 247 176 = some (.istore_n 3, 177, 176) := by decide +kernel
theorem c247_177 : fx_op 247 177 = some (.aload_n 0, 178, 177) := by decide +kernel
theorem c247_178 : fx_ci 247 178 = some (43, 180) := by decide +kernel
theorem c247_180 : fx_ca 247 180 = some (227, 2, 2, 183) := by decide +kernel
theorem c247_183 : fx_op 247 183 = some (.ifCond .ne 12, 186, 195) := by decide +kernel
theorem c247_195 : fx_op 247 195 = some (.aload_n 0, 196, 195) := by decide +kernel
theorem c247_186 : fx_op 247 186 = some (.aload_n 0, 187, 186) := by decide +kernel
theorem c247_187 : fx_ci 247 187 = some (45, 189) := by decide +kernel
theorem c247_196 : fx_ca 247 196 = some (232, 1, 2, 199) := by decide +kernel
theorem c247_189 : fx_ca 247 189 = some (227, 2, 2, 192) := by decide +kernel
theorem c247_199 : fx_op 247 199 = some (.ifCond .ne 5, 202, 204) := by decide +kernel
theorem c247_204 : fx_op 247 204 = some (.aload_n 0, 205, 204) := by decide +kernel
theorem c247_205 : fx_gf 247 205 = some (12, 8, 208) := by decide +kernel
theorem c247_208 : fx_op 247 208 = some (.istore 4, 210, 208) := by decide +kernel
theorem c247_210 : fx_op 247 210 = some (.aload_n 0, 211, 210) := by decide +kernel
theorem c247_211 : fx_ci 247 211 = some (46, 213) := by decide +kernel
theorem c247_202 : fx_ci 247 202 = some (0, 203) := by decide +kernel
theorem c247_213 : fx_ca 247 213 = some (227, 2, 2, 216) := by decide +kernel
theorem c247_203 : fx_op 247 203 = some (.ireturn, 204, 203) := by decide +kernel
theorem c247_192 : fx_op 247 192 = some (.ifCond .eq 10, 195, 202) := by decide +kernel
theorem c247_216 : fx_op 247 216 = some (.ifCond .eq 10, 219, 226) := by decide +kernel
theorem c247_226 : fx_ci 247 226 = some (0, 227) := by decide +kernel
theorem c247_219 : fx_op 247 219 = some (.aload_n 0, 220, 219) := by decide +kernel
theorem c247_227 : fx_op 247 227 = some (.ireturn, 228, 227) := by decide +kernel
theorem c247_220 : fx_ca 247 220 = some (232, 1, 2, 223) := by decide +kernel
theorem c247_223 : fx_op 247 223 = some (.ifCond .ne 5, 226, 228) := by decide +kernel
theorem c247_228 : fx_op 247 228 = some (.aload_n 0, 229, 228) := by decide +kernel
theorem c247_229 : fx_gf 247 229 = some (12, 29, 232) := by decide +kernel
theorem c247_232 : fx_op 247 232 = some (.iload_n 2, 233, 232) := by decide +kernel
theorem c247_233 : fx_op 247 233 = some (.iload 4, 235, 233) := by decide +kernel
theorem c247_235 : fx_op 247 235 = some (.aload_n 0, 236, 235) := by decide +kernel
theorem c247_236 : fx_ca 247 236 = some (248, 1, 2, 239) := by decide +kernel
theorem c247_239 : fx_op 247 239 = some (.if_icmp .ge 41, 242, 280) := by decide +kernel
theorem c247_280 : fx_ci 247 280 = some ((-1), 281) := by decide +kernel
theorem c247_242 : fx_op 247 242 = some (.aload_n 0, 243, 242) := by decide +kernel
theorem c247_243 : fx_gf 247 243 = some (12, 8, 246) := by decide +kernel
theorem c247_246 : fx_op 247 246 = some (.aload_n 0, 247, 246) := by decide +kernel
theorem c247_247 : fx_gf 247 247 = some (12, 39, 250) := by decide +kernel
theorem c247_250 : fx_ci 247 250 = some (0, 251) := by decide +kernel
theorem c247_251 : fx_op 247 251 = some (.iaload, 252, 251) := by decide +kernel
theorem c247_252 : fx_op 247 252 = some (.if_icmp .ge 28, 255, 280) := by decide +kernel
theorem c247_255 : fx_op 247 255 = some (.iload_n 3, 256, 255) := by decide +kernel
theorem c247_256 : fx_op 247 256 = some (.ifCond .eq 7, 259, 263) := by decide +kernel
theorem c247_263 : fx_ci 247 263 = some (0, 264) := by decide +kernel
theorem c247_264 : fx_ci 247 264 = some (2, 265) := by decide +kernel
theorem c247_265 : fx_op 247 265 = some (.aload_n 0, 266, 265) := by decide +kernel
theorem c247_266 : fx_gf 247 266 = some (12, 8, 269) := by decide +kernel
theorem c247_269 : fx_op 247 269 = some (.imul, 270, 269) := by decide +kernel
theorem c247_270 : fx_op 247 270 = some (.iadd, 271, 270) := by decide +kernel
theorem c247_271 : fx_ci 247 271 = some (8, 273) := by decide +kernel
theorem c247_273 : fx_op 247 273 = some (.iload 4, 275, 273) := by decide +kernel
theorem c247_275 : fx_op 247 275 = some (.imul, 276, 275) := by decide +kernel
theorem c247_276 : fx_op 247 276 = some (.iadd, 277, 276) := by decide +kernel
theorem c247_277 : fx_op 247 277 = some (.goto 4, 280, 281) := by decide +kernel
theorem c247_259 : fx_ci 247 259 = some (1, 260) := by decide +kernel
theorem c247_260 : fx_op 247 260 = some (.goto 4, 263, 264) := by decide +kernel
theorem c247_282 : fx_op 247 282 = some (.iinc 2 1, 285, 282) := by decide +kernel
theorem c247_281 : fx_op 247 281 = some (.iastore, 282, 281) := by decide +kernel
theorem c247_285 : fx_op 247 285 = some (.goto (-142), 288, 143) := by decide +kernel
theorem s247_0 {kc : List va_E} {d : Nat} {M : fx_M} {Q : Option fx_V → fx_M → Prop} (H : wc kc d 228 [jR 133] M (fun v M1 => wp kc (d + 1) 247 4 [some (jR 133), none, none, none, none] (v.toList ++ []) M1 Q)) : wp kc (d + 1) 247 0 [some (jR 133), none, none, none, none] [] M Q :=
  (x_aldn c247_0 rfl (wp_wk (l' := [some (jR 133), none, none, none, none]) ⟨rfl, trivial⟩ (x_cv (As := []) (st := []) c247_1 cl_133 kl228 rfl (Nat.le_of_ble_eq_true rfl) mx228 (Nat.le_refl _) H)))
theorem s247_4 {kc : List va_E} {d : Nat} {u0 : Int} {M : fx_M} {Q : Option fx_V → fx_M → Prop} (H : ((fx_in32 u0)) ∧ (u0 = 103 → ((fx_in32 u0)) ∧ (u0 = 117 → (((0 : Int) ≤ M 133 24 ∧ M 133 24 < 3100)) ∧ (((0 : Int) ≤ M 133 24 ∧ M 133 24 < 3100)) ∧ ((fx_in32 u0)) ∧ (u0 ≠ 119 → (((0 : Int) ≤ M 133 24 ∧ M 133 24 < 3100)) ∧ (((0 : Int) ≤ M 133 24 ∧ M 133 24 < 3101)) ∧ wp kc (d + 1) 247 143 [some (jR 133), none, some (jI (M 141 (M 133 24))), none, none] [] (fx_up (fx_up (fx_up (fx_up (fx_up M 133 7 ((M 133 7) + 1)) 133 8 0) 138 (M 133 24) u0) 139 (M 133 24) 0) 140 (M 133 24) 0) Q) ∧ (u0 = 119 → wc kc d 227 [jR 133, jI 32] (fx_up (fx_up (fx_up (fx_up M 133 7 ((M 133 7) + 1)) 133 8 0) 138 (M 133 24) u0) 139 (M 133 24) 0) (fun v M1 => wp kc (d + 1) 247 108 [some (jR 133), none, none, none, none] (v.toList ++ []) M1 Q))) ∧ (u0 ≠ 117 → ((fx_in32 u0)) ∧ (u0 = 98 → (((0 : Int) ≤ M 133 24 ∧ M 133 24 < 3100)) ∧ (((0 : Int) ≤ M 133 24 ∧ M 133 24 < 3100)) ∧ ((fx_in32 u0)) ∧ (u0 ≠ 119 → (((0 : Int) ≤ M 133 24 ∧ M 133 24 < 3100)) ∧ (((0 : Int) ≤ M 133 24 ∧ M 133 24 < 3101)) ∧ wp kc (d + 1) 247 143 [some (jR 133), none, some (jI (M 141 (M 133 24))), none, none] [] (fx_up (fx_up (fx_up (fx_up (fx_up M 133 7 ((M 133 7) + 1)) 133 8 0) 138 (M 133 24) u0) 139 (M 133 24) 0) 140 (M 133 24) 0) Q) ∧ (u0 = 119 → wc kc d 227 [jR 133, jI 32] (fx_up (fx_up (fx_up (fx_up M 133 7 ((M 133 7) + 1)) 133 8 0) 138 (M 133 24) u0) 139 (M 133 24) 0) (fun v M1 => wp kc (d + 1) 247 108 [some (jR 133), none, none, none, none] (v.toList ++ []) M1 Q))) ∧ (u0 ≠ 98 → wc kc d 232 [jR 133] (fx_up (fx_up M 133 7 ((M 133 7) + 1)) 133 8 0) (fun v M1 => wp kc (d + 1) 247 68 [some (jR 133), some (jI u0), none, none, none] (v.toList ++ []) M1 Q)))) ∧ (u0 ≠ 103 → ((fx_in32 u0)) ∧ (u0 = 114 → ((fx_in32 u0)) ∧ (u0 = 117 → (((0 : Int) ≤ M 133 24 ∧ M 133 24 < 3100)) ∧ (((0 : Int) ≤ M 133 24 ∧ M 133 24 < 3100)) ∧ ((fx_in32 u0)) ∧ (u0 ≠ 119 → (((0 : Int) ≤ M 133 24 ∧ M 133 24 < 3100)) ∧ (((0 : Int) ≤ M 133 24 ∧ M 133 24 < 3101)) ∧ wp kc (d + 1) 247 143 [some (jR 133), none, some (jI (M 141 (M 133 24))), none, none] [] (fx_up (fx_up (fx_up (fx_up (fx_up M 133 7 ((M 133 7) + 1)) 133 8 0) 138 (M 133 24) u0) 139 (M 133 24) 0) 140 (M 133 24) 0) Q) ∧ (u0 = 119 → wc kc d 227 [jR 133, jI 32] (fx_up (fx_up (fx_up (fx_up M 133 7 ((M 133 7) + 1)) 133 8 0) 138 (M 133 24) u0) 139 (M 133 24) 0) (fun v M1 => wp kc (d + 1) 247 108 [some (jR 133), none, none, none, none] (v.toList ++ []) M1 Q))) ∧ (u0 ≠ 117 → ((fx_in32 u0)) ∧ (u0 = 98 → (((0 : Int) ≤ M 133 24 ∧ M 133 24 < 3100)) ∧ (((0 : Int) ≤ M 133 24 ∧ M 133 24 < 3100)) ∧ ((fx_in32 u0)) ∧ (u0 ≠ 119 → (((0 : Int) ≤ M 133 24 ∧ M 133 24 < 3100)) ∧ (((0 : Int) ≤ M 133 24 ∧ M 133 24 < 3101)) ∧ wp kc (d + 1) 247 143 [some (jR 133), none, some (jI (M 141 (M 133 24))), none, none] [] (fx_up (fx_up (fx_up (fx_up (fx_up M 133 7 ((M 133 7) + 1)) 133 8 0) 138 (M 133 24) u0) 139 (M 133 24) 0) 140 (M 133 24) 0) Q) ∧ (u0 = 119 → wc kc d 227 [jR 133, jI 32] (fx_up (fx_up (fx_up (fx_up M 133 7 ((M 133 7) + 1)) 133 8 0) 138 (M 133 24) u0) 139 (M 133 24) 0) (fun v M1 => wp kc (d + 1) 247 108 [some (jR 133), none, none, none, none] (v.toList ++ []) M1 Q))) ∧ (u0 ≠ 98 → wc kc d 232 [jR 133] (fx_up (fx_up M 133 7 ((M 133 7) + 1)) 133 8 0) (fun v M1 => wp kc (d + 1) 247 68 [some (jR 133), some (jI u0), none, none, none] (v.toList ++ []) M1 Q)))) ∧ (u0 ≠ 114 → ((fx_in32 u0)) ∧ (u0 = 119 → ((fx_in32 u0)) ∧ (u0 = 117 → (((0 : Int) ≤ M 133 24 ∧ M 133 24 < 3100)) ∧ (((0 : Int) ≤ M 133 24 ∧ M 133 24 < 3100)) ∧ ((fx_in32 u0)) ∧ (u0 ≠ 119 → (((0 : Int) ≤ M 133 24 ∧ M 133 24 < 3100)) ∧ (((0 : Int) ≤ M 133 24 ∧ M 133 24 < 3101)) ∧ wp kc (d + 1) 247 143 [some (jR 133), none, some (jI (M 141 (M 133 24))), none, none] [] (fx_up (fx_up (fx_up (fx_up (fx_up M 133 7 ((M 133 7) + 1)) 133 8 0) 138 (M 133 24) u0) 139 (M 133 24) 0) 140 (M 133 24) 0) Q) ∧ (u0 = 119 → wc kc d 227 [jR 133, jI 32] (fx_up (fx_up (fx_up (fx_up M 133 7 ((M 133 7) + 1)) 133 8 0) 138 (M 133 24) u0) 139 (M 133 24) 0) (fun v M1 => wp kc (d + 1) 247 108 [some (jR 133), none, none, none, none] (v.toList ++ []) M1 Q))) ∧ (u0 ≠ 117 → ((fx_in32 u0)) ∧ (u0 = 98 → (((0 : Int) ≤ M 133 24 ∧ M 133 24 < 3100)) ∧ (((0 : Int) ≤ M 133 24 ∧ M 133 24 < 3100)) ∧ ((fx_in32 u0)) ∧ (u0 ≠ 119 → (((0 : Int) ≤ M 133 24 ∧ M 133 24 < 3100)) ∧ (((0 : Int) ≤ M 133 24 ∧ M 133 24 < 3101)) ∧ wp kc (d + 1) 247 143 [some (jR 133), none, some (jI (M 141 (M 133 24))), none, none] [] (fx_up (fx_up (fx_up (fx_up (fx_up M 133 7 ((M 133 7) + 1)) 133 8 0) 138 (M 133 24) u0) 139 (M 133 24) 0) 140 (M 133 24) 0) Q) ∧ (u0 = 119 → wc kc d 227 [jR 133, jI 32] (fx_up (fx_up (fx_up (fx_up M 133 7 ((M 133 7) + 1)) 133 8 0) 138 (M 133 24) u0) 139 (M 133 24) 0) (fun v M1 => wp kc (d + 1) 247 108 [some (jR 133), none, none, none, none] (v.toList ++ []) M1 Q))) ∧ (u0 ≠ 98 → wc kc d 232 [jR 133] (fx_up (fx_up M 133 7 ((M 133 7) + 1)) 133 8 0) (fun v M1 => wp kc (d + 1) 247 68 [some (jR 133), some (jI u0), none, none, none] (v.toList ++ []) M1 Q)))) ∧ (u0 ≠ 119 → ((fx_in32 u0)) ∧ (u0 = 117 → ((fx_in32 u0)) ∧ (u0 = 117 → (((0 : Int) ≤ M 133 24 ∧ M 133 24 < 3100)) ∧ (((0 : Int) ≤ M 133 24 ∧ M 133 24 < 3100)) ∧ ((fx_in32 u0)) ∧ (u0 ≠ 119 → (((0 : Int) ≤ M 133 24 ∧ M 133 24 < 3100)) ∧ (((0 : Int) ≤ M 133 24 ∧ M 133 24 < 3101)) ∧ wp kc (d + 1) 247 143 [some (jR 133), none, some (jI (M 141 (M 133 24))), none, none] [] (fx_up (fx_up (fx_up (fx_up (fx_up M 133 7 ((M 133 7) + 1)) 133 8 0) 138 (M 133 24) u0) 139 (M 133 24) 0) 140 (M 133 24) 0) Q) ∧ (u0 = 119 → wc kc d 227 [jR 133, jI 32] (fx_up (fx_up (fx_up (fx_up M 133 7 ((M 133 7) + 1)) 133 8 0) 138 (M 133 24) u0) 139 (M 133 24) 0) (fun v M1 => wp kc (d + 1) 247 108 [some (jR 133), none, none, none, none] (v.toList ++ []) M1 Q))) ∧ (u0 ≠ 117 → ((fx_in32 u0)) ∧ (u0 = 98 → (((0 : Int) ≤ M 133 24 ∧ M 133 24 < 3100)) ∧ (((0 : Int) ≤ M 133 24 ∧ M 133 24 < 3100)) ∧ ((fx_in32 u0)) ∧ (u0 ≠ 119 → (((0 : Int) ≤ M 133 24 ∧ M 133 24 < 3100)) ∧ (((0 : Int) ≤ M 133 24 ∧ M 133 24 < 3101)) ∧ wp kc (d + 1) 247 143 [some (jR 133), none, some (jI (M 141 (M 133 24))), none, none] [] (fx_up (fx_up (fx_up (fx_up (fx_up M 133 7 ((M 133 7) + 1)) 133 8 0) 138 (M 133 24) u0) 139 (M 133 24) 0) 140 (M 133 24) 0) Q) ∧ (u0 = 119 → wc kc d 227 [jR 133, jI 32] (fx_up (fx_up (fx_up (fx_up M 133 7 ((M 133 7) + 1)) 133 8 0) 138 (M 133 24) u0) 139 (M 133 24) 0) (fun v M1 => wp kc (d + 1) 247 108 [some (jR 133), none, none, none, none] (v.toList ++ []) M1 Q))) ∧ (u0 ≠ 98 → wc kc d 232 [jR 133] (fx_up (fx_up M 133 7 ((M 133 7) + 1)) 133 8 0) (fun v M1 => wp kc (d + 1) 247 68 [some (jR 133), some (jI u0), none, none, none] (v.toList ++ []) M1 Q)))) ∧ (u0 ≠ 117 → ((fx_in32 u0)) ∧ (u0 = 98 → ((fx_in32 u0)) ∧ (u0 = 117 → (((0 : Int) ≤ M 133 24 ∧ M 133 24 < 3100)) ∧ (((0 : Int) ≤ M 133 24 ∧ M 133 24 < 3100)) ∧ ((fx_in32 u0)) ∧ (u0 ≠ 119 → (((0 : Int) ≤ M 133 24 ∧ M 133 24 < 3100)) ∧ (((0 : Int) ≤ M 133 24 ∧ M 133 24 < 3101)) ∧ wp kc (d + 1) 247 143 [some (jR 133), none, some (jI (M 141 (M 133 24))), none, none] [] (fx_up (fx_up (fx_up (fx_up (fx_up M 133 7 ((M 133 7) + 1)) 133 8 0) 138 (M 133 24) u0) 139 (M 133 24) 0) 140 (M 133 24) 0) Q) ∧ (u0 = 119 → wc kc d 227 [jR 133, jI 32] (fx_up (fx_up (fx_up (fx_up M 133 7 ((M 133 7) + 1)) 133 8 0) 138 (M 133 24) u0) 139 (M 133 24) 0) (fun v M1 => wp kc (d + 1) 247 108 [some (jR 133), none, none, none, none] (v.toList ++ []) M1 Q))) ∧ (u0 ≠ 117 → ((fx_in32 u0)) ∧ (u0 = 98 → (((0 : Int) ≤ M 133 24 ∧ M 133 24 < 3100)) ∧ (((0 : Int) ≤ M 133 24 ∧ M 133 24 < 3100)) ∧ ((fx_in32 u0)) ∧ (u0 ≠ 119 → (((0 : Int) ≤ M 133 24 ∧ M 133 24 < 3100)) ∧ (((0 : Int) ≤ M 133 24 ∧ M 133 24 < 3101)) ∧ wp kc (d + 1) 247 143 [some (jR 133), none, some (jI (M 141 (M 133 24))), none, none] [] (fx_up (fx_up (fx_up (fx_up (fx_up M 133 7 ((M 133 7) + 1)) 133 8 0) 138 (M 133 24) u0) 139 (M 133 24) 0) 140 (M 133 24) 0) Q) ∧ (u0 = 119 → wc kc d 227 [jR 133, jI 32] (fx_up (fx_up (fx_up (fx_up M 133 7 ((M 133 7) + 1)) 133 8 0) 138 (M 133 24) u0) 139 (M 133 24) 0) (fun v M1 => wp kc (d + 1) 247 108 [some (jR 133), none, none, none, none] (v.toList ++ []) M1 Q))) ∧ (u0 ≠ 98 → wc kc d 232 [jR 133] (fx_up (fx_up M 133 7 ((M 133 7) + 1)) 133 8 0) (fun v M1 => wp kc (d + 1) 247 68 [some (jR 133), some (jI u0), none, none, none] (v.toList ++ []) M1 Q)))) ∧ (u0 ≠ 98 → Q (some (jI 0)) M)))))) : wp kc (d + 1) 247 4 [some (jR 133), none, none, none, none] [jI u0] M Q :=
  (x_istn (l' := [some (jR 133), some (jI u0), none, none, none]) c247_4 rfl (x_ildn c247_5 rfl (x_ci c247_6 (x_ceq c247_8 H.1 (by decide) (fun h49 => (x_aldn c247_37 rfl (x_dupr c247_38 (x_gfi c247_39 k_133_7 (x_ci c247_42 (x_iadd c247_43 (x_pfi c247_44 k_133_7 (x_aldn c247_47 rfl (x_ci c247_48 (x_pfi c247_49 k_133_8 (x_ildn c247_52 rfl (x_ci c247_53 (x_ceq c247_55 (H.2.1 h49).1 (by decide) (fun h7 => (x_aldn c247_73 rfl (x_gfr c247_74 k_133_25 (x_aldn c247_77 rfl (x_gfi c247_78 k_133_24 (wp_vI (((fx_upK (by decide)).trans (fx_upK (by decide)))) (x_ildn c247_81 rfl (x_iast c247_82 a_138 ((H.2.1 h49).2.1 h7).1 (by decide) (x_aldn c247_83 rfl (x_gfr c247_84 k_133_26 (x_aldn c247_87 rfl (x_gfi c247_88 k_133_24 (wp_vI (((fx_upA (by decide)).trans ((fx_upK (by decide)).trans (fx_upK (by decide))))) (x_aldn c247_91 rfl (x_gfi c247_92 k_133_8 (wp_vI (((fx_upA (by decide)).trans (fx_upS))) (x_iast c247_95 a_139 ((H.2.1 h49).2.1 h7).2.1 (by decide) (x_ildn c247_96 rfl (x_ci c247_97 (x_cne c247_99 ((H.2.1 h49).2.1 h7).2.2.1 (by decide) (fun h1 => (x_aldn c247_120 rfl (x_gfr c247_121 k_133_27 (x_aldn c247_124 rfl (x_gfi c247_125 k_133_24 (wp_vI (((fx_upA (by decide)).trans ((fx_upA (by decide)).trans ((fx_upK (by decide)).trans (fx_upK (by decide)))))) (x_aldn c247_128 rfl (x_gfi c247_129 k_133_8 (wp_vI (((fx_upA (by decide)).trans ((fx_upA (by decide)).trans (fx_upS)))) (x_iast c247_132 a_140 (((H.2.1 h49).2.1 h7).2.2.2.1 h1).1 (by decide) (x_aldn c247_133 rfl (x_gfr c247_134 k_133_28 (x_aldn c247_137 rfl (x_gfi c247_138 k_133_24 (wp_vI (((fx_upA (by decide)).trans ((fx_upA (by decide)).trans ((fx_upA (by decide)).trans ((fx_upK (by decide)).trans (fx_upK (by decide))))))) (x_iald c247_141 a_141 (((H.2.1 h49).2.1 h7).2.2.2.1 h1).2.1 (by decide) (wp_vI (((fx_upA (by decide)).trans ((fx_upA (by decide)).trans ((fx_upA (by decide)).trans ((fx_upA (by decide)).trans (fx_upA (by decide))))))) (x_istn (l' := [some (jR 133), some (jI u0), some (jI (M 141 (M 133 24))), none, none]) c247_142 rfl (wp_wk (l' := [some (jR 133), none, some (jI (M 141 (M 133 24))), none, none]) ⟨rfl, ⟨rfl, trivial⟩⟩ (((H.2.1 h49).2.1 h7).2.2.2.1 h1).2.2))))))))))))))))))) (fun h2 => (x_aldn c247_102 rfl (x_ci c247_103 (wp_wk (l' := [some (jR 133), none, none, none, none]) ⟨rfl, trivial⟩ (x_cv (As := [jI 32]) (st := []) c247_105 cl_133 kl227 rfl (Nat.le_of_ble_eq_true rfl) mx227 (Nat.le_refl _) (((H.2.1 h49).2.1 h7).2.2.2.2 h2)))))))))))))))))))))))))) (fun h8 => (x_ildn c247_58 rfl (x_ci c247_59 (x_ceq c247_61 ((H.2.1 h49).2.2 h8).1 (by decide) (fun h5 => (x_aldn c247_73 rfl (x_gfr c247_74 k_133_25 (x_aldn c247_77 rfl (x_gfi c247_78 k_133_24 (wp_vI (((fx_upK (by decide)).trans (fx_upK (by decide)))) (x_ildn c247_81 rfl (x_iast c247_82 a_138 (((H.2.1 h49).2.2 h8).2.1 h5).1 (by decide) (x_aldn c247_83 rfl (x_gfr c247_84 k_133_26 (x_aldn c247_87 rfl (x_gfi c247_88 k_133_24 (wp_vI (((fx_upA (by decide)).trans ((fx_upK (by decide)).trans (fx_upK (by decide))))) (x_aldn c247_91 rfl (x_gfi c247_92 k_133_8 (wp_vI (((fx_upA (by decide)).trans (fx_upS))) (x_iast c247_95 a_139 (((H.2.1 h49).2.2 h8).2.1 h5).2.1 (by decide) (x_ildn c247_96 rfl (x_ci c247_97 (x_cne c247_99 (((H.2.1 h49).2.2 h8).2.1 h5).2.2.1 (by decide) (fun h3 => (x_aldn c247_120 rfl (x_gfr c247_121 k_133_27 (x_aldn c247_124 rfl (x_gfi c247_125 k_133_24 (wp_vI (((fx_upA (by decide)).trans ((fx_upA (by decide)).trans ((fx_upK (by decide)).trans (fx_upK (by decide)))))) (x_aldn c247_128 rfl (x_gfi c247_129 k_133_8 (wp_vI (((fx_upA (by decide)).trans ((fx_upA (by decide)).trans (fx_upS)))) (x_iast c247_132 a_140 ((((H.2.1 h49).2.2 h8).2.1 h5).2.2.2.1 h3).1 (by decide) (x_aldn c247_133 rfl (x_gfr c247_134 k_133_28 (x_aldn c247_137 rfl (x_gfi c247_138 k_133_24 (wp_vI (((fx_upA (by decide)).trans ((fx_upA (by decide)).trans ((fx_upA (by decide)).trans ((fx_upK (by decide)).trans (fx_upK (by decide))))))) (x_iald c247_141 a_141 ((((H.2.1 h49).2.2 h8).2.1 h5).2.2.2.1 h3).2.1 (by decide) (wp_vI (((fx_upA (by decide)).trans ((fx_upA (by decide)).trans ((fx_upA (by decide)).trans ((fx_upA (by decide)).trans (fx_upA (by decide))))))) (x_istn (l' := [some (jR 133), some (jI u0), some (jI (M 141 (M 133 24))), none, none]) c247_142 rfl (wp_wk (l' := [some (jR 133), none, some (jI (M 141 (M 133 24))), none, none]) ⟨rfl, ⟨rfl, trivial⟩⟩ ((((H.2.1 h49).2.2 h8).2.1 h5).2.2.2.1 h3).2.2))))))))))))))))))) (fun h4 => (x_aldn c247_102 rfl (x_ci c247_103 (wp_wk (l' := [some (jR 133), none, none, none, none]) ⟨rfl, trivial⟩ (x_cv (As := [jI 32]) (st := []) c247_105 cl_133 kl227 rfl (Nat.le_of_ble_eq_true rfl) mx227 (Nat.le_refl _) ((((H.2.1 h49).2.2 h8).2.1 h5).2.2.2.2 h4)))))))))))))))))))))))))) (fun h6 => (x_aldn c247_64 rfl (wp_wk (l' := [some (jR 133), some (jI u0), none, none, none]) ⟨rfl, ⟨rfl, trivial⟩⟩ (x_cv (As := []) (st := []) c247_65 cl_133 kl232 rfl (Nat.le_of_ble_eq_true rfl) mx232 (Nat.le_refl _) (((H.2.1 h49).2.2 h8).2.2 h6)))))))))))))))))))))) (fun h50 => (x_ildn c247_11 rfl (x_ci c247_12 (x_ceq c247_14 (H.2.2 h50).1 (by decide) (fun h47 => (x_aldn c247_37 rfl (x_dupr c247_38 (x_gfi c247_39 k_133_7 (x_ci c247_42 (x_iadd c247_43 (x_pfi c247_44 k_133_7 (x_aldn c247_47 rfl (x_ci c247_48 (x_pfi c247_49 k_133_8 (x_ildn c247_52 rfl (x_ci c247_53 (x_ceq c247_55 ((H.2.2 h50).2.1 h47).1 (by decide) (fun h15 => (x_aldn c247_73 rfl (x_gfr c247_74 k_133_25 (x_aldn c247_77 rfl (x_gfi c247_78 k_133_24 (wp_vI (((fx_upK (by decide)).trans (fx_upK (by decide)))) (x_ildn c247_81 rfl (x_iast c247_82 a_138 (((H.2.2 h50).2.1 h47).2.1 h15).1 (by decide) (x_aldn c247_83 rfl (x_gfr c247_84 k_133_26 (x_aldn c247_87 rfl (x_gfi c247_88 k_133_24 (wp_vI (((fx_upA (by decide)).trans ((fx_upK (by decide)).trans (fx_upK (by decide))))) (x_aldn c247_91 rfl (x_gfi c247_92 k_133_8 (wp_vI (((fx_upA (by decide)).trans (fx_upS))) (x_iast c247_95 a_139 (((H.2.2 h50).2.1 h47).2.1 h15).2.1 (by decide) (x_ildn c247_96 rfl (x_ci c247_97 (x_cne c247_99 (((H.2.2 h50).2.1 h47).2.1 h15).2.2.1 (by decide) (fun h9 => (x_aldn c247_120 rfl (x_gfr c247_121 k_133_27 (x_aldn c247_124 rfl (x_gfi c247_125 k_133_24 (wp_vI (((fx_upA (by decide)).trans ((fx_upA (by decide)).trans ((fx_upK (by decide)).trans (fx_upK (by decide)))))) (x_aldn c247_128 rfl (x_gfi c247_129 k_133_8 (wp_vI (((fx_upA (by decide)).trans ((fx_upA (by decide)).trans (fx_upS)))) (x_iast c247_132 a_140 ((((H.2.2 h50).2.1 h47).2.1 h15).2.2.2.1 h9).1 (by decide) (x_aldn c247_133 rfl (x_gfr c247_134 k_133_28 (x_aldn c247_137 rfl (x_gfi c247_138 k_133_24 (wp_vI (((fx_upA (by decide)).trans ((fx_upA (by decide)).trans ((fx_upA (by decide)).trans ((fx_upK (by decide)).trans (fx_upK (by decide))))))) (x_iald c247_141 a_141 ((((H.2.2 h50).2.1 h47).2.1 h15).2.2.2.1 h9).2.1 (by decide) (wp_vI (((fx_upA (by decide)).trans ((fx_upA (by decide)).trans ((fx_upA (by decide)).trans ((fx_upA (by decide)).trans (fx_upA (by decide))))))) (x_istn (l' := [some (jR 133), some (jI u0), some (jI (M 141 (M 133 24))), none, none]) c247_142 rfl (wp_wk (l' := [some (jR 133), none, some (jI (M 141 (M 133 24))), none, none]) ⟨rfl, ⟨rfl, trivial⟩⟩ ((((H.2.2 h50).2.1 h47).2.1 h15).2.2.2.1 h9).2.2))))))))))))))))))) (fun h10 => (x_aldn c247_102 rfl (x_ci c247_103 (wp_wk (l' := [some (jR 133), none, none, none, none]) ⟨rfl, trivial⟩ (x_cv (As := [jI 32]) (st := []) c247_105 cl_133 kl227 rfl (Nat.le_of_ble_eq_true rfl) mx227 (Nat.le_refl _) ((((H.2.2 h50).2.1 h47).2.1 h15).2.2.2.2 h10)))))))))))))))))))))))))) (fun h16 => (x_ildn c247_58 rfl (x_ci c247_59 (x_ceq c247_61 (((H.2.2 h50).2.1 h47).2.2 h16).1 (by decide) (fun h13 => (x_aldn c247_73 rfl (x_gfr c247_74 k_133_25 (x_aldn c247_77 rfl (x_gfi c247_78 k_133_24 (wp_vI (((fx_upK (by decide)).trans (fx_upK (by decide)))) (x_ildn c247_81 rfl (x_iast c247_82 a_138 ((((H.2.2 h50).2.1 h47).2.2 h16).2.1 h13).1 (by decide) (x_aldn c247_83 rfl (x_gfr c247_84 k_133_26 (x_aldn c247_87 rfl (x_gfi c247_88 k_133_24 (wp_vI (((fx_upA (by decide)).trans ((fx_upK (by decide)).trans (fx_upK (by decide))))) (x_aldn c247_91 rfl (x_gfi c247_92 k_133_8 (wp_vI (((fx_upA (by decide)).trans (fx_upS))) (x_iast c247_95 a_139 ((((H.2.2 h50).2.1 h47).2.2 h16).2.1 h13).2.1 (by decide) (x_ildn c247_96 rfl (x_ci c247_97 (x_cne c247_99 ((((H.2.2 h50).2.1 h47).2.2 h16).2.1 h13).2.2.1 (by decide) (fun h11 => (x_aldn c247_120 rfl (x_gfr c247_121 k_133_27 (x_aldn c247_124 rfl (x_gfi c247_125 k_133_24 (wp_vI (((fx_upA (by decide)).trans ((fx_upA (by decide)).trans ((fx_upK (by decide)).trans (fx_upK (by decide)))))) (x_aldn c247_128 rfl (x_gfi c247_129 k_133_8 (wp_vI (((fx_upA (by decide)).trans ((fx_upA (by decide)).trans (fx_upS)))) (x_iast c247_132 a_140 (((((H.2.2 h50).2.1 h47).2.2 h16).2.1 h13).2.2.2.1 h11).1 (by decide) (x_aldn c247_133 rfl (x_gfr c247_134 k_133_28 (x_aldn c247_137 rfl (x_gfi c247_138 k_133_24 (wp_vI (((fx_upA (by decide)).trans ((fx_upA (by decide)).trans ((fx_upA (by decide)).trans ((fx_upK (by decide)).trans (fx_upK (by decide))))))) (x_iald c247_141 a_141 (((((H.2.2 h50).2.1 h47).2.2 h16).2.1 h13).2.2.2.1 h11).2.1 (by decide) (wp_vI (((fx_upA (by decide)).trans ((fx_upA (by decide)).trans ((fx_upA (by decide)).trans ((fx_upA (by decide)).trans (fx_upA (by decide))))))) (x_istn (l' := [some (jR 133), some (jI u0), some (jI (M 141 (M 133 24))), none, none]) c247_142 rfl (wp_wk (l' := [some (jR 133), none, some (jI (M 141 (M 133 24))), none, none]) ⟨rfl, ⟨rfl, trivial⟩⟩ (((((H.2.2 h50).2.1 h47).2.2 h16).2.1 h13).2.2.2.1 h11).2.2))))))))))))))))))) (fun h12 => (x_aldn c247_102 rfl (x_ci c247_103 (wp_wk (l' := [some (jR 133), none, none, none, none]) ⟨rfl, trivial⟩ (x_cv (As := [jI 32]) (st := []) c247_105 cl_133 kl227 rfl (Nat.le_of_ble_eq_true rfl) mx227 (Nat.le_refl _) (((((H.2.2 h50).2.1 h47).2.2 h16).2.1 h13).2.2.2.2 h12)))))))))))))))))))))))))) (fun h14 => (x_aldn c247_64 rfl (wp_wk (l' := [some (jR 133), some (jI u0), none, none, none]) ⟨rfl, ⟨rfl, trivial⟩⟩ (x_cv (As := []) (st := []) c247_65 cl_133 kl232 rfl (Nat.le_of_ble_eq_true rfl) mx232 (Nat.le_refl _) ((((H.2.2 h50).2.1 h47).2.2 h16).2.2 h14)))))))))))))))))))))) (fun h48 => (x_ildn c247_17 rfl (x_ci c247_18 (x_ceq c247_20 ((H.2.2 h50).2.2 h48).1 (by decide) (fun h45 => (x_aldn c247_37 rfl (x_dupr c247_38 (x_gfi c247_39 k_133_7 (x_ci c247_42 (x_iadd c247_43 (x_pfi c247_44 k_133_7 (x_aldn c247_47 rfl (x_ci c247_48 (x_pfi c247_49 k_133_8 (x_ildn c247_52 rfl (x_ci c247_53 (x_ceq c247_55 (((H.2.2 h50).2.2 h48).2.1 h45).1 (by decide) (fun h23 => (x_aldn c247_73 rfl (x_gfr c247_74 k_133_25 (x_aldn c247_77 rfl (x_gfi c247_78 k_133_24 (wp_vI (((fx_upK (by decide)).trans (fx_upK (by decide)))) (x_ildn c247_81 rfl (x_iast c247_82 a_138 ((((H.2.2 h50).2.2 h48).2.1 h45).2.1 h23).1 (by decide) (x_aldn c247_83 rfl (x_gfr c247_84 k_133_26 (x_aldn c247_87 rfl (x_gfi c247_88 k_133_24 (wp_vI (((fx_upA (by decide)).trans ((fx_upK (by decide)).trans (fx_upK (by decide))))) (x_aldn c247_91 rfl (x_gfi c247_92 k_133_8 (wp_vI (((fx_upA (by decide)).trans (fx_upS))) (x_iast c247_95 a_139 ((((H.2.2 h50).2.2 h48).2.1 h45).2.1 h23).2.1 (by decide) (x_ildn c247_96 rfl (x_ci c247_97 (x_cne c247_99 ((((H.2.2 h50).2.2 h48).2.1 h45).2.1 h23).2.2.1 (by decide) (fun h17 => (x_aldn c247_120 rfl (x_gfr c247_121 k_133_27 (x_aldn c247_124 rfl (x_gfi c247_125 k_133_24 (wp_vI (((fx_upA (by decide)).trans ((fx_upA (by decide)).trans ((fx_upK (by decide)).trans (fx_upK (by decide)))))) (x_aldn c247_128 rfl (x_gfi c247_129 k_133_8 (wp_vI (((fx_upA (by decide)).trans ((fx_upA (by decide)).trans (fx_upS)))) (x_iast c247_132 a_140 (((((H.2.2 h50).2.2 h48).2.1 h45).2.1 h23).2.2.2.1 h17).1 (by decide) (x_aldn c247_133 rfl (x_gfr c247_134 k_133_28 (x_aldn c247_137 rfl (x_gfi c247_138 k_133_24 (wp_vI (((fx_upA (by decide)).trans ((fx_upA (by decide)).trans ((fx_upA (by decide)).trans ((fx_upK (by decide)).trans (fx_upK (by decide))))))) (x_iald c247_141 a_141 (((((H.2.2 h50).2.2 h48).2.1 h45).2.1 h23).2.2.2.1 h17).2.1 (by decide) (wp_vI (((fx_upA (by decide)).trans ((fx_upA (by decide)).trans ((fx_upA (by decide)).trans ((fx_upA (by decide)).trans (fx_upA (by decide))))))) (x_istn (l' := [some (jR 133), some (jI u0), some (jI (M 141 (M 133 24))), none, none]) c247_142 rfl (wp_wk (l' := [some (jR 133), none, some (jI (M 141 (M 133 24))), none, none]) ⟨rfl, ⟨rfl, trivial⟩⟩ (((((H.2.2 h50).2.2 h48).2.1 h45).2.1 h23).2.2.2.1 h17).2.2))))))))))))))))))) (fun h18 => (x_aldn c247_102 rfl (x_ci c247_103 (wp_wk (l' := [some (jR 133), none, none, none, none]) ⟨rfl, trivial⟩ (x_cv (As := [jI 32]) (st := []) c247_105 cl_133 kl227 rfl (Nat.le_of_ble_eq_true rfl) mx227 (Nat.le_refl _) (((((H.2.2 h50).2.2 h48).2.1 h45).2.1 h23).2.2.2.2 h18)))))))))))))))))))))))))) (fun h24 => (x_ildn c247_58 rfl (x_ci c247_59 (x_ceq c247_61 ((((H.2.2 h50).2.2 h48).2.1 h45).2.2 h24).1 (by decide) (fun h21 => (x_aldn c247_73 rfl (x_gfr c247_74 k_133_25 (x_aldn c247_77 rfl (x_gfi c247_78 k_133_24 (wp_vI (((fx_upK (by decide)).trans (fx_upK (by decide)))) (x_ildn c247_81 rfl (x_iast c247_82 a_138 (((((H.2.2 h50).2.2 h48).2.1 h45).2.2 h24).2.1 h21).1 (by decide) (x_aldn c247_83 rfl (x_gfr c247_84 k_133_26 (x_aldn c247_87 rfl (x_gfi c247_88 k_133_24 (wp_vI (((fx_upA (by decide)).trans ((fx_upK (by decide)).trans (fx_upK (by decide))))) (x_aldn c247_91 rfl (x_gfi c247_92 k_133_8 (wp_vI (((fx_upA (by decide)).trans (fx_upS))) (x_iast c247_95 a_139 (((((H.2.2 h50).2.2 h48).2.1 h45).2.2 h24).2.1 h21).2.1 (by decide) (x_ildn c247_96 rfl (x_ci c247_97 (x_cne c247_99 (((((H.2.2 h50).2.2 h48).2.1 h45).2.2 h24).2.1 h21).2.2.1 (by decide) (fun h19 => (x_aldn c247_120 rfl (x_gfr c247_121 k_133_27 (x_aldn c247_124 rfl (x_gfi c247_125 k_133_24 (wp_vI (((fx_upA (by decide)).trans ((fx_upA (by decide)).trans ((fx_upK (by decide)).trans (fx_upK (by decide)))))) (x_aldn c247_128 rfl (x_gfi c247_129 k_133_8 (wp_vI (((fx_upA (by decide)).trans ((fx_upA (by decide)).trans (fx_upS)))) (x_iast c247_132 a_140 ((((((H.2.2 h50).2.2 h48).2.1 h45).2.2 h24).2.1 h21).2.2.2.1 h19).1 (by decide) (x_aldn c247_133 rfl (x_gfr c247_134 k_133_28 (x_aldn c247_137 rfl (x_gfi c247_138 k_133_24 (wp_vI (((fx_upA (by decide)).trans ((fx_upA (by decide)).trans ((fx_upA (by decide)).trans ((fx_upK (by decide)).trans (fx_upK (by decide))))))) (x_iald c247_141 a_141 ((((((H.2.2 h50).2.2 h48).2.1 h45).2.2 h24).2.1 h21).2.2.2.1 h19).2.1 (by decide) (wp_vI (((fx_upA (by decide)).trans ((fx_upA (by decide)).trans ((fx_upA (by decide)).trans ((fx_upA (by decide)).trans (fx_upA (by decide))))))) (x_istn (l' := [some (jR 133), some (jI u0), some (jI (M 141 (M 133 24))), none, none]) c247_142 rfl (wp_wk (l' := [some (jR 133), none, some (jI (M 141 (M 133 24))), none, none]) ⟨rfl, ⟨rfl, trivial⟩⟩ ((((((H.2.2 h50).2.2 h48).2.1 h45).2.2 h24).2.1 h21).2.2.2.1 h19).2.2))))))))))))))))))) (fun h20 => (x_aldn c247_102 rfl (x_ci c247_103 (wp_wk (l' := [some (jR 133), none, none, none, none]) ⟨rfl, trivial⟩ (x_cv (As := [jI 32]) (st := []) c247_105 cl_133 kl227 rfl (Nat.le_of_ble_eq_true rfl) mx227 (Nat.le_refl _) ((((((H.2.2 h50).2.2 h48).2.1 h45).2.2 h24).2.1 h21).2.2.2.2 h20)))))))))))))))))))))))))) (fun h22 => (x_aldn c247_64 rfl (wp_wk (l' := [some (jR 133), some (jI u0), none, none, none]) ⟨rfl, ⟨rfl, trivial⟩⟩ (x_cv (As := []) (st := []) c247_65 cl_133 kl232 rfl (Nat.le_of_ble_eq_true rfl) mx232 (Nat.le_refl _) (((((H.2.2 h50).2.2 h48).2.1 h45).2.2 h24).2.2 h22)))))))))))))))))))))) (fun h46 => (x_ildn c247_23 rfl (x_ci c247_24 (x_ceq c247_26 (((H.2.2 h50).2.2 h48).2.2 h46).1 (by decide) (fun h43 => (x_aldn c247_37 rfl (x_dupr c247_38 (x_gfi c247_39 k_133_7 (x_ci c247_42 (x_iadd c247_43 (x_pfi c247_44 k_133_7 (x_aldn c247_47 rfl (x_ci c247_48 (x_pfi c247_49 k_133_8 (x_ildn c247_52 rfl (x_ci c247_53 (x_ceq c247_55 ((((H.2.2 h50).2.2 h48).2.2 h46).2.1 h43).1 (by decide) (fun h31 => (x_aldn c247_73 rfl (x_gfr c247_74 k_133_25 (x_aldn c247_77 rfl (x_gfi c247_78 k_133_24 (wp_vI (((fx_upK (by decide)).trans (fx_upK (by decide)))) (x_ildn c247_81 rfl (x_iast c247_82 a_138 (((((H.2.2 h50).2.2 h48).2.2 h46).2.1 h43).2.1 h31).1 (by decide) (x_aldn c247_83 rfl (x_gfr c247_84 k_133_26 (x_aldn c247_87 rfl (x_gfi c247_88 k_133_24 (wp_vI (((fx_upA (by decide)).trans ((fx_upK (by decide)).trans (fx_upK (by decide))))) (x_aldn c247_91 rfl (x_gfi c247_92 k_133_8 (wp_vI (((fx_upA (by decide)).trans (fx_upS))) (x_iast c247_95 a_139 (((((H.2.2 h50).2.2 h48).2.2 h46).2.1 h43).2.1 h31).2.1 (by decide) (x_ildn c247_96 rfl (x_ci c247_97 (x_cne c247_99 (((((H.2.2 h50).2.2 h48).2.2 h46).2.1 h43).2.1 h31).2.2.1 (by decide) (fun h25 => (x_aldn c247_120 rfl (x_gfr c247_121 k_133_27 (x_aldn c247_124 rfl (x_gfi c247_125 k_133_24 (wp_vI (((fx_upA (by decide)).trans ((fx_upA (by decide)).trans ((fx_upK (by decide)).trans (fx_upK (by decide)))))) (x_aldn c247_128 rfl (x_gfi c247_129 k_133_8 (wp_vI (((fx_upA (by decide)).trans ((fx_upA (by decide)).trans (fx_upS)))) (x_iast c247_132 a_140 ((((((H.2.2 h50).2.2 h48).2.2 h46).2.1 h43).2.1 h31).2.2.2.1 h25).1 (by decide) (x_aldn c247_133 rfl (x_gfr c247_134 k_133_28 (x_aldn c247_137 rfl (x_gfi c247_138 k_133_24 (wp_vI (((fx_upA (by decide)).trans ((fx_upA (by decide)).trans ((fx_upA (by decide)).trans ((fx_upK (by decide)).trans (fx_upK (by decide))))))) (x_iald c247_141 a_141 ((((((H.2.2 h50).2.2 h48).2.2 h46).2.1 h43).2.1 h31).2.2.2.1 h25).2.1 (by decide) (wp_vI (((fx_upA (by decide)).trans ((fx_upA (by decide)).trans ((fx_upA (by decide)).trans ((fx_upA (by decide)).trans (fx_upA (by decide))))))) (x_istn (l' := [some (jR 133), some (jI u0), some (jI (M 141 (M 133 24))), none, none]) c247_142 rfl (wp_wk (l' := [some (jR 133), none, some (jI (M 141 (M 133 24))), none, none]) ⟨rfl, ⟨rfl, trivial⟩⟩ ((((((H.2.2 h50).2.2 h48).2.2 h46).2.1 h43).2.1 h31).2.2.2.1 h25).2.2))))))))))))))))))) (fun h26 => (x_aldn c247_102 rfl (x_ci c247_103 (wp_wk (l' := [some (jR 133), none, none, none, none]) ⟨rfl, trivial⟩ (x_cv (As := [jI 32]) (st := []) c247_105 cl_133 kl227 rfl (Nat.le_of_ble_eq_true rfl) mx227 (Nat.le_refl _) ((((((H.2.2 h50).2.2 h48).2.2 h46).2.1 h43).2.1 h31).2.2.2.2 h26)))))))))))))))))))))))))) (fun h32 => (x_ildn c247_58 rfl (x_ci c247_59 (x_ceq c247_61 (((((H.2.2 h50).2.2 h48).2.2 h46).2.1 h43).2.2 h32).1 (by decide) (fun h29 => (x_aldn c247_73 rfl (x_gfr c247_74 k_133_25 (x_aldn c247_77 rfl (x_gfi c247_78 k_133_24 (wp_vI (((fx_upK (by decide)).trans (fx_upK (by decide)))) (x_ildn c247_81 rfl (x_iast c247_82 a_138 ((((((H.2.2 h50).2.2 h48).2.2 h46).2.1 h43).2.2 h32).2.1 h29).1 (by decide) (x_aldn c247_83 rfl (x_gfr c247_84 k_133_26 (x_aldn c247_87 rfl (x_gfi c247_88 k_133_24 (wp_vI (((fx_upA (by decide)).trans ((fx_upK (by decide)).trans (fx_upK (by decide))))) (x_aldn c247_91 rfl (x_gfi c247_92 k_133_8 (wp_vI (((fx_upA (by decide)).trans (fx_upS))) (x_iast c247_95 a_139 ((((((H.2.2 h50).2.2 h48).2.2 h46).2.1 h43).2.2 h32).2.1 h29).2.1 (by decide) (x_ildn c247_96 rfl (x_ci c247_97 (x_cne c247_99 ((((((H.2.2 h50).2.2 h48).2.2 h46).2.1 h43).2.2 h32).2.1 h29).2.2.1 (by decide) (fun h27 => (x_aldn c247_120 rfl (x_gfr c247_121 k_133_27 (x_aldn c247_124 rfl (x_gfi c247_125 k_133_24 (wp_vI (((fx_upA (by decide)).trans ((fx_upA (by decide)).trans ((fx_upK (by decide)).trans (fx_upK (by decide)))))) (x_aldn c247_128 rfl (x_gfi c247_129 k_133_8 (wp_vI (((fx_upA (by decide)).trans ((fx_upA (by decide)).trans (fx_upS)))) (x_iast c247_132 a_140 (((((((H.2.2 h50).2.2 h48).2.2 h46).2.1 h43).2.2 h32).2.1 h29).2.2.2.1 h27).1 (by decide) (x_aldn c247_133 rfl (x_gfr c247_134 k_133_28 (x_aldn c247_137 rfl (x_gfi c247_138 k_133_24 (wp_vI (((fx_upA (by decide)).trans ((fx_upA (by decide)).trans ((fx_upA (by decide)).trans ((fx_upK (by decide)).trans (fx_upK (by decide))))))) (x_iald c247_141 a_141 (((((((H.2.2 h50).2.2 h48).2.2 h46).2.1 h43).2.2 h32).2.1 h29).2.2.2.1 h27).2.1 (by decide) (wp_vI (((fx_upA (by decide)).trans ((fx_upA (by decide)).trans ((fx_upA (by decide)).trans ((fx_upA (by decide)).trans (fx_upA (by decide))))))) (x_istn (l' := [some (jR 133), some (jI u0), some (jI (M 141 (M 133 24))), none, none]) c247_142 rfl (wp_wk (l' := [some (jR 133), none, some (jI (M 141 (M 133 24))), none, none]) ⟨rfl, ⟨rfl, trivial⟩⟩ (((((((H.2.2 h50).2.2 h48).2.2 h46).2.1 h43).2.2 h32).2.1 h29).2.2.2.1 h27).2.2))))))))))))))))))) (fun h28 => (x_aldn c247_102 rfl (x_ci c247_103 (wp_wk (l' := [some (jR 133), none, none, none, none]) ⟨rfl, trivial⟩ (x_cv (As := [jI 32]) (st := []) c247_105 cl_133 kl227 rfl (Nat.le_of_ble_eq_true rfl) mx227 (Nat.le_refl _) (((((((H.2.2 h50).2.2 h48).2.2 h46).2.1 h43).2.2 h32).2.1 h29).2.2.2.2 h28)))))))))))))))))))))))))) (fun h30 => (x_aldn c247_64 rfl (wp_wk (l' := [some (jR 133), some (jI u0), none, none, none]) ⟨rfl, ⟨rfl, trivial⟩⟩ (x_cv (As := []) (st := []) c247_65 cl_133 kl232 rfl (Nat.le_of_ble_eq_true rfl) mx232 (Nat.le_refl _) ((((((H.2.2 h50).2.2 h48).2.2 h46).2.1 h43).2.2 h32).2.2 h30)))))))))))))))))))))) (fun h44 => (x_ildn c247_29 rfl (x_ci c247_30 (x_ceq c247_32 ((((H.2.2 h50).2.2 h48).2.2 h46).2.2 h44).1 (by decide) (fun h41 => (x_aldn c247_37 rfl (x_dupr c247_38 (x_gfi c247_39 k_133_7 (x_ci c247_42 (x_iadd c247_43 (x_pfi c247_44 k_133_7 (x_aldn c247_47 rfl (x_ci c247_48 (x_pfi c247_49 k_133_8 (x_ildn c247_52 rfl (x_ci c247_53 (x_ceq c247_55 (((((H.2.2 h50).2.2 h48).2.2 h46).2.2 h44).2.1 h41).1 (by decide) (fun h39 => (x_aldn c247_73 rfl (x_gfr c247_74 k_133_25 (x_aldn c247_77 rfl (x_gfi c247_78 k_133_24 (wp_vI (((fx_upK (by decide)).trans (fx_upK (by decide)))) (x_ildn c247_81 rfl (x_iast c247_82 a_138 ((((((H.2.2 h50).2.2 h48).2.2 h46).2.2 h44).2.1 h41).2.1 h39).1 (by decide) (x_aldn c247_83 rfl (x_gfr c247_84 k_133_26 (x_aldn c247_87 rfl (x_gfi c247_88 k_133_24 (wp_vI (((fx_upA (by decide)).trans ((fx_upK (by decide)).trans (fx_upK (by decide))))) (x_aldn c247_91 rfl (x_gfi c247_92 k_133_8 (wp_vI (((fx_upA (by decide)).trans (fx_upS))) (x_iast c247_95 a_139 ((((((H.2.2 h50).2.2 h48).2.2 h46).2.2 h44).2.1 h41).2.1 h39).2.1 (by decide) (x_ildn c247_96 rfl (x_ci c247_97 (x_cne c247_99 ((((((H.2.2 h50).2.2 h48).2.2 h46).2.2 h44).2.1 h41).2.1 h39).2.2.1 (by decide) (fun h33 => (x_aldn c247_120 rfl (x_gfr c247_121 k_133_27 (x_aldn c247_124 rfl (x_gfi c247_125 k_133_24 (wp_vI (((fx_upA (by decide)).trans ((fx_upA (by decide)).trans ((fx_upK (by decide)).trans (fx_upK (by decide)))))) (x_aldn c247_128 rfl (x_gfi c247_129 k_133_8 (wp_vI (((fx_upA (by decide)).trans ((fx_upA (by decide)).trans (fx_upS)))) (x_iast c247_132 a_140 (((((((H.2.2 h50).2.2 h48).2.2 h46).2.2 h44).2.1 h41).2.1 h39).2.2.2.1 h33).1 (by decide) (x_aldn c247_133 rfl (x_gfr c247_134 k_133_28 (x_aldn c247_137 rfl (x_gfi c247_138 k_133_24 (wp_vI (((fx_upA (by decide)).trans ((fx_upA (by decide)).trans ((fx_upA (by decide)).trans ((fx_upK (by decide)).trans (fx_upK (by decide))))))) (x_iald c247_141 a_141 (((((((H.2.2 h50).2.2 h48).2.2 h46).2.2 h44).2.1 h41).2.1 h39).2.2.2.1 h33).2.1 (by decide) (wp_vI (((fx_upA (by decide)).trans ((fx_upA (by decide)).trans ((fx_upA (by decide)).trans ((fx_upA (by decide)).trans (fx_upA (by decide))))))) (x_istn (l' := [some (jR 133), some (jI u0), some (jI (M 141 (M 133 24))), none, none]) c247_142 rfl (wp_wk (l' := [some (jR 133), none, some (jI (M 141 (M 133 24))), none, none]) ⟨rfl, ⟨rfl, trivial⟩⟩ (((((((H.2.2 h50).2.2 h48).2.2 h46).2.2 h44).2.1 h41).2.1 h39).2.2.2.1 h33).2.2))))))))))))))))))) (fun h34 => (x_aldn c247_102 rfl (x_ci c247_103 (wp_wk (l' := [some (jR 133), none, none, none, none]) ⟨rfl, trivial⟩ (x_cv (As := [jI 32]) (st := []) c247_105 cl_133 kl227 rfl (Nat.le_of_ble_eq_true rfl) mx227 (Nat.le_refl _) (((((((H.2.2 h50).2.2 h48).2.2 h46).2.2 h44).2.1 h41).2.1 h39).2.2.2.2 h34)))))))))))))))))))))))))) (fun h40 => (x_ildn c247_58 rfl (x_ci c247_59 (x_ceq c247_61 ((((((H.2.2 h50).2.2 h48).2.2 h46).2.2 h44).2.1 h41).2.2 h40).1 (by decide) (fun h37 => (x_aldn c247_73 rfl (x_gfr c247_74 k_133_25 (x_aldn c247_77 rfl (x_gfi c247_78 k_133_24 (wp_vI (((fx_upK (by decide)).trans (fx_upK (by decide)))) (x_ildn c247_81 rfl (x_iast c247_82 a_138 (((((((H.2.2 h50).2.2 h48).2.2 h46).2.2 h44).2.1 h41).2.2 h40).2.1 h37).1 (by decide) (x_aldn c247_83 rfl (x_gfr c247_84 k_133_26 (x_aldn c247_87 rfl (x_gfi c247_88 k_133_24 (wp_vI (((fx_upA (by decide)).trans ((fx_upK (by decide)).trans (fx_upK (by decide))))) (x_aldn c247_91 rfl (x_gfi c247_92 k_133_8 (wp_vI (((fx_upA (by decide)).trans (fx_upS))) (x_iast c247_95 a_139 (((((((H.2.2 h50).2.2 h48).2.2 h46).2.2 h44).2.1 h41).2.2 h40).2.1 h37).2.1 (by decide) (x_ildn c247_96 rfl (x_ci c247_97 (x_cne c247_99 (((((((H.2.2 h50).2.2 h48).2.2 h46).2.2 h44).2.1 h41).2.2 h40).2.1 h37).2.2.1 (by decide) (fun h35 => (x_aldn c247_120 rfl (x_gfr c247_121 k_133_27 (x_aldn c247_124 rfl (x_gfi c247_125 k_133_24 (wp_vI (((fx_upA (by decide)).trans ((fx_upA (by decide)).trans ((fx_upK (by decide)).trans (fx_upK (by decide)))))) (x_aldn c247_128 rfl (x_gfi c247_129 k_133_8 (wp_vI (((fx_upA (by decide)).trans ((fx_upA (by decide)).trans (fx_upS)))) (x_iast c247_132 a_140 ((((((((H.2.2 h50).2.2 h48).2.2 h46).2.2 h44).2.1 h41).2.2 h40).2.1 h37).2.2.2.1 h35).1 (by decide) (x_aldn c247_133 rfl (x_gfr c247_134 k_133_28 (x_aldn c247_137 rfl (x_gfi c247_138 k_133_24 (wp_vI (((fx_upA (by decide)).trans ((fx_upA (by decide)).trans ((fx_upA (by decide)).trans ((fx_upK (by decide)).trans (fx_upK (by decide))))))) (x_iald c247_141 a_141 ((((((((H.2.2 h50).2.2 h48).2.2 h46).2.2 h44).2.1 h41).2.2 h40).2.1 h37).2.2.2.1 h35).2.1 (by decide) (wp_vI (((fx_upA (by decide)).trans ((fx_upA (by decide)).trans ((fx_upA (by decide)).trans ((fx_upA (by decide)).trans (fx_upA (by decide))))))) (x_istn (l' := [some (jR 133), some (jI u0), some (jI (M 141 (M 133 24))), none, none]) c247_142 rfl (wp_wk (l' := [some (jR 133), none, some (jI (M 141 (M 133 24))), none, none]) ⟨rfl, ⟨rfl, trivial⟩⟩ ((((((((H.2.2 h50).2.2 h48).2.2 h46).2.2 h44).2.1 h41).2.2 h40).2.1 h37).2.2.2.1 h35).2.2))))))))))))))))))) (fun h36 => (x_aldn c247_102 rfl (x_ci c247_103 (wp_wk (l' := [some (jR 133), none, none, none, none]) ⟨rfl, trivial⟩ (x_cv (As := [jI 32]) (st := []) c247_105 cl_133 kl227 rfl (Nat.le_of_ble_eq_true rfl) mx227 (Nat.le_refl _) ((((((((H.2.2 h50).2.2 h48).2.2 h46).2.2 h44).2.1 h41).2.2 h40).2.1 h37).2.2.2.2 h36)))))))))))))))))))))))))) (fun h38 => (x_aldn c247_64 rfl (wp_wk (l' := [some (jR 133), some (jI u0), none, none, none]) ⟨rfl, ⟨rfl, trivial⟩⟩ (x_cv (As := []) (st := []) c247_65 cl_133 kl232 rfl (Nat.le_of_ble_eq_true rfl) mx232 (Nat.le_refl _) (((((((H.2.2 h50).2.2 h48).2.2 h46).2.2 h44).2.1 h41).2.2 h40).2.2 h38)))))))))))))))))))))) (fun h42 => (x_ci c247_35 (x_zrt c247_36 r247 (by decide) (((((H.2.2 h50).2.2 h48).2.2 h46).2.2 h44).2.2 h42))))))))))))))))))))))))
theorem s247_68 {kc : List va_E} {d : Nat} {v1 u0 : Int} {M : fx_M} {Q : Option fx_V → fx_M → Prop} (H : ((fx_in32 u0)) ∧ (u0 ≠ 0 → (((0 : Int) ≤ M 133 24 ∧ M 133 24 < 3100)) ∧ (((0 : Int) ≤ M 133 24 ∧ M 133 24 < 3100)) ∧ ((fx_in32 v1)) ∧ (v1 ≠ 119 → (((0 : Int) ≤ M 133 24 ∧ M 133 24 < 3100)) ∧ (((0 : Int) ≤ M 133 24 ∧ M 133 24 < 3101)) ∧ wp kc (d + 1) 247 143 [some (jR 133), none, some (jI (M 141 (M 133 24))), none, none] [] (fx_up (fx_up (fx_up M 138 (M 133 24) v1) 139 (M 133 24) (M 133 8)) 140 (M 133 24) (M 133 8)) Q) ∧ (v1 = 119 → wc kc d 227 [jR 133, jI 32] (fx_up (fx_up M 138 (M 133 24) v1) 139 (M 133 24) (M 133 8)) (fun v M1 => wp kc (d + 1) 247 108 [some (jR 133), none, none, none, none] (v.toList ++ []) M1 Q))) ∧ (u0 = 0 → Q (some (jI 0)) M)) : wp kc (d + 1) 247 68 [some (jR 133), some (jI v1), none, none, none] [jI u0] M Q :=
  (x_zne c247_68 H.1 (fun h3 => (x_aldn c247_73 rfl (x_gfr c247_74 k_133_25 (x_aldn c247_77 rfl (x_gfi c247_78 k_133_24 (x_ildn c247_81 rfl (x_iast c247_82 a_138 (H.2.1 h3).1 (by decide) (x_aldn c247_83 rfl (x_gfr c247_84 k_133_26 (x_aldn c247_87 rfl (x_gfi c247_88 k_133_24 (wp_vI (fx_upA (by decide)) (x_aldn c247_91 rfl (x_gfi c247_92 k_133_8 (wp_vI (fx_upA (by decide)) (x_iast c247_95 a_139 (H.2.1 h3).2.1 (by decide) (x_ildn c247_96 rfl (x_ci c247_97 (x_cne c247_99 (H.2.1 h3).2.2.1 (by decide) (fun h1 => (x_aldn c247_120 rfl (x_gfr c247_121 k_133_27 (x_aldn c247_124 rfl (x_gfi c247_125 k_133_24 (wp_vI (((fx_upA (by decide)).trans (fx_upA (by decide)))) (x_aldn c247_128 rfl (x_gfi c247_129 k_133_8 (wp_vI (((fx_upA (by decide)).trans (fx_upA (by decide)))) (x_iast c247_132 a_140 ((H.2.1 h3).2.2.2.1 h1).1 (by decide) (x_aldn c247_133 rfl (x_gfr c247_134 k_133_28 (x_aldn c247_137 rfl (x_gfi c247_138 k_133_24 (wp_vI (((fx_upA (by decide)).trans ((fx_upA (by decide)).trans (fx_upA (by decide))))) (x_iald c247_141 a_141 ((H.2.1 h3).2.2.2.1 h1).2.1 (by decide) (wp_vI (((fx_upA (by decide)).trans ((fx_upA (by decide)).trans (fx_upA (by decide))))) (x_istn (l' := [some (jR 133), some (jI v1), some (jI (M 141 (M 133 24))), none, none]) c247_142 rfl (wp_wk (l' := [some (jR 133), none, some (jI (M 141 (M 133 24))), none, none]) ⟨rfl, ⟨rfl, trivial⟩⟩ ((H.2.1 h3).2.2.2.1 h1).2.2))))))))))))))))))) (fun h2 => (x_aldn c247_102 rfl (x_ci c247_103 (wp_wk (l' := [some (jR 133), none, none, none, none]) ⟨rfl, trivial⟩ (x_cv (As := [jI 32]) (st := []) c247_105 cl_133 kl227 rfl (Nat.le_of_ble_eq_true rfl) mx227 (Nat.le_refl _) ((H.2.1 h3).2.2.2.2 h2))))))))))))))))))))))))) (fun h4 => (x_ci c247_71 (x_zrt c247_72 r247 (by decide) (H.2.2 h4)))))
theorem s247_108 {kc : List va_E} {d : Nat} {u0 : Int} {M : fx_M} {Q : Option fx_V → fx_M → Prop} (H : ((fx_in32 u0)) ∧ (u0 = 0 → Q (some (jI 0)) M) ∧ (u0 ≠ 0 → wc kc d 232 [jR 133] M (fun v M1 => wp kc (d + 1) 247 115 [some (jR 133), none, none, none, none] (v.toList ++ []) M1 Q))) : wp kc (d + 1) 247 108 [some (jR 133), none, none, none, none] [jI u0] M Q :=
  (x_zeq c247_108 H.1 (fun h1 => (x_ci c247_118 (x_zrt c247_119 r247 (by decide) (H.2.1 h1)))) (fun h2 => (x_aldn c247_111 rfl (wp_wk (l' := [some (jR 133), none, none, none, none]) ⟨rfl, trivial⟩ (x_cv (As := []) (st := []) c247_112 cl_133 kl232 rfl (Nat.le_of_ble_eq_true rfl) mx232 (Nat.le_refl _) (H.2.2 h2))))))
theorem s247_115 {kc : List va_E} {d : Nat} {u0 : Int} {M : fx_M} {Q : Option fx_V → fx_M → Prop} (H : ((fx_in32 u0)) ∧ (u0 ≠ 0 → (((0 : Int) ≤ M 133 24 ∧ M 133 24 < 3100)) ∧ (((0 : Int) ≤ M 133 24 ∧ M 133 24 < 3101)) ∧ wp kc (d + 1) 247 143 [some (jR 133), none, some (jI (M 141 (M 133 24))), none, none] [] (fx_up M 140 (M 133 24) (M 133 8)) Q) ∧ (u0 = 0 → Q (some (jI 0)) M)) : wp kc (d + 1) 247 115 [some (jR 133), none, none, none, none] [jI u0] M Q :=
  (x_zne c247_115 H.1 (fun h1 => (x_aldn c247_120 rfl (x_gfr c247_121 k_133_27 (x_aldn c247_124 rfl (x_gfi c247_125 k_133_24 (x_aldn c247_128 rfl (x_gfi c247_129 k_133_8 (x_iast c247_132 a_140 (H.2.1 h1).1 (by decide) (x_aldn c247_133 rfl (x_gfr c247_134 k_133_28 (x_aldn c247_137 rfl (x_gfi c247_138 k_133_24 (wp_vI (fx_upA (by decide)) (x_iald c247_141 a_141 (H.2.1 h1).2.1 (by decide) (wp_vI (fx_upA (by decide)) (x_istn (l' := [some (jR 133), none, some (jI (M 141 (M 133 24))), none, none]) c247_142 rfl (wp_wk (l' := [some (jR 133), none, some (jI (M 141 (M 133 24))), none, none]) ⟨rfl, ⟨rfl, trivial⟩⟩ (H.2.1 h1).2.2))))))))))))))))) (fun h2 => (x_ci c247_118 (x_zrt c247_119 r247 (by decide) (H.2.2 h2)))))
theorem s247_143 {kc : List va_E} {d : Nat} {v2 : Int} {M : fx_M} {Q : Option fx_V → fx_M → Prop} (H : wc kc d 228 [jR 133] M (fun v M1 => wp kc (d + 1) 247 147 [some (jR 133), none, some (jI v2), none, none] (v.toList ++ []) M1 Q)) : wp kc (d + 1) 247 143 [some (jR 133), none, some (jI v2), none, none] [] M Q :=
  (x_aldn c247_143 rfl (wp_wk (l' := [some (jR 133), none, some (jI v2), none, none]) ⟨rfl, ⟨rfl, trivial⟩⟩ (x_cv (As := []) (st := []) c247_144 cl_133 kl228 rfl (Nat.le_of_ble_eq_true rfl) mx228 (Nat.le_refl _) H)))
theorem s247_147 {kc : List va_E} {d : Nat} {v2 u0 : Int} {M : fx_M} {Q : Option fx_V → fx_M → Prop} (H : ((fx_in32 u0)) ∧ (u0 ≠ 32 → (((0 : Int) ≤ (M 133 24) + 1 ∧ (M 133 24) + 1 < 3101)) ∧ wc kc d 227 [jR 133, jI 59] (fx_up (fx_up M 133 24 ((M 133 24) + 1)) 141 ((M 133 24) + 1) v2) (fun v M1 => wp kc (d + 1) 247 314 [none, none, none, none, none] (v.toList ++ []) M1 Q)) ∧ (u0 = 32 → wc kc d 228 [jR 133] (fx_up M 133 7 ((M 133 7) + 1)) (fun v M1 => wp kc (d + 1) 247 166 [some (jR 133), none, some (jI v2), none, none] (v.toList ++ []) M1 Q))) : wp kc (d + 1) 247 147 [some (jR 133), none, some (jI v2), none, none] [jI u0] M Q :=
  (x_ci c247_147 (x_cne c247_149 H.1 (by decide) (fun h1 => (x_aldn c247_288 rfl (x_dupr c247_289 (x_gfi c247_290 k_133_24 (x_ci c247_293 (x_iadd c247_294 (x_pfi c247_295 k_133_24 (x_aldn c247_298 rfl (x_gfr c247_299 k_133_28 (x_aldn c247_302 rfl (x_gfi c247_303 k_133_24 (wp_vI (fx_upS) (x_ildn c247_306 rfl (x_iast c247_307 a_141 (H.2.1 h1).1 (by decide) (x_aldn c247_308 rfl (x_ci c247_309 (wp_wk (l' := [none, none, none, none, none]) trivial (x_cv (As := [jI 59]) (st := []) c247_311 cl_133 kl227 rfl (Nat.le_of_ble_eq_true rfl) mx227 (Nat.le_refl _) (H.2.1 h1).2)))))))))))))))))) (fun h2 => (x_aldn c247_152 rfl (x_dupr c247_153 (x_gfi c247_154 k_133_7 (x_ci c247_157 (x_iadd c247_158 (x_pfi c247_159 k_133_7 (x_aldn c247_162 rfl (wp_wk (l' := [some (jR 133), none, some (jI v2), none, none]) ⟨rfl, ⟨rfl, trivial⟩⟩ (x_cv (As := []) (st := []) c247_163 cl_133 kl228 rfl (Nat.le_of_ble_eq_true rfl) mx228 (Nat.le_refl _) (H.2.2 h2)))))))))))))
theorem s247_166 {kc : List va_E} {d : Nat} {v2 u0 : Int} {M : fx_M} {Q : Option fx_V → fx_M → Prop} (H : ((fx_in32 u0)) ∧ wc kc d 227 [jR 133, jI 43] M (fun v M1 => wp kc (d + 1) 247 183 [some (jR 133), none, some (jI v2), some (jI (if u0 = 43 then (1 : Int) else 0)), none] (v.toList ++ []) M1 Q)) : wp kc (d + 1) 247 166 [some (jR 133), none, some (jI v2), none, none] [jI u0] M Q :=
  (x_ci c247_166 (have K : wp kc (d + 1) 247 176 [some (jR 133), none, some (jI v2), none, none] [jI (if u0 = 43 then (1 : Int) else 0)] M Q := (x_istn (l' := [some (jR 133), none, some (jI v2), some (jI (if u0 = 43 then (1 : Int) else 0)), none]) c247_176 rfl (x_aldn c247_177 rfl (x_ci c247_178 (wp_wk (l' := [some (jR 133), none, some (jI v2), some (jI (if u0 = 43 then (1 : Int) else 0)), none]) ⟨rfl, ⟨rfl, ⟨rfl, trivial⟩⟩⟩ (x_cv (As := [jI 43]) (st := []) c247_180 cl_133 kl227 rfl (Nat.le_of_ble_eq_true rfl) mx227 (Nat.le_refl _) H.2))))); (x_cne c247_168 H.1 (by decide) (fun (h1 : u0 ≠ 43) => (x_ci c247_175 (wp_wk (l' := [some (jR 133), none, some (jI v2), none, none]) ⟨rfl, ⟨rfl, trivial⟩⟩ (by have K := K; first | (simp only [if_neg h1] at K ⊢; exact K) | (exfalso; omega))))) (fun (h2 : u0 = 43) => (x_ci c247_171 (x_goto c247_172 (wp_wk (l' := [some (jR 133), none, some (jI v2), none, none]) ⟨rfl, ⟨rfl, trivial⟩⟩ (by have K := K; first | (simp only [if_pos h2] at K ⊢; exact K) | (exfalso; omega)))))))))
theorem s247_183 {kc : List va_E} {d : Nat} {v2 v3 u0 : Int} {M : fx_M} {Q : Option fx_V → fx_M → Prop} (H : ((fx_in32 u0)) ∧ (u0 ≠ 0 → wc kc d 232 [jR 133] M (fun v M1 => wp kc (d + 1) 247 199 [some (jR 133), none, some (jI v2), some (jI v3), none] (v.toList ++ []) M1 Q)) ∧ (u0 = 0 → wc kc d 227 [jR 133, jI 45] M (fun v M1 => wp kc (d + 1) 247 192 [some (jR 133), none, some (jI v2), some (jI v3), none] (v.toList ++ []) M1 Q))) : wp kc (d + 1) 247 183 [some (jR 133), none, some (jI v2), some (jI v3), none] [jI u0] M Q :=
  (x_zne c247_183 H.1 (fun h1 => (x_aldn c247_195 rfl (wp_wk (l' := [some (jR 133), none, some (jI v2), some (jI v3), none]) ⟨rfl, ⟨rfl, ⟨rfl, trivial⟩⟩⟩ (x_cv (As := []) (st := []) c247_196 cl_133 kl232 rfl (Nat.le_of_ble_eq_true rfl) mx232 (Nat.le_refl _) (H.2.1 h1))))) (fun h2 => (x_aldn c247_186 rfl (x_ci c247_187 (wp_wk (l' := [some (jR 133), none, some (jI v2), some (jI v3), none]) ⟨rfl, ⟨rfl, ⟨rfl, trivial⟩⟩⟩ (x_cv (As := [jI 45]) (st := []) c247_189 cl_133 kl227 rfl (Nat.le_of_ble_eq_true rfl) mx227 (Nat.le_refl _) (H.2.2 h2)))))))
theorem s247_192 {kc : List va_E} {d : Nat} {v2 v3 u0 : Int} {M : fx_M} {Q : Option fx_V → fx_M → Prop} (H : ((fx_in32 u0)) ∧ (u0 = 0 → Q (some (jI 0)) M) ∧ (u0 ≠ 0 → wc kc d 232 [jR 133] M (fun v M1 => wp kc (d + 1) 247 199 [some (jR 133), none, some (jI v2), some (jI v3), none] (v.toList ++ []) M1 Q))) : wp kc (d + 1) 247 192 [some (jR 133), none, some (jI v2), some (jI v3), none] [jI u0] M Q :=
  (x_zeq c247_192 H.1 (fun h1 => (x_ci c247_202 (x_zrt c247_203 r247 (by decide) (H.2.1 h1)))) (fun h2 => (x_aldn c247_195 rfl (wp_wk (l' := [some (jR 133), none, some (jI v2), some (jI v3), none]) ⟨rfl, ⟨rfl, ⟨rfl, trivial⟩⟩⟩ (x_cv (As := []) (st := []) c247_196 cl_133 kl232 rfl (Nat.le_of_ble_eq_true rfl) mx232 (Nat.le_refl _) (H.2.2 h2))))))
theorem s247_199 {kc : List va_E} {d : Nat} {v2 v3 u0 : Int} {M : fx_M} {Q : Option fx_V → fx_M → Prop} (H : ((fx_in32 u0)) ∧ (u0 ≠ 0 → wc kc d 227 [jR 133, jI 46] M (fun v M1 => wp kc (d + 1) 247 216 [some (jR 133), none, some (jI v2), some (jI v3), some (jI (M 133 8))] (v.toList ++ []) M1 Q)) ∧ (u0 = 0 → Q (some (jI 0)) M)) : wp kc (d + 1) 247 199 [some (jR 133), none, some (jI v2), some (jI v3), none] [jI u0] M Q :=
  (x_zne c247_199 H.1 (fun h1 => (x_aldn c247_204 rfl (x_gfi c247_205 k_133_8 (x_ist (l' := [some (jR 133), none, some (jI v2), some (jI v3), some (jI (M 133 8))]) c247_208 rfl (x_aldn c247_210 rfl (x_ci c247_211 (wp_wk (l' := [some (jR 133), none, some (jI v2), some (jI v3), some (jI (M 133 8))]) ⟨rfl, ⟨rfl, ⟨rfl, ⟨rfl, trivial⟩⟩⟩⟩ (x_cv (As := [jI 46]) (st := []) c247_213 cl_133 kl227 rfl (Nat.le_of_ble_eq_true rfl) mx227 (Nat.le_refl _) (H.2.1 h1))))))))) (fun h2 => (x_ci c247_202 (x_zrt c247_203 r247 (by decide) (H.2.2 h2)))))
theorem s247_216 {kc : List va_E} {d : Nat} {v2 v3 v4 u0 : Int} {M : fx_M} {Q : Option fx_V → fx_M → Prop} (H : ((fx_in32 u0)) ∧ (u0 = 0 → Q (some (jI 0)) M) ∧ (u0 ≠ 0 → wc kc d 232 [jR 133] M (fun v M1 => wp kc (d + 1) 247 223 [some (jR 133), none, some (jI v2), some (jI v3), some (jI v4)] (v.toList ++ []) M1 Q))) : wp kc (d + 1) 247 216 [some (jR 133), none, some (jI v2), some (jI v3), some (jI v4)] [jI u0] M Q :=
  (x_zeq c247_216 H.1 (fun h1 => (x_ci c247_226 (x_zrt c247_227 r247 (by decide) (H.2.1 h1)))) (fun h2 => (x_aldn c247_219 rfl (wp_wk (l' := [some (jR 133), none, some (jI v2), some (jI v3), some (jI v4)]) ⟨rfl, ⟨rfl, ⟨rfl, ⟨rfl, trivial⟩⟩⟩⟩ (x_cv (As := []) (st := []) c247_220 cl_133 kl232 rfl (Nat.le_of_ble_eq_true rfl) mx232 (Nat.le_refl _) (H.2.2 h2))))))
theorem s247_223 {kc : List va_E} {d : Nat} {v2 v3 v4 u0 : Int} {M : fx_M} {Q : Option fx_V → fx_M → Prop} (H : ((fx_in32 u0)) ∧ (u0 ≠ 0 → wc kc d 248 [jR 133] M (fun v M1 => wp kc (d + 1) 247 239 [some (jR 133), none, some (jI v2), some (jI v3), some (jI v4)] (v.toList ++ [jI v4, jI v2, jR 142]) M1 Q)) ∧ (u0 = 0 → Q (some (jI 0)) M)) : wp kc (d + 1) 247 223 [some (jR 133), none, some (jI v2), some (jI v3), some (jI v4)] [jI u0] M Q :=
  (x_zne c247_223 H.1 (fun h1 => (x_aldn c247_228 rfl (x_gfr c247_229 k_133_29 (x_ildn c247_232 rfl (x_ild c247_233 rfl (x_aldn c247_235 rfl (wp_wk (l' := [some (jR 133), none, some (jI v2), some (jI v3), some (jI v4)]) ⟨rfl, ⟨rfl, ⟨rfl, ⟨rfl, trivial⟩⟩⟩⟩ (x_cv (As := []) (st := [jI v4, jI v2, jR 142]) c247_236 cl_133 kl248 rfl (Nat.le_of_ble_eq_true rfl) mx248 (Nat.le_refl _) (H.2.1 h1))))))))) (fun h2 => (x_ci c247_226 (x_zrt c247_227 r247 (by decide) (H.2.2 h2)))))
theorem s247_239 {kc : List va_E} {d : Nat} {v2 v3 v4 u0 u1 u2 : Int} {M : fx_M} {Q : Option fx_V → fx_M → Prop} (H : ((fx_in32 u1)) ∧ ((fx_in32 u0)) ∧ (u1 < u0 → (fx_in32 (M 133 8))) ∧ (u1 < u0 → (fx_in32 (M 148 0))) ∧ (u1 < u0 → M 133 8 < M 148 0 → (fx_in32 v3)) ∧ (((0 : Int) ≤ u2 ∧ u2 < 1300)) ∧ wp kc (d + 1) 247 143 [some (jR 133), none, some (jI (v2 + 1)), none, none] [] (fx_up M 142 u2 (if u1 < u0 then ((if M 133 8 < M 148 0 then ((if v3 = 0 then ((0 + (2 * (M 133 8))) + (8 * v4) : Int) else (1 + (2 * (M 133 8))) + (8 * v4)) : Int) else (-1)) : Int) else (-1))) Q) : wp kc (d + 1) 247 239 [some (jR 133), none, some (jI v2), some (jI v3), some (jI v4)] [jI u0, jI u1, jI u2, jR 142] M Q :=
  (have K : wp kc (d + 1) 247 281 [some (jR 133), none, some (jI v2), none, none] [jI (if u1 < u0 then ((if M 133 8 < M 148 0 then ((if v3 = 0 then ((0 + (2 * (M 133 8))) + (8 * v4) : Int) else (1 + (2 * (M 133 8))) + (8 * v4)) : Int) else (-1)) : Int) else (-1)), jI u2, jR 142] M Q := (x_iast c247_281 a_142 H.2.2.2.2.2.1 (by decide) (x_inc (l' := [some (jR 133), none, some (jI (v2 + 1)), none, none]) c247_282 rfl rfl (x_goto c247_285 (wp_wk (l' := [some (jR 133), none, some (jI (v2 + 1)), none, none]) ⟨rfl, ⟨rfl, trivial⟩⟩ H.2.2.2.2.2.2)))); (x_cge c247_239 H.1 H.2.1 (fun (h1 : u0 ≤ u1) => (x_ci c247_280 (wp_wk (l' := [some (jR 133), none, some (jI v2), none, none]) ⟨rfl, ⟨rfl, trivial⟩⟩ (by have K := K; first | (simp only [if_neg (Int.not_lt.mpr h1)] at K ⊢; exact K) | (exfalso; omega))))) (fun (h2 : u1 < u0) => (x_aldn c247_242 rfl (x_gfi c247_243 k_133_8 (x_aldn c247_246 rfl (x_gfr c247_247 k_133_39 (x_ci c247_250 (x_iald c247_251 a_148 (by decide) (by decide) (x_cge c247_252 (H.2.2.1 h2) (H.2.2.2.1 h2) (fun (h3 : M 148 0 ≤ M 133 8) => (x_ci c247_280 (wp_wk (l' := [some (jR 133), none, some (jI v2), none, none]) ⟨rfl, ⟨rfl, trivial⟩⟩ (by have K := K; first | (simp only [if_pos h2, if_neg (Int.not_lt.mpr h3)] at K ⊢; exact K) | (exfalso; omega))))) (fun (h4 : M 133 8 < M 148 0) => (x_ildn c247_255 rfl (x_zeq c247_256 (H.2.2.2.2.1 h2 h4) (fun (h5 : v3 = 0) => (x_ci c247_263 (x_ci c247_264 (x_aldn c247_265 rfl (x_gfi c247_266 k_133_8 (x_imul c247_269 (x_iadd c247_270 (x_ci c247_271 (x_ild c247_273 rfl (x_imul c247_275 (x_iadd c247_276 (x_goto c247_277 (wp_wk (l' := [some (jR 133), none, some (jI v2), none, none]) ⟨rfl, ⟨rfl, trivial⟩⟩ (by have K := K; first | (simp only [if_pos h2, if_pos h4, if_pos h5] at K ⊢; exact K) | (exfalso; omega))))))))))))))) (fun (h6 : v3 ≠ 0) => (x_ci c247_259 (x_goto c247_260 (x_ci c247_264 (x_aldn c247_265 rfl (x_gfi c247_266 k_133_8 (x_imul c247_269 (x_iadd c247_270 (x_ci c247_271 (x_ild c247_273 rfl (x_imul c247_275 (x_iadd c247_276 (x_goto c247_277 (wp_wk (l' := [some (jR 133), none, some (jI v2), none, none]) ⟨rfl, ⟨rfl, trivial⟩⟩ (by have K := K; first | (simp only [if_pos h2, if_pos h4, if_neg h6] at K ⊢; exact K) | (exfalso; omega)))))))))))))))))))))))))))))
theorem s247_314 {kc : List va_E} {d : Nat} {u0 : Int} {M : fx_M} {Q : Option fx_V → fx_M → Prop} (H : ((0 : Int) ≤ u0 ∧ u0 ≤ 1) ∧ Q (some (jI u0)) M) : wp kc (d + 1) 247 314 [none, none, none, none, none] [jI u0] M Q :=
  (x_zrt c247_314 r247 H.1 H.2)
theorem s247 {kc : List va_E} {d : Nat} {M : fx_M} {Q : Option fx_V → fx_M → Prop} (H : wc kc d 228 [jR 133] M (fun v M1 => wp kc (d + 1) 247 4 [some (jR 133), none, none, none, none] (v.toList ++ []) M1 Q)) : wc kc (d + 1) 247 [jR 133] M Q :=
  wc_of (wp_wk (l' := [some (jR 133), none, none, none, none]) ⟨rfl, trivial⟩ (s247_0 H))

/- PuzzleHouseModel.cells()I -/
theorem c248_0 : fx_op 248 0 = some (.aload_n 0, 1, 0) := by decide +kernel
theorem c248_1 : fx_gf 248 1 = some (12, 37, 4) := by decide +kernel
theorem c248_4 : fx_ci 248 4 = some (0, 5) := by decide +kernel
theorem c248_5 : fx_op 248 5 = some (.iaload, 6, 5) := by decide +kernel
theorem c248_6 : fx_op 248 6 = some (.aload_n 0, 7, 6) := by decide +kernel
theorem c248_7 : fx_gf 248 7 = some (12, 38, 10) := by decide +kernel
theorem c248_10 : fx_ci 248 10 = some (0, 11) := by decide +kernel
theorem c248_11 : fx_op 248 11 = some (.iaload, 12, 11) := by decide +kernel
theorem c248_12 : fx_op 248 12 = some (.imul, 13, 12) := by decide +kernel
theorem c248_13 : fx_op 248 13 = some (.ireturn, 14, 13) := by decide +kernel
theorem s248_0 {kc : List va_E} {d : Nat} {M : fx_M} {Q : Option fx_V → fx_M → Prop} (H : Q (some (jI ((M 146 0) * (M 147 0)))) M) : wp kc (d + 1) 248 0 [some (jR 133)] [] M Q :=
  (x_aldn c248_0 rfl (x_gfr c248_1 k_133_37 (x_ci c248_4 (x_iald c248_5 a_146 (by decide) (by decide) (x_aldn c248_6 rfl (x_gfr c248_7 k_133_38 (x_ci c248_10 (x_iald c248_11 a_147 (by decide) (by decide) (x_imul c248_12 (x_irt c248_13 r248 H))))))))))
theorem s248 {kc : List va_E} {d : Nat} {M : fx_M} {Q : Option fx_V → fx_M → Prop} (H : Q (some (jI ((M 146 0) * (M 147 0)))) M) : wc kc (d + 1) 248 [jR 133] M Q :=
  wc_of (wp_wk (l' := [some (jR 133)]) ⟨rfl, trivial⟩ (s248_0 H))

/- PuzzleHouseModel.scanName()Z -/
theorem c249_0 : fx_op 249 0 = some (.aload_n 0, 1, 0) := by decide +kernel
theorem c249_1 : fx_op 249 1 = some (.aload_n 0, 2, 1) := by decide +kernel
theorem c249_2 : fx_gf 249 2 = some (12, 7, 5) := by decide +kernel
theorem c249_5 : fx_pf 249 5 = some (12, 15, 0, 8) := by decide +kernel
theorem c249_8 : fx_op 249 8 = some (.aload_n 0, 9, 8) := by decide +kernel
theorem c249_9 : fx_gf 249 9 = some (12, 7, 12) := by decide +kernel
theorem c249_12 : fx_op 249 12 = some (.aload_n 0, 13, 12) := by decide +kernel
theorem c249_13 : fx_gf 249 13 = some (12, 15, 16) := by decide +kernel
theorem c249_16 : fx_op 249 16 = some (.isub, 17, 16) := by decide +kernel
theorem c249_17 : fx_ci 249 17 = some (8, 19) := by decide +kernel
theorem c249_19 : fx_op 249 19 = some (.if_icmp .ge 34, 22, 53) := by decide +kernel
theorem c249_22 : fx_op 249 22 = some (.aload_n 0, 23, 22) := by decide +kernel
theorem c249_53 : fx_op 249 53 = some (.aload_n 0, 54, 53) := by decide +kernel
theorem c249_54 : fx_op 249 54 = some (.aload_n 0, 55, 54) := by decide +kernel
theorem c249_55 : fx_gf 249 55 = some (12, 7, 58) := by decide +kernel
theorem c249_58 : fx_op 249 58 = some (.aload_n 0, 59, 58) := by decide +kernel
theorem c249_59 : fx_gf 249 59 = some (12, 15, 62) := by decide +kernel
theorem c249_62 : fx_op 249 62 = some (.isub, 63, 62) := by decide +kernel
theorem c249_63 : fx_pf 249 63 = some (12, 16, 0, 66) := by decide +kernel
theorem c249_66 : fx_op 249 66 = some (.aload_n 0, 67, 66) := by decide +kernel
theorem c249_67 : fx_gf 249 67 = some (12, 16, 70) := by decide +kernel
theorem c249_70 : fx_op 249 70 = some (.ifCond .le 7, 73, 77) := by decide +kernel
theorem c249_77 : fx_ci 249 77 = some (0, 78) := by decide +kernel
theorem c249_73 : fx_ci 249 73 = some (1, 74) := by decide +kernel
theorem c249_74 : fx_op 249 74 = some (.goto 4, 77, 78) := by decide +kernel
theorem c249_78 : fx_op 249 78 = some (.ireturn, 79, 78) := by decide +kernel
theorem c249_23 : fx_ca 249 23 = some (228, 1, 2, 26) := by decide +kernel
theorem c249_26 : fx_ci 249 26 = some (97, 28) := by decide +kernel
theorem c249_28 : fx_op 249 28 = some (.if_icmp .lt 25, 31, 53) := by decide +kernel
theorem c249_31 : fx_op 249 31 = some (.aload_n 0, 32, 31) := by decide +kernel
theorem c249_32 : fx_ca 249 32 = some (228, 1, 2, 35) := by decide +kernel
theorem c249_35 : fx_ci 249 35 = some (122, 37) := by decide +kernel
theorem c249_37 : fx_op 249 37 = some (.if_icmp .gt 16, 40, 53) := by decide +kernel
theorem c249_40 : fx_op 249 40 = some (.aload_n 0, 41, 40) := by decide +kernel
theorem c249_41 : fx_op 249 41 = some (.dup, 42, 41) := by decide +kernel
theorem c249_42 : fx_gf 249 42 = some (12, 7, 45) := by decide +kernel
theorem c249_45 : fx_ci 249 45 = some (1, 46) := by decide +kernel
theorem c249_46 : fx_op 249 46 = some (.iadd, 47, 46) := by decide +kernel
theorem c249_47 : fx_pf 249 47 = some (12, 7, 0, 50) := by decide +kernel
theorem c249_50 : fx_op 249 50 = some (.goto (-42), 53, 8) := by decide +kernel
theorem s249_0 {kc : List va_E} {d : Nat} {M : fx_M} {Q : Option fx_V → fx_M → Prop} (H : wp kc (d + 1) 249 8 [some (jR 133)] [] (fx_up M 133 15 (M 133 7)) Q) : wp kc (d + 1) 249 0 [some (jR 133)] [] M Q :=
  (x_aldn c249_0 rfl (x_aldn c249_1 rfl (x_gfi c249_2 k_133_7 (x_pfi c249_5 k_133_15 (wp_wk (l' := [some (jR 133)]) ⟨rfl, trivial⟩ H)))))
theorem s249_8 {kc : List va_E} {d : Nat} {M : fx_M} {Q : Option fx_V → fx_M → Prop} (H : ((fx_in32 ((M 133 7) - (M 133 15)))) ∧ (8 ≤ (M 133 7) - (M 133 15) → ((fx_in32 ((M 133 7) - (M 133 15)))) ∧ ((0 : Int) ≤ (if 0 < (M 133 7) - (M 133 15) then (1 : Int) else 0) ∧ (if 0 < (M 133 7) - (M 133 15) then (1 : Int) else 0) ≤ 1) ∧ Q (some (jI (if 0 < (M 133 7) - (M 133 15) then (1 : Int) else 0))) (fx_up M 133 16 ((M 133 7) - (M 133 15)))) ∧ ((M 133 7) - (M 133 15) < 8 → wc kc d 228 [jR 133] M (fun v M1 => wp kc (d + 1) 249 26 [some (jR 133)] (v.toList ++ []) M1 Q))) : wp kc (d + 1) 249 8 [some (jR 133)] [] M Q :=
  (x_aldn c249_8 rfl (x_gfi c249_9 k_133_7 (x_aldn c249_12 rfl (x_gfi c249_13 k_133_15 (x_isub c249_16 (x_ci c249_17 (x_cge c249_19 H.1 (by decide) (fun h1 => (x_aldn c249_53 rfl (x_aldn c249_54 rfl (x_gfi c249_55 k_133_7 (x_aldn c249_58 rfl (x_gfi c249_59 k_133_15 (x_isub c249_62 (x_pfi c249_63 k_133_16 (x_aldn c249_66 rfl (x_gfi c249_67 k_133_16 (wp_vI (fx_upS) (have K : wp kc (d + 1) 249 78 [none] [jI (if 0 < (M 133 7) - (M 133 15) then (1 : Int) else 0)] (fx_up M 133 16 ((M 133 7) - (M 133 15))) Q := (x_zrt c249_78 r249 (H.2.1 h1).2.1 (H.2.1 h1).2.2); (x_zle c249_70 (H.2.1 h1).1 (fun (h3 : (M 133 7) - (M 133 15) ≤ 0) => (x_ci c249_77 (wp_wk (l' := [none]) trivial (by have K := K; first | (simp only [if_neg (Int.not_lt.mpr h3)] at K ⊢; exact K) | (exfalso; omega))))) (fun (h4 : 0 < (M 133 7) - (M 133 15)) => (x_ci c249_73 (x_goto c249_74 (wp_wk (l' := [none]) trivial (by have K := K; first | (simp only [if_pos h4] at K ⊢; exact K) | (exfalso; omega))))))))))))))))))) (fun h2 => (x_aldn c249_22 rfl (wp_wk (l' := [some (jR 133)]) ⟨rfl, trivial⟩ (x_cv (As := []) (st := []) c249_23 cl_133 kl228 rfl (Nat.le_of_ble_eq_true rfl) mx228 (Nat.le_refl _) (H.2.2 h2))))))))))))
theorem s249_26 {kc : List va_E} {d : Nat} {u0 : Int} {M : fx_M} {Q : Option fx_V → fx_M → Prop} (H : ((fx_in32 u0)) ∧ (u0 < 97 → ((fx_in32 ((M 133 7) - (M 133 15)))) ∧ ((0 : Int) ≤ (if 0 < (M 133 7) - (M 133 15) then (1 : Int) else 0) ∧ (if 0 < (M 133 7) - (M 133 15) then (1 : Int) else 0) ≤ 1) ∧ Q (some (jI (if 0 < (M 133 7) - (M 133 15) then (1 : Int) else 0))) (fx_up M 133 16 ((M 133 7) - (M 133 15)))) ∧ (97 ≤ u0 → wc kc d 228 [jR 133] M (fun v M1 => wp kc (d + 1) 249 35 [some (jR 133)] (v.toList ++ []) M1 Q))) : wp kc (d + 1) 249 26 [some (jR 133)] [jI u0] M Q :=
  (x_ci c249_26 (x_clt c249_28 H.1 (by decide) (fun h1 => (x_aldn c249_53 rfl (x_aldn c249_54 rfl (x_gfi c249_55 k_133_7 (x_aldn c249_58 rfl (x_gfi c249_59 k_133_15 (x_isub c249_62 (x_pfi c249_63 k_133_16 (x_aldn c249_66 rfl (x_gfi c249_67 k_133_16 (wp_vI (fx_upS) (have K : wp kc (d + 1) 249 78 [none] [jI (if 0 < (M 133 7) - (M 133 15) then (1 : Int) else 0)] (fx_up M 133 16 ((M 133 7) - (M 133 15))) Q := (x_zrt c249_78 r249 (H.2.1 h1).2.1 (H.2.1 h1).2.2); (x_zle c249_70 (H.2.1 h1).1 (fun (h3 : (M 133 7) - (M 133 15) ≤ 0) => (x_ci c249_77 (wp_wk (l' := [none]) trivial (by have K := K; first | (simp only [if_neg (Int.not_lt.mpr h3)] at K ⊢; exact K) | (exfalso; omega))))) (fun (h4 : 0 < (M 133 7) - (M 133 15)) => (x_ci c249_73 (x_goto c249_74 (wp_wk (l' := [none]) trivial (by have K := K; first | (simp only [if_pos h4] at K ⊢; exact K) | (exfalso; omega))))))))))))))))))) (fun h2 => (x_aldn c249_31 rfl (wp_wk (l' := [some (jR 133)]) ⟨rfl, trivial⟩ (x_cv (As := []) (st := []) c249_32 cl_133 kl228 rfl (Nat.le_of_ble_eq_true rfl) mx228 (Nat.le_refl _) (H.2.2 h2)))))))
theorem s249_35 {kc : List va_E} {d : Nat} {u0 : Int} {M : fx_M} {Q : Option fx_V → fx_M → Prop} (H : ((fx_in32 u0)) ∧ (122 < u0 → ((fx_in32 ((M 133 7) - (M 133 15)))) ∧ ((0 : Int) ≤ (if 0 < (M 133 7) - (M 133 15) then (1 : Int) else 0) ∧ (if 0 < (M 133 7) - (M 133 15) then (1 : Int) else 0) ≤ 1) ∧ Q (some (jI (if 0 < (M 133 7) - (M 133 15) then (1 : Int) else 0))) (fx_up M 133 16 ((M 133 7) - (M 133 15)))) ∧ (u0 ≤ 122 → wp kc (d + 1) 249 8 [some (jR 133)] [] (fx_up M 133 7 ((M 133 7) + 1)) Q)) : wp kc (d + 1) 249 35 [some (jR 133)] [jI u0] M Q :=
  (x_ci c249_35 (x_cgt c249_37 H.1 (by decide) (fun h1 => (x_aldn c249_53 rfl (x_aldn c249_54 rfl (x_gfi c249_55 k_133_7 (x_aldn c249_58 rfl (x_gfi c249_59 k_133_15 (x_isub c249_62 (x_pfi c249_63 k_133_16 (x_aldn c249_66 rfl (x_gfi c249_67 k_133_16 (wp_vI (fx_upS) (have K : wp kc (d + 1) 249 78 [none] [jI (if 0 < (M 133 7) - (M 133 15) then (1 : Int) else 0)] (fx_up M 133 16 ((M 133 7) - (M 133 15))) Q := (x_zrt c249_78 r249 (H.2.1 h1).2.1 (H.2.1 h1).2.2); (x_zle c249_70 (H.2.1 h1).1 (fun (h3 : (M 133 7) - (M 133 15) ≤ 0) => (x_ci c249_77 (wp_wk (l' := [none]) trivial (by have K := K; first | (simp only [if_neg (Int.not_lt.mpr h3)] at K ⊢; exact K) | (exfalso; omega))))) (fun (h4 : 0 < (M 133 7) - (M 133 15)) => (x_ci c249_73 (x_goto c249_74 (wp_wk (l' := [none]) trivial (by have K := K; first | (simp only [if_pos h4] at K ⊢; exact K) | (exfalso; omega))))))))))))))))))) (fun h2 => (x_aldn c249_40 rfl (x_dupr c249_41 (x_gfi c249_42 k_133_7 (x_ci c249_45 (x_iadd c249_46 (x_pfi c249_47 k_133_7 (x_goto c249_50 (wp_wk (l' := [some (jR 133)]) ⟨rfl, trivial⟩ (H.2.2 h2))))))))))))
theorem s249 {kc : List va_E} {d : Nat} {M : fx_M} {Q : Option fx_V → fx_M → Prop} (H : wp kc (d + 1) 249 8 [some (jR 133)] [] (fx_up M 133 15 (M 133 7)) Q) : wc kc (d + 1) 249 [jR 133] M Q :=
  wc_of (wp_wk (l' := [some (jR 133)]) ⟨rfl, trivial⟩ (s249_0 H))

/- PuzzleHouseModel.scanSubmit()Z -/
theorem c250_0 : fx_op 250 0 = some (.aload_n 0, 1, 0) := by decide +kernel
theorem c250_1 : fx_ci 250 1 = some (32, 3) := by decide +kernel
theorem c250_3 : fx_ca 250 3 = some (227, 2, 2, 6) := by decide +kernel
theorem c250_6 : fx_op 250 6 = some (.ifCond .eq 10, 9, 16) := by decide +kernel
theorem c250_16 : fx_ci 250 16 = some (0, 17) := by decide +kernel
theorem c250_9 : fx_op 250 9 = some (.aload_n 0, 10, 9) := by decide +kernel
theorem c250_17 : fx_op 250 17 = some (.ireturn, 18, 17) := by decide +kernel
theorem c250_10 : fx_ca 250 10 = some (229, 1, 2, 13) := by decide +kernel
theorem c250_13 : fx_op 250 13 = some (.ifCond .ne 5, 16, 18) := by decide +kernel
theorem c250_18 : fx_op 250 18 = some (.aload_n 0, 19, 18) := by decide +kernel
theorem c250_19 : fx_op 250 19 = some (.aload_n 0, 20, 19) := by decide +kernel
theorem c250_20 : fx_gf 250 20 = some (12, 8, 23) := by decide +kernel
theorem c250_23 : fx_pf 250 23 = some (12, 9, 0, 26) := by decide +kernel
theorem c250_26 : fx_op 250 26 = some (.aload_n 0, 27, 26) := by decide +kernel
theorem c250_27 : fx_ci 250 27 = some (32, 29) := by decide +kernel
theorem c250_29 : fx_ca 250 29 = some (227, 2, 2, 32) := by decide +kernel
theorem c250_32 : fx_op 250 32 = some (.ifCond .eq 17, 35, 49) := by decide +kernel
theorem c250_49 : fx_ci 250 49 = some (0, 50) := by decide +kernel
theorem c250_35 : fx_op 250 35 = some (.aload_n 0, 36, 35) := by decide +kernel
theorem c250_50 : fx_op 250 50 = some (.ireturn, 51, 50) := by decide +kernel
theorem c250_36 : fx_ca 250 36 = some (249, 1, 2, 39) := by decide +kernel
theorem c250_39 : fx_op 250 39 = some (.ifCond .eq 10, 42, 49) := by decide +kernel
theorem c250_42 : fx_op 250 42 = some (.aload_n 0, 43, 42) := by decide +kernel
theorem c250_43 : fx_ca 250 43 = some (236, 1, 2, 46) := by decide +kernel
theorem c250_46 : fx_op 250 46 = some (.ifCond .ne 5, 49, 51) := by decide +kernel
theorem c250_51 : fx_op 250 51 = some (.aload_n 0, 52, 51) := by decide +kernel
theorem c250_52 : fx_op 250 52 = some (.aload_n 0, 53, 52) := by decide +kernel
theorem c250_53 : fx_gf 250 53 = some (12, 8, 56) := by decide +kernel
theorem c250_56 : fx_pf 250 56 = some (12, 20, 0, 59) := by decide +kernel
theorem c250_59 : fx_op 250 59 = some (.aload_n 0, 60, 59) := by decide +kernel
theorem c250_60 : fx_ci 250 60 = some (32, 62) := by decide +kernel
theorem c250_62 : fx_ca 250 62 = some (227, 2, 2, 65) := by decide +kernel
theorem c250_65 : fx_op 250 65 = some (.ifCond .ne 5, 68, 70) := by decide +kernel
theorem c250_70 : fx_op 250 70 = some (.aload_n 0, 71, 70) := by decide +kernel
theorem c250_71 : fx_op 250 71 = some (.aload_n 0, 72, 71) := by decide +kernel
theorem c250_72 : fx_gf 250 72 = some (12, 7, 75) := by decide +kernel
theorem c250_75 : fx_pf 250 75 = some (12, 21, 0, 78) := by decide +kernel
theorem c250_68 : fx_ci 250 68 = some (0, 69) := by decide +kernel
theorem c250_69 : fx_op 250 69 = some (.ireturn, 70, 69) := by decide +kernel
theorem c250_78 : fx_op 250 78 = some (.aload_n 0, 79, 78) := by decide +kernel
theorem c250_79 : fx_ca 250 79 = some (229, 1, 2, 82) := by decide +kernel
theorem c250_82 : fx_op 250 82 = some (.ifCond .eq 14, 85, 96) := by decide +kernel
theorem c250_85 : fx_op 250 85 = some (.aload_n 0, 86, 85) := by decide +kernel
theorem c250_86 : fx_op 250 86 = some (.aload_n 0, 87, 86) := by decide +kernel
theorem c250_87 : fx_gf 250 87 = some (12, 7, 90) := by decide +kernel
theorem c250_96 : fx_op 250 96 = some (.aload_n 0, 97, 96) := by decide +kernel
theorem c250_97 : fx_op 250 97 = some (.aload_n 0, 98, 97) := by decide +kernel
theorem c250_98 : fx_gf 250 98 = some (12, 7, 101) := by decide +kernel
theorem c250_101 : fx_op 250 101 = some (.aload_n 0, 102, 101) := by decide +kernel
theorem c250_102 : fx_gf 250 102 = some (12, 21, 105) := by decide +kernel
theorem c250_105 : fx_op 250 105 = some (.isub, 106, 105) := by decide +kernel
theorem c250_106 : fx_pf 250 106 = some (12, 22, 0, 109) := by decide +kernel
theorem c250_109 : fx_op 250 109 = some (.aload_n 0, 110, 109) := by decide +kernel
theorem c250_110 : fx_gf 250 110 = some (12, 22, 113) := by decide +kernel
theorem c250_113 : fx_op 250 113 = some (.ifCond .le 7, 116, 120) := by decide +kernel
theorem c250_120 : fx_ci 250 120 = some (0, 121) := by decide +kernel
theorem c250_116 : fx_ci 250 116 = some (1, 117) := by decide +kernel
theorem c250_117 : fx_op 250 117 = some (.goto 4, 120, 121) := by decide +kernel
theorem c250_90 : fx_pf 250 90 = some (12, 22, 0, 93) := by decide +kernel
theorem c250_121 : fx_op 250 121 = some (.ireturn, 122, 121) := by decide +kernel
theorem c250_93 : fx_op 250 93 = some (.goto (-15), 96, 78) := by decide +kernel
theorem s250_0 {kc : List va_E} {d : Nat} {M : fx_M} {Q : Option fx_V → fx_M → Prop} (H : wc kc d 227 [jR 133, jI 32] M (fun v M1 => wp kc (d + 1) 250 6 [some (jR 133)] (v.toList ++ []) M1 Q)) : wp kc (d + 1) 250 0 [some (jR 133)] [] M Q :=
  (x_aldn c250_0 rfl (x_ci c250_1 (wp_wk (l' := [some (jR 133)]) ⟨rfl, trivial⟩ (x_cv (As := [jI 32]) (st := []) c250_3 cl_133 kl227 rfl (Nat.le_of_ble_eq_true rfl) mx227 (Nat.le_refl _) H))))
theorem s250_6 {kc : List va_E} {d : Nat} {u0 : Int} {M : fx_M} {Q : Option fx_V → fx_M → Prop} (H : ((fx_in32 u0)) ∧ (u0 = 0 → Q (some (jI 0)) M) ∧ (u0 ≠ 0 → wc kc d 229 [jR 133] M (fun v M1 => wp kc (d + 1) 250 13 [some (jR 133)] (v.toList ++ []) M1 Q))) : wp kc (d + 1) 250 6 [some (jR 133)] [jI u0] M Q :=
  (x_zeq c250_6 H.1 (fun h1 => (x_ci c250_16 (x_zrt c250_17 r250 (by decide) (H.2.1 h1)))) (fun h2 => (x_aldn c250_9 rfl (wp_wk (l' := [some (jR 133)]) ⟨rfl, trivial⟩ (x_cv (As := []) (st := []) c250_10 cl_133 kl229 rfl (Nat.le_of_ble_eq_true rfl) mx229 (Nat.le_refl _) (H.2.2 h2))))))
theorem s250_13 {kc : List va_E} {d : Nat} {u0 : Int} {M : fx_M} {Q : Option fx_V → fx_M → Prop} (H : ((fx_in32 u0)) ∧ (u0 ≠ 0 → wc kc d 227 [jR 133, jI 32] (fx_up M 133 9 (M 133 8)) (fun v M1 => wp kc (d + 1) 250 32 [some (jR 133)] (v.toList ++ []) M1 Q)) ∧ (u0 = 0 → Q (some (jI 0)) M)) : wp kc (d + 1) 250 13 [some (jR 133)] [jI u0] M Q :=
  (x_zne c250_13 H.1 (fun h1 => (x_aldn c250_18 rfl (x_aldn c250_19 rfl (x_gfi c250_20 k_133_8 (x_pfi c250_23 k_133_9 (x_aldn c250_26 rfl (x_ci c250_27 (wp_wk (l' := [some (jR 133)]) ⟨rfl, trivial⟩ (x_cv (As := [jI 32]) (st := []) c250_29 cl_133 kl227 rfl (Nat.le_of_ble_eq_true rfl) mx227 (Nat.le_refl _) (H.2.1 h1)))))))))) (fun h2 => (x_ci c250_16 (x_zrt c250_17 r250 (by decide) (H.2.2 h2)))))
theorem s250_32 {kc : List va_E} {d : Nat} {u0 : Int} {M : fx_M} {Q : Option fx_V → fx_M → Prop} (H : ((fx_in32 u0)) ∧ (u0 = 0 → Q (some (jI 0)) M) ∧ (u0 ≠ 0 → wc kc d 249 [jR 133] M (fun v M1 => wp kc (d + 1) 250 39 [some (jR 133)] (v.toList ++ []) M1 Q))) : wp kc (d + 1) 250 32 [some (jR 133)] [jI u0] M Q :=
  (x_zeq c250_32 H.1 (fun h1 => (x_ci c250_49 (x_zrt c250_50 r250 (by decide) (H.2.1 h1)))) (fun h2 => (x_aldn c250_35 rfl (wp_wk (l' := [some (jR 133)]) ⟨rfl, trivial⟩ (x_cv (As := []) (st := []) c250_36 cl_133 kl249 rfl (Nat.le_of_ble_eq_true rfl) mx249 (Nat.le_refl _) (H.2.2 h2))))))
theorem s250_39 {kc : List va_E} {d : Nat} {u0 : Int} {M : fx_M} {Q : Option fx_V → fx_M → Prop} (H : ((fx_in32 u0)) ∧ (u0 = 0 → Q (some (jI 0)) M) ∧ (u0 ≠ 0 → wc kc d 236 [jR 133] M (fun v M1 => wp kc (d + 1) 250 46 [some (jR 133)] (v.toList ++ []) M1 Q))) : wp kc (d + 1) 250 39 [some (jR 133)] [jI u0] M Q :=
  (x_zeq c250_39 H.1 (fun h1 => (x_ci c250_49 (x_zrt c250_50 r250 (by decide) (H.2.1 h1)))) (fun h2 => (x_aldn c250_42 rfl (wp_wk (l' := [some (jR 133)]) ⟨rfl, trivial⟩ (x_cv (As := []) (st := []) c250_43 cl_133 kl236 rfl (Nat.le_of_ble_eq_true rfl) mx236 (Nat.le_refl _) (H.2.2 h2))))))
theorem s250_46 {kc : List va_E} {d : Nat} {u0 : Int} {M : fx_M} {Q : Option fx_V → fx_M → Prop} (H : ((fx_in32 u0)) ∧ (u0 ≠ 0 → wc kc d 227 [jR 133, jI 32] (fx_up M 133 20 (M 133 8)) (fun v M1 => wp kc (d + 1) 250 65 [some (jR 133)] (v.toList ++ []) M1 Q)) ∧ (u0 = 0 → Q (some (jI 0)) M)) : wp kc (d + 1) 250 46 [some (jR 133)] [jI u0] M Q :=
  (x_zne c250_46 H.1 (fun h1 => (x_aldn c250_51 rfl (x_aldn c250_52 rfl (x_gfi c250_53 k_133_8 (x_pfi c250_56 k_133_20 (x_aldn c250_59 rfl (x_ci c250_60 (wp_wk (l' := [some (jR 133)]) ⟨rfl, trivial⟩ (x_cv (As := [jI 32]) (st := []) c250_62 cl_133 kl227 rfl (Nat.le_of_ble_eq_true rfl) mx227 (Nat.le_refl _) (H.2.1 h1)))))))))) (fun h2 => (x_ci c250_49 (x_zrt c250_50 r250 (by decide) (H.2.2 h2)))))
theorem s250_65 {kc : List va_E} {d : Nat} {u0 : Int} {M : fx_M} {Q : Option fx_V → fx_M → Prop} (H : ((fx_in32 u0)) ∧ (u0 ≠ 0 → wp kc (d + 1) 250 78 [some (jR 133)] [] (fx_up M 133 21 (M 133 7)) Q) ∧ (u0 = 0 → Q (some (jI 0)) M)) : wp kc (d + 1) 250 65 [some (jR 133)] [jI u0] M Q :=
  (x_zne c250_65 H.1 (fun h1 => (x_aldn c250_70 rfl (x_aldn c250_71 rfl (x_gfi c250_72 k_133_7 (x_pfi c250_75 k_133_21 (wp_wk (l' := [some (jR 133)]) ⟨rfl, trivial⟩ (H.2.1 h1))))))) (fun h2 => (x_ci c250_68 (x_zrt c250_69 r250 (by decide) (H.2.2 h2)))))
theorem s250_78 {kc : List va_E} {d : Nat} {M : fx_M} {Q : Option fx_V → fx_M → Prop} (H : wc kc d 229 [jR 133] M (fun v M1 => wp kc (d + 1) 250 82 [some (jR 133)] (v.toList ++ []) M1 Q)) : wp kc (d + 1) 250 78 [some (jR 133)] [] M Q :=
  (x_aldn c250_78 rfl (wp_wk (l' := [some (jR 133)]) ⟨rfl, trivial⟩ (x_cv (As := []) (st := []) c250_79 cl_133 kl229 rfl (Nat.le_of_ble_eq_true rfl) mx229 (Nat.le_refl _) H)))
theorem s250_82 {kc : List va_E} {d : Nat} {u0 : Int} {M : fx_M} {Q : Option fx_V → fx_M → Prop} (H : ((fx_in32 u0)) ∧ (u0 = 0 → ((fx_in32 ((M 133 7) - (M 133 21)))) ∧ ((0 : Int) ≤ (if 0 < (M 133 7) - (M 133 21) then (1 : Int) else 0) ∧ (if 0 < (M 133 7) - (M 133 21) then (1 : Int) else 0) ≤ 1) ∧ Q (some (jI (if 0 < (M 133 7) - (M 133 21) then (1 : Int) else 0))) (fx_up M 133 22 ((M 133 7) - (M 133 21)))) ∧ (u0 ≠ 0 → wp kc (d + 1) 250 78 [some (jR 133)] [] (fx_up M 133 22 (M 133 7)) Q)) : wp kc (d + 1) 250 82 [some (jR 133)] [jI u0] M Q :=
  (x_zeq c250_82 H.1 (fun h1 => (x_aldn c250_96 rfl (x_aldn c250_97 rfl (x_gfi c250_98 k_133_7 (x_aldn c250_101 rfl (x_gfi c250_102 k_133_21 (x_isub c250_105 (x_pfi c250_106 k_133_22 (x_aldn c250_109 rfl (x_gfi c250_110 k_133_22 (wp_vI (fx_upS) (have K : wp kc (d + 1) 250 121 [none] [jI (if 0 < (M 133 7) - (M 133 21) then (1 : Int) else 0)] (fx_up M 133 22 ((M 133 7) - (M 133 21))) Q := (x_zrt c250_121 r250 (H.2.1 h1).2.1 (H.2.1 h1).2.2); (x_zle c250_113 (H.2.1 h1).1 (fun (h3 : (M 133 7) - (M 133 21) ≤ 0) => (x_ci c250_120 (wp_wk (l' := [none]) trivial (by have K := K; first | (simp only [if_neg (Int.not_lt.mpr h3)] at K ⊢; exact K) | (exfalso; omega))))) (fun (h4 : 0 < (M 133 7) - (M 133 21)) => (x_ci c250_116 (x_goto c250_117 (wp_wk (l' := [none]) trivial (by have K := K; first | (simp only [if_pos h4] at K ⊢; exact K) | (exfalso; omega))))))))))))))))))) (fun h2 => (x_aldn c250_85 rfl (x_aldn c250_86 rfl (x_gfi c250_87 k_133_7 (x_pfi c250_90 k_133_22 (x_goto c250_93 (wp_wk (l' := [some (jR 133)]) ⟨rfl, trivial⟩ (H.2.2 h2)))))))))
theorem s250 {kc : List va_E} {d : Nat} {M : fx_M} {Q : Option fx_V → fx_M → Prop} (H : wc kc d 227 [jR 133, jI 32] M (fun v M1 => wp kc (d + 1) 250 6 [some (jR 133)] (v.toList ++ []) M1 Q)) : wc kc (d + 1) 250 [jR 133] M Q :=
  wc_of (wp_wk (l' := [some (jR 133)]) ⟨rfl, trivial⟩ (s250_0 H))

/- PuzzleHouseModel.scanBook()Z -/
theorem c251_0 : fx_op 251 0 = some (.aload_n 0, 1, 0) := by decide +kernel
theorem c251_1 : fx_ci 251 1 = some (56, 3) := by decide +kernel
theorem c251_3 : fx_ci 251 3 = some (56, 5) := by decide +kernel
theorem c251_5 : fx_ca 251 5 = some (220, 3, 2, 8) := by decide +kernel
theorem c251_8 : fx_op 251 8 = some (.ifCond .lt 19, 11, 27) := by decide +kernel
theorem c251_27 : fx_ci 251 27 = some (0, 28) := by decide +kernel
theorem c251_11 : fx_op 251 11 = some (.aload_n 0, 12, 11) := by decide +kernel
theorem c251_12 : fx_ci 251 12 = some (32, 14) := by decide +kernel
theorem c251_28 : fx_op 251 28 = some (.ireturn, 29, 28) := by decide +kernel
theorem c251_14 : fx_ca 251 14 = some (227, 2, 2, 17) := by decide +kernel
theorem c251_17 : fx_op 251 17 = some (.ifCond .eq 10, 20, 27) := by decide +kernel
theorem c251_20 : fx_op 251 20 = some (.aload_n 0, 21, 20) := by decide +kernel
theorem c251_21 : fx_ca 251 21 = some (232, 1, 2, 24) := by decide +kernel
theorem c251_24 : fx_op 251 24 = some (.ifCond .ne 5, 27, 29) := by decide +kernel
theorem c251_29 : fx_op 251 29 = some (.aload_n 0, 30, 29) := by decide +kernel
theorem c251_30 : fx_op 251 30 = some (.aload_n 0, 31, 30) := by decide +kernel
theorem c251_31 : fx_gf 251 31 = some (12, 8, 34) := by decide +kernel
theorem c251_34 : fx_pf 251 34 = some (12, 30, 0, 37) := by decide +kernel
theorem c251_37 : fx_op 251 37 = some (.aload_n 0, 38, 37) := by decide +kernel
theorem c251_38 : fx_ci 251 38 = some (0, 39) := by decide +kernel
theorem c251_39 : fx_pf 251 39 = some (12, 31, 0, 42) := by decide +kernel
theorem c251_42 : fx_op 251 42 = some (.aload_n 0, 43, 42) := by decide +kernel
theorem c251_43 : fx_ci 251 43 = some (47, 45) := by decide +kernel
theorem c251_45 : fx_ca 251 45 = some (227, 2, 2, 48) := by decide +kernel
theorem c251_48 : fx_op 251 48 = some (.ifCond .ne 5, 51, 53) := by decide +kernel
theorem c251_51 : fx_ci 251 51 = some (0, 52) := by decide +kernel
theorem c251_52 : fx_op 251 52 = some (.ireturn, 53, 52) := by decide +kernel
theorem c251_53 : fx_op 251 53 = some (.aload_n 0, 54, 53) := by decide +kernel
theorem c251_54 : fx_ca 251 54 = some (249, 1, 2, 57) := by decide +kernel
theorem c251_57 : fx_op 251 57 = some (.ifCond .eq 82, 60, 139) := by decide +kernel
theorem c251_139 : fx_op 251 139 = some (.aload_n 0, 140, 139) := by decide +kernel
theorem c251_140 : fx_op 251 140 = some (.aload_n 0, 141, 140) := by decide +kernel
theorem c251_141 : fx_gf 251 141 = some (12, 7, 144) := by decide +kernel
theorem c251_144 : fx_pf 251 144 = some (12, 33, 0, 147) := by decide +kernel
theorem c251_147 : fx_op 251 147 = some (.aload_n 0, 148, 147) := by decide +kernel
theorem c251_148 : fx_ci 251 148 = some (6, 150) := by decide +kernel
theorem c251_60 : fx_op 251 60 = some (.aload_n 0, 61, 60) := by decide +kernel
theorem c251_61 : fx_gf 251 61 = some (12, 34, 64) := by decide +kernel
theorem c251_64 : fx_op 251 64 = some (.aload_n 0, 65, 64) := by decide +kernel
theorem c251_65 : fx_gf 251 65 = some (12, 31, 68) := by decide +kernel
theorem c251_68 : fx_op 251 68 = some (.aload_n 0, 69, 68) := by decide +kernel
theorem c251_69 : fx_gf 251 69 = some (12, 15, 72) := by decide +kernel
theorem c251_73 : fx_op 251 73 = some (.aload_n 0, 74, 73) := by decide +kernel
theorem c251_74 : fx_gf 251 74 = some (12, 35, 77) := by decide +kernel
theorem c251_77 : fx_op 251 77 = some (.aload_n 0, 78, 77) := by decide +kernel
theorem c251_78 : fx_gf 251 78 = some (12, 31, 81) := by decide +kernel
theorem c251_81 : fx_op 251 81 = some (.aload_n 0, 82, 81) := by decide +kernel
theorem c251_82 : fx_gf 251 82 = some (12, 16, 85) := by decide +kernel
theorem c251_86 : fx_op 251 86 = some (.aload_n 0, 87, 86) := by decide +kernel
theorem c251_87 : fx_ci 251 87 = some (32, 89) := by decide +kernel
theorem c251_150 : fx_ca 251 150 = some (233, 2, 2, 153) := by decide +kernel
theorem c251_72 : fx_op 251 72 = some (.iastore, 73, 72) := by decide +kernel
theorem c251_85 : fx_op 251 85 = some (.iastore, 86, 85) := by decide +kernel
theorem c251_89 : fx_ca 251 89 = some (227, 2, 2, 92) := by decide +kernel
theorem c251_153 : fx_op 251 153 = some (.ifCond .ne 5, 156, 158) := by decide +kernel
theorem c251_158 : fx_op 251 158 = some (.aload_n 0, 159, 158) := by decide +kernel
theorem c251_159 : fx_op 251 159 = some (.aload_n 0, 160, 159) := by decide +kernel
theorem c251_160 : fx_gf 251 160 = some (12, 8, 163) := by decide +kernel
theorem c251_163 : fx_pf 251 163 = some (12, 32, 0, 166) := by decide +kernel
theorem c251_166 : fx_ci 251 166 = some (1, 167) := by decide +kernel
theorem c251_156 : fx_ci 251 156 = some (0, 157) := by decide +kernel
theorem c251_167 : fx_op 251 167 = some (.ireturn, 168, 167) := by decide +kernel
theorem c251_157 : fx_op 251 157 = some (.ireturn, 158, 157) := by decide +kernel
theorem c251_92 : fx_op 251 92 = some (.ifCond .ne 5, 95, 97) := by decide +kernel
theorem c251_97 : fx_op 251 97 = some (.aload_n 0, 98, 97) := by decide +kernel
theorem c251_98 : fx_gf 251 98 = some (12, 36, 101) := by decide +kernel
theorem c251_101 : fx_op 251 101 = some (.aload_n 0, 102, 101) := by decide +kernel
theorem c251_102 : fx_gf 251 102 = some (12, 31, 105) := by decide +kernel
theorem c251_105 : fx_op 251 105 = some (.aload_n 0, 106, 105) := by decide +kernel
theorem c251_106 : fx_gf 251 106 = some (12, 7, 109) := by decide +kernel
theorem c251_110 : fx_op 251 110 = some (.aload_n 0, 111, 110) := by decide +kernel
theorem c251_111 : fx_op 251 111 = some (.dup, 112, 111) := by decide +kernel
theorem c251_112 : fx_gf 251 112 = some (12, 31, 115) := by decide +kernel
theorem c251_115 : fx_ci 251 115 = some (1, 116) := by decide +kernel
theorem c251_116 : fx_op 251 116 = some (.iadd, 117, 116) := by decide +kernel
theorem c251_117 : fx_pf 251 117 = some (12, 31, 0, 120) := by decide +kernel
theorem c251_120 : fx_op 251 120 = some (.aload_n 0, 121, 120) := by decide +kernel
theorem c251_121 : fx_ci 251 121 = some ((-1), 122) := by decide +kernel
theorem c251_95 : fx_ci 251 95 = some (0, 96) := by decide +kernel
theorem c251_109 : fx_op 251 109 = some (.iastore, 110, 109) := by decide +kernel
theorem c251_122 : fx_ca 251 122 = some (238, 2, 2, 125) := by decide +kernel
theorem c251_96 : fx_op 251 96 = some (.ireturn, 97, 96) := by decide +kernel
theorem c251_125 : fx_op 251 125 = some (.ifCond .eq 12, 128, 137) := by decide +kernel
theorem c251_137 : fx_ci 251 137 = some (0, 138) := by decide +kernel
theorem c251_128 : fx_op 251 128 = some (.aload_n 0, 129, 128) := by decide +kernel
theorem c251_129 : fx_ci 251 129 = some (47, 131) := by decide +kernel
theorem c251_138 : fx_op 251 138 = some (.ireturn, 139, 138) := by decide +kernel
theorem c251_131 : fx_ca 251 131 = some (227, 2, 2, 134) := by decide +kernel
theorem c251_134 : fx_op 251 134 = some (.ifCond .ne (-81), 137, 53) := by decide +kernel
theorem s251_0 {kc : List va_E} {d : Nat} {M : fx_M} {Q : Option fx_V → fx_M → Prop} (H : wc kc d 220 [jR 133, jI 56, jI 56] M (fun v M1 => wp kc (d + 1) 251 8 [some (jR 133)] (v.toList ++ []) M1 Q)) : wp kc (d + 1) 251 0 [some (jR 133)] [] M Q :=
  (x_aldn c251_0 rfl (x_ci c251_1 (x_ci c251_3 (wp_wk (l' := [some (jR 133)]) ⟨rfl, trivial⟩ (x_cv (As := [jI 56, jI 56]) (st := []) c251_5 cl_133 kl220 rfl (Nat.le_of_ble_eq_true rfl) mx220 (Nat.le_refl _) H)))))
theorem s251_8 {kc : List va_E} {d : Nat} {u0 : Int} {M : fx_M} {Q : Option fx_V → fx_M → Prop} (H : ((fx_in32 u0)) ∧ (u0 < 0 → Q (some (jI 0)) M) ∧ (0 ≤ u0 → wc kc d 227 [jR 133, jI 32] M (fun v M1 => wp kc (d + 1) 251 17 [some (jR 133)] (v.toList ++ []) M1 Q))) : wp kc (d + 1) 251 8 [some (jR 133)] [jI u0] M Q :=
  (x_zlt c251_8 H.1 (fun h1 => (x_ci c251_27 (x_zrt c251_28 r251 (by decide) (H.2.1 h1)))) (fun h2 => (x_aldn c251_11 rfl (x_ci c251_12 (wp_wk (l' := [some (jR 133)]) ⟨rfl, trivial⟩ (x_cv (As := [jI 32]) (st := []) c251_14 cl_133 kl227 rfl (Nat.le_of_ble_eq_true rfl) mx227 (Nat.le_refl _) (H.2.2 h2)))))))
theorem s251_17 {kc : List va_E} {d : Nat} {u0 : Int} {M : fx_M} {Q : Option fx_V → fx_M → Prop} (H : ((fx_in32 u0)) ∧ (u0 = 0 → Q (some (jI 0)) M) ∧ (u0 ≠ 0 → wc kc d 232 [jR 133] M (fun v M1 => wp kc (d + 1) 251 24 [some (jR 133)] (v.toList ++ []) M1 Q))) : wp kc (d + 1) 251 17 [some (jR 133)] [jI u0] M Q :=
  (x_zeq c251_17 H.1 (fun h1 => (x_ci c251_27 (x_zrt c251_28 r251 (by decide) (H.2.1 h1)))) (fun h2 => (x_aldn c251_20 rfl (wp_wk (l' := [some (jR 133)]) ⟨rfl, trivial⟩ (x_cv (As := []) (st := []) c251_21 cl_133 kl232 rfl (Nat.le_of_ble_eq_true rfl) mx232 (Nat.le_refl _) (H.2.2 h2))))))
theorem s251_24 {kc : List va_E} {d : Nat} {u0 : Int} {M : fx_M} {Q : Option fx_V → fx_M → Prop} (H : ((fx_in32 u0)) ∧ (u0 ≠ 0 → wc kc d 227 [jR 133, jI 47] (fx_up (fx_up M 133 30 (M 133 8)) 133 31 0) (fun v M1 => wp kc (d + 1) 251 48 [some (jR 133)] (v.toList ++ []) M1 Q)) ∧ (u0 = 0 → Q (some (jI 0)) M)) : wp kc (d + 1) 251 24 [some (jR 133)] [jI u0] M Q :=
  (x_zne c251_24 H.1 (fun h1 => (x_aldn c251_29 rfl (x_aldn c251_30 rfl (x_gfi c251_31 k_133_8 (x_pfi c251_34 k_133_30 (x_aldn c251_37 rfl (x_ci c251_38 (x_pfi c251_39 k_133_31 (x_aldn c251_42 rfl (x_ci c251_43 (wp_wk (l' := [some (jR 133)]) ⟨rfl, trivial⟩ (x_cv (As := [jI 47]) (st := []) c251_45 cl_133 kl227 rfl (Nat.le_of_ble_eq_true rfl) mx227 (Nat.le_refl _) (H.2.1 h1))))))))))))) (fun h2 => (x_ci c251_27 (x_zrt c251_28 r251 (by decide) (H.2.2 h2)))))
theorem s251_48 {kc : List va_E} {d : Nat} {u0 : Int} {M : fx_M} {Q : Option fx_V → fx_M → Prop} (H : ((fx_in32 u0)) ∧ (u0 ≠ 0 → wp kc (d + 1) 251 53 [some (jR 133)] [] M Q) ∧ (u0 = 0 → Q (some (jI 0)) M)) : wp kc (d + 1) 251 48 [some (jR 133)] [jI u0] M Q :=
  (x_zne c251_48 H.1 (fun h1 => (wp_wk (l' := [some (jR 133)]) ⟨rfl, trivial⟩ (H.2.1 h1))) (fun h2 => (x_ci c251_51 (x_zrt c251_52 r251 (by decide) (H.2.2 h2)))))
theorem s251_53 {kc : List va_E} {d : Nat} {M : fx_M} {Q : Option fx_V → fx_M → Prop} (H : wc kc d 249 [jR 133] M (fun v M1 => wp kc (d + 1) 251 57 [some (jR 133)] (v.toList ++ []) M1 Q)) : wp kc (d + 1) 251 53 [some (jR 133)] [] M Q :=
  (x_aldn c251_53 rfl (wp_wk (l' := [some (jR 133)]) ⟨rfl, trivial⟩ (x_cv (As := []) (st := []) c251_54 cl_133 kl249 rfl (Nat.le_of_ble_eq_true rfl) mx249 (Nat.le_refl _) H)))
theorem s251_57 {kc : List va_E} {d : Nat} {u0 : Int} {M : fx_M} {Q : Option fx_V → fx_M → Prop} (H : ((fx_in32 u0)) ∧ (u0 = 0 → wc kc d 233 [jR 133, jI 6] (fx_up M 133 33 (M 133 7)) (fun v M1 => wp kc (d + 1) 251 153 [some (jR 133)] (v.toList ++ []) M1 Q)) ∧ (u0 ≠ 0 → (((0 : Int) ≤ M 133 31 ∧ M 133 31 < 300)) ∧ (((0 : Int) ≤ M 133 31 ∧ M 133 31 < 300)) ∧ wc kc d 227 [jR 133, jI 32] (fx_up (fx_up M 143 (M 133 31) (M 133 15)) 144 (M 133 31) (M 133 16)) (fun v M1 => wp kc (d + 1) 251 92 [some (jR 133)] (v.toList ++ []) M1 Q))) : wp kc (d + 1) 251 57 [some (jR 133)] [jI u0] M Q :=
  (x_zeq c251_57 H.1 (fun h1 => (x_aldn c251_139 rfl (x_aldn c251_140 rfl (x_gfi c251_141 k_133_7 (x_pfi c251_144 k_133_33 (x_aldn c251_147 rfl (x_ci c251_148 (wp_wk (l' := [some (jR 133)]) ⟨rfl, trivial⟩ (x_cv (As := [jI 6]) (st := []) c251_150 cl_133 kl233 rfl (Nat.le_of_ble_eq_true rfl) mx233 (Nat.le_refl _) (H.2.1 h1)))))))))) (fun h2 => (x_aldn c251_60 rfl (x_gfr c251_61 k_133_34 (x_aldn c251_64 rfl (x_gfi c251_65 k_133_31 (x_aldn c251_68 rfl (x_gfi c251_69 k_133_15 (x_iast c251_72 a_143 (H.2.2 h2).1 (by decide) (x_aldn c251_73 rfl (x_gfr c251_74 k_133_35 (x_aldn c251_77 rfl (x_gfi c251_78 k_133_31 (wp_vI (fx_upA (by decide)) (x_aldn c251_81 rfl (x_gfi c251_82 k_133_16 (wp_vI (fx_upA (by decide)) (x_iast c251_85 a_144 (H.2.2 h2).2.1 (by decide) (x_aldn c251_86 rfl (x_ci c251_87 (wp_wk (l' := [some (jR 133)]) ⟨rfl, trivial⟩ (x_cv (As := [jI 32]) (st := []) c251_89 cl_133 kl227 rfl (Nat.le_of_ble_eq_true rfl) mx227 (Nat.le_refl _) (H.2.2 h2).2.2))))))))))))))))))))))
theorem s251_92 {kc : List va_E} {d : Nat} {u0 : Int} {M : fx_M} {Q : Option fx_V → fx_M → Prop} (H : ((fx_in32 u0)) ∧ (u0 ≠ 0 → (((0 : Int) ≤ M 133 31 ∧ M 133 31 < 300)) ∧ wc kc d 238 [jR 133, jI (-1)] (fx_up (fx_up M 145 (M 133 31) (M 133 7)) 133 31 ((M 133 31) + 1)) (fun v M1 => wp kc (d + 1) 251 125 [some (jR 133)] (v.toList ++ []) M1 Q)) ∧ (u0 = 0 → Q (some (jI 0)) M)) : wp kc (d + 1) 251 92 [some (jR 133)] [jI u0] M Q :=
  (x_zne c251_92 H.1 (fun h1 => (x_aldn c251_97 rfl (x_gfr c251_98 k_133_36 (x_aldn c251_101 rfl (x_gfi c251_102 k_133_31 (x_aldn c251_105 rfl (x_gfi c251_106 k_133_7 (x_iast c251_109 a_145 (H.2.1 h1).1 (by decide) (x_aldn c251_110 rfl (x_dupr c251_111 (x_gfi c251_112 k_133_31 (wp_vI (fx_upA (by decide)) (x_ci c251_115 (x_iadd c251_116 (x_pfi c251_117 k_133_31 (x_aldn c251_120 rfl (x_ci c251_121 (wp_wk (l' := [some (jR 133)]) ⟨rfl, trivial⟩ (x_cv (As := [jI (-1)]) (st := []) c251_122 cl_133 kl238 rfl (Nat.le_of_ble_eq_true rfl) mx238 (Nat.le_refl _) (H.2.1 h1).2))))))))))))))))))) (fun h2 => (x_ci c251_95 (x_zrt c251_96 r251 (by decide) (H.2.2 h2)))))
theorem s251_125 {kc : List va_E} {d : Nat} {u0 : Int} {M : fx_M} {Q : Option fx_V → fx_M → Prop} (H : ((fx_in32 u0)) ∧ (u0 = 0 → Q (some (jI 0)) M) ∧ (u0 ≠ 0 → wc kc d 227 [jR 133, jI 47] M (fun v M1 => wp kc (d + 1) 251 134 [some (jR 133)] (v.toList ++ []) M1 Q))) : wp kc (d + 1) 251 125 [some (jR 133)] [jI u0] M Q :=
  (x_zeq c251_125 H.1 (fun h1 => (x_ci c251_137 (x_zrt c251_138 r251 (by decide) (H.2.1 h1)))) (fun h2 => (x_aldn c251_128 rfl (x_ci c251_129 (wp_wk (l' := [some (jR 133)]) ⟨rfl, trivial⟩ (x_cv (As := [jI 47]) (st := []) c251_131 cl_133 kl227 rfl (Nat.le_of_ble_eq_true rfl) mx227 (Nat.le_refl _) (H.2.2 h2)))))))
theorem s251_134 {kc : List va_E} {d : Nat} {u0 : Int} {M : fx_M} {Q : Option fx_V → fx_M → Prop} (H : ((fx_in32 u0)) ∧ (u0 ≠ 0 → wp kc (d + 1) 251 53 [some (jR 133)] [] M Q) ∧ (u0 = 0 → Q (some (jI 0)) M)) : wp kc (d + 1) 251 134 [some (jR 133)] [jI u0] M Q :=
  (x_zne c251_134 H.1 (fun h1 => (wp_wk (l' := [some (jR 133)]) ⟨rfl, trivial⟩ (H.2.1 h1))) (fun h2 => (x_ci c251_137 (x_zrt c251_138 r251 (by decide) (H.2.2 h2)))))
theorem s251_153 {kc : List va_E} {d : Nat} {u0 : Int} {M : fx_M} {Q : Option fx_V → fx_M → Prop} (H : ((fx_in32 u0)) ∧ (u0 ≠ 0 → Q (some (jI 1)) (fx_up M 133 32 (M 133 8))) ∧ (u0 = 0 → Q (some (jI 0)) M)) : wp kc (d + 1) 251 153 [some (jR 133)] [jI u0] M Q :=
  (x_zne c251_153 H.1 (fun h1 => (x_aldn c251_158 rfl (x_aldn c251_159 rfl (x_gfi c251_160 k_133_8 (x_pfi c251_163 k_133_32 (x_ci c251_166 (x_zrt c251_167 r251 (by decide) (H.2.1 h1)))))))) (fun h2 => (x_ci c251_156 (x_zrt c251_157 r251 (by decide) (H.2.2 h2)))))
theorem s251 {kc : List va_E} {d : Nat} {M : fx_M} {Q : Option fx_V → fx_M → Prop} (H : wc kc d 220 [jR 133, jI 56, jI 56] M (fun v M1 => wp kc (d + 1) 251 8 [some (jR 133)] (v.toList ++ []) M1 Q)) : wc kc (d + 1) 251 [jR 133] M Q :=
  wc_of (wp_wk (l' := [some (jR 133)]) ⟨rfl, trivial⟩ (s251_0 H))

/- PuzzleHouseModel.sayCount(JI)V -/
theorem c252_0 : fx_op 252 0 = some (.aload_n 0, 1, 0) := by decide +kernel
theorem c252_1 : fx_op 252 1 = some (.lload_n 1, 2, 1) := by decide +kernel
theorem c252_2 : fx_ca 252 2 = some (253, 2, 2, 5) := by decide +kernel
theorem c252_5 : fx_op 252 5 = some (.aload_n 0, 6, 5) := by decide +kernel
theorem c252_6 : fx_op 252 6 = some (.iload_n 3, 7, 6) := by decide +kernel
theorem c252_7 : fx_ca 252 7 = some (255, 2, 2, 10) := by decide +kernel
theorem c252_10 : fx_op 252 10 = some (.return_, 11, 10) := by decide +kernel
theorem s252_0 {kc : List va_E} {d : Nat} {x1 x3 : Int} {M : fx_M} {Q : Option fx_V → fx_M → Prop} (H : wc kc d 253 [jR 133, jL x1] M (fun v M1 => wp kc (d + 1) 252 5 [some (jR 133), none, none, some (jI x3)] (v.toList ++ []) M1 Q)) : wp kc (d + 1) 252 0 [some (jR 133), some (jL x1), none, some (jI x3)] [] M Q :=
  (x_aldn c252_0 rfl (x_lldn c252_1 rfl (wp_wk (l' := [some (jR 133), none, none, some (jI x3)]) ⟨rfl, ⟨rfl, trivial⟩⟩ (x_cv (As := [jL x1]) (st := []) c252_2 cl_133 kl253 rfl (Nat.le_of_ble_eq_true rfl) mx253 (Nat.le_refl _) H))))
theorem s252_5 {kc : List va_E} {d : Nat} {v3 : Int} {M : fx_M} {Q : Option fx_V → fx_M → Prop} (H : wc kc d 255 [jR 133, jI v3] M (fun v M1 => wp kc (d + 1) 252 10 [none, none, none, none] (v.toList ++ []) M1 Q)) : wp kc (d + 1) 252 5 [some (jR 133), none, none, some (jI v3)] [] M Q :=
  (x_aldn c252_5 rfl (x_ildn c252_6 rfl (wp_wk (l' := [none, none, none, none]) trivial (x_cv (As := [jI v3]) (st := []) c252_7 cl_133 kl255 rfl (Nat.le_of_ble_eq_true rfl) mx255 (Nat.le_refl _) H))))
theorem s252_10 {kc : List va_E} {d : Nat} {M : fx_M} {Q : Option fx_V → fx_M → Prop} (H : Q none M) : wp kc (d + 1) 252 10 [none, none, none, none] [] M Q :=
  (x_vr c252_10 r252 H)
theorem s252 {kc : List va_E} {d : Nat} {x1 x3 : Int} {M : fx_M} {Q : Option fx_V → fx_M → Prop} (H : wc kc d 253 [jR 133, jL x1] M (fun v M1 => wp kc (d + 1) 252 5 [some (jR 133), none, none, some (jI x3)] (v.toList ++ []) M1 Q)) : wc kc (d + 1) 252 [jR 133, jL x1, jI x3] M Q :=
  wc_of (wp_wk (l' := [some (jR 133), some (jL x1), none, some (jI x3)]) ⟨rfl, ⟨rfl, ⟨rfl, trivial⟩⟩⟩ (s252_0 H))

/- PuzzleHouseModel.sayWord(J)V -/
theorem c253_0 : fx_ci 253 0 = some (0, 1) := by decide +kernel
theorem c253_1 : fx_op 253 1 = some (.istore_n 3, 2, 1) := by decide +kernel
theorem c253_2 : fx_op 253 2 = some (.iload_n 3, 3, 2) := by decide +kernel
theorem c253_3 : fx_op 253 3 = some (.lload_n 1, 4, 3) := by decide +kernel
theorem c253_4 : fx_ca 253 4 = some (223, 1, 0, 7) := by decide +kernel
theorem c253_7 : fx_op 253 7 = some (.if_icmp .ge 18, 10, 25) := by decide +kernel
theorem c253_10 : fx_op 253 10 = some (.aload_n 0, 11, 10) := by decide +kernel
theorem c253_11 : fx_op 253 11 = some (.lload_n 1, 12, 11) := by decide +kernel
theorem c253_12 : fx_op 253 12 = some (.iload_n 3, 13, 12) := by decide +kernel
theorem c253_25 : fx_op 253 25 = some (.return_, 26, 25) := by decide +kernel
theorem c253_13 : fx_ca 253 13 = some (224, 2, 0, 16) := by decide +kernel
theorem c253_16 : fx_ca 253 16 = some (254, 2, 2, 19) := by decide +kernel
theorem c253_19 : fx_op 253 19 = some (.iinc 3 1, 22, 19) := by decide +kernel
theorem c253_22 : fx_op 253 22 = some (.goto (-20), 25, 2) := by decide +kernel
theorem s253_0 {kc : List va_E} {d : Nat} {x1 : Int} {M : fx_M} {Q : Option fx_V → fx_M → Prop} (H : wp kc (d + 1) 253 2 [some (jR 133), some (jL x1), none, some (jI 0)] [] M Q) : wp kc (d + 1) 253 0 [some (jR 133), some (jL x1), none, none] [] M Q :=
  (x_ci c253_0 (x_istn (l' := [some (jR 133), some (jL x1), none, some (jI 0)]) c253_1 rfl (wp_wk (l' := [some (jR 133), some (jL x1), none, some (jI 0)]) ⟨rfl, ⟨rfl, ⟨rfl, trivial⟩⟩⟩ H)))
theorem s253_2 {kc : List va_E} {d : Nat} {v1 v3 : Int} {M : fx_M} {Q : Option fx_V → fx_M → Prop} (H : wc kc d 223 [jL v1] M (fun v M1 => wp kc (d + 1) 253 7 [some (jR 133), some (jL v1), none, some (jI v3)] (v.toList ++ [jI v3]) M1 Q)) : wp kc (d + 1) 253 2 [some (jR 133), some (jL v1), none, some (jI v3)] [] M Q :=
  (x_ildn c253_2 rfl (x_lldn c253_3 rfl (wp_wk (l' := [some (jR 133), some (jL v1), none, some (jI v3)]) ⟨rfl, ⟨rfl, ⟨rfl, trivial⟩⟩⟩ (x_cs (As := [jL v1]) (st := [jI v3]) c253_4 (by decide) rfl (Nat.le_of_ble_eq_true rfl) mx223 (Nat.le_refl _) H))))
theorem s253_7 {kc : List va_E} {d : Nat} {v1 v3 u0 u1 : Int} {M : fx_M} {Q : Option fx_V → fx_M → Prop} (H : ((fx_in32 u1) ∧ (fx_in32 u0)) ∧ (u0 ≤ u1 → Q none M) ∧ (u1 < u0 → wc kc d 224 [jL v1, jI v3] M (fun v M1 => wp kc (d + 1) 253 16 [some (jR 133), some (jL v1), none, some (jI v3)] (v.toList ++ [jR 133]) M1 Q))) : wp kc (d + 1) 253 7 [some (jR 133), some (jL v1), none, some (jI v3)] [jI u0, jI u1] M Q :=
  (x_cge c253_7 H.1.1 H.1.2 (fun h1 => (x_vr c253_25 r253 (H.2.1 h1))) (fun h2 => (x_aldn c253_10 rfl (x_lldn c253_11 rfl (x_ildn c253_12 rfl (wp_wk (l' := [some (jR 133), some (jL v1), none, some (jI v3)]) ⟨rfl, ⟨rfl, ⟨rfl, trivial⟩⟩⟩ (x_cs (As := [jL v1, jI v3]) (st := [jR 133]) c253_13 (by decide) rfl (Nat.le_of_ble_eq_true rfl) mx224 (Nat.le_refl _) (H.2.2 h2))))))))
theorem s253_16 {kc : List va_E} {d : Nat} {v1 v3 u0 : Int} {M : fx_M} {Q : Option fx_V → fx_M → Prop} (H : wc kc d 254 [jR 133, jI u0] M (fun v M1 => wp kc (d + 1) 253 19 [some (jR 133), some (jL v1), none, some (jI v3)] (v.toList ++ []) M1 Q)) : wp kc (d + 1) 253 16 [some (jR 133), some (jL v1), none, some (jI v3)] [jI u0, jR 133] M Q :=
  (wp_wk (l' := [some (jR 133), some (jL v1), none, some (jI v3)]) ⟨rfl, ⟨rfl, ⟨rfl, trivial⟩⟩⟩ (x_cv (As := [jI u0]) (st := []) c253_16 cl_133 kl254 rfl (Nat.le_of_ble_eq_true rfl) mx254 (Nat.le_refl _) H))
theorem s253_19 {kc : List va_E} {d : Nat} {v1 v3 : Int} {M : fx_M} {Q : Option fx_V → fx_M → Prop} (H : wp kc (d + 1) 253 2 [some (jR 133), some (jL v1), none, some (jI (v3 + 1))] [] M Q) : wp kc (d + 1) 253 19 [some (jR 133), some (jL v1), none, some (jI v3)] [] M Q :=
  (x_inc (l' := [some (jR 133), some (jL v1), none, some (jI (v3 + 1))]) c253_19 rfl rfl (x_goto c253_22 (wp_wk (l' := [some (jR 133), some (jL v1), none, some (jI (v3 + 1))]) ⟨rfl, ⟨rfl, ⟨rfl, trivial⟩⟩⟩ H)))
theorem s253 {kc : List va_E} {d : Nat} {x1 : Int} {M : fx_M} {Q : Option fx_V → fx_M → Prop} (H : wp kc (d + 1) 253 2 [some (jR 133), some (jL x1), none, some (jI 0)] [] M Q) : wc kc (d + 1) 253 [jR 133, jL x1] M Q :=
  wc_of (wp_wk (l' := [some (jR 133), some (jL x1), none, none]) ⟨rfl, ⟨rfl, trivial⟩⟩ (s253_0 H))

/- PuzzleHouseModel.sayByte(I)V -/
theorem c254_0 : fx_op 254 0 = some (.aload_n 0, 1, 0) := by decide +kernel
theorem c254_1 : fx_gf 254 1 = some (12, 5, 4) := by decide +kernel
theorem c254_4 : fx_ci 254 4 = some (6000, 7) := by decide +kernel
theorem c254_7 : fx_op 254 7 = some (.if_icmp .ne 4, 10, 11) := by decide +kernel
theorem c254_11 : fx_op 254 11 = some (.aload_n 0, 12, 11) := by decide +kernel
theorem c254_12 : fx_gf 254 12 = some (12, 6, 15) := by decide +kernel
theorem c254_15 : fx_op 254 15 = some (.aload_n 0, 16, 15) := by decide +kernel
theorem c254_16 : fx_gf 254 16 = some (12, 5, 19) := by decide +kernel
theorem c254_19 : fx_op 254 19 = some (.iload_n 1, 20, 19) := by decide +kernel
theorem c254_21 : fx_op 254 21 = some (.aload_n 0, 22, 21) := by decide +kernel
theorem c254_22 : fx_op 254 22 = some (.dup, 23, 22) := by decide +kernel
theorem c254_23 : fx_gf 254 23 = some (12, 5, 26) := by decide +kernel
theorem c254_26 : fx_ci 254 26 = some (1, 27) := by decide +kernel
theorem c254_27 : fx_op 254 27 = some (.iadd, 28, 27) := by decide +kernel
theorem c254_28 : fx_pf 254 28 = some (12, 5, 0, 31) := by decide +kernel
theorem c254_20 : fx_op 254 20 = some (.iastore, 21, 20) := by decide +kernel
theorem c254_31 : fx_op 254 31 = some (.return_, 32, 31) := by decide +kernel
theorem c254_10 : fx_op 254 10 = some (.return_, 11, 10) := by decide +kernel
theorem s254_0 {kc : List va_E} {d : Nat} {x1 : Int} {M : fx_M} {Q : Option fx_V → fx_M → Prop} (H : ((fx_in32 (M 133 5))) ∧ (M 133 5 ≠ 6000 → (((0 : Int) ≤ M 133 5 ∧ M 133 5 < 6000)) ∧ Q none (fx_up (fx_up M 136 (M 133 5) x1) 133 5 ((M 133 5) + 1))) ∧ (M 133 5 = 6000 → Q none M)) : wp kc (d + 1) 254 0 [some (jR 133), some (jI x1)] [] M Q :=
  (x_aldn c254_0 rfl (x_gfi c254_1 k_133_5 (x_ci c254_4 (x_cne c254_7 H.1 (by decide) (fun h1 => (x_aldn c254_11 rfl (x_gfr c254_12 k_133_6 (x_aldn c254_15 rfl (x_gfi c254_16 k_133_5 (x_ildn c254_19 rfl (x_iast c254_20 a_136 (H.2.1 h1).1 (by decide) (x_aldn c254_21 rfl (x_dupr c254_22 (x_gfi c254_23 k_133_5 (wp_vI (fx_upA (by decide)) (x_ci c254_26 (x_iadd c254_27 (x_pfi c254_28 k_133_5 (x_vr c254_31 r254 (H.2.1 h1).2))))))))))))))) (fun h2 => (x_vr c254_10 r254 (H.2.2 h2)))))))
theorem s254 {kc : List va_E} {d : Nat} {x1 : Int} {M : fx_M} {Q : Option fx_V → fx_M → Prop} (H : ((fx_in32 (M 133 5))) ∧ (M 133 5 ≠ 6000 → (((0 : Int) ≤ M 133 5 ∧ M 133 5 < 6000)) ∧ Q none (fx_up (fx_up M 136 (M 133 5) x1) 133 5 ((M 133 5) + 1))) ∧ (M 133 5 = 6000 → Q none M)) : wc kc (d + 1) 254 [jR 133, jI x1] M Q :=
  wc_of (wp_wk (l' := [some (jR 133), some (jI x1)]) ⟨rfl, ⟨rfl, trivial⟩⟩ (s254_0 H))

/- PuzzleHouseModel.sayMore(I)V -/
theorem c255_0 : fx_op 255 0 = some (.aload_n 0, 1, 0) := by decide +kernel
theorem c255_1 : fx_ci 255 1 = some (32, 3) := by decide +kernel
theorem c255_3 : fx_ca 255 3 = some (254, 2, 2, 6) := by decide +kernel
theorem c255_6 : fx_op 255 6 = some (.aload_n 0, 7, 6) := by decide +kernel
theorem c255_7 : fx_op 255 7 = some (.iload_n 1, 8, 7) := by decide +kernel
theorem c255_8 : fx_ca 255 8 = some (256, 2, 2, 11) := by decide +kernel
theorem c255_11 : fx_op 255 11 = some (.return_, 12, 11) := by decide +kernel
theorem s255_0 {kc : List va_E} {d : Nat} {x1 : Int} {M : fx_M} {Q : Option fx_V → fx_M → Prop} (H : wc kc d 254 [jR 133, jI 32] M (fun v M1 => wp kc (d + 1) 255 6 [some (jR 133), some (jI x1)] (v.toList ++ []) M1 Q)) : wp kc (d + 1) 255 0 [some (jR 133), some (jI x1)] [] M Q :=
  (x_aldn c255_0 rfl (x_ci c255_1 (wp_wk (l' := [some (jR 133), some (jI x1)]) ⟨rfl, ⟨rfl, trivial⟩⟩ (x_cv (As := [jI 32]) (st := []) c255_3 cl_133 kl254 rfl (Nat.le_of_ble_eq_true rfl) mx254 (Nat.le_refl _) H))))
theorem s255_6 {kc : List va_E} {d : Nat} {v1 : Int} {M : fx_M} {Q : Option fx_V → fx_M → Prop} (H : wc kc d 256 [jR 133, jI v1] M (fun v M1 => wp kc (d + 1) 255 11 [none, none] (v.toList ++ []) M1 Q)) : wp kc (d + 1) 255 6 [some (jR 133), some (jI v1)] [] M Q :=
  (x_aldn c255_6 rfl (x_ildn c255_7 rfl (wp_wk (l' := [none, none]) trivial (x_cv (As := [jI v1]) (st := []) c255_8 cl_133 kl256 rfl (Nat.le_of_ble_eq_true rfl) mx256 (Nat.le_refl _) H))))
theorem s255_11 {kc : List va_E} {d : Nat} {M : fx_M} {Q : Option fx_V → fx_M → Prop} (H : Q none M) : wp kc (d + 1) 255 11 [none, none] [] M Q :=
  (x_vr c255_11 r255 H)
theorem s255 {kc : List va_E} {d : Nat} {x1 : Int} {M : fx_M} {Q : Option fx_V → fx_M → Prop} (H : wc kc d 254 [jR 133, jI 32] M (fun v M1 => wp kc (d + 1) 255 6 [some (jR 133), some (jI x1)] (v.toList ++ []) M1 Q)) : wc kc (d + 1) 255 [jR 133, jI x1] M Q :=
  wc_of (wp_wk (l' := [some (jR 133), some (jI x1)]) ⟨rfl, ⟨rfl, trivial⟩⟩ (s255_0 H))

/- PuzzleHouseModel.sayNumber(I)V -/
theorem c256_0 : fx_ci 256 0 = some (1, 1) := by decide +kernel
theorem c256_1 : fx_op 256 1 = some (.istore_n 2, 2, 1) := by decide +kernel
theorem c256_2 : fx_op 256 2 = some (.iload_n 1, 3, 2) := by decide +kernel
theorem c256_3 : fx_op 256 3 = some (.iload_n 2, 4, 3) := by decide +kernel
theorem c256_5 : fx_ci 256 5 = some (9, 7) := by decide +kernel
theorem c256_7 : fx_op 256 7 = some (.if_icmp .le 11, 10, 18) := by decide +kernel
theorem c256_10 : fx_op 256 10 = some (.iload_n 2, 11, 10) := by decide +kernel
theorem c256_11 : fx_ci 256 11 = some (10, 13) := by decide +kernel
theorem c256_13 : fx_op 256 13 = some (.imul, 14, 13) := by decide +kernel
theorem c256_14 : fx_op 256 14 = some (.istore_n 2, 15, 14) := by decide +kernel
theorem c256_4 : fx_op 256 4 = some (.idiv, 5, 4) := by decide +kernel
theorem c256_15 : fx_op 256 15 = some (.goto (-13), 18, 2) := by decide +kernel
theorem c256_18 : fx_op 256 18 = some (.iload_n 2, 19, 18) := by decide +kernel
theorem c256_19 : fx_op 256 19 = some (.ifCond .le 24, 22, 43) := by decide +kernel
theorem c256_22 : fx_op 256 22 = some (.aload_n 0, 23, 22) := by decide +kernel
theorem c256_23 : fx_ci 256 23 = some (48, 25) := by decide +kernel
theorem c256_25 : fx_op 256 25 = some (.iload_n 1, 26, 25) := by decide +kernel
theorem c256_26 : fx_op 256 26 = some (.iload_n 2, 27, 26) := by decide +kernel
theorem c256_27 : fx_op 256 27 = some (.idiv, 28, 27) := by decide +kernel
theorem c256_28 : fx_ci 256 28 = some (10, 30) := by decide +kernel
theorem c256_30 : fx_op 256 30 = some (.irem, 31, 30) := by decide +kernel
theorem c256_31 : fx_op 256 31 = some (.iadd, 32, 31) := by decide +kernel
theorem c256_43 : fx_op 256 43 = some (.return_, 44, 43) := by decide +kernel
theorem c256_32 : fx_ca 256 32 = some (254, 2, 2, 35) := by decide +kernel
theorem c256_35 : fx_op 256 35 = some (.iload_n 2, 36, 35) := by decide +kernel
theorem c256_36 : fx_ci 256 36 = some (10, 38) := by decide +kernel
theorem c256_39 : fx_op 256 39 = some (.istore_n 2, 40, 39) := by decide +kernel
theorem c256_38 : fx_op 256 38 = some (.idiv, 39, 38) := by decide +kernel
theorem c256_40 : fx_op 256 40 = some (.goto (-22), 43, 18) := by decide +kernel
theorem s256_0 {kc : List va_E} {d : Nat} {x1 : Int} {M : fx_M} {Q : Option fx_V → fx_M → Prop} (H : wp kc (d + 1) 256 2 [some (jR 133), some (jI x1), some (jI 1)] [] M Q) : wp kc (d + 1) 256 0 [some (jR 133), some (jI x1), none] [] M Q :=
  (x_ci c256_0 (x_istn (l' := [some (jR 133), some (jI x1), some (jI 1)]) c256_1 rfl (wp_wk (l' := [some (jR 133), some (jI x1), some (jI 1)]) ⟨rfl, ⟨rfl, ⟨rfl, trivial⟩⟩⟩ H)))
theorem s256_2 {kc : List va_E} {d : Nat} {v1 v2 : Int} {M : fx_M} {Q : Option fx_V → fx_M → Prop} (H : (((0 : Int) ≤ v1 ∧ v1 ≤ 2147483647) ∧ ((0 : Int) < v2 ∧ v2 ≤ 2147483647)) ∧ ((fx_in32 (v1 / v2))) ∧ (v1 / v2 ≤ 9 → wp kc (d + 1) 256 18 [some (jR 133), some (jI v1), some (jI v2)] [] M Q) ∧ (9 < v1 / v2 → wp kc (d + 1) 256 2 [some (jR 133), some (jI v1), some (jI (v2 * 10))] [] M Q)) : wp kc (d + 1) 256 2 [some (jR 133), some (jI v1), some (jI v2)] [] M Q :=
  (x_ildn c256_2 rfl (x_ildn c256_3 rfl (x_idiv c256_4 H.1.1 H.1.2 (x_ci c256_5 (x_cle c256_7 H.2.1 (by decide) (fun h1 => (wp_wk (l' := [some (jR 133), some (jI v1), some (jI v2)]) ⟨rfl, ⟨rfl, ⟨rfl, trivial⟩⟩⟩ (H.2.2.1 h1))) (fun h2 => (x_ildn c256_10 rfl (x_ci c256_11 (x_imul c256_13 (x_istn (l' := [some (jR 133), some (jI v1), some (jI (v2 * 10))]) c256_14 rfl (x_goto c256_15 (wp_wk (l' := [some (jR 133), some (jI v1), some (jI (v2 * 10))]) ⟨rfl, ⟨rfl, ⟨rfl, trivial⟩⟩⟩ (H.2.2.2 h2)))))))))))))
theorem s256_18 {kc : List va_E} {d : Nat} {v1 v2 : Int} {M : fx_M} {Q : Option fx_V → fx_M → Prop} (H : ((fx_in32 v2)) ∧ (v2 ≤ 0 → Q none M) ∧ (0 < v2 → (((0 : Int) ≤ v1 ∧ v1 ≤ 2147483647) ∧ ((0 : Int) < v2 ∧ v2 ≤ 2147483647)) ∧ (((0 : Int) ≤ v1 / v2 ∧ v1 / v2 ≤ 2147483647)) ∧ wc kc d 254 [jR 133, jI (48 + ((v1 / v2) % 10))] M (fun v M1 => wp kc (d + 1) 256 35 [some (jR 133), some (jI v1), some (jI v2)] (v.toList ++ []) M1 Q))) : wp kc (d + 1) 256 18 [some (jR 133), some (jI v1), some (jI v2)] [] M Q :=
  (x_ildn c256_18 rfl (x_zle c256_19 H.1 (fun h1 => (x_vr c256_43 r256 (H.2.1 h1))) (fun h2 => (x_aldn c256_22 rfl (x_ci c256_23 (x_ildn c256_25 rfl (x_ildn c256_26 rfl (x_idiv c256_27 (H.2.2 h2).1.1 (H.2.2 h2).1.2 (x_ci c256_28 (x_irem c256_30 (H.2.2 h2).2.1 (by decide) (x_iadd c256_31 (wp_wk (l' := [some (jR 133), some (jI v1), some (jI v2)]) ⟨rfl, ⟨rfl, ⟨rfl, trivial⟩⟩⟩ (x_cv (As := [jI (48 + ((v1 / v2) % 10))]) (st := []) c256_32 cl_133 kl254 rfl (Nat.le_of_ble_eq_true rfl) mx254 (Nat.le_refl _) (H.2.2 h2).2.2)))))))))))))
theorem s256_35 {kc : List va_E} {d : Nat} {v1 v2 : Int} {M : fx_M} {Q : Option fx_V → fx_M → Prop} (H : (((0 : Int) ≤ v2 ∧ v2 ≤ 2147483647)) ∧ wp kc (d + 1) 256 18 [some (jR 133), some (jI v1), some (jI (v2 / 10))] [] M Q) : wp kc (d + 1) 256 35 [some (jR 133), some (jI v1), some (jI v2)] [] M Q :=
  (x_ildn c256_35 rfl (x_ci c256_36 (x_idiv c256_38 H.1 (by decide) (x_istn (l' := [some (jR 133), some (jI v1), some (jI (v2 / 10))]) c256_39 rfl (x_goto c256_40 (wp_wk (l' := [some (jR 133), some (jI v1), some (jI (v2 / 10))]) ⟨rfl, ⟨rfl, ⟨rfl, trivial⟩⟩⟩ H.2))))))
theorem s256 {kc : List va_E} {d : Nat} {x1 : Int} {M : fx_M} {Q : Option fx_V → fx_M → Prop} (H : wp kc (d + 1) 256 2 [some (jR 133), some (jI x1), some (jI 1)] [] M Q) : wc kc (d + 1) 256 [jR 133, jI x1] M Q :=
  wc_of (wp_wk (l' := [some (jR 133), some (jI x1), none]) ⟨rfl, ⟨rfl, trivial⟩⟩ (s256_0 H))

/- PuzzleHouseModel.sayFor(I)V -/
theorem c257_0 : fx_op 257 0 = some (.iload_n 1, 1, 0) := by decide +kernel
theorem c257_196 : fx_op 257 196 = some (.aload_n 0, 197, 196) := by decide +kernel
theorem c257_197 : fx_op 257 197 = some (.iload_n 1, 198, 197) := by decide +kernel
theorem c257_204 : fx_op 257 204 = some (.aload_n 0, 205, 204) := by decide +kernel
theorem c257_301 : fx_op 257 301 = some (.aload_n 0, 302, 301) := by decide +kernel
theorem c257_302 : fx_op 257 302 = some (.iload_n 1, 303, 302) := by decide +kernel
theorem c257_211 : fx_op 257 211 = some (.aload_n 0, 212, 211) := by decide +kernel
theorem c257_212 : fx_ci 257 212 = some (5, 213) := by decide +kernel
theorem c257_213 : fx_pf 257 213 = some (12, 7, 0, 216) := by decide +kernel
theorem c257_216 : fx_op 257 216 = some (.aload_n 0, 217, 216) := by decide +kernel
theorem c257_231 : fx_op 257 231 = some (.aload_n 0, 232, 231) := by decide +kernel
theorem c257_232 : fx_op 257 232 = some (.iload_n 1, 233, 232) := by decide +kernel
theorem c257_223 : fx_op 257 223 = some (.aload_n 0, 224, 223) := by decide +kernel
theorem c257_224 : fx_op 257 224 = some (.iload_n 1, 225, 224) := by decide +kernel
theorem c257_239 : fx_op 257 239 = some (.aload_n 0, 240, 239) := by decide +kernel
theorem c257_246 : fx_op 257 246 = some (.aload_n 0, 247, 246) := by decide +kernel
theorem c257_293 : fx_op 257 293 = some (.aload_n 0, 294, 293) := by decide +kernel
theorem c257_294 : fx_op 257 294 = some (.iload_n 1, 295, 294) := by decide +kernel
theorem c257_253 : fx_op 257 253 = some (.aload_n 0, 254, 253) := by decide +kernel
theorem c257_254 : fx_op 257 254 = some (.aload_n 0, 255, 254) := by decide +kernel
theorem c257_255 : fx_gf 257 255 = some (12, 9, 258) := by decide +kernel
theorem c257_258 : fx_op 257 258 = some (.aload_n 0, 259, 258) := by decide +kernel
theorem c257_259 : fx_gf 257 259 = some (12, 20, 262) := by decide +kernel
theorem c257_268 : fx_op 257 268 = some (.aload_n 0, 269, 268) := by decide +kernel
theorem c257_275 : fx_op 257 275 = some (.aload_n 0, 276, 275) := by decide +kernel
theorem c257_276 : fx_op 257 276 = some (.aload_n 0, 277, 276) := by decide +kernel
theorem c257_277 : fx_gf 257 277 = some (12, 8, 280) := by decide +kernel
theorem c257_286 : fx_op 257 286 = some (.aload_n 0, 287, 286) := by decide +kernel
theorem c257_198 : fx_ca 257 198 = some (258, 2, 2, 201) := by decide +kernel
theorem c257_205 : fx_ca 257 205 = some (262, 1, 2, 208) := by decide +kernel
theorem c257_303 : fx_ca 257 303 = some (379, 2, 2, 306) := by decide +kernel
theorem c257_217 : fx_ca 257 217 = some (263, 1, 2, 220) := by decide +kernel
theorem c257_233 : fx_ca 257 233 = some (292, 2, 2, 236) := by decide +kernel
theorem c257_225 : fx_ca 257 225 = some (266, 2, 2, 228) := by decide +kernel
theorem c257_240 : fx_ca 257 240 = some (332, 1, 2, 243) := by decide +kernel
theorem c257_247 : fx_ca 257 247 = some (348, 1, 2, 250) := by decide +kernel
theorem c257_295 : fx_ca 257 295 = some (364, 2, 2, 298) := by decide +kernel
theorem c257_262 : fx_ca 257 262 = some (349, 3, 2, 265) := by decide +kernel
theorem c257_269 : fx_ca 257 269 = some (354, 1, 2, 272) := by decide +kernel
theorem c257_280 : fx_ca 257 280 = some (358, 2, 2, 283) := by decide +kernel
theorem c257_287 : fx_ca 257 287 = some (360, 1, 2, 290) := by decide +kernel
theorem c257_1 : fx_ts 257 1 = some (0, [196, 196, 196, 196, 204, 301, 211, 301, 301, 301, 301, 301, 301, 231, 231, 231, 301, 301, 223, 223, 301, 223, 239, 301, 301, 231, 231, 231, 231, 231, 231, 231, 231, 246, 293, 253, 268, 293, 293, 293, 293, 275, 286, 293, 293], 301) := by decide +kernel
theorem c257_201 : fx_op 257 201 = some (.goto 105, 204, 306) := by decide +kernel
theorem c257_306 : fx_op 257 306 = some (.return_, 307, 306) := by decide +kernel
theorem c257_208 : fx_op 257 208 = some (.goto 98, 211, 306) := by decide +kernel
theorem c257_220 : fx_op 257 220 = some (.goto 86, 223, 306) := by decide +kernel
theorem c257_236 : fx_op 257 236 = some (.goto 70, 239, 306) := by decide +kernel
theorem c257_228 : fx_op 257 228 = some (.goto 78, 231, 306) := by decide +kernel
theorem c257_243 : fx_op 257 243 = some (.goto 63, 246, 306) := by decide +kernel
theorem c257_250 : fx_op 257 250 = some (.goto 56, 253, 306) := by decide +kernel
theorem c257_298 : fx_op 257 298 = some (.goto 8, 301, 306) := by decide +kernel
theorem c257_265 : fx_op 257 265 = some (.goto 41, 268, 306) := by decide +kernel
theorem c257_272 : fx_op 257 272 = some (.goto 34, 275, 306) := by decide +kernel
theorem c257_283 : fx_op 257 283 = some (.goto 23, 286, 306) := by decide +kernel
theorem c257_290 : fx_op 257 290 = some (.goto 16, 293, 306) := by decide +kernel
theorem s257_0 {kc : List va_E} {d : Nat} {x1 : Int} {M : fx_M} {Q : Option fx_V → fx_M → Prop} (H : fx_in32 x1 ∧ (x1 = 0 → wc kc d 258 [jR 133, jI x1] M (fun v M1 => wp kc (d + 1) 257 201 [none, none] (v.toList ++ []) M1 Q)) ∧ (x1 = 1 → wc kc d 258 [jR 133, jI x1] M (fun v M1 => wp kc (d + 1) 257 201 [none, none] (v.toList ++ []) M1 Q)) ∧ (x1 = 2 → wc kc d 258 [jR 133, jI x1] M (fun v M1 => wp kc (d + 1) 257 201 [none, none] (v.toList ++ []) M1 Q)) ∧ (x1 = 3 → wc kc d 258 [jR 133, jI x1] M (fun v M1 => wp kc (d + 1) 257 201 [none, none] (v.toList ++ []) M1 Q)) ∧ (x1 = 4 → wc kc d 262 [jR 133] M (fun v M1 => wp kc (d + 1) 257 208 [none, none] (v.toList ++ []) M1 Q)) ∧ (x1 = 5 → wc kc d 379 [jR 133, jI x1] M (fun v M1 => wp kc (d + 1) 257 306 [none, none] (v.toList ++ []) M1 Q)) ∧ (x1 = 6 → wc kc d 263 [jR 133] (fx_up M 133 7 5) (fun v M1 => wp kc (d + 1) 257 220 [none, none] (v.toList ++ []) M1 Q)) ∧ (x1 = 7 → wc kc d 379 [jR 133, jI x1] M (fun v M1 => wp kc (d + 1) 257 306 [none, none] (v.toList ++ []) M1 Q)) ∧ (x1 = 8 → wc kc d 379 [jR 133, jI x1] M (fun v M1 => wp kc (d + 1) 257 306 [none, none] (v.toList ++ []) M1 Q)) ∧ (x1 = 9 → wc kc d 379 [jR 133, jI x1] M (fun v M1 => wp kc (d + 1) 257 306 [none, none] (v.toList ++ []) M1 Q)) ∧ (x1 = 10 → wc kc d 379 [jR 133, jI x1] M (fun v M1 => wp kc (d + 1) 257 306 [none, none] (v.toList ++ []) M1 Q)) ∧ (x1 = 11 → wc kc d 379 [jR 133, jI x1] M (fun v M1 => wp kc (d + 1) 257 306 [none, none] (v.toList ++ []) M1 Q)) ∧ (x1 = 12 → wc kc d 379 [jR 133, jI x1] M (fun v M1 => wp kc (d + 1) 257 306 [none, none] (v.toList ++ []) M1 Q)) ∧ (x1 = 13 → wc kc d 292 [jR 133, jI x1] M (fun v M1 => wp kc (d + 1) 257 236 [none, none] (v.toList ++ []) M1 Q)) ∧ (x1 = 14 → wc kc d 292 [jR 133, jI x1] M (fun v M1 => wp kc (d + 1) 257 236 [none, none] (v.toList ++ []) M1 Q)) ∧ (x1 = 15 → wc kc d 292 [jR 133, jI x1] M (fun v M1 => wp kc (d + 1) 257 236 [none, none] (v.toList ++ []) M1 Q)) ∧ (x1 = 16 → wc kc d 379 [jR 133, jI x1] M (fun v M1 => wp kc (d + 1) 257 306 [none, none] (v.toList ++ []) M1 Q)) ∧ (x1 = 17 → wc kc d 379 [jR 133, jI x1] M (fun v M1 => wp kc (d + 1) 257 306 [none, none] (v.toList ++ []) M1 Q)) ∧ (x1 = 18 → wc kc d 266 [jR 133, jI x1] M (fun v M1 => wp kc (d + 1) 257 228 [none, none] (v.toList ++ []) M1 Q)) ∧ (x1 = 19 → wc kc d 266 [jR 133, jI x1] M (fun v M1 => wp kc (d + 1) 257 228 [none, none] (v.toList ++ []) M1 Q)) ∧ (x1 = 20 → wc kc d 379 [jR 133, jI x1] M (fun v M1 => wp kc (d + 1) 257 306 [none, none] (v.toList ++ []) M1 Q)) ∧ (x1 = 21 → wc kc d 266 [jR 133, jI x1] M (fun v M1 => wp kc (d + 1) 257 228 [none, none] (v.toList ++ []) M1 Q)) ∧ (x1 = 22 → wc kc d 332 [jR 133] M (fun v M1 => wp kc (d + 1) 257 243 [none, none] (v.toList ++ []) M1 Q)) ∧ (x1 = 23 → wc kc d 379 [jR 133, jI x1] M (fun v M1 => wp kc (d + 1) 257 306 [none, none] (v.toList ++ []) M1 Q)) ∧ (x1 = 24 → wc kc d 379 [jR 133, jI x1] M (fun v M1 => wp kc (d + 1) 257 306 [none, none] (v.toList ++ []) M1 Q)) ∧ (x1 = 25 → wc kc d 292 [jR 133, jI x1] M (fun v M1 => wp kc (d + 1) 257 236 [none, none] (v.toList ++ []) M1 Q)) ∧ (x1 = 26 → wc kc d 292 [jR 133, jI x1] M (fun v M1 => wp kc (d + 1) 257 236 [none, none] (v.toList ++ []) M1 Q)) ∧ (x1 = 27 → wc kc d 292 [jR 133, jI x1] M (fun v M1 => wp kc (d + 1) 257 236 [none, none] (v.toList ++ []) M1 Q)) ∧ (x1 = 28 → wc kc d 292 [jR 133, jI x1] M (fun v M1 => wp kc (d + 1) 257 236 [none, none] (v.toList ++ []) M1 Q)) ∧ (x1 = 29 → wc kc d 292 [jR 133, jI x1] M (fun v M1 => wp kc (d + 1) 257 236 [none, none] (v.toList ++ []) M1 Q)) ∧ (x1 = 30 → wc kc d 292 [jR 133, jI x1] M (fun v M1 => wp kc (d + 1) 257 236 [none, none] (v.toList ++ []) M1 Q)) ∧ (x1 = 31 → wc kc d 292 [jR 133, jI x1] M (fun v M1 => wp kc (d + 1) 257 236 [none, none] (v.toList ++ []) M1 Q)) ∧ (x1 = 32 → wc kc d 292 [jR 133, jI x1] M (fun v M1 => wp kc (d + 1) 257 236 [none, none] (v.toList ++ []) M1 Q)) ∧ (x1 = 33 → wc kc d 348 [jR 133] M (fun v M1 => wp kc (d + 1) 257 250 [none, none] (v.toList ++ []) M1 Q)) ∧ (x1 = 34 → wc kc d 364 [jR 133, jI x1] M (fun v M1 => wp kc (d + 1) 257 298 [none, none] (v.toList ++ []) M1 Q)) ∧ (x1 = 35 → wc kc d 349 [jR 133, jI (M 133 9), jI (M 133 20)] M (fun v M1 => wp kc (d + 1) 257 265 [none, none] (v.toList ++ []) M1 Q)) ∧ (x1 = 36 → wc kc d 354 [jR 133] M (fun v M1 => wp kc (d + 1) 257 272 [none, none] (v.toList ++ []) M1 Q)) ∧ (x1 = 37 → wc kc d 364 [jR 133, jI x1] M (fun v M1 => wp kc (d + 1) 257 298 [none, none] (v.toList ++ []) M1 Q)) ∧ (x1 = 38 → wc kc d 364 [jR 133, jI x1] M (fun v M1 => wp kc (d + 1) 257 298 [none, none] (v.toList ++ []) M1 Q)) ∧ (x1 = 39 → wc kc d 364 [jR 133, jI x1] M (fun v M1 => wp kc (d + 1) 257 298 [none, none] (v.toList ++ []) M1 Q)) ∧ (x1 = 40 → wc kc d 364 [jR 133, jI x1] M (fun v M1 => wp kc (d + 1) 257 298 [none, none] (v.toList ++ []) M1 Q)) ∧ (x1 = 41 → wc kc d 358 [jR 133, jI (M 133 8)] M (fun v M1 => wp kc (d + 1) 257 283 [none, none] (v.toList ++ []) M1 Q)) ∧ (x1 = 42 → wc kc d 360 [jR 133] M (fun v M1 => wp kc (d + 1) 257 290 [none, none] (v.toList ++ []) M1 Q)) ∧ (x1 = 43 → wc kc d 364 [jR 133, jI x1] M (fun v M1 => wp kc (d + 1) 257 298 [none, none] (v.toList ++ []) M1 Q)) ∧ (x1 = 44 → wc kc d 364 [jR 133, jI x1] M (fun v M1 => wp kc (d + 1) 257 298 [none, none] (v.toList ++ []) M1 Q)) ∧ ((x1 < 0 ∨ 45 ≤ x1) → wc kc d 379 [jR 133, jI x1] M (fun v M1 => wp kc (d + 1) 257 306 [none, none] (v.toList ++ []) M1 Q))) : wp kc (d + 1) 257 0 [some (jR 133), some (jI x1)] [] M Q :=
  (x_ildn c257_0 rfl (x_sw c257_1 H.1 ⟨fun h1 => (x_aldn c257_196 rfl (x_ildn c257_197 rfl (wp_wk (l' := [none, none]) trivial (x_cv (As := [jI x1]) (st := []) c257_198 cl_133 kl258 rfl (Nat.le_of_ble_eq_true rfl) mx258 (Nat.le_refl _) (H.2.1 h1))))), ⟨fun h2 => (x_aldn c257_196 rfl (x_ildn c257_197 rfl (wp_wk (l' := [none, none]) trivial (x_cv (As := [jI x1]) (st := []) c257_198 cl_133 kl258 rfl (Nat.le_of_ble_eq_true rfl) mx258 (Nat.le_refl _) (H.2.2.1 h2))))), ⟨fun h3 => (x_aldn c257_196 rfl (x_ildn c257_197 rfl (wp_wk (l' := [none, none]) trivial (x_cv (As := [jI x1]) (st := []) c257_198 cl_133 kl258 rfl (Nat.le_of_ble_eq_true rfl) mx258 (Nat.le_refl _) (H.2.2.2.1 h3))))), ⟨fun h4 => (x_aldn c257_196 rfl (x_ildn c257_197 rfl (wp_wk (l' := [none, none]) trivial (x_cv (As := [jI x1]) (st := []) c257_198 cl_133 kl258 rfl (Nat.le_of_ble_eq_true rfl) mx258 (Nat.le_refl _) (H.2.2.2.2.1 h4))))), ⟨fun h5 => (x_aldn c257_204 rfl (wp_wk (l' := [none, none]) trivial (x_cv (As := []) (st := []) c257_205 cl_133 kl262 rfl (Nat.le_of_ble_eq_true rfl) mx262 (Nat.le_refl _) (H.2.2.2.2.2.1 h5)))), ⟨fun h6 => (x_aldn c257_301 rfl (x_ildn c257_302 rfl (wp_wk (l' := [none, none]) trivial (x_cv (As := [jI x1]) (st := []) c257_303 cl_133 kl379 rfl (Nat.le_of_ble_eq_true rfl) mx379 (Nat.le_refl _) (H.2.2.2.2.2.2.1 h6))))), ⟨fun h7 => (x_aldn c257_211 rfl (x_ci c257_212 (x_pfi c257_213 k_133_7 (x_aldn c257_216 rfl (wp_wk (l' := [none, none]) trivial (x_cv (As := []) (st := []) c257_217 cl_133 kl263 rfl (Nat.le_of_ble_eq_true rfl) mx263 (Nat.le_refl _) (H.2.2.2.2.2.2.2.1 h7))))))), ⟨fun h8 => (x_aldn c257_301 rfl (x_ildn c257_302 rfl (wp_wk (l' := [none, none]) trivial (x_cv (As := [jI x1]) (st := []) c257_303 cl_133 kl379 rfl (Nat.le_of_ble_eq_true rfl) mx379 (Nat.le_refl _) (H.2.2.2.2.2.2.2.2.1 h8))))), ⟨fun h9 => (x_aldn c257_301 rfl (x_ildn c257_302 rfl (wp_wk (l' := [none, none]) trivial (x_cv (As := [jI x1]) (st := []) c257_303 cl_133 kl379 rfl (Nat.le_of_ble_eq_true rfl) mx379 (Nat.le_refl _) (H.2.2.2.2.2.2.2.2.2.1 h9))))), ⟨fun h10 => (x_aldn c257_301 rfl (x_ildn c257_302 rfl (wp_wk (l' := [none, none]) trivial (x_cv (As := [jI x1]) (st := []) c257_303 cl_133 kl379 rfl (Nat.le_of_ble_eq_true rfl) mx379 (Nat.le_refl _) (H.2.2.2.2.2.2.2.2.2.2.1 h10))))), ⟨fun h11 => (x_aldn c257_301 rfl (x_ildn c257_302 rfl (wp_wk (l' := [none, none]) trivial (x_cv (As := [jI x1]) (st := []) c257_303 cl_133 kl379 rfl (Nat.le_of_ble_eq_true rfl) mx379 (Nat.le_refl _) (H.2.2.2.2.2.2.2.2.2.2.2.1 h11))))), ⟨fun h12 => (x_aldn c257_301 rfl (x_ildn c257_302 rfl (wp_wk (l' := [none, none]) trivial (x_cv (As := [jI x1]) (st := []) c257_303 cl_133 kl379 rfl (Nat.le_of_ble_eq_true rfl) mx379 (Nat.le_refl _) (H.2.2.2.2.2.2.2.2.2.2.2.2.1 h12))))), ⟨fun h13 => (x_aldn c257_301 rfl (x_ildn c257_302 rfl (wp_wk (l' := [none, none]) trivial (x_cv (As := [jI x1]) (st := []) c257_303 cl_133 kl379 rfl (Nat.le_of_ble_eq_true rfl) mx379 (Nat.le_refl _) (H.2.2.2.2.2.2.2.2.2.2.2.2.2.1 h13))))), ⟨fun h14 => (x_aldn c257_231 rfl (x_ildn c257_232 rfl (wp_wk (l' := [none, none]) trivial (x_cv (As := [jI x1]) (st := []) c257_233 cl_133 kl292 rfl (Nat.le_of_ble_eq_true rfl) mx292 (Nat.le_refl _) (H.2.2.2.2.2.2.2.2.2.2.2.2.2.2.1 h14))))), ⟨fun h15 => (x_aldn c257_231 rfl (x_ildn c257_232 rfl (wp_wk (l' := [none, none]) trivial (x_cv (As := [jI x1]) (st := []) c257_233 cl_133 kl292 rfl (Nat.le_of_ble_eq_true rfl) mx292 (Nat.le_refl _) (H.2.2.2.2.2.2.2.2.2.2.2.2.2.2.2.1 h15))))), ⟨fun h16 => (x_aldn c257_231 rfl (x_ildn c257_232 rfl (wp_wk (l' := [none, none]) trivial (x_cv (As := [jI x1]) (st := []) c257_233 cl_133 kl292 rfl (Nat.le_of_ble_eq_true rfl) mx292 (Nat.le_refl _) (H.2.2.2.2.2.2.2.2.2.2.2.2.2.2.2.2.1 h16))))), ⟨fun h17 => (x_aldn c257_301 rfl (x_ildn c257_302 rfl (wp_wk (l' := [none, none]) trivial (x_cv (As := [jI x1]) (st := []) c257_303 cl_133 kl379 rfl (Nat.le_of_ble_eq_true rfl) mx379 (Nat.le_refl _) (H.2.2.2.2.2.2.2.2.2.2.2.2.2.2.2.2.2.1 h17))))), ⟨fun h18 => (x_aldn c257_301 rfl (x_ildn c257_302 rfl (wp_wk (l' := [none, none]) trivial (x_cv (As := [jI x1]) (st := []) c257_303 cl_133 kl379 rfl (Nat.le_of_ble_eq_true rfl) mx379 (Nat.le_refl _) (H.2.2.2.2.2.2.2.2.2.2.2.2.2.2.2.2.2.2.1 h18))))), ⟨fun h19 => (x_aldn c257_223 rfl (x_ildn c257_224 rfl (wp_wk (l' := [none, none]) trivial (x_cv (As := [jI x1]) (st := []) c257_225 cl_133 kl266 rfl (Nat.le_of_ble_eq_true rfl) mx266 (Nat.le_refl _) (H.2.2.2.2.2.2.2.2.2.2.2.2.2.2.2.2.2.2.2.1 h19))))), ⟨fun h20 => (x_aldn c257_223 rfl (x_ildn c257_224 rfl (wp_wk (l' := [none, none]) trivial (x_cv (As := [jI x1]) (st := []) c257_225 cl_133 kl266 rfl (Nat.le_of_ble_eq_true rfl) mx266 (Nat.le_refl _) (H.2.2.2.2.2.2.2.2.2.2.2.2.2.2.2.2.2.2.2.2.1 h20))))), ⟨fun h21 => (x_aldn c257_301 rfl (x_ildn c257_302 rfl (wp_wk (l' := [none, none]) trivial (x_cv (As := [jI x1]) (st := []) c257_303 cl_133 kl379 rfl (Nat.le_of_ble_eq_true rfl) mx379 (Nat.le_refl _) (H.2.2.2.2.2.2.2.2.2.2.2.2.2.2.2.2.2.2.2.2.2.1 h21))))), ⟨fun h22 => (x_aldn c257_223 rfl (x_ildn c257_224 rfl (wp_wk (l' := [none, none]) trivial (x_cv (As := [jI x1]) (st := []) c257_225 cl_133 kl266 rfl (Nat.le_of_ble_eq_true rfl) mx266 (Nat.le_refl _) (H.2.2.2.2.2.2.2.2.2.2.2.2.2.2.2.2.2.2.2.2.2.2.1 h22))))), ⟨fun h23 => (x_aldn c257_239 rfl (wp_wk (l' := [none, none]) trivial (x_cv (As := []) (st := []) c257_240 cl_133 kl332 rfl (Nat.le_of_ble_eq_true rfl) mx332 (Nat.le_refl _) (H.2.2.2.2.2.2.2.2.2.2.2.2.2.2.2.2.2.2.2.2.2.2.2.1 h23)))), ⟨fun h24 => (x_aldn c257_301 rfl (x_ildn c257_302 rfl (wp_wk (l' := [none, none]) trivial (x_cv (As := [jI x1]) (st := []) c257_303 cl_133 kl379 rfl (Nat.le_of_ble_eq_true rfl) mx379 (Nat.le_refl _) (H.2.2.2.2.2.2.2.2.2.2.2.2.2.2.2.2.2.2.2.2.2.2.2.2.1 h24))))), ⟨fun h25 => (x_aldn c257_301 rfl (x_ildn c257_302 rfl (wp_wk (l' := [none, none]) trivial (x_cv (As := [jI x1]) (st := []) c257_303 cl_133 kl379 rfl (Nat.le_of_ble_eq_true rfl) mx379 (Nat.le_refl _) (H.2.2.2.2.2.2.2.2.2.2.2.2.2.2.2.2.2.2.2.2.2.2.2.2.2.1 h25))))), ⟨fun h26 => (x_aldn c257_231 rfl (x_ildn c257_232 rfl (wp_wk (l' := [none, none]) trivial (x_cv (As := [jI x1]) (st := []) c257_233 cl_133 kl292 rfl (Nat.le_of_ble_eq_true rfl) mx292 (Nat.le_refl _) (H.2.2.2.2.2.2.2.2.2.2.2.2.2.2.2.2.2.2.2.2.2.2.2.2.2.2.1 h26))))), ⟨fun h27 => (x_aldn c257_231 rfl (x_ildn c257_232 rfl (wp_wk (l' := [none, none]) trivial (x_cv (As := [jI x1]) (st := []) c257_233 cl_133 kl292 rfl (Nat.le_of_ble_eq_true rfl) mx292 (Nat.le_refl _) (H.2.2.2.2.2.2.2.2.2.2.2.2.2.2.2.2.2.2.2.2.2.2.2.2.2.2.2.1 h27))))), ⟨fun h28 => (x_aldn c257_231 rfl (x_ildn c257_232 rfl (wp_wk (l' := [none, none]) trivial (x_cv (As := [jI x1]) (st := []) c257_233 cl_133 kl292 rfl (Nat.le_of_ble_eq_true rfl) mx292 (Nat.le_refl _) (H.2.2.2.2.2.2.2.2.2.2.2.2.2.2.2.2.2.2.2.2.2.2.2.2.2.2.2.2.1 h28))))), ⟨fun h29 => (x_aldn c257_231 rfl (x_ildn c257_232 rfl (wp_wk (l' := [none, none]) trivial (x_cv (As := [jI x1]) (st := []) c257_233 cl_133 kl292 rfl (Nat.le_of_ble_eq_true rfl) mx292 (Nat.le_refl _) (H.2.2.2.2.2.2.2.2.2.2.2.2.2.2.2.2.2.2.2.2.2.2.2.2.2.2.2.2.2.1 h29))))), ⟨fun h30 => (x_aldn c257_231 rfl (x_ildn c257_232 rfl (wp_wk (l' := [none, none]) trivial (x_cv (As := [jI x1]) (st := []) c257_233 cl_133 kl292 rfl (Nat.le_of_ble_eq_true rfl) mx292 (Nat.le_refl _) (H.2.2.2.2.2.2.2.2.2.2.2.2.2.2.2.2.2.2.2.2.2.2.2.2.2.2.2.2.2.2.1 h30))))), ⟨fun h31 => (x_aldn c257_231 rfl (x_ildn c257_232 rfl (wp_wk (l' := [none, none]) trivial (x_cv (As := [jI x1]) (st := []) c257_233 cl_133 kl292 rfl (Nat.le_of_ble_eq_true rfl) mx292 (Nat.le_refl _) (H.2.2.2.2.2.2.2.2.2.2.2.2.2.2.2.2.2.2.2.2.2.2.2.2.2.2.2.2.2.2.2.1 h31))))), ⟨fun h32 => (x_aldn c257_231 rfl (x_ildn c257_232 rfl (wp_wk (l' := [none, none]) trivial (x_cv (As := [jI x1]) (st := []) c257_233 cl_133 kl292 rfl (Nat.le_of_ble_eq_true rfl) mx292 (Nat.le_refl _) (H.2.2.2.2.2.2.2.2.2.2.2.2.2.2.2.2.2.2.2.2.2.2.2.2.2.2.2.2.2.2.2.2.1 h32))))), ⟨fun h33 => (x_aldn c257_231 rfl (x_ildn c257_232 rfl (wp_wk (l' := [none, none]) trivial (x_cv (As := [jI x1]) (st := []) c257_233 cl_133 kl292 rfl (Nat.le_of_ble_eq_true rfl) mx292 (Nat.le_refl _) (H.2.2.2.2.2.2.2.2.2.2.2.2.2.2.2.2.2.2.2.2.2.2.2.2.2.2.2.2.2.2.2.2.2.1 h33))))), ⟨fun h34 => (x_aldn c257_246 rfl (wp_wk (l' := [none, none]) trivial (x_cv (As := []) (st := []) c257_247 cl_133 kl348 rfl (Nat.le_of_ble_eq_true rfl) mx348 (Nat.le_refl _) (H.2.2.2.2.2.2.2.2.2.2.2.2.2.2.2.2.2.2.2.2.2.2.2.2.2.2.2.2.2.2.2.2.2.2.1 h34)))), ⟨fun h35 => (x_aldn c257_293 rfl (x_ildn c257_294 rfl (wp_wk (l' := [none, none]) trivial (x_cv (As := [jI x1]) (st := []) c257_295 cl_133 kl364 rfl (Nat.le_of_ble_eq_true rfl) mx364 (Nat.le_refl _) (H.2.2.2.2.2.2.2.2.2.2.2.2.2.2.2.2.2.2.2.2.2.2.2.2.2.2.2.2.2.2.2.2.2.2.2.1 h35))))), ⟨fun h36 => (x_aldn c257_253 rfl (x_aldn c257_254 rfl (x_gfi c257_255 k_133_9 (x_aldn c257_258 rfl (x_gfi c257_259 k_133_20 (wp_wk (l' := [none, none]) trivial (x_cv (As := [jI (M 133 9), jI (M 133 20)]) (st := []) c257_262 cl_133 kl349 rfl (Nat.le_of_ble_eq_true rfl) mx349 (Nat.le_refl _) (H.2.2.2.2.2.2.2.2.2.2.2.2.2.2.2.2.2.2.2.2.2.2.2.2.2.2.2.2.2.2.2.2.2.2.2.2.1 h36)))))))), ⟨fun h37 => (x_aldn c257_268 rfl (wp_wk (l' := [none, none]) trivial (x_cv (As := []) (st := []) c257_269 cl_133 kl354 rfl (Nat.le_of_ble_eq_true rfl) mx354 (Nat.le_refl _) (H.2.2.2.2.2.2.2.2.2.2.2.2.2.2.2.2.2.2.2.2.2.2.2.2.2.2.2.2.2.2.2.2.2.2.2.2.2.1 h37)))), ⟨fun h38 => (x_aldn c257_293 rfl (x_ildn c257_294 rfl (wp_wk (l' := [none, none]) trivial (x_cv (As := [jI x1]) (st := []) c257_295 cl_133 kl364 rfl (Nat.le_of_ble_eq_true rfl) mx364 (Nat.le_refl _) (H.2.2.2.2.2.2.2.2.2.2.2.2.2.2.2.2.2.2.2.2.2.2.2.2.2.2.2.2.2.2.2.2.2.2.2.2.2.2.1 h38))))), ⟨fun h39 => (x_aldn c257_293 rfl (x_ildn c257_294 rfl (wp_wk (l' := [none, none]) trivial (x_cv (As := [jI x1]) (st := []) c257_295 cl_133 kl364 rfl (Nat.le_of_ble_eq_true rfl) mx364 (Nat.le_refl _) (H.2.2.2.2.2.2.2.2.2.2.2.2.2.2.2.2.2.2.2.2.2.2.2.2.2.2.2.2.2.2.2.2.2.2.2.2.2.2.2.1 h39))))), ⟨fun h40 => (x_aldn c257_293 rfl (x_ildn c257_294 rfl (wp_wk (l' := [none, none]) trivial (x_cv (As := [jI x1]) (st := []) c257_295 cl_133 kl364 rfl (Nat.le_of_ble_eq_true rfl) mx364 (Nat.le_refl _) (H.2.2.2.2.2.2.2.2.2.2.2.2.2.2.2.2.2.2.2.2.2.2.2.2.2.2.2.2.2.2.2.2.2.2.2.2.2.2.2.2.1 h40))))), ⟨fun h41 => (x_aldn c257_293 rfl (x_ildn c257_294 rfl (wp_wk (l' := [none, none]) trivial (x_cv (As := [jI x1]) (st := []) c257_295 cl_133 kl364 rfl (Nat.le_of_ble_eq_true rfl) mx364 (Nat.le_refl _) (H.2.2.2.2.2.2.2.2.2.2.2.2.2.2.2.2.2.2.2.2.2.2.2.2.2.2.2.2.2.2.2.2.2.2.2.2.2.2.2.2.2.1 h41))))), ⟨fun h42 => (x_aldn c257_275 rfl (x_aldn c257_276 rfl (x_gfi c257_277 k_133_8 (wp_wk (l' := [none, none]) trivial (x_cv (As := [jI (M 133 8)]) (st := []) c257_280 cl_133 kl358 rfl (Nat.le_of_ble_eq_true rfl) mx358 (Nat.le_refl _) (H.2.2.2.2.2.2.2.2.2.2.2.2.2.2.2.2.2.2.2.2.2.2.2.2.2.2.2.2.2.2.2.2.2.2.2.2.2.2.2.2.2.2.1 h42)))))), ⟨fun h43 => (x_aldn c257_286 rfl (wp_wk (l' := [none, none]) trivial (x_cv (As := []) (st := []) c257_287 cl_133 kl360 rfl (Nat.le_of_ble_eq_true rfl) mx360 (Nat.le_refl _) (H.2.2.2.2.2.2.2.2.2.2.2.2.2.2.2.2.2.2.2.2.2.2.2.2.2.2.2.2.2.2.2.2.2.2.2.2.2.2.2.2.2.2.2.1 h43)))), ⟨fun h44 => (x_aldn c257_293 rfl (x_ildn c257_294 rfl (wp_wk (l' := [none, none]) trivial (x_cv (As := [jI x1]) (st := []) c257_295 cl_133 kl364 rfl (Nat.le_of_ble_eq_true rfl) mx364 (Nat.le_refl _) (H.2.2.2.2.2.2.2.2.2.2.2.2.2.2.2.2.2.2.2.2.2.2.2.2.2.2.2.2.2.2.2.2.2.2.2.2.2.2.2.2.2.2.2.2.1 h44))))), ⟨fun h45 => (x_aldn c257_293 rfl (x_ildn c257_294 rfl (wp_wk (l' := [none, none]) trivial (x_cv (As := [jI x1]) (st := []) c257_295 cl_133 kl364 rfl (Nat.le_of_ble_eq_true rfl) mx364 (Nat.le_refl _) (H.2.2.2.2.2.2.2.2.2.2.2.2.2.2.2.2.2.2.2.2.2.2.2.2.2.2.2.2.2.2.2.2.2.2.2.2.2.2.2.2.2.2.2.2.2.1 h45))))), trivial⟩⟩⟩⟩⟩⟩⟩⟩⟩⟩⟩⟩⟩⟩⟩⟩⟩⟩⟩⟩⟩⟩⟩⟩⟩⟩⟩⟩⟩⟩⟩⟩⟩⟩⟩⟩⟩⟩⟩⟩⟩⟩⟩⟩⟩ (fun h46 => (x_aldn c257_301 rfl (x_ildn c257_302 rfl (wp_wk (l' := [none, none]) trivial (x_cv (As := [jI x1]) (st := []) c257_303 cl_133 kl379 rfl (Nat.le_of_ble_eq_true rfl) mx379 (Nat.le_refl _) (H.2.2.2.2.2.2.2.2.2.2.2.2.2.2.2.2.2.2.2.2.2.2.2.2.2.2.2.2.2.2.2.2.2.2.2.2.2.2.2.2.2.2.2.2.2.2 h46))))))))
theorem s257_201 {kc : List va_E} {d : Nat} {M : fx_M} {Q : Option fx_V → fx_M → Prop} (H : Q none M) : wp kc (d + 1) 257 201 [none, none] [] M Q :=
  (x_goto c257_201 (x_vr c257_306 r257 H))
theorem s257_208 {kc : List va_E} {d : Nat} {M : fx_M} {Q : Option fx_V → fx_M → Prop} (H : Q none M) : wp kc (d + 1) 257 208 [none, none] [] M Q :=
  (x_goto c257_208 (x_vr c257_306 r257 H))
theorem s257_220 {kc : List va_E} {d : Nat} {M : fx_M} {Q : Option fx_V → fx_M → Prop} (H : Q none M) : wp kc (d + 1) 257 220 [none, none] [] M Q :=
  (x_goto c257_220 (x_vr c257_306 r257 H))
theorem s257_228 {kc : List va_E} {d : Nat} {M : fx_M} {Q : Option fx_V → fx_M → Prop} (H : Q none M) : wp kc (d + 1) 257 228 [none, none] [] M Q :=
  (x_goto c257_228 (x_vr c257_306 r257 H))
theorem s257_236 {kc : List va_E} {d : Nat} {M : fx_M} {Q : Option fx_V → fx_M → Prop} (H : Q none M) : wp kc (d + 1) 257 236 [none, none] [] M Q :=
  (x_goto c257_236 (x_vr c257_306 r257 H))
theorem s257_243 {kc : List va_E} {d : Nat} {M : fx_M} {Q : Option fx_V → fx_M → Prop} (H : Q none M) : wp kc (d + 1) 257 243 [none, none] [] M Q :=
  (x_goto c257_243 (x_vr c257_306 r257 H))
theorem s257_250 {kc : List va_E} {d : Nat} {M : fx_M} {Q : Option fx_V → fx_M → Prop} (H : Q none M) : wp kc (d + 1) 257 250 [none, none] [] M Q :=
  (x_goto c257_250 (x_vr c257_306 r257 H))
theorem s257_265 {kc : List va_E} {d : Nat} {M : fx_M} {Q : Option fx_V → fx_M → Prop} (H : Q none M) : wp kc (d + 1) 257 265 [none, none] [] M Q :=
  (x_goto c257_265 (x_vr c257_306 r257 H))
theorem s257_272 {kc : List va_E} {d : Nat} {M : fx_M} {Q : Option fx_V → fx_M → Prop} (H : Q none M) : wp kc (d + 1) 257 272 [none, none] [] M Q :=
  (x_goto c257_272 (x_vr c257_306 r257 H))
theorem s257_283 {kc : List va_E} {d : Nat} {M : fx_M} {Q : Option fx_V → fx_M → Prop} (H : Q none M) : wp kc (d + 1) 257 283 [none, none] [] M Q :=
  (x_goto c257_283 (x_vr c257_306 r257 H))
theorem s257_290 {kc : List va_E} {d : Nat} {M : fx_M} {Q : Option fx_V → fx_M → Prop} (H : Q none M) : wp kc (d + 1) 257 290 [none, none] [] M Q :=
  (x_goto c257_290 (x_vr c257_306 r257 H))
theorem s257_298 {kc : List va_E} {d : Nat} {M : fx_M} {Q : Option fx_V → fx_M → Prop} (H : Q none M) : wp kc (d + 1) 257 298 [none, none] [] M Q :=
  (x_goto c257_298 (x_vr c257_306 r257 H))
theorem s257_306 {kc : List va_E} {d : Nat} {M : fx_M} {Q : Option fx_V → fx_M → Prop} (H : Q none M) : wp kc (d + 1) 257 306 [none, none] [] M Q :=
  (x_vr c257_306 r257 H)
theorem s257 {kc : List va_E} {d : Nat} {x1 : Int} {M : fx_M} {Q : Option fx_V → fx_M → Prop} (H : fx_in32 x1 ∧ (x1 = 0 → wc kc d 258 [jR 133, jI x1] M (fun v M1 => wp kc (d + 1) 257 201 [none, none] (v.toList ++ []) M1 Q)) ∧ (x1 = 1 → wc kc d 258 [jR 133, jI x1] M (fun v M1 => wp kc (d + 1) 257 201 [none, none] (v.toList ++ []) M1 Q)) ∧ (x1 = 2 → wc kc d 258 [jR 133, jI x1] M (fun v M1 => wp kc (d + 1) 257 201 [none, none] (v.toList ++ []) M1 Q)) ∧ (x1 = 3 → wc kc d 258 [jR 133, jI x1] M (fun v M1 => wp kc (d + 1) 257 201 [none, none] (v.toList ++ []) M1 Q)) ∧ (x1 = 4 → wc kc d 262 [jR 133] M (fun v M1 => wp kc (d + 1) 257 208 [none, none] (v.toList ++ []) M1 Q)) ∧ (x1 = 5 → wc kc d 379 [jR 133, jI x1] M (fun v M1 => wp kc (d + 1) 257 306 [none, none] (v.toList ++ []) M1 Q)) ∧ (x1 = 6 → wc kc d 263 [jR 133] (fx_up M 133 7 5) (fun v M1 => wp kc (d + 1) 257 220 [none, none] (v.toList ++ []) M1 Q)) ∧ (x1 = 7 → wc kc d 379 [jR 133, jI x1] M (fun v M1 => wp kc (d + 1) 257 306 [none, none] (v.toList ++ []) M1 Q)) ∧ (x1 = 8 → wc kc d 379 [jR 133, jI x1] M (fun v M1 => wp kc (d + 1) 257 306 [none, none] (v.toList ++ []) M1 Q)) ∧ (x1 = 9 → wc kc d 379 [jR 133, jI x1] M (fun v M1 => wp kc (d + 1) 257 306 [none, none] (v.toList ++ []) M1 Q)) ∧ (x1 = 10 → wc kc d 379 [jR 133, jI x1] M (fun v M1 => wp kc (d + 1) 257 306 [none, none] (v.toList ++ []) M1 Q)) ∧ (x1 = 11 → wc kc d 379 [jR 133, jI x1] M (fun v M1 => wp kc (d + 1) 257 306 [none, none] (v.toList ++ []) M1 Q)) ∧ (x1 = 12 → wc kc d 379 [jR 133, jI x1] M (fun v M1 => wp kc (d + 1) 257 306 [none, none] (v.toList ++ []) M1 Q)) ∧ (x1 = 13 → wc kc d 292 [jR 133, jI x1] M (fun v M1 => wp kc (d + 1) 257 236 [none, none] (v.toList ++ []) M1 Q)) ∧ (x1 = 14 → wc kc d 292 [jR 133, jI x1] M (fun v M1 => wp kc (d + 1) 257 236 [none, none] (v.toList ++ []) M1 Q)) ∧ (x1 = 15 → wc kc d 292 [jR 133, jI x1] M (fun v M1 => wp kc (d + 1) 257 236 [none, none] (v.toList ++ []) M1 Q)) ∧ (x1 = 16 → wc kc d 379 [jR 133, jI x1] M (fun v M1 => wp kc (d + 1) 257 306 [none, none] (v.toList ++ []) M1 Q)) ∧ (x1 = 17 → wc kc d 379 [jR 133, jI x1] M (fun v M1 => wp kc (d + 1) 257 306 [none, none] (v.toList ++ []) M1 Q)) ∧ (x1 = 18 → wc kc d 266 [jR 133, jI x1] M (fun v M1 => wp kc (d + 1) 257 228 [none, none] (v.toList ++ []) M1 Q)) ∧ (x1 = 19 → wc kc d 266 [jR 133, jI x1] M (fun v M1 => wp kc (d + 1) 257 228 [none, none] (v.toList ++ []) M1 Q)) ∧ (x1 = 20 → wc kc d 379 [jR 133, jI x1] M (fun v M1 => wp kc (d + 1) 257 306 [none, none] (v.toList ++ []) M1 Q)) ∧ (x1 = 21 → wc kc d 266 [jR 133, jI x1] M (fun v M1 => wp kc (d + 1) 257 228 [none, none] (v.toList ++ []) M1 Q)) ∧ (x1 = 22 → wc kc d 332 [jR 133] M (fun v M1 => wp kc (d + 1) 257 243 [none, none] (v.toList ++ []) M1 Q)) ∧ (x1 = 23 → wc kc d 379 [jR 133, jI x1] M (fun v M1 => wp kc (d + 1) 257 306 [none, none] (v.toList ++ []) M1 Q)) ∧ (x1 = 24 → wc kc d 379 [jR 133, jI x1] M (fun v M1 => wp kc (d + 1) 257 306 [none, none] (v.toList ++ []) M1 Q)) ∧ (x1 = 25 → wc kc d 292 [jR 133, jI x1] M (fun v M1 => wp kc (d + 1) 257 236 [none, none] (v.toList ++ []) M1 Q)) ∧ (x1 = 26 → wc kc d 292 [jR 133, jI x1] M (fun v M1 => wp kc (d + 1) 257 236 [none, none] (v.toList ++ []) M1 Q)) ∧ (x1 = 27 → wc kc d 292 [jR 133, jI x1] M (fun v M1 => wp kc (d + 1) 257 236 [none, none] (v.toList ++ []) M1 Q)) ∧ (x1 = 28 → wc kc d 292 [jR 133, jI x1] M (fun v M1 => wp kc (d + 1) 257 236 [none, none] (v.toList ++ []) M1 Q)) ∧ (x1 = 29 → wc kc d 292 [jR 133, jI x1] M (fun v M1 => wp kc (d + 1) 257 236 [none, none] (v.toList ++ []) M1 Q)) ∧ (x1 = 30 → wc kc d 292 [jR 133, jI x1] M (fun v M1 => wp kc (d + 1) 257 236 [none, none] (v.toList ++ []) M1 Q)) ∧ (x1 = 31 → wc kc d 292 [jR 133, jI x1] M (fun v M1 => wp kc (d + 1) 257 236 [none, none] (v.toList ++ []) M1 Q)) ∧ (x1 = 32 → wc kc d 292 [jR 133, jI x1] M (fun v M1 => wp kc (d + 1) 257 236 [none, none] (v.toList ++ []) M1 Q)) ∧ (x1 = 33 → wc kc d 348 [jR 133] M (fun v M1 => wp kc (d + 1) 257 250 [none, none] (v.toList ++ []) M1 Q)) ∧ (x1 = 34 → wc kc d 364 [jR 133, jI x1] M (fun v M1 => wp kc (d + 1) 257 298 [none, none] (v.toList ++ []) M1 Q)) ∧ (x1 = 35 → wc kc d 349 [jR 133, jI (M 133 9), jI (M 133 20)] M (fun v M1 => wp kc (d + 1) 257 265 [none, none] (v.toList ++ []) M1 Q)) ∧ (x1 = 36 → wc kc d 354 [jR 133] M (fun v M1 => wp kc (d + 1) 257 272 [none, none] (v.toList ++ []) M1 Q)) ∧ (x1 = 37 → wc kc d 364 [jR 133, jI x1] M (fun v M1 => wp kc (d + 1) 257 298 [none, none] (v.toList ++ []) M1 Q)) ∧ (x1 = 38 → wc kc d 364 [jR 133, jI x1] M (fun v M1 => wp kc (d + 1) 257 298 [none, none] (v.toList ++ []) M1 Q)) ∧ (x1 = 39 → wc kc d 364 [jR 133, jI x1] M (fun v M1 => wp kc (d + 1) 257 298 [none, none] (v.toList ++ []) M1 Q)) ∧ (x1 = 40 → wc kc d 364 [jR 133, jI x1] M (fun v M1 => wp kc (d + 1) 257 298 [none, none] (v.toList ++ []) M1 Q)) ∧ (x1 = 41 → wc kc d 358 [jR 133, jI (M 133 8)] M (fun v M1 => wp kc (d + 1) 257 283 [none, none] (v.toList ++ []) M1 Q)) ∧ (x1 = 42 → wc kc d 360 [jR 133] M (fun v M1 => wp kc (d + 1) 257 290 [none, none] (v.toList ++ []) M1 Q)) ∧ (x1 = 43 → wc kc d 364 [jR 133, jI x1] M (fun v M1 => wp kc (d + 1) 257 298 [none, none] (v.toList ++ []) M1 Q)) ∧ (x1 = 44 → wc kc d 364 [jR 133, jI x1] M (fun v M1 => wp kc (d + 1) 257 298 [none, none] (v.toList ++ []) M1 Q)) ∧ ((x1 < 0 ∨ 45 ≤ x1) → wc kc d 379 [jR 133, jI x1] M (fun v M1 => wp kc (d + 1) 257 306 [none, none] (v.toList ++ []) M1 Q))) : wc kc (d + 1) 257 [jR 133, jI x1] M Q :=
  wc_of (wp_wk (l' := [some (jR 133), some (jI x1)]) ⟨rfl, ⟨rfl, trivial⟩⟩ (s257_0 H))
