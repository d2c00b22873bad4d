/-! SEGMENTS of the model, 4 (by gen/emit_segs.py) -/
/- PuzzleHouseModel.sayStep()V -/
theorem c305_0 : fx_op 305 0 = some (.aload_n 0, 1, 0) := by decide +kernel
theorem c305_1 : fx_ca 305 1 = some (294, 1, 2, 4) := by decide +kernel
theorem c305_4 : fx_op 305 4 = some (.aload_n 0, 5, 4) := by decide +kernel
theorem c305_5 : fx_ci 305 5 = some (0, 6) := by decide +kernel
theorem c305_6 : fx_pf 305 6 = some (12, 57, 2, 9) := by decide +kernel
theorem c305_9 : fx_op 305 9 = some (.aload_n 0, 10, 9) := by decide +kernel
theorem c305_10 : fx_ca 305 10 = some (306, 1, 2, 13) := by decide +kernel
theorem c305_13 : fx_op 305 13 = some (.istore_n 1, 14, 13) := by decide +kernel
theorem c305_14 : fx_op 305 14 = some (.iload_n 1, 15, 14) := by decide +kernel
theorem c305_15 : fx_op 305 15 = some (.ifCond .ne 24, 18, 39) := by decide +kernel
theorem c305_39 : fx_op 305 39 = some (.aload_n 0, 40, 39) := by decide +kernel
theorem c305_40 : fx_op 305 40 = some (.iload_n 1, 41, 40) := by decide +kernel
theorem c305_41 : fx_ci 305 41 = some (1, 42) := by decide +kernel
theorem c305_42 : fx_op 305 42 = some (.if_icmp .ne 9, 45, 51) := by decide +kernel
theorem c305_51 : fx_op 305 51 = some (.iload_n 1, 52, 51) := by decide +kernel
theorem c305_52 : fx_ci 305 52 = some (2, 53) := by decide +kernel
theorem c305_53 : fx_op 305 53 = some (.if_icmp .ne 9, 56, 62) := by decide +kernel
theorem c305_62 : fx_cj 305 62 = some (7631481, 65) := by decide +kernel
theorem c305_56 : fx_cj 305 56 = some (7632751, 59) := by decide +kernel
theorem c305_59 : fx_op 305 59 = some (.goto 6, 62, 65) := by decide +kernel
theorem c305_45 : fx_cj 305 45 = some (7302757, 48) := by decide +kernel
theorem c305_48 : fx_op 305 48 = some (.goto 17, 51, 65) := by decide +kernel
theorem c305_18 : fx_op 305 18 = some (.aload_n 0, 19, 18) := by decide +kernel
theorem c305_19 : fx_op 305 19 = some (.aload_n 0, 20, 19) := by decide +kernel
theorem c305_65 : fx_ca 305 65 = some (253, 2, 2, 68) := by decide +kernel
theorem c305_20 : fx_ca 305 20 = some (320, 1, 2, 23) := by decide +kernel
theorem c305_68 : fx_op 305 68 = some (.aload_n 0, 69, 68) := by decide +kernel
theorem c305_69 : fx_op 305 69 = some (.aload_n 0, 70, 69) := by decide +kernel
theorem c305_70 : fx_gf 305 70 = some (12, 51, 73) := by decide +kernel
theorem c305_73 : fx_ca 305 73 = some (255, 2, 2, 76) := by decide +kernel
theorem c305_23 : fx_op 305 23 = some (.ifCond .ge 9, 26, 32) := by decide +kernel
theorem c305_32 : fx_cj 305 32 = some (495875089259, 35) := by decide +kernel
theorem c305_26 : fx_cj 305 26 = some (126922398262628, 29) := by decide +kernel
theorem c305_29 : fx_op 305 29 = some (.goto 6, 32, 35) := by decide +kernel
theorem c305_35 : fx_ca 305 35 = some (253, 2, 2, 38) := by decide +kernel
theorem c305_76 : fx_op 305 76 = some (.aload_n 0, 77, 76) := by decide +kernel
theorem c305_77 : fx_op 305 77 = some (.aload_n 0, 78, 77) := by decide +kernel
theorem c305_78 : fx_gf 305 78 = some (12, 52, 81) := by decide +kernel
theorem c305_81 : fx_ca 305 81 = some (255, 2, 2, 84) := by decide +kernel
theorem c305_38 : fx_op 305 38 = some (.return_, 39, 38) := by decide +kernel
theorem c305_84 : fx_op 305 84 = some (.iload_n 1, 85, 84) := by decide +kernel
theorem c305_85 : fx_ci 305 85 = some (3, 86) := by decide +kernel
theorem c305_86 : fx_op 305 86 = some (.if_icmp .ge 11, 89, 97) := by decide +kernel
theorem c305_89 : fx_op 305 89 = some (.aload_n 0, 90, 89) := by decide +kernel
theorem c305_90 : fx_op 305 90 = some (.aload_n 0, 91, 90) := by decide +kernel
theorem c305_91 : fx_gf 305 91 = some (12, 53, 94) := by decide +kernel
theorem c305_97 : fx_op 305 97 = some (.iload_n 1, 98, 97) := by decide +kernel
theorem c305_98 : fx_ci 305 98 = some (2, 99) := by decide +kernel
theorem c305_99 : fx_op 305 99 = some (.if_icmp .ne 11, 102, 110) := by decide +kernel
theorem c305_102 : fx_op 305 102 = some (.aload_n 0, 103, 102) := by decide +kernel
theorem c305_103 : fx_op 305 103 = some (.aload_n 0, 104, 103) := by decide +kernel
theorem c305_104 : fx_gf 305 104 = some (12, 54, 107) := by decide +kernel
theorem c305_110 : fx_op 305 110 = some (.return_, 111, 110) := by decide +kernel
theorem c305_107 : fx_ca 305 107 = some (255, 2, 2, 110) := by decide +kernel
theorem c305_94 : fx_ca 305 94 = some (255, 2, 2, 97) := by decide +kernel
theorem s305_0 {kc : List va_E} {d : Nat} {M : fx_M} {Q : Option fx_V → fx_M → Prop} (H : wc kc d 294 [jR 133] M (fun v M1 => wp kc (d + 1) 305 4 [some (jR 133), none] (v.toList ++ []) M1 Q)) : wp kc (d + 1) 305 0 [some (jR 133), none] [] M Q :=
  (x_aldn c305_0 rfl (wp_wk (l' := [some (jR 133), none]) ⟨rfl, trivial⟩ (x_cv (As := []) (st := []) c305_1 cl_133 kl294 rfl (Nat.le_of_ble_eq_true rfl) mx294 (Nat.le_refl _) H)))
theorem s305_4 {kc : List va_E} {d : Nat} {M : fx_M} {Q : Option fx_V → fx_M → Prop} (H : wc kc d 306 [jR 133] (fx_up M 133 57 0) (fun v M1 => wp kc (d + 1) 305 13 [some (jR 133), none] (v.toList ++ []) M1 Q)) : wp kc (d + 1) 305 4 [some (jR 133), none] [] M Q :=
  (x_aldn c305_4 rfl (x_ci c305_5 (x_pfz c305_6 k_133_57 (by decide) (x_aldn c305_9 rfl (wp_wk (l' := [some (jR 133), none]) ⟨rfl, trivial⟩ (x_cv (As := []) (st := []) c305_10 cl_133 kl306 rfl (Nat.le_of_ble_eq_true rfl) mx306 (Nat.le_refl _) H))))))
theorem s305_13 {kc : List va_E} {d : Nat} {u0 : Int} {M : fx_M} {Q : Option fx_V → fx_M → Prop} (H : ((fx_in32 u0)) ∧ (u0 ≠ 0 → ((fx_in32 u0)) ∧ (u0 ≠ 1 → (fx_in32 u0)) ∧ wc kc d 253 [jR 133, jL (if u0 = 1 then (7302757 : Int) else (if u0 = 2 then (7632751 : Int) else 7631481))] M (fun v M1 => wp kc (d + 1) 305 68 [some (jR 133), some (jI u0)] (v.toList ++ []) M1 Q)) ∧ (u0 = 0 → wc kc d 320 [jR 133] M (fun v M1 => wp kc (d + 1) 305 23 [none, none] (v.toList ++ [jR 133]) M1 Q))) : wp kc (d + 1) 305 13 [some (jR 133), none] [jI u0] M Q :=
  (x_istn (l' := [some (jR 133), some (jI u0)]) c305_13 rfl (x_ildn c305_14 rfl (x_zne c305_15 H.1 (fun h1 => (x_aldn c305_39 rfl (x_ildn c305_40 rfl (x_ci c305_41 (have K : wp kc (d + 1) 305 65 [some (jR 133), some (jI u0)] [jL (if u0 = 1 then (7302757 : Int) else (if u0 = 2 then (7632751 : Int) else 7631481)), jR 133] M Q := (wp_wk (l' := [some (jR 133), some (jI u0)]) ⟨rfl, ⟨rfl, trivial⟩⟩ (x_cv (As := [jL (if u0 = 1 then (7302757 : Int) else (if u0 = 2 then (7632751 : Int) else 7631481))]) (st := []) c305_65 cl_133 kl253 rfl (Nat.le_of_ble_eq_true rfl) mx253 (Nat.le_refl _) (H.2.1 h1).2.2)); (x_cne c305_42 (H.2.1 h1).1 (by decide) (fun (h3 : u0 ≠ 1) => (x_ildn c305_51 rfl (x_ci c305_52 (x_cne c305_53 ((H.2.1 h1).2.1 h3) (by decide) (fun (h5 : u0 ≠ 2) => (x_cj c305_62 (wp_wk (l' := [some (jR 133), some (jI u0)]) ⟨rfl, ⟨rfl, trivial⟩⟩ (by have K := K; first | (simp only [if_neg h3, if_neg h5] at K ⊢; exact K) | (exfalso; omega))))) (fun (h6 : u0 = 2) => (x_cj c305_56 (x_goto c305_59 (wp_wk (l' := [some (jR 133), some (jI u0)]) ⟨rfl, ⟨rfl, trivial⟩⟩ (by have K := K; first | (simp only [if_neg h3, if_pos h6] at K ⊢; exact K) | (exfalso; omega)))))))))) (fun (h4 : u0 = 1) => (x_cj c305_45 (x_goto c305_48 (wp_wk (l' := [some (jR 133), some (jI u0)]) ⟨rfl, ⟨rfl, trivial⟩⟩ (by have K := K; first | (simp only [if_pos h4] at K ⊢; exact K) | (exfalso; omega)))))))))))) (fun h2 => (x_aldn c305_18 rfl (x_aldn c305_19 rfl (wp_wk (l' := [none, none]) trivial (x_cv (As := []) (st := [jR 133]) c305_20 cl_133 kl320 rfl (Nat.le_of_ble_eq_true rfl) mx320 (Nat.le_refl _) (H.2.2 h2)))))))))
theorem s305_23 {kc : List va_E} {d : Nat} {u0 : Int} {M : fx_M} {Q : Option fx_V → fx_M → Prop} (H : ((fx_in32 u0)) ∧ wc kc d 253 [jR 133, jL (if u0 < 0 then (126922398262628 : Int) else 495875089259)] M (fun v M1 => wp kc (d + 1) 305 38 [none, none] (v.toList ++ []) M1 Q)) : wp kc (d + 1) 305 23 [none, none] [jI u0, jR 133] M Q :=
  (have K : wp kc (d + 1) 305 35 [none, none] [jL (if u0 < 0 then (126922398262628 : Int) else 495875089259), jR 133] M Q := (wp_wk (l' := [none, none]) trivial (x_cv (As := [jL (if u0 < 0 then (126922398262628 : Int) else 495875089259)]) (st := []) c305_35 cl_133 kl253 rfl (Nat.le_of_ble_eq_true rfl) mx253 (Nat.le_refl _) H.2)); (x_zge c305_23 H.1 (fun (h1 : 0 ≤ u0) => (x_cj c305_32 (wp_wk (l' := [none, none]) trivial (by have K := K; first | (simp only [if_neg (Int.not_lt.mpr h1)] at K ⊢; exact K) | (exfalso; omega))))) (fun (h2 : u0 < 0) => (x_cj c305_26 (x_goto c305_29 (wp_wk (l' := [none, none]) trivial (by have K := K; first | (simp only [if_pos h2] at K ⊢; exact K) | (exfalso; omega))))))))
theorem s305_38 {kc : List va_E} {d : Nat} {M : fx_M} {Q : Option fx_V → fx_M → Prop} (H : Q none M) : wp kc (d + 1) 305 38 [none, none] [] M Q :=
  (x_vr c305_38 r305 H)
theorem s305_68 {kc : List va_E} {d : Nat} {v1 : Int} {M : fx_M} {Q : Option fx_V → fx_M → Prop} (H : wc kc d 255 [jR 133, jI (M 133 51)] M (fun v M1 => wp kc (d + 1) 305 76 [some (jR 133), some (jI v1)] (v.toList ++ []) M1 Q)) : wp kc (d + 1) 305 68 [some (jR 133), some (jI v1)] [] M Q :=
  (x_aldn c305_68 rfl (x_aldn c305_69 rfl (x_gfi c305_70 k_133_51 (wp_wk (l' := [some (jR 133), some (jI v1)]) ⟨rfl, ⟨rfl, trivial⟩⟩ (x_cv (As := [jI (M 133 51)]) (st := []) c305_73 cl_133 kl255 rfl (Nat.le_of_ble_eq_true rfl) mx255 (Nat.le_refl _) H)))))
theorem s305_76 {kc : List va_E} {d : Nat} {v1 : Int} {M : fx_M} {Q : Option fx_V → fx_M → Prop} (H : wc kc d 255 [jR 133, jI (M 133 52)] M (fun v M1 => wp kc (d + 1) 305 84 [some (jR 133), some (jI v1)] (v.toList ++ []) M1 Q)) : wp kc (d + 1) 305 76 [some (jR 133), some (jI v1)] [] M Q :=
  (x_aldn c305_76 rfl (x_aldn c305_77 rfl (x_gfi c305_78 k_133_52 (wp_wk (l' := [some (jR 133), some (jI v1)]) ⟨rfl, ⟨rfl, trivial⟩⟩ (x_cv (As := [jI (M 133 52)]) (st := []) c305_81 cl_133 kl255 rfl (Nat.le_of_ble_eq_true rfl) mx255 (Nat.le_refl _) H)))))
theorem s305_84 {kc : List va_E} {d : Nat} {v1 : Int} {M : fx_M} {Q : Option fx_V → fx_M → Prop} (H : ((fx_in32 v1)) ∧ (3 ≤ v1 → ((fx_in32 v1)) ∧ (v1 ≠ 2 → Q none M) ∧ (v1 = 2 → wc kc d 255 [jR 133, jI (M 133 54)] M (fun v M1 => wp kc (d + 1) 305 110 [none, none] (v.toList ++ []) M1 Q))) ∧ (v1 < 3 → wc kc d 255 [jR 133, jI (M 133 53)] M (fun v M1 => wp kc (d + 1) 305 97 [some (jR 133), some (jI v1)] (v.toList ++ []) M1 Q))) : wp kc (d + 1) 305 84 [some (jR 133), some (jI v1)] [] M Q :=
  (x_ildn c305_84 rfl (x_ci c305_85 (x_cge c305_86 H.1 (by decide) (fun h3 => (x_ildn c305_97 rfl (x_ci c305_98 (x_cne c305_99 (H.2.1 h3).1 (by decide) (fun h1 => (x_vr c305_110 r305 ((H.2.1 h3).2.1 h1))) (fun h2 => (x_aldn c305_102 rfl (x_aldn c305_103 rfl (x_gfi c305_104 k_133_54 (wp_wk (l' := [none, none]) trivial (x_cv (As := [jI (M 133 54)]) (st := []) c305_107 cl_133 kl255 rfl (Nat.le_of_ble_eq_true rfl) mx255 (Nat.le_refl _) ((H.2.1 h3).2.2 h2))))))))))) (fun h4 => (x_aldn c305_89 rfl (x_aldn c305_90 rfl (x_gfi c305_91 k_133_53 (wp_wk (l' := [some (jR 133), some (jI v1)]) ⟨rfl, ⟨rfl, trivial⟩⟩ (x_cv (As := [jI (M 133 53)]) (st := []) c305_94 cl_133 kl255 rfl (Nat.le_of_ble_eq_true rfl) mx255 (Nat.le_refl _) (H.2.2 h4))))))))))
theorem s305_97 {kc : List va_E} {d : Nat} {v1 : Int} {M : fx_M} {Q : Option fx_V → fx_M → Prop} (H : ((fx_in32 v1)) ∧ (v1 ≠ 2 → Q none M) ∧ (v1 = 2 → wc kc d 255 [jR 133, jI (M 133 54)] M (fun v M1 => wp kc (d + 1) 305 110 [none, none] (v.toList ++ []) M1 Q))) : wp kc (d + 1) 305 97 [some (jR 133), some (jI v1)] [] M Q :=
  (x_ildn c305_97 rfl (x_ci c305_98 (x_cne c305_99 H.1 (by decide) (fun h1 => (x_vr c305_110 r305 (H.2.1 h1))) (fun h2 => (x_aldn c305_102 rfl (x_aldn c305_103 rfl (x_gfi c305_104 k_133_54 (wp_wk (l' := [none, none]) trivial (x_cv (As := [jI (M 133 54)]) (st := []) c305_107 cl_133 kl255 rfl (Nat.le_of_ble_eq_true rfl) mx255 (Nat.le_refl _) (H.2.2 h2))))))))))
theorem s305_110 {kc : List va_E} {d : Nat} {M : fx_M} {Q : Option fx_V → fx_M → Prop} (H : Q none M) : wp kc (d + 1) 305 110 [none, none] [] M Q :=
  (x_vr c305_110 r305 H)
theorem s305 {kc : List va_E} {d : Nat} {M : fx_M} {Q : Option fx_V → fx_M → Prop} (H : wc kc d 294 [jR 133] M (fun v M1 => wp kc (d + 1) 305 4 [some (jR 133), none] (v.toList ++ []) M1 Q)) : wc kc (d + 1) 305 [jR 133] M Q :=
  wc_of (wp_wk (l' := [some (jR 133), none]) ⟨rfl, trivial⟩ (s305_0 H))

/- PuzzleHouseModel.findStep()I -/
theorem c306_0 : fx_op 306 0 = some (.aload_n 0, 1, 0) := by decide +kernel
theorem c306_1 : fx_ci 306 1 = some (0, 2) := by decide +kernel
theorem c306_2 : fx_pf 306 2 = some (12, 56, 2, 5) := by decide +kernel
theorem c306_5 : fx_op 306 5 = some (.aload_n 0, 6, 5) := by decide +kernel
theorem c306_6 : fx_ca 306 6 = some (307, 1, 2, 9) := by decide +kernel
theorem c306_9 : fx_op 306 9 = some (.ifCond .eq 7, 12, 16) := by decide +kernel
theorem c306_16 : fx_op 306 16 = some (.aload_n 0, 17, 16) := by decide +kernel
theorem c306_12 : fx_ci 306 12 = some (1, 13) := by decide +kernel
theorem c306_17 : fx_ca 306 17 = some (309, 1, 2, 20) := by decide +kernel
theorem c306_13 : fx_op 306 13 = some (.goto 26, 16, 39) := by decide +kernel
theorem c306_39 : fx_op 306 39 = some (.ireturn, 40, 39) := by decide +kernel
theorem c306_20 : fx_op 306 20 = some (.ifCond .eq 7, 23, 27) := by decide +kernel
theorem c306_27 : fx_op 306 27 = some (.aload_n 0, 28, 27) := by decide +kernel
theorem c306_23 : fx_ci 306 23 = some (2, 24) := by decide +kernel
theorem c306_28 : fx_ca 306 28 = some (311, 1, 2, 31) := by decide +kernel
theorem c306_24 : fx_op 306 24 = some (.goto 15, 27, 39) := by decide +kernel
theorem c306_31 : fx_op 306 31 = some (.ifCond .eq 7, 34, 38) := by decide +kernel
theorem c306_38 : fx_ci 306 38 = some (0, 39) := by decide +kernel
theorem c306_34 : fx_ci 306 34 = some (3, 35) := by decide +kernel
theorem c306_35 : fx_op 306 35 = some (.goto 4, 38, 39) := by decide +kernel
theorem s306_0 {kc : List va_E} {d : Nat} {M : fx_M} {Q : Option fx_V → fx_M → Prop} (H : wc kc d 307 [jR 133] (fx_up M 133 56 0) (fun v M1 => wp kc (d + 1) 306 9 [some (jR 133)] (v.toList ++ []) M1 Q)) : wp kc (d + 1) 306 0 [some (jR 133)] [] M Q :=
  (x_aldn c306_0 rfl (x_ci c306_1 (x_pfz c306_2 k_133_56 (by decide) (x_aldn c306_5 rfl (wp_wk (l' := [some (jR 133)]) ⟨rfl, trivial⟩ (x_cv (As := []) (st := []) c306_6 cl_133 kl307 rfl (Nat.le_of_ble_eq_true rfl) mx307 (Nat.le_refl _) H))))))
theorem s306_9 {kc : List va_E} {d : Nat} {u0 : Int} {M : fx_M} {Q : Option fx_V → fx_M → Prop} (H : ((fx_in32 u0)) ∧ (u0 = 0 → wc kc d 309 [jR 133] M (fun v M1 => wp kc (d + 1) 306 20 [some (jR 133)] (v.toList ++ []) M1 Q)) ∧ (u0 ≠ 0 → Q (some (jI 1)) M)) : wp kc (d + 1) 306 9 [some (jR 133)] [jI u0] M Q :=
  (x_zeq c306_9 H.1 (fun h1 => (x_aldn c306_16 rfl (wp_wk (l' := [some (jR 133)]) ⟨rfl, trivial⟩ (x_cv (As := []) (st := []) c306_17 cl_133 kl309 rfl (Nat.le_of_ble_eq_true rfl) mx309 (Nat.le_refl _) (H.2.1 h1))))) (fun h2 => (x_ci c306_12 (x_goto c306_13 (x_irt c306_39 r306 (H.2.2 h2))))))
theorem s306_20 {kc : List va_E} {d : Nat} {u0 : Int} {M : fx_M} {Q : Option fx_V → fx_M → Prop} (H : ((fx_in32 u0)) ∧ (u0 = 0 → wc kc d 311 [jR 133] M (fun v M1 => wp kc (d + 1) 306 31 [none] (v.toList ++ []) M1 Q)) ∧ (u0 ≠ 0 → Q (some (jI 2)) M)) : wp kc (d + 1) 306 20 [some (jR 133)] [jI u0] M Q :=
  (x_zeq c306_20 H.1 (fun h1 => (x_aldn c306_27 rfl (wp_wk (l' := [none]) trivial (x_cv (As := []) (st := []) c306_28 cl_133 kl311 rfl (Nat.le_of_ble_eq_true rfl) mx311 (Nat.le_refl _) (H.2.1 h1))))) (fun h2 => (x_ci c306_23 (x_goto c306_24 (x_irt c306_39 r306 (H.2.2 h2))))))
theorem s306_31 {kc : List va_E} {d : Nat} {u0 : Int} {M : fx_M} {Q : Option fx_V → fx_M → Prop} (H : ((fx_in32 u0)) ∧ Q (some (jI (if u0 = 0 then (0 : Int) else 3))) M) : wp kc (d + 1) 306 31 [none] [jI u0] M Q :=
  (have K : wp kc (d + 1) 306 39 [none] [jI (if u0 = 0 then (0 : Int) else 3)] M Q := (x_irt c306_39 r306 H.2); (x_zeq c306_31 H.1 (fun (h1 : u0 = 0) => (x_ci c306_38 (wp_wk (l' := [none]) trivial (by have K := K; first | (simp only [if_pos h1] at K ⊢; exact K) | (exfalso; omega))))) (fun (h2 : u0 ≠ 0) => (x_ci c306_34 (x_goto c306_35 (wp_wk (l' := [none]) trivial (by have K := K; first | (simp only [if_neg h2] at K ⊢; exact K) | (exfalso; omega))))))))
theorem s306 {kc : List va_E} {d : Nat} {M : fx_M} {Q : Option fx_V → fx_M → Prop} (H : wc kc d 307 [jR 133] (fx_up M 133 56 0) (fun v M1 => wp kc (d + 1) 306 9 [some (jR 133)] (v.toList ++ []) M1 Q)) : wc kc (d + 1) 306 [jR 133] M Q :=
  wc_of (wp_wk (l' := [some (jR 133)]) ⟨rfl, trivial⟩ (s306_0 H))

/- PuzzleHouseModel.findFirst()Z -/
theorem c307_0 : fx_ci 307 0 = some (0, 1) := by decide +kernel
theorem c307_1 : fx_op 307 1 = some (.istore_n 1, 2, 1) := by decide +kernel
theorem c307_2 : fx_op 307 2 = some (.iload_n 1, 3, 2) := by decide +kernel
theorem c307_3 : fx_op 307 3 = some (.aload_n 0, 4, 3) := by decide +kernel
theorem c307_4 : fx_gf 307 4 = some (12, 40, 7) := by decide +kernel
theorem c307_7 : fx_ci 307 7 = some (0, 8) := by decide +kernel
theorem c307_8 : fx_op 307 8 = some (.iaload, 9, 8) := by decide +kernel
theorem c307_9 : fx_op 307 9 = some (.if_icmp .ge 20, 12, 29) := by decide +kernel
theorem c307_29 : fx_ci 307 29 = some (0, 30) := by decide +kernel
theorem c307_12 : fx_op 307 12 = some (.aload_n 0, 13, 12) := by decide +kernel
theorem c307_13 : fx_op 307 13 = some (.iload_n 1, 14, 13) := by decide +kernel
theorem c307_14 : fx_ci 307 14 = some ((-1), 15) := by decide +kernel
theorem c307_30 : fx_op 307 30 = some (.ireturn, 31, 30) := by decide +kernel
theorem c307_15 : fx_ca 307 15 = some (308, 3, 2, 18) := by decide +kernel
theorem c307_18 : fx_op 307 18 = some (.ifCond .eq 5, 21, 23) := by decide +kernel
theorem c307_23 : fx_op 307 23 = some (.iinc 1 1, 26, 23) := by decide +kernel
theorem c307_21 : fx_ci 307 21 = some (1, 22) := by decide +kernel
theorem c307_26 : fx_op 307 26 = some (.goto (-24), 29, 2) := by decide +kernel
theorem c307_22 : fx_op 307 22 = some (.ireturn, 23, 22) := by decide +kernel
theorem s307_0 {kc : List va_E} {d : Nat} {M : fx_M} {Q : Option fx_V → fx_M → Prop} (H : wp kc (d + 1) 307 2 [some (jR 133), some (jI 0)] [] M Q) : wp kc (d + 1) 307 0 [some (jR 133), none] [] M Q :=
  (x_ci c307_0 (x_istn (l' := [some (jR 133), some (jI 0)]) c307_1 rfl (wp_wk (l' := [some (jR 133), some (jI 0)]) ⟨rfl, ⟨rfl, trivial⟩⟩ H)))
theorem s307_2 {kc : List va_E} {d : Nat} {v1 : Int} {M : fx_M} {Q : Option fx_V → fx_M → Prop} (H : ((fx_in32 v1) ∧ (fx_in32 (M 149 0))) ∧ (M 149 0 ≤ v1 → Q (some (jI 0)) M) ∧ (v1 < M 149 0 → wc kc d 308 [jR 133, jI v1, jI (-1)] M (fun v M1 => wp kc (d + 1) 307 18 [some (jR 133), some (jI v1)] (v.toList ++ []) M1 Q))) : wp kc (d + 1) 307 2 [some (jR 133), some (jI v1)] [] M Q :=
  (x_ildn c307_2 rfl (x_aldn c307_3 rfl (x_gfr c307_4 k_133_40 (x_ci c307_7 (x_iald c307_8 a_149 (by decide) (by decide) (x_cge c307_9 H.1.1 H.1.2 (fun h1 => (x_ci c307_29 (x_zrt c307_30 r307 (by decide) (H.2.1 h1)))) (fun h2 => (x_aldn c307_12 rfl (x_ildn c307_13 rfl (x_ci c307_14 (wp_wk (l' := [some (jR 133), some (jI v1)]) ⟨rfl, ⟨rfl, trivial⟩⟩ (x_cv (As := [jI v1, jI (-1)]) (st := []) c307_15 cl_133 kl308 rfl (Nat.le_of_ble_eq_true rfl) mx308 (Nat.le_refl _) (H.2.2 h2)))))))))))))
theorem s307_18 {kc : List va_E} {d : Nat} {v1 u0 : Int} {M : fx_M} {Q : Option fx_V → fx_M → Prop} (H : ((fx_in32 u0)) ∧ (u0 = 0 → wp kc (d + 1) 307 2 [some (jR 133), some (jI (v1 + 1))] [] M Q) ∧ (u0 ≠ 0 → Q (some (jI 1)) M)) : wp kc (d + 1) 307 18 [some (jR 133), some (jI v1)] [jI u0] M Q :=
  (x_zeq c307_18 H.1 (fun h1 => (x_inc (l' := [some (jR 133), some (jI (v1 + 1))]) c307_23 rfl rfl (x_goto c307_26 (wp_wk (l' := [some (jR 133), some (jI (v1 + 1))]) ⟨rfl, ⟨rfl, trivial⟩⟩ (H.2.1 h1))))) (fun h2 => (x_ci c307_21 (x_zrt c307_22 r307 (by decide) (H.2.2 h2)))))
theorem s307 {kc : List va_E} {d : Nat} {M : fx_M} {Q : Option fx_V → fx_M → Prop} (H : wp kc (d + 1) 307 2 [some (jR 133), some (jI 0)] [] M Q) : wc kc (d + 1) 307 [jR 133] M Q :=
  wc_of (wp_wk (l' := [some (jR 133), none]) ⟨rfl, trivial⟩ (s307_0 H))

/- PuzzleHouseModel.findOut(II)Z -/
theorem c308_0 : fx_op 308 0 = some (.aload_n 0, 1, 0) := by decide +kernel
theorem c308_1 : fx_op 308 1 = some (.iload_n 1, 2, 1) := by decide +kernel
theorem c308_2 : fx_op 308 2 = some (.iload_n 2, 3, 2) := by decide +kernel
theorem c308_3 : fx_ca 308 3 = some (297, 3, 2, 6) := by decide +kernel
theorem c308_6 : fx_ci 308 6 = some (0, 7) := by decide +kernel
theorem c308_7 : fx_op 308 7 = some (.istore_n 3, 8, 7) := by decide +kernel
theorem c308_8 : fx_op 308 8 = some (.iload_n 3, 9, 8) := by decide +kernel
theorem c308_9 : fx_op 308 9 = some (.aload_n 0, 10, 9) := by decide +kernel
theorem c308_10 : fx_gf 308 10 = some (12, 48, 13) := by decide +kernel
theorem c308_13 : fx_op 308 13 = some (.if_icmp .ge 70, 16, 83) := by decide +kernel
theorem c308_83 : fx_ci 308 83 = some (0, 84) := by decide +kernel
theorem c308_16 : fx_op 308 16 = some (.aload_n 0, 17, 16) := by decide +kernel
theorem c308_17 : fx_gf 308 17 = some (12, 47, 20) := by decide +kernel
theorem c308_20 : fx_op 308 20 = some (.aload_n 0, 21, 20) := by decide +kernel
theorem c308_21 : fx_gf 308 21 = some (12, 49, 24) := by decide +kernel
theorem c308_24 : fx_op 308 24 = some (.iload_n 3, 25, 24) := by decide +kernel
theorem c308_27 : fx_op 308 27 = some (.aload_n 0, 28, 27) := by decide +kernel
theorem c308_28 : fx_gf 308 28 = some (12, 50, 31) := by decide +kernel
theorem c308_31 : fx_op 308 31 = some (.iload_n 3, 32, 31) := by decide +kernel
theorem c308_33 : fx_ci 308 33 = some ((-1), 34) := by decide +kernel
theorem c308_34 : fx_op 308 34 = some (.ixor, 35, 34) := by decide +kernel
theorem c308_35 : fx_op 308 35 = some (.iand, 36, 35) := by decide +kernel
theorem c308_36 : fx_op 308 36 = some (.istore 4, 38, 36) := by decide +kernel
theorem c308_38 : fx_op 308 38 = some (.iload 4, 40, 38) := by decide +kernel
theorem c308_40 : fx_op 308 40 = some (.ifCond .ne 6, 43, 46) := by decide +kernel
theorem c308_46 : fx_op 308 46 = some (.aload_n 0, 47, 46) := by decide +kernel
theorem c308_47 : fx_op 308 47 = some (.aload_n 0, 48, 47) := by decide +kernel
theorem c308_48 : fx_gf 308 48 = some (12, 49, 51) := by decide +kernel
theorem c308_51 : fx_op 308 51 = some (.iload_n 3, 52, 51) := by decide +kernel
theorem c308_53 : fx_pf 308 53 = some (12, 51, 0, 56) := by decide +kernel
theorem c308_56 : fx_op 308 56 = some (.aload_n 0, 57, 56) := by decide +kernel
theorem c308_57 : fx_op 308 57 = some (.iload 4, 59, 57) := by decide +kernel
theorem c308_77 : fx_op 308 77 = some (.iinc 3 1, 80, 77) := by decide +kernel
theorem c308_84 : fx_op 308 84 = some (.ireturn, 85, 84) := by decide +kernel
theorem c308_25 : fx_op 308 25 = some (.iaload, 26, 25) := by decide +kernel
theorem c308_26 : fx_op 308 26 = some (.iaload, 27, 26) := by decide +kernel
theorem c308_32 : fx_op 308 32 = some (.iaload, 33, 32) := by decide +kernel
theorem c308_52 : fx_op 308 52 = some (.iaload, 53, 52) := by decide +kernel
theorem c308_59 : fx_ca 308 59 = some (302, 1, 0, 62) := by decide +kernel
theorem c308_43 : fx_op 308 43 = some (.goto 34, 46, 77) := by decide +kernel
theorem c308_80 : fx_op 308 80 = some (.goto (-72), 83, 8) := by decide +kernel
theorem c308_62 : fx_pf 308 62 = some (12, 52, 0, 65) := by decide +kernel
theorem c308_65 : fx_op 308 65 = some (.aload_n 0, 66, 65) := by decide +kernel
theorem c308_66 : fx_op 308 66 = some (.iload_n 1, 67, 66) := by decide +kernel
theorem c308_67 : fx_pf 308 67 = some (12, 53, 0, 70) := by decide +kernel
theorem c308_70 : fx_op 308 70 = some (.aload_n 0, 71, 70) := by decide +kernel
theorem c308_71 : fx_op 308 71 = some (.iload_n 2, 72, 71) := by decide +kernel
theorem c308_72 : fx_pf 308 72 = some (12, 54, 0, 75) := by decide +kernel
theorem c308_75 : fx_ci 308 75 = some (1, 76) := by decide +kernel
theorem c308_76 : fx_op 308 76 = some (.ireturn, 77, 76) := by decide +kernel
theorem s308_0 {kc : List va_E} {d : Nat} {x1 x2 : Int} {M : fx_M} {Q : Option fx_V → fx_M → Prop} (H : wc kc d 297 [jR 133, jI x1, jI x2] M (fun v M1 => wp kc (d + 1) 308 6 [some (jR 133), some (jI x1), some (jI x2), none, none] (v.toList ++ []) M1 Q)) : wp kc (d + 1) 308 0 [some (jR 133), some (jI x1), some (jI x2), none, none] [] M Q :=
  (x_aldn c308_0 rfl (x_ildn c308_1 rfl (x_ildn c308_2 rfl (wp_wk (l' := [some (jR 133), some (jI x1), some (jI x2), none, none]) ⟨rfl, ⟨rfl, ⟨rfl, trivial⟩⟩⟩ (x_cv (As := [jI x1, jI x2]) (st := []) c308_3 cl_133 kl297 rfl (Nat.le_of_ble_eq_true rfl) mx297 (Nat.le_refl _) H)))))
theorem s308_6 {kc : List va_E} {d : Nat} {v1 v2 : Int} {M : fx_M} {Q : Option fx_V → fx_M → Prop} (H : wp kc (d + 1) 308 8 [some (jR 133), some (jI v1), some (jI v2), some (jI 0), none] [] M Q) : wp kc (d + 1) 308 6 [some (jR 133), some (jI v1), some (jI v2), none, none] [] M Q :=
  (x_ci c308_6 (x_istn (l' := [some (jR 133), some (jI v1), some (jI v2), some (jI 0), none]) c308_7 rfl (wp_wk (l' := [some (jR 133), some (jI v1), some (jI v2), some (jI 0), none]) ⟨rfl, ⟨rfl, ⟨rfl, ⟨rfl, trivial⟩⟩⟩⟩ H)))
theorem s308_8 {kc : List va_E} {d : Nat} {v1 v2 v3 : Int} {M : fx_M} {Q : Option fx_V → fx_M → Prop} (H : ((fx_in32 v3) ∧ (fx_in32 (M 133 48))) ∧ (M 133 48 ≤ v3 → Q (some (jI 0)) M) ∧ (v3 < M 133 48 → (((0 : Int) ≤ v3 ∧ v3 < 8)) ∧ (((0 : Int) ≤ M 157 v3 ∧ M 157 v3 < 9)) ∧ (((0 : Int) ≤ v3 ∧ v3 < 8)) ∧ ((fx_in32 (fx_and (M 156 (M 157 v3)) (fx_xor (M 158 v3) (-1))))) ∧ (fx_and (M 156 (M 157 v3)) (fx_xor (M 158 v3) (-1)) ≠ 0 → (((0 : Int) ≤ v3 ∧ v3 < 8)) ∧ wc kc d 302 [jI (fx_and (M 156 (M 157 v3)) (fx_xor (M 158 v3) (-1)))] (fx_up M 133 51 (M 157 v3)) (fun v M1 => wp kc (d + 1) 308 62 [some (jR 133), some (jI v1), some (jI v2), none, none] (v.toList ++ [jR 133]) M1 Q)) ∧ (fx_and (M 156 (M 157 v3)) (fx_xor (M 158 v3) (-1)) = 0 → wp kc (d + 1) 308 8 [some (jR 133), some (jI v1), some (jI v2), some (jI (v3 + 1)), none] [] M Q))) : wp kc (d + 1) 308 8 [some (jR 133), some (jI v1), some (jI v2), some (jI v3), none] [] M Q :=
  (x_ildn c308_8 rfl (x_aldn c308_9 rfl (x_gfi c308_10 k_133_48 (x_cge c308_13 H.1.1 H.1.2 (fun h3 => (x_ci c308_83 (x_zrt c308_84 r308 (by decide) (H.2.1 h3)))) (fun h4 => (x_aldn c308_16 rfl (x_gfr c308_17 k_133_47 (x_aldn c308_20 rfl (x_gfr c308_21 k_133_49 (x_ildn c308_24 rfl (x_iald c308_25 a_157 (H.2.2 h4).1 (by decide) (x_iald c308_26 a_156 (H.2.2 h4).2.1 (by decide) (x_aldn c308_27 rfl (x_gfr c308_28 k_133_50 (x_ildn c308_31 rfl (x_iald c308_32 a_158 (H.2.2 h4).2.2.1 (by decide) (x_ci c308_33 (x_ixor c308_34 (x_iand c308_35 (x_ist (l' := [some (jR 133), some (jI v1), some (jI v2), some (jI v3), some (jI (fx_and (M 156 (M 157 v3)) (fx_xor (M 158 v3) (-1))))]) c308_36 rfl (x_ild c308_38 rfl (x_zne c308_40 (H.2.2 h4).2.2.2.1 (fun h1 => (x_aldn c308_46 rfl (x_aldn c308_47 rfl (x_gfr c308_48 k_133_49 (x_ildn c308_51 rfl (x_iald c308_52 a_157 ((H.2.2 h4).2.2.2.2.1 h1).1 (by decide) (x_pfi c308_53 k_133_51 (x_aldn c308_56 rfl (x_ild c308_57 rfl (wp_wk (l' := [some (jR 133), some (jI v1), some (jI v2), none, none]) ⟨rfl, ⟨rfl, ⟨rfl, trivial⟩⟩⟩ (x_cs (As := [jI (fx_and (M 156 (M 157 v3)) (fx_xor (M 158 v3) (-1)))]) (st := [jR 133]) c308_59 (by decide) rfl (Nat.le_of_ble_eq_true rfl) mx302 (Nat.le_refl _) ((H.2.2 h4).2.2.2.2.1 h1).2))))))))))) (fun h2 => (x_goto c308_43 (x_inc (l' := [some (jR 133), some (jI v1), some (jI v2), some (jI (v3 + 1)), some (jI (fx_and (M 156 (M 157 v3)) (fx_xor (M 158 v3) (-1))))]) c308_77 rfl rfl (x_goto c308_80 (wp_wk (l' := [some (jR 133), some (jI v1), some (jI v2), some (jI (v3 + 1)), none]) ⟨rfl, ⟨rfl, ⟨rfl, ⟨rfl, trivial⟩⟩⟩⟩ ((H.2.2 h4).2.2.2.2.2 h2))))))))))))))))))))))))))))
theorem s308_62 {kc : List va_E} {d : Nat} {v1 v2 u0 : Int} {M : fx_M} {Q : Option fx_V → fx_M → Prop} (H : Q (some (jI 1)) (fx_up (fx_up (fx_up M 133 52 u0) 133 53 v1) 133 54 v2)) : wp kc (d + 1) 308 62 [some (jR 133), some (jI v1), some (jI v2), none, none] [jI u0, jR 133] M Q :=
  (x_pfi c308_62 k_133_52 (x_aldn c308_65 rfl (x_ildn c308_66 rfl (x_pfi c308_67 k_133_53 (x_aldn c308_70 rfl (x_ildn c308_71 rfl (x_pfi c308_72 k_133_54 (x_ci c308_75 (x_zrt c308_76 r308 (by decide) H)))))))))
theorem s308 {kc : List va_E} {d : Nat} {x1 x2 : Int} {M : fx_M} {Q : Option fx_V → fx_M → Prop} (H : wc kc d 297 [jR 133, jI x1, jI x2] M (fun v M1 => wp kc (d + 1) 308 6 [some (jR 133), some (jI x1), some (jI x2), none, none] (v.toList ++ []) M1 Q)) : wc kc (d + 1) 308 [jR 133, jI x1, jI x2] M Q :=
  wc_of (wp_wk (l' := [some (jR 133), some (jI x1), some (jI x2), none, none]) ⟨rfl, ⟨rfl, ⟨rfl, trivial⟩⟩⟩ (s308_0 H))

/- PuzzleHouseModel.findTwo()Z -/
theorem c309_0 : fx_ci 309 0 = some (0, 1) := by decide +kernel
theorem c309_1 : fx_op 309 1 = some (.istore_n 1, 2, 1) := by decide +kernel
theorem c309_2 : fx_op 309 2 = some (.iload_n 1, 3, 2) := by decide +kernel
theorem c309_3 : fx_op 309 3 = some (.aload_n 0, 4, 3) := by decide +kernel
theorem c309_4 : fx_gf 309 4 = some (12, 40, 7) := by decide +kernel
theorem c309_7 : fx_ci 309 7 = some (0, 8) := by decide +kernel
theorem c309_8 : fx_op 309 8 = some (.iaload, 9, 8) := by decide +kernel
theorem c309_9 : fx_op 309 9 = some (.if_icmp .ge 49, 12, 58) := by decide +kernel
theorem c309_58 : fx_ci 309 58 = some (0, 59) := by decide +kernel
theorem c309_12 : fx_op 309 12 = some (.iload_n 1, 13, 12) := by decide +kernel
theorem c309_13 : fx_ci 309 13 = some (1, 14) := by decide +kernel
theorem c309_14 : fx_op 309 14 = some (.iadd, 15, 14) := by decide +kernel
theorem c309_15 : fx_op 309 15 = some (.istore_n 2, 16, 15) := by decide +kernel
theorem c309_59 : fx_op 309 59 = some (.ireturn, 60, 59) := by decide +kernel
theorem c309_16 : fx_op 309 16 = some (.iload_n 2, 17, 16) := by decide +kernel
theorem c309_17 : fx_op 309 17 = some (.aload_n 0, 18, 17) := by decide +kernel
theorem c309_18 : fx_gf 309 18 = some (12, 40, 21) := by decide +kernel
theorem c309_21 : fx_ci 309 21 = some (0, 22) := by decide +kernel
theorem c309_22 : fx_op 309 22 = some (.iaload, 23, 22) := by decide +kernel
theorem c309_23 : fx_op 309 23 = some (.if_icmp .ge 29, 26, 52) := by decide +kernel
theorem c309_52 : fx_op 309 52 = some (.iinc 1 1, 55, 52) := by decide +kernel
theorem c309_26 : fx_op 309 26 = some (.aload_n 0, 27, 26) := by decide +kernel
theorem c309_27 : fx_op 309 27 = some (.iload_n 1, 28, 27) := by decide +kernel
theorem c309_28 : fx_op 309 28 = some (.iload_n 2, 29, 28) := by decide +kernel
theorem c309_55 : fx_op 309 55 = some (.goto (-53), 58, 2) := by decide +kernel
theorem c309_29 : fx_ca 309 29 = some (310, 3, 2, 32) := by decide +kernel
theorem c309_32 : fx_op 309 32 = some (.ifCond .eq 14, 35, 46) := by decide +kernel
theorem c309_46 : fx_op 309 46 = some (.iinc 2 1, 49, 46) := by decide +kernel
theorem c309_35 : fx_op 309 35 = some (.aload_n 0, 36, 35) := by decide +kernel
theorem c309_36 : fx_op 309 36 = some (.iload_n 1, 37, 36) := by decide +kernel
theorem c309_37 : fx_op 309 37 = some (.iload_n 2, 38, 37) := by decide +kernel
theorem c309_49 : fx_op 309 49 = some (.goto (-33), 52, 16) := by decide +kernel
theorem c309_38 : fx_ca 309 38 = some (308, 3, 2, 41) := by decide +kernel
theorem c309_41 : fx_op 309 41 = some (.ifCond .eq 5, 44, 46) := by decide +kernel
theorem c309_44 : fx_ci 309 44 = some (1, 45) := by decide +kernel
theorem c309_45 : fx_op 309 45 = some (.ireturn, 46, 45) := by decide +kernel
theorem s309_0 {kc : List va_E} {d : Nat} {M : fx_M} {Q : Option fx_V → fx_M → Prop} (H : wp kc (d + 1) 309 2 [some (jR 133), some (jI 0), none] [] M Q) : wp kc (d + 1) 309 0 [some (jR 133), none, none] [] M Q :=
  (x_ci c309_0 (x_istn (l' := [some (jR 133), some (jI 0), none]) c309_1 rfl (wp_wk (l' := [some (jR 133), some (jI 0), none]) ⟨rfl, ⟨rfl, trivial⟩⟩ H)))
theorem s309_2 {kc : List va_E} {d : Nat} {v1 : Int} {M : fx_M} {Q : Option fx_V → fx_M → Prop} (H : ((fx_in32 v1) ∧ (fx_in32 (M 149 0))) ∧ (M 149 0 ≤ v1 → Q (some (jI 0)) M) ∧ (v1 < M 149 0 → wp kc (d + 1) 309 16 [some (jR 133), some (jI v1), some (jI (v1 + 1))] [] M Q)) : wp kc (d + 1) 309 2 [some (jR 133), some (jI v1), none] [] M Q :=
  (x_ildn c309_2 rfl (x_aldn c309_3 rfl (x_gfr c309_4 k_133_40 (x_ci c309_7 (x_iald c309_8 a_149 (by decide) (by decide) (x_cge c309_9 H.1.1 H.1.2 (fun h1 => (x_ci c309_58 (x_zrt c309_59 r309 (by decide) (H.2.1 h1)))) (fun h2 => (x_ildn c309_12 rfl (x_ci c309_13 (x_iadd c309_14 (x_istn (l' := [some (jR 133), some (jI v1), some (jI (v1 + 1))]) c309_15 rfl (wp_wk (l' := [some (jR 133), some (jI v1), some (jI (v1 + 1))]) ⟨rfl, ⟨rfl, ⟨rfl, trivial⟩⟩⟩ (H.2.2 h2)))))))))))))
theorem s309_16 {kc : List va_E} {d : Nat} {v1 v2 : Int} {M : fx_M} {Q : Option fx_V → fx_M → Prop} (H : ((fx_in32 v2) ∧ (fx_in32 (M 149 0))) ∧ (M 149 0 ≤ v2 → wp kc (d + 1) 309 2 [some (jR 133), some (jI (v1 + 1)), none] [] M Q) ∧ (v2 < M 149 0 → wc kc d 310 [jR 133, jI v1, jI v2] M (fun v M1 => wp kc (d + 1) 309 32 [some (jR 133), some (jI v1), some (jI v2)] (v.toList ++ []) M1 Q))) : wp kc (d + 1) 309 16 [some (jR 133), some (jI v1), some (jI v2)] [] M Q :=
  (x_ildn c309_16 rfl (x_aldn c309_17 rfl (x_gfr c309_18 k_133_40 (x_ci c309_21 (x_iald c309_22 a_149 (by decide) (by decide) (x_cge c309_23 H.1.1 H.1.2 (fun h1 => (x_inc (l' := [some (jR 133), some (jI (v1 + 1)), some (jI v2)]) c309_52 rfl rfl (x_goto c309_55 (wp_wk (l' := [some (jR 133), some (jI (v1 + 1)), none]) ⟨rfl, ⟨rfl, trivial⟩⟩ (H.2.1 h1))))) (fun h2 => (x_aldn c309_26 rfl (x_ildn c309_27 rfl (x_ildn c309_28 rfl (wp_wk (l' := [some (jR 133), some (jI v1), some (jI v2)]) ⟨rfl, ⟨rfl, ⟨rfl, trivial⟩⟩⟩ (x_cv (As := [jI v1, jI v2]) (st := []) c309_29 cl_133 kl310 rfl (Nat.le_of_ble_eq_true rfl) mx310 (Nat.le_refl _) (H.2.2 h2)))))))))))))
theorem s309_32 {kc : List va_E} {d : Nat} {v1 v2 u0 : Int} {M : fx_M} {Q : Option fx_V → fx_M → Prop} (H : ((fx_in32 u0)) ∧ (u0 = 0 → wp kc (d + 1) 309 16 [some (jR 133), some (jI v1), some (jI (v2 + 1))] [] M Q) ∧ (u0 ≠ 0 → wc kc d 308 [jR 133, jI v1, jI v2] M (fun v M1 => wp kc (d + 1) 309 41 [some (jR 133), some (jI v1), some (jI v2)] (v.toList ++ []) M1 Q))) : wp kc (d + 1) 309 32 [some (jR 133), some (jI v1), some (jI v2)] [jI u0] M Q :=
  (x_zeq c309_32 H.1 (fun h1 => (x_inc (l' := [some (jR 133), some (jI v1), some (jI (v2 + 1))]) c309_46 rfl rfl (x_goto c309_49 (wp_wk (l' := [some (jR 133), some (jI v1), some (jI (v2 + 1))]) ⟨rfl, ⟨rfl, ⟨rfl, trivial⟩⟩⟩ (H.2.1 h1))))) (fun h2 => (x_aldn c309_35 rfl (x_ildn c309_36 rfl (x_ildn c309_37 rfl (wp_wk (l' := [some (jR 133), some (jI v1), some (jI v2)]) ⟨rfl, ⟨rfl, ⟨rfl, trivial⟩⟩⟩ (x_cv (As := [jI v1, jI v2]) (st := []) c309_38 cl_133 kl308 rfl (Nat.le_of_ble_eq_true rfl) mx308 (Nat.le_refl _) (H.2.2 h2))))))))
theorem s309_41 {kc : List va_E} {d : Nat} {v1 v2 u0 : Int} {M : fx_M} {Q : Option fx_V → fx_M → Prop} (H : ((fx_in32 u0)) ∧ (u0 = 0 → wp kc (d + 1) 309 16 [some (jR 133), some (jI v1), some (jI (v2 + 1))] [] M Q) ∧ (u0 ≠ 0 → Q (some (jI 1)) M)) : wp kc (d + 1) 309 41 [some (jR 133), some (jI v1), some (jI v2)] [jI u0] M Q :=
  (x_zeq c309_41 H.1 (fun h1 => (x_inc (l' := [some (jR 133), some (jI v1), some (jI (v2 + 1))]) c309_46 rfl rfl (x_goto c309_49 (wp_wk (l' := [some (jR 133), some (jI v1), some (jI (v2 + 1))]) ⟨rfl, ⟨rfl, ⟨rfl, trivial⟩⟩⟩ (H.2.1 h1))))) (fun h2 => (x_ci c309_44 (x_zrt c309_45 r309 (by decide) (H.2.2 h2)))))
theorem s309 {kc : List va_E} {d : Nat} {M : fx_M} {Q : Option fx_V → fx_M → Prop} (H : wp kc (d + 1) 309 2 [some (jR 133), some (jI 0), none] [] M Q) : wc kc (d + 1) 309 [jR 133] M Q :=
  wc_of (wp_wk (l' := [some (jR 133), none, none]) ⟨rfl, trivial⟩ (s309_0 H))

/- PuzzleHouseModel.areNear(II)Z -/
theorem c310_0 : fx_op 310 0 = some (.aload_n 0, 1, 0) := by decide +kernel
theorem c310_1 : fx_op 310 1 = some (.iload_n 1, 2, 1) := by decide +kernel
theorem c310_2 : fx_op 310 2 = some (.iload_n 2, 3, 2) := by decide +kernel
theorem c310_3 : fx_ca 310 3 = some (298, 3, 2, 6) := by decide +kernel
theorem c310_6 : fx_op 310 6 = some (.aload_n 0, 7, 6) := by decide +kernel
theorem c310_7 : fx_gf 310 7 = some (12, 48, 10) := by decide +kernel
theorem c310_10 : fx_op 310 10 = some (.aload_n 0, 11, 10) := by decide +kernel
theorem c310_11 : fx_gf 310 11 = some (12, 43, 14) := by decide +kernel
theorem c310_14 : fx_op 310 14 = some (.iload_n 1, 15, 14) := by decide +kernel
theorem c310_16 : fx_op 310 16 = some (.aload_n 0, 17, 16) := by decide +kernel
theorem c310_17 : fx_gf 310 17 = some (12, 43, 20) := by decide +kernel
theorem c310_20 : fx_op 310 20 = some (.iload_n 2, 21, 20) := by decide +kernel
theorem c310_22 : fx_op 310 22 = some (.iadd, 23, 22) := by decide +kernel
theorem c310_23 : fx_op 310 23 = some (.if_icmp .ge 16, 26, 39) := by decide +kernel
theorem c310_39 : fx_ci 310 39 = some (0, 40) := by decide +kernel
theorem c310_26 : fx_op 310 26 = some (.aload_n 0, 27, 26) := by decide +kernel
theorem c310_27 : fx_gf 310 27 = some (12, 48, 30) := by decide +kernel
theorem c310_30 : fx_ci 310 30 = some (6, 32) := by decide +kernel
theorem c310_32 : fx_op 310 32 = some (.if_icmp .gt 7, 35, 39) := by decide +kernel
theorem c310_35 : fx_ci 310 35 = some (1, 36) := by decide +kernel
theorem c310_36 : fx_op 310 36 = some (.goto 4, 39, 40) := by decide +kernel
theorem c310_15 : fx_op 310 15 = some (.iaload, 16, 15) := by decide +kernel
theorem c310_21 : fx_op 310 21 = some (.iaload, 22, 21) := by decide +kernel
theorem c310_40 : fx_op 310 40 = some (.ireturn, 41, 40) := by decide +kernel
theorem s310_0 {kc : List va_E} {d : Nat} {x1 x2 : Int} {M : fx_M} {Q : Option fx_V → fx_M → Prop} (H : wc kc d 298 [jR 133, jI x1, jI x2] M (fun v M1 => wp kc (d + 1) 310 6 [some (jR 133), some (jI x1), some (jI x2)] (v.toList ++ []) M1 Q)) : wp kc (d + 1) 310 0 [some (jR 133), some (jI x1), some (jI x2)] [] M Q :=
  (x_aldn c310_0 rfl (x_ildn c310_1 rfl (x_ildn c310_2 rfl (wp_wk (l' := [some (jR 133), some (jI x1), some (jI x2)]) ⟨rfl, ⟨rfl, ⟨rfl, trivial⟩⟩⟩ (x_cv (As := [jI x1, jI x2]) (st := []) c310_3 cl_133 kl298 rfl (Nat.le_of_ble_eq_true rfl) mx298 (Nat.le_refl _) H)))))
theorem s310_6 {kc : List va_E} {d : Nat} {v1 v2 : Int} {M : fx_M} {Q : Option fx_V → fx_M → Prop} (H : (((0 : Int) ≤ v1 ∧ v1 < 120)) ∧ (((0 : Int) ≤ v2 ∧ v2 < 120)) ∧ ((fx_in32 (M 133 48))) ∧ ((fx_in32 ((M 152 v1) + (M 152 v2)))) ∧ (M 133 48 < (M 152 v1) + (M 152 v2) → (fx_in32 (M 133 48))) ∧ ((0 : Int) ≤ (if M 133 48 < (M 152 v1) + (M 152 v2) then ((if 6 < M 133 48 then (0 : Int) else 1) : Int) else 0) ∧ (if M 133 48 < (M 152 v1) + (M 152 v2) then ((if 6 < M 133 48 then (0 : Int) else 1) : Int) else 0) ≤ 1) ∧ Q (some (jI (if M 133 48 < (M 152 v1) + (M 152 v2) then ((if 6 < M 133 48 then (0 : Int) else 1) : Int) else 0))) M) : wp kc (d + 1) 310 6 [some (jR 133), some (jI v1), some (jI v2)] [] M Q :=
  (x_aldn c310_6 rfl (x_gfi c310_7 k_133_48 (x_aldn c310_10 rfl (x_gfr c310_11 k_133_43 (x_ildn c310_14 rfl (x_iald c310_15 a_152 H.1 (by decide) (x_aldn c310_16 rfl (x_gfr c310_17 k_133_43 (x_ildn c310_20 rfl (x_iald c310_21 a_152 H.2.1 (by decide) (x_iadd c310_22 (have K : wp kc (d + 1) 310 40 [none, none, none] [jI (if M 133 48 < (M 152 v1) + (M 152 v2) then ((if 6 < M 133 48 then (0 : Int) else 1) : Int) else 0)] M Q := (x_zrt c310_40 r310 H.2.2.2.2.2.1 H.2.2.2.2.2.2); (x_cge c310_23 H.2.2.1 H.2.2.2.1 (fun (h1 : (M 152 v1) + (M 152 v2) ≤ M 133 48) => (x_ci c310_39 (wp_wk (l' := [none, none, none]) trivial (by have K := K; first | (simp only [if_neg (Int.not_lt.mpr h1)] at K ⊢; exact K) | (exfalso; omega))))) (fun (h2 : M 133 48 < (M 152 v1) + (M 152 v2)) => (x_aldn c310_26 rfl (x_gfi c310_27 k_133_48 (x_ci c310_30 (x_cgt c310_32 (H.2.2.2.2.1 h2) (by decide) (fun (h3 : 6 < M 133 48) => (x_ci c310_39 (wp_wk (l' := [none, none, none]) trivial (by have K := K; first | (simp only [if_pos h2, if_pos h3] at K ⊢; exact K) | (exfalso; omega))))) (fun (h4 : M 133 48 ≤ 6) => (x_ci c310_35 (x_goto c310_36 (wp_wk (l' := [none, none, none]) trivial (by have K := K; first | (simp only [if_pos h2, if_neg (Int.not_lt.mpr h4)] at K ⊢; exact K) | (exfalso; omega))))))))))))))))))))))))
theorem s310 {kc : List va_E} {d : Nat} {x1 x2 : Int} {M : fx_M} {Q : Option fx_V → fx_M → Prop} (H : wc kc d 298 [jR 133, jI x1, jI x2] M (fun v M1 => wp kc (d + 1) 310 6 [some (jR 133), some (jI x1), some (jI x2)] (v.toList ++ []) M1 Q)) : wc kc (d + 1) 310 [jR 133, jI x1, jI x2] M Q :=
  wc_of (wp_wk (l' := [some (jR 133), some (jI x1), some (jI x2)]) ⟨rfl, ⟨rfl, ⟨rfl, trivial⟩⟩⟩ (s310_0 H))

/- PuzzleHouseModel.findTry()Z -/
theorem c311_0 : fx_op 311 0 = some (.aload_n 0, 1, 0) := by decide +kernel
theorem c311_1 : fx_ca 311 1 = some (312, 1, 2, 4) := by decide +kernel
theorem c311_4 : fx_ci 311 4 = some (0, 5) := by decide +kernel
theorem c311_5 : fx_op 311 5 = some (.istore_n 1, 6, 5) := by decide +kernel
theorem c311_6 : fx_op 311 6 = some (.iload_n 1, 7, 6) := by decide +kernel
theorem c311_7 : fx_op 311 7 = some (.aload_n 0, 8, 7) := by decide +kernel
theorem c311_8 : fx_ca 311 8 = some (248, 1, 2, 11) := by decide +kernel
theorem c311_11 : fx_op 311 11 = some (.if_icmp .ge 93, 14, 104) := by decide +kernel
theorem c311_104 : fx_ci 311 104 = some (0, 105) := by decide +kernel
theorem c311_14 : fx_ci 311 14 = some (0, 15) := by decide +kernel
theorem c311_15 : fx_op 311 15 = some (.istore_n 2, 16, 15) := by decide +kernel
theorem c311_105 : fx_op 311 105 = some (.ireturn, 106, 105) := by decide +kernel
theorem c311_16 : fx_op 311 16 = some (.iload_n 2, 17, 16) := by decide +kernel
theorem c311_17 : fx_op 311 17 = some (.aload_n 0, 18, 17) := by decide +kernel
theorem c311_18 : fx_gf 311 18 = some (12, 39, 21) := by decide +kernel
theorem c311_21 : fx_ci 311 21 = some (0, 22) := by decide +kernel
theorem c311_22 : fx_op 311 22 = some (.iaload, 23, 22) := by decide +kernel
theorem c311_23 : fx_op 311 23 = some (.if_icmp .ge 75, 26, 98) := by decide +kernel
theorem c311_98 : fx_op 311 98 = some (.iinc 1 1, 101, 98) := by decide +kernel
theorem c311_26 : fx_op 311 26 = some (.aload_n 0, 27, 26) := by decide +kernel
theorem c311_27 : fx_gf 311 27 = some (12, 67, 30) := by decide +kernel
theorem c311_30 : fx_op 311 30 = some (.iload_n 1, 31, 30) := by decide +kernel
theorem c311_101 : fx_op 311 101 = some (.goto (-95), 104, 6) := by decide +kernel
theorem c311_31 : fx_op 311 31 = some (.iaload, 32, 31) := by decide +kernel
theorem c311_32 : fx_ca 311 32 = some (304, 1, 0, 35) := by decide +kernel
theorem c311_35 : fx_ci 311 35 = some (1, 36) := by decide +kernel
theorem c311_36 : fx_op 311 36 = some (.if_icmp .le 62, 39, 98) := by decide +kernel
theorem c311_39 : fx_op 311 39 = some (.aload_n 0, 40, 39) := by decide +kernel
theorem c311_40 : fx_gf 311 40 = some (12, 67, 43) := by decide +kernel
theorem c311_43 : fx_op 311 43 = some (.iload_n 1, 44, 43) := by decide +kernel
theorem c311_45 : fx_op 311 45 = some (.iload_n 2, 46, 45) := by decide +kernel
theorem c311_46 : fx_op 311 46 = some (.ishr, 47, 46) := by decide +kernel
theorem c311_47 : fx_ci 311 47 = some (1, 48) := by decide +kernel
theorem c311_48 : fx_op 311 48 = some (.iand, 49, 48) := by decide +kernel
theorem c311_49 : fx_op 311 49 = some (.ifCond .ne 6, 52, 55) := by decide +kernel
theorem c311_55 : fx_op 311 55 = some (.aload_n 0, 56, 55) := by decide +kernel
theorem c311_56 : fx_gf 311 56 = some (12, 47, 59) := by decide +kernel
theorem c311_59 : fx_op 311 59 = some (.iload_n 1, 60, 59) := by decide +kernel
theorem c311_60 : fx_ci 311 60 = some (1, 61) := by decide +kernel
theorem c311_61 : fx_op 311 61 = some (.iload_n 2, 62, 61) := by decide +kernel
theorem c311_62 : fx_op 311 62 = some (.ishl, 63, 62) := by decide +kernel
theorem c311_64 : fx_op 311 64 = some (.aload_n 0, 65, 64) := by decide +kernel
theorem c311_92 : fx_op 311 92 = some (.iinc 2 1, 95, 92) := by decide +kernel
theorem c311_44 : fx_op 311 44 = some (.iaload, 45, 44) := by decide +kernel
theorem c311_63 : fx_op 311 63 = some (.iastore, 64, 63) := by decide +kernel
theorem c311_65 : fx_ca 311 65 = some (313, 1, 2, 68) := by decide +kernel
theorem c311_52 : fx_op 311 52 = some (.goto 40, 55, 92) := by decide +kernel
theorem c311_95 : fx_op 311 95 = some (.goto (-79), 98, 16) := by decide +kernel
theorem c311_68 : fx_op 311 68 = some (.istore_n 3, 69, 68) := by decide +kernel
theorem c311_69 : fx_op 311 69 = some (.aload_n 0, 70, 69) := by decide +kernel
theorem c311_70 : fx_ca 311 70 = some (319, 1, 2, 73) := by decide +kernel
theorem c311_73 : fx_op 311 73 = some (.iload_n 3, 74, 73) := by decide +kernel
theorem c311_74 : fx_op 311 74 = some (.ifCond .eq 6, 77, 80) := by decide +kernel
theorem c311_80 : fx_op 311 80 = some (.aload_n 0, 81, 80) := by decide +kernel
theorem c311_81 : fx_op 311 81 = some (.iload_n 1, 82, 81) := by decide +kernel
theorem c311_82 : fx_pf 311 82 = some (12, 51, 0, 85) := by decide +kernel
theorem c311_85 : fx_op 311 85 = some (.aload_n 0, 86, 85) := by decide +kernel
theorem c311_86 : fx_op 311 86 = some (.iload_n 2, 87, 86) := by decide +kernel
theorem c311_87 : fx_pf 311 87 = some (12, 52, 0, 90) := by decide +kernel
theorem c311_90 : fx_ci 311 90 = some (1, 91) := by decide +kernel
theorem c311_91 : fx_op 311 91 = some (.ireturn, 92, 91) := by decide +kernel
theorem c311_77 : fx_op 311 77 = some (.goto 15, 80, 92) := by decide +kernel
theorem s311_0 {kc : List va_E} {d : Nat} {M : fx_M} {Q : Option fx_V → fx_M → Prop} (H : wc kc d 312 [jR 133] M (fun v M1 => wp kc (d + 1) 311 4 [some (jR 133), none, none, none] (v.toList ++ []) M1 Q)) : wp kc (d + 1) 311 0 [some (jR 133), none, none, none] [] M Q :=
  (x_aldn c311_0 rfl (wp_wk (l' := [some (jR 133), none, none, none]) ⟨rfl, trivial⟩ (x_cv (As := []) (st := []) c311_1 cl_133 kl312 rfl (Nat.le_of_ble_eq_true rfl) mx312 (Nat.le_refl _) H)))
theorem s311_4 {kc : List va_E} {d : Nat} {M : fx_M} {Q : Option fx_V → fx_M → Prop} (H : wp kc (d + 1) 311 6 [some (jR 133), some (jI 0), none, none] [] M Q) : wp kc (d + 1) 311 4 [some (jR 133), none, none, none] [] M Q :=
  (x_ci c311_4 (x_istn (l' := [some (jR 133), some (jI 0), none, none]) c311_5 rfl (wp_wk (l' := [some (jR 133), some (jI 0), none, none]) ⟨rfl, ⟨rfl, trivial⟩⟩ H)))
theorem s311_6 {kc : List va_E} {d : Nat} {v1 : Int} {M : fx_M} {Q : Option fx_V → fx_M → Prop} (H : wc kc d 248 [jR 133] M (fun v M1 => wp kc (d + 1) 311 11 [some (jR 133), some (jI v1), none, none] (v.toList ++ [jI v1]) M1 Q)) : wp kc (d + 1) 311 6 [some (jR 133), some (jI v1), none, none] [] M Q :=
  (x_ildn c311_6 rfl (x_aldn c311_7 rfl (wp_wk (l' := [some (jR 133), some (jI v1), none, none]) ⟨rfl, ⟨rfl, trivial⟩⟩ (x_cv (As := []) (st := [jI v1]) c311_8 cl_133 kl248 rfl (Nat.le_of_ble_eq_true rfl) mx248 (Nat.le_refl _) H))))
theorem s311_11 {kc : List va_E} {d : Nat} {v1 u0 u1 : Int} {M : fx_M} {Q : Option fx_V → fx_M → Prop} (H : ((fx_in32 u1) ∧ (fx_in32 u0)) ∧ (u0 ≤ u1 → Q (some (jI 0)) M) ∧ (u1 < u0 → wp kc (d + 1) 311 16 [some (jR 133), some (jI v1), some (jI 0), none] [] M Q)) : wp kc (d + 1) 311 11 [some (jR 133), some (jI v1), none, none] [jI u0, jI u1] M Q :=
  (x_cge c311_11 H.1.1 H.1.2 (fun h1 => (x_ci c311_104 (x_zrt c311_105 r311 (by decide) (H.2.1 h1)))) (fun h2 => (x_ci c311_14 (x_istn (l' := [some (jR 133), some (jI v1), some (jI 0), none]) c311_15 rfl (wp_wk (l' := [some (jR 133), some (jI v1), some (jI 0), none]) ⟨rfl, ⟨rfl, ⟨rfl, trivial⟩⟩⟩ (H.2.2 h2))))))
theorem s311_16 {kc : List va_E} {d : Nat} {v1 v2 : Int} {M : fx_M} {Q : Option fx_V → fx_M → Prop} (H : ((fx_in32 v2) ∧ (fx_in32 (M 148 0))) ∧ (M 148 0 ≤ v2 → wp kc (d + 1) 311 6 [some (jR 133), some (jI (v1 + 1)), none, none] [] M Q) ∧ (v2 < M 148 0 → (((0 : Int) ≤ v1 ∧ v1 < 9)) ∧ wc kc d 304 [jI (M 165 v1)] M (fun v M1 => wp kc (d + 1) 311 35 [some (jR 133), some (jI v1), some (jI v2), none] (v.toList ++ []) M1 Q))) : wp kc (d + 1) 311 16 [some (jR 133), some (jI v1), some (jI v2), none] [] M Q :=
  (x_ildn c311_16 rfl (x_aldn c311_17 rfl (x_gfr c311_18 k_133_39 (x_ci c311_21 (x_iald c311_22 a_148 (by decide) (by decide) (x_cge c311_23 H.1.1 H.1.2 (fun h1 => (x_inc (l' := [some (jR 133), some (jI (v1 + 1)), some (jI v2), none]) c311_98 rfl rfl (x_goto c311_101 (wp_wk (l' := [some (jR 133), some (jI (v1 + 1)), none, none]) ⟨rfl, ⟨rfl, trivial⟩⟩ (H.2.1 h1))))) (fun h2 => (x_aldn c311_26 rfl (x_gfr c311_27 k_133_67 (x_ildn c311_30 rfl (x_iald c311_31 a_165 (H.2.2 h2).1 (by decide) (wp_wk (l' := [some (jR 133), some (jI v1), some (jI v2), none]) ⟨rfl, ⟨rfl, ⟨rfl, trivial⟩⟩⟩ (x_cs (As := [jI (M 165 v1)]) (st := []) c311_32 (by decide) rfl (Nat.le_of_ble_eq_true rfl) mx304 (Nat.le_refl _) (H.2.2 h2).2)))))))))))))
theorem s311_35 {kc : List va_E} {d : Nat} {v1 v2 u0 : Int} {M : fx_M} {Q : Option fx_V → fx_M → Prop} (H : ((fx_in32 u0)) ∧ (u0 ≤ 1 → wp kc (d + 1) 311 6 [some (jR 133), some (jI (v1 + 1)), none, none] [] M Q) ∧ (1 < u0 → (((0 : Int) ≤ v1 ∧ v1 < 9)) ∧ ((fx_in32 (fx_and (fx_shr (M 165 v1) v2) 1))) ∧ (fx_and (fx_shr (M 165 v1) v2) 1 ≠ 0 → (((0 : Int) ≤ v1 ∧ v1 < 9)) ∧ wc kc d 313 [jR 133] (fx_up M 156 v1 (fx_shl 1 v2)) (fun v M1 => wp kc (d + 1) 311 68 [some (jR 133), some (jI v1), some (jI v2), none] (v.toList ++ []) M1 Q)) ∧ (fx_and (fx_shr (M 165 v1) v2) 1 = 0 → wp kc (d + 1) 311 16 [some (jR 133), some (jI v1), some (jI (v2 + 1)), none] [] M Q))) : wp kc (d + 1) 311 35 [some (jR 133), some (jI v1), some (jI v2), none] [jI u0] M Q :=
  (x_ci c311_35 (x_cle c311_36 H.1 (by decide) (fun h3 => (x_inc (l' := [some (jR 133), some (jI (v1 + 1)), some (jI v2), none]) c311_98 rfl rfl (x_goto c311_101 (wp_wk (l' := [some (jR 133), some (jI (v1 + 1)), none, none]) ⟨rfl, ⟨rfl, trivial⟩⟩ (H.2.1 h3))))) (fun h4 => (x_aldn c311_39 rfl (x_gfr c311_40 k_133_67 (x_ildn c311_43 rfl (x_iald c311_44 a_165 (H.2.2 h4).1 (by decide) (x_ildn c311_45 rfl (x_ishr c311_46 (x_ci c311_47 (x_iand c311_48 (x_zne c311_49 (H.2.2 h4).2.1 (fun h1 => (x_aldn c311_55 rfl (x_gfr c311_56 k_133_47 (x_ildn c311_59 rfl (x_ci c311_60 (x_ildn c311_61 rfl (x_ishl c311_62 (x_iast c311_63 a_156 ((H.2.2 h4).2.2.1 h1).1 (by decide) (x_aldn c311_64 rfl (wp_wk (l' := [some (jR 133), some (jI v1), some (jI v2), none]) ⟨rfl, ⟨rfl, ⟨rfl, trivial⟩⟩⟩ (x_cv (As := []) (st := []) c311_65 cl_133 kl313 rfl (Nat.le_of_ble_eq_true rfl) mx313 (Nat.le_refl _) ((H.2.2 h4).2.2.1 h1).2))))))))))) (fun h2 => (x_goto c311_52 (x_inc (l' := [some (jR 133), some (jI v1), some (jI (v2 + 1)), none]) c311_92 rfl rfl (x_goto c311_95 (wp_wk (l' := [some (jR 133), some (jI v1), some (jI (v2 + 1)), none]) ⟨rfl, ⟨rfl, ⟨rfl, trivial⟩⟩⟩ ((H.2.2 h4).2.2.2 h2))))))))))))))))))
theorem s311_68 {kc : List va_E} {d : Nat} {v1 v2 u0 : Int} {M : fx_M} {Q : Option fx_V → fx_M → Prop} (H : wc kc d 319 [jR 133] M (fun v M1 => wp kc (d + 1) 311 73 [some (jR 133), some (jI v1), some (jI v2), some (jI u0)] (v.toList ++ []) M1 Q)) : wp kc (d + 1) 311 68 [some (jR 133), some (jI v1), some (jI v2), none] [jI u0] M Q :=
  (x_istn (l' := [some (jR 133), some (jI v1), some (jI v2), some (jI u0)]) c311_68 rfl (x_aldn c311_69 rfl (wp_wk (l' := [some (jR 133), some (jI v1), some (jI v2), some (jI u0)]) ⟨rfl, ⟨rfl, ⟨rfl, ⟨rfl, trivial⟩⟩⟩⟩ (x_cv (As := []) (st := []) c311_70 cl_133 kl319 rfl (Nat.le_of_ble_eq_true rfl) mx319 (Nat.le_refl _) H))))
theorem s311_73 {kc : List va_E} {d : Nat} {v1 v2 v3 : Int} {M : fx_M} {Q : Option fx_V → fx_M → Prop} (H : ((fx_in32 v3)) ∧ (v3 = 0 → Q (some (jI 1)) (fx_up (fx_up M 133 51 v1) 133 52 v2)) ∧ (v3 ≠ 0 → wp kc (d + 1) 311 16 [some (jR 133), some (jI v1), some (jI (v2 + 1)), none] [] M Q)) : wp kc (d + 1) 311 73 [some (jR 133), some (jI v1), some (jI v2), some (jI v3)] [] M Q :=
  (x_ildn c311_73 rfl (x_zeq c311_74 H.1 (fun h1 => (x_aldn c311_80 rfl (x_ildn c311_81 rfl (x_pfi c311_82 k_133_51 (x_aldn c311_85 rfl (x_ildn c311_86 rfl (x_pfi c311_87 k_133_52 (x_ci c311_90 (x_zrt c311_91 r311 (by decide) (H.2.1 h1)))))))))) (fun h2 => (x_goto c311_77 (x_inc (l' := [some (jR 133), some (jI v1), some (jI (v2 + 1)), some (jI v3)]) c311_92 rfl rfl (x_goto c311_95 (wp_wk (l' := [some (jR 133), some (jI v1), some (jI (v2 + 1)), none]) ⟨rfl, ⟨rfl, ⟨rfl, trivial⟩⟩⟩ (H.2.2 h2))))))))
theorem s311 {kc : List va_E} {d : Nat} {M : fx_M} {Q : Option fx_V → fx_M → Prop} (H : wc kc d 312 [jR 133] M (fun v M1 => wp kc (d + 1) 311 4 [some (jR 133), none, none, none] (v.toList ++ []) M1 Q)) : wc kc (d + 1) 311 [jR 133] M Q :=
  wc_of (wp_wk (l' := [some (jR 133), none, none, none]) ⟨rfl, trivial⟩ (s311_0 H))

/- PuzzleHouseModel.keepStanding()V -/
theorem c312_0 : fx_ci 312 0 = some (0, 1) := by decide +kernel
theorem c312_1 : fx_op 312 1 = some (.istore_n 1, 2, 1) := by decide +kernel
theorem c312_2 : fx_op 312 2 = some (.iload_n 1, 3, 2) := by decide +kernel
theorem c312_3 : fx_ci 312 3 = some (9, 5) := by decide +kernel
theorem c312_5 : fx_op 312 5 = some (.if_icmp .ge 21, 8, 26) := by decide +kernel
theorem c312_8 : fx_op 312 8 = some (.aload_n 0, 9, 8) := by decide +kernel
theorem c312_9 : fx_gf 312 9 = some (12, 67, 12) := by decide +kernel
theorem c312_12 : fx_op 312 12 = some (.iload_n 1, 13, 12) := by decide +kernel
theorem c312_13 : fx_op 312 13 = some (.aload_n 0, 14, 13) := by decide +kernel
theorem c312_14 : fx_gf 312 14 = some (12, 47, 17) := by decide +kernel
theorem c312_17 : fx_op 312 17 = some (.iload_n 1, 18, 17) := by decide +kernel
theorem c312_18 : fx_op 312 18 = some (.iaload, 19, 18) := by decide +kernel
theorem c312_20 : fx_op 312 20 = some (.iinc 1 1, 23, 20) := by decide +kernel
theorem c312_26 : fx_op 312 26 = some (.return_, 27, 26) := by decide +kernel
theorem c312_19 : fx_op 312 19 = some (.iastore, 20, 19) := by decide +kernel
theorem c312_23 : fx_op 312 23 = some (.goto (-21), 26, 2) := by decide +kernel
theorem s312_0 {kc : List va_E} {d : Nat} {M : fx_M} {Q : Option fx_V → fx_M → Prop} (H : wp kc (d + 1) 312 2 [some (jR 133), some (jI 0)] [] M Q) : wp kc (d + 1) 312 0 [some (jR 133), none] [] M Q :=
  (x_ci c312_0 (x_istn (l' := [some (jR 133), some (jI 0)]) c312_1 rfl (wp_wk (l' := [some (jR 133), some (jI 0)]) ⟨rfl, ⟨rfl, trivial⟩⟩ H)))
theorem s312_2 {kc : List va_E} {d : Nat} {v1 : Int} {M : fx_M} {Q : Option fx_V → fx_M → Prop} (H : ((fx_in32 v1)) ∧ (9 ≤ v1 → Q none M) ∧ (v1 < 9 → (((0 : Int) ≤ v1 ∧ v1 < 9)) ∧ (((0 : Int) ≤ v1 ∧ v1 < 9)) ∧ wp kc (d + 1) 312 2 [some (jR 133), some (jI (v1 + 1))] [] (fx_up M 165 v1 (M 156 v1)) Q)) : wp kc (d + 1) 312 2 [some (jR 133), some (jI v1)] [] M Q :=
  (x_ildn c312_2 rfl (x_ci c312_3 (x_cge c312_5 H.1 (by decide) (fun h1 => (x_vr c312_26 r312 (H.2.1 h1))) (fun h2 => (x_aldn c312_8 rfl (x_gfr c312_9 k_133_67 (x_ildn c312_12 rfl (x_aldn c312_13 rfl (x_gfr c312_14 k_133_47 (x_ildn c312_17 rfl (x_iald c312_18 a_156 (H.2.2 h2).1 (by decide) (x_iast c312_19 a_165 (H.2.2 h2).2.1 (by decide) (x_inc (l' := [some (jR 133), some (jI (v1 + 1))]) c312_20 rfl rfl (x_goto c312_23 (wp_wk (l' := [some (jR 133), some (jI (v1 + 1))]) ⟨rfl, ⟨rfl, trivial⟩⟩ (H.2.2 h2).2.2)))))))))))))))
theorem s312 {kc : List va_E} {d : Nat} {M : fx_M} {Q : Option fx_V → fx_M → Prop} (H : wp kc (d + 1) 312 2 [some (jR 133), some (jI 0)] [] M Q) : wc kc (d + 1) 312 [jR 133] M Q :=
  wc_of (wp_wk (l' := [some (jR 133), none]) ⟨rfl, trivial⟩ (s312_0 H))

/- PuzzleHouseModel.goOn()Z -/
theorem c313_0 : fx_op 313 0 = some (.aload_n 0, 1, 0) := by decide +kernel
theorem c313_1 : fx_ca 313 1 = some (314, 1, 2, 4) := by decide +kernel
theorem c313_4 : fx_op 313 4 = some (.ifCond .eq 28, 7, 32) := by decide +kernel
theorem c313_7 : fx_op 313 7 = some (.aload_n 0, 8, 7) := by decide +kernel
theorem c313_32 : fx_op 313 32 = some (.aload_n 0, 33, 32) := by decide +kernel
theorem c313_33 : fx_ca 313 33 = some (314, 1, 2, 36) := by decide +kernel
theorem c313_8 : fx_ca 313 8 = some (307, 1, 2, 11) := by decide +kernel
theorem c313_36 : fx_op 313 36 = some (.ireturn, 37, 36) := by decide +kernel
theorem c313_11 : fx_op 313 11 = some (.ifCond .eq 21, 14, 32) := by decide +kernel
theorem c313_14 : fx_op 313 14 = some (.aload_n 0, 15, 14) := by decide +kernel
theorem c313_15 : fx_gf 313 15 = some (12, 56, 18) := by decide +kernel
theorem c313_18 : fx_op 313 18 = some (.ifCond .eq 7, 21, 25) := by decide +kernel
theorem c313_25 : fx_op 313 25 = some (.aload_n 0, 26, 25) := by decide +kernel
theorem c313_21 : fx_op 313 21 = some (.aload_n 0, 22, 21) := by decide +kernel
theorem c313_26 : fx_ca 313 26 = some (318, 1, 2, 29) := by decide +kernel
theorem c313_22 : fx_ca 313 22 = some (315, 1, 2, 25) := by decide +kernel
theorem c313_29 : fx_op 313 29 = some (.goto (-29), 32, 0) := by decide +kernel
theorem s313_0 {kc : List va_E} {d : Nat} {M : fx_M} {Q : Option fx_V → fx_M → Prop} (H : wc kc d 314 [jR 133] M (fun v M1 => wp kc (d + 1) 313 4 [some (jR 133)] (v.toList ++ []) M1 Q)) : wp kc (d + 1) 313 0 [some (jR 133)] [] M Q :=
  (x_aldn c313_0 rfl (wp_wk (l' := [some (jR 133)]) ⟨rfl, trivial⟩ (x_cv (As := []) (st := []) c313_1 cl_133 kl314 rfl (Nat.le_of_ble_eq_true rfl) mx314 (Nat.le_refl _) H)))
theorem s313_4 {kc : List va_E} {d : Nat} {u0 : Int} {M : fx_M} {Q : Option fx_V → fx_M → Prop} (H : ((fx_in32 u0)) ∧ (u0 = 0 → wc kc d 314 [jR 133] M (fun v M1 => wp kc (d + 1) 313 36 [none] (v.toList ++ []) M1 Q)) ∧ (u0 ≠ 0 → wc kc d 307 [jR 133] M (fun v M1 => wp kc (d + 1) 313 11 [some (jR 133)] (v.toList ++ []) M1 Q))) : wp kc (d + 1) 313 4 [some (jR 133)] [jI u0] M Q :=
  (x_zeq c313_4 H.1 (fun h1 => (x_aldn c313_32 rfl (wp_wk (l' := [none]) trivial (x_cv (As := []) (st := []) c313_33 cl_133 kl314 rfl (Nat.le_of_ble_eq_true rfl) mx314 (Nat.le_refl _) (H.2.1 h1))))) (fun h2 => (x_aldn c313_7 rfl (wp_wk (l' := [some (jR 133)]) ⟨rfl, trivial⟩ (x_cv (As := []) (st := []) c313_8 cl_133 kl307 rfl (Nat.le_of_ble_eq_true rfl) mx307 (Nat.le_refl _) (H.2.2 h2))))))
theorem s313_11 {kc : List va_E} {d : Nat} {u0 : Int} {M : fx_M} {Q : Option fx_V → fx_M → Prop} (H : ((fx_in32 u0)) ∧ (u0 = 0 → wc kc d 314 [jR 133] M (fun v M1 => wp kc (d + 1) 313 36 [none] (v.toList ++ []) M1 Q)) ∧ (u0 ≠ 0 → ((fx_in32 (M 133 56))) ∧ (M 133 56 = 0 → wc kc d 318 [jR 133] M (fun v M1 => wp kc (d + 1) 313 29 [some (jR 133)] (v.toList ++ []) M1 Q)) ∧ (M 133 56 ≠ 0 → wc kc d 315 [jR 133] M (fun v M1 => wp kc (d + 1) 313 25 [some (jR 133)] (v.toList ++ []) M1 Q)))) : wp kc (d + 1) 313 11 [some (jR 133)] [jI u0] M Q :=
  (x_zeq c313_11 H.1 (fun h3 => (x_aldn c313_32 rfl (wp_wk (l' := [none]) trivial (x_cv (As := []) (st := []) c313_33 cl_133 kl314 rfl (Nat.le_of_ble_eq_true rfl) mx314 (Nat.le_refl _) (H.2.1 h3))))) (fun h4 => (x_aldn c313_14 rfl (x_gfi c313_15 k_133_56 (x_zeq c313_18 (H.2.2 h4).1 (fun h1 => (x_aldn c313_25 rfl (wp_wk (l' := [some (jR 133)]) ⟨rfl, trivial⟩ (x_cv (As := []) (st := []) c313_26 cl_133 kl318 rfl (Nat.le_of_ble_eq_true rfl) mx318 (Nat.le_refl _) ((H.2.2 h4).2.1 h1))))) (fun h2 => (x_aldn c313_21 rfl (wp_wk (l' := [some (jR 133)]) ⟨rfl, trivial⟩ (x_cv (As := []) (st := []) c313_22 cl_133 kl315 rfl (Nat.le_of_ble_eq_true rfl) mx315 (Nat.le_refl _) ((H.2.2 h4).2.2 h2))))))))))
theorem s313_25 {kc : List va_E} {d : Nat} {M : fx_M} {Q : Option fx_V → fx_M → Prop} (H : wc kc d 318 [jR 133] M (fun v M1 => wp kc (d + 1) 313 29 [some (jR 133)] (v.toList ++ []) M1 Q)) : wp kc (d + 1) 313 25 [some (jR 133)] [] M Q :=
  (x_aldn c313_25 rfl (wp_wk (l' := [some (jR 133)]) ⟨rfl, trivial⟩ (x_cv (As := []) (st := []) c313_26 cl_133 kl318 rfl (Nat.le_of_ble_eq_true rfl) mx318 (Nat.le_refl _) H)))
theorem s313_29 {kc : List va_E} {d : Nat} {M : fx_M} {Q : Option fx_V → fx_M → Prop} (H : wp kc (d + 1) 313 0 [some (jR 133)] [] M Q) : wp kc (d + 1) 313 29 [some (jR 133)] [] M Q :=
  (x_goto c313_29 (wp_wk (l' := [some (jR 133)]) ⟨rfl, trivial⟩ H))
theorem s313_36 {kc : List va_E} {d : Nat} {u0 : Int} {M : fx_M} {Q : Option fx_V → fx_M → Prop} (H : ((0 : Int) ≤ u0 ∧ u0 ≤ 1) ∧ Q (some (jI u0)) M) : wp kc (d + 1) 313 36 [none] [jI u0] M Q :=
  (x_zrt c313_36 r313 H.1 H.2)
theorem s313 {kc : List va_E} {d : Nat} {M : fx_M} {Q : Option fx_V → fx_M → Prop} (H : wc kc d 314 [jR 133] M (fun v M1 => wp kc (d + 1) 313 4 [some (jR 133)] (v.toList ++ []) M1 Q)) : wc kc (d + 1) 313 [jR 133] M Q :=
  wc_of (wp_wk (l' := [some (jR 133)]) ⟨rfl, trivial⟩ (s313_0 H))

/- PuzzleHouseModel.canBe()Z -/
theorem c314_0 : fx_ci 314 0 = some (0, 1) := by decide +kernel
theorem c314_1 : fx_op 314 1 = some (.istore_n 1, 2, 1) := by decide +kernel
theorem c314_2 : fx_op 314 2 = some (.iload_n 1, 3, 2) := by decide +kernel
theorem c314_3 : fx_op 314 3 = some (.aload_n 0, 4, 3) := by decide +kernel
theorem c314_4 : fx_ca 314 4 = some (248, 1, 2, 7) := by decide +kernel
theorem c314_7 : fx_op 314 7 = some (.if_icmp .ge 20, 10, 27) := by decide +kernel
theorem c314_27 : fx_ci 314 27 = some (1, 28) := by decide +kernel
theorem c314_10 : fx_op 314 10 = some (.aload_n 0, 11, 10) := by decide +kernel
theorem c314_11 : fx_gf 314 11 = some (12, 47, 14) := by decide +kernel
theorem c314_14 : fx_op 314 14 = some (.iload_n 1, 15, 14) := by decide +kernel
theorem c314_16 : fx_op 314 16 = some (.ifCond .ne 5, 19, 21) := by decide +kernel
theorem c314_21 : fx_op 314 21 = some (.iinc 1 1, 24, 21) := by decide +kernel
theorem c314_19 : fx_ci 314 19 = some (0, 20) := by decide +kernel
theorem c314_28 : fx_op 314 28 = some (.ireturn, 29, 28) := by decide +kernel
theorem c314_15 : fx_op 314 15 = some (.iaload, 16, 15) := by decide +kernel
theorem c314_24 : fx_op 314 24 = some (.goto (-22), 27, 2) := by decide +kernel
theorem c314_20 : fx_op 314 20 = some (.ireturn, 21, 20) := by decide +kernel
theorem s314_0 {kc : List va_E} {d : Nat} {M : fx_M} {Q : Option fx_V → fx_M → Prop} (H : wp kc (d + 1) 314 2 [some (jR 133), some (jI 0)] [] M Q) : wp kc (d + 1) 314 0 [some (jR 133), none] [] M Q :=
  (x_ci c314_0 (x_istn (l' := [some (jR 133), some (jI 0)]) c314_1 rfl (wp_wk (l' := [some (jR 133), some (jI 0)]) ⟨rfl, ⟨rfl, trivial⟩⟩ H)))
theorem s314_2 {kc : List va_E} {d : Nat} {v1 : Int} {M : fx_M} {Q : Option fx_V → fx_M → Prop} (H : wc kc d 248 [jR 133] M (fun v M1 => wp kc (d + 1) 314 7 [some (jR 133), some (jI v1)] (v.toList ++ [jI v1]) M1 Q)) : wp kc (d + 1) 314 2 [some (jR 133), some (jI v1)] [] M Q :=
  (x_ildn c314_2 rfl (x_aldn c314_3 rfl (wp_wk (l' := [some (jR 133), some (jI v1)]) ⟨rfl, ⟨rfl, trivial⟩⟩ (x_cv (As := []) (st := [jI v1]) c314_4 cl_133 kl248 rfl (Nat.le_of_ble_eq_true rfl) mx248 (Nat.le_refl _) H))))
theorem s314_7 {kc : List va_E} {d : Nat} {v1 u0 u1 : Int} {M : fx_M} {Q : Option fx_V → fx_M → Prop} (H : ((fx_in32 u1) ∧ (fx_in32 u0)) ∧ (u0 ≤ u1 → Q (some (jI 1)) M) ∧ (u1 < u0 → (((0 : Int) ≤ v1 ∧ v1 < 9)) ∧ ((fx_in32 (M 156 v1))) ∧ (M 156 v1 ≠ 0 → wp kc (d + 1) 314 2 [some (jR 133), some (jI (v1 + 1))] [] M Q) ∧ (M 156 v1 = 0 → Q (some (jI 0)) M))) : wp kc (d + 1) 314 7 [some (jR 133), some (jI v1)] [jI u0, jI u1] M Q :=
  (x_cge c314_7 H.1.1 H.1.2 (fun h3 => (x_ci c314_27 (x_zrt c314_28 r314 (by decide) (H.2.1 h3)))) (fun h4 => (x_aldn c314_10 rfl (x_gfr c314_11 k_133_47 (x_ildn c314_14 rfl (x_iald c314_15 a_156 (H.2.2 h4).1 (by decide) (x_zne c314_16 (H.2.2 h4).2.1 (fun h1 => (x_inc (l' := [some (jR 133), some (jI (v1 + 1))]) c314_21 rfl rfl (x_goto c314_24 (wp_wk (l' := [some (jR 133), some (jI (v1 + 1))]) ⟨rfl, ⟨rfl, trivial⟩⟩ ((H.2.2 h4).2.2.1 h1))))) (fun h2 => (x_ci c314_19 (x_zrt c314_20 r314 (by decide) ((H.2.2 h4).2.2.2 h2)))))))))))
theorem s314 {kc : List va_E} {d : Nat} {M : fx_M} {Q : Option fx_V → fx_M → Prop} (H : wp kc (d + 1) 314 2 [some (jR 133), some (jI 0)] [] M Q) : wc kc (d + 1) 314 [jR 133] M Q :=
  wc_of (wp_wk (l' := [some (jR 133), none]) ⟨rfl, trivial⟩ (s314_0 H))

/- PuzzleHouseModel.sayTaken()V -/
theorem c315_0 : fx_op 315 0 = some (.aload_n 0, 1, 0) := by decide +kernel
theorem c315_1 : fx_gf 315 1 = some (12, 57, 4) := by decide +kernel
theorem c315_4 : fx_op 315 4 = some (.ifCond .eq 4, 7, 8) := by decide +kernel
theorem c315_8 : fx_op 315 8 = some (.aload_n 0, 9, 8) := by decide +kernel
theorem c315_9 : fx_op 315 9 = some (.aload_n 0, 10, 9) := by decide +kernel
theorem c315_10 : fx_gf 315 10 = some (12, 54, 13) := by decide +kernel
theorem c315_13 : fx_op 315 13 = some (.ifCond .ge 8, 16, 21) := by decide +kernel
theorem c315_21 : fx_ci 315 21 = some (119, 23) := by decide +kernel
theorem c315_16 : fx_ci 315 16 = some (114, 18) := by decide +kernel
theorem c315_18 : fx_op 315 18 = some (.goto 5, 21, 23) := by decide +kernel
theorem c315_23 : fx_ca 315 23 = some (254, 2, 2, 26) := by decide +kernel
theorem c315_7 : fx_op 315 7 = some (.return_, 8, 7) := by decide +kernel
theorem c315_26 : fx_op 315 26 = some (.aload_n 0, 27, 26) := by decide +kernel
theorem c315_27 : fx_op 315 27 = some (.aload_n 0, 28, 27) := by decide +kernel
theorem c315_28 : fx_gf 315 28 = some (12, 53, 31) := by decide +kernel
theorem c315_31 : fx_ca 315 31 = some (256, 2, 2, 34) := by decide +kernel
theorem c315_34 : fx_op 315 34 = some (.aload_n 0, 35, 34) := by decide +kernel
theorem c315_35 : fx_gf 315 35 = some (12, 54, 38) := by decide +kernel
theorem c315_38 : fx_op 315 38 = some (.ifCond .lt 11, 41, 49) := by decide +kernel
theorem c315_41 : fx_op 315 41 = some (.aload_n 0, 42, 41) := by decide +kernel
theorem c315_42 : fx_op 315 42 = some (.aload_n 0, 43, 42) := by decide +kernel
theorem c315_43 : fx_gf 315 43 = some (12, 54, 46) := by decide +kernel
theorem c315_49 : fx_op 315 49 = some (.aload_n 0, 50, 49) := by decide +kernel
theorem c315_50 : fx_ci 315 50 = some (0, 51) := by decide +kernel
theorem c315_51 : fx_op 315 51 = some (.aload_n 0, 52, 51) := by decide +kernel
theorem c315_52 : fx_gf 315 52 = some (12, 51, 55) := by decide +kernel
theorem c315_55 : fx_op 315 55 = some (.aload_n 0, 56, 55) := by decide +kernel
theorem c315_56 : fx_gf 315 56 = some (12, 52, 59) := by decide +kernel
theorem c315_59 : fx_ca 315 59 = some (316, 4, 2, 62) := by decide +kernel
theorem c315_46 : fx_ca 315 46 = some (255, 2, 2, 49) := by decide +kernel
theorem c315_62 : fx_ci 315 62 = some (0, 63) := by decide +kernel
theorem c315_63 : fx_op 315 63 = some (.istore_n 1, 64, 63) := by decide +kernel
theorem c315_64 : fx_op 315 64 = some (.iload_n 1, 65, 64) := by decide +kernel
theorem c315_65 : fx_op 315 65 = some (.aload_n 0, 66, 65) := by decide +kernel
theorem c315_66 : fx_gf 315 66 = some (12, 48, 69) := by decide +kernel
theorem c315_69 : fx_op 315 69 = some (.if_icmp .ge 62, 72, 131) := by decide +kernel
theorem c315_72 : fx_op 315 72 = some (.aload_n 0, 73, 72) := by decide +kernel
theorem c315_73 : fx_gf 315 73 = some (12, 49, 76) := by decide +kernel
theorem c315_76 : fx_op 315 76 = some (.iload_n 1, 77, 76) := by decide +kernel
theorem c315_77 : fx_op 315 77 = some (.iaload, 78, 77) := by decide +kernel
theorem c315_78 : fx_op 315 78 = some (.istore_n 2, 79, 78) := by decide +kernel
theorem c315_79 : fx_ci 315 79 = some (0, 80) := by decide +kernel
theorem c315_80 : fx_op 315 80 = some (.istore_n 3, 81, 80) := by decide +kernel
theorem c315_131 : fx_op 315 131 = some (.aload_n 0, 132, 131) := by decide +kernel
theorem c315_132 : fx_ca 315 132 = some (317, 1, 2, 135) := by decide +kernel
theorem c315_81 : fx_op 315 81 = some (.iload_n 3, 82, 81) := by decide +kernel
theorem c315_82 : fx_op 315 82 = some (.aload_n 0, 83, 82) := by decide +kernel
theorem c315_83 : fx_gf 315 83 = some (12, 39, 86) := by decide +kernel
theorem c315_86 : fx_ci 315 86 = some (0, 87) := by decide +kernel
theorem c315_87 : fx_op 315 87 = some (.iaload, 88, 87) := by decide +kernel
theorem c315_88 : fx_op 315 88 = some (.if_icmp .ge 37, 91, 125) := by decide +kernel
theorem c315_91 : fx_op 315 91 = some (.iload_n 2, 92, 91) := by decide +kernel
theorem c315_92 : fx_op 315 92 = some (.aload_n 0, 93, 92) := by decide +kernel
theorem c315_93 : fx_gf 315 93 = some (12, 51, 96) := by decide +kernel
theorem c315_96 : fx_op 315 96 = some (.if_icmp .eq 29, 99, 125) := by decide +kernel
theorem c315_99 : fx_op 315 99 = some (.aload_n 0, 100, 99) := by decide +kernel
theorem c315_100 : fx_gf 315 100 = some (12, 47, 103) := by decide +kernel
theorem c315_103 : fx_op 315 103 = some (.iload_n 2, 104, 103) := by decide +kernel
theorem c315_104 : fx_op 315 104 = some (.iaload, 105, 104) := by decide +kernel
theorem c315_105 : fx_op 315 105 = some (.iload_n 3, 106, 105) := by decide +kernel
theorem c315_106 : fx_op 315 106 = some (.ishr, 107, 106) := by decide +kernel
theorem c315_107 : fx_ci 315 107 = some (1, 108) := by decide +kernel
theorem c315_108 : fx_op 315 108 = some (.iand, 109, 108) := by decide +kernel
theorem c315_109 : fx_op 315 109 = some (.ifCond .ne 10, 112, 119) := by decide +kernel
theorem c315_119 : fx_op 315 119 = some (.iinc 3 1, 122, 119) := by decide +kernel
theorem c315_125 : fx_op 315 125 = some (.iinc 1 1, 128, 125) := by decide +kernel
theorem c315_112 : fx_op 315 112 = some (.aload_n 0, 113, 112) := by decide +kernel
theorem c315_113 : fx_ci 315 113 = some (1, 114) := by decide +kernel
theorem c315_114 : fx_op 315 114 = some (.iload_n 2, 115, 114) := by decide +kernel
theorem c315_115 : fx_op 315 115 = some (.iload_n 3, 116, 115) := by decide +kernel
theorem c315_128 : fx_op 315 128 = some (.goto (-64), 131, 64) := by decide +kernel
theorem c315_122 : fx_op 315 122 = some (.goto (-41), 125, 81) := by decide +kernel
theorem c315_116 : fx_ca 315 116 = some (316, 4, 2, 119) := by decide +kernel
theorem c315_135 : fx_op 315 135 = some (.return_, 136, 135) := by decide +kernel
theorem s315_0 {kc : List va_E} {d : Nat} {M : fx_M} {Q : Option fx_V → fx_M → Prop} (H : ((fx_in32 (M 133 57))) ∧ (M 133 57 = 0 → ((fx_in32 (M 133 54))) ∧ wc kc d 254 [jR 133, jI (if M 133 54 < 0 then (114 : Int) else 119)] M (fun v M1 => wp kc (d + 1) 315 26 [some (jR 133), none, none, none] (v.toList ++ []) M1 Q)) ∧ (M 133 57 ≠ 0 → Q none M)) : wp kc (d + 1) 315 0 [some (jR 133), none, none, none] [] M Q :=
  (x_aldn c315_0 rfl (x_gfi c315_1 k_133_57 (x_zeq c315_4 H.1 (fun h1 => (x_aldn c315_8 rfl (x_aldn c315_9 rfl (x_gfi c315_10 k_133_54 (have K : wp kc (d + 1) 315 23 [some (jR 133), none, none, none] [jI (if M 133 54 < 0 then (114 : Int) else 119), jR 133] M Q := (wp_wk (l' := [some (jR 133), none, none, none]) ⟨rfl, trivial⟩ (x_cv (As := [jI (if M 133 54 < 0 then (114 : Int) else 119)]) (st := []) c315_23 cl_133 kl254 rfl (Nat.le_of_ble_eq_true rfl) mx254 (Nat.le_refl _) (H.2.1 h1).2)); (x_zge c315_13 (H.2.1 h1).1 (fun (h3 : 0 ≤ M 133 54) => (x_ci c315_21 (wp_wk (l' := [some (jR 133), none, none, none]) ⟨rfl, trivial⟩ (by have K := K; first | (simp only [if_neg (Int.not_lt.mpr h3)] at K ⊢; exact K) | (exfalso; omega))))) (fun (h4 : M 133 54 < 0) => (x_ci c315_16 (x_goto c315_18 (wp_wk (l' := [some (jR 133), none, none, none]) ⟨rfl, trivial⟩ (by have K := K; first | (simp only [if_pos h4] at K ⊢; exact K) | (exfalso; omega)))))))))))) (fun h2 => (x_vr c315_7 r315 (H.2.2 h2))))))
theorem s315_26 {kc : List va_E} {d : Nat} {M : fx_M} {Q : Option fx_V → fx_M → Prop} (H : wc kc d 256 [jR 133, jI (M 133 53)] M (fun v M1 => wp kc (d + 1) 315 34 [some (jR 133), none, none, none] (v.toList ++ []) M1 Q)) : wp kc (d + 1) 315 26 [some (jR 133), none, none, none] [] M Q :=
  (x_aldn c315_26 rfl (x_aldn c315_27 rfl (x_gfi c315_28 k_133_53 (wp_wk (l' := [some (jR 133), none, none, none]) ⟨rfl, trivial⟩ (x_cv (As := [jI (M 133 53)]) (st := []) c315_31 cl_133 kl256 rfl (Nat.le_of_ble_eq_true rfl) mx256 (Nat.le_refl _) H)))))
theorem s315_34 {kc : List va_E} {d : Nat} {M : fx_M} {Q : Option fx_V → fx_M → Prop} (H : ((fx_in32 (M 133 54))) ∧ (M 133 54 < 0 → wc kc d 316 [jR 133, jI 0, jI (M 133 51), jI (M 133 52)] M (fun v M1 => wp kc (d + 1) 315 62 [some (jR 133), none, none, none] (v.toList ++ []) M1 Q)) ∧ (0 ≤ M 133 54 → wc kc d 255 [jR 133, jI (M 133 54)] M (fun v M1 => wp kc (d + 1) 315 49 [some (jR 133), none, none, none] (v.toList ++ []) M1 Q))) : wp kc (d + 1) 315 34 [some (jR 133), none, none, none] [] M Q :=
  (x_aldn c315_34 rfl (x_gfi c315_35 k_133_54 (x_zlt c315_38 H.1 (fun h1 => (x_aldn c315_49 rfl (x_ci c315_50 (x_aldn c315_51 rfl (x_gfi c315_52 k_133_51 (x_aldn c315_55 rfl (x_gfi c315_56 k_133_52 (wp_wk (l' := [some (jR 133), none, none, none]) ⟨rfl, trivial⟩ (x_cv (As := [jI 0, jI (M 133 51), jI (M 133 52)]) (st := []) c315_59 cl_133 kl316 rfl (Nat.le_of_ble_eq_true rfl) mx316 (Nat.le_refl _) (H.2.1 h1)))))))))) (fun h2 => (x_aldn c315_41 rfl (x_aldn c315_42 rfl (x_gfi c315_43 k_133_54 (wp_wk (l' := [some (jR 133), none, none, none]) ⟨rfl, trivial⟩ (x_cv (As := [jI (M 133 54)]) (st := []) c315_46 cl_133 kl255 rfl (Nat.le_of_ble_eq_true rfl) mx255 (Nat.le_refl _) (H.2.2 h2))))))))))
theorem s315_49 {kc : List va_E} {d : Nat} {M : fx_M} {Q : Option fx_V → fx_M → Prop} (H : wc kc d 316 [jR 133, jI 0, jI (M 133 51), jI (M 133 52)] M (fun v M1 => wp kc (d + 1) 315 62 [some (jR 133), none, none, none] (v.toList ++ []) M1 Q)) : wp kc (d + 1) 315 49 [some (jR 133), none, none, none] [] M Q :=
  (x_aldn c315_49 rfl (x_ci c315_50 (x_aldn c315_51 rfl (x_gfi c315_52 k_133_51 (x_aldn c315_55 rfl (x_gfi c315_56 k_133_52 (wp_wk (l' := [some (jR 133), none, none, none]) ⟨rfl, trivial⟩ (x_cv (As := [jI 0, jI (M 133 51), jI (M 133 52)]) (st := []) c315_59 cl_133 kl316 rfl (Nat.le_of_ble_eq_true rfl) mx316 (Nat.le_refl _) H))))))))
theorem s315_62 {kc : List va_E} {d : Nat} {M : fx_M} {Q : Option fx_V → fx_M → Prop} (H : wp kc (d + 1) 315 64 [some (jR 133), some (jI 0), none, none] [] M Q) : wp kc (d + 1) 315 62 [some (jR 133), none, none, none] [] M Q :=
  (x_ci c315_62 (x_istn (l' := [some (jR 133), some (jI 0), none, none]) c315_63 rfl (wp_wk (l' := [some (jR 133), some (jI 0), none, none]) ⟨rfl, ⟨rfl, trivial⟩⟩ H)))
theorem s315_64 {kc : List va_E} {d : Nat} {v1 : Int} {M : fx_M} {Q : Option fx_V → fx_M → Prop} (H : ((fx_in32 v1) ∧ (fx_in32 (M 133 48))) ∧ (M 133 48 ≤ v1 → wc kc d 317 [jR 133] M (fun v M1 => wp kc (d + 1) 315 135 [none, none, none, none] (v.toList ++ []) M1 Q)) ∧ (v1 < M 133 48 → (((0 : Int) ≤ v1 ∧ v1 < 8)) ∧ wp kc (d + 1) 315 81 [some (jR 133), some (jI v1), some (jI (M 157 v1)), some (jI 0)] [] M Q)) : wp kc (d + 1) 315 64 [some (jR 133), some (jI v1), none, none] [] M Q :=
  (x_ildn c315_64 rfl (x_aldn c315_65 rfl (x_gfi c315_66 k_133_48 (x_cge c315_69 H.1.1 H.1.2 (fun h1 => (x_aldn c315_131 rfl (wp_wk (l' := [none, none, none, none]) trivial (x_cv (As := []) (st := []) c315_132 cl_133 kl317 rfl (Nat.le_of_ble_eq_true rfl) mx317 (Nat.le_refl _) (H.2.1 h1))))) (fun h2 => (x_aldn c315_72 rfl (x_gfr c315_73 k_133_49 (x_ildn c315_76 rfl (x_iald c315_77 a_157 (H.2.2 h2).1 (by decide) (x_istn (l' := [some (jR 133), some (jI v1), some (jI (M 157 v1)), none]) c315_78 rfl (x_ci c315_79 (x_istn (l' := [some (jR 133), some (jI v1), some (jI (M 157 v1)), some (jI 0)]) c315_80 rfl (wp_wk (l' := [some (jR 133), some (jI v1), some (jI (M 157 v1)), some (jI 0)]) ⟨rfl, ⟨rfl, ⟨rfl, ⟨rfl, trivial⟩⟩⟩⟩ (H.2.2 h2).2)))))))))))))
theorem s315_81 {kc : List va_E} {d : Nat} {v1 v2 v3 : Int} {M : fx_M} {Q : Option fx_V → fx_M → Prop} (H : ((fx_in32 v3) ∧ (fx_in32 (M 148 0))) ∧ (M 148 0 ≤ v3 → wp kc (d + 1) 315 64 [some (jR 133), some (jI (v1 + 1)), none, none] [] M Q) ∧ (v3 < M 148 0 → ((fx_in32 v2) ∧ (fx_in32 (M 133 51))) ∧ (v2 = M 133 51 → wp kc (d + 1) 315 64 [some (jR 133), some (jI (v1 + 1)), none, none] [] M Q) ∧ (v2 ≠ M 133 51 → (((0 : Int) ≤ v2 ∧ v2 < 9)) ∧ ((fx_in32 (fx_and (fx_shr (M 156 v2) v3) 1))) ∧ (fx_and (fx_shr (M 156 v2) v3) 1 ≠ 0 → wp kc (d + 1) 315 81 [some (jR 133), some (jI v1), some (jI v2), some (jI (v3 + 1))] [] M Q) ∧ (fx_and (fx_shr (M 156 v2) v3) 1 = 0 → wc kc d 316 [jR 133, jI 1, jI v2, jI v3] M (fun v M1 => wp kc (d + 1) 315 119 [some (jR 133), some (jI v1), some (jI v2), some (jI v3)] (v.toList ++ []) M1 Q))))) : wp kc (d + 1) 315 81 [some (jR 133), some (jI v1), some (jI v2), some (jI v3)] [] M Q :=
  (x_ildn c315_81 rfl (x_aldn c315_82 rfl (x_gfr c315_83 k_133_39 (x_ci c315_86 (x_iald c315_87 a_148 (by decide) (by decide) (x_cge c315_88 H.1.1 H.1.2 (fun h5 => (x_inc (l' := [some (jR 133), some (jI (v1 + 1)), some (jI v2), some (jI v3)]) c315_125 rfl rfl (x_goto c315_128 (wp_wk (l' := [some (jR 133), some (jI (v1 + 1)), none, none]) ⟨rfl, ⟨rfl, trivial⟩⟩ (H.2.1 h5))))) (fun h6 => (x_ildn c315_91 rfl (x_aldn c315_92 rfl (x_gfi c315_93 k_133_51 (x_ceq c315_96 (H.2.2 h6).1.1 (H.2.2 h6).1.2 (fun h3 => (x_inc (l' := [some (jR 133), some (jI (v1 + 1)), some (jI v2), some (jI v3)]) c315_125 rfl rfl (x_goto c315_128 (wp_wk (l' := [some (jR 133), some (jI (v1 + 1)), none, none]) ⟨rfl, ⟨rfl, trivial⟩⟩ ((H.2.2 h6).2.1 h3))))) (fun h4 => (x_aldn c315_99 rfl (x_gfr c315_100 k_133_47 (x_ildn c315_103 rfl (x_iald c315_104 a_156 ((H.2.2 h6).2.2 h4).1 (by decide) (x_ildn c315_105 rfl (x_ishr c315_106 (x_ci c315_107 (x_iand c315_108 (x_zne c315_109 ((H.2.2 h6).2.2 h4).2.1 (fun h1 => (x_inc (l' := [some (jR 133), some (jI v1), some (jI v2), some (jI (v3 + 1))]) c315_119 rfl rfl (x_goto c315_122 (wp_wk (l' := [some (jR 133), some (jI v1), some (jI v2), some (jI (v3 + 1))]) ⟨rfl, ⟨rfl, ⟨rfl, ⟨rfl, trivial⟩⟩⟩⟩ (((H.2.2 h6).2.2 h4).2.2.1 h1))))) (fun h2 => (x_aldn c315_112 rfl (x_ci c315_113 (x_ildn c315_114 rfl (x_ildn c315_115 rfl (wp_wk (l' := [some (jR 133), some (jI v1), some (jI v2), some (jI v3)]) ⟨rfl, ⟨rfl, ⟨rfl, ⟨rfl, trivial⟩⟩⟩⟩ (x_cv (As := [jI 1, jI v2, jI v3]) (st := []) c315_116 cl_133 kl316 rfl (Nat.le_of_ble_eq_true rfl) mx316 (Nat.le_refl _) (((H.2.2 h6).2.2 h4).2.2.2 h2)))))))))))))))))))))))))))))
theorem s315_119 {kc : List va_E} {d : Nat} {v1 v2 v3 : Int} {M : fx_M} {Q : Option fx_V → fx_M → Prop} (H : wp kc (d + 1) 315 81 [some (jR 133), some (jI v1), some (jI v2), some (jI (v3 + 1))] [] M Q) : wp kc (d + 1) 315 119 [some (jR 133), some (jI v1), some (jI v2), some (jI v3)] [] M Q :=
  (x_inc (l' := [some (jR 133), some (jI v1), some (jI v2), some (jI (v3 + 1))]) c315_119 rfl rfl (x_goto c315_122 (wp_wk (l' := [some (jR 133), some (jI v1), some (jI v2), some (jI (v3 + 1))]) ⟨rfl, ⟨rfl, ⟨rfl, ⟨rfl, trivial⟩⟩⟩⟩ H)))
theorem s315_135 {kc : List va_E} {d : Nat} {M : fx_M} {Q : Option fx_V → fx_M → Prop} (H : Q none M) : wp kc (d + 1) 315 135 [none, none, none, none] [] M Q :=
  (x_vr c315_135 r315 H)
theorem s315 {kc : List va_E} {d : Nat} {M : fx_M} {Q : Option fx_V → fx_M → Prop} (H : ((fx_in32 (M 133 57))) ∧ (M 133 57 = 0 → ((fx_in32 (M 133 54))) ∧ wc kc d 254 [jR 133, jI (if M 133 54 < 0 then (114 : Int) else 119)] M (fun v M1 => wp kc (d + 1) 315 26 [some (jR 133), none, none, none] (v.toList ++ []) M1 Q)) ∧ (M 133 57 ≠ 0 → Q none M)) : wc kc (d + 1) 315 [jR 133] M Q :=
  wc_of (wp_wk (l' := [some (jR 133), none, none, none]) ⟨rfl, trivial⟩ (s315_0 H))

/- PuzzleHouseModel.sayLiteral(ZII)V -/
theorem c316_0 : fx_op 316 0 = some (.aload_n 0, 1, 0) := by decide +kernel
theorem c316_1 : fx_ci 316 1 = some (32, 3) := by decide +kernel
theorem c316_3 : fx_ca 316 3 = some (254, 2, 2, 6) := by decide +kernel
theorem c316_6 : fx_op 316 6 = some (.aload_n 0, 7, 6) := by decide +kernel
theorem c316_7 : fx_op 316 7 = some (.iload_n 1, 8, 7) := by decide +kernel
theorem c316_8 : fx_op 316 8 = some (.ifCond .eq 8, 11, 16) := by decide +kernel
theorem c316_16 : fx_ci 316 16 = some (45, 18) := by decide +kernel
theorem c316_11 : fx_ci 316 11 = some (43, 13) := by decide +kernel
theorem c316_13 : fx_op 316 13 = some (.goto 5, 16, 18) := by decide +kernel
theorem c316_18 : fx_ca 316 18 = some (254, 2, 2, 21) := by decide +kernel
theorem c316_21 : fx_op 316 21 = some (.aload_n 0, 22, 21) := by decide +kernel
theorem c316_22 : fx_op 316 22 = some (.iload_n 2, 23, 22) := by decide +kernel
theorem c316_23 : fx_ca 316 23 = some (256, 2, 2, 26) := by decide +kernel
theorem c316_26 : fx_op 316 26 = some (.aload_n 0, 27, 26) := by decide +kernel
theorem c316_27 : fx_ci 316 27 = some (46, 29) := by decide +kernel
theorem c316_29 : fx_ca 316 29 = some (254, 2, 2, 32) := by decide +kernel
theorem c316_32 : fx_op 316 32 = some (.aload_n 0, 33, 32) := by decide +kernel
theorem c316_33 : fx_op 316 33 = some (.iload_n 3, 34, 33) := by decide +kernel
theorem c316_34 : fx_ca 316 34 = some (256, 2, 2, 37) := by decide +kernel
theorem c316_37 : fx_op 316 37 = some (.return_, 38, 37) := by decide +kernel
theorem s316_0 {kc : List va_E} {d : Nat} {x1 x2 x3 : Int} {M : fx_M} {Q : Option fx_V → fx_M → Prop} (H : wc kc d 254 [jR 133, jI 32] M (fun v M1 => wp kc (d + 1) 316 6 [some (jR 133), some (jI x1), some (jI x2), some (jI x3)] (v.toList ++ []) M1 Q)) : wp kc (d + 1) 316 0 [some (jR 133), some (jI x1), some (jI x2), some (jI x3)] [] M Q :=
  (x_aldn c316_0 rfl (x_ci c316_1 (wp_wk (l' := [some (jR 133), some (jI x1), some (jI x2), some (jI x3)]) ⟨rfl, ⟨rfl, ⟨rfl, ⟨rfl, trivial⟩⟩⟩⟩ (x_cv (As := [jI 32]) (st := []) c316_3 cl_133 kl254 rfl (Nat.le_of_ble_eq_true rfl) mx254 (Nat.le_refl _) H))))
theorem s316_6 {kc : List va_E} {d : Nat} {v1 v2 v3 : Int} {M : fx_M} {Q : Option fx_V → fx_M → Prop} (H : ((fx_in32 v1)) ∧ wc kc d 254 [jR 133, jI (if v1 = 0 then (45 : Int) else 43)] M (fun v M1 => wp kc (d + 1) 316 21 [some (jR 133), none, some (jI v2), some (jI v3)] (v.toList ++ []) M1 Q)) : wp kc (d + 1) 316 6 [some (jR 133), some (jI v1), some (jI v2), some (jI v3)] [] M Q :=
  (x_aldn c316_6 rfl (x_ildn c316_7 rfl (have K : wp kc (d + 1) 316 18 [some (jR 133), none, some (jI v2), some (jI v3)] [jI (if v1 = 0 then (45 : Int) else 43), jR 133] M Q := (wp_wk (l' := [some (jR 133), none, some (jI v2), some (jI v3)]) ⟨rfl, ⟨rfl, ⟨rfl, trivial⟩⟩⟩ (x_cv (As := [jI (if v1 = 0 then (45 : Int) else 43)]) (st := []) c316_18 cl_133 kl254 rfl (Nat.le_of_ble_eq_true rfl) mx254 (Nat.le_refl _) H.2)); (x_zeq c316_8 H.1 (fun (h1 : v1 = 0) => (x_ci c316_16 (wp_wk (l' := [some (jR 133), none, some (jI v2), some (jI v3)]) ⟨rfl, ⟨rfl, ⟨rfl, trivial⟩⟩⟩ (by have K := K; first | (simp only [if_pos h1] at K ⊢; exact K) | (exfalso; omega))))) (fun (h2 : v1 ≠ 0) => (x_ci c316_11 (x_goto c316_13 (wp_wk (l' := [some (jR 133), none, some (jI v2), some (jI v3)]) ⟨rfl, ⟨rfl, ⟨rfl, trivial⟩⟩⟩ (by have K := K; first | (simp only [if_neg h2] at K ⊢; exact K) | (exfalso; omega))))))))))
theorem s316_21 {kc : List va_E} {d : Nat} {v2 v3 : Int} {M : fx_M} {Q : Option fx_V → fx_M → Prop} (H : wc kc d 256 [jR 133, jI v2] M (fun v M1 => wp kc (d + 1) 316 26 [some (jR 133), none, none, some (jI v3)] (v.toList ++ []) M1 Q)) : wp kc (d + 1) 316 21 [some (jR 133), none, some (jI v2), some (jI v3)] [] M Q :=
  (x_aldn c316_21 rfl (x_ildn c316_22 rfl (wp_wk (l' := [some (jR 133), none, none, some (jI v3)]) ⟨rfl, ⟨rfl, trivial⟩⟩ (x_cv (As := [jI v2]) (st := []) c316_23 cl_133 kl256 rfl (Nat.le_of_ble_eq_true rfl) mx256 (Nat.le_refl _) H))))
theorem s316_26 {kc : List va_E} {d : Nat} {v3 : Int} {M : fx_M} {Q : Option fx_V → fx_M → Prop} (H : wc kc d 254 [jR 133, jI 46] M (fun v M1 => wp kc (d + 1) 316 32 [some (jR 133), none, none, some (jI v3)] (v.toList ++ []) M1 Q)) : wp kc (d + 1) 316 26 [some (jR 133), none, none, some (jI v3)] [] M Q :=
  (x_aldn c316_26 rfl (x_ci c316_27 (wp_wk (l' := [some (jR 133), none, none, some (jI v3)]) ⟨rfl, ⟨rfl, trivial⟩⟩ (x_cv (As := [jI 46]) (st := []) c316_29 cl_133 kl254 rfl (Nat.le_of_ble_eq_true rfl) mx254 (Nat.le_refl _) H))))
theorem s316_32 {kc : List va_E} {d : Nat} {v3 : Int} {M : fx_M} {Q : Option fx_V → fx_M → Prop} (H : wc kc d 256 [jR 133, jI v3] M (fun v M1 => wp kc (d + 1) 316 37 [none, none, none, none] (v.toList ++ []) M1 Q)) : wp kc (d + 1) 316 32 [some (jR 133), none, none, some (jI v3)] [] M Q :=
  (x_aldn c316_32 rfl (x_ildn c316_33 rfl (wp_wk (l' := [none, none, none, none]) trivial (x_cv (As := [jI v3]) (st := []) c316_34 cl_133 kl256 rfl (Nat.le_of_ble_eq_true rfl) mx256 (Nat.le_refl _) H))))
theorem s316_37 {kc : List va_E} {d : Nat} {M : fx_M} {Q : Option fx_V → fx_M → Prop} (H : Q none M) : wp kc (d + 1) 316 37 [none, none, none, none] [] M Q :=
  (x_vr c316_37 r316 H)
theorem s316 {kc : List va_E} {d : Nat} {x1 x2 x3 : Int} {M : fx_M} {Q : Option fx_V → fx_M → Prop} (H : wc kc d 254 [jR 133, jI 32] M (fun v M1 => wp kc (d + 1) 316 6 [some (jR 133), some (jI x1), some (jI x2), some (jI x3)] (v.toList ++ []) M1 Q)) : wc kc (d + 1) 316 [jR 133, jI x1, jI x2, jI x3] M Q :=
  wc_of (wp_wk (l' := [some (jR 133), some (jI x1), some (jI x2), some (jI x3)]) ⟨rfl, ⟨rfl, ⟨rfl, ⟨rfl, trivial⟩⟩⟩⟩ (s316_0 H))

/- PuzzleHouseModel.endLine()V -/
theorem c317_0 : fx_op 317 0 = some (.aload_n 0, 1, 0) := by decide +kernel
theorem c317_1 : fx_ci 317 1 = some (59, 3) := by decide +kernel
theorem c317_3 : fx_ca 317 3 = some (254, 2, 2, 6) := by decide +kernel
theorem c317_6 : fx_op 317 6 = some (.aload_n 0, 7, 6) := by decide +kernel
theorem c317_7 : fx_op 317 7 = some (.aload_n 0, 8, 7) := by decide +kernel
theorem c317_8 : fx_gf 317 8 = some (12, 57, 11) := by decide +kernel
theorem c317_11 : fx_op 317 11 = some (.ifCond .ne 13, 14, 24) := by decide +kernel
theorem c317_24 : fx_ci 317 24 = some (1, 25) := by decide +kernel
theorem c317_25 : fx_op 317 25 = some (.goto 4, 28, 29) := by decide +kernel
theorem c317_14 : fx_op 317 14 = some (.aload_n 0, 15, 14) := by decide +kernel
theorem c317_15 : fx_gf 317 15 = some (12, 5, 18) := by decide +kernel
theorem c317_18 : fx_ci 317 18 = some (3000, 21) := by decide +kernel
theorem c317_21 : fx_op 317 21 = some (.if_icmp .le 7, 24, 28) := by decide +kernel
theorem c317_28 : fx_ci 317 28 = some (0, 29) := by decide +kernel
theorem c317_29 : fx_pf 317 29 = some (12, 57, 2, 32) := by decide +kernel
theorem c317_32 : fx_op 317 32 = some (.return_, 33, 32) := by decide +kernel
theorem s317_0 {kc : List va_E} {d : Nat} {M : fx_M} {Q : Option fx_V → fx_M → Prop} (H : wc kc d 254 [jR 133, jI 59] M (fun v M1 => wp kc (d + 1) 317 6 [some (jR 133)] (v.toList ++ []) M1 Q)) : wp kc (d + 1) 317 0 [some (jR 133)] [] M Q :=
  (x_aldn c317_0 rfl (x_ci c317_1 (wp_wk (l' := [some (jR 133)]) ⟨rfl, trivial⟩ (x_cv (As := [jI 59]) (st := []) c317_3 cl_133 kl254 rfl (Nat.le_of_ble_eq_true rfl) mx254 (Nat.le_refl _) H))))
theorem s317_6 {kc : List va_E} {d : Nat} {M : fx_M} {Q : Option fx_V → fx_M → Prop} (H : ((fx_in32 (M 133 57))) ∧ (M 133 57 = 0 → (fx_in32 (M 133 5))) ∧ (((0 : Int) ≤ (if M 133 57 = 0 then ((if 3000 < M 133 5 then (1 : Int) else 0) : Int) else 1) ∧ (if M 133 57 = 0 then ((if 3000 < M 133 5 then (1 : Int) else 0) : Int) else 1) ≤ 1)) ∧ Q none (fx_up M 133 57 (if M 133 57 = 0 then ((if 3000 < M 133 5 then (1 : Int) else 0) : Int) else 1))) : wp kc (d + 1) 317 6 [some (jR 133)] [] M Q :=
  (x_aldn c317_6 rfl (x_aldn c317_7 rfl (x_gfi c317_8 k_133_57 (have K : wp kc (d + 1) 317 29 [none] [jI (if M 133 57 = 0 then ((if 3000 < M 133 5 then (1 : Int) else 0) : Int) else 1), jR 133] M Q := (x_pfz c317_29 k_133_57 H.2.2.1 (x_vr c317_32 r317 H.2.2.2)); (x_zne c317_11 H.1 (fun (h1 : M 133 57 ≠ 0) => (x_ci c317_24 (x_goto c317_25 (wp_wk (l' := [none]) trivial (by have K := K; first | (simp only [if_neg h1] at K ⊢; exact K) | (exfalso; omega)))))) (fun (h2 : M 133 57 = 0) => (x_aldn c317_14 rfl (x_gfi c317_15 k_133_5 (x_ci c317_18 (x_cle c317_21 (H.2.1 h2) (by decide) (fun (h3 : M 133 5 ≤ 3000) => (x_ci c317_28 (wp_wk (l' := [none]) trivial (by have K := K; first | (simp only [if_pos h2, if_neg (Int.not_lt.mpr h3)] at K ⊢; exact K) | (exfalso; omega))))) (fun (h4 : 3000 < M 133 5) => (x_ci c317_24 (x_goto c317_25 (wp_wk (l' := [none]) trivial (by have K := K; first | (simp only [if_pos h2, if_pos h4] at K ⊢; exact K) | (exfalso; omega))))))))))))))))
theorem s317 {kc : List va_E} {d : Nat} {M : fx_M} {Q : Option fx_V → fx_M → Prop} (H : wc kc d 254 [jR 133, jI 59] M (fun v M1 => wp kc (d + 1) 317 6 [some (jR 133)] (v.toList ++ []) M1 Q)) : wc kc (d + 1) 317 [jR 133] M Q :=
  wc_of (wp_wk (l' := [some (jR 133)]) ⟨rfl, trivial⟩ (s317_0 H))

/- PuzzleHouseModel.takeOut()V -/
theorem c318_0 : fx_op 318 0 = some (.aload_n 0, 1, 0) := by decide +kernel
theorem c318_1 : fx_gf 318 1 = some (12, 47, 4) := by decide +kernel
theorem c318_4 : fx_op 318 4 = some (.aload_n 0, 5, 4) := by decide +kernel
theorem c318_5 : fx_gf 318 5 = some (12, 51, 8) := by decide +kernel
theorem c318_8 : fx_op 318 8 = some (.aload_n 0, 9, 8) := by decide +kernel
theorem c318_9 : fx_gf 318 9 = some (12, 47, 12) := by decide +kernel
theorem c318_12 : fx_op 318 12 = some (.aload_n 0, 13, 12) := by decide +kernel
theorem c318_13 : fx_gf 318 13 = some (12, 51, 16) := by decide +kernel
theorem c318_17 : fx_ci 318 17 = some (1, 18) := by decide +kernel
theorem c318_18 : fx_op 318 18 = some (.aload_n 0, 19, 18) := by decide +kernel
theorem c318_19 : fx_gf 318 19 = some (12, 52, 22) := by decide +kernel
theorem c318_22 : fx_op 318 22 = some (.ishl, 23, 22) := by decide +kernel
theorem c318_23 : fx_ci 318 23 = some ((-1), 24) := by decide +kernel
theorem c318_24 : fx_op 318 24 = some (.ixor, 25, 24) := by decide +kernel
theorem c318_25 : fx_op 318 25 = some (.iand, 26, 25) := by decide +kernel
theorem c318_27 : fx_op 318 27 = some (.aload_n 0, 28, 27) := by decide +kernel
theorem c318_28 : fx_op 318 28 = some (.dup, 29, 28) := by decide +kernel
theorem c318_29 : fx_gf 318 29 = some (12, 59, 32) := by decide +kernel
theorem c318_32 : fx_ci 318 32 = some (1, 33) := by decide +kernel
theorem c318_33 : fx_op 318 33 = some (.iadd, 34, 33) := by decide +kernel
theorem c318_34 : fx_pf 318 34 = some (12, 59, 0, 37) := by decide +kernel
theorem c318_16 : fx_op 318 16 = some (.iaload, 17, 16) := by decide +kernel
theorem c318_26 : fx_op 318 26 = some (.iastore, 27, 26) := by decide +kernel
theorem c318_37 : fx_op 318 37 = some (.return_, 38, 37) := by decide +kernel
theorem s318_0 {kc : List va_E} {d : Nat} {M : fx_M} {Q : Option fx_V → fx_M → Prop} (H : (((0 : Int) ≤ M 133 51 ∧ M 133 51 < 9)) ∧ (((0 : Int) ≤ M 133 51 ∧ M 133 51 < 9)) ∧ Q none (fx_up (fx_up M 156 (M 133 51) (fx_and (M 156 (M 133 51)) (fx_xor (fx_shl 1 (M 133 52)) (-1)))) 133 59 ((M 133 59) + 1))) : wp kc (d + 1) 318 0 [some (jR 133)] [] M Q :=
  (x_aldn c318_0 rfl (x_gfr c318_1 k_133_47 (x_aldn c318_4 rfl (x_gfi c318_5 k_133_51 (x_aldn c318_8 rfl (x_gfr c318_9 k_133_47 (x_aldn c318_12 rfl (x_gfi c318_13 k_133_51 (x_iald c318_16 a_156 H.1 (by decide) (x_ci c318_17 (x_aldn c318_18 rfl (x_gfi c318_19 k_133_52 (x_ishl c318_22 (x_ci c318_23 (x_ixor c318_24 (x_iand c318_25 (x_iast c318_26 a_156 H.2.1 (by decide) (x_aldn c318_27 rfl (x_dupr c318_28 (x_gfi c318_29 k_133_59 (wp_vI (fx_upA (by decide)) (x_ci c318_32 (x_iadd c318_33 (x_pfi c318_34 k_133_59 (x_vr c318_37 r318 H.2.2)))))))))))))))))))))))))
theorem s318 {kc : List va_E} {d : Nat} {M : fx_M} {Q : Option fx_V → fx_M → Prop} (H : (((0 : Int) ≤ M 133 51 ∧ M 133 51 < 9)) ∧ (((0 : Int) ≤ M 133 51 ∧ M 133 51 < 9)) ∧ Q none (fx_up (fx_up M 156 (M 133 51) (fx_and (M 156 (M 133 51)) (fx_xor (fx_shl 1 (M 133 52)) (-1)))) 133 59 ((M 133 59) + 1))) : wc kc (d + 1) 318 [jR 133] M Q :=
  wc_of (wp_wk (l' := [some (jR 133)]) ⟨rfl, trivial⟩ (s318_0 H))

/- PuzzleHouseModel.takeStanding()V -/
theorem c319_0 : fx_ci 319 0 = some (0, 1) := by decide +kernel
theorem c319_1 : fx_op 319 1 = some (.istore_n 1, 2, 1) := by decide +kernel
theorem c319_2 : fx_op 319 2 = some (.iload_n 1, 3, 2) := by decide +kernel
theorem c319_3 : fx_ci 319 3 = some (9, 5) := by decide +kernel
theorem c319_5 : fx_op 319 5 = some (.if_icmp .ge 21, 8, 26) := by decide +kernel
theorem c319_8 : fx_op 319 8 = some (.aload_n 0, 9, 8) := by decide +kernel
theorem c319_9 : fx_gf 319 9 = some (12, 47, 12) := by decide +kernel
theorem c319_12 : fx_op 319 12 = some (.iload_n 1, 13, 12) := by decide +kernel
theorem c319_13 : fx_op 319 13 = some (.aload_n 0, 14, 13) := by decide +kernel
theorem c319_14 : fx_gf 319 14 = some (12, 67, 17) := by decide +kernel
theorem c319_17 : fx_op 319 17 = some (.iload_n 1, 18, 17) := by decide +kernel
theorem c319_18 : fx_op 319 18 = some (.iaload, 19, 18) := by decide +kernel
theorem c319_20 : fx_op 319 20 = some (.iinc 1 1, 23, 20) := by decide +kernel
theorem c319_26 : fx_op 319 26 = some (.return_, 27, 26) := by decide +kernel
theorem c319_19 : fx_op 319 19 = some (.iastore, 20, 19) := by decide +kernel
theorem c319_23 : fx_op 319 23 = some (.goto (-21), 26, 2) := by decide +kernel
theorem s319_0 {kc : List va_E} {d : Nat} {M : fx_M} {Q : Option fx_V → fx_M → Prop} (H : wp kc (d + 1) 319 2 [some (jR 133), some (jI 0)] [] M Q) : wp kc (d + 1) 319 0 [some (jR 133), none] [] M Q :=
  (x_ci c319_0 (x_istn (l' := [some (jR 133), some (jI 0)]) c319_1 rfl (wp_wk (l' := [some (jR 133), some (jI 0)]) ⟨rfl, ⟨rfl, trivial⟩⟩ H)))
theorem s319_2 {kc : List va_E} {d : Nat} {v1 : Int} {M : fx_M} {Q : Option fx_V → fx_M → Prop} (H : ((fx_in32 v1)) ∧ (9 ≤ v1 → Q none M) ∧ (v1 < 9 → (((0 : Int) ≤ v1 ∧ v1 < 9)) ∧ (((0 : Int) ≤ v1 ∧ v1 < 9)) ∧ wp kc (d + 1) 319 2 [some (jR 133), some (jI (v1 + 1))] [] (fx_up M 156 v1 (M 165 v1)) Q)) : wp kc (d + 1) 319 2 [some (jR 133), some (jI v1)] [] M Q :=
  (x_ildn c319_2 rfl (x_ci c319_3 (x_cge c319_5 H.1 (by decide) (fun h1 => (x_vr c319_26 r319 (H.2.1 h1))) (fun h2 => (x_aldn c319_8 rfl (x_gfr c319_9 k_133_47 (x_ildn c319_12 rfl (x_aldn c319_13 rfl (x_gfr c319_14 k_133_67 (x_ildn c319_17 rfl (x_iald c319_18 a_165 (H.2.2 h2).1 (by decide) (x_iast c319_19 a_156 (H.2.2 h2).2.1 (by decide) (x_inc (l' := [some (jR 133), some (jI (v1 + 1))]) c319_20 rfl rfl (x_goto c319_23 (wp_wk (l' := [some (jR 133), some (jI (v1 + 1))]) ⟨rfl, ⟨rfl, trivial⟩⟩ (H.2.2 h2).2.2)))))))))))))))
theorem s319 {kc : List va_E} {d : Nat} {M : fx_M} {Q : Option fx_V → fx_M → Prop} (H : wp kc (d + 1) 319 2 [some (jR 133), some (jI 0)] [] M Q) : wc kc (d + 1) 319 [jR 133] M Q :=
  wc_of (wp_wk (l' := [some (jR 133), none]) ⟨rfl, trivial⟩ (s319_0 H))

/- PuzzleHouseModel.cellOfChoice()I -/
theorem c320_0 : fx_ci 320 0 = some ((-1), 1) := by decide +kernel
theorem c320_1 : fx_op 320 1 = some (.istore_n 1, 2, 1) := by decide +kernel
theorem c320_2 : fx_ci 320 2 = some (0, 3) := by decide +kernel
theorem c320_3 : fx_op 320 3 = some (.istore_n 2, 4, 3) := by decide +kernel
theorem c320_4 : fx_op 320 4 = some (.iload_n 2, 5, 4) := by decide +kernel
theorem c320_5 : fx_op 320 5 = some (.aload_n 0, 6, 5) := by decide +kernel
theorem c320_6 : fx_ca 320 6 = some (248, 1, 2, 9) := by decide +kernel
theorem c320_9 : fx_op 320 9 = some (.if_icmp .ge 49, 12, 58) := by decide +kernel
theorem c320_12 : fx_op 320 12 = some (.aload_n 0, 13, 12) := by decide +kernel
theorem c320_13 : fx_gf 320 13 = some (12, 47, 16) := by decide +kernel
theorem c320_16 : fx_op 320 16 = some (.iload_n 2, 17, 16) := by decide +kernel
theorem c320_17 : fx_op 320 17 = some (.iaload, 18, 17) := by decide +kernel
theorem c320_58 : fx_op 320 58 = some (.iload_n 1, 59, 58) := by decide +kernel
theorem c320_59 : fx_op 320 59 = some (.ireturn, 60, 59) := by decide +kernel
theorem c320_18 : fx_ca 320 18 = some (304, 1, 0, 21) := by decide +kernel
theorem c320_21 : fx_ci 320 21 = some (1, 22) := by decide +kernel
theorem c320_22 : fx_op 320 22 = some (.if_icmp .le 30, 25, 52) := by decide +kernel
theorem c320_25 : fx_op 320 25 = some (.iload_n 1, 26, 25) := by decide +kernel
theorem c320_26 : fx_op 320 26 = some (.ifCond .lt 24, 29, 50) := by decide +kernel
theorem c320_50 : fx_op 320 50 = some (.iload_n 2, 51, 50) := by decide +kernel
theorem c320_51 : fx_op 320 51 = some (.istore_n 1, 52, 51) := by decide +kernel
theorem c320_29 : fx_op 320 29 = some (.aload_n 0, 30, 29) := by decide +kernel
theorem c320_30 : fx_gf 320 30 = some (12, 47, 33) := by decide +kernel
theorem c320_33 : fx_op 320 33 = some (.iload_n 2, 34, 33) := by decide +kernel
theorem c320_34 : fx_op 320 34 = some (.iaload, 35, 34) := by decide +kernel
theorem c320_52 : fx_op 320 52 = some (.iinc 2 1, 55, 52) := by decide +kernel
theorem c320_55 : fx_op 320 55 = some (.goto (-51), 58, 4) := by decide +kernel
theorem c320_35 : fx_ca 320 35 = some (304, 1, 0, 38) := by decide +kernel
theorem c320_38 : fx_op 320 38 = some (.aload_n 0, 39, 38) := by decide +kernel
theorem c320_39 : fx_gf 320 39 = some (12, 47, 42) := by decide +kernel
theorem c320_42 : fx_op 320 42 = some (.iload_n 1, 43, 42) := by decide +kernel
theorem c320_43 : fx_op 320 43 = some (.iaload, 44, 43) := by decide +kernel
theorem c320_44 : fx_ca 320 44 = some (304, 1, 0, 47) := by decide +kernel
theorem c320_47 : fx_op 320 47 = some (.if_icmp .ge 5, 50, 52) := by decide +kernel
theorem s320_0 {kc : List va_E} {d : Nat} {M : fx_M} {Q : Option fx_V → fx_M → Prop} (H : wp kc (d + 1) 320 4 [some (jR 133), some (jI (-1)), some (jI 0)] [] M Q) : wp kc (d + 1) 320 0 [some (jR 133), none, none] [] M Q :=
  (x_ci c320_0 (x_istn (l' := [some (jR 133), some (jI (-1)), none]) c320_1 rfl (x_ci c320_2 (x_istn (l' := [some (jR 133), some (jI (-1)), some (jI 0)]) c320_3 rfl (wp_wk (l' := [some (jR 133), some (jI (-1)), some (jI 0)]) ⟨rfl, ⟨rfl, ⟨rfl, trivial⟩⟩⟩ H)))))
theorem s320_4 {kc : List va_E} {d : Nat} {v1 v2 : Int} {M : fx_M} {Q : Option fx_V → fx_M → Prop} (H : wc kc d 248 [jR 133] M (fun v M1 => wp kc (d + 1) 320 9 [some (jR 133), some (jI v1), some (jI v2)] (v.toList ++ [jI v2]) M1 Q)) : wp kc (d + 1) 320 4 [some (jR 133), some (jI v1), some (jI v2)] [] M Q :=
  (x_ildn c320_4 rfl (x_aldn c320_5 rfl (wp_wk (l' := [some (jR 133), some (jI v1), some (jI v2)]) ⟨rfl, ⟨rfl, ⟨rfl, trivial⟩⟩⟩ (x_cv (As := []) (st := [jI v2]) c320_6 cl_133 kl248 rfl (Nat.le_of_ble_eq_true rfl) mx248 (Nat.le_refl _) H))))
theorem s320_9 {kc : List va_E} {d : Nat} {v1 v2 u0 u1 : Int} {M : fx_M} {Q : Option fx_V → fx_M → Prop} (H : ((fx_in32 u1) ∧ (fx_in32 u0)) ∧ (u0 ≤ u1 → Q (some (jI v1)) M) ∧ (u1 < u0 → (((0 : Int) ≤ v2 ∧ v2 < 9)) ∧ wc kc d 304 [jI (M 156 v2)] M (fun v M1 => wp kc (d + 1) 320 21 [some (jR 133), some (jI v1), some (jI v2)] (v.toList ++ []) M1 Q))) : wp kc (d + 1) 320 9 [some (jR 133), some (jI v1), some (jI v2)] [jI u0, jI u1] M Q :=
  (x_cge c320_9 H.1.1 H.1.2 (fun h1 => (x_ildn c320_58 rfl (x_irt c320_59 r320 (H.2.1 h1)))) (fun h2 => (x_aldn c320_12 rfl (x_gfr c320_13 k_133_47 (x_ildn c320_16 rfl (x_iald c320_17 a_156 (H.2.2 h2).1 (by decide) (wp_wk (l' := [some (jR 133), some (jI v1), some (jI v2)]) ⟨rfl, ⟨rfl, ⟨rfl, trivial⟩⟩⟩ (x_cs (As := [jI (M 156 v2)]) (st := []) c320_18 (by decide) rfl (Nat.le_of_ble_eq_true rfl) mx304 (Nat.le_refl _) (H.2.2 h2).2))))))))
theorem s320_21 {kc : List va_E} {d : Nat} {v1 v2 u0 : Int} {M : fx_M} {Q : Option fx_V → fx_M → Prop} (H : ((fx_in32 u0)) ∧ (u0 ≤ 1 → wp kc (d + 1) 320 4 [some (jR 133), some (jI v1), some (jI (v2 + 1))] [] M Q) ∧ (1 < u0 → ((fx_in32 v1)) ∧ (v1 < 0 → wp kc (d + 1) 320 4 [some (jR 133), some (jI v2), some (jI (v2 + 1))] [] M Q) ∧ (0 ≤ v1 → (((0 : Int) ≤ v2 ∧ v2 < 9)) ∧ wc kc d 304 [jI (M 156 v2)] M (fun v M1 => wp kc (d + 1) 320 38 [some (jR 133), some (jI v1), some (jI v2)] (v.toList ++ []) M1 Q)))) : wp kc (d + 1) 320 21 [some (jR 133), some (jI v1), some (jI v2)] [jI u0] M Q :=
  (x_ci c320_21 (x_cle c320_22 H.1 (by decide) (fun h3 => (x_inc (l' := [some (jR 133), some (jI v1), some (jI (v2 + 1))]) c320_52 rfl rfl (x_goto c320_55 (wp_wk (l' := [some (jR 133), some (jI v1), some (jI (v2 + 1))]) ⟨rfl, ⟨rfl, ⟨rfl, trivial⟩⟩⟩ (H.2.1 h3))))) (fun h4 => (x_ildn c320_25 rfl (x_zlt c320_26 (H.2.2 h4).1 (fun h1 => (x_ildn c320_50 rfl (x_istn (l' := [some (jR 133), some (jI v2), some (jI v2)]) c320_51 rfl (x_inc (l' := [some (jR 133), some (jI v2), some (jI (v2 + 1))]) c320_52 rfl rfl (x_goto c320_55 (wp_wk (l' := [some (jR 133), some (jI v2), some (jI (v2 + 1))]) ⟨rfl, ⟨rfl, ⟨rfl, trivial⟩⟩⟩ ((H.2.2 h4).2.1 h1))))))) (fun h2 => (x_aldn c320_29 rfl (x_gfr c320_30 k_133_47 (x_ildn c320_33 rfl (x_iald c320_34 a_156 ((H.2.2 h4).2.2 h2).1 (by decide) (wp_wk (l' := [some (jR 133), some (jI v1), some (jI v2)]) ⟨rfl, ⟨rfl, ⟨rfl, trivial⟩⟩⟩ (x_cs (As := [jI (M 156 v2)]) (st := []) c320_35 (by decide) rfl (Nat.le_of_ble_eq_true rfl) mx304 (Nat.le_refl _) ((H.2.2 h4).2.2 h2).2))))))))))))
theorem s320_38 {kc : List va_E} {d : Nat} {v1 v2 u0 : Int} {M : fx_M} {Q : Option fx_V → fx_M → Prop} (H : (((0 : Int) ≤ v1 ∧ v1 < 9)) ∧ wc kc d 304 [jI (M 156 v1)] M (fun v M1 => wp kc (d + 1) 320 47 [some (jR 133), some (jI v1), some (jI v2)] (v.toList ++ [jI u0]) M1 Q)) : wp kc (d + 1) 320 38 [some (jR 133), some (jI v1), some (jI v2)] [jI u0] M Q :=
  (x_aldn c320_38 rfl (x_gfr c320_39 k_133_47 (x_ildn c320_42 rfl (x_iald c320_43 a_156 H.1 (by decide) (wp_wk (l' := [some (jR 133), some (jI v1), some (jI v2)]) ⟨rfl, ⟨rfl, ⟨rfl, trivial⟩⟩⟩ (x_cs (As := [jI (M 156 v1)]) (st := [jI u0]) c320_44 (by decide) rfl (Nat.le_of_ble_eq_true rfl) mx304 (Nat.le_refl _) H.2))))))
theorem s320_47 {kc : List va_E} {d : Nat} {v1 v2 u0 u1 : Int} {M : fx_M} {Q : Option fx_V → fx_M → Prop} (H : ((fx_in32 u1)) ∧ ((fx_in32 u0)) ∧ wp kc (d + 1) 320 4 [some (jR 133), some (jI (if u1 < u0 then (v2 : Int) else v1)), some (jI (v2 + 1))] [] M Q) : wp kc (d + 1) 320 47 [some (jR 133), some (jI v1), some (jI v2)] [jI u0, jI u1] M Q :=
  (have K : wp kc (d + 1) 320 52 [some (jR 133), some (jI (if u1 < u0 then (v2 : Int) else v1)), some (jI v2)] [] M Q := (x_inc (l' := [some (jR 133), some (jI (if u1 < u0 then (v2 : Int) else v1)), some (jI (v2 + 1))]) c320_52 rfl rfl (x_goto c320_55 (wp_wk (l' := [some (jR 133), some (jI (if u1 < u0 then (v2 : Int) else v1)), some (jI (v2 + 1))]) ⟨rfl, ⟨rfl, ⟨rfl, trivial⟩⟩⟩ H.2.2))); (x_cge c320_47 H.1 H.2.1 (fun (h1 : u0 ≤ u1) => (wp_wk (l' := [some (jR 133), some (jI v1), some (jI v2)]) ⟨rfl, ⟨rfl, ⟨rfl, trivial⟩⟩⟩ (by have K := K; first | (simp only [if_neg (Int.not_lt.mpr h1)] at K ⊢; exact K) | (exfalso; omega)))) (fun (h2 : u1 < u0) => (x_ildn c320_50 rfl (x_istn (l' := [some (jR 133), some (jI v2), some (jI v2)]) c320_51 rfl (wp_wk (l' := [some (jR 133), some (jI v2), some (jI v2)]) ⟨rfl, ⟨rfl, ⟨rfl, trivial⟩⟩⟩ (by have K := K; first | (simp only [if_pos h2] at K ⊢; exact K) | (exfalso; omega))))))))
theorem s320 {kc : List va_E} {d : Nat} {M : fx_M} {Q : Option fx_V → fx_M → Prop} (H : wp kc (d + 1) 320 4 [some (jR 133), some (jI (-1)), some (jI 0)] [] M Q) : wc kc (d + 1) 320 [jR 133] M Q :=
  wc_of (wp_wk (l' := [some (jR 133), none, none]) ⟨rfl, trivial⟩ (s320_0 H))

/- PuzzleHouseModel.saySolve()V -/
theorem c321_0 : fx_op 321 0 = some (.aload_n 0, 1, 0) := by decide +kernel
theorem c321_1 : fx_ca 321 1 = some (294, 1, 2, 4) := by decide +kernel
theorem c321_4 : fx_op 321 4 = some (.aload_n 0, 5, 4) := by decide +kernel
theorem c321_5 : fx_ci 321 5 = some (0, 6) := by decide +kernel
theorem c321_6 : fx_pf 321 6 = some (12, 57, 2, 9) := by decide +kernel
theorem c321_9 : fx_op 321 9 = some (.aload_n 0, 10, 9) := by decide +kernel
theorem c321_10 : fx_ci 321 10 = some (0, 11) := by decide +kernel
theorem c321_11 : fx_ca 321 11 = some (322, 2, 2, 14) := by decide +kernel
theorem c321_14 : fx_op 321 14 = some (.aload_n 0, 15, 14) := by decide +kernel
theorem c321_15 : fx_op 321 15 = some (.aload_n 0, 16, 15) := by decide +kernel
theorem c321_16 : fx_gf 321 16 = some (12, 69, 19) := by decide +kernel
theorem c321_19 : fx_ci 321 19 = some (1, 20) := by decide +kernel
theorem c321_20 : fx_op 321 20 = some (.if_icmp .ne 9, 23, 29) := by decide +kernel
theorem c321_29 : fx_op 321 29 = some (.aload_n 0, 30, 29) := by decide +kernel
theorem c321_30 : fx_gf 321 30 = some (12, 69, 33) := by decide +kernel
theorem c321_33 : fx_op 321 33 = some (.ifCond .ne 9, 36, 42) := by decide +kernel
theorem c321_42 : fx_cj 321 42 = some (108243635103086, 45) := by decide +kernel
theorem c321_36 : fx_cj 321 36 = some (495875089259, 39) := by decide +kernel
theorem c321_39 : fx_op 321 39 = some (.goto 6, 42, 45) := by decide +kernel
theorem c321_23 : fx_cj 321 23 = some (126922398262628, 26) := by decide +kernel
theorem c321_26 : fx_op 321 26 = some (.goto 19, 29, 45) := by decide +kernel
theorem c321_45 : fx_ca 321 45 = some (253, 2, 2, 48) := by decide +kernel
theorem c321_48 : fx_ci 321 48 = some (1, 49) := by decide +kernel
theorem c321_49 : fx_op 321 49 = some (.istore_n 1, 50, 49) := by decide +kernel
theorem c321_50 : fx_op 321 50 = some (.iload_n 1, 51, 50) := by decide +kernel
theorem c321_51 : fx_ci 321 51 = some (4, 52) := by decide +kernel
theorem c321_52 : fx_op 321 52 = some (.if_icmp .ge 19, 55, 71) := by decide +kernel
theorem c321_55 : fx_op 321 55 = some (.aload_n 0, 56, 55) := by decide +kernel
theorem c321_56 : fx_op 321 56 = some (.aload_n 0, 57, 56) := by decide +kernel
theorem c321_57 : fx_gf 321 57 = some (12, 68, 60) := by decide +kernel
theorem c321_60 : fx_op 321 60 = some (.iload_n 1, 61, 60) := by decide +kernel
theorem c321_61 : fx_op 321 61 = some (.iaload, 62, 61) := by decide +kernel
theorem c321_71 : fx_op 321 71 = some (.return_, 72, 71) := by decide +kernel
theorem c321_62 : fx_ca 321 62 = some (255, 2, 2, 65) := by decide +kernel
theorem c321_65 : fx_op 321 65 = some (.iinc 1 1, 68, 65) := by decide +kernel
theorem c321_68 : fx_op 321 68 = some (.goto (-18), 71, 50) := by decide +kernel
theorem s321_0 {kc : List va_E} {d : Nat} {M : fx_M} {Q : Option fx_V → fx_M → Prop} (H : wc kc d 294 [jR 133] M (fun v M1 => wp kc (d + 1) 321 4 [some (jR 133), none] (v.toList ++ []) M1 Q)) : wp kc (d + 1) 321 0 [some (jR 133), none] [] M Q :=
  (x_aldn c321_0 rfl (wp_wk (l' := [some (jR 133), none]) ⟨rfl, trivial⟩ (x_cv (As := []) (st := []) c321_1 cl_133 kl294 rfl (Nat.le_of_ble_eq_true rfl) mx294 (Nat.le_refl _) H)))
theorem s321_4 {kc : List va_E} {d : Nat} {M : fx_M} {Q : Option fx_V → fx_M → Prop} (H : wc kc d 322 [jR 133, jI 0] (fx_up M 133 57 0) (fun v M1 => wp kc (d + 1) 321 14 [some (jR 133), none] (v.toList ++ []) M1 Q)) : wp kc (d + 1) 321 4 [some (jR 133), none] [] M Q :=
  (x_aldn c321_4 rfl (x_ci c321_5 (x_pfz c321_6 k_133_57 (by decide) (x_aldn c321_9 rfl (x_ci c321_10 (wp_wk (l' := [some (jR 133), none]) ⟨rfl, trivial⟩ (x_cv (As := [jI 0]) (st := []) c321_11 cl_133 kl322 rfl (Nat.le_of_ble_eq_true rfl) mx322 (Nat.le_refl _) H)))))))
theorem s321_14 {kc : List va_E} {d : Nat} {M : fx_M} {Q : Option fx_V → fx_M → Prop} (H : ((fx_in32 (M 133 69))) ∧ (M 133 69 ≠ 1 → (fx_in32 (M 133 69))) ∧ wc kc d 253 [jR 133, jL (if M 133 69 = 1 then (126922398262628 : Int) else (if M 133 69 = 0 then (495875089259 : Int) else 108243635103086))] M (fun v M1 => wp kc (d + 1) 321 48 [some (jR 133), none] (v.toList ++ []) M1 Q)) : wp kc (d + 1) 321 14 [some (jR 133), none] [] M Q :=
  (x_aldn c321_14 rfl (x_aldn c321_15 rfl (x_gfi c321_16 k_133_69 (x_ci c321_19 (have K : wp kc (d + 1) 321 45 [some (jR 133), none] [jL (if M 133 69 = 1 then (126922398262628 : Int) else (if M 133 69 = 0 then (495875089259 : Int) else 108243635103086)), jR 133] M Q := (wp_wk (l' := [some (jR 133), none]) ⟨rfl, trivial⟩ (x_cv (As := [jL (if M 133 69 = 1 then (126922398262628 : Int) else (if M 133 69 = 0 then (495875089259 : Int) else 108243635103086))]) (st := []) c321_45 cl_133 kl253 rfl (Nat.le_of_ble_eq_true rfl) mx253 (Nat.le_refl _) H.2.2)); (x_cne c321_20 H.1 (by decide) (fun (h1 : M 133 69 ≠ 1) => (x_aldn c321_29 rfl (x_gfi c321_30 k_133_69 (x_zne c321_33 (H.2.1 h1) (fun (h3 : M 133 69 ≠ 0) => (x_cj c321_42 (wp_wk (l' := [some (jR 133), none]) ⟨rfl, trivial⟩ (by have K := K; first | (simp only [if_neg h1, if_neg h3] at K ⊢; exact K) | (exfalso; omega))))) (fun (h4 : M 133 69 = 0) => (x_cj c321_36 (x_goto c321_39 (wp_wk (l' := [some (jR 133), none]) ⟨rfl, trivial⟩ (by have K := K; first | (simp only [if_neg h1, if_pos h4] at K ⊢; exact K) | (exfalso; omega)))))))))) (fun (h2 : M 133 69 = 1) => (x_cj c321_23 (x_goto c321_26 (wp_wk (l' := [some (jR 133), none]) ⟨rfl, trivial⟩ (by have K := K; first | (simp only [if_pos h2] at K ⊢; exact K) | (exfalso; omega))))))))))))
theorem s321_48 {kc : List va_E} {d : Nat} {M : fx_M} {Q : Option fx_V → fx_M → Prop} (H : wp kc (d + 1) 321 50 [some (jR 133), some (jI 1)] [] M Q) : wp kc (d + 1) 321 48 [some (jR 133), none] [] M Q :=
  (x_ci c321_48 (x_istn (l' := [some (jR 133), some (jI 1)]) c321_49 rfl (wp_wk (l' := [some (jR 133), some (jI 1)]) ⟨rfl, ⟨rfl, trivial⟩⟩ H)))
theorem s321_50 {kc : List va_E} {d : Nat} {v1 : Int} {M : fx_M} {Q : Option fx_V → fx_M → Prop} (H : ((fx_in32 v1)) ∧ (4 ≤ v1 → Q none M) ∧ (v1 < 4 → (((0 : Int) ≤ v1 ∧ v1 < 4)) ∧ wc kc d 255 [jR 133, jI (M 166 v1)] M (fun v M1 => wp kc (d + 1) 321 65 [some (jR 133), some (jI v1)] (v.toList ++ []) M1 Q))) : wp kc (d + 1) 321 50 [some (jR 133), some (jI v1)] [] M Q :=
  (x_ildn c321_50 rfl (x_ci c321_51 (x_cge c321_52 H.1 (by decide) (fun h1 => (x_vr c321_71 r321 (H.2.1 h1))) (fun h2 => (x_aldn c321_55 rfl (x_aldn c321_56 rfl (x_gfr c321_57 k_133_68 (x_ildn c321_60 rfl (x_iald c321_61 a_166 (H.2.2 h2).1 (by decide) (wp_wk (l' := [some (jR 133), some (jI v1)]) ⟨rfl, ⟨rfl, trivial⟩⟩ (x_cv (As := [jI (M 166 v1)]) (st := []) c321_62 cl_133 kl255 rfl (Nat.le_of_ble_eq_true rfl) mx255 (Nat.le_refl _) (H.2.2 h2).2)))))))))))
theorem s321_65 {kc : List va_E} {d : Nat} {v1 : Int} {M : fx_M} {Q : Option fx_V → fx_M → Prop} (H : wp kc (d + 1) 321 50 [some (jR 133), some (jI (v1 + 1))] [] M Q) : wp kc (d + 1) 321 65 [some (jR 133), some (jI v1)] [] M Q :=
  (x_inc (l' := [some (jR 133), some (jI (v1 + 1))]) c321_65 rfl rfl (x_goto c321_68 (wp_wk (l' := [some (jR 133), some (jI (v1 + 1))]) ⟨rfl, ⟨rfl, trivial⟩⟩ H)))
theorem s321 {kc : List va_E} {d : Nat} {M : fx_M} {Q : Option fx_V → fx_M → Prop} (H : wc kc d 294 [jR 133] M (fun v M1 => wp kc (d + 1) 321 4 [some (jR 133), none] (v.toList ++ []) M1 Q)) : wc kc (d + 1) 321 [jR 133] M Q :=
  wc_of (wp_wk (l' := [some (jR 133), none]) ⟨rfl, trivial⟩ (s321_0 H))

/- PuzzleHouseModel.takeSteps(Z)V -/
theorem c322_0 : fx_ci 322 0 = some (0, 1) := by decide +kernel
theorem c322_1 : fx_op 322 1 = some (.istore_n 2, 2, 1) := by decide +kernel
theorem c322_2 : fx_op 322 2 = some (.iload_n 2, 3, 2) := by decide +kernel
theorem c322_3 : fx_ci 322 3 = some (4, 4) := by decide +kernel
theorem c322_4 : fx_op 322 4 = some (.if_icmp .ge 16, 7, 20) := by decide +kernel
theorem c322_7 : fx_op 322 7 = some (.aload_n 0, 8, 7) := by decide +kernel
theorem c322_8 : fx_gf 322 8 = some (12, 68, 11) := by decide +kernel
theorem c322_11 : fx_op 322 11 = some (.iload_n 2, 12, 11) := by decide +kernel
theorem c322_12 : fx_ci 322 12 = some (0, 13) := by decide +kernel
theorem c322_20 : fx_op 322 20 = some (.aload_n 0, 21, 20) := by decide +kernel
theorem c322_14 : fx_op 322 14 = some (.iinc 2 1, 17, 14) := by decide +kernel
theorem c322_21 : fx_ca 322 21 = some (314, 1, 2, 24) := by decide +kernel
theorem c322_13 : fx_op 322 13 = some (.iastore, 14, 13) := by decide +kernel
theorem c322_17 : fx_op 322 17 = some (.goto (-15), 20, 2) := by decide +kernel
theorem c322_24 : fx_op 322 24 = some (.ifCond .eq 10, 27, 34) := by decide +kernel
theorem c322_34 : fx_ci 322 34 = some (0, 35) := by decide +kernel
theorem c322_27 : fx_op 322 27 = some (.aload_n 0, 28, 27) := by decide +kernel
theorem c322_35 : fx_op 322 35 = some (.istore_n 2, 36, 35) := by decide +kernel
theorem c322_28 : fx_ca 322 28 = some (306, 1, 2, 31) := by decide +kernel
theorem c322_36 : fx_op 322 36 = some (.iload_n 2, 37, 36) := by decide +kernel
theorem c322_37 : fx_op 322 37 = some (.ifCond .le 69, 40, 106) := by decide +kernel
theorem c322_40 : fx_op 322 40 = some (.aload_n 0, 41, 40) := by decide +kernel
theorem c322_41 : fx_gf 322 41 = some (12, 57, 44) := by decide +kernel
theorem c322_44 : fx_op 322 44 = some (.ifCond .ne 62, 47, 106) := by decide +kernel
theorem c322_47 : fx_op 322 47 = some (.iload_n 1, 48, 47) := by decide +kernel
theorem c322_48 : fx_op 322 48 = some (.ifCond .eq 12, 51, 60) := by decide +kernel
theorem c322_60 : fx_op 322 60 = some (.iload_n 1, 61, 60) := by decide +kernel
theorem c322_61 : fx_op 322 61 = some (.ifCond .eq 12, 64, 73) := by decide +kernel
theorem c322_73 : fx_op 322 73 = some (.aload_n 0, 74, 73) := by decide +kernel
theorem c322_106 : fx_op 322 106 = some (.aload_n 0, 107, 106) := by decide +kernel
theorem c322_107 : fx_op 322 107 = some (.aload_n 0, 108, 107) := by decide +kernel
theorem c322_51 : fx_op 322 51 = some (.iload_n 2, 52, 51) := by decide +kernel
theorem c322_52 : fx_ci 322 52 = some (3, 53) := by decide +kernel
theorem c322_53 : fx_op 322 53 = some (.if_icmp .ge 7, 56, 60) := by decide +kernel
theorem c322_56 : fx_op 322 56 = some (.aload_n 0, 57, 56) := by decide +kernel
theorem c322_64 : fx_op 322 64 = some (.iload_n 2, 65, 64) := by decide +kernel
theorem c322_65 : fx_ci 322 65 = some (3, 66) := by decide +kernel
theorem c322_66 : fx_op 322 66 = some (.if_icmp .ne 7, 69, 73) := by decide +kernel
theorem c322_69 : fx_op 322 69 = some (.aload_n 0, 70, 69) := by decide +kernel
theorem c322_108 : fx_ca 322 108 = some (314, 1, 2, 111) := by decide +kernel
theorem c322_74 : fx_ca 322 74 = some (318, 1, 2, 77) := by decide +kernel
theorem c322_70 : fx_ca 322 70 = some (323, 1, 2, 73) := by decide +kernel
theorem c322_57 : fx_ca 322 57 = some (315, 1, 2, 60) := by decide +kernel
theorem c322_31 : fx_op 322 31 = some (.goto 4, 34, 35) := by decide +kernel
theorem c322_111 : fx_op 322 111 = some (.ifCond .ne 7, 114, 118) := by decide +kernel
theorem c322_118 : fx_op 322 118 = some (.aload_n 0, 119, 118) := by decide +kernel
theorem c322_114 : fx_ci 322 114 = some (2, 115) := by decide +kernel
theorem c322_130 : fx_pf 322 130 = some (12, 69, 0, 133) := by decide +kernel
theorem c322_119 : fx_ca 322 119 = some (320, 1, 2, 122) := by decide +kernel
theorem c322_115 : fx_op 322 115 = some (.goto 15, 118, 130) := by decide +kernel
theorem c322_133 : fx_op 322 133 = some (.return_, 134, 133) := by decide +kernel
theorem c322_77 : fx_op 322 77 = some (.aload_n 0, 78, 77) := by decide +kernel
theorem c322_78 : fx_gf 322 78 = some (12, 68, 81) := by decide +kernel
theorem c322_81 : fx_op 322 81 = some (.iload_n 2, 82, 81) := by decide +kernel
theorem c322_82 : fx_op 322 82 = some (.dup2, 83, 82) := by decide +kernel
theorem c322_84 : fx_ci 322 84 = some (1, 85) := by decide +kernel
theorem c322_85 : fx_op 322 85 = some (.iadd, 86, 85) := by decide +kernel
theorem c322_87 : fx_op 322 87 = some (.aload_n 0, 88, 87) := by decide +kernel
theorem c322_83 : fx_op 322 83 = some (.iaload, 84, 83) := by decide +kernel
theorem c322_86 : fx_op 322 86 = some (.iastore, 87, 86) := by decide +kernel
theorem c322_88 : fx_ca 322 88 = some (314, 1, 2, 91) := by decide +kernel
theorem c322_122 : fx_op 322 122 = some (.ifCond .ge 7, 125, 129) := by decide +kernel
theorem c322_129 : fx_ci 322 129 = some (0, 130) := by decide +kernel
theorem c322_125 : fx_ci 322 125 = some (1, 126) := by decide +kernel
theorem c322_126 : fx_op 322 126 = some (.goto 4, 129, 130) := by decide +kernel
theorem c322_91 : fx_op 322 91 = some (.ifCond .eq 10, 94, 101) := by decide +kernel
theorem c322_101 : fx_ci 322 101 = some (0, 102) := by decide +kernel
theorem c322_94 : fx_op 322 94 = some (.aload_n 0, 95, 94) := by decide +kernel
theorem c322_102 : fx_op 322 102 = some (.istore_n 2, 103, 102) := by decide +kernel
theorem c322_103 : fx_op 322 103 = some (.goto (-67), 106, 36) := by decide +kernel
theorem c322_95 : fx_ca 322 95 = some (306, 1, 2, 98) := by decide +kernel
theorem c322_98 : fx_op 322 98 = some (.goto 4, 101, 102) := by decide +kernel
theorem s322_0 {kc : List va_E} {d : Nat} {x1 : Int} {M : fx_M} {Q : Option fx_V → fx_M → Prop} (H : wp kc (d + 1) 322 2 [some (jR 133), some (jI x1), some (jI 0)] [] M Q) : wp kc (d + 1) 322 0 [some (jR 133), some (jI x1), none] [] M Q :=
  (x_ci c322_0 (x_istn (l' := [some (jR 133), some (jI x1), some (jI 0)]) c322_1 rfl (wp_wk (l' := [some (jR 133), some (jI x1), some (jI 0)]) ⟨rfl, ⟨rfl, ⟨rfl, trivial⟩⟩⟩ H)))
theorem s322_2 {kc : List va_E} {d : Nat} {v1 v2 : Int} {M : fx_M} {Q : Option fx_V → fx_M → Prop} (H : ((fx_in32 v2)) ∧ (4 ≤ v2 → wc kc d 314 [jR 133] M (fun v M1 => wp kc (d + 1) 322 24 [some (jR 133), some (jI v1), none] (v.toList ++ []) M1 Q)) ∧ (v2 < 4 → (((0 : Int) ≤ v2 ∧ v2 < 4)) ∧ wp kc (d + 1) 322 2 [some (jR 133), some (jI v1), some (jI (v2 + 1))] [] (fx_up M 166 v2 0) Q)) : wp kc (d + 1) 322 2 [some (jR 133), some (jI v1), some (jI v2)] [] M Q :=
  (x_ildn c322_2 rfl (x_ci c322_3 (x_cge c322_4 H.1 (by decide) (fun h1 => (x_aldn c322_20 rfl (wp_wk (l' := [some (jR 133), some (jI v1), none]) ⟨rfl, ⟨rfl, trivial⟩⟩ (x_cv (As := []) (st := []) c322_21 cl_133 kl314 rfl (Nat.le_of_ble_eq_true rfl) mx314 (Nat.le_refl _) (H.2.1 h1))))) (fun h2 => (x_aldn c322_7 rfl (x_gfr c322_8 k_133_68 (x_ildn c322_11 rfl (x_ci c322_12 (x_iast c322_13 a_166 (H.2.2 h2).1 (by decide) (x_inc (l' := [some (jR 133), some (jI v1), some (jI (v2 + 1))]) c322_14 rfl rfl (x_goto c322_17 (wp_wk (l' := [some (jR 133), some (jI v1), some (jI (v2 + 1))]) ⟨rfl, ⟨rfl, ⟨rfl, trivial⟩⟩⟩ (H.2.2 h2).2))))))))))))
theorem s322_24 {kc : List va_E} {d : Nat} {v1 u0 : Int} {M : fx_M} {Q : Option fx_V → fx_M → Prop} (H : ((fx_in32 u0)) ∧ (u0 = 0 → wp kc (d + 1) 322 36 [some (jR 133), some (jI v1), some (jI 0)] [] M Q) ∧ (u0 ≠ 0 → wc kc d 306 [jR 133] M (fun v M1 => wp kc (d + 1) 322 31 [some (jR 133), some (jI v1), none] (v.toList ++ []) M1 Q))) : wp kc (d + 1) 322 24 [some (jR 133), some (jI v1), none] [jI u0] M Q :=
  (x_zeq c322_24 H.1 (fun h1 => (x_ci c322_34 (x_istn (l' := [some (jR 133), some (jI v1), some (jI 0)]) c322_35 rfl (wp_wk (l' := [some (jR 133), some (jI v1), some (jI 0)]) ⟨rfl, ⟨rfl, ⟨rfl, trivial⟩⟩⟩ (H.2.1 h1))))) (fun h2 => (x_aldn c322_27 rfl (wp_wk (l' := [some (jR 133), some (jI v1), none]) ⟨rfl, ⟨rfl, trivial⟩⟩ (x_cv (As := []) (st := []) c322_28 cl_133 kl306 rfl (Nat.le_of_ble_eq_true rfl) mx306 (Nat.le_refl _) (H.2.2 h2))))))
theorem s322_31 {kc : List va_E} {d : Nat} {v1 u0 : Int} {M : fx_M} {Q : Option fx_V → fx_M → Prop} (H : wp kc (d + 1) 322 36 [some (jR 133), some (jI v1), some (jI u0)] [] M Q) : wp kc (d + 1) 322 31 [some (jR 133), some (jI v1), none] [jI u0] M Q :=
  (x_goto c322_31 (x_istn (l' := [some (jR 133), some (jI v1), some (jI u0)]) c322_35 rfl (wp_wk (l' := [some (jR 133), some (jI v1), some (jI u0)]) ⟨rfl, ⟨rfl, ⟨rfl, trivial⟩⟩⟩ H)))
theorem s322_36 {kc : List va_E} {d : Nat} {v1 v2 : Int} {M : fx_M} {Q : Option fx_V → fx_M → Prop} (H : ((fx_in32 v2)) ∧ (v2 ≤ 0 → wc kc d 314 [jR 133] M (fun v M1 => wp kc (d + 1) 322 111 [some (jR 133), none, none] (v.toList ++ [jR 133]) M1 Q)) ∧ (0 < v2 → ((fx_in32 (M 133 57))) ∧ (M 133 57 ≠ 0 → wc kc d 314 [jR 133] M (fun v M1 => wp kc (d + 1) 322 111 [some (jR 133), none, none] (v.toList ++ [jR 133]) M1 Q)) ∧ (M 133 57 = 0 → ((fx_in32 v1)) ∧ (v1 = 0 → ((fx_in32 v1)) ∧ (v1 = 0 → wc kc d 318 [jR 133] M (fun v M1 => wp kc (d + 1) 322 77 [some (jR 133), some (jI v1), some (jI v2)] (v.toList ++ []) M1 Q)) ∧ (v1 ≠ 0 → ((fx_in32 v2)) ∧ (v2 ≠ 3 → wc kc d 318 [jR 133] M (fun v M1 => wp kc (d + 1) 322 77 [some (jR 133), some (jI v1), some (jI v2)] (v.toList ++ []) M1 Q)) ∧ (v2 = 3 → wc kc d 323 [jR 133] M (fun v M1 => wp kc (d + 1) 322 73 [some (jR 133), some (jI v1), some (jI v2)] (v.toList ++ []) M1 Q)))) ∧ (v1 ≠ 0 → ((fx_in32 v2)) ∧ (3 ≤ v2 → ((fx_in32 v1)) ∧ (v1 = 0 → wc kc d 318 [jR 133] M (fun v M1 => wp kc (d + 1) 322 77 [some (jR 133), some (jI v1), some (jI v2)] (v.toList ++ []) M1 Q)) ∧ (v1 ≠ 0 → ((fx_in32 v2)) ∧ (v2 ≠ 3 → wc kc d 318 [jR 133] M (fun v M1 => wp kc (d + 1) 322 77 [some (jR 133), some (jI v1), some (jI v2)] (v.toList ++ []) M1 Q)) ∧ (v2 = 3 → wc kc d 323 [jR 133] M (fun v M1 => wp kc (d + 1) 322 73 [some (jR 133), some (jI v1), some (jI v2)] (v.toList ++ []) M1 Q)))) ∧ (v2 < 3 → wc kc d 315 [jR 133] M (fun v M1 => wp kc (d + 1) 322 60 [some (jR 133), some (jI v1), some (jI v2)] (v.toList ++ []) M1 Q)))))) : wp kc (d + 1) 322 36 [some (jR 133), some (jI v1), some (jI v2)] [] M Q :=
  (x_ildn c322_36 rfl (x_zle c322_37 H.1 (fun h15 => (x_aldn c322_106 rfl (x_aldn c322_107 rfl (wp_wk (l' := [some (jR 133), none, none]) ⟨rfl, trivial⟩ (x_cv (As := []) (st := [jR 133]) c322_108 cl_133 kl314 rfl (Nat.le_of_ble_eq_true rfl) mx314 (Nat.le_refl _) (H.2.1 h15)))))) (fun h16 => (x_aldn c322_40 rfl (x_gfi c322_41 k_133_57 (x_zne c322_44 (H.2.2 h16).1 (fun h13 => (x_aldn c322_106 rfl (x_aldn c322_107 rfl (wp_wk (l' := [some (jR 133), none, none]) ⟨rfl, trivial⟩ (x_cv (As := []) (st := [jR 133]) c322_108 cl_133 kl314 rfl (Nat.le_of_ble_eq_true rfl) mx314 (Nat.le_refl _) ((H.2.2 h16).2.1 h13)))))) (fun h14 => (x_ildn c322_47 rfl (x_zeq c322_48 ((H.2.2 h16).2.2 h14).1 (fun h11 => (x_ildn c322_60 rfl (x_zeq c322_61 (((H.2.2 h16).2.2 h14).2.1 h11).1 (fun h3 => (x_aldn c322_73 rfl (wp_wk (l' := [some (jR 133), some (jI v1), some (jI v2)]) ⟨rfl, ⟨rfl, ⟨rfl, trivial⟩⟩⟩ (x_cv (As := []) (st := []) c322_74 cl_133 kl318 rfl (Nat.le_of_ble_eq_true rfl) mx318 (Nat.le_refl _) ((((H.2.2 h16).2.2 h14).2.1 h11).2.1 h3))))) (fun h4 => (x_ildn c322_64 rfl (x_ci c322_65 (x_cne c322_66 ((((H.2.2 h16).2.2 h14).2.1 h11).2.2 h4).1 (by decide) (fun h1 => (x_aldn c322_73 rfl (wp_wk (l' := [some (jR 133), some (jI v1), some (jI v2)]) ⟨rfl, ⟨rfl, ⟨rfl, trivial⟩⟩⟩ (x_cv (As := []) (st := []) c322_74 cl_133 kl318 rfl (Nat.le_of_ble_eq_true rfl) mx318 (Nat.le_refl _) (((((H.2.2 h16).2.2 h14).2.1 h11).2.2 h4).2.1 h1))))) (fun h2 => (x_aldn c322_69 rfl (wp_wk (l' := [some (jR 133), some (jI v1), some (jI v2)]) ⟨rfl, ⟨rfl, ⟨rfl, trivial⟩⟩⟩ (x_cv (As := []) (st := []) c322_70 cl_133 kl323 rfl (Nat.le_of_ble_eq_true rfl) mx323 (Nat.le_refl _) (((((H.2.2 h16).2.2 h14).2.1 h11).2.2 h4).2.2 h2)))))))))))) (fun h12 => (x_ildn c322_51 rfl (x_ci c322_52 (x_cge c322_53 (((H.2.2 h16).2.2 h14).2.2 h12).1 (by decide) (fun h9 => (x_ildn c322_60 rfl (x_zeq c322_61 ((((H.2.2 h16).2.2 h14).2.2 h12).2.1 h9).1 (fun h7 => (x_aldn c322_73 rfl (wp_wk (l' := [some (jR 133), some (jI v1), some (jI v2)]) ⟨rfl, ⟨rfl, ⟨rfl, trivial⟩⟩⟩ (x_cv (As := []) (st := []) c322_74 cl_133 kl318 rfl (Nat.le_of_ble_eq_true rfl) mx318 (Nat.le_refl _) (((((H.2.2 h16).2.2 h14).2.2 h12).2.1 h9).2.1 h7))))) (fun h8 => (x_ildn c322_64 rfl (x_ci c322_65 (x_cne c322_66 (((((H.2.2 h16).2.2 h14).2.2 h12).2.1 h9).2.2 h8).1 (by decide) (fun h5 => (x_aldn c322_73 rfl (wp_wk (l' := [some (jR 133), some (jI v1), some (jI v2)]) ⟨rfl, ⟨rfl, ⟨rfl, trivial⟩⟩⟩ (x_cv (As := []) (st := []) c322_74 cl_133 kl318 rfl (Nat.le_of_ble_eq_true rfl) mx318 (Nat.le_refl _) ((((((H.2.2 h16).2.2 h14).2.2 h12).2.1 h9).2.2 h8).2.1 h5))))) (fun h6 => (x_aldn c322_69 rfl (wp_wk (l' := [some (jR 133), some (jI v1), some (jI v2)]) ⟨rfl, ⟨rfl, ⟨rfl, trivial⟩⟩⟩ (x_cv (As := []) (st := []) c322_70 cl_133 kl323 rfl (Nat.le_of_ble_eq_true rfl) mx323 (Nat.le_refl _) ((((((H.2.2 h16).2.2 h14).2.2 h12).2.1 h9).2.2 h8).2.2 h6)))))))))))) (fun h10 => (x_aldn c322_56 rfl (wp_wk (l' := [some (jR 133), some (jI v1), some (jI v2)]) ⟨rfl, ⟨rfl, ⟨rfl, trivial⟩⟩⟩ (x_cv (As := []) (st := []) c322_57 cl_133 kl315 rfl (Nat.le_of_ble_eq_true rfl) mx315 (Nat.le_refl _) ((((H.2.2 h16).2.2 h14).2.2 h12).2.2 h10))))))))))))))))))
theorem s322_60 {kc : List va_E} {d : Nat} {v1 v2 : Int} {M : fx_M} {Q : Option fx_V → fx_M → Prop} (H : ((fx_in32 v1)) ∧ (v1 = 0 → wc kc d 318 [jR 133] M (fun v M1 => wp kc (d + 1) 322 77 [some (jR 133), some (jI v1), some (jI v2)] (v.toList ++ []) M1 Q)) ∧ (v1 ≠ 0 → ((fx_in32 v2)) ∧ (v2 ≠ 3 → wc kc d 318 [jR 133] M (fun v M1 => wp kc (d + 1) 322 77 [some (jR 133), some (jI v1), some (jI v2)] (v.toList ++ []) M1 Q)) ∧ (v2 = 3 → wc kc d 323 [jR 133] M (fun v M1 => wp kc (d + 1) 322 73 [some (jR 133), some (jI v1), some (jI v2)] (v.toList ++ []) M1 Q)))) : wp kc (d + 1) 322 60 [some (jR 133), some (jI v1), some (jI v2)] [] M Q :=
  (x_ildn c322_60 rfl (x_zeq c322_61 H.1 (fun h3 => (x_aldn c322_73 rfl (wp_wk (l' := [some (jR 133), some (jI v1), some (jI v2)]) ⟨rfl, ⟨rfl, ⟨rfl, trivial⟩⟩⟩ (x_cv (As := []) (st := []) c322_74 cl_133 kl318 rfl (Nat.le_of_ble_eq_true rfl) mx318 (Nat.le_refl _) (H.2.1 h3))))) (fun h4 => (x_ildn c322_64 rfl (x_ci c322_65 (x_cne c322_66 (H.2.2 h4).1 (by decide) (fun h1 => (x_aldn c322_73 rfl (wp_wk (l' := [some (jR 133), some (jI v1), some (jI v2)]) ⟨rfl, ⟨rfl, ⟨rfl, trivial⟩⟩⟩ (x_cv (As := []) (st := []) c322_74 cl_133 kl318 rfl (Nat.le_of_ble_eq_true rfl) mx318 (Nat.le_refl _) ((H.2.2 h4).2.1 h1))))) (fun h2 => (x_aldn c322_69 rfl (wp_wk (l' := [some (jR 133), some (jI v1), some (jI v2)]) ⟨rfl, ⟨rfl, ⟨rfl, trivial⟩⟩⟩ (x_cv (As := []) (st := []) c322_70 cl_133 kl323 rfl (Nat.le_of_ble_eq_true rfl) mx323 (Nat.le_refl _) ((H.2.2 h4).2.2 h2)))))))))))
theorem s322_73 {kc : List va_E} {d : Nat} {v1 v2 : Int} {M : fx_M} {Q : Option fx_V → fx_M → Prop} (H : wc kc d 318 [jR 133] M (fun v M1 => wp kc (d + 1) 322 77 [some (jR 133), some (jI v1), some (jI v2)] (v.toList ++ []) M1 Q)) : wp kc (d + 1) 322 73 [some (jR 133), some (jI v1), some (jI v2)] [] M Q :=
  (x_aldn c322_73 rfl (wp_wk (l' := [some (jR 133), some (jI v1), some (jI v2)]) ⟨rfl, ⟨rfl, ⟨rfl, trivial⟩⟩⟩ (x_cv (As := []) (st := []) c322_74 cl_133 kl318 rfl (Nat.le_of_ble_eq_true rfl) mx318 (Nat.le_refl _) H)))
theorem s322_77 {kc : List va_E} {d : Nat} {v1 v2 : Int} {M : fx_M} {Q : Option fx_V → fx_M → Prop} (H : (((0 : Int) ≤ v2 ∧ v2 < 4)) ∧ (((0 : Int) ≤ v2 ∧ v2 < 4)) ∧ wc kc d 314 [jR 133] (fx_up M 166 v2 ((M 166 v2) + 1)) (fun v M1 => wp kc (d + 1) 322 91 [some (jR 133), some (jI v1), none] (v.toList ++ []) M1 Q)) : wp kc (d + 1) 322 77 [some (jR 133), some (jI v1), some (jI v2)] [] M Q :=
  (x_aldn c322_77 rfl (x_gfr c322_78 k_133_68 (x_ildn c322_81 rfl (x_dup2 c322_82 (x_iald c322_83 a_166 H.1 (by decide) (x_ci c322_84 (x_iadd c322_85 (x_iast c322_86 a_166 H.2.1 (by decide) (x_aldn c322_87 rfl (wp_wk (l' := [some (jR 133), some (jI v1), none]) ⟨rfl, ⟨rfl, trivial⟩⟩ (x_cv (As := []) (st := []) c322_88 cl_133 kl314 rfl (Nat.le_of_ble_eq_true rfl) mx314 (Nat.le_refl _) H.2.2)))))))))))
theorem s322_91 {kc : List va_E} {d : Nat} {v1 u0 : Int} {M : fx_M} {Q : Option fx_V → fx_M → Prop} (H : ((fx_in32 u0)) ∧ (u0 = 0 → wp kc (d + 1) 322 36 [some (jR 133), some (jI v1), some (jI 0)] [] M Q) ∧ (u0 ≠ 0 → wc kc d 306 [jR 133] M (fun v M1 => wp kc (d + 1) 322 98 [some (jR 133), some (jI v1), none] (v.toList ++ []) M1 Q))) : wp kc (d + 1) 322 91 [some (jR 133), some (jI v1), none] [jI u0] M Q :=
  (x_zeq c322_91 H.1 (fun h1 => (x_ci c322_101 (x_istn (l' := [some (jR 133), some (jI v1), some (jI 0)]) c322_102 rfl (x_goto c322_103 (wp_wk (l' := [some (jR 133), some (jI v1), some (jI 0)]) ⟨rfl, ⟨rfl, ⟨rfl, trivial⟩⟩⟩ (H.2.1 h1)))))) (fun h2 => (x_aldn c322_94 rfl (wp_wk (l' := [some (jR 133), some (jI v1), none]) ⟨rfl, ⟨rfl, trivial⟩⟩ (x_cv (As := []) (st := []) c322_95 cl_133 kl306 rfl (Nat.le_of_ble_eq_true rfl) mx306 (Nat.le_refl _) (H.2.2 h2))))))
theorem s322_98 {kc : List va_E} {d : Nat} {v1 u0 : Int} {M : fx_M} {Q : Option fx_V → fx_M → Prop} (H : wp kc (d + 1) 322 36 [some (jR 133), some (jI v1), some (jI u0)] [] M Q) : wp kc (d + 1) 322 98 [some (jR 133), some (jI v1), none] [jI u0] M Q :=
  (x_goto c322_98 (x_istn (l' := [some (jR 133), some (jI v1), some (jI u0)]) c322_102 rfl (x_goto c322_103 (wp_wk (l' := [some (jR 133), some (jI v1), some (jI u0)]) ⟨rfl, ⟨rfl, ⟨rfl, trivial⟩⟩⟩ H))))
theorem s322_111 {kc : List va_E} {d : Nat} {u0 : Int} {M : fx_M} {Q : Option fx_V → fx_M → Prop} (H : ((fx_in32 u0)) ∧ (u0 ≠ 0 → wc kc d 320 [jR 133] M (fun v M1 => wp kc (d + 1) 322 122 [none, none, none] (v.toList ++ [jR 133]) M1 Q)) ∧ (u0 = 0 → Q none (fx_up M 133 69 2))) : wp kc (d + 1) 322 111 [some (jR 133), none, none] [jI u0, jR 133] M Q :=
  (x_zne c322_111 H.1 (fun h1 => (x_aldn c322_118 rfl (wp_wk (l' := [none, none, none]) trivial (x_cv (As := []) (st := [jR 133]) c322_119 cl_133 kl320 rfl (Nat.le_of_ble_eq_true rfl) mx320 (Nat.le_refl _) (H.2.1 h1))))) (fun h2 => (x_ci c322_114 (x_goto c322_115 (x_pfi c322_130 k_133_69 (x_vr c322_133 r322 (H.2.2 h2)))))))
theorem s322_122 {kc : List va_E} {d : Nat} {u0 : Int} {M : fx_M} {Q : Option fx_V → fx_M → Prop} (H : ((fx_in32 u0)) ∧ Q none (fx_up M 133 69 (if u0 < 0 then (1 : Int) else 0))) : wp kc (d + 1) 322 122 [none, none, none] [jI u0, jR 133] M Q :=
  (have K : wp kc (d + 1) 322 130 [none, none, none] [jI (if u0 < 0 then (1 : Int) else 0), jR 133] M Q := (x_pfi c322_130 k_133_69 (x_vr c322_133 r322 H.2)); (x_zge c322_122 H.1 (fun (h1 : 0 ≤ u0) => (x_ci c322_129 (wp_wk (l' := [none, none, none]) trivial (by have K := K; first | (simp only [if_neg (Int.not_lt.mpr h1)] at K ⊢; exact K) | (exfalso; omega))))) (fun (h2 : u0 < 0) => (x_ci c322_125 (x_goto c322_126 (wp_wk (l' := [none, none, none]) trivial (by have K := K; first | (simp only [if_pos h2] at K ⊢; exact K) | (exfalso; omega))))))))
theorem s322 {kc : List va_E} {d : Nat} {x1 : Int} {M : fx_M} {Q : Option fx_V → fx_M → Prop} (H : wp kc (d + 1) 322 2 [some (jR 133), some (jI x1), some (jI 0)] [] M Q) : wc kc (d + 1) 322 [jR 133, jI x1] M Q :=
  wc_of (wp_wk (l' := [some (jR 133), some (jI x1), none]) ⟨rfl, ⟨rfl, trivial⟩⟩ (s322_0 H))

/- PuzzleHouseModel.sayTry()V -/
theorem c323_0 : fx_op 323 0 = some (.aload_n 0, 1, 0) := by decide +kernel
theorem c323_1 : fx_gf 323 1 = some (12, 51, 4) := by decide +kernel
theorem c323_4 : fx_op 323 4 = some (.istore_n 1, 5, 4) := by decide +kernel
theorem c323_5 : fx_op 323 5 = some (.aload_n 0, 6, 5) := by decide +kernel
theorem c323_6 : fx_gf 323 6 = some (12, 52, 9) := by decide +kernel
theorem c323_9 : fx_op 323 9 = some (.istore_n 2, 10, 9) := by decide +kernel
theorem c323_10 : fx_op 323 10 = some (.aload_n 0, 11, 10) := by decide +kernel
theorem c323_11 : fx_ca 323 11 = some (312, 1, 2, 14) := by decide +kernel
theorem c323_14 : fx_op 323 14 = some (.aload_n 0, 15, 14) := by decide +kernel
theorem c323_15 : fx_gf 323 15 = some (12, 47, 18) := by decide +kernel
theorem c323_18 : fx_op 323 18 = some (.iload_n 1, 19, 18) := by decide +kernel
theorem c323_19 : fx_ci 323 19 = some (1, 20) := by decide +kernel
theorem c323_20 : fx_op 323 20 = some (.iload_n 2, 21, 20) := by decide +kernel
theorem c323_21 : fx_op 323 21 = some (.ishl, 22, 21) := by decide +kernel
theorem c323_23 : fx_op 323 23 = some (.aload_n 0, 24, 23) := by decide +kernel
theorem c323_24 : fx_ci 323 24 = some (1, 25) := by decide +kernel
theorem c323_25 : fx_pf 323 25 = some (12, 56, 2, 28) := by decide +kernel
theorem c323_28 : fx_op 323 28 = some (.aload_n 0, 29, 28) := by decide +kernel
theorem c323_22 : fx_op 323 22 = some (.iastore, 23, 22) := by decide +kernel
theorem c323_29 : fx_ca 323 29 = some (313, 1, 2, 32) := by decide +kernel
theorem c323_32 : fx_op 323 32 = some (.pop, 33, 32) := by decide +kernel
theorem c323_33 : fx_op 323 33 = some (.aload_n 0, 34, 33) := by decide +kernel
theorem c323_34 : fx_ci 323 34 = some (0, 35) := by decide +kernel
theorem c323_35 : fx_pf 323 35 = some (12, 56, 2, 38) := by decide +kernel
theorem c323_38 : fx_op 323 38 = some (.aload_n 0, 39, 38) := by decide +kernel
theorem c323_39 : fx_ca 323 39 = some (319, 1, 2, 42) := by decide +kernel
theorem c323_42 : fx_op 323 42 = some (.aload_n 0, 43, 42) := by decide +kernel
theorem c323_43 : fx_op 323 43 = some (.iload_n 1, 44, 43) := by decide +kernel
theorem c323_44 : fx_pf 323 44 = some (12, 51, 0, 47) := by decide +kernel
theorem c323_47 : fx_op 323 47 = some (.aload_n 0, 48, 47) := by decide +kernel
theorem c323_48 : fx_op 323 48 = some (.iload_n 2, 49, 48) := by decide +kernel
theorem c323_49 : fx_pf 323 49 = some (12, 52, 0, 52) := by decide +kernel
theorem c323_52 : fx_op 323 52 = some (.aload_n 0, 53, 52) := by decide +kernel
theorem c323_53 : fx_gf 323 53 = some (12, 57, 56) := by decide +kernel
theorem c323_56 : fx_op 323 56 = some (.ifCond .eq 4, 59, 60) := by decide +kernel
theorem c323_60 : fx_op 323 60 = some (.aload_n 0, 61, 60) := by decide +kernel
theorem c323_61 : fx_ci 323 61 = some (117, 63) := by decide +kernel
theorem c323_63 : fx_ca 323 63 = some (254, 2, 2, 66) := by decide +kernel
theorem c323_59 : fx_op 323 59 = some (.return_, 60, 59) := by decide +kernel
theorem c323_66 : fx_op 323 66 = some (.aload_n 0, 67, 66) := by decide +kernel
theorem c323_67 : fx_ci 323 67 = some (0, 68) := by decide +kernel
theorem c323_68 : fx_op 323 68 = some (.iload_n 1, 69, 68) := by decide +kernel
theorem c323_69 : fx_op 323 69 = some (.iload_n 2, 70, 69) := by decide +kernel
theorem c323_70 : fx_ca 323 70 = some (316, 4, 2, 73) := by decide +kernel
theorem c323_73 : fx_op 323 73 = some (.aload_n 0, 74, 73) := by decide +kernel
theorem c323_74 : fx_ca 323 74 = some (317, 1, 2, 77) := by decide +kernel
theorem c323_77 : fx_op 323 77 = some (.return_, 78, 77) := by decide +kernel
theorem s323_0 {kc : List va_E} {d : Nat} {M : fx_M} {Q : Option fx_V → fx_M → Prop} (H : wc kc d 312 [jR 133] M (fun v M1 => wp kc (d + 1) 323 14 [some (jR 133), some (jI (M 133 51)), some (jI (M 133 52))] (v.toList ++ []) M1 Q)) : wp kc (d + 1) 323 0 [some (jR 133), none, none] [] M Q :=
  (x_aldn c323_0 rfl (x_gfi c323_1 k_133_51 (x_istn (l' := [some (jR 133), some (jI (M 133 51)), none]) c323_4 rfl (x_aldn c323_5 rfl (x_gfi c323_6 k_133_52 (x_istn (l' := [some (jR 133), some (jI (M 133 51)), some (jI (M 133 52))]) c323_9 rfl (x_aldn c323_10 rfl (wp_wk (l' := [some (jR 133), some (jI (M 133 51)), some (jI (M 133 52))]) ⟨rfl, ⟨rfl, ⟨rfl, trivial⟩⟩⟩ (x_cv (As := []) (st := []) c323_11 cl_133 kl312 rfl (Nat.le_of_ble_eq_true rfl) mx312 (Nat.le_refl _) H)))))))))
theorem s323_14 {kc : List va_E} {d : Nat} {v1 v2 : Int} {M : fx_M} {Q : Option fx_V → fx_M → Prop} (H : (((0 : Int) ≤ v1 ∧ v1 < 9)) ∧ wc kc d 313 [jR 133] (fx_up (fx_up M 156 v1 (fx_shl 1 v2)) 133 56 1) (fun v M1 => wp kc (d + 1) 323 32 [some (jR 133), some (jI v1), some (jI v2)] (v.toList ++ []) M1 Q)) : wp kc (d + 1) 323 14 [some (jR 133), some (jI v1), some (jI v2)] [] M Q :=
  (x_aldn c323_14 rfl (x_gfr c323_15 k_133_47 (x_ildn c323_18 rfl (x_ci c323_19 (x_ildn c323_20 rfl (x_ishl c323_21 (x_iast c323_22 a_156 H.1 (by decide) (x_aldn c323_23 rfl (x_ci c323_24 (x_pfz c323_25 k_133_56 (by decide) (x_aldn c323_28 rfl (wp_wk (l' := [some (jR 133), some (jI v1), some (jI v2)]) ⟨rfl, ⟨rfl, ⟨rfl, trivial⟩⟩⟩ (x_cv (As := []) (st := []) c323_29 cl_133 kl313 rfl (Nat.le_of_ble_eq_true rfl) mx313 (Nat.le_refl _) H.2)))))))))))))
theorem s323_32 {kc : List va_E} {d : Nat} {v1 v2 u0 : Int} {M : fx_M} {Q : Option fx_V → fx_M → Prop} (H : wc kc d 319 [jR 133] (fx_up M 133 56 0) (fun v M1 => wp kc (d + 1) 323 42 [some (jR 133), some (jI v1), some (jI v2)] (v.toList ++ []) M1 Q)) : wp kc (d + 1) 323 32 [some (jR 133), some (jI v1), some (jI v2)] [jI u0] M Q :=
  (x_popi c323_32 (x_aldn c323_33 rfl (x_ci c323_34 (x_pfz c323_35 k_133_56 (by decide) (x_aldn c323_38 rfl (wp_wk (l' := [some (jR 133), some (jI v1), some (jI v2)]) ⟨rfl, ⟨rfl, ⟨rfl, trivial⟩⟩⟩ (x_cv (As := []) (st := []) c323_39 cl_133 kl319 rfl (Nat.le_of_ble_eq_true rfl) mx319 (Nat.le_refl _) H)))))))
theorem s323_42 {kc : List va_E} {d : Nat} {v1 v2 : Int} {M : fx_M} {Q : Option fx_V → fx_M → Prop} (H : ((fx_in32 (M 133 57))) ∧ (M 133 57 = 0 → wc kc d 254 [jR 133, jI 117] (fx_up (fx_up M 133 51 v1) 133 52 v2) (fun v M1 => wp kc (d + 1) 323 66 [some (jR 133), some (jI v1), some (jI v2)] (v.toList ++ []) M1 Q)) ∧ (M 133 57 ≠ 0 → Q none (fx_up (fx_up M 133 51 v1) 133 52 v2))) : wp kc (d + 1) 323 42 [some (jR 133), some (jI v1), some (jI v2)] [] M Q :=
  (x_aldn c323_42 rfl (x_ildn c323_43 rfl (x_pfi c323_44 k_133_51 (x_aldn c323_47 rfl (x_ildn c323_48 rfl (x_pfi c323_49 k_133_52 (x_aldn c323_52 rfl (x_gfi c323_53 k_133_57 (wp_vI (((fx_upK (by decide)).trans (fx_upK (by decide)))) (x_zeq c323_56 H.1 (fun h1 => (x_aldn c323_60 rfl (x_ci c323_61 (wp_wk (l' := [some (jR 133), some (jI v1), some (jI v2)]) ⟨rfl, ⟨rfl, ⟨rfl, trivial⟩⟩⟩ (x_cv (As := [jI 117]) (st := []) c323_63 cl_133 kl254 rfl (Nat.le_of_ble_eq_true rfl) mx254 (Nat.le_refl _) (H.2.1 h1)))))) (fun h2 => (x_vr c323_59 r323 (H.2.2 h2)))))))))))))
theorem s323_66 {kc : List va_E} {d : Nat} {v1 v2 : Int} {M : fx_M} {Q : Option fx_V → fx_M → Prop} (H : wc kc d 316 [jR 133, jI 0, jI v1, jI v2] M (fun v M1 => wp kc (d + 1) 323 73 [some (jR 133), none, none] (v.toList ++ []) M1 Q)) : wp kc (d + 1) 323 66 [some (jR 133), some (jI v1), some (jI v2)] [] M Q :=
  (x_aldn c323_66 rfl (x_ci c323_67 (x_ildn c323_68 rfl (x_ildn c323_69 rfl (wp_wk (l' := [some (jR 133), none, none]) ⟨rfl, trivial⟩ (x_cv (As := [jI 0, jI v1, jI v2]) (st := []) c323_70 cl_133 kl316 rfl (Nat.le_of_ble_eq_true rfl) mx316 (Nat.le_refl _) H))))))
theorem s323_73 {kc : List va_E} {d : Nat} {M : fx_M} {Q : Option fx_V → fx_M → Prop} (H : wc kc d 317 [jR 133] M (fun v M1 => wp kc (d + 1) 323 77 [none, none, none] (v.toList ++ []) M1 Q)) : wp kc (d + 1) 323 73 [some (jR 133), none, none] [] M Q :=
  (x_aldn c323_73 rfl (wp_wk (l' := [none, none, none]) trivial (x_cv (As := []) (st := []) c323_74 cl_133 kl317 rfl (Nat.le_of_ble_eq_true rfl) mx317 (Nat.le_refl _) H)))
theorem s323_77 {kc : List va_E} {d : Nat} {M : fx_M} {Q : Option fx_V → fx_M → Prop} (H : Q none M) : wp kc (d + 1) 323 77 [none, none, none] [] M Q :=
  (x_vr c323_77 r323 H)
theorem s323 {kc : List va_E} {d : Nat} {M : fx_M} {Q : Option fx_V → fx_M → Prop} (H : wc kc d 312 [jR 133] M (fun v M1 => wp kc (d + 1) 323 14 [some (jR 133), some (jI (M 133 51)), some (jI (M 133 52))] (v.toList ++ []) M1 Q)) : wc kc (d + 1) 323 [jR 133] M Q :=
  wc_of (wp_wk (l' := [some (jR 133), none, none]) ⟨rfl, trivial⟩ (s323_0 H))

/- PuzzleHouseModel.sayPerson(I)V -/
theorem c324_0 : fx_op 324 0 = some (.iload_n 1, 1, 0) := by decide +kernel
theorem c324_1 : fx_ci 324 1 = some (3, 2) := by decide +kernel
theorem c324_2 : fx_op 324 2 = some (.if_icmp .lt 13, 5, 15) := by decide +kernel
theorem c324_15 : fx_op 324 15 = some (.aload_n 0, 16, 15) := by decide +kernel
theorem c324_16 : fx_op 324 16 = some (.iload_n 1, 17, 16) := by decide +kernel
theorem c324_17 : fx_pf 324 17 = some (12, 80, 0, 20) := by decide +kernel
theorem c324_20 : fx_op 324 20 = some (.aload_n 0, 21, 20) := by decide +kernel
theorem c324_5 : fx_op 324 5 = some (.aload_n 0, 6, 5) := by decide +kernel
theorem c324_6 : fx_ci 324 6 = some (25, 8) := by decide +kernel
theorem c324_21 : fx_ca 324 21 = some (261, 1, 2, 24) := by decide +kernel
theorem c324_8 : fx_ca 324 8 = some (221, 1, 0, 11) := by decide +kernel
theorem c324_24 : fx_op 324 24 = some (.return_, 25, 24) := by decide +kernel
theorem c324_11 : fx_ca 324 11 = some (260, 2, 2, 14) := by decide +kernel
theorem c324_14 : fx_op 324 14 = some (.return_, 15, 14) := by decide +kernel
theorem s324_0 {kc : List va_E} {d : Nat} {x1 : Int} {M : fx_M} {Q : Option fx_V → fx_M → Prop} (H : ((fx_in32 x1)) ∧ (x1 < 3 → wc kc d 261 [jR 133] (fx_up M 133 80 x1) (fun v M1 => wp kc (d + 1) 324 24 [none, none] (v.toList ++ []) M1 Q)) ∧ (3 ≤ x1 → wc kc d 221 [jI 25] M (fun v M1 => wp kc (d + 1) 324 11 [none, none] (v.toList ++ [jR 133]) M1 Q))) : wp kc (d + 1) 324 0 [some (jR 133), some (jI x1)] [] M Q :=
  (x_ildn c324_0 rfl (x_ci c324_1 (x_clt c324_2 H.1 (by decide) (fun h1 => (x_aldn c324_15 rfl (x_ildn c324_16 rfl (x_pfi c324_17 k_133_80 (x_aldn c324_20 rfl (wp_wk (l' := [none, none]) trivial (x_cv (As := []) (st := []) c324_21 cl_133 kl261 rfl (Nat.le_of_ble_eq_true rfl) mx261 (Nat.le_refl _) (H.2.1 h1)))))))) (fun h2 => (x_aldn c324_5 rfl (x_ci c324_6 (wp_wk (l' := [none, none]) trivial (x_cs (As := [jI 25]) (st := [jR 133]) c324_8 (by decide) rfl (Nat.le_of_ble_eq_true rfl) mx221 (Nat.le_refl _) (H.2.2 h2)))))))))
theorem s324_11 {kc : List va_E} {d : Nat} {u0 : Int} {M : fx_M} {Q : Option fx_V → fx_M → Prop} (H : wc kc d 260 [jR 133, jL u0] M (fun v M1 => wp kc (d + 1) 324 14 [none, none] (v.toList ++ []) M1 Q)) : wp kc (d + 1) 324 11 [none, none] [jL u0, jR 133] M Q :=
  (wp_wk (l' := [none, none]) trivial (x_cv (As := [jL u0]) (st := []) c324_11 cl_133 kl260 rfl (Nat.le_of_ble_eq_true rfl) mx260 (Nat.le_refl _) H))
theorem s324_14 {kc : List va_E} {d : Nat} {M : fx_M} {Q : Option fx_V → fx_M → Prop} (H : Q none M) : wp kc (d + 1) 324 14 [none, none] [] M Q :=
  (x_vr c324_14 r324 H)
theorem s324_24 {kc : List va_E} {d : Nat} {M : fx_M} {Q : Option fx_V → fx_M → Prop} (H : Q none M) : wp kc (d + 1) 324 24 [none, none] [] M Q :=
  (x_vr c324_24 r324 H)
theorem s324 {kc : List va_E} {d : Nat} {x1 : Int} {M : fx_M} {Q : Option fx_V → fx_M → Prop} (H : ((fx_in32 x1)) ∧ (x1 < 3 → wc kc d 261 [jR 133] (fx_up M 133 80 x1) (fun v M1 => wp kc (d + 1) 324 24 [none, none] (v.toList ++ []) M1 Q)) ∧ (3 ≤ x1 → wc kc d 221 [jI 25] M (fun v M1 => wp kc (d + 1) 324 11 [none, none] (v.toList ++ [jR 133]) M1 Q))) : wc kc (d + 1) 324 [jR 133, jI x1] M Q :=
  wc_of (wp_wk (l' := [some (jR 133), some (jI x1)]) ⟨rfl, ⟨rfl, trivial⟩⟩ (s324_0 H))

/- PuzzleHouseModel.sayPut(II)V -/
theorem c325_0 : fx_ci 325 0 = some (9, 2) := by decide +kernel
theorem c325_2 : fx_op 325 2 = some (.aload_n 0, 3, 2) := by decide +kernel
theorem c325_3 : fx_gf 325 3 = some (12, 80, 6) := by decide +kernel
theorem c325_6 : fx_op 325 6 = some (.imul, 7, 6) := by decide +kernel
theorem c325_7 : fx_op 325 7 = some (.iload_n 1, 8, 7) := by decide +kernel
theorem c325_8 : fx_op 325 8 = some (.iadd, 9, 8) := by decide +kernel
theorem c325_9 : fx_op 325 9 = some (.istore_n 3, 10, 9) := by decide +kernel
theorem c325_10 : fx_op 325 10 = some (.aload_n 0, 11, 10) := by decide +kernel
theorem c325_11 : fx_ci 325 11 = some (0, 12) := by decide +kernel
theorem c325_12 : fx_op 325 12 = some (.iload_n 1, 13, 12) := by decide +kernel
theorem c325_13 : fx_ca 325 13 = some (241, 3, 2, 16) := by decide +kernel
theorem c325_16 : fx_op 325 16 = some (.ifCond .ne 11, 19, 27) := by decide +kernel
theorem c325_27 : fx_op 325 27 = some (.aload_n 0, 28, 27) := by decide +kernel
theorem c325_28 : fx_op 325 28 = some (.iload_n 1, 29, 28) := by decide +kernel
theorem c325_19 : fx_op 325 19 = some (.aload_n 0, 20, 19) := by decide +kernel
theorem c325_20 : fx_ci 325 20 = some (2, 21) := by decide +kernel
theorem c325_29 : fx_ca 325 29 = some (271, 2, 2, 32) := by decide +kernel
theorem c325_21 : fx_ca 325 21 = some (259, 2, 2, 24) := by decide +kernel
theorem c325_32 : fx_op 325 32 = some (.ifCond .lt 13, 35, 45) := by decide +kernel
theorem c325_45 : fx_op 325 45 = some (.iload_n 2, 46, 45) := by decide +kernel
theorem c325_46 : fx_op 325 46 = some (.aload_n 0, 47, 46) := by decide +kernel
theorem c325_47 : fx_gf 325 47 = some (12, 39, 50) := by decide +kernel
theorem c325_50 : fx_ci 325 50 = some (0, 51) := by decide +kernel
theorem c325_51 : fx_op 325 51 = some (.iaload, 52, 51) := by decide +kernel
theorem c325_52 : fx_op 325 52 = some (.if_icmp .lt 11, 55, 63) := by decide +kernel
theorem c325_63 : fx_op 325 63 = some (.aload_n 0, 64, 63) := by decide +kernel
theorem c325_64 : fx_gf 325 64 = some (12, 81, 67) := by decide +kernel
theorem c325_67 : fx_op 325 67 = some (.iload_n 3, 68, 67) := by decide +kernel
theorem c325_68 : fx_op 325 68 = some (.iaload, 69, 68) := by decide +kernel
theorem c325_69 : fx_op 325 69 = some (.iload_n 2, 70, 69) := by decide +kernel
theorem c325_70 : fx_op 325 70 = some (.if_icmp .ne 13, 73, 83) := by decide +kernel
theorem c325_83 : fx_op 325 83 = some (.aload_n 0, 84, 83) := by decide +kernel
theorem c325_84 : fx_gf 325 84 = some (12, 83, 87) := by decide +kernel
theorem c325_87 : fx_op 325 87 = some (.aload_n 0, 88, 87) := by decide +kernel
theorem c325_88 : fx_gf 325 88 = some (12, 80, 91) := by decide +kernel
theorem c325_91 : fx_op 325 91 = some (.iaload, 92, 91) := by decide +kernel
theorem c325_92 : fx_ci 325 92 = some (100, 94) := by decide +kernel
theorem c325_94 : fx_op 325 94 = some (.if_icmp .ne 11, 97, 105) := by decide +kernel
theorem c325_105 : fx_ci 325 105 = some (100, 107) := by decide +kernel
theorem c325_107 : fx_op 325 107 = some (.aload_n 0, 108, 107) := by decide +kernel
theorem c325_108 : fx_gf 325 108 = some (12, 80, 111) := by decide +kernel
theorem c325_111 : fx_op 325 111 = some (.imul, 112, 111) := by decide +kernel
theorem c325_112 : fx_op 325 112 = some (.aload_n 0, 113, 112) := by decide +kernel
theorem c325_113 : fx_gf 325 113 = some (12, 83, 116) := by decide +kernel
theorem c325_116 : fx_op 325 116 = some (.aload_n 0, 117, 116) := by decide +kernel
theorem c325_117 : fx_gf 325 117 = some (12, 80, 120) := by decide +kernel
theorem c325_120 : fx_op 325 120 = some (.iaload, 121, 120) := by decide +kernel
theorem c325_121 : fx_op 325 121 = some (.iadd, 122, 121) := by decide +kernel
theorem c325_122 : fx_op 325 122 = some (.istore 4, 124, 122) := by decide +kernel
theorem c325_124 : fx_op 325 124 = some (.aload_n 0, 125, 124) := by decide +kernel
theorem c325_125 : fx_gf 325 125 = some (12, 85, 128) := by decide +kernel
theorem c325_128 : fx_op 325 128 = some (.iload 4, 130, 128) := by decide +kernel
theorem c325_130 : fx_op 325 130 = some (.iload_n 1, 131, 130) := by decide +kernel
theorem c325_132 : fx_op 325 132 = some (.aload_n 0, 133, 132) := by decide +kernel
theorem c325_133 : fx_gf 325 133 = some (12, 86, 136) := by decide +kernel
theorem c325_136 : fx_op 325 136 = some (.iload 4, 138, 136) := by decide +kernel
theorem c325_138 : fx_op 325 138 = some (.iload_n 2, 139, 138) := by decide +kernel
theorem c325_140 : fx_op 325 140 = some (.aload_n 0, 141, 140) := by decide +kernel
theorem c325_141 : fx_gf 325 141 = some (12, 87, 144) := by decide +kernel
theorem c325_144 : fx_op 325 144 = some (.iload 4, 146, 144) := by decide +kernel
theorem c325_146 : fx_op 325 146 = some (.aload_n 0, 147, 146) := by decide +kernel
theorem c325_147 : fx_gf 325 147 = some (12, 84, 150) := by decide +kernel
theorem c325_150 : fx_op 325 150 = some (.aload_n 0, 151, 150) := by decide +kernel
theorem c325_151 : fx_gf 325 151 = some (12, 80, 154) := by decide +kernel
theorem c325_156 : fx_op 325 156 = some (.aload_n 0, 157, 156) := by decide +kernel
theorem c325_157 : fx_gf 325 157 = some (12, 88, 160) := by decide +kernel
theorem c325_160 : fx_op 325 160 = some (.iload 4, 162, 160) := by decide +kernel
theorem c325_162 : fx_op 325 162 = some (.aload_n 0, 163, 162) := by decide +kernel
theorem c325_163 : fx_gf 325 163 = some (12, 81, 166) := by decide +kernel
theorem c325_166 : fx_op 325 166 = some (.iload_n 3, 167, 166) := by decide +kernel
theorem c325_169 : fx_op 325 169 = some (.aload_n 0, 170, 169) := by decide +kernel
theorem c325_170 : fx_gf 325 170 = some (12, 81, 173) := by decide +kernel
theorem c325_173 : fx_op 325 173 = some (.iload_n 3, 174, 173) := by decide +kernel
theorem c325_174 : fx_op 325 174 = some (.iload_n 2, 175, 174) := by decide +kernel
theorem c325_176 : fx_op 325 176 = some (.aload_n 0, 177, 176) := by decide +kernel
theorem c325_177 : fx_gf 325 177 = some (12, 84, 180) := by decide +kernel
theorem c325_180 : fx_op 325 180 = some (.aload_n 0, 181, 180) := by decide +kernel
theorem c325_181 : fx_gf 325 181 = some (12, 80, 184) := by decide +kernel
theorem c325_184 : fx_op 325 184 = some (.aload_n 0, 185, 184) := by decide +kernel
theorem c325_185 : fx_gf 325 185 = some (12, 83, 188) := by decide +kernel
theorem c325_188 : fx_op 325 188 = some (.aload_n 0, 189, 188) := by decide +kernel
theorem c325_189 : fx_gf 325 189 = some (12, 80, 192) := by decide +kernel
theorem c325_194 : fx_op 325 194 = some (.aload_n 0, 195, 194) := by decide +kernel
theorem c325_195 : fx_gf 325 195 = some (12, 83, 198) := by decide +kernel
theorem c325_198 : fx_op 325 198 = some (.aload_n 0, 199, 198) := by decide +kernel
theorem c325_199 : fx_gf 325 199 = some (12, 80, 202) := by decide +kernel
theorem c325_202 : fx_op 325 202 = some (.dup2, 203, 202) := by decide +kernel
theorem c325_204 : fx_ci 325 204 = some (1, 205) := by decide +kernel
theorem c325_205 : fx_op 325 205 = some (.iadd, 206, 205) := by decide +kernel
theorem c325_207 : fx_op 325 207 = some (.aload_n 0, 208, 207) := by decide +kernel
theorem c325_97 : fx_op 325 97 = some (.aload_n 0, 98, 97) := by decide +kernel
theorem c325_98 : fx_ci 325 98 = some (4, 99) := by decide +kernel
theorem c325_73 : fx_op 325 73 = some (.aload_n 0, 74, 73) := by decide +kernel
theorem c325_74 : fx_cj 325 74 = some (1935764837, 77) := by decide +kernel
theorem c325_55 : fx_op 325 55 = some (.aload_n 0, 56, 55) := by decide +kernel
theorem c325_56 : fx_ci 325 56 = some (5, 57) := by decide +kernel
theorem c325_35 : fx_op 325 35 = some (.aload_n 0, 36, 35) := by decide +kernel
theorem c325_36 : fx_cj 325 36 = some (444150998382, 39) := by decide +kernel
theorem c325_131 : fx_op 325 131 = some (.iastore, 132, 131) := by decide +kernel
theorem c325_139 : fx_op 325 139 = some (.iastore, 140, 139) := by decide +kernel
theorem c325_154 : fx_op 325 154 = some (.iaload, 155, 154) := by decide +kernel
theorem c325_155 : fx_op 325 155 = some (.iastore, 156, 155) := by decide +kernel
theorem c325_167 : fx_op 325 167 = some (.iaload, 168, 167) := by decide +kernel
theorem c325_168 : fx_op 325 168 = some (.iastore, 169, 168) := by decide +kernel
theorem c325_175 : fx_op 325 175 = some (.iastore, 176, 175) := by decide +kernel
theorem c325_192 : fx_op 325 192 = some (.iaload, 193, 192) := by decide +kernel
theorem c325_193 : fx_op 325 193 = some (.iastore, 194, 193) := by decide +kernel
theorem c325_203 : fx_op 325 203 = some (.iaload, 204, 203) := by decide +kernel
theorem c325_206 : fx_op 325 206 = some (.iastore, 207, 206) := by decide +kernel
theorem c325_208 : fx_ca 325 208 = some (261, 1, 2, 211) := by decide +kernel
theorem c325_99 : fx_ca 325 99 = some (259, 2, 2, 102) := by decide +kernel
theorem c325_77 : fx_ca 325 77 = some (253, 2, 2, 80) := by decide +kernel
theorem c325_57 : fx_ca 325 57 = some (259, 2, 2, 60) := by decide +kernel
theorem c325_39 : fx_ca 325 39 = some (253, 2, 2, 42) := by decide +kernel
theorem c325_24 : fx_op 325 24 = some (.goto 187, 27, 211) := by decide +kernel
theorem c325_211 : fx_op 325 211 = some (.return_, 212, 211) := by decide +kernel
theorem c325_102 : fx_op 325 102 = some (.goto 109, 105, 211) := by decide +kernel
theorem c325_80 : fx_op 325 80 = some (.goto 131, 83, 211) := by decide +kernel
theorem c325_60 : fx_op 325 60 = some (.goto 151, 63, 211) := by decide +kernel
theorem c325_42 : fx_op 325 42 = some (.goto 169, 45, 211) := by decide +kernel
theorem s325_0 {kc : List va_E} {d : Nat} {x1 x2 : Int} {M : fx_M} {Q : Option fx_V → fx_M → Prop} (H : wc kc d 241 [jR 133, jI 0, jI x1] M (fun v M1 => wp kc (d + 1) 325 16 [some (jR 133), some (jI x1), some (jI x2), some (jI ((9 * (M 133 80)) + x1)), none] (v.toList ++ []) M1 Q)) : wp kc (d + 1) 325 0 [some (jR 133), some (jI x1), some (jI x2), none, none] [] M Q :=
  (x_ci c325_0 (x_aldn c325_2 rfl (x_gfi c325_3 k_133_80 (x_imul c325_6 (x_ildn c325_7 rfl (x_iadd c325_8 (x_istn (l' := [some (jR 133), some (jI x1), some (jI x2), some (jI ((9 * (M 133 80)) + x1)), none]) c325_9 rfl (x_aldn c325_10 rfl (x_ci c325_11 (x_ildn c325_12 rfl (wp_wk (l' := [some (jR 133), some (jI x1), some (jI x2), some (jI ((9 * (M 133 80)) + x1)), none]) ⟨rfl, ⟨rfl, ⟨rfl, ⟨rfl, trivial⟩⟩⟩⟩ (x_cv (As := [jI 0, jI x1]) (st := []) c325_13 cl_133 kl241 rfl (Nat.le_of_ble_eq_true rfl) mx241 (Nat.le_refl _) H))))))))))))
theorem s325_16 {kc : List va_E} {d : Nat} {v1 v2 v3 u0 : Int} {M : fx_M} {Q : Option fx_V → fx_M → Prop} (H : ((fx_in32 u0)) ∧ (u0 ≠ 0 → wc kc d 271 [jR 133, jI v1] M (fun v M1 => wp kc (d + 1) 325 32 [some (jR 133), some (jI v1), some (jI v2), some (jI v3), none] (v.toList ++ []) M1 Q)) ∧ (u0 = 0 → wc kc d 259 [jR 133, jI 2] M (fun v M1 => wp kc (d + 1) 325 24 [none, none, none, none, none] (v.toList ++ []) M1 Q))) : wp kc (d + 1) 325 16 [some (jR 133), some (jI v1), some (jI v2), some (jI v3), none] [jI u0] M Q :=
  (x_zne c325_16 H.1 (fun h1 => (x_aldn c325_27 rfl (x_ildn c325_28 rfl (wp_wk (l' := [some (jR 133), some (jI v1), some (jI v2), some (jI v3), none]) ⟨rfl, ⟨rfl, ⟨rfl, ⟨rfl, trivial⟩⟩⟩⟩ (x_cv (As := [jI v1]) (st := []) c325_29 cl_133 kl271 rfl (Nat.le_of_ble_eq_true rfl) mx271 (Nat.le_refl _) (H.2.1 h1)))))) (fun h2 => (x_aldn c325_19 rfl (x_ci c325_20 (wp_wk (l' := [none, none, none, none, none]) trivial (x_cv (As := [jI 2]) (st := []) c325_21 cl_133 kl259 rfl (Nat.le_of_ble_eq_true rfl) mx259 (Nat.le_refl _) (H.2.2 h2)))))))
theorem s325_24 {kc : List va_E} {d : Nat} {M : fx_M} {Q : Option fx_V → fx_M → Prop} (H : Q none M) : wp kc (d + 1) 325 24 [none, none, none, none, none] [] M Q :=
  (x_goto c325_24 (x_vr c325_211 r325 H))
theorem s325_32 {kc : List va_E} {d : Nat} {v1 v2 v3 u0 : Int} {M : fx_M} {Q : Option fx_V → fx_M → Prop} (H : ((fx_in32 u0)) ∧ (u0 < 0 → ((fx_in32 v2) ∧ (fx_in32 (M 148 0))) ∧ (v2 < M 148 0 → (((0 : Int) ≤ v3 ∧ v3 < 27)) ∧ ((fx_in32 (M 174 v3)) ∧ (fx_in32 v2)) ∧ (M 174 v3 ≠ v2 → (((0 : Int) ≤ M 133 80 ∧ M 133 80 < 3)) ∧ ((fx_in32 (M 176 (M 133 80)))) ∧ (M 176 (M 133 80) ≠ 100 → (((0 : Int) ≤ M 133 80 ∧ M 133 80 < 3)) ∧ (((0 : Int) ≤ (100 * (M 133 80)) + (M 176 (M 133 80)) ∧ (100 * (M 133 80)) + (M 176 (M 133 80)) < 300)) ∧ (((0 : Int) ≤ (100 * (M 133 80)) + (M 176 (M 133 80)) ∧ (100 * (M 133 80)) + (M 176 (M 133 80)) < 300)) ∧ (((0 : Int) ≤ M 133 80 ∧ M 133 80 < 3)) ∧ (((0 : Int) ≤ (100 * (M 133 80)) + (M 176 (M 133 80)) ∧ (100 * (M 133 80)) + (M 176 (M 133 80)) < 300)) ∧ (((0 : Int) ≤ v3 ∧ v3 < 27)) ∧ (((0 : Int) ≤ (100 * (M 133 80)) + (M 176 (M 133 80)) ∧ (100 * (M 133 80)) + (M 176 (M 133 80)) < 300)) ∧ (((0 : Int) ≤ v3 ∧ v3 < 27)) ∧ (((0 : Int) ≤ M 133 80 ∧ M 133 80 < 3)) ∧ (((0 : Int) ≤ M 133 80 ∧ M 133 80 < 3)) ∧ (((0 : Int) ≤ M 133 80 ∧ M 133 80 < 3)) ∧ (((0 : Int) ≤ M 133 80 ∧ M 133 80 < 3)) ∧ wc kc d 261 [jR 133] (fx_up (fx_up (fx_up (fx_up (fx_up (fx_up (fx_up M 178 ((100 * (M 133 80)) + (M 176 (M 133 80))) v1) 179 ((100 * (M 133 80)) + (M 176 (M 133 80))) v2) 180 ((100 * (M 133 80)) + (M 176 (M 133 80))) (M 177 (M 133 80))) 181 ((100 * (M 133 80)) + (M 176 (M 133 80))) (M 174 v3)) 174 v3 v2) 177 (M 133 80) (M 176 (M 133 80))) 176 (M 133 80) ((M 176 (M 133 80)) + 1)) (fun v M1 => wp kc (d + 1) 325 211 [none, none, none, none, none] (v.toList ++ []) M1 Q)) ∧ (M 176 (M 133 80) = 100 → wc kc d 259 [jR 133, jI 4] M (fun v M1 => wp kc (d + 1) 325 102 [none, none, none, none, none] (v.toList ++ []) M1 Q))) ∧ (M 174 v3 = v2 → wc kc d 253 [jR 133, jL 1935764837] M (fun v M1 => wp kc (d + 1) 325 80 [none, none, none, none, none] (v.toList ++ []) M1 Q))) ∧ (M 148 0 ≤ v2 → wc kc d 259 [jR 133, jI 5] M (fun v M1 => wp kc (d + 1) 325 60 [none, none, none, none, none] (v.toList ++ []) M1 Q))) ∧ (0 ≤ u0 → wc kc d 253 [jR 133, jL 444150998382] M (fun v M1 => wp kc (d + 1) 325 42 [none, none, none, none, none] (v.toList ++ []) M1 Q))) : wp kc (d + 1) 325 32 [some (jR 133), some (jI v1), some (jI v2), some (jI v3), none] [jI u0] M Q :=
  (x_zlt c325_32 H.1 (fun h7 => (x_ildn c325_45 rfl (x_aldn c325_46 rfl (x_gfr c325_47 k_133_39 (x_ci c325_50 (x_iald c325_51 a_148 (by decide) (by decide) (x_clt c325_52 (H.2.1 h7).1.1 (H.2.1 h7).1.2 (fun h5 => (x_aldn c325_63 rfl (x_gfr c325_64 k_133_81 (x_ildn c325_67 rfl (x_iald c325_68 a_174 ((H.2.1 h7).2.1 h5).1 (by decide) (x_ildn c325_69 rfl (x_cne c325_70 ((H.2.1 h7).2.1 h5).2.1.1 ((H.2.1 h7).2.1 h5).2.1.2 (fun h3 => (x_aldn c325_83 rfl (x_gfr c325_84 k_133_83 (x_aldn c325_87 rfl (x_gfi c325_88 k_133_80 (x_iald c325_91 a_176 (((H.2.1 h7).2.1 h5).2.2.1 h3).1 (by decide) (x_ci c325_92 (x_cne c325_94 (((H.2.1 h7).2.1 h5).2.2.1 h3).2.1 (by decide) (fun h1 => (x_ci c325_105 (x_aldn c325_107 rfl (x_gfi c325_108 k_133_80 (x_imul c325_111 (x_aldn c325_112 rfl (x_gfr c325_113 k_133_83 (x_aldn c325_116 rfl (x_gfi c325_117 k_133_80 (x_iald c325_120 a_176 ((((H.2.1 h7).2.1 h5).2.2.1 h3).2.2.1 h1).1 (by decide) (x_iadd c325_121 (x_ist (l' := [some (jR 133), some (jI v1), some (jI v2), some (jI v3), some (jI ((100 * (M 133 80)) + (M 176 (M 133 80))))]) c325_122 rfl (x_aldn c325_124 rfl (x_gfr c325_125 k_133_85 (x_ild c325_128 rfl (x_ildn c325_130 rfl (x_iast c325_131 a_178 ((((H.2.1 h7).2.1 h5).2.2.1 h3).2.2.1 h1).2.1 (by decide) (x_aldn c325_132 rfl (x_gfr c325_133 k_133_86 (x_ild c325_136 rfl (x_ildn c325_138 rfl (x_iast c325_139 a_179 ((((H.2.1 h7).2.1 h5).2.2.1 h3).2.2.1 h1).2.2.1 (by decide) (x_aldn c325_140 rfl (x_gfr c325_141 k_133_87 (x_ild c325_144 rfl (x_aldn c325_146 rfl (x_gfr c325_147 k_133_84 (x_aldn c325_150 rfl (x_gfi c325_151 k_133_80 (wp_vI (((fx_upA (by decide)).trans (fx_upA (by decide)))) (x_iald c325_154 a_177 ((((H.2.1 h7).2.1 h5).2.2.1 h3).2.2.1 h1).2.2.2.1 (by decide) (wp_vI (((fx_upA (by decide)).trans (fx_upA (by decide)))) (x_iast c325_155 a_180 ((((H.2.1 h7).2.1 h5).2.2.1 h3).2.2.1 h1).2.2.2.2.1 (by decide) (x_aldn c325_156 rfl (x_gfr c325_157 k_133_88 (x_ild c325_160 rfl (x_aldn c325_162 rfl (x_gfr c325_163 k_133_81 (x_ildn c325_166 rfl (x_iald c325_167 a_174 ((((H.2.1 h7).2.1 h5).2.2.1 h3).2.2.1 h1).2.2.2.2.2.1 (by decide) (wp_vI (((fx_upA (by decide)).trans ((fx_upA (by decide)).trans (fx_upA (by decide))))) (x_iast c325_168 a_181 ((((H.2.1 h7).2.1 h5).2.2.1 h3).2.2.1 h1).2.2.2.2.2.2.1 (by decide) (x_aldn c325_169 rfl (x_gfr c325_170 k_133_81 (x_ildn c325_173 rfl (x_ildn c325_174 rfl (x_iast c325_175 a_174 ((((H.2.1 h7).2.1 h5).2.2.1 h3).2.2.1 h1).2.2.2.2.2.2.2.1 (by decide) (x_aldn c325_176 rfl (x_gfr c325_177 k_133_84 (x_aldn c325_180 rfl (x_gfi c325_181 k_133_80 (wp_vI (((fx_upA (by decide)).trans ((fx_upA (by decide)).trans ((fx_upA (by decide)).trans ((fx_upA (by decide)).trans (fx_upA (by decide))))))) (x_aldn c325_184 rfl (x_gfr c325_185 k_133_83 (x_aldn c325_188 rfl (x_gfi c325_189 k_133_80 (wp_vI (((fx_upA (by decide)).trans ((fx_upA (by decide)).trans ((fx_upA (by decide)).trans ((fx_upA (by decide)).trans (fx_upA (by decide))))))) (x_iald c325_192 a_176 ((((H.2.1 h7).2.1 h5).2.2.1 h3).2.2.1 h1).2.2.2.2.2.2.2.2.1 (by decide) (wp_vI (((fx_upA (by decide)).trans ((fx_upA (by decide)).trans ((fx_upA (by decide)).trans ((fx_upA (by decide)).trans (fx_upA (by decide))))))) (x_iast c325_193 a_177 ((((H.2.1 h7).2.1 h5).2.2.1 h3).2.2.1 h1).2.2.2.2.2.2.2.2.2.1 (by decide) (x_aldn c325_194 rfl (x_gfr c325_195 k_133_83 (x_aldn c325_198 rfl (x_gfi c325_199 k_133_80 (wp_vI (((fx_upA (by decide)).trans ((fx_upA (by decide)).trans ((fx_upA (by decide)).trans ((fx_upA (by decide)).trans ((fx_upA (by decide)).trans (fx_upA (by decide)))))))) (x_dup2 c325_202 (x_iald c325_203 a_176 ((((H.2.1 h7).2.1 h5).2.2.1 h3).2.2.1 h1).2.2.2.2.2.2.2.2.2.2.1 (by decide) (wp_vI (((fx_upA (by decide)).trans ((fx_upA (by decide)).trans ((fx_upA (by decide)).trans ((fx_upA (by decide)).trans ((fx_upA (by decide)).trans (fx_upA (by decide)))))))) (x_ci c325_204 (x_iadd c325_205 (x_iast c325_206 a_176 ((((H.2.1 h7).2.1 h5).2.2.1 h3).2.2.1 h1).2.2.2.2.2.2.2.2.2.2.2.1 (by decide) (x_aldn c325_207 rfl (wp_wk (l' := [none, none, none, none, none]) trivial (x_cv (As := []) (st := []) c325_208 cl_133 kl261 rfl (Nat.le_of_ble_eq_true rfl) mx261 (Nat.le_refl _) ((((H.2.1 h7).2.1 h5).2.2.1 h3).2.2.1 h1).2.2.2.2.2.2.2.2.2.2.2.2)))))))))))))))))))))))))))))))))))))))))))))))))))))))))))))))))))))))))) (fun h2 => (x_aldn c325_97 rfl (x_ci c325_98 (wp_wk (l' := [none, none, none, none, none]) trivial (x_cv (As := [jI 4]) (st := []) c325_99 cl_133 kl259 rfl (Nat.le_of_ble_eq_true rfl) mx259 (Nat.le_refl _) ((((H.2.1 h7).2.1 h5).2.2.1 h3).2.2.2 h2)))))))))))))) (fun h4 => (x_aldn c325_73 rfl (x_cj c325_74 (wp_wk (l' := [none, none, none, none, none]) trivial (x_cv (As := [jL 1935764837]) (st := []) c325_77 cl_133 kl253 rfl (Nat.le_of_ble_eq_true rfl) mx253 (Nat.le_refl _) (((H.2.1 h7).2.1 h5).2.2.2 h4))))))))))))) (fun h6 => (x_aldn c325_55 rfl (x_ci c325_56 (wp_wk (l' := [none, none, none, none, none]) trivial (x_cv (As := [jI 5]) (st := []) c325_57 cl_133 kl259 rfl (Nat.le_of_ble_eq_true rfl) mx259 (Nat.le_refl _) ((H.2.1 h7).2.2 h6))))))))))))) (fun h8 => (x_aldn c325_35 rfl (x_cj c325_36 (wp_wk (l' := [none, none, none, none, none]) trivial (x_cv (As := [jL 444150998382]) (st := []) c325_39 cl_133 kl253 rfl (Nat.le_of_ble_eq_true rfl) mx253 (Nat.le_refl _) (H.2.2 h8)))))))
theorem s325_42 {kc : List va_E} {d : Nat} {M : fx_M} {Q : Option fx_V → fx_M → Prop} (H : Q none M) : wp kc (d + 1) 325 42 [none, none, none, none, none] [] M Q :=
  (x_goto c325_42 (x_vr c325_211 r325 H))
theorem s325_60 {kc : List va_E} {d : Nat} {M : fx_M} {Q : Option fx_V → fx_M → Prop} (H : Q none M) : wp kc (d + 1) 325 60 [none, none, none, none, none] [] M Q :=
  (x_goto c325_60 (x_vr c325_211 r325 H))
theorem s325_80 {kc : List va_E} {d : Nat} {M : fx_M} {Q : Option fx_V → fx_M → Prop} (H : Q none M) : wp kc (d + 1) 325 80 [none, none, none, none, none] [] M Q :=
  (x_goto c325_80 (x_vr c325_211 r325 H))
theorem s325_102 {kc : List va_E} {d : Nat} {M : fx_M} {Q : Option fx_V → fx_M → Prop} (H : Q none M) : wp kc (d + 1) 325 102 [none, none, none, none, none] [] M Q :=
  (x_goto c325_102 (x_vr c325_211 r325 H))
theorem s325_211 {kc : List va_E} {d : Nat} {M : fx_M} {Q : Option fx_V → fx_M → Prop} (H : Q none M) : wp kc (d + 1) 325 211 [none, none, none, none, none] [] M Q :=
  (x_vr c325_211 r325 H)
theorem s325 {kc : List va_E} {d : Nat} {x1 x2 : Int} {M : fx_M} {Q : Option fx_V → fx_M → Prop} (H : wc kc d 241 [jR 133, jI 0, jI x1] M (fun v M1 => wp kc (d + 1) 325 16 [some (jR 133), some (jI x1), some (jI x2), some (jI ((9 * (M 133 80)) + x1)), none] (v.toList ++ []) M1 Q)) : wc kc (d + 1) 325 [jR 133, jI x1, jI x2] M Q :=
  wc_of (wp_wk (l' := [some (jR 133), some (jI x1), some (jI x2), none, none]) ⟨rfl, ⟨rfl, ⟨rfl, trivial⟩⟩⟩ (s325_0 H))

/- PuzzleHouseModel.sayUndo()V -/
theorem c326_0 : fx_op 326 0 = some (.aload_n 0, 1, 0) := by decide +kernel
theorem c326_1 : fx_gf 326 1 = some (12, 84, 4) := by decide +kernel
theorem c326_4 : fx_op 326 4 = some (.aload_n 0, 5, 4) := by decide +kernel
theorem c326_5 : fx_gf 326 5 = some (12, 80, 8) := by decide +kernel
theorem c326_9 : fx_op 326 9 = some (.ifCond .ge 13, 12, 22) := by decide +kernel
theorem c326_22 : fx_ci 326 22 = some (100, 24) := by decide +kernel
theorem c326_24 : fx_op 326 24 = some (.aload_n 0, 25, 24) := by decide +kernel
theorem c326_25 : fx_gf 326 25 = some (12, 80, 28) := by decide +kernel
theorem c326_28 : fx_op 326 28 = some (.imul, 29, 28) := by decide +kernel
theorem c326_29 : fx_op 326 29 = some (.aload_n 0, 30, 29) := by decide +kernel
theorem c326_30 : fx_gf 326 30 = some (12, 84, 33) := by decide +kernel
theorem c326_33 : fx_op 326 33 = some (.aload_n 0, 34, 33) := by decide +kernel
theorem c326_34 : fx_gf 326 34 = some (12, 80, 37) := by decide +kernel
theorem c326_38 : fx_op 326 38 = some (.iadd, 39, 38) := by decide +kernel
theorem c326_39 : fx_op 326 39 = some (.istore_n 1, 40, 39) := by decide +kernel
theorem c326_40 : fx_op 326 40 = some (.aload_n 0, 41, 40) := by decide +kernel
theorem c326_41 : fx_gf 326 41 = some (12, 81, 44) := by decide +kernel
theorem c326_44 : fx_ci 326 44 = some (9, 46) := by decide +kernel
theorem c326_46 : fx_op 326 46 = some (.aload_n 0, 47, 46) := by decide +kernel
theorem c326_47 : fx_gf 326 47 = some (12, 80, 50) := by decide +kernel
theorem c326_50 : fx_op 326 50 = some (.imul, 51, 50) := by decide +kernel
theorem c326_51 : fx_op 326 51 = some (.aload_n 0, 52, 51) := by decide +kernel
theorem c326_52 : fx_gf 326 52 = some (12, 85, 55) := by decide +kernel
theorem c326_55 : fx_op 326 55 = some (.iload_n 1, 56, 55) := by decide +kernel
theorem c326_57 : fx_op 326 57 = some (.iadd, 58, 57) := by decide +kernel
theorem c326_58 : fx_op 326 58 = some (.aload_n 0, 59, 58) := by decide +kernel
theorem c326_59 : fx_gf 326 59 = some (12, 88, 62) := by decide +kernel
theorem c326_62 : fx_op 326 62 = some (.iload_n 1, 63, 62) := by decide +kernel
theorem c326_65 : fx_op 326 65 = some (.aload_n 0, 66, 65) := by decide +kernel
theorem c326_66 : fx_gf 326 66 = some (12, 84, 69) := by decide +kernel
theorem c326_69 : fx_op 326 69 = some (.aload_n 0, 70, 69) := by decide +kernel
theorem c326_70 : fx_gf 326 70 = some (12, 80, 73) := by decide +kernel
theorem c326_73 : fx_op 326 73 = some (.aload_n 0, 74, 73) := by decide +kernel
theorem c326_74 : fx_gf 326 74 = some (12, 87, 77) := by decide +kernel
theorem c326_77 : fx_op 326 77 = some (.iload_n 1, 78, 77) := by decide +kernel
theorem c326_80 : fx_op 326 80 = some (.aload_n 0, 81, 80) := by decide +kernel
theorem c326_12 : fx_op 326 12 = some (.aload_n 0, 13, 12) := by decide +kernel
theorem c326_13 : fx_ci 326 13 = some (14, 15) := by decide +kernel
theorem c326_8 : fx_op 326 8 = some (.iaload, 9, 8) := by decide +kernel
theorem c326_37 : fx_op 326 37 = some (.iaload, 38, 37) := by decide +kernel
theorem c326_56 : fx_op 326 56 = some (.iaload, 57, 56) := by decide +kernel
theorem c326_63 : fx_op 326 63 = some (.iaload, 64, 63) := by decide +kernel
theorem c326_64 : fx_op 326 64 = some (.iastore, 65, 64) := by decide +kernel
theorem c326_78 : fx_op 326 78 = some (.iaload, 79, 78) := by decide +kernel
theorem c326_79 : fx_op 326 79 = some (.iastore, 80, 79) := by decide +kernel
theorem c326_81 : fx_ca 326 81 = some (261, 1, 2, 84) := by decide +kernel
theorem c326_15 : fx_ca 326 15 = some (221, 1, 0, 18) := by decide +kernel
theorem c326_84 : fx_op 326 84 = some (.return_, 85, 84) := by decide +kernel
theorem c326_18 : fx_ca 326 18 = some (260, 2, 2, 21) := by decide +kernel
theorem c326_21 : fx_op 326 21 = some (.return_, 22, 21) := by decide +kernel
theorem s326_0 {kc : List va_E} {d : Nat} {M : fx_M} {Q : Option fx_V → fx_M → Prop} (H : (((0 : Int) ≤ M 133 80 ∧ M 133 80 < 3)) ∧ ((fx_in32 (M 177 (M 133 80)))) ∧ (0 ≤ M 177 (M 133 80) → (((0 : Int) ≤ M 133 80 ∧ M 133 80 < 3)) ∧ (((0 : Int) ≤ (100 * (M 133 80)) + (M 177 (M 133 80)) ∧ (100 * (M 133 80)) + (M 177 (M 133 80)) < 300)) ∧ (((0 : Int) ≤ (100 * (M 133 80)) + (M 177 (M 133 80)) ∧ (100 * (M 133 80)) + (M 177 (M 133 80)) < 300)) ∧ (((0 : Int) ≤ (9 * (M 133 80)) + (M 178 ((100 * (M 133 80)) + (M 177 (M 133 80)))) ∧ (9 * (M 133 80)) + (M 178 ((100 * (M 133 80)) + (M 177 (M 133 80)))) < 27)) ∧ (((0 : Int) ≤ (100 * (M 133 80)) + (M 177 (M 133 80)) ∧ (100 * (M 133 80)) + (M 177 (M 133 80)) < 300)) ∧ (((0 : Int) ≤ M 133 80 ∧ M 133 80 < 3)) ∧ wc kc d 261 [jR 133] (fx_up (fx_up M 174 ((9 * (M 133 80)) + (M 178 ((100 * (M 133 80)) + (M 177 (M 133 80))))) (M 181 ((100 * (M 133 80)) + (M 177 (M 133 80))))) 177 (M 133 80) (M 180 ((100 * (M 133 80)) + (M 177 (M 133 80))))) (fun v M1 => wp kc (d + 1) 326 84 [none, none] (v.toList ++ []) M1 Q)) ∧ (M 177 (M 133 80) < 0 → wc kc d 221 [jI 14] M (fun v M1 => wp kc (d + 1) 326 18 [none, none] (v.toList ++ [jR 133]) M1 Q))) : wp kc (d + 1) 326 0 [some (jR 133), none] [] M Q :=
  (x_aldn c326_0 rfl (x_gfr c326_1 k_133_84 (x_aldn c326_4 rfl (x_gfi c326_5 k_133_80 (x_iald c326_8 a_177 H.1 (by decide) (x_zge c326_9 H.2.1 (fun h1 => (x_ci c326_22 (x_aldn c326_24 rfl (x_gfi c326_25 k_133_80 (x_imul c326_28 (x_aldn c326_29 rfl (x_gfr c326_30 k_133_84 (x_aldn c326_33 rfl (x_gfi c326_34 k_133_80 (x_iald c326_37 a_177 (H.2.2.1 h1).1 (by decide) (x_iadd c326_38 (x_istn (l' := [some (jR 133), some (jI ((100 * (M 133 80)) + (M 177 (M 133 80))))]) c326_39 rfl (x_aldn c326_40 rfl (x_gfr c326_41 k_133_81 (x_ci c326_44 (x_aldn c326_46 rfl (x_gfi c326_47 k_133_80 (x_imul c326_50 (x_aldn c326_51 rfl (x_gfr c326_52 k_133_85 (x_ildn c326_55 rfl (x_iald c326_56 a_178 (H.2.2.1 h1).2.1 (by decide) (x_iadd c326_57 (x_aldn c326_58 rfl (x_gfr c326_59 k_133_88 (x_ildn c326_62 rfl (x_iald c326_63 a_181 (H.2.2.1 h1).2.2.1 (by decide) (x_iast c326_64 a_174 (H.2.2.1 h1).2.2.2.1 (by decide) (x_aldn c326_65 rfl (x_gfr c326_66 k_133_84 (x_aldn c326_69 rfl (x_gfi c326_70 k_133_80 (wp_vI (fx_upA (by decide)) (x_aldn c326_73 rfl (x_gfr c326_74 k_133_87 (x_ildn c326_77 rfl (x_iald c326_78 a_180 (H.2.2.1 h1).2.2.2.2.1 (by decide) (wp_vI (fx_upA (by decide)) (x_iast c326_79 a_177 (H.2.2.1 h1).2.2.2.2.2.1 (by decide) (x_aldn c326_80 rfl (wp_wk (l' := [none, none]) trivial (x_cv (As := []) (st := []) c326_81 cl_133 kl261 rfl (Nat.le_of_ble_eq_true rfl) mx261 (Nat.le_refl _) (H.2.2.1 h1).2.2.2.2.2.2)))))))))))))))))))))))))))))))))))))))))) (fun h2 => (x_aldn c326_12 rfl (x_ci c326_13 (wp_wk (l' := [none, none]) trivial (x_cs (As := [jI 14]) (st := [jR 133]) c326_15 (by decide) rfl (Nat.le_of_ble_eq_true rfl) mx221 (Nat.le_refl _) (H.2.2.2 h2))))))))))))
theorem s326_18 {kc : List va_E} {d : Nat} {u0 : Int} {M : fx_M} {Q : Option fx_V → fx_M → Prop} (H : wc kc d 260 [jR 133, jL u0] M (fun v M1 => wp kc (d + 1) 326 21 [none, none] (v.toList ++ []) M1 Q)) : wp kc (d + 1) 326 18 [none, none] [jL u0, jR 133] M Q :=
  (wp_wk (l' := [none, none]) trivial (x_cv (As := [jL u0]) (st := []) c326_18 cl_133 kl260 rfl (Nat.le_of_ble_eq_true rfl) mx260 (Nat.le_refl _) H))
theorem s326_21 {kc : List va_E} {d : Nat} {M : fx_M} {Q : Option fx_V → fx_M → Prop} (H : Q none M) : wp kc (d + 1) 326 21 [none, none] [] M Q :=
  (x_vr c326_21 r326 H)
theorem s326_84 {kc : List va_E} {d : Nat} {M : fx_M} {Q : Option fx_V → fx_M → Prop} (H : Q none M) : wp kc (d + 1) 326 84 [none, none] [] M Q :=
  (x_vr c326_84 r326 H)
theorem s326 {kc : List va_E} {d : Nat} {M : fx_M} {Q : Option fx_V → fx_M → Prop} (H : (((0 : Int) ≤ M 133 80 ∧ M 133 80 < 3)) ∧ ((fx_in32 (M 177 (M 133 80)))) ∧ (0 ≤ M 177 (M 133 80) → (((0 : Int) ≤ M 133 80 ∧ M 133 80 < 3)) ∧ (((0 : Int) ≤ (100 * (M 133 80)) + (M 177 (M 133 80)) ∧ (100 * (M 133 80)) + (M 177 (M 133 80)) < 300)) ∧ (((0 : Int) ≤ (100 * (M 133 80)) + (M 177 (M 133 80)) ∧ (100 * (M 133 80)) + (M 177 (M 133 80)) < 300)) ∧ (((0 : Int) ≤ (9 * (M 133 80)) + (M 178 ((100 * (M 133 80)) + (M 177 (M 133 80)))) ∧ (9 * (M 133 80)) + (M 178 ((100 * (M 133 80)) + (M 177 (M 133 80)))) < 27)) ∧ (((0 : Int) ≤ (100 * (M 133 80)) + (M 177 (M 133 80)) ∧ (100 * (M 133 80)) + (M 177 (M 133 80)) < 300)) ∧ (((0 : Int) ≤ M 133 80 ∧ M 133 80 < 3)) ∧ wc kc d 261 [jR 133] (fx_up (fx_up M 174 ((9 * (M 133 80)) + (M 178 ((100 * (M 133 80)) + (M 177 (M 133 80))))) (M 181 ((100 * (M 133 80)) + (M 177 (M 133 80))))) 177 (M 133 80) (M 180 ((100 * (M 133 80)) + (M 177 (M 133 80))))) (fun v M1 => wp kc (d + 1) 326 84 [none, none] (v.toList ++ []) M1 Q)) ∧ (M 177 (M 133 80) < 0 → wc kc d 221 [jI 14] M (fun v M1 => wp kc (d + 1) 326 18 [none, none] (v.toList ++ [jR 133]) M1 Q))) : wc kc (d + 1) 326 [jR 133] M Q :=
  wc_of (wp_wk (l' := [some (jR 133), none]) ⟨rfl, trivial⟩ (s326_0 H))

/- PuzzleHouseModel.sayRedo(I)V -/
theorem c327_0 : fx_ci 327 0 = some (0, 1) := by decide +kernel
theorem c327_1 : fx_op 327 1 = some (.istore_n 2, 2, 1) := by decide +kernel
theorem c327_2 : fx_ci 327 2 = some (0, 3) := by decide +kernel
theorem c327_3 : fx_op 327 3 = some (.istore_n 3, 4, 3) := by decide +kernel
theorem c327_4 : fx_op 327 4 = some (.iload_n 3, 5, 4) := by decide +kernel
theorem c327_5 : fx_op 327 5 = some (.aload_n 0, 6, 5) := by decide +kernel
theorem c327_6 : fx_gf 327 6 = some (12, 83, 9) := by decide +kernel
theorem c327_9 : fx_op 327 9 = some (.aload_n 0, 10, 9) := by decide +kernel
theorem c327_10 : fx_gf 327 10 = some (12, 80, 13) := by decide +kernel
theorem c327_14 : fx_op 327 14 = some (.if_icmp .ge 92, 17, 106) := by decide +kernel
theorem c327_106 : fx_op 327 106 = some (.aload_n 0, 107, 106) := by decide +kernel
theorem c327_107 : fx_ci 327 107 = some (14, 109) := by decide +kernel
theorem c327_17 : fx_ci 327 17 = some (100, 19) := by decide +kernel
theorem c327_19 : fx_op 327 19 = some (.aload_n 0, 20, 19) := by decide +kernel
theorem c327_20 : fx_gf 327 20 = some (12, 80, 23) := by decide +kernel
theorem c327_23 : fx_op 327 23 = some (.imul, 24, 23) := by decide +kernel
theorem c327_24 : fx_op 327 24 = some (.iload_n 3, 25, 24) := by decide +kernel
theorem c327_25 : fx_op 327 25 = some (.iadd, 26, 25) := by decide +kernel
theorem c327_26 : fx_op 327 26 = some (.istore 4, 28, 26) := by decide +kernel
theorem c327_28 : fx_op 327 28 = some (.aload_n 0, 29, 28) := by decide +kernel
theorem c327_29 : fx_gf 327 29 = some (12, 87, 32) := by decide +kernel
theorem c327_32 : fx_op 327 32 = some (.iload 4, 34, 32) := by decide +kernel
theorem c327_35 : fx_op 327 35 = some (.aload_n 0, 36, 35) := by decide +kernel
theorem c327_36 : fx_gf 327 36 = some (12, 84, 39) := by decide +kernel
theorem c327_39 : fx_op 327 39 = some (.aload_n 0, 40, 39) := by decide +kernel
theorem c327_40 : fx_gf 327 40 = some (12, 80, 43) := by decide +kernel
theorem c327_44 : fx_op 327 44 = some (.if_icmp .eq 6, 47, 50) := by decide +kernel
theorem c327_50 : fx_op 327 50 = some (.iload_n 2, 51, 50) := by decide +kernel
theorem c327_51 : fx_op 327 51 = some (.iload_n 1, 52, 51) := by decide +kernel
theorem c327_52 : fx_op 327 52 = some (.if_icmp .ne 45, 55, 97) := by decide +kernel
theorem c327_97 : fx_op 327 97 = some (.iinc 2 1, 100, 97) := by decide +kernel
theorem c327_100 : fx_op 327 100 = some (.iinc 3 1, 103, 100) := by decide +kernel
theorem c327_55 : fx_op 327 55 = some (.aload_n 0, 56, 55) := by decide +kernel
theorem c327_56 : fx_gf 327 56 = some (12, 81, 59) := by decide +kernel
theorem c327_59 : fx_ci 327 59 = some (9, 61) := by decide +kernel
theorem c327_61 : fx_op 327 61 = some (.aload_n 0, 62, 61) := by decide +kernel
theorem c327_62 : fx_gf 327 62 = some (12, 80, 65) := by decide +kernel
theorem c327_65 : fx_op 327 65 = some (.imul, 66, 65) := by decide +kernel
theorem c327_66 : fx_op 327 66 = some (.aload_n 0, 67, 66) := by decide +kernel
theorem c327_67 : fx_gf 327 67 = some (12, 85, 70) := by decide +kernel
theorem c327_70 : fx_op 327 70 = some (.iload 4, 72, 70) := by decide +kernel
theorem c327_73 : fx_op 327 73 = some (.iadd, 74, 73) := by decide +kernel
theorem c327_74 : fx_op 327 74 = some (.aload_n 0, 75, 74) := by decide +kernel
theorem c327_75 : fx_gf 327 75 = some (12, 86, 78) := by decide +kernel
theorem c327_78 : fx_op 327 78 = some (.iload 4, 80, 78) := by decide +kernel
theorem c327_82 : fx_op 327 82 = some (.aload_n 0, 83, 82) := by decide +kernel
theorem c327_83 : fx_gf 327 83 = some (12, 84, 86) := by decide +kernel
theorem c327_86 : fx_op 327 86 = some (.aload_n 0, 87, 86) := by decide +kernel
theorem c327_87 : fx_gf 327 87 = some (12, 80, 90) := by decide +kernel
theorem c327_90 : fx_op 327 90 = some (.iload_n 3, 91, 90) := by decide +kernel
theorem c327_92 : fx_op 327 92 = some (.aload_n 0, 93, 92) := by decide +kernel
theorem c327_13 : fx_op 327 13 = some (.iaload, 14, 13) := by decide +kernel
theorem c327_109 : fx_ca 327 109 = some (221, 1, 0, 112) := by decide +kernel
theorem c327_34 : fx_op 327 34 = some (.iaload, 35, 34) := by decide +kernel
theorem c327_43 : fx_op 327 43 = some (.iaload, 44, 43) := by decide +kernel
theorem c327_103 : fx_op 327 103 = some (.goto (-99), 106, 4) := by decide +kernel
theorem c327_72 : fx_op 327 72 = some (.iaload, 73, 72) := by decide +kernel
theorem c327_80 : fx_op 327 80 = some (.iaload, 81, 80) := by decide +kernel
theorem c327_81 : fx_op 327 81 = some (.iastore, 82, 81) := by decide +kernel
theorem c327_91 : fx_op 327 91 = some (.iastore, 92, 91) := by decide +kernel
theorem c327_93 : fx_ca 327 93 = some (261, 1, 2, 96) := by decide +kernel
theorem c327_47 : fx_op 327 47 = some (.goto 53, 50, 100) := by decide +kernel
theorem c327_112 : fx_ca 327 112 = some (260, 2, 2, 115) := by decide +kernel
theorem c327_96 : fx_op 327 96 = some (.return_, 97, 96) := by decide +kernel
theorem c327_115 : fx_op 327 115 = some (.return_, 116, 115) := by decide +kernel
theorem s327_0 {kc : List va_E} {d : Nat} {x1 : Int} {M : fx_M} {Q : Option fx_V → fx_M → Prop} (H : wp kc (d + 1) 327 4 [some (jR 133), some (jI x1), some (jI 0), some (jI 0), none] [] M Q) : wp kc (d + 1) 327 0 [some (jR 133), some (jI x1), none, none, none] [] M Q :=
  (x_ci c327_0 (x_istn (l' := [some (jR 133), some (jI x1), some (jI 0), none, none]) c327_1 rfl (x_ci c327_2 (x_istn (l' := [some (jR 133), some (jI x1), some (jI 0), some (jI 0), none]) c327_3 rfl (wp_wk (l' := [some (jR 133), some (jI x1), some (jI 0), some (jI 0), none]) ⟨rfl, ⟨rfl, ⟨rfl, ⟨rfl, trivial⟩⟩⟩⟩ H)))))
theorem s327_4 {kc : List va_E} {d : Nat} {v1 v2 v3 : Int} {M : fx_M} {Q : Option fx_V → fx_M → Prop} (H : (((0 : Int) ≤ M 133 80 ∧ M 133 80 < 3)) ∧ ((fx_in32 v3) ∧ (fx_in32 (M 176 (M 133 80)))) ∧ (M 176 (M 133 80) ≤ v3 → wc kc d 221 [jI 14] M (fun v M1 => wp kc (d + 1) 327 112 [none, none, none, none, none] (v.toList ++ [jR 133]) M1 Q)) ∧ (v3 < M 176 (M 133 80) → (((0 : Int) ≤ (100 * (M 133 80)) + v3 ∧ (100 * (M 133 80)) + v3 < 300)) ∧ (((0 : Int) ≤ M 133 80 ∧ M 133 80 < 3)) ∧ ((fx_in32 (M 180 ((100 * (M 133 80)) + v3))) ∧ (fx_in32 (M 177 (M 133 80)))) ∧ (M 180 ((100 * (M 133 80)) + v3) = M 177 (M 133 80) → ((fx_in32 v2) ∧ (fx_in32 v1)) ∧ (v2 ≠ v1 → wp kc (d + 1) 327 4 [some (jR 133), some (jI v1), some (jI (v2 + 1)), some (jI (v3 + 1)), none] [] M Q) ∧ (v2 = v1 → (((0 : Int) ≤ (100 * (M 133 80)) + v3 ∧ (100 * (M 133 80)) + v3 < 300)) ∧ (((0 : Int) ≤ (100 * (M 133 80)) + v3 ∧ (100 * (M 133 80)) + v3 < 300)) ∧ (((0 : Int) ≤ (9 * (M 133 80)) + (M 178 ((100 * (M 133 80)) + v3)) ∧ (9 * (M 133 80)) + (M 178 ((100 * (M 133 80)) + v3)) < 27)) ∧ (((0 : Int) ≤ M 133 80 ∧ M 133 80 < 3)) ∧ wc kc d 261 [jR 133] (fx_up (fx_up M 174 ((9 * (M 133 80)) + (M 178 ((100 * (M 133 80)) + v3))) (M 179 ((100 * (M 133 80)) + v3))) 177 (M 133 80) v3) (fun v M1 => wp kc (d + 1) 327 96 [none, none, none, none, none] (v.toList ++ []) M1 Q))) ∧ (M 180 ((100 * (M 133 80)) + v3) ≠ M 177 (M 133 80) → wp kc (d + 1) 327 4 [some (jR 133), some (jI v1), some (jI v2), some (jI (v3 + 1)), none] [] M Q))) : wp kc (d + 1) 327 4 [some (jR 133), some (jI v1), some (jI v2), some (jI v3), none] [] M Q :=
  (x_ildn c327_4 rfl (x_aldn c327_5 rfl (x_gfr c327_6 k_133_83 (x_aldn c327_9 rfl (x_gfi c327_10 k_133_80 (x_iald c327_13 a_176 H.1 (by decide) (x_cge c327_14 H.2.1.1 H.2.1.2 (fun h5 => (x_aldn c327_106 rfl (x_ci c327_107 (wp_wk (l' := [none, none, none, none, none]) trivial (x_cs (As := [jI 14]) (st := [jR 133]) c327_109 (by decide) rfl (Nat.le_of_ble_eq_true rfl) mx221 (Nat.le_refl _) (H.2.2.1 h5)))))) (fun h6 => (x_ci c327_17 (x_aldn c327_19 rfl (x_gfi c327_20 k_133_80 (x_imul c327_23 (x_ildn c327_24 rfl (x_iadd c327_25 (x_ist (l' := [some (jR 133), some (jI v1), some (jI v2), some (jI v3), some (jI ((100 * (M 133 80)) + v3))]) c327_26 rfl (x_aldn c327_28 rfl (x_gfr c327_29 k_133_87 (x_ild c327_32 rfl (x_iald c327_34 a_180 (H.2.2.2 h6).1 (by decide) (x_aldn c327_35 rfl (x_gfr c327_36 k_133_84 (x_aldn c327_39 rfl (x_gfi c327_40 k_133_80 (x_iald c327_43 a_177 (H.2.2.2 h6).2.1 (by decide) (x_ceq c327_44 (H.2.2.2 h6).2.2.1.1 (H.2.2.2 h6).2.2.1.2 (fun h3 => (x_ildn c327_50 rfl (x_ildn c327_51 rfl (x_cne c327_52 ((H.2.2.2 h6).2.2.2.1 h3).1.1 ((H.2.2.2 h6).2.2.2.1 h3).1.2 (fun h1 => (x_inc (l' := [some (jR 133), some (jI v1), some (jI (v2 + 1)), some (jI v3), some (jI ((100 * (M 133 80)) + v3))]) c327_97 rfl rfl (x_inc (l' := [some (jR 133), some (jI v1), some (jI (v2 + 1)), some (jI (v3 + 1)), some (jI ((100 * (M 133 80)) + v3))]) c327_100 rfl rfl (x_goto c327_103 (wp_wk (l' := [some (jR 133), some (jI v1), some (jI (v2 + 1)), some (jI (v3 + 1)), none]) ⟨rfl, ⟨rfl, ⟨rfl, ⟨rfl, trivial⟩⟩⟩⟩ (((H.2.2.2 h6).2.2.2.1 h3).2.1 h1)))))) (fun h2 => (x_aldn c327_55 rfl (x_gfr c327_56 k_133_81 (x_ci c327_59 (x_aldn c327_61 rfl (x_gfi c327_62 k_133_80 (x_imul c327_65 (x_aldn c327_66 rfl (x_gfr c327_67 k_133_85 (x_ild c327_70 rfl (x_iald c327_72 a_178 (((H.2.2.2 h6).2.2.2.1 h3).2.2 h2).1 (by decide) (x_iadd c327_73 (x_aldn c327_74 rfl (x_gfr c327_75 k_133_86 (x_ild c327_78 rfl (x_iald c327_80 a_179 (((H.2.2.2 h6).2.2.2.1 h3).2.2 h2).2.1 (by decide) (x_iast c327_81 a_174 (((H.2.2.2 h6).2.2.2.1 h3).2.2 h2).2.2.1 (by decide) (x_aldn c327_82 rfl (x_gfr c327_83 k_133_84 (x_aldn c327_86 rfl (x_gfi c327_87 k_133_80 (wp_vI (fx_upA (by decide)) (x_ildn c327_90 rfl (x_iast c327_91 a_177 (((H.2.2.2 h6).2.2.2.1 h3).2.2 h2).2.2.2.1 (by decide) (x_aldn c327_92 rfl (wp_wk (l' := [none, none, none, none, none]) trivial (x_cv (As := []) (st := []) c327_93 cl_133 kl261 rfl (Nat.le_of_ble_eq_true rfl) mx261 (Nat.le_refl _) (((H.2.2.2 h6).2.2.2.1 h3).2.2 h2).2.2.2.2))))))))))))))))))))))))))))))) (fun h4 => (x_goto c327_47 (x_inc (l' := [some (jR 133), some (jI v1), some (jI v2), some (jI (v3 + 1)), some (jI ((100 * (M 133 80)) + v3))]) c327_100 rfl rfl (x_goto c327_103 (wp_wk (l' := [some (jR 133), some (jI v1), some (jI v2), some (jI (v3 + 1)), none]) ⟨rfl, ⟨rfl, ⟨rfl, ⟨rfl, trivial⟩⟩⟩⟩ ((H.2.2.2 h6).2.2.2.2 h4)))))))))))))))))))))))))))))))
theorem s327_96 {kc : List va_E} {d : Nat} {M : fx_M} {Q : Option fx_V → fx_M → Prop} (H : Q none M) : wp kc (d + 1) 327 96 [none, none, none, none, none] [] M Q :=
  (x_vr c327_96 r327 H)
theorem s327_112 {kc : List va_E} {d : Nat} {u0 : Int} {M : fx_M} {Q : Option fx_V → fx_M → Prop} (H : wc kc d 260 [jR 133, jL u0] M (fun v M1 => wp kc (d + 1) 327 115 [none, none, none, none, none] (v.toList ++ []) M1 Q)) : wp kc (d + 1) 327 112 [none, none, none, none, none] [jL u0, jR 133] M Q :=
  (wp_wk (l' := [none, none, none, none, none]) trivial (x_cv (As := [jL u0]) (st := []) c327_112 cl_133 kl260 rfl (Nat.le_of_ble_eq_true rfl) mx260 (Nat.le_refl _) H))
theorem s327_115 {kc : List va_E} {d : Nat} {M : fx_M} {Q : Option fx_V → fx_M → Prop} (H : Q none M) : wp kc (d + 1) 327 115 [none, none, none, none, none] [] M Q :=
  (x_vr c327_115 r327 H)
theorem s327 {kc : List va_E} {d : Nat} {x1 : Int} {M : fx_M} {Q : Option fx_V → fx_M → Prop} (H : wp kc (d + 1) 327 4 [some (jR 133), some (jI x1), some (jI 0), some (jI 0), none] [] M Q) : wc kc (d + 1) 327 [jR 133, jI x1] M Q :=
  wc_of (wp_wk (l' := [some (jR 133), some (jI x1), none, none, none]) ⟨rfl, ⟨rfl, trivial⟩⟩ (s327_0 H))

/- PuzzleHouseModel.sayState()V -/
theorem c328_0 : fx_ci 328 0 = some (0, 1) := by decide +kernel
theorem c328_1 : fx_op 328 1 = some (.istore_n 1, 2, 1) := by decide +kernel
theorem c328_2 : fx_op 328 2 = some (.iload_n 1, 3, 2) := by decide +kernel
theorem c328_3 : fx_op 328 3 = some (.aload_n 0, 4, 3) := by decide +kernel
theorem c328_4 : fx_ca 328 4 = some (248, 1, 2, 7) := by decide +kernel
theorem c328_7 : fx_op 328 7 = some (.if_icmp .ge 57, 10, 64) := by decide +kernel
theorem c328_10 : fx_op 328 10 = some (.aload_n 0, 11, 10) := by decide +kernel
theorem c328_11 : fx_op 328 11 = some (.iload_n 1, 12, 11) := by decide +kernel
theorem c328_64 : fx_op 328 64 = some (.return_, 65, 64) := by decide +kernel
theorem c328_12 : fx_ca 328 12 = some (271, 2, 2, 15) := by decide +kernel
theorem c328_15 : fx_op 328 15 = some (.ifCond .lt 11, 18, 26) := by decide +kernel
theorem c328_26 : fx_op 328 26 = some (.aload_n 0, 27, 26) := by decide +kernel
theorem c328_27 : fx_gf 328 27 = some (12, 81, 30) := by decide +kernel
theorem c328_30 : fx_ci 328 30 = some (9, 32) := by decide +kernel
theorem c328_32 : fx_op 328 32 = some (.aload_n 0, 33, 32) := by decide +kernel
theorem c328_33 : fx_gf 328 33 = some (12, 80, 36) := by decide +kernel
theorem c328_36 : fx_op 328 36 = some (.imul, 37, 36) := by decide +kernel
theorem c328_37 : fx_op 328 37 = some (.iload_n 1, 38, 37) := by decide +kernel
theorem c328_38 : fx_op 328 38 = some (.iadd, 39, 38) := by decide +kernel
theorem c328_39 : fx_op 328 39 = some (.iaload, 40, 39) := by decide +kernel
theorem c328_18 : fx_op 328 18 = some (.aload_n 0, 19, 18) := by decide +kernel
theorem c328_19 : fx_op 328 19 = some (.iload_n 1, 20, 19) := by decide +kernel
theorem c328_40 : fx_op 328 40 = some (.istore_n 2, 41, 40) := by decide +kernel
theorem c328_41 : fx_op 328 41 = some (.aload_n 0, 42, 41) := by decide +kernel
theorem c328_42 : fx_op 328 42 = some (.iload_n 2, 43, 42) := by decide +kernel
theorem c328_43 : fx_op 328 43 = some (.ifCond .lt 10, 46, 53) := by decide +kernel
theorem c328_53 : fx_ci 328 53 = some (46, 55) := by decide +kernel
theorem c328_46 : fx_ci 328 46 = some (48, 48) := by decide +kernel
theorem c328_48 : fx_op 328 48 = some (.iload_n 2, 49, 48) := by decide +kernel
theorem c328_49 : fx_op 328 49 = some (.iadd, 50, 49) := by decide +kernel
theorem c328_50 : fx_op 328 50 = some (.goto 5, 53, 55) := by decide +kernel
theorem c328_55 : fx_ca 328 55 = some (254, 2, 2, 58) := by decide +kernel
theorem c328_20 : fx_ca 328 20 = some (271, 2, 2, 23) := by decide +kernel
theorem c328_58 : fx_op 328 58 = some (.iinc 1 1, 61, 58) := by decide +kernel
theorem c328_61 : fx_op 328 61 = some (.goto (-59), 64, 2) := by decide +kernel
theorem c328_23 : fx_op 328 23 = some (.goto 17, 26, 40) := by decide +kernel
theorem s328_0 {kc : List va_E} {d : Nat} {M : fx_M} {Q : Option fx_V → fx_M → Prop} (H : wp kc (d + 1) 328 2 [some (jR 133), some (jI 0), none] [] M Q) : wp kc (d + 1) 328 0 [some (jR 133), none, none] [] M Q :=
  (x_ci c328_0 (x_istn (l' := [some (jR 133), some (jI 0), none]) c328_1 rfl (wp_wk (l' := [some (jR 133), some (jI 0), none]) ⟨rfl, ⟨rfl, trivial⟩⟩ H)))
theorem s328_2 {kc : List va_E} {d : Nat} {v1 : Int} {M : fx_M} {Q : Option fx_V → fx_M → Prop} (H : wc kc d 248 [jR 133] M (fun v M1 => wp kc (d + 1) 328 7 [some (jR 133), some (jI v1), none] (v.toList ++ [jI v1]) M1 Q)) : wp kc (d + 1) 328 2 [some (jR 133), some (jI v1), none] [] M Q :=
  (x_ildn c328_2 rfl (x_aldn c328_3 rfl (wp_wk (l' := [some (jR 133), some (jI v1), none]) ⟨rfl, ⟨rfl, trivial⟩⟩ (x_cv (As := []) (st := [jI v1]) c328_4 cl_133 kl248 rfl (Nat.le_of_ble_eq_true rfl) mx248 (Nat.le_refl _) H))))
theorem s328_7 {kc : List va_E} {d : Nat} {v1 u0 u1 : Int} {M : fx_M} {Q : Option fx_V → fx_M → Prop} (H : ((fx_in32 u1) ∧ (fx_in32 u0)) ∧ (u0 ≤ u1 → Q none M) ∧ (u1 < u0 → wc kc d 271 [jR 133, jI v1] M (fun v M1 => wp kc (d + 1) 328 15 [some (jR 133), some (jI v1), none] (v.toList ++ []) M1 Q))) : wp kc (d + 1) 328 7 [some (jR 133), some (jI v1), none] [jI u0, jI u1] M Q :=
  (x_cge c328_7 H.1.1 H.1.2 (fun h1 => (x_vr c328_64 r328 (H.2.1 h1))) (fun h2 => (x_aldn c328_10 rfl (x_ildn c328_11 rfl (wp_wk (l' := [some (jR 133), some (jI v1), none]) ⟨rfl, ⟨rfl, trivial⟩⟩ (x_cv (As := [jI v1]) (st := []) c328_12 cl_133 kl271 rfl (Nat.le_of_ble_eq_true rfl) mx271 (Nat.le_refl _) (H.2.2 h2)))))))
theorem s328_15 {kc : List va_E} {d : Nat} {v1 u0 : Int} {M : fx_M} {Q : Option fx_V → fx_M → Prop} (H : ((fx_in32 u0)) ∧ (u0 < 0 → (((0 : Int) ≤ (9 * (M 133 80)) + v1 ∧ (9 * (M 133 80)) + v1 < 27)) ∧ ((fx_in32 (M 174 ((9 * (M 133 80)) + v1)))) ∧ wc kc d 254 [jR 133, jI (if M 174 ((9 * (M 133 80)) + v1) < 0 then (46 : Int) else 48 + (M 174 ((9 * (M 133 80)) + v1)))] M (fun v M1 => wp kc (d + 1) 328 58 [some (jR 133), some (jI v1), none] (v.toList ++ []) M1 Q)) ∧ (0 ≤ u0 → wc kc d 271 [jR 133, jI v1] M (fun v M1 => wp kc (d + 1) 328 23 [some (jR 133), some (jI v1), none] (v.toList ++ []) M1 Q))) : wp kc (d + 1) 328 15 [some (jR 133), some (jI v1), none] [jI u0] M Q :=
  (x_zlt c328_15 H.1 (fun h1 => (x_aldn c328_26 rfl (x_gfr c328_27 k_133_81 (x_ci c328_30 (x_aldn c328_32 rfl (x_gfi c328_33 k_133_80 (x_imul c328_36 (x_ildn c328_37 rfl (x_iadd c328_38 (x_iald c328_39 a_174 (H.2.1 h1).1 (by decide) (x_istn (l' := [some (jR 133), some (jI v1), some (jI (M 174 ((9 * (M 133 80)) + v1)))]) c328_40 rfl (x_aldn c328_41 rfl (x_ildn c328_42 rfl (have K : wp kc (d + 1) 328 55 [some (jR 133), some (jI v1), none] [jI (if M 174 ((9 * (M 133 80)) + v1) < 0 then (46 : Int) else 48 + (M 174 ((9 * (M 133 80)) + v1))), jR 133] M Q := (wp_wk (l' := [some (jR 133), some (jI v1), none]) ⟨rfl, ⟨rfl, trivial⟩⟩ (x_cv (As := [jI (if M 174 ((9 * (M 133 80)) + v1) < 0 then (46 : Int) else 48 + (M 174 ((9 * (M 133 80)) + v1)))]) (st := []) c328_55 cl_133 kl254 rfl (Nat.le_of_ble_eq_true rfl) mx254 (Nat.le_refl _) (H.2.1 h1).2.2)); (x_zlt c328_43 (H.2.1 h1).2.1 (fun (h3 : M 174 ((9 * (M 133 80)) + v1) < 0) => (x_ci c328_53 (wp_wk (l' := [some (jR 133), some (jI v1), none]) ⟨rfl, ⟨rfl, trivial⟩⟩ (by have K := K; first | (simp only [if_pos h3] at K ⊢; exact K) | (exfalso; omega))))) (fun (h4 : 0 ≤ M 174 ((9 * (M 133 80)) + v1)) => (x_ci c328_46 (x_ildn c328_48 rfl (x_iadd c328_49 (x_goto c328_50 (wp_wk (l' := [some (jR 133), some (jI v1), none]) ⟨rfl, ⟨rfl, trivial⟩⟩ (by have K := K; first | (simp only [if_neg (Int.not_lt.mpr h4)] at K ⊢; exact K) | (exfalso; omega))))))))))))))))))))))) (fun h2 => (x_aldn c328_18 rfl (x_ildn c328_19 rfl (wp_wk (l' := [some (jR 133), some (jI v1), none]) ⟨rfl, ⟨rfl, trivial⟩⟩ (x_cv (As := [jI v1]) (st := []) c328_20 cl_133 kl271 rfl (Nat.le_of_ble_eq_true rfl) mx271 (Nat.le_refl _) (H.2.2 h2)))))))
theorem s328_23 {kc : List va_E} {d : Nat} {v1 u0 : Int} {M : fx_M} {Q : Option fx_V → fx_M → Prop} (H : ((fx_in32 u0)) ∧ wc kc d 254 [jR 133, jI (if u0 < 0 then (46 : Int) else 48 + u0)] M (fun v M1 => wp kc (d + 1) 328 58 [some (jR 133), some (jI v1), none] (v.toList ++ []) M1 Q)) : wp kc (d + 1) 328 23 [some (jR 133), some (jI v1), none] [jI u0] M Q :=
  (x_goto c328_23 (x_istn (l' := [some (jR 133), some (jI v1), some (jI u0)]) c328_40 rfl (x_aldn c328_41 rfl (x_ildn c328_42 rfl (have K : wp kc (d + 1) 328 55 [some (jR 133), some (jI v1), none] [jI (if u0 < 0 then (46 : Int) else 48 + u0), jR 133] M Q := (wp_wk (l' := [some (jR 133), some (jI v1), none]) ⟨rfl, ⟨rfl, trivial⟩⟩ (x_cv (As := [jI (if u0 < 0 then (46 : Int) else 48 + u0)]) (st := []) c328_55 cl_133 kl254 rfl (Nat.le_of_ble_eq_true rfl) mx254 (Nat.le_refl _) H.2)); (x_zlt c328_43 H.1 (fun (h1 : u0 < 0) => (x_ci c328_53 (wp_wk (l' := [some (jR 133), some (jI v1), none]) ⟨rfl, ⟨rfl, trivial⟩⟩ (by have K := K; first | (simp only [if_pos h1] at K ⊢; exact K) | (exfalso; omega))))) (fun (h2 : 0 ≤ u0) => (x_ci c328_46 (x_ildn c328_48 rfl (x_iadd c328_49 (x_goto c328_50 (wp_wk (l' := [some (jR 133), some (jI v1), none]) ⟨rfl, ⟨rfl, trivial⟩⟩ (by have K := K; first | (simp only [if_neg (Int.not_lt.mpr h2)] at K ⊢; exact K) | (exfalso; omega))))))))))))))
theorem s328_58 {kc : List va_E} {d : Nat} {v1 : Int} {M : fx_M} {Q : Option fx_V → fx_M → Prop} (H : wp kc (d + 1) 328 2 [some (jR 133), some (jI (v1 + 1)), none] [] M Q) : wp kc (d + 1) 328 58 [some (jR 133), some (jI v1), none] [] M Q :=
  (x_inc (l' := [some (jR 133), some (jI (v1 + 1)), none]) c328_58 rfl rfl (x_goto c328_61 (wp_wk (l' := [some (jR 133), some (jI (v1 + 1)), none]) ⟨rfl, ⟨rfl, trivial⟩⟩ H)))
theorem s328 {kc : List va_E} {d : Nat} {M : fx_M} {Q : Option fx_V → fx_M → Prop} (H : wp kc (d + 1) 328 2 [some (jR 133), some (jI 0), none] [] M Q) : wc kc (d + 1) 328 [jR 133] M Q :=
  wc_of (wp_wk (l' := [some (jR 133), none, none]) ⟨rfl, trivial⟩ (s328_0 H))

/- PuzzleHouseModel.sayMark(II)V -/
theorem c329_0 : fx_op 329 0 = some (.aload_n 0, 1, 0) := by decide +kernel
theorem c329_1 : fx_ci 329 1 = some (0, 2) := by decide +kernel
theorem c329_2 : fx_op 329 2 = some (.iload_n 1, 3, 2) := by decide +kernel
theorem c329_3 : fx_ca 329 3 = some (241, 3, 2, 6) := by decide +kernel
theorem c329_6 : fx_op 329 6 = some (.ifCond .ne 11, 9, 17) := by decide +kernel
theorem c329_17 : fx_op 329 17 = some (.aload_n 0, 18, 17) := by decide +kernel
theorem c329_18 : fx_op 329 18 = some (.iload_n 1, 19, 18) := by decide +kernel
theorem c329_9 : fx_op 329 9 = some (.aload_n 0, 10, 9) := by decide +kernel
theorem c329_10 : fx_ci 329 10 = some (2, 11) := by decide +kernel
theorem c329_19 : fx_ca 329 19 = some (271, 2, 2, 22) := by decide +kernel
theorem c329_11 : fx_ca 329 11 = some (259, 2, 2, 14) := by decide +kernel
theorem c329_22 : fx_op 329 22 = some (.ifCond .lt 13, 25, 35) := by decide +kernel
theorem c329_35 : fx_op 329 35 = some (.iload_n 2, 36, 35) := by decide +kernel
theorem c329_36 : fx_op 329 36 = some (.aload_n 0, 37, 36) := by decide +kernel
theorem c329_37 : fx_gf 329 37 = some (12, 39, 40) := by decide +kernel
theorem c329_40 : fx_ci 329 40 = some (0, 41) := by decide +kernel
theorem c329_41 : fx_op 329 41 = some (.iaload, 42, 41) := by decide +kernel
theorem c329_42 : fx_op 329 42 = some (.if_icmp .lt 11, 45, 53) := by decide +kernel
theorem c329_53 : fx_op 329 53 = some (.aload_n 0, 54, 53) := by decide +kernel
theorem c329_54 : fx_gf 329 54 = some (12, 82, 57) := by decide +kernel
theorem c329_57 : fx_ci 329 57 = some (9, 59) := by decide +kernel
theorem c329_59 : fx_op 329 59 = some (.aload_n 0, 60, 59) := by decide +kernel
theorem c329_60 : fx_gf 329 60 = some (12, 80, 63) := by decide +kernel
theorem c329_63 : fx_op 329 63 = some (.imul, 64, 63) := by decide +kernel
theorem c329_64 : fx_op 329 64 = some (.iload_n 1, 65, 64) := by decide +kernel
theorem c329_65 : fx_op 329 65 = some (.iadd, 66, 65) := by decide +kernel
theorem c329_66 : fx_op 329 66 = some (.aload_n 0, 67, 66) := by decide +kernel
theorem c329_67 : fx_gf 329 67 = some (12, 82, 70) := by decide +kernel
theorem c329_70 : fx_ci 329 70 = some (9, 72) := by decide +kernel
theorem c329_72 : fx_op 329 72 = some (.aload_n 0, 73, 72) := by decide +kernel
theorem c329_73 : fx_gf 329 73 = some (12, 80, 76) := by decide +kernel
theorem c329_76 : fx_op 329 76 = some (.imul, 77, 76) := by decide +kernel
theorem c329_77 : fx_op 329 77 = some (.iload_n 1, 78, 77) := by decide +kernel
theorem c329_78 : fx_op 329 78 = some (.iadd, 79, 78) := by decide +kernel
theorem c329_79 : fx_op 329 79 = some (.iaload, 80, 79) := by decide +kernel
theorem c329_80 : fx_ci 329 80 = some (1, 81) := by decide +kernel
theorem c329_81 : fx_op 329 81 = some (.iload_n 2, 82, 81) := by decide +kernel
theorem c329_82 : fx_op 329 82 = some (.ishl, 83, 82) := by decide +kernel
theorem c329_83 : fx_op 329 83 = some (.ixor, 84, 83) := by decide +kernel
theorem c329_85 : fx_op 329 85 = some (.aload_n 0, 86, 85) := by decide +kernel
theorem c329_86 : fx_op 329 86 = some (.aload_n 0, 87, 86) := by decide +kernel
theorem c329_87 : fx_gf 329 87 = some (12, 82, 90) := by decide +kernel
theorem c329_90 : fx_ci 329 90 = some (9, 92) := by decide +kernel
theorem c329_92 : fx_op 329 92 = some (.aload_n 0, 93, 92) := by decide +kernel
theorem c329_93 : fx_gf 329 93 = some (12, 80, 96) := by decide +kernel
theorem c329_96 : fx_op 329 96 = some (.imul, 97, 96) := by decide +kernel
theorem c329_97 : fx_op 329 97 = some (.iload_n 1, 98, 97) := by decide +kernel
theorem c329_98 : fx_op 329 98 = some (.iadd, 99, 98) := by decide +kernel
theorem c329_100 : fx_op 329 100 = some (.iload_n 2, 101, 100) := by decide +kernel
theorem c329_101 : fx_op 329 101 = some (.ishr, 102, 101) := by decide +kernel
theorem c329_102 : fx_ci 329 102 = some (1, 103) := by decide +kernel
theorem c329_103 : fx_op 329 103 = some (.iand, 104, 103) := by decide +kernel
theorem c329_104 : fx_ci 329 104 = some (1, 105) := by decide +kernel
theorem c329_105 : fx_op 329 105 = some (.if_icmp .ne 9, 108, 114) := by decide +kernel
theorem c329_114 : fx_cj 329 114 = some (7300710, 117) := by decide +kernel
theorem c329_108 : fx_cj 329 108 = some (28526, 111) := by decide +kernel
theorem c329_111 : fx_op 329 111 = some (.goto 6, 114, 117) := by decide +kernel
theorem c329_45 : fx_op 329 45 = some (.aload_n 0, 46, 45) := by decide +kernel
theorem c329_46 : fx_ci 329 46 = some (5, 47) := by decide +kernel
theorem c329_25 : fx_op 329 25 = some (.aload_n 0, 26, 25) := by decide +kernel
theorem c329_26 : fx_cj 329 26 = some (444150998382, 29) := by decide +kernel
theorem c329_84 : fx_op 329 84 = some (.iastore, 85, 84) := by decide +kernel
theorem c329_99 : fx_op 329 99 = some (.iaload, 100, 99) := by decide +kernel
theorem c329_117 : fx_ca 329 117 = some (253, 2, 2, 120) := by decide +kernel
theorem c329_47 : fx_ca 329 47 = some (259, 2, 2, 50) := by decide +kernel
theorem c329_29 : fx_ca 329 29 = some (253, 2, 2, 32) := by decide +kernel
theorem c329_14 : fx_op 329 14 = some (.goto 106, 17, 120) := by decide +kernel
theorem c329_120 : fx_op 329 120 = some (.return_, 121, 120) := by decide +kernel
theorem c329_50 : fx_op 329 50 = some (.goto 70, 53, 120) := by decide +kernel
theorem c329_32 : fx_op 329 32 = some (.goto 88, 35, 120) := by decide +kernel
theorem s329_0 {kc : List va_E} {d : Nat} {x1 x2 : Int} {M : fx_M} {Q : Option fx_V → fx_M → Prop} (H : wc kc d 241 [jR 133, jI 0, jI x1] M (fun v M1 => wp kc (d + 1) 329 6 [some (jR 133), some (jI x1), some (jI x2)] (v.toList ++ []) M1 Q)) : wp kc (d + 1) 329 0 [some (jR 133), some (jI x1), some (jI x2)] [] M Q :=
  (x_aldn c329_0 rfl (x_ci c329_1 (x_ildn c329_2 rfl (wp_wk (l' := [some (jR 133), some (jI x1), some (jI x2)]) ⟨rfl, ⟨rfl, ⟨rfl, trivial⟩⟩⟩ (x_cv (As := [jI 0, jI x1]) (st := []) c329_3 cl_133 kl241 rfl (Nat.le_of_ble_eq_true rfl) mx241 (Nat.le_refl _) H)))))
theorem s329_6 {kc : List va_E} {d : Nat} {v1 v2 u0 : Int} {M : fx_M} {Q : Option fx_V → fx_M → Prop} (H : ((fx_in32 u0)) ∧ (u0 ≠ 0 → wc kc d 271 [jR 133, jI v1] M (fun v M1 => wp kc (d + 1) 329 22 [some (jR 133), some (jI v1), some (jI v2)] (v.toList ++ []) M1 Q)) ∧ (u0 = 0 → wc kc d 259 [jR 133, jI 2] M (fun v M1 => wp kc (d + 1) 329 14 [none, none, none] (v.toList ++ []) M1 Q))) : wp kc (d + 1) 329 6 [some (jR 133), some (jI v1), some (jI v2)] [jI u0] M Q :=
  (x_zne c329_6 H.1 (fun h1 => (x_aldn c329_17 rfl (x_ildn c329_18 rfl (wp_wk (l' := [some (jR 133), some (jI v1), some (jI v2)]) ⟨rfl, ⟨rfl, ⟨rfl, trivial⟩⟩⟩ (x_cv (As := [jI v1]) (st := []) c329_19 cl_133 kl271 rfl (Nat.le_of_ble_eq_true rfl) mx271 (Nat.le_refl _) (H.2.1 h1)))))) (fun h2 => (x_aldn c329_9 rfl (x_ci c329_10 (wp_wk (l' := [none, none, none]) trivial (x_cv (As := [jI 2]) (st := []) c329_11 cl_133 kl259 rfl (Nat.le_of_ble_eq_true rfl) mx259 (Nat.le_refl _) (H.2.2 h2)))))))
theorem s329_14 {kc : List va_E} {d : Nat} {M : fx_M} {Q : Option fx_V → fx_M → Prop} (H : Q none M) : wp kc (d + 1) 329 14 [none, none, none] [] M Q :=
  (x_goto c329_14 (x_vr c329_120 r329 H))
theorem s329_22 {kc : List va_E} {d : Nat} {v1 v2 u0 : Int} {M : fx_M} {Q : Option fx_V → fx_M → Prop} (H : ((fx_in32 u0)) ∧ (u0 < 0 → ((fx_in32 v2) ∧ (fx_in32 (M 148 0))) ∧ (v2 < M 148 0 → (((0 : Int) ≤ (9 * (M 133 80)) + v1 ∧ (9 * (M 133 80)) + v1 < 27)) ∧ (((0 : Int) ≤ (9 * (M 133 80)) + v1 ∧ (9 * (M 133 80)) + v1 < 27)) ∧ (((0 : Int) ≤ (9 * (M 133 80)) + v1 ∧ (9 * (M 133 80)) + v1 < 27)) ∧ ((fx_in32 (fx_and (fx_shr (fx_xor (M 175 ((9 * (M 133 80)) + v1)) (fx_shl 1 v2)) v2) 1))) ∧ wc kc d 253 [jR 133, jL (if fx_and (fx_shr (fx_xor (M 175 ((9 * (M 133 80)) + v1)) (fx_shl 1 v2)) v2) 1 = 1 then (28526 : Int) else 7300710)] (fx_up M 175 ((9 * (M 133 80)) + v1) (fx_xor (M 175 ((9 * (M 133 80)) + v1)) (fx_shl 1 v2))) (fun v M1 => wp kc (d + 1) 329 120 [none, none, none] (v.toList ++ []) M1 Q)) ∧ (M 148 0 ≤ v2 → wc kc d 259 [jR 133, jI 5] M (fun v M1 => wp kc (d + 1) 329 50 [none, none, none] (v.toList ++ []) M1 Q))) ∧ (0 ≤ u0 → wc kc d 253 [jR 133, jL 444150998382] M (fun v M1 => wp kc (d + 1) 329 32 [none, none, none] (v.toList ++ []) M1 Q))) : wp kc (d + 1) 329 22 [some (jR 133), some (jI v1), some (jI v2)] [jI u0] M Q :=
  (x_zlt c329_22 H.1 (fun h3 => (x_ildn c329_35 rfl (x_aldn c329_36 rfl (x_gfr c329_37 k_133_39 (x_ci c329_40 (x_iald c329_41 a_148 (by decide) (by decide) (x_clt c329_42 (H.2.1 h3).1.1 (H.2.1 h3).1.2 (fun h1 => (x_aldn c329_53 rfl (x_gfr c329_54 k_133_82 (x_ci c329_57 (x_aldn c329_59 rfl (x_gfi c329_60 k_133_80 (x_imul c329_63 (x_ildn c329_64 rfl (x_iadd c329_65 (x_aldn c329_66 rfl (x_gfr c329_67 k_133_82 (x_ci c329_70 (x_aldn c329_72 rfl (x_gfi c329_73 k_133_80 (x_imul c329_76 (x_ildn c329_77 rfl (x_iadd c329_78 (x_iald c329_79 a_175 ((H.2.1 h3).2.1 h1).1 (by decide) (x_ci c329_80 (x_ildn c329_81 rfl (x_ishl c329_82 (x_ixor c329_83 (x_iast c329_84 a_175 ((H.2.1 h3).2.1 h1).2.1 (by decide) (x_aldn c329_85 rfl (x_aldn c329_86 rfl (x_gfr c329_87 k_133_82 (x_ci c329_90 (x_aldn c329_92 rfl (x_gfi c329_93 k_133_80 (wp_vI (fx_upA (by decide)) (x_imul c329_96 (x_ildn c329_97 rfl (x_iadd c329_98 (x_iald c329_99 a_175 ((H.2.1 h3).2.1 h1).2.2.1 (by decide) (wp_vI (fx_upS) (x_ildn c329_100 rfl (x_ishr c329_101 (x_ci c329_102 (x_iand c329_103 (x_ci c329_104 (have K : wp kc (d + 1) 329 117 [none, none, none] [jL (if fx_and (fx_shr (fx_xor (M 175 ((9 * (M 133 80)) + v1)) (fx_shl 1 v2)) v2) 1 = 1 then (28526 : Int) else 7300710), jR 133] (fx_up M 175 ((9 * (M 133 80)) + v1) (fx_xor (M 175 ((9 * (M 133 80)) + v1)) (fx_shl 1 v2))) Q := (wp_wk (l' := [none, none, none]) trivial (x_cv (As := [jL (if fx_and (fx_shr (fx_xor (M 175 ((9 * (M 133 80)) + v1)) (fx_shl 1 v2)) v2) 1 = 1 then (28526 : Int) else 7300710)]) (st := []) c329_117 cl_133 kl253 rfl (Nat.le_of_ble_eq_true rfl) mx253 (Nat.le_refl _) ((H.2.1 h3).2.1 h1).2.2.2.2)); (x_cne c329_105 ((H.2.1 h3).2.1 h1).2.2.2.1 (by decide) (fun (h5 : fx_and (fx_shr (fx_xor (M 175 ((9 * (M 133 80)) + v1)) (fx_shl 1 v2)) v2) 1 ≠ 1) => (x_cj c329_114 (wp_wk (l' := [none, none, none]) trivial (by have K := K; first | (simp only [if_neg h5] at K ⊢; exact K) | (exfalso; omega))))) (fun (h6 : fx_and (fx_shr (fx_xor (M 175 ((9 * (M 133 80)) + v1)) (fx_shl 1 v2)) v2) 1 = 1) => (x_cj c329_108 (x_goto c329_111 (wp_wk (l' := [none, none, none]) trivial (by have K := K; first | (simp only [if_pos h6] at K ⊢; exact K) | (exfalso; omega)))))))))))))))))))))))))))))))))))))))))))))))) (fun h2 => (x_aldn c329_45 rfl (x_ci c329_46 (wp_wk (l' := [none, none, none]) trivial (x_cv (As := [jI 5]) (st := []) c329_47 cl_133 kl259 rfl (Nat.le_of_ble_eq_true rfl) mx259 (Nat.le_refl _) ((H.2.1 h3).2.2 h2))))))))))))) (fun h4 => (x_aldn c329_25 rfl (x_cj c329_26 (wp_wk (l' := [none, none, none]) trivial (x_cv (As := [jL 444150998382]) (st := []) c329_29 cl_133 kl253 rfl (Nat.le_of_ble_eq_true rfl) mx253 (Nat.le_refl _) (H.2.2 h4)))))))
theorem s329_32 {kc : List va_E} {d : Nat} {M : fx_M} {Q : Option fx_V → fx_M → Prop} (H : Q none M) : wp kc (d + 1) 329 32 [none, none, none] [] M Q :=
  (x_goto c329_32 (x_vr c329_120 r329 H))
theorem s329_50 {kc : List va_E} {d : Nat} {M : fx_M} {Q : Option fx_V → fx_M → Prop} (H : Q none M) : wp kc (d + 1) 329 50 [none, none, none] [] M Q :=
  (x_goto c329_50 (x_vr c329_120 r329 H))
theorem s329_120 {kc : List va_E} {d : Nat} {M : fx_M} {Q : Option fx_V → fx_M → Prop} (H : Q none M) : wp kc (d + 1) 329 120 [none, none, none] [] M Q :=
  (x_vr c329_120 r329 H)
theorem s329 {kc : List va_E} {d : Nat} {x1 x2 : Int} {M : fx_M} {Q : Option fx_V → fx_M → Prop} (H : wc kc d 241 [jR 133, jI 0, jI x1] M (fun v M1 => wp kc (d + 1) 329 6 [some (jR 133), some (jI x1), some (jI x2)] (v.toList ++ []) M1 Q)) : wc kc (d + 1) 329 [jR 133, jI x1, jI x2] M Q :=
  wc_of (wp_wk (l' := [some (jR 133), some (jI x1), some (jI x2)]) ⟨rfl, ⟨rfl, ⟨rfl, trivial⟩⟩⟩ (s329_0 H))

/- PuzzleHouseModel.sayMarks(I)V -/
theorem c330_0 : fx_op 330 0 = some (.aload_n 0, 1, 0) := by decide +kernel
theorem c330_1 : fx_ci 330 1 = some (0, 2) := by decide +kernel
theorem c330_2 : fx_op 330 2 = some (.iload_n 1, 3, 2) := by decide +kernel
theorem c330_3 : fx_ca 330 3 = some (241, 3, 2, 6) := by decide +kernel
theorem c330_6 : fx_op 330 6 = some (.ifCond .ne 9, 9, 15) := by decide +kernel
theorem c330_15 : fx_ci 330 15 = some (0, 16) := by decide +kernel
theorem c330_16 : fx_op 330 16 = some (.istore_n 2, 17, 16) := by decide +kernel
theorem c330_9 : fx_op 330 9 = some (.aload_n 0, 10, 9) := by decide +kernel
theorem c330_10 : fx_ci 330 10 = some (2, 11) := by decide +kernel
theorem c330_11 : fx_ca 330 11 = some (259, 2, 2, 14) := by decide +kernel
theorem c330_17 : fx_op 330 17 = some (.iload_n 2, 18, 17) := by decide +kernel
theorem c330_18 : fx_op 330 18 = some (.aload_n 0, 19, 18) := by decide +kernel
theorem c330_19 : fx_gf 330 19 = some (12, 39, 22) := by decide +kernel
theorem c330_22 : fx_ci 330 22 = some (0, 23) := by decide +kernel
theorem c330_23 : fx_op 330 23 = some (.iaload, 24, 23) := by decide +kernel
theorem c330_24 : fx_op 330 24 = some (.if_icmp .ge 39, 27, 63) := by decide +kernel
theorem c330_27 : fx_op 330 27 = some (.aload_n 0, 28, 27) := by decide +kernel
theorem c330_28 : fx_gf 330 28 = some (12, 82, 31) := by decide +kernel
theorem c330_31 : fx_ci 330 31 = some (9, 33) := by decide +kernel
theorem c330_33 : fx_op 330 33 = some (.aload_n 0, 34, 33) := by decide +kernel
theorem c330_34 : fx_gf 330 34 = some (12, 80, 37) := by decide +kernel
theorem c330_37 : fx_op 330 37 = some (.imul, 38, 37) := by decide +kernel
theorem c330_38 : fx_op 330 38 = some (.iload_n 1, 39, 38) := by decide +kernel
theorem c330_39 : fx_op 330 39 = some (.iadd, 40, 39) := by decide +kernel
theorem c330_40 : fx_op 330 40 = some (.iaload, 41, 40) := by decide +kernel
theorem c330_41 : fx_op 330 41 = some (.iload_n 2, 42, 41) := by decide +kernel
theorem c330_42 : fx_op 330 42 = some (.ishr, 43, 42) := by decide +kernel
theorem c330_43 : fx_ci 330 43 = some (1, 44) := by decide +kernel
theorem c330_44 : fx_op 330 44 = some (.iand, 45, 44) := by decide +kernel
theorem c330_45 : fx_ci 330 45 = some (1, 46) := by decide +kernel
theorem c330_46 : fx_op 330 46 = some (.if_icmp .ne 11, 49, 57) := by decide +kernel
theorem c330_57 : fx_op 330 57 = some (.iinc 2 1, 60, 57) := by decide +kernel
theorem c330_63 : fx_op 330 63 = some (.aload_n 0, 64, 63) := by decide +kernel
theorem c330_64 : fx_ci 330 64 = some (46, 66) := by decide +kernel
theorem c330_49 : fx_op 330 49 = some (.aload_n 0, 50, 49) := by decide +kernel
theorem c330_50 : fx_ci 330 50 = some (48, 52) := by decide +kernel
theorem c330_52 : fx_op 330 52 = some (.iload_n 2, 53, 52) := by decide +kernel
theorem c330_53 : fx_op 330 53 = some (.iadd, 54, 53) := by decide +kernel
theorem c330_66 : fx_ca 330 66 = some (254, 2, 2, 69) := by decide +kernel
theorem c330_60 : fx_op 330 60 = some (.goto (-43), 63, 17) := by decide +kernel
theorem c330_54 : fx_ca 330 54 = some (254, 2, 2, 57) := by decide +kernel
theorem c330_14 : fx_op 330 14 = some (.return_, 15, 14) := by decide +kernel
theorem c330_69 : fx_op 330 69 = some (.return_, 70, 69) := by decide +kernel
theorem s330_0 {kc : List va_E} {d : Nat} {x1 : Int} {M : fx_M} {Q : Option fx_V → fx_M → Prop} (H : wc kc d 241 [jR 133, jI 0, jI x1] M (fun v M1 => wp kc (d + 1) 330 6 [some (jR 133), some (jI x1), none] (v.toList ++ []) M1 Q)) : wp kc (d + 1) 330 0 [some (jR 133), some (jI x1), none] [] M Q :=
  (x_aldn c330_0 rfl (x_ci c330_1 (x_ildn c330_2 rfl (wp_wk (l' := [some (jR 133), some (jI x1), none]) ⟨rfl, ⟨rfl, trivial⟩⟩ (x_cv (As := [jI 0, jI x1]) (st := []) c330_3 cl_133 kl241 rfl (Nat.le_of_ble_eq_true rfl) mx241 (Nat.le_refl _) H)))))
theorem s330_6 {kc : List va_E} {d : Nat} {v1 u0 : Int} {M : fx_M} {Q : Option fx_V → fx_M → Prop} (H : ((fx_in32 u0)) ∧ (u0 ≠ 0 → wp kc (d + 1) 330 17 [some (jR 133), some (jI v1), some (jI 0)] [] M Q) ∧ (u0 = 0 → wc kc d 259 [jR 133, jI 2] M (fun v M1 => wp kc (d + 1) 330 14 [none, none, none] (v.toList ++ []) M1 Q))) : wp kc (d + 1) 330 6 [some (jR 133), some (jI v1), none] [jI u0] M Q :=
  (x_zne c330_6 H.1 (fun h1 => (x_ci c330_15 (x_istn (l' := [some (jR 133), some (jI v1), some (jI 0)]) c330_16 rfl (wp_wk (l' := [some (jR 133), some (jI v1), some (jI 0)]) ⟨rfl, ⟨rfl, ⟨rfl, trivial⟩⟩⟩ (H.2.1 h1))))) (fun h2 => (x_aldn c330_9 rfl (x_ci c330_10 (wp_wk (l' := [none, none, none]) trivial (x_cv (As := [jI 2]) (st := []) c330_11 cl_133 kl259 rfl (Nat.le_of_ble_eq_true rfl) mx259 (Nat.le_refl _) (H.2.2 h2)))))))
theorem s330_14 {kc : List va_E} {d : Nat} {M : fx_M} {Q : Option fx_V → fx_M → Prop} (H : Q none M) : wp kc (d + 1) 330 14 [none, none, none] [] M Q :=
  (x_vr c330_14 r330 H)
theorem s330_17 {kc : List va_E} {d : Nat} {v1 v2 : Int} {M : fx_M} {Q : Option fx_V → fx_M → Prop} (H : ((fx_in32 v2) ∧ (fx_in32 (M 148 0))) ∧ (M 148 0 ≤ v2 → wc kc d 254 [jR 133, jI 46] M (fun v M1 => wp kc (d + 1) 330 69 [none, none, none] (v.toList ++ []) M1 Q)) ∧ (v2 < M 148 0 → (((0 : Int) ≤ (9 * (M 133 80)) + v1 ∧ (9 * (M 133 80)) + v1 < 27)) ∧ ((fx_in32 (fx_and (fx_shr (M 175 ((9 * (M 133 80)) + v1)) v2) 1))) ∧ (fx_and (fx_shr (M 175 ((9 * (M 133 80)) + v1)) v2) 1 ≠ 1 → wp kc (d + 1) 330 17 [some (jR 133), some (jI v1), some (jI (v2 + 1))] [] M Q) ∧ (fx_and (fx_shr (M 175 ((9 * (M 133 80)) + v1)) v2) 1 = 1 → wc kc d 254 [jR 133, jI (48 + v2)] M (fun v M1 => wp kc (d + 1) 330 57 [some (jR 133), some (jI v1), some (jI v2)] (v.toList ++ []) M1 Q)))) : wp kc (d + 1) 330 17 [some (jR 133), some (jI v1), some (jI v2)] [] M Q :=
  (x_ildn c330_17 rfl (x_aldn c330_18 rfl (x_gfr c330_19 k_133_39 (x_ci c330_22 (x_iald c330_23 a_148 (by decide) (by decide) (x_cge c330_24 H.1.1 H.1.2 (fun h3 => (x_aldn c330_63 rfl (x_ci c330_64 (wp_wk (l' := [none, none, none]) trivial (x_cv (As := [jI 46]) (st := []) c330_66 cl_133 kl254 rfl (Nat.le_of_ble_eq_true rfl) mx254 (Nat.le_refl _) (H.2.1 h3)))))) (fun h4 => (x_aldn c330_27 rfl (x_gfr c330_28 k_133_82 (x_ci c330_31 (x_aldn c330_33 rfl (x_gfi c330_34 k_133_80 (x_imul c330_37 (x_ildn c330_38 rfl (x_iadd c330_39 (x_iald c330_40 a_175 (H.2.2 h4).1 (by decide) (x_ildn c330_41 rfl (x_ishr c330_42 (x_ci c330_43 (x_iand c330_44 (x_ci c330_45 (x_cne c330_46 (H.2.2 h4).2.1 (by decide) (fun h1 => (x_inc (l' := [some (jR 133), some (jI v1), some (jI (v2 + 1))]) c330_57 rfl rfl (x_goto c330_60 (wp_wk (l' := [some (jR 133), some (jI v1), some (jI (v2 + 1))]) ⟨rfl, ⟨rfl, ⟨rfl, trivial⟩⟩⟩ ((H.2.2 h4).2.2.1 h1))))) (fun h2 => (x_aldn c330_49 rfl (x_ci c330_50 (x_ildn c330_52 rfl (x_iadd c330_53 (wp_wk (l' := [some (jR 133), some (jI v1), some (jI v2)]) ⟨rfl, ⟨rfl, ⟨rfl, trivial⟩⟩⟩ (x_cv (As := [jI (48 + v2)]) (st := []) c330_54 cl_133 kl254 rfl (Nat.le_of_ble_eq_true rfl) mx254 (Nat.le_refl _) ((H.2.2 h4).2.2.2 h2))))))))))))))))))))))))))))))
theorem s330_57 {kc : List va_E} {d : Nat} {v1 v2 : Int} {M : fx_M} {Q : Option fx_V → fx_M → Prop} (H : wp kc (d + 1) 330 17 [some (jR 133), some (jI v1), some (jI (v2 + 1))] [] M Q) : wp kc (d + 1) 330 57 [some (jR 133), some (jI v1), some (jI v2)] [] M Q :=
  (x_inc (l' := [some (jR 133), some (jI v1), some (jI (v2 + 1))]) c330_57 rfl rfl (x_goto c330_60 (wp_wk (l' := [some (jR 133), some (jI v1), some (jI (v2 + 1))]) ⟨rfl, ⟨rfl, ⟨rfl, trivial⟩⟩⟩ H)))
theorem s330_69 {kc : List va_E} {d : Nat} {M : fx_M} {Q : Option fx_V → fx_M → Prop} (H : Q none M) : wp kc (d + 1) 330 69 [none, none, none] [] M Q :=
  (x_vr c330_69 r330 H)
theorem s330 {kc : List va_E} {d : Nat} {x1 : Int} {M : fx_M} {Q : Option fx_V → fx_M → Prop} (H : wc kc d 241 [jR 133, jI 0, jI x1] M (fun v M1 => wp kc (d + 1) 330 6 [some (jR 133), some (jI x1), none] (v.toList ++ []) M1 Q)) : wc kc (d + 1) 330 [jR 133, jI x1] M Q :=
  wc_of (wp_wk (l' := [some (jR 133), some (jI x1), none]) ⟨rfl, ⟨rfl, trivial⟩⟩ (s330_0 H))
