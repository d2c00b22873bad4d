/-! SEGMENTS of the model, 6 (by gen/emit_segs.py) -/
/- PuzzleHouseModel.placeOf(I)I -/
theorem c355_0 : fx_ci 355 0 = some (0, 1) := by decide +kernel
theorem c355_1 : fx_op 355 1 = some (.istore_n 2, 2, 1) := by decide +kernel
theorem c355_2 : fx_ci 355 2 = some (0, 3) := by decide +kernel
theorem c355_3 : fx_op 355 3 = some (.istore_n 3, 4, 3) := by decide +kernel
theorem c355_4 : fx_op 355 4 = some (.iload_n 3, 5, 4) := by decide +kernel
theorem c355_5 : fx_ci 355 5 = some (3, 6) := by decide +kernel
theorem c355_6 : fx_op 355 6 = some (.if_icmp .ge 68, 9, 74) := by decide +kernel
theorem c355_9 : fx_op 355 9 = some (.aload_n 0, 10, 9) := by decide +kernel
theorem c355_10 : fx_op 355 10 = some (.iload_n 3, 11, 10) := by decide +kernel
theorem c355_74 : fx_op 355 74 = some (.iload_n 2, 75, 74) := by decide +kernel
theorem c355_75 : fx_op 355 75 = some (.ireturn, 76, 75) := by decide +kernel
theorem c355_11 : fx_ca 355 11 = some (356, 2, 2, 14) := by decide +kernel
theorem c355_14 : fx_op 355 14 = some (.aload_n 0, 15, 14) := by decide +kernel
theorem c355_15 : fx_op 355 15 = some (.iload_n 1, 16, 15) := by decide +kernel
theorem c355_16 : fx_ca 355 16 = some (356, 2, 2, 19) := by decide +kernel
theorem c355_19 : fx_op 355 19 = some (.isub, 20, 19) := by decide +kernel
theorem c355_20 : fx_op 355 20 = some (.istore 4, 22, 20) := by decide +kernel
theorem c355_22 : fx_op 355 22 = some (.iload 4, 24, 22) := by decide +kernel
theorem c355_24 : fx_op 355 24 = some (.ifCond .ne 17, 27, 41) := by decide +kernel
theorem c355_41 : fx_op 355 41 = some (.iload 4, 43, 41) := by decide +kernel
theorem c355_27 : fx_op 355 27 = some (.aload_n 0, 28, 27) := by decide +kernel
theorem c355_28 : fx_op 355 28 = some (.iload_n 1, 29, 28) := by decide +kernel
theorem c355_43 : fx_op 355 43 = some (.istore 4, 45, 43) := by decide +kernel
theorem c355_45 : fx_op 355 45 = some (.iload_n 2, 46, 45) := by decide +kernel
theorem c355_46 : fx_op 355 46 = some (.iload 4, 48, 46) := by decide +kernel
theorem c355_48 : fx_op 355 48 = some (.ifCond .gt 13, 51, 61) := by decide +kernel
theorem c355_61 : fx_ci 355 61 = some (1, 62) := by decide +kernel
theorem c355_62 : fx_op 355 62 = some (.goto 4, 65, 66) := by decide +kernel
theorem c355_51 : fx_op 355 51 = some (.iload 4, 53, 51) := by decide +kernel
theorem c355_53 : fx_op 355 53 = some (.ifCond .ne 12, 56, 65) := by decide +kernel
theorem c355_65 : fx_ci 355 65 = some (0, 66) := by decide +kernel
theorem c355_56 : fx_op 355 56 = some (.iload_n 3, 57, 56) := by decide +kernel
theorem c355_57 : fx_op 355 57 = some (.iload_n 1, 58, 57) := by decide +kernel
theorem c355_58 : fx_op 355 58 = some (.if_icmp .ge 7, 61, 65) := by decide +kernel
theorem c355_66 : fx_op 355 66 = some (.iadd, 67, 66) := by decide +kernel
theorem c355_67 : fx_op 355 67 = some (.istore_n 2, 68, 67) := by decide +kernel
theorem c355_68 : fx_op 355 68 = some (.iinc 3 1, 71, 68) := by decide +kernel
theorem c355_71 : fx_op 355 71 = some (.goto (-67), 74, 4) := by decide +kernel
theorem c355_29 : fx_ca 355 29 = some (357, 2, 2, 32) := by decide +kernel
theorem c355_32 : fx_op 355 32 = some (.aload_n 0, 33, 32) := by decide +kernel
theorem c355_33 : fx_op 355 33 = some (.iload_n 3, 34, 33) := by decide +kernel
theorem c355_34 : fx_ca 355 34 = some (357, 2, 2, 37) := by decide +kernel
theorem c355_37 : fx_op 355 37 = some (.isub, 38, 37) := by decide +kernel
theorem c355_38 : fx_op 355 38 = some (.goto 5, 41, 43) := by decide +kernel
theorem s355_0 {kc : List va_E} {d : Nat} {x1 : Int} {M : fx_M} {Q : Option fx_V → fx_M → Prop} (H : wp kc (d + 1) 355 4 [some (jR 133), some (jI x1), some (jI 0), some (jI 0), none] [] M Q) : wp kc (d + 1) 355 0 [some (jR 133), some (jI x1), none, none, none] [] M Q :=
  (x_ci c355_0 (x_istn (l' := [some (jR 133), some (jI x1), some (jI 0), none, none]) c355_1 rfl (x_ci c355_2 (x_istn (l' := [some (jR 133), some (jI x1), some (jI 0), some (jI 0), none]) c355_3 rfl (wp_wk (l' := [some (jR 133), some (jI x1), some (jI 0), some (jI 0), none]) ⟨rfl, ⟨rfl, ⟨rfl, ⟨rfl, trivial⟩⟩⟩⟩ H)))))
theorem s355_4 {kc : List va_E} {d : Nat} {v1 v2 v3 : Int} {M : fx_M} {Q : Option fx_V → fx_M → Prop} (H : ((fx_in32 v3)) ∧ (3 ≤ v3 → Q (some (jI v2)) M) ∧ (v3 < 3 → wc kc d 356 [jR 133, jI v3] M (fun v M1 => wp kc (d + 1) 355 14 [some (jR 133), some (jI v1), some (jI v2), some (jI v3), none] (v.toList ++ []) M1 Q))) : wp kc (d + 1) 355 4 [some (jR 133), some (jI v1), some (jI v2), some (jI v3), none] [] M Q :=
  (x_ildn c355_4 rfl (x_ci c355_5 (x_cge c355_6 H.1 (by decide) (fun h1 => (x_ildn c355_74 rfl (x_irt c355_75 r355 (H.2.1 h1)))) (fun h2 => (x_aldn c355_9 rfl (x_ildn c355_10 rfl (wp_wk (l' := [some (jR 133), some (jI v1), some (jI v2), some (jI v3), none]) ⟨rfl, ⟨rfl, ⟨rfl, ⟨rfl, trivial⟩⟩⟩⟩ (x_cv (As := [jI v3]) (st := []) c355_11 cl_133 kl356 rfl (Nat.le_of_ble_eq_true rfl) mx356 (Nat.le_refl _) (H.2.2 h2)))))))))
theorem s355_14 {kc : List va_E} {d : Nat} {v1 v2 v3 u0 : Int} {M : fx_M} {Q : Option fx_V → fx_M → Prop} (H : wc kc d 356 [jR 133, jI v1] M (fun v M1 => wp kc (d + 1) 355 19 [some (jR 133), some (jI v1), some (jI v2), some (jI v3), none] (v.toList ++ [jI u0]) M1 Q)) : wp kc (d + 1) 355 14 [some (jR 133), some (jI v1), some (jI v2), some (jI v3), none] [jI u0] M Q :=
  (x_aldn c355_14 rfl (x_ildn c355_15 rfl (wp_wk (l' := [some (jR 133), some (jI v1), some (jI v2), some (jI v3), none]) ⟨rfl, ⟨rfl, ⟨rfl, ⟨rfl, trivial⟩⟩⟩⟩ (x_cv (As := [jI v1]) (st := [jI u0]) c355_16 cl_133 kl356 rfl (Nat.le_of_ble_eq_true rfl) mx356 (Nat.le_refl _) H))))
theorem s355_19 {kc : List va_E} {d : Nat} {v1 v2 v3 u0 u1 : Int} {M : fx_M} {Q : Option fx_V → fx_M → Prop} (H : ((fx_in32 (u1 - u0))) ∧ (u1 - u0 ≠ 0 → ((fx_in32 (u1 - u0))) ∧ (u1 - u0 ≤ 0 → (fx_in32 (u1 - u0))) ∧ (u1 - u0 ≤ 0 → u1 - u0 = 0 → (fx_in32 v3)) ∧ (u1 - u0 ≤ 0 → u1 - u0 = 0 → (fx_in32 v1)) ∧ wp kc (d + 1) 355 4 [some (jR 133), some (jI v1), some (jI (v2 + (if 0 < u1 - u0 then (1 : Int) else (if u1 - u0 = 0 then ((if v3 < v1 then (1 : Int) else 0) : Int) else 0)))), some (jI (v3 + 1)), none] [] M Q) ∧ (u1 - u0 = 0 → wc kc d 357 [jR 133, jI v1] M (fun v M1 => wp kc (d + 1) 355 32 [some (jR 133), some (jI v1), some (jI v2), some (jI v3), none] (v.toList ++ []) M1 Q))) : wp kc (d + 1) 355 19 [some (jR 133), some (jI v1), some (jI v2), some (jI v3), none] [jI u0, jI u1] M Q :=
  (x_isub c355_19 (x_ist (l' := [some (jR 133), some (jI v1), some (jI v2), some (jI v3), some (jI (u1 - u0))]) c355_20 rfl (x_ild c355_22 rfl (x_zne c355_24 H.1 (fun h1 => (x_ild c355_41 rfl (x_ist (l' := [some (jR 133), some (jI v1), some (jI v2), some (jI v3), some (jI (u1 - u0))]) c355_43 rfl (x_ildn c355_45 rfl (x_ild c355_46 rfl (have K : wp kc (d + 1) 355 66 [some (jR 133), some (jI v1), none, some (jI v3), none] [jI (if 0 < u1 - u0 then (1 : Int) else (if u1 - u0 = 0 then ((if v3 < v1 then (1 : Int) else 0) : Int) else 0)), jI v2] M Q := (x_iadd c355_66 (x_istn (l' := [some (jR 133), some (jI v1), some (jI (v2 + (if 0 < u1 - u0 then (1 : Int) else (if u1 - u0 = 0 then ((if v3 < v1 then (1 : Int) else 0) : Int) else 0)))), some (jI v3), none]) c355_67 rfl (x_inc (l' := [some (jR 133), some (jI v1), some (jI (v2 + (if 0 < u1 - u0 then (1 : Int) else (if u1 - u0 = 0 then ((if v3 < v1 then (1 : Int) else 0) : Int) else 0)))), some (jI (v3 + 1)), none]) c355_68 rfl rfl (x_goto c355_71 (wp_wk (l' := [some (jR 133), some (jI v1), some (jI (v2 + (if 0 < u1 - u0 then (1 : Int) else (if u1 - u0 = 0 then ((if v3 < v1 then (1 : Int) else 0) : Int) else 0)))), some (jI (v3 + 1)), none]) ⟨rfl, ⟨rfl, ⟨rfl, ⟨rfl, trivial⟩⟩⟩⟩ (H.2.1 h1).2.2.2.2))))); (x_zgt c355_48 (H.2.1 h1).1 (fun (h3 : 0 < u1 - u0) => (x_ci c355_61 (x_goto c355_62 (wp_wk (l' := [some (jR 133), some (jI v1), none, some (jI v3), none]) ⟨rfl, ⟨rfl, ⟨rfl, trivial⟩⟩⟩ (by have K := K; first | (simp only [if_pos h3] at K ⊢; exact K) | (exfalso; omega)))))) (fun (h4 : u1 - u0 ≤ 0) => (x_ild c355_51 rfl (x_zne c355_53 ((H.2.1 h1).2.1 h4) (fun (h5 : u1 - u0 ≠ 0) => (x_ci c355_65 (wp_wk (l' := [some (jR 133), some (jI v1), none, some (jI v3), none]) ⟨rfl, ⟨rfl, ⟨rfl, trivial⟩⟩⟩ (by have K := K; first | (simp only [if_neg (Int.not_lt.mpr h4), if_neg h5] at K ⊢; exact K) | (exfalso; omega))))) (fun (h6 : u1 - u0 = 0) => (x_ildn c355_56 rfl (x_ildn c355_57 rfl (x_cge c355_58 ((H.2.1 h1).2.2.1 h4 h6) ((H.2.1 h1).2.2.2.1 h4 h6) (fun (h7 : v1 ≤ v3) => (x_ci c355_65 (wp_wk (l' := [some (jR 133), some (jI v1), none, some (jI v3), none]) ⟨rfl, ⟨rfl, ⟨rfl, trivial⟩⟩⟩ (by have K := K; first | (simp only [if_neg (Int.not_lt.mpr h4), if_pos h6, if_neg (Int.not_lt.mpr h7)] at K ⊢; exact K) | (exfalso; omega))))) (fun (h8 : v3 < v1) => (x_ci c355_61 (x_goto c355_62 (wp_wk (l' := [some (jR 133), some (jI v1), none, some (jI v3), none]) ⟨rfl, ⟨rfl, ⟨rfl, trivial⟩⟩⟩ (by have K := K; first | (simp only [if_neg (Int.not_lt.mpr h4), if_pos h6, if_pos h8] at K ⊢; exact K) | (exfalso; omega)))))))))))))))))))) (fun h2 => (x_aldn c355_27 rfl (x_ildn c355_28 rfl (wp_wk (l' := [some (jR 133), some (jI v1), some (jI v2), some (jI v3), none]) ⟨rfl, ⟨rfl, ⟨rfl, ⟨rfl, trivial⟩⟩⟩⟩ (x_cv (As := [jI v1]) (st := []) c355_29 cl_133 kl357 rfl (Nat.le_of_ble_eq_true rfl) mx357 (Nat.le_refl _) (H.2.2 h2))))))))))
theorem s355_32 {kc : List va_E} {d : Nat} {v1 v2 v3 u0 : Int} {M : fx_M} {Q : Option fx_V → fx_M → Prop} (H : wc kc d 357 [jR 133, jI v3] M (fun v M1 => wp kc (d + 1) 355 37 [some (jR 133), some (jI v1), some (jI v2), some (jI v3), none] (v.toList ++ [jI u0]) M1 Q)) : wp kc (d + 1) 355 32 [some (jR 133), some (jI v1), some (jI v2), some (jI v3), none] [jI u0] M Q :=
  (x_aldn c355_32 rfl (x_ildn c355_33 rfl (wp_wk (l' := [some (jR 133), some (jI v1), some (jI v2), some (jI v3), none]) ⟨rfl, ⟨rfl, ⟨rfl, ⟨rfl, trivial⟩⟩⟩⟩ (x_cv (As := [jI v3]) (st := [jI u0]) c355_34 cl_133 kl357 rfl (Nat.le_of_ble_eq_true rfl) mx357 (Nat.le_refl _) H))))
theorem s355_37 {kc : List va_E} {d : Nat} {v1 v2 v3 u0 u1 : Int} {M : fx_M} {Q : Option fx_V → fx_M → Prop} (H : ((fx_in32 (u1 - u0))) ∧ (u1 - u0 ≤ 0 → (fx_in32 (u1 - u0))) ∧ (u1 - u0 ≤ 0 → u1 - u0 = 0 → (fx_in32 v3)) ∧ (u1 - u0 ≤ 0 → u1 - u0 = 0 → (fx_in32 v1)) ∧ wp kc (d + 1) 355 4 [some (jR 133), some (jI v1), some (jI (v2 + (if 0 < u1 - u0 then (1 : Int) else (if u1 - u0 = 0 then ((if v3 < v1 then (1 : Int) else 0) : Int) else 0)))), some (jI (v3 + 1)), none] [] M Q) : wp kc (d + 1) 355 37 [some (jR 133), some (jI v1), some (jI v2), some (jI v3), none] [jI u0, jI u1] M Q :=
  (x_isub c355_37 (x_goto c355_38 (x_ist (l' := [some (jR 133), some (jI v1), some (jI v2), some (jI v3), some (jI (u1 - u0))]) c355_43 rfl (x_ildn c355_45 rfl (x_ild c355_46 rfl (have K : wp kc (d + 1) 355 66 [some (jR 133), some (jI v1), none, some (jI v3), none] [jI (if 0 < u1 - u0 then (1 : Int) else (if u1 - u0 = 0 then ((if v3 < v1 then (1 : Int) else 0) : Int) else 0)), jI v2] M Q := (x_iadd c355_66 (x_istn (l' := [some (jR 133), some (jI v1), some (jI (v2 + (if 0 < u1 - u0 then (1 : Int) else (if u1 - u0 = 0 then ((if v3 < v1 then (1 : Int) else 0) : Int) else 0)))), some (jI v3), none]) c355_67 rfl (x_inc (l' := [some (jR 133), some (jI v1), some (jI (v2 + (if 0 < u1 - u0 then (1 : Int) else (if u1 - u0 = 0 then ((if v3 < v1 then (1 : Int) else 0) : Int) else 0)))), some (jI (v3 + 1)), none]) c355_68 rfl rfl (x_goto c355_71 (wp_wk (l' := [some (jR 133), some (jI v1), some (jI (v2 + (if 0 < u1 - u0 then (1 : Int) else (if u1 - u0 = 0 then ((if v3 < v1 then (1 : Int) else 0) : Int) else 0)))), some (jI (v3 + 1)), none]) ⟨rfl, ⟨rfl, ⟨rfl, ⟨rfl, trivial⟩⟩⟩⟩ H.2.2.2.2))))); (x_zgt c355_48 H.1 (fun (h1 : 0 < u1 - u0) => (x_ci c355_61 (x_goto c355_62 (wp_wk (l' := [some (jR 133), some (jI v1), none, some (jI v3), none]) ⟨rfl, ⟨rfl, ⟨rfl, trivial⟩⟩⟩ (by have K := K; first | (simp only [if_pos h1] at K ⊢; exact K) | (exfalso; omega)))))) (fun (h2 : u1 - u0 ≤ 0) => (x_ild c355_51 rfl (x_zne c355_53 (H.2.1 h2) (fun (h3 : u1 - u0 ≠ 0) => (x_ci c355_65 (wp_wk (l' := [some (jR 133), some (jI v1), none, some (jI v3), none]) ⟨rfl, ⟨rfl, ⟨rfl, trivial⟩⟩⟩ (by have K := K; first | (simp only [if_neg (Int.not_lt.mpr h2), if_neg h3] at K ⊢; exact K) | (exfalso; omega))))) (fun (h4 : u1 - u0 = 0) => (x_ildn c355_56 rfl (x_ildn c355_57 rfl (x_cge c355_58 (H.2.2.1 h2 h4) (H.2.2.2.1 h2 h4) (fun (h5 : v1 ≤ v3) => (x_ci c355_65 (wp_wk (l' := [some (jR 133), some (jI v1), none, some (jI v3), none]) ⟨rfl, ⟨rfl, ⟨rfl, trivial⟩⟩⟩ (by have K := K; first | (simp only [if_neg (Int.not_lt.mpr h2), if_pos h4, if_neg (Int.not_lt.mpr h5)] at K ⊢; exact K) | (exfalso; omega))))) (fun (h6 : v3 < v1) => (x_ci c355_61 (x_goto c355_62 (wp_wk (l' := [some (jR 133), some (jI v1), none, some (jI v3), none]) ⟨rfl, ⟨rfl, ⟨rfl, trivial⟩⟩⟩ (by have K := K; first | (simp only [if_neg (Int.not_lt.mpr h2), if_pos h4, if_pos h6] at K ⊢; exact K) | (exfalso; omega))))))))))))))))))))
theorem s355 {kc : List va_E} {d : Nat} {x1 : Int} {M : fx_M} {Q : Option fx_V → fx_M → Prop} (H : wp kc (d + 1) 355 4 [some (jR 133), some (jI x1), some (jI 0), some (jI 0), none] [] M Q) : wc kc (d + 1) 355 [jR 133, jI x1] M Q :=
  wc_of (wp_wk (l' := [some (jR 133), some (jI x1), none, none, none]) ⟨rfl, ⟨rfl, trivial⟩⟩ (s355_0 H))

/- PuzzleHouseModel.pointsOf(I)I -/
theorem c356_0 : fx_ci 356 0 = some (0, 1) := by decide +kernel
theorem c356_1 : fx_op 356 1 = some (.istore_n 2, 2, 1) := by decide +kernel
theorem c356_2 : fx_ci 356 2 = some (0, 3) := by decide +kernel
theorem c356_3 : fx_op 356 3 = some (.istore_n 3, 4, 3) := by decide +kernel
theorem c356_4 : fx_op 356 4 = some (.iload_n 3, 5, 4) := by decide +kernel
theorem c356_5 : fx_op 356 5 = some (.aload_n 0, 6, 5) := by decide +kernel
theorem c356_6 : fx_gf 356 6 = some (12, 89, 9) := by decide +kernel
theorem c356_9 : fx_op 356 9 = some (.if_icmp .ge 64, 12, 73) := by decide +kernel
theorem c356_12 : fx_op 356 12 = some (.aload_n 0, 13, 12) := by decide +kernel
theorem c356_13 : fx_gf 356 13 = some (12, 94, 16) := by decide +kernel
theorem c356_16 : fx_ci 356 16 = some (6, 18) := by decide +kernel
theorem c356_18 : fx_op 356 18 = some (.iload_n 1, 19, 18) := by decide +kernel
theorem c356_19 : fx_op 356 19 = some (.imul, 20, 19) := by decide +kernel
theorem c356_20 : fx_op 356 20 = some (.iload_n 3, 21, 20) := by decide +kernel
theorem c356_21 : fx_op 356 21 = some (.iadd, 22, 21) := by decide +kernel
theorem c356_22 : fx_op 356 22 = some (.baload, 23, 22) := by decide +kernel
theorem c356_23 : fx_op 356 23 = some (.ifCond .eq 44, 26, 67) := by decide +kernel
theorem c356_67 : fx_op 356 67 = some (.iinc 3 1, 70, 67) := by decide +kernel
theorem c356_73 : fx_op 356 73 = some (.iload_n 2, 74, 73) := by decide +kernel
theorem c356_26 : fx_op 356 26 = some (.aload_n 0, 27, 26) := by decide +kernel
theorem c356_27 : fx_gf 356 27 = some (12, 92, 30) := by decide +kernel
theorem c356_30 : fx_op 356 30 = some (.iload_n 3, 31, 30) := by decide +kernel
theorem c356_31 : fx_op 356 31 = some (.iaload, 32, 31) := by decide +kernel
theorem c356_32 : fx_op 356 32 = some (.aload_n 0, 33, 32) := by decide +kernel
theorem c356_33 : fx_gf 356 33 = some (12, 93, 36) := by decide +kernel
theorem c356_36 : fx_ci 356 36 = some (6, 38) := by decide +kernel
theorem c356_38 : fx_op 356 38 = some (.iload_n 1, 39, 38) := by decide +kernel
theorem c356_39 : fx_op 356 39 = some (.imul, 40, 39) := by decide +kernel
theorem c356_40 : fx_op 356 40 = some (.iload_n 3, 41, 40) := by decide +kernel
theorem c356_41 : fx_op 356 41 = some (.iadd, 42, 41) := by decide +kernel
theorem c356_42 : fx_op 356 42 = some (.iaload, 43, 42) := by decide +kernel
theorem c356_43 : fx_op 356 43 = some (.if_icmp .le 24, 46, 67) := by decide +kernel
theorem c356_46 : fx_op 356 46 = some (.iload_n 2, 47, 46) := by decide +kernel
theorem c356_47 : fx_op 356 47 = some (.aload_n 0, 48, 47) := by decide +kernel
theorem c356_48 : fx_gf 356 48 = some (12, 92, 51) := by decide +kernel
theorem c356_51 : fx_op 356 51 = some (.iload_n 3, 52, 51) := by decide +kernel
theorem c356_52 : fx_op 356 52 = some (.iaload, 53, 52) := by decide +kernel
theorem c356_53 : fx_op 356 53 = some (.aload_n 0, 54, 53) := by decide +kernel
theorem c356_54 : fx_gf 356 54 = some (12, 93, 57) := by decide +kernel
theorem c356_57 : fx_ci 356 57 = some (6, 59) := by decide +kernel
theorem c356_59 : fx_op 356 59 = some (.iload_n 1, 60, 59) := by decide +kernel
theorem c356_60 : fx_op 356 60 = some (.imul, 61, 60) := by decide +kernel
theorem c356_61 : fx_op 356 61 = some (.iload_n 3, 62, 61) := by decide +kernel
theorem c356_62 : fx_op 356 62 = some (.iadd, 63, 62) := by decide +kernel
theorem c356_63 : fx_op 356 63 = some (.iaload, 64, 63) := by decide +kernel
theorem c356_64 : fx_op 356 64 = some (.isub, 65, 64) := by decide +kernel
theorem c356_65 : fx_op 356 65 = some (.iadd, 66, 65) := by decide +kernel
theorem c356_66 : fx_op 356 66 = some (.istore_n 2, 67, 66) := by decide +kernel
theorem c356_74 : fx_op 356 74 = some (.ireturn, 75, 74) := by decide +kernel
theorem c356_70 : fx_op 356 70 = some (.goto (-66), 73, 4) := by decide +kernel
theorem s356_0 {kc : List va_E} {d : Nat} {x1 : Int} {M : fx_M} {Q : Option fx_V → fx_M → Prop} (H : wp kc (d + 1) 356 4 [some (jR 133), some (jI x1), some (jI 0), some (jI 0)] [] M Q) : wp kc (d + 1) 356 0 [some (jR 133), some (jI x1), none, none] [] M Q :=
  (x_ci c356_0 (x_istn (l' := [some (jR 133), some (jI x1), some (jI 0), none]) c356_1 rfl (x_ci c356_2 (x_istn (l' := [some (jR 133), some (jI x1), some (jI 0), some (jI 0)]) c356_3 rfl (wp_wk (l' := [some (jR 133), some (jI x1), some (jI 0), some (jI 0)]) ⟨rfl, ⟨rfl, ⟨rfl, ⟨rfl, trivial⟩⟩⟩⟩ H)))))
theorem s356_4 {kc : List va_E} {d : Nat} {v1 v2 v3 : Int} {M : fx_M} {Q : Option fx_V → fx_M → Prop} (H : ((fx_in32 v3) ∧ (fx_in32 (M 133 89))) ∧ (M 133 89 ≤ v3 → Q (some (jI v2)) M) ∧ (v3 < M 133 89 → (((0 : Int) ≤ (6 * v1) + v3 ∧ (6 * v1) + v3 < 18)) ∧ ((fx_in32 (M 186 ((6 * v1) + v3)))) ∧ (M 186 ((6 * v1) + v3) ≠ 0 → ((((0 : Int) ≤ v3 ∧ v3 < 6)))) ∧ (M 186 ((6 * v1) + v3) ≠ 0 → ((((0 : Int) ≤ (6 * v1) + v3 ∧ (6 * v1) + v3 < 18)))) ∧ (M 186 ((6 * v1) + v3) ≠ 0 → (fx_in32 (M 184 v3))) ∧ (M 186 ((6 * v1) + v3) ≠ 0 → (fx_in32 (M 185 ((6 * v1) + v3)))) ∧ (M 186 ((6 * v1) + v3) ≠ 0 → M 185 ((6 * v1) + v3) < M 184 v3 → ((((0 : Int) ≤ v3 ∧ v3 < 6)))) ∧ (M 186 ((6 * v1) + v3) ≠ 0 → M 185 ((6 * v1) + v3) < M 184 v3 → ((((0 : Int) ≤ (6 * v1) + v3 ∧ (6 * v1) + v3 < 18)))) ∧ wp kc (d + 1) 356 4 [some (jR 133), some (jI v1), some (jI (if M 186 ((6 * v1) + v3) = 0 then (v2 : Int) else (if M 185 ((6 * v1) + v3) < M 184 v3 then (v2 + ((M 184 v3) - (M 185 ((6 * v1) + v3))) : Int) else v2))), some (jI (v3 + 1))] [] M Q)) : wp kc (d + 1) 356 4 [some (jR 133), some (jI v1), some (jI v2), some (jI v3)] [] M Q :=
  (x_ildn c356_4 rfl (x_aldn c356_5 rfl (x_gfi c356_6 k_133_89 (x_cge c356_9 H.1.1 H.1.2 (fun h1 => (x_ildn c356_73 rfl (x_irt c356_74 r356 (H.2.1 h1)))) (fun h2 => (x_aldn c356_12 rfl (x_gfr c356_13 k_133_94 (x_ci c356_16 (x_ildn c356_18 rfl (x_imul c356_19 (x_ildn c356_20 rfl (x_iadd c356_21 (x_bald c356_22 a_186 (H.2.2 h2).1 (by decide) (have K : wp kc (d + 1) 356 67 [some (jR 133), some (jI v1), some (jI (if M 186 ((6 * v1) + v3) = 0 then (v2 : Int) else (if M 185 ((6 * v1) + v3) < M 184 v3 then (v2 + ((M 184 v3) - (M 185 ((6 * v1) + v3))) : Int) else v2))), some (jI v3)] [] M Q := (x_inc (l' := [some (jR 133), some (jI v1), some (jI (if M 186 ((6 * v1) + v3) = 0 then (v2 : Int) else (if M 185 ((6 * v1) + v3) < M 184 v3 then (v2 + ((M 184 v3) - (M 185 ((6 * v1) + v3))) : Int) else v2))), some (jI (v3 + 1))]) c356_67 rfl rfl (x_goto c356_70 (wp_wk (l' := [some (jR 133), some (jI v1), some (jI (if M 186 ((6 * v1) + v3) = 0 then (v2 : Int) else (if M 185 ((6 * v1) + v3) < M 184 v3 then (v2 + ((M 184 v3) - (M 185 ((6 * v1) + v3))) : Int) else v2))), some (jI (v3 + 1))]) ⟨rfl, ⟨rfl, ⟨rfl, ⟨rfl, trivial⟩⟩⟩⟩ (H.2.2 h2).2.2.2.2.2.2.2.2))); (x_zeq c356_23 (H.2.2 h2).2.1 (fun (h3 : M 186 ((6 * v1) + v3) = 0) => (wp_wk (l' := [some (jR 133), some (jI v1), some (jI v2), some (jI v3)]) ⟨rfl, ⟨rfl, ⟨rfl, ⟨rfl, trivial⟩⟩⟩⟩ (by have K := K; first | (simp only [if_pos h3] at K ⊢; exact K) | (exfalso; omega)))) (fun (h4 : M 186 ((6 * v1) + v3) ≠ 0) => (x_aldn c356_26 rfl (x_gfr c356_27 k_133_92 (x_ildn c356_30 rfl (x_iald c356_31 a_184 ((H.2.2 h2).2.2.1 h4) (by decide) (x_aldn c356_32 rfl (x_gfr c356_33 k_133_93 (x_ci c356_36 (x_ildn c356_38 rfl (x_imul c356_39 (x_ildn c356_40 rfl (x_iadd c356_41 (x_iald c356_42 a_185 ((H.2.2 h2).2.2.2.1 h4) (by decide) (x_cle c356_43 ((H.2.2 h2).2.2.2.2.1 h4) ((H.2.2 h2).2.2.2.2.2.1 h4) (fun (h5 : M 184 v3 ≤ M 185 ((6 * v1) + v3)) => (wp_wk (l' := [some (jR 133), some (jI v1), some (jI v2), some (jI v3)]) ⟨rfl, ⟨rfl, ⟨rfl, ⟨rfl, trivial⟩⟩⟩⟩ (by have K := K; first | (simp only [if_neg h4, if_neg (Int.not_lt.mpr h5)] at K ⊢; exact K) | (exfalso; omega)))) (fun (h6 : M 185 ((6 * v1) + v3) < M 184 v3) => (x_ildn c356_46 rfl (x_aldn c356_47 rfl (x_gfr c356_48 k_133_92 (x_ildn c356_51 rfl (x_iald c356_52 a_184 ((H.2.2 h2).2.2.2.2.2.2.1 h4 h6) (by decide) (x_aldn c356_53 rfl (x_gfr c356_54 k_133_93 (x_ci c356_57 (x_ildn c356_59 rfl (x_imul c356_60 (x_ildn c356_61 rfl (x_iadd c356_62 (x_iald c356_63 a_185 ((H.2.2 h2).2.2.2.2.2.2.2.1 h4 h6) (by decide) (x_isub c356_64 (x_iadd c356_65 (x_istn (l' := [some (jR 133), some (jI v1), some (jI (v2 + ((M 184 v3) - (M 185 ((6 * v1) + v3))))), some (jI v3)]) c356_66 rfl (wp_wk (l' := [some (jR 133), some (jI v1), some (jI (v2 + ((M 184 v3) - (M 185 ((6 * v1) + v3))))), some (jI v3)]) ⟨rfl, ⟨rfl, ⟨rfl, ⟨rfl, trivial⟩⟩⟩⟩ (by have K := K; first | (simp only [if_neg h4, if_pos h6] at K ⊢; exact K) | (exfalso; omega)))))))))))))))))))))))))))))))))))))))))))))))))
theorem s356 {kc : List va_E} {d : Nat} {x1 : Int} {M : fx_M} {Q : Option fx_V → fx_M → Prop} (H : wp kc (d + 1) 356 4 [some (jR 133), some (jI x1), some (jI 0), some (jI 0)] [] M Q) : wc kc (d + 1) 356 [jR 133, jI x1] M Q :=
  wc_of (wp_wk (l' := [some (jR 133), some (jI x1), none, none]) ⟨rfl, ⟨rfl, trivial⟩⟩ (s356_0 H))

/- PuzzleHouseModel.timeOf(I)I -/
theorem c357_0 : fx_ci 357 0 = some (0, 1) := by decide +kernel
theorem c357_1 : fx_op 357 1 = some (.istore_n 2, 2, 1) := by decide +kernel
theorem c357_2 : fx_ci 357 2 = some (0, 3) := by decide +kernel
theorem c357_3 : fx_op 357 3 = some (.istore_n 3, 4, 3) := by decide +kernel
theorem c357_4 : fx_op 357 4 = some (.iload_n 3, 5, 4) := by decide +kernel
theorem c357_5 : fx_op 357 5 = some (.aload_n 0, 6, 5) := by decide +kernel
theorem c357_6 : fx_gf 357 6 = some (12, 89, 9) := by decide +kernel
theorem c357_9 : fx_op 357 9 = some (.if_icmp .ge 52, 12, 61) := by decide +kernel
theorem c357_12 : fx_op 357 12 = some (.aload_n 0, 13, 12) := by decide +kernel
theorem c357_13 : fx_gf 357 13 = some (12, 94, 16) := by decide +kernel
theorem c357_16 : fx_ci 357 16 = some (6, 18) := by decide +kernel
theorem c357_18 : fx_op 357 18 = some (.iload_n 1, 19, 18) := by decide +kernel
theorem c357_19 : fx_op 357 19 = some (.imul, 20, 19) := by decide +kernel
theorem c357_20 : fx_op 357 20 = some (.iload_n 3, 21, 20) := by decide +kernel
theorem c357_21 : fx_op 357 21 = some (.iadd, 22, 21) := by decide +kernel
theorem c357_22 : fx_op 357 22 = some (.baload, 23, 22) := by decide +kernel
theorem c357_23 : fx_op 357 23 = some (.ifCond .eq 32, 26, 55) := by decide +kernel
theorem c357_55 : fx_op 357 55 = some (.iinc 3 1, 58, 55) := by decide +kernel
theorem c357_61 : fx_op 357 61 = some (.iload_n 2, 62, 61) := by decide +kernel
theorem c357_26 : fx_op 357 26 = some (.iload_n 2, 27, 26) := by decide +kernel
theorem c357_27 : fx_op 357 27 = some (.aload_n 0, 28, 27) := by decide +kernel
theorem c357_28 : fx_gf 357 28 = some (12, 95, 31) := by decide +kernel
theorem c357_31 : fx_ci 357 31 = some (6, 33) := by decide +kernel
theorem c357_33 : fx_op 357 33 = some (.iload_n 1, 34, 33) := by decide +kernel
theorem c357_34 : fx_op 357 34 = some (.imul, 35, 34) := by decide +kernel
theorem c357_35 : fx_op 357 35 = some (.iload_n 3, 36, 35) := by decide +kernel
theorem c357_36 : fx_op 357 36 = some (.iadd, 37, 36) := by decide +kernel
theorem c357_37 : fx_op 357 37 = some (.iaload, 38, 37) := by decide +kernel
theorem c357_38 : fx_ci 357 38 = some (20, 40) := by decide +kernel
theorem c357_40 : fx_op 357 40 = some (.aload_n 0, 41, 40) := by decide +kernel
theorem c357_41 : fx_gf 357 41 = some (12, 93, 44) := by decide +kernel
theorem c357_44 : fx_ci 357 44 = some (6, 46) := by decide +kernel
theorem c357_46 : fx_op 357 46 = some (.iload_n 1, 47, 46) := by decide +kernel
theorem c357_47 : fx_op 357 47 = some (.imul, 48, 47) := by decide +kernel
theorem c357_48 : fx_op 357 48 = some (.iload_n 3, 49, 48) := by decide +kernel
theorem c357_49 : fx_op 357 49 = some (.iadd, 50, 49) := by decide +kernel
theorem c357_50 : fx_op 357 50 = some (.iaload, 51, 50) := by decide +kernel
theorem c357_51 : fx_op 357 51 = some (.imul, 52, 51) := by decide +kernel
theorem c357_52 : fx_op 357 52 = some (.iadd, 53, 52) := by decide +kernel
theorem c357_53 : fx_op 357 53 = some (.iadd, 54, 53) := by decide +kernel
theorem c357_54 : fx_op 357 54 = some (.istore_n 2, 55, 54) := by decide +kernel
theorem c357_62 : fx_op 357 62 = some (.ireturn, 63, 62) := by decide +kernel
theorem c357_58 : fx_op 357 58 = some (.goto (-54), 61, 4) := by decide +kernel
theorem s357_0 {kc : List va_E} {d : Nat} {x1 : Int} {M : fx_M} {Q : Option fx_V → fx_M → Prop} (H : wp kc (d + 1) 357 4 [some (jR 133), some (jI x1), some (jI 0), some (jI 0)] [] M Q) : wp kc (d + 1) 357 0 [some (jR 133), some (jI x1), none, none] [] M Q :=
  (x_ci c357_0 (x_istn (l' := [some (jR 133), some (jI x1), some (jI 0), none]) c357_1 rfl (x_ci c357_2 (x_istn (l' := [some (jR 133), some (jI x1), some (jI 0), some (jI 0)]) c357_3 rfl (wp_wk (l' := [some (jR 133), some (jI x1), some (jI 0), some (jI 0)]) ⟨rfl, ⟨rfl, ⟨rfl, ⟨rfl, trivial⟩⟩⟩⟩ H)))))
theorem s357_4 {kc : List va_E} {d : Nat} {v1 v2 v3 : Int} {M : fx_M} {Q : Option fx_V → fx_M → Prop} (H : ((fx_in32 v3) ∧ (fx_in32 (M 133 89))) ∧ (M 133 89 ≤ v3 → Q (some (jI v2)) M) ∧ (v3 < M 133 89 → (((0 : Int) ≤ (6 * v1) + v3 ∧ (6 * v1) + v3 < 18)) ∧ ((fx_in32 (M 186 ((6 * v1) + v3)))) ∧ (M 186 ((6 * v1) + v3) ≠ 0 → ((((0 : Int) ≤ (6 * v1) + v3 ∧ (6 * v1) + v3 < 18)))) ∧ (M 186 ((6 * v1) + v3) ≠ 0 → ((((0 : Int) ≤ (6 * v1) + v3 ∧ (6 * v1) + v3 < 18)))) ∧ wp kc (d + 1) 357 4 [some (jR 133), some (jI v1), some (jI (if M 186 ((6 * v1) + v3) = 0 then (v2 : Int) else v2 + ((M 187 ((6 * v1) + v3)) + (20 * (M 185 ((6 * v1) + v3)))))), some (jI (v3 + 1))] [] M Q)) : wp kc (d + 1) 357 4 [some (jR 133), some (jI v1), some (jI v2), some (jI v3)] [] M Q :=
  (x_ildn c357_4 rfl (x_aldn c357_5 rfl (x_gfi c357_6 k_133_89 (x_cge c357_9 H.1.1 H.1.2 (fun h1 => (x_ildn c357_61 rfl (x_irt c357_62 r357 (H.2.1 h1)))) (fun h2 => (x_aldn c357_12 rfl (x_gfr c357_13 k_133_94 (x_ci c357_16 (x_ildn c357_18 rfl (x_imul c357_19 (x_ildn c357_20 rfl (x_iadd c357_21 (x_bald c357_22 a_186 (H.2.2 h2).1 (by decide) (have K : wp kc (d + 1) 357 55 [some (jR 133), some (jI v1), some (jI (if M 186 ((6 * v1) + v3) = 0 then (v2 : Int) else v2 + ((M 187 ((6 * v1) + v3)) + (20 * (M 185 ((6 * v1) + v3)))))), some (jI v3)] [] M Q := (x_inc (l' := [some (jR 133), some (jI v1), some (jI (if M 186 ((6 * v1) + v3) = 0 then (v2 : Int) else v2 + ((M 187 ((6 * v1) + v3)) + (20 * (M 185 ((6 * v1) + v3)))))), some (jI (v3 + 1))]) c357_55 rfl rfl (x_goto c357_58 (wp_wk (l' := [some (jR 133), some (jI v1), some (jI (if M 186 ((6 * v1) + v3) = 0 then (v2 : Int) else v2 + ((M 187 ((6 * v1) + v3)) + (20 * (M 185 ((6 * v1) + v3)))))), some (jI (v3 + 1))]) ⟨rfl, ⟨rfl, ⟨rfl, ⟨rfl, trivial⟩⟩⟩⟩ (H.2.2 h2).2.2.2.2))); (x_zeq c357_23 (H.2.2 h2).2.1 (fun (h3 : M 186 ((6 * v1) + v3) = 0) => (wp_wk (l' := [some (jR 133), some (jI v1), some (jI v2), some (jI v3)]) ⟨rfl, ⟨rfl, ⟨rfl, ⟨rfl, trivial⟩⟩⟩⟩ (by have K := K; first | (simp only [if_pos h3] at K ⊢; exact K) | (exfalso; omega)))) (fun (h4 : M 186 ((6 * v1) + v3) ≠ 0) => (x_ildn c357_26 rfl (x_aldn c357_27 rfl (x_gfr c357_28 k_133_95 (x_ci c357_31 (x_ildn c357_33 rfl (x_imul c357_34 (x_ildn c357_35 rfl (x_iadd c357_36 (x_iald c357_37 a_187 ((H.2.2 h2).2.2.1 h4) (by decide) (x_ci c357_38 (x_aldn c357_40 rfl (x_gfr c357_41 k_133_93 (x_ci c357_44 (x_ildn c357_46 rfl (x_imul c357_47 (x_ildn c357_48 rfl (x_iadd c357_49 (x_iald c357_50 a_185 ((H.2.2 h2).2.2.2.1 h4) (by decide) (x_imul c357_51 (x_iadd c357_52 (x_iadd c357_53 (x_istn (l' := [some (jR 133), some (jI v1), some (jI (v2 + ((M 187 ((6 * v1) + v3)) + (20 * (M 185 ((6 * v1) + v3)))))), some (jI v3)]) c357_54 rfl (wp_wk (l' := [some (jR 133), some (jI v1), some (jI (v2 + ((M 187 ((6 * v1) + v3)) + (20 * (M 185 ((6 * v1) + v3)))))), some (jI v3)]) ⟨rfl, ⟨rfl, ⟨rfl, ⟨rfl, trivial⟩⟩⟩⟩ (by have K := K; first | (simp only [if_neg h4] at K ⊢; exact K) | (exfalso; omega)))))))))))))))))))))))))))))))))))))))))
theorem s357 {kc : List va_E} {d : Nat} {x1 : Int} {M : fx_M} {Q : Option fx_V → fx_M → Prop} (H : wp kc (d + 1) 357 4 [some (jR 133), some (jI x1), some (jI 0), some (jI 0)] [] M Q) : wc kc (d + 1) 357 [jR 133, jI x1] M Q :=
  wc_of (wp_wk (l' := [some (jR 133), some (jI x1), none, none]) ⟨rfl, ⟨rfl, trivial⟩⟩ (s357_0 H))

/- PuzzleHouseModel.sayCut(I)V -/
theorem c358_0 : fx_op 358 0 = some (.aload_n 0, 1, 0) := by decide +kernel
theorem c358_1 : fx_gf 358 1 = some (12, 96, 4) := by decide +kernel
theorem c358_4 : fx_op 358 4 = some (.ifCond .eq 18, 7, 22) := by decide +kernel
theorem c358_22 : fx_op 358 22 = some (.aload_n 0, 23, 22) := by decide +kernel
theorem c358_23 : fx_ci 358 23 = some (41, 25) := by decide +kernel
theorem c358_7 : fx_op 358 7 = some (.aload_n 0, 8, 7) := by decide +kernel
theorem c358_8 : fx_gf 358 8 = some (12, 102, 11) := by decide +kernel
theorem c358_11 : fx_op 358 11 = some (.ifCond .eq 11, 14, 22) := by decide +kernel
theorem c358_14 : fx_op 358 14 = some (.aload_n 0, 15, 14) := by decide +kernel
theorem c358_15 : fx_gf 358 15 = some (12, 102, 18) := by decide +kernel
theorem c358_18 : fx_op 358 18 = some (.iload_n 1, 19, 18) := by decide +kernel
theorem c358_19 : fx_op 358 19 = some (.if_icmp .ge 13, 22, 32) := by decide +kernel
theorem c358_32 : fx_op 358 32 = some (.iload_n 1, 33, 32) := by decide +kernel
theorem c358_33 : fx_op 358 33 = some (.istore_n 2, 34, 33) := by decide +kernel
theorem c358_25 : fx_ca 358 25 = some (221, 1, 0, 28) := by decide +kernel
theorem c358_34 : fx_op 358 34 = some (.iload_n 2, 35, 34) := by decide +kernel
theorem c358_35 : fx_op 358 35 = some (.aload_n 0, 36, 35) := by decide +kernel
theorem c358_36 : fx_gf 358 36 = some (12, 102, 39) := by decide +kernel
theorem c358_39 : fx_op 358 39 = some (.if_icmp .ge 29, 42, 68) := by decide +kernel
theorem c358_42 : fx_op 358 42 = some (.aload_n 0, 43, 42) := by decide +kernel
theorem c358_43 : fx_gf 358 43 = some (12, 97, 46) := by decide +kernel
theorem c358_46 : fx_op 358 46 = some (.aload_n 0, 47, 46) := by decide +kernel
theorem c358_47 : fx_op 358 47 = some (.iload_n 2, 48, 47) := by decide +kernel
theorem c358_68 : fx_op 358 68 = some (.aload_n 0, 69, 68) := by decide +kernel
theorem c358_69 : fx_ci 358 69 = some (0, 70) := by decide +kernel
theorem c358_70 : fx_pf 358 70 = some (12, 96, 2, 73) := by decide +kernel
theorem c358_73 : fx_op 358 73 = some (.aload_n 0, 74, 73) := by decide +kernel
theorem c358_74 : fx_ca 358 74 = some (261, 1, 2, 77) := by decide +kernel
theorem c358_48 : fx_ca 358 48 = some (359, 2, 2, 51) := by decide +kernel
theorem c358_28 : fx_ca 358 28 = some (260, 2, 2, 31) := by decide +kernel
theorem c358_77 : fx_op 358 77 = some (.return_, 78, 77) := by decide +kernel
theorem c358_51 : fx_op 358 51 = some (.aload_n 0, 52, 51) := by decide +kernel
theorem c358_52 : fx_gf 358 52 = some (12, 98, 55) := by decide +kernel
theorem c358_55 : fx_op 358 55 = some (.aload_n 0, 56, 55) := by decide +kernel
theorem c358_56 : fx_op 358 56 = some (.iload_n 2, 57, 56) := by decide +kernel
theorem c358_57 : fx_ca 358 57 = some (359, 2, 2, 60) := by decide +kernel
theorem c358_31 : fx_op 358 31 = some (.return_, 32, 31) := by decide +kernel
theorem c358_62 : fx_op 358 62 = some (.iinc 2 1, 65, 62) := by decide +kernel
theorem c358_60 : fx_op 358 60 = some (.iaload, 61, 60) := by decide +kernel
theorem c358_61 : fx_op 358 61 = some (.iastore, 62, 61) := by decide +kernel
theorem c358_65 : fx_op 358 65 = some (.goto (-31), 68, 34) := by decide +kernel
theorem s358_0 {kc : List va_E} {d : Nat} {x1 : Int} {M : fx_M} {Q : Option fx_V → fx_M → Prop} (H : ((fx_in32 (M 133 96))) ∧ (M 133 96 = 0 → wc kc d 221 [jI 41] M (fun v M1 => wp kc (d + 1) 358 28 [none, none, none] (v.toList ++ [jR 133]) M1 Q)) ∧ (M 133 96 ≠ 0 → ((fx_in32 (M 133 102))) ∧ (M 133 102 = 0 → wc kc d 221 [jI 41] M (fun v M1 => wp kc (d + 1) 358 28 [none, none, none] (v.toList ++ [jR 133]) M1 Q)) ∧ (M 133 102 ≠ 0 → ((fx_in32 (M 133 102)) ∧ (fx_in32 x1)) ∧ (x1 ≤ M 133 102 → wp kc (d + 1) 358 34 [some (jR 133), none, some (jI x1)] [] M Q) ∧ (M 133 102 < x1 → wc kc d 221 [jI 41] M (fun v M1 => wp kc (d + 1) 358 28 [none, none, none] (v.toList ++ [jR 133]) M1 Q))))) : wp kc (d + 1) 358 0 [some (jR 133), some (jI x1), none] [] M Q :=
  (x_aldn c358_0 rfl (x_gfi c358_1 k_133_96 (x_zeq c358_4 H.1 (fun h5 => (x_aldn c358_22 rfl (x_ci c358_23 (wp_wk (l' := [none, none, none]) trivial (x_cs (As := [jI 41]) (st := [jR 133]) c358_25 (by decide) rfl (Nat.le_of_ble_eq_true rfl) mx221 (Nat.le_refl _) (H.2.1 h5)))))) (fun h6 => (x_aldn c358_7 rfl (x_gfi c358_8 k_133_102 (x_zeq c358_11 (H.2.2 h6).1 (fun h3 => (x_aldn c358_22 rfl (x_ci c358_23 (wp_wk (l' := [none, none, none]) trivial (x_cs (As := [jI 41]) (st := [jR 133]) c358_25 (by decide) rfl (Nat.le_of_ble_eq_true rfl) mx221 (Nat.le_refl _) ((H.2.2 h6).2.1 h3)))))) (fun h4 => (x_aldn c358_14 rfl (x_gfi c358_15 k_133_102 (x_ildn c358_18 rfl (x_cge c358_19 ((H.2.2 h6).2.2 h4).1.1 ((H.2.2 h6).2.2 h4).1.2 (fun h1 => (x_ildn c358_32 rfl (x_istn (l' := [some (jR 133), some (jI x1), some (jI x1)]) c358_33 rfl (wp_wk (l' := [some (jR 133), none, some (jI x1)]) ⟨rfl, ⟨rfl, trivial⟩⟩ (((H.2.2 h6).2.2 h4).2.1 h1))))) (fun h2 => (x_aldn c358_22 rfl (x_ci c358_23 (wp_wk (l' := [none, none, none]) trivial (x_cs (As := [jI 41]) (st := [jR 133]) c358_25 (by decide) rfl (Nat.le_of_ble_eq_true rfl) mx221 (Nat.le_refl _) (((H.2.2 h6).2.2 h4).2.2 h2))))))))))))))))))
theorem s358_28 {kc : List va_E} {d : Nat} {u0 : Int} {M : fx_M} {Q : Option fx_V → fx_M → Prop} (H : wc kc d 260 [jR 133, jL u0] M (fun v M1 => wp kc (d + 1) 358 31 [none, none, none] (v.toList ++ []) M1 Q)) : wp kc (d + 1) 358 28 [none, none, none] [jL u0, jR 133] M Q :=
  (wp_wk (l' := [none, none, none]) trivial (x_cv (As := [jL u0]) (st := []) c358_28 cl_133 kl260 rfl (Nat.le_of_ble_eq_true rfl) mx260 (Nat.le_refl _) H))
theorem s358_31 {kc : List va_E} {d : Nat} {M : fx_M} {Q : Option fx_V → fx_M → Prop} (H : Q none M) : wp kc (d + 1) 358 31 [none, none, none] [] M Q :=
  (x_vr c358_31 r358 H)
theorem s358_34 {kc : List va_E} {d : Nat} {v2 : Int} {M : fx_M} {Q : Option fx_V → fx_M → Prop} (H : ((fx_in32 v2) ∧ (fx_in32 (M 133 102))) ∧ (M 133 102 ≤ v2 → wc kc d 261 [jR 133] (fx_up M 133 96 0) (fun v M1 => wp kc (d + 1) 358 77 [none, none, none] (v.toList ++ []) M1 Q)) ∧ (v2 < M 133 102 → wc kc d 359 [jR 133, jI v2] M (fun v M1 => wp kc (d + 1) 358 51 [some (jR 133), none, some (jI v2)] (v.toList ++ [jR 188]) M1 Q))) : wp kc (d + 1) 358 34 [some (jR 133), none, some (jI v2)] [] M Q :=
  (x_ildn c358_34 rfl (x_aldn c358_35 rfl (x_gfi c358_36 k_133_102 (x_cge c358_39 H.1.1 H.1.2 (fun h1 => (x_aldn c358_68 rfl (x_ci c358_69 (x_pfz c358_70 k_133_96 (by decide) (x_aldn c358_73 rfl (wp_wk (l' := [none, none, none]) trivial (x_cv (As := []) (st := []) c358_74 cl_133 kl261 rfl (Nat.le_of_ble_eq_true rfl) mx261 (Nat.le_refl _) (H.2.1 h1)))))))) (fun h2 => (x_aldn c358_42 rfl (x_gfr c358_43 k_133_97 (x_aldn c358_46 rfl (x_ildn c358_47 rfl (wp_wk (l' := [some (jR 133), none, some (jI v2)]) ⟨rfl, ⟨rfl, trivial⟩⟩ (x_cv (As := [jI v2]) (st := [jR 188]) c358_48 cl_133 kl359 rfl (Nat.le_of_ble_eq_true rfl) mx359 (Nat.le_refl _) (H.2.2 h2))))))))))))
theorem s358_51 {kc : List va_E} {d : Nat} {v2 u0 : Int} {M : fx_M} {Q : Option fx_V → fx_M → Prop} (H : wc kc d 359 [jR 133, jI v2] M (fun v M1 => wp kc (d + 1) 358 60 [some (jR 133), none, some (jI v2)] (v.toList ++ [jR 189, jI u0, jR 188]) M1 Q)) : wp kc (d + 1) 358 51 [some (jR 133), none, some (jI v2)] [jI u0, jR 188] M Q :=
  (x_aldn c358_51 rfl (x_gfr c358_52 k_133_98 (x_aldn c358_55 rfl (x_ildn c358_56 rfl (wp_wk (l' := [some (jR 133), none, some (jI v2)]) ⟨rfl, ⟨rfl, trivial⟩⟩ (x_cv (As := [jI v2]) (st := [jR 189, jI u0, jR 188]) c358_57 cl_133 kl359 rfl (Nat.le_of_ble_eq_true rfl) mx359 (Nat.le_refl _) H))))))
theorem s358_60 {kc : List va_E} {d : Nat} {v2 u0 u2 : Int} {M : fx_M} {Q : Option fx_V → fx_M → Prop} (H : (((0 : Int) ≤ u0 ∧ u0 < 1024)) ∧ (((0 : Int) ≤ u2 ∧ u2 < 1024)) ∧ wp kc (d + 1) 358 34 [some (jR 133), none, some (jI (v2 + 1))] [] (fx_up M 188 u2 (M 189 u0)) Q) : wp kc (d + 1) 358 60 [some (jR 133), none, some (jI v2)] [jI u0, jR 189, jI u2, jR 188] M Q :=
  (x_iald c358_60 a_189 H.1 (by decide) (x_iast c358_61 a_188 H.2.1 (by decide) (x_inc (l' := [some (jR 133), none, some (jI (v2 + 1))]) c358_62 rfl rfl (x_goto c358_65 (wp_wk (l' := [some (jR 133), none, some (jI (v2 + 1))]) ⟨rfl, ⟨rfl, trivial⟩⟩ H.2.2)))))
theorem s358_77 {kc : List va_E} {d : Nat} {M : fx_M} {Q : Option fx_V → fx_M → Prop} (H : Q none M) : wp kc (d + 1) 358 77 [none, none, none] [] M Q :=
  (x_vr c358_77 r358 H)
theorem s358 {kc : List va_E} {d : Nat} {x1 : Int} {M : fx_M} {Q : Option fx_V → fx_M → Prop} (H : ((fx_in32 (M 133 96))) ∧ (M 133 96 = 0 → wc kc d 221 [jI 41] M (fun v M1 => wp kc (d + 1) 358 28 [none, none, none] (v.toList ++ [jR 133]) M1 Q)) ∧ (M 133 96 ≠ 0 → ((fx_in32 (M 133 102))) ∧ (M 133 102 = 0 → wc kc d 221 [jI 41] M (fun v M1 => wp kc (d + 1) 358 28 [none, none, none] (v.toList ++ [jR 133]) M1 Q)) ∧ (M 133 102 ≠ 0 → ((fx_in32 (M 133 102)) ∧ (fx_in32 x1)) ∧ (x1 ≤ M 133 102 → wp kc (d + 1) 358 34 [some (jR 133), none, some (jI x1)] [] M Q) ∧ (M 133 102 < x1 → wc kc d 221 [jI 41] M (fun v M1 => wp kc (d + 1) 358 28 [none, none, none] (v.toList ++ [jR 133]) M1 Q))))) : wc kc (d + 1) 358 [jR 133, jI x1] M Q :=
  wc_of (wp_wk (l' := [some (jR 133), some (jI x1), none]) ⟨rfl, ⟨rfl, trivial⟩⟩ (s358_0 H))

/- PuzzleHouseModel.written(I)I -/
theorem c359_0 : fx_op 359 0 = some (.iload_n 1, 1, 0) := by decide +kernel
theorem c359_1 : fx_ci 359 1 = some (32, 3) := by decide +kernel
theorem c359_3 : fx_op 359 3 = some (.aload_n 0, 4, 3) := by decide +kernel
theorem c359_4 : fx_gf 359 4 = some (12, 100, 7) := by decide +kernel
theorem c359_7 : fx_op 359 7 = some (.imul, 8, 7) := by decide +kernel
theorem c359_8 : fx_op 359 8 = some (.if_icmp .ge 13, 11, 21) := by decide +kernel
theorem c359_21 : fx_op 359 21 = some (.iload_n 1, 22, 21) := by decide +kernel
theorem c359_22 : fx_ci 359 22 = some (32, 24) := by decide +kernel
theorem c359_24 : fx_op 359 24 = some (.aload_n 0, 25, 24) := by decide +kernel
theorem c359_25 : fx_gf 359 25 = some (12, 100, 28) := by decide +kernel
theorem c359_28 : fx_op 359 28 = some (.imul, 29, 28) := by decide +kernel
theorem c359_29 : fx_op 359 29 = some (.isub, 30, 29) := by decide +kernel
theorem c359_30 : fx_op 359 30 = some (.istore_n 2, 31, 30) := by decide +kernel
theorem c359_31 : fx_op 359 31 = some (.iload_n 2, 32, 31) := by decide +kernel
theorem c359_32 : fx_ci 359 32 = some (32, 34) := by decide +kernel
theorem c359_34 : fx_op 359 34 = some (.if_icmp .ge 15, 37, 49) := by decide +kernel
theorem c359_49 : fx_ci 359 49 = some (0, 50) := by decide +kernel
theorem c359_37 : fx_ci 359 37 = some (32, 39) := by decide +kernel
theorem c359_39 : fx_op 359 39 = some (.aload_n 0, 40, 39) := by decide +kernel
theorem c359_40 : fx_gf 359 40 = some (12, 101, 43) := by decide +kernel
theorem c359_43 : fx_op 359 43 = some (.imul, 44, 43) := by decide +kernel
theorem c359_44 : fx_op 359 44 = some (.iload_n 2, 45, 44) := by decide +kernel
theorem c359_45 : fx_op 359 45 = some (.iadd, 46, 45) := by decide +kernel
theorem c359_46 : fx_op 359 46 = some (.goto 4, 49, 50) := by decide +kernel
theorem c359_11 : fx_ci 359 11 = some (32, 13) := by decide +kernel
theorem c359_13 : fx_op 359 13 = some (.aload_n 0, 14, 13) := by decide +kernel
theorem c359_14 : fx_gf 359 14 = some (12, 99, 17) := by decide +kernel
theorem c359_17 : fx_op 359 17 = some (.imul, 18, 17) := by decide +kernel
theorem c359_18 : fx_op 359 18 = some (.iload_n 1, 19, 18) := by decide +kernel
theorem c359_19 : fx_op 359 19 = some (.iadd, 20, 19) := by decide +kernel
theorem c359_50 : fx_op 359 50 = some (.ireturn, 51, 50) := by decide +kernel
theorem c359_20 : fx_op 359 20 = some (.ireturn, 21, 20) := by decide +kernel
theorem s359_0 {kc : List va_E} {d : Nat} {x1 : Int} {M : fx_M} {Q : Option fx_V → fx_M → Prop} (H : ((fx_in32 x1) ∧ (fx_in32 (32 * (M 133 100)))) ∧ (32 * (M 133 100) ≤ x1 → ((fx_in32 (x1 - (32 * (M 133 100))))) ∧ Q (some (jI (if x1 - (32 * (M 133 100)) < 32 then ((32 * (M 133 101)) + (x1 - (32 * (M 133 100))) : Int) else 0))) M) ∧ (x1 < 32 * (M 133 100) → Q (some (jI ((32 * (M 133 99)) + x1))) M)) : wp kc (d + 1) 359 0 [some (jR 133), some (jI x1), none] [] M Q :=
  (x_ildn c359_0 rfl (x_ci c359_1 (x_aldn c359_3 rfl (x_gfi c359_4 k_133_100 (x_imul c359_7 (x_cge c359_8 H.1.1 H.1.2 (fun h1 => (x_ildn c359_21 rfl (x_ci c359_22 (x_aldn c359_24 rfl (x_gfi c359_25 k_133_100 (x_imul c359_28 (x_isub c359_29 (x_istn (l' := [some (jR 133), some (jI x1), some (jI (x1 - (32 * (M 133 100))))]) c359_30 rfl (x_ildn c359_31 rfl (x_ci c359_32 (have K : wp kc (d + 1) 359 50 [none, none, none] [jI (if x1 - (32 * (M 133 100)) < 32 then ((32 * (M 133 101)) + (x1 - (32 * (M 133 100))) : Int) else 0)] M Q := (x_irt c359_50 r359 (H.2.1 h1).2); (x_cge c359_34 (H.2.1 h1).1 (by decide) (fun (h3 : 32 ≤ x1 - (32 * (M 133 100))) => (x_ci c359_49 (wp_wk (l' := [none, none, none]) trivial (by have K := K; first | (simp only [if_neg (Int.not_lt.mpr h3)] at K ⊢; exact K) | (exfalso; omega))))) (fun (h4 : x1 - (32 * (M 133 100)) < 32) => (x_ci c359_37 (x_aldn c359_39 rfl (x_gfi c359_40 k_133_101 (x_imul c359_43 (x_ildn c359_44 rfl (x_iadd c359_45 (x_goto c359_46 (wp_wk (l' := [none, none, none]) trivial (by have K := K; first | (simp only [if_pos h4] at K ⊢; exact K) | (exfalso; omega))))))))))))))))))))))) (fun h2 => (x_ci c359_11 (x_aldn c359_13 rfl (x_gfi c359_14 k_133_99 (x_imul c359_17 (x_ildn c359_18 rfl (x_iadd c359_19 (x_irt c359_20 r359 (H.2.2 h2)))))))))))))))
theorem s359 {kc : List va_E} {d : Nat} {x1 : Int} {M : fx_M} {Q : Option fx_V → fx_M → Prop} (H : ((fx_in32 x1) ∧ (fx_in32 (32 * (M 133 100)))) ∧ (32 * (M 133 100) ≤ x1 → ((fx_in32 (x1 - (32 * (M 133 100))))) ∧ Q (some (jI (if x1 - (32 * (M 133 100)) < 32 then ((32 * (M 133 101)) + (x1 - (32 * (M 133 100))) : Int) else 0))) M) ∧ (x1 < 32 * (M 133 100) → Q (some (jI ((32 * (M 133 99)) + x1))) M)) : wc kc (d + 1) 359 [jR 133, jI x1] M Q :=
  wc_of (wp_wk (l' := [some (jR 133), some (jI x1), none]) ⟨rfl, ⟨rfl, trivial⟩⟩ (s359_0 H))

/- PuzzleHouseModel.sayMend()V -/
theorem c360_0 : fx_op 360 0 = some (.aload_n 0, 1, 0) := by decide +kernel
theorem c360_1 : fx_op 360 1 = some (.aload_n 0, 2, 1) := by decide +kernel
theorem c360_2 : fx_ca 360 2 = some (361, 1, 2, 5) := by decide +kernel
theorem c360_8 : fx_op 360 8 = some (.aload_n 0, 9, 8) := by decide +kernel
theorem c360_9 : fx_ci 360 9 = some (0, 10) := by decide +kernel
theorem c360_10 : fx_pf 360 10 = some (12, 102, 0, 13) := by decide +kernel
theorem c360_13 : fx_op 360 13 = some (.aload_n 0, 14, 13) := by decide +kernel
theorem c360_14 : fx_gf 360 14 = some (12, 96, 17) := by decide +kernel
theorem c360_17 : fx_op 360 17 = some (.ifCond .eq 10, 20, 27) := by decide +kernel
theorem c360_27 : fx_op 360 27 = some (.aload_n 0, 28, 27) := by decide +kernel
theorem c360_28 : fx_cj 360 28 = some (1953460846, 31) := by decide +kernel
theorem c360_20 : fx_op 360 20 = some (.aload_n 0, 21, 20) := by decide +kernel
theorem c360_5 : fx_pf 360 5 = some (12, 96, 2, 8) := by decide +kernel
theorem c360_31 : fx_ca 360 31 = some (253, 2, 2, 34) := by decide +kernel
theorem c360_21 : fx_ca 360 21 = some (261, 1, 2, 24) := by decide +kernel
theorem c360_34 : fx_op 360 34 = some (.return_, 35, 34) := by decide +kernel
theorem c360_24 : fx_op 360 24 = some (.goto 10, 27, 34) := by decide +kernel
theorem s360_0 {kc : List va_E} {d : Nat} {M : fx_M} {Q : Option fx_V → fx_M → Prop} (H : wc kc d 361 [jR 133] M (fun v M1 => wp kc (d + 1) 360 5 [some (jR 133)] (v.toList ++ [jR 133]) M1 Q)) : wp kc (d + 1) 360 0 [some (jR 133)] [] M Q :=
  (x_aldn c360_0 rfl (x_aldn c360_1 rfl (wp_wk (l' := [some (jR 133)]) ⟨rfl, trivial⟩ (x_cv (As := []) (st := [jR 133]) c360_2 cl_133 kl361 rfl (Nat.le_of_ble_eq_true rfl) mx361 (Nat.le_refl _) H))))
theorem s360_5 {kc : List va_E} {d : Nat} {u0 : Int} {M : fx_M} {Q : Option fx_V → fx_M → Prop} (H : (((0 : Int) ≤ u0 ∧ u0 ≤ 1)) ∧ ((fx_in32 u0)) ∧ (u0 = 0 → wc kc d 253 [jR 133, jL 1953460846] (fx_up (fx_up M 133 96 u0) 133 102 0) (fun v M1 => wp kc (d + 1) 360 34 [none] (v.toList ++ []) M1 Q)) ∧ (u0 ≠ 0 → wc kc d 261 [jR 133] (fx_up (fx_up M 133 96 u0) 133 102 0) (fun v M1 => wp kc (d + 1) 360 24 [none] (v.toList ++ []) M1 Q))) : wp kc (d + 1) 360 5 [some (jR 133)] [jI u0, jR 133] M Q :=
  (x_pfz c360_5 k_133_96 H.1 (x_aldn c360_8 rfl (x_ci c360_9 (x_pfi c360_10 k_133_102 (x_aldn c360_13 rfl (x_gfi c360_14 k_133_96 (wp_vI (((fx_upK (by decide)).trans (fx_upS))) (x_zeq c360_17 H.2.1 (fun h1 => (x_aldn c360_27 rfl (x_cj c360_28 (wp_wk (l' := [none]) trivial (x_cv (As := [jL 1953460846]) (st := []) c360_31 cl_133 kl253 rfl (Nat.le_of_ble_eq_true rfl) mx253 (Nat.le_refl _) (H.2.2.1 h1)))))) (fun h2 => (x_aldn c360_20 rfl (wp_wk (l' := [none]) trivial (x_cv (As := []) (st := []) c360_21 cl_133 kl261 rfl (Nat.le_of_ble_eq_true rfl) mx261 (Nat.le_refl _) (H.2.2.2 h2)))))))))))))
theorem s360_24 {kc : List va_E} {d : Nat} {M : fx_M} {Q : Option fx_V → fx_M → Prop} (H : Q none M) : wp kc (d + 1) 360 24 [none] [] M Q :=
  (x_goto c360_24 (x_vr c360_34 r360 H))
theorem s360_34 {kc : List va_E} {d : Nat} {M : fx_M} {Q : Option fx_V → fx_M → Prop} (H : Q none M) : wp kc (d + 1) 360 34 [none] [] M Q :=
  (x_vr c360_34 r360 H)
theorem s360 {kc : List va_E} {d : Nat} {M : fx_M} {Q : Option fx_V → fx_M → Prop} (H : wc kc d 361 [jR 133] M (fun v M1 => wp kc (d + 1) 360 5 [some (jR 133)] (v.toList ++ [jR 133]) M1 Q)) : wc kc (d + 1) 360 [jR 133] M Q :=
  wc_of (wp_wk (l' := [some (jR 133)]) ⟨rfl, trivial⟩ (s360_0 H))

/- PuzzleHouseModel.isBookRight()Z -/
theorem c361_0 : fx_op 361 0 = some (.aload_n 0, 1, 0) := by decide +kernel
theorem c361_1 : fx_gf 361 1 = some (12, 97, 4) := by decide +kernel
theorem c361_4 : fx_ci 361 4 = some (0, 5) := by decide +kernel
theorem c361_5 : fx_op 361 5 = some (.iaload, 6, 5) := by decide +kernel
theorem c361_6 : fx_ci 361 6 = some (1, 7) := by decide +kernel
theorem c361_7 : fx_op 361 7 = some (.if_icmp .eq 13, 10, 20) := by decide +kernel
theorem c361_20 : fx_op 361 20 = some (.aload_n 0, 21, 20) := by decide +kernel
theorem c361_21 : fx_gf 361 21 = some (12, 97, 24) := by decide +kernel
theorem c361_24 : fx_ci 361 24 = some (32, 26) := by decide +kernel
theorem c361_26 : fx_op 361 26 = some (.aload_n 0, 27, 26) := by decide +kernel
theorem c361_27 : fx_gf 361 27 = some (12, 97, 30) := by decide +kernel
theorem c361_30 : fx_ci 361 30 = some (0, 31) := by decide +kernel
theorem c361_31 : fx_op 361 31 = some (.iaload, 32, 31) := by decide +kernel
theorem c361_32 : fx_op 361 32 = some (.imul, 33, 32) := by decide +kernel
theorem c361_33 : fx_ci 361 33 = some (32, 35) := by decide +kernel
theorem c361_35 : fx_op 361 35 = some (.iadd, 36, 35) := by decide +kernel
theorem c361_36 : fx_ci 361 36 = some (1, 37) := by decide +kernel
theorem c361_37 : fx_op 361 37 = some (.isub, 38, 37) := by decide +kernel
theorem c361_39 : fx_op 361 39 = some (.aload_n 0, 40, 39) := by decide +kernel
theorem c361_40 : fx_op 361 40 = some (.aload_n 0, 41, 40) := by decide +kernel
theorem c361_41 : fx_gf 361 41 = some (12, 97, 44) := by decide +kernel
theorem c361_44 : fx_ci 361 44 = some (0, 45) := by decide +kernel
theorem c361_45 : fx_op 361 45 = some (.iaload, 46, 45) := by decide +kernel
theorem c361_10 : fx_op 361 10 = some (.aload_n 0, 11, 10) := by decide +kernel
theorem c361_11 : fx_gf 361 11 = some (12, 97, 14) := by decide +kernel
theorem c361_14 : fx_ci 361 14 = some (0, 15) := by decide +kernel
theorem c361_15 : fx_op 361 15 = some (.iaload, 16, 15) := by decide +kernel
theorem c361_16 : fx_ci 361 16 = some (2, 17) := by decide +kernel
theorem c361_17 : fx_op 361 17 = some (.if_icmp .ne 44, 20, 61) := by decide +kernel
theorem c361_61 : fx_ci 361 61 = some (0, 62) := by decide +kernel
theorem c361_38 : fx_op 361 38 = some (.iaload, 39, 38) := by decide +kernel
theorem c361_46 : fx_ca 361 46 = some (362, 2, 2, 49) := by decide +kernel
theorem c361_62 : fx_op 361 62 = some (.ireturn, 63, 62) := by decide +kernel
theorem c361_49 : fx_op 361 49 = some (.if_icmp .ne 12, 52, 61) := by decide +kernel
theorem c361_52 : fx_op 361 52 = some (.aload_n 0, 53, 52) := by decide +kernel
theorem c361_53 : fx_ca 361 53 = some (341, 1, 2, 56) := by decide +kernel
theorem c361_56 : fx_ci 361 56 = some (15, 58) := by decide +kernel
theorem c361_58 : fx_op 361 58 = some (.if_icmp .le 5, 61, 63) := by decide +kernel
theorem c361_63 : fx_ci 361 63 = some (0, 64) := by decide +kernel
theorem c361_64 : fx_op 361 64 = some (.istore_n 1, 65, 64) := by decide +kernel
theorem c361_65 : fx_op 361 65 = some (.iload_n 1, 66, 65) := by decide +kernel
theorem c361_66 : fx_op 361 66 = some (.aload_n 0, 67, 66) := by decide +kernel
theorem c361_67 : fx_ca 361 67 = some (341, 1, 2, 70) := by decide +kernel
theorem c361_70 : fx_op 361 70 = some (.if_icmp .ge 19, 73, 89) := by decide +kernel
theorem c361_89 : fx_ci 361 89 = some (1, 90) := by decide +kernel
theorem c361_73 : fx_op 361 73 = some (.aload_n 0, 74, 73) := by decide +kernel
theorem c361_74 : fx_op 361 74 = some (.iload_n 1, 75, 74) := by decide +kernel
theorem c361_90 : fx_op 361 90 = some (.ireturn, 91, 90) := by decide +kernel
theorem c361_75 : fx_ca 361 75 = some (363, 2, 2, 78) := by decide +kernel
theorem c361_78 : fx_op 361 78 = some (.ifCond .ne 5, 81, 83) := by decide +kernel
theorem c361_83 : fx_op 361 83 = some (.iinc 1 1, 86, 83) := by decide +kernel
theorem c361_81 : fx_ci 361 81 = some (0, 82) := by decide +kernel
theorem c361_86 : fx_op 361 86 = some (.goto (-21), 89, 65) := by decide +kernel
theorem c361_82 : fx_op 361 82 = some (.ireturn, 83, 82) := by decide +kernel
theorem s361_0 {kc : List va_E} {d : Nat} {M : fx_M} {Q : Option fx_V → fx_M → Prop} (H : ((fx_in32 (M 188 0))) ∧ (M 188 0 = 1 → (((0 : Int) ≤ ((32 * (M 188 0)) + 32) - 1 ∧ ((32 * (M 188 0)) + 32) - 1 < 1024)) ∧ wc kc d 362 [jR 133, jI (M 188 0)] M (fun v M1 => wp kc (d + 1) 361 49 [some (jR 133), none] (v.toList ++ [jI (M 188 (((32 * (M 188 0)) + 32) - 1))]) M1 Q)) ∧ (M 188 0 ≠ 1 → ((fx_in32 (M 188 0))) ∧ (M 188 0 ≠ 2 → Q (some (jI 0)) M) ∧ (M 188 0 = 2 → (((0 : Int) ≤ ((32 * (M 188 0)) + 32) - 1 ∧ ((32 * (M 188 0)) + 32) - 1 < 1024)) ∧ wc kc d 362 [jR 133, jI (M 188 0)] M (fun v M1 => wp kc (d + 1) 361 49 [some (jR 133), none] (v.toList ++ [jI (M 188 (((32 * (M 188 0)) + 32) - 1))]) M1 Q)))) : wp kc (d + 1) 361 0 [some (jR 133), none] [] M Q :=
  (x_aldn c361_0 rfl (x_gfr c361_1 k_133_97 (x_ci c361_4 (x_iald c361_5 a_188 (by decide) (by decide) (x_ci c361_6 (x_ceq c361_7 H.1 (by decide) (fun h3 => (x_aldn c361_20 rfl (x_gfr c361_21 k_133_97 (x_ci c361_24 (x_aldn c361_26 rfl (x_gfr c361_27 k_133_97 (x_ci c361_30 (x_iald c361_31 a_188 (by decide) (by decide) (x_imul c361_32 (x_ci c361_33 (x_iadd c361_35 (x_ci c361_36 (x_isub c361_37 (x_iald c361_38 a_188 (H.2.1 h3).1 (by decide) (x_aldn c361_39 rfl (x_aldn c361_40 rfl (x_gfr c361_41 k_133_97 (x_ci c361_44 (x_iald c361_45 a_188 (by decide) (by decide) (wp_wk (l' := [some (jR 133), none]) ⟨rfl, trivial⟩ (x_cv (As := [jI (M 188 0)]) (st := [jI (M 188 (((32 * (M 188 0)) + 32) - 1))]) c361_46 cl_133 kl362 rfl (Nat.le_of_ble_eq_true rfl) mx362 (Nat.le_refl _) (H.2.1 h3).2))))))))))))))))))))) (fun h4 => (x_aldn c361_10 rfl (x_gfr c361_11 k_133_97 (x_ci c361_14 (x_iald c361_15 a_188 (by decide) (by decide) (x_ci c361_16 (x_cne c361_17 (H.2.2 h4).1 (by decide) (fun h1 => (x_ci c361_61 (x_zrt c361_62 r361 (by decide) ((H.2.2 h4).2.1 h1)))) (fun h2 => (x_aldn c361_20 rfl (x_gfr c361_21 k_133_97 (x_ci c361_24 (x_aldn c361_26 rfl (x_gfr c361_27 k_133_97 (x_ci c361_30 (x_iald c361_31 a_188 (by decide) (by decide) (x_imul c361_32 (x_ci c361_33 (x_iadd c361_35 (x_ci c361_36 (x_isub c361_37 (x_iald c361_38 a_188 ((H.2.2 h4).2.2 h2).1 (by decide) (x_aldn c361_39 rfl (x_aldn c361_40 rfl (x_gfr c361_41 k_133_97 (x_ci c361_44 (x_iald c361_45 a_188 (by decide) (by decide) (wp_wk (l' := [some (jR 133), none]) ⟨rfl, trivial⟩ (x_cv (As := [jI (M 188 0)]) (st := [jI (M 188 (((32 * (M 188 0)) + 32) - 1))]) c361_46 cl_133 kl362 rfl (Nat.le_of_ble_eq_true rfl) mx362 (Nat.le_refl _) ((H.2.2 h4).2.2 h2).2))))))))))))))))))))))))))))))))))
theorem s361_49 {kc : List va_E} {d : Nat} {u0 u1 : Int} {M : fx_M} {Q : Option fx_V → fx_M → Prop} (H : ((fx_in32 u1) ∧ (fx_in32 u0)) ∧ (u1 ≠ u0 → Q (some (jI 0)) M) ∧ (u1 = u0 → wc kc d 341 [jR 133] M (fun v M1 => wp kc (d + 1) 361 56 [some (jR 133), none] (v.toList ++ []) M1 Q))) : wp kc (d + 1) 361 49 [some (jR 133), none] [jI u0, jI u1] M Q :=
  (x_cne c361_49 H.1.1 H.1.2 (fun h1 => (x_ci c361_61 (x_zrt c361_62 r361 (by decide) (H.2.1 h1)))) (fun h2 => (x_aldn c361_52 rfl (wp_wk (l' := [some (jR 133), none]) ⟨rfl, trivial⟩ (x_cv (As := []) (st := []) c361_53 cl_133 kl341 rfl (Nat.le_of_ble_eq_true rfl) mx341 (Nat.le_refl _) (H.2.2 h2))))))
theorem s361_56 {kc : List va_E} {d : Nat} {u0 : Int} {M : fx_M} {Q : Option fx_V → fx_M → Prop} (H : ((fx_in32 u0)) ∧ (u0 ≤ 15 → wp kc (d + 1) 361 65 [some (jR 133), some (jI 0)] [] M Q) ∧ (15 < u0 → Q (some (jI 0)) M)) : wp kc (d + 1) 361 56 [some (jR 133), none] [jI u0] M Q :=
  (x_ci c361_56 (x_cle c361_58 H.1 (by decide) (fun h1 => (x_ci c361_63 (x_istn (l' := [some (jR 133), some (jI 0)]) c361_64 rfl (wp_wk (l' := [some (jR 133), some (jI 0)]) ⟨rfl, ⟨rfl, trivial⟩⟩ (H.2.1 h1))))) (fun h2 => (x_ci c361_61 (x_zrt c361_62 r361 (by decide) (H.2.2 h2))))))
theorem s361_65 {kc : List va_E} {d : Nat} {v1 : Int} {M : fx_M} {Q : Option fx_V → fx_M → Prop} (H : wc kc d 341 [jR 133] M (fun v M1 => wp kc (d + 1) 361 70 [some (jR 133), some (jI v1)] (v.toList ++ [jI v1]) M1 Q)) : wp kc (d + 1) 361 65 [some (jR 133), some (jI v1)] [] M Q :=
  (x_ildn c361_65 rfl (x_aldn c361_66 rfl (wp_wk (l' := [some (jR 133), some (jI v1)]) ⟨rfl, ⟨rfl, trivial⟩⟩ (x_cv (As := []) (st := [jI v1]) c361_67 cl_133 kl341 rfl (Nat.le_of_ble_eq_true rfl) mx341 (Nat.le_refl _) H))))
theorem s361_70 {kc : List va_E} {d : Nat} {v1 u0 u1 : Int} {M : fx_M} {Q : Option fx_V → fx_M → Prop} (H : ((fx_in32 u1) ∧ (fx_in32 u0)) ∧ (u0 ≤ u1 → Q (some (jI 1)) M) ∧ (u1 < u0 → wc kc d 363 [jR 133, jI v1] M (fun v M1 => wp kc (d + 1) 361 78 [some (jR 133), some (jI v1)] (v.toList ++ []) M1 Q))) : wp kc (d + 1) 361 70 [some (jR 133), some (jI v1)] [jI u0, jI u1] M Q :=
  (x_cge c361_70 H.1.1 H.1.2 (fun h1 => (x_ci c361_89 (x_zrt c361_90 r361 (by decide) (H.2.1 h1)))) (fun h2 => (x_aldn c361_73 rfl (x_ildn c361_74 rfl (wp_wk (l' := [some (jR 133), some (jI v1)]) ⟨rfl, ⟨rfl, trivial⟩⟩ (x_cv (As := [jI v1]) (st := []) c361_75 cl_133 kl363 rfl (Nat.le_of_ble_eq_true rfl) mx363 (Nat.le_refl _) (H.2.2 h2)))))))
theorem s361_78 {kc : List va_E} {d : Nat} {v1 u0 : Int} {M : fx_M} {Q : Option fx_V → fx_M → Prop} (H : ((fx_in32 u0)) ∧ (u0 ≠ 0 → wp kc (d + 1) 361 65 [some (jR 133), some (jI (v1 + 1))] [] M Q) ∧ (u0 = 0 → Q (some (jI 0)) M)) : wp kc (d + 1) 361 78 [some (jR 133), some (jI v1)] [jI u0] M Q :=
  (x_zne c361_78 H.1 (fun h1 => (x_inc (l' := [some (jR 133), some (jI (v1 + 1))]) c361_83 rfl rfl (x_goto c361_86 (wp_wk (l' := [some (jR 133), some (jI (v1 + 1))]) ⟨rfl, ⟨rfl, trivial⟩⟩ (H.2.1 h1))))) (fun h2 => (x_ci c361_81 (x_zrt c361_82 r361 (by decide) (H.2.2 h2)))))
theorem s361 {kc : List va_E} {d : Nat} {M : fx_M} {Q : Option fx_V → fx_M → Prop} (H : ((fx_in32 (M 188 0))) ∧ (M 188 0 = 1 → (((0 : Int) ≤ ((32 * (M 188 0)) + 32) - 1 ∧ ((32 * (M 188 0)) + 32) - 1 < 1024)) ∧ wc kc d 362 [jR 133, jI (M 188 0)] M (fun v M1 => wp kc (d + 1) 361 49 [some (jR 133), none] (v.toList ++ [jI (M 188 (((32 * (M 188 0)) + 32) - 1))]) M1 Q)) ∧ (M 188 0 ≠ 1 → ((fx_in32 (M 188 0))) ∧ (M 188 0 ≠ 2 → Q (some (jI 0)) M) ∧ (M 188 0 = 2 → (((0 : Int) ≤ ((32 * (M 188 0)) + 32) - 1 ∧ ((32 * (M 188 0)) + 32) - 1 < 1024)) ∧ wc kc d 362 [jR 133, jI (M 188 0)] M (fun v M1 => wp kc (d + 1) 361 49 [some (jR 133), none] (v.toList ++ [jI (M 188 (((32 * (M 188 0)) + 32) - 1))]) M1 Q)))) : wc kc (d + 1) 361 [jR 133] M Q :=
  wc_of (wp_wk (l' := [some (jR 133), none]) ⟨rfl, trivial⟩ (s361_0 H))

/- PuzzleHouseModel.sumOf(I)I -/
theorem c362_0 : fx_ci 362 0 = some (0, 1) := by decide +kernel
theorem c362_1 : fx_op 362 1 = some (.istore_n 2, 2, 1) := by decide +kernel
theorem c362_2 : fx_ci 362 2 = some (0, 3) := by decide +kernel
theorem c362_3 : fx_op 362 3 = some (.istore_n 3, 4, 3) := by decide +kernel
theorem c362_4 : fx_op 362 4 = some (.iload_n 3, 5, 4) := by decide +kernel
theorem c362_5 : fx_ci 362 5 = some (31, 7) := by decide +kernel
theorem c362_7 : fx_op 362 7 = some (.if_icmp .ge 23, 10, 30) := by decide +kernel
theorem c362_10 : fx_op 362 10 = some (.iload_n 2, 11, 10) := by decide +kernel
theorem c362_11 : fx_op 362 11 = some (.aload_n 0, 12, 11) := by decide +kernel
theorem c362_12 : fx_gf 362 12 = some (12, 97, 15) := by decide +kernel
theorem c362_15 : fx_ci 362 15 = some (32, 17) := by decide +kernel
theorem c362_17 : fx_op 362 17 = some (.iload_n 1, 18, 17) := by decide +kernel
theorem c362_18 : fx_op 362 18 = some (.imul, 19, 18) := by decide +kernel
theorem c362_19 : fx_op 362 19 = some (.iload_n 3, 20, 19) := by decide +kernel
theorem c362_20 : fx_op 362 20 = some (.iadd, 21, 20) := by decide +kernel
theorem c362_21 : fx_op 362 21 = some (.iaload, 22, 21) := by decide +kernel
theorem c362_22 : fx_op 362 22 = some (.iadd, 23, 22) := by decide +kernel
theorem c362_23 : fx_op 362 23 = some (.istore_n 2, 24, 23) := by decide +kernel
theorem c362_24 : fx_op 362 24 = some (.iinc 3 1, 27, 24) := by decide +kernel
theorem c362_30 : fx_op 362 30 = some (.iload_n 2, 31, 30) := by decide +kernel
theorem c362_31 : fx_ci 362 31 = some (251, 34) := by decide +kernel
theorem c362_34 : fx_op 362 34 = some (.irem, 35, 34) := by decide +kernel
theorem c362_35 : fx_op 362 35 = some (.ireturn, 36, 35) := by decide +kernel
theorem c362_27 : fx_op 362 27 = some (.goto (-23), 30, 4) := by decide +kernel
theorem s362_0 {kc : List va_E} {d : Nat} {x1 : Int} {M : fx_M} {Q : Option fx_V → fx_M → Prop} (H : wp kc (d + 1) 362 4 [some (jR 133), some (jI x1), some (jI 0), some (jI 0)] [] M Q) : wp kc (d + 1) 362 0 [some (jR 133), some (jI x1), none, none] [] M Q :=
  (x_ci c362_0 (x_istn (l' := [some (jR 133), some (jI x1), some (jI 0), none]) c362_1 rfl (x_ci c362_2 (x_istn (l' := [some (jR 133), some (jI x1), some (jI 0), some (jI 0)]) c362_3 rfl (wp_wk (l' := [some (jR 133), some (jI x1), some (jI 0), some (jI 0)]) ⟨rfl, ⟨rfl, ⟨rfl, ⟨rfl, trivial⟩⟩⟩⟩ H)))))
theorem s362_4 {kc : List va_E} {d : Nat} {v1 v2 v3 : Int} {M : fx_M} {Q : Option fx_V → fx_M → Prop} (H : ((fx_in32 v3)) ∧ (31 ≤ v3 → (((0 : Int) ≤ v2 ∧ v2 ≤ 2147483647)) ∧ Q (some (jI (v2 % 251))) M) ∧ (v3 < 31 → (((0 : Int) ≤ (32 * v1) + v3 ∧ (32 * v1) + v3 < 1024)) ∧ wp kc (d + 1) 362 4 [some (jR 133), some (jI v1), some (jI (v2 + (M 188 ((32 * v1) + v3)))), some (jI (v3 + 1))] [] M Q)) : wp kc (d + 1) 362 4 [some (jR 133), some (jI v1), some (jI v2), some (jI v3)] [] M Q :=
  (x_ildn c362_4 rfl (x_ci c362_5 (x_cge c362_7 H.1 (by decide) (fun h1 => (x_ildn c362_30 rfl (x_ci c362_31 (x_irem c362_34 (H.2.1 h1).1 (by decide) (x_irt c362_35 r362 (H.2.1 h1).2))))) (fun h2 => (x_ildn c362_10 rfl (x_aldn c362_11 rfl (x_gfr c362_12 k_133_97 (x_ci c362_15 (x_ildn c362_17 rfl (x_imul c362_18 (x_ildn c362_19 rfl (x_iadd c362_20 (x_iald c362_21 a_188 (H.2.2 h2).1 (by decide) (x_iadd c362_22 (x_istn (l' := [some (jR 133), some (jI v1), some (jI (v2 + (M 188 ((32 * v1) + v3)))), some (jI v3)]) c362_23 rfl (x_inc (l' := [some (jR 133), some (jI v1), some (jI (v2 + (M 188 ((32 * v1) + v3)))), some (jI (v3 + 1))]) c362_24 rfl rfl (x_goto c362_27 (wp_wk (l' := [some (jR 133), some (jI v1), some (jI (v2 + (M 188 ((32 * v1) + v3)))), some (jI (v3 + 1))]) ⟨rfl, ⟨rfl, ⟨rfl, ⟨rfl, trivial⟩⟩⟩⟩ (H.2.2 h2).2))))))))))))))))))
theorem s362 {kc : List va_E} {d : Nat} {x1 : Int} {M : fx_M} {Q : Option fx_V → fx_M → Prop} (H : wp kc (d + 1) 362 4 [some (jR 133), some (jI x1), some (jI 0), some (jI 0)] [] M Q) : wc kc (d + 1) 362 [jR 133, jI x1] M Q :=
  wc_of (wp_wk (l' := [some (jR 133), some (jI x1), none, none]) ⟨rfl, ⟨rfl, trivial⟩⟩ (s362_0 H))

/- PuzzleHouseModel.isEntry(I)Z -/
theorem c363_0 : fx_op 363 0 = some (.aload_n 0, 1, 0) := by decide +kernel
theorem c363_1 : fx_op 363 1 = some (.iload_n 1, 2, 1) := by decide +kernel
theorem c363_2 : fx_ca 363 2 = some (344, 2, 2, 5) := by decide +kernel
theorem c363_5 : fx_op 363 5 = some (.istore_n 2, 6, 5) := by decide +kernel
theorem c363_6 : fx_op 363 6 = some (.aload_n 0, 7, 6) := by decide +kernel
theorem c363_7 : fx_op 363 7 = some (.iload_n 1, 8, 7) := by decide +kernel
theorem c363_8 : fx_ca 363 8 = some (345, 2, 2, 11) := by decide +kernel
theorem c363_11 : fx_op 363 11 = some (.istore_n 3, 12, 11) := by decide +kernel
theorem c363_12 : fx_op 363 12 = some (.iload_n 2, 13, 12) := by decide +kernel
theorem c363_13 : fx_ci 363 13 = some (3, 14) := by decide +kernel
theorem c363_14 : fx_op 363 14 = some (.if_icmp .lt 16, 17, 30) := by decide +kernel
theorem c363_30 : fx_ci 363 30 = some (0, 31) := by decide +kernel
theorem c363_17 : fx_op 363 17 = some (.iload_n 3, 18, 17) := by decide +kernel
theorem c363_18 : fx_ci 363 18 = some (1, 19) := by decide +kernel
theorem c363_19 : fx_op 363 19 = some (.if_icmp .lt 11, 22, 30) := by decide +kernel
theorem c363_22 : fx_op 363 22 = some (.iload_n 2, 23, 22) := by decide +kernel
theorem c363_23 : fx_op 363 23 = some (.iload_n 3, 24, 23) := by decide +kernel
theorem c363_24 : fx_op 363 24 = some (.iadd, 25, 24) := by decide +kernel
theorem c363_25 : fx_ci 363 25 = some (32, 27) := by decide +kernel
theorem c363_27 : fx_op 363 27 = some (.if_icmp .le 5, 30, 32) := by decide +kernel
theorem c363_32 : fx_op 363 32 = some (.aload_n 0, 33, 32) := by decide +kernel
theorem c363_33 : fx_gf 363 33 = some (12, 97, 36) := by decide +kernel
theorem c363_36 : fx_ci 363 36 = some (32, 38) := by decide +kernel
theorem c363_38 : fx_op 363 38 = some (.iload_n 2, 39, 38) := by decide +kernel
theorem c363_39 : fx_op 363 39 = some (.imul, 40, 39) := by decide +kernel
theorem c363_41 : fx_op 363 41 = some (.istore 4, 43, 41) := by decide +kernel
theorem c363_43 : fx_op 363 43 = some (.iload 4, 45, 43) := by decide +kernel
theorem c363_45 : fx_ci 363 45 = some (1, 46) := by decide +kernel
theorem c363_46 : fx_op 363 46 = some (.if_icmp .lt 10, 49, 56) := by decide +kernel
theorem c363_56 : fx_ci 363 56 = some (0, 57) := by decide +kernel
theorem c363_49 : fx_op 363 49 = some (.iload 4, 51, 49) := by decide +kernel
theorem c363_51 : fx_ci 363 51 = some (8, 53) := by decide +kernel
theorem c363_53 : fx_op 363 53 = some (.if_icmp .le 5, 56, 58) := by decide +kernel
theorem c363_58 : fx_ci 363 58 = some (1, 59) := by decide +kernel
theorem c363_59 : fx_op 363 59 = some (.istore 5, 61, 59) := by decide +kernel
theorem c363_31 : fx_op 363 31 = some (.ireturn, 32, 31) := by decide +kernel
theorem c363_40 : fx_op 363 40 = some (.iaload, 41, 40) := by decide +kernel
theorem c363_57 : fx_op 363 57 = some (.ireturn, 58, 57) := by decide +kernel
theorem c363_61 : fx_op 363 61 = some (.iload 5, 63, 61) := by decide +kernel
theorem c363_63 : fx_op 363 63 = some (.iload 4, 65, 63) := by decide +kernel
theorem c363_65 : fx_op 363 65 = some (.if_icmp .gt 45, 68, 110) := by decide +kernel
theorem c363_110 : fx_op 363 110 = some (.aload_n 0, 111, 110) := by decide +kernel
theorem c363_111 : fx_op 363 111 = some (.iload_n 1, 112, 111) := by decide +kernel
theorem c363_68 : fx_op 363 68 = some (.aload_n 0, 69, 68) := by decide +kernel
theorem c363_69 : fx_gf 363 69 = some (12, 97, 72) := by decide +kernel
theorem c363_72 : fx_ci 363 72 = some (32, 74) := by decide +kernel
theorem c363_74 : fx_op 363 74 = some (.iload_n 2, 75, 74) := by decide +kernel
theorem c363_75 : fx_op 363 75 = some (.imul, 76, 75) := by decide +kernel
theorem c363_76 : fx_op 363 76 = some (.iload 5, 78, 76) := by decide +kernel
theorem c363_78 : fx_op 363 78 = some (.iadd, 79, 78) := by decide +kernel
theorem c363_80 : fx_ci 363 80 = some (97, 82) := by decide +kernel
theorem c363_82 : fx_op 363 82 = some (.if_icmp .lt 20, 85, 102) := by decide +kernel
theorem c363_102 : fx_ci 363 102 = some (0, 103) := by decide +kernel
theorem c363_85 : fx_op 363 85 = some (.aload_n 0, 86, 85) := by decide +kernel
theorem c363_86 : fx_gf 363 86 = some (12, 97, 89) := by decide +kernel
theorem c363_89 : fx_ci 363 89 = some (32, 91) := by decide +kernel
theorem c363_91 : fx_op 363 91 = some (.iload_n 2, 92, 91) := by decide +kernel
theorem c363_92 : fx_op 363 92 = some (.imul, 93, 92) := by decide +kernel
theorem c363_93 : fx_op 363 93 = some (.iload 5, 95, 93) := by decide +kernel
theorem c363_95 : fx_op 363 95 = some (.iadd, 96, 95) := by decide +kernel
theorem c363_97 : fx_ci 363 97 = some (122, 99) := by decide +kernel
theorem c363_99 : fx_op 363 99 = some (.if_icmp .le 5, 102, 104) := by decide +kernel
theorem c363_104 : fx_op 363 104 = some (.iinc 5 1, 107, 104) := by decide +kernel
theorem c363_112 : fx_ca 363 112 = some (343, 2, 2, 115) := by decide +kernel
theorem c363_79 : fx_op 363 79 = some (.iaload, 80, 79) := by decide +kernel
theorem c363_103 : fx_op 363 103 = some (.ireturn, 104, 103) := by decide +kernel
theorem c363_96 : fx_op 363 96 = some (.iaload, 97, 96) := by decide +kernel
theorem c363_107 : fx_op 363 107 = some (.goto (-46), 110, 61) := by decide +kernel
theorem c363_115 : fx_op 363 115 = some (.ifCond .eq 33, 118, 148) := by decide +kernel
theorem c363_148 : fx_ci 363 148 = some (0, 149) := by decide +kernel
theorem c363_118 : fx_op 363 118 = some (.aload_n 0, 119, 118) := by decide +kernel
theorem c363_119 : fx_ci 363 119 = some (1, 120) := by decide +kernel
theorem c363_149 : fx_op 363 149 = some (.ireturn, 150, 149) := by decide +kernel
theorem c363_120 : fx_ca 363 120 = some (238, 2, 2, 123) := by decide +kernel
theorem c363_123 : fx_op 363 123 = some (.ifCond .eq 25, 126, 148) := by decide +kernel
theorem c363_126 : fx_op 363 126 = some (.aload_n 0, 127, 126) := by decide +kernel
theorem c363_127 : fx_gf 363 127 = some (12, 7, 130) := by decide +kernel
theorem c363_130 : fx_op 363 130 = some (.aload_n 0, 131, 130) := by decide +kernel
theorem c363_131 : fx_gf 363 131 = some (12, 3, 134) := by decide +kernel
theorem c363_134 : fx_op 363 134 = some (.if_icmp .ne 14, 137, 148) := by decide +kernel
theorem c363_137 : fx_op 363 137 = some (.aload_n 0, 138, 137) := by decide +kernel
theorem c363_138 : fx_gf 363 138 = some (12, 23, 141) := by decide +kernel
theorem c363_141 : fx_op 363 141 = some (.ifCond .ne 7, 144, 148) := by decide +kernel
theorem c363_144 : fx_ci 363 144 = some (1, 145) := by decide +kernel
theorem c363_145 : fx_op 363 145 = some (.goto 4, 148, 149) := by decide +kernel
theorem s363_0 {kc : List va_E} {d : Nat} {x1 : Int} {M : fx_M} {Q : Option fx_V → fx_M → Prop} (H : wc kc d 344 [jR 133, jI x1] M (fun v M1 => wp kc (d + 1) 363 5 [some (jR 133), some (jI x1), none, none, none, none] (v.toList ++ []) M1 Q)) : wp kc (d + 1) 363 0 [some (jR 133), some (jI x1), none, none, none, none] [] M Q :=
  (x_aldn c363_0 rfl (x_ildn c363_1 rfl (wp_wk (l' := [some (jR 133), some (jI x1), none, none, none, none]) ⟨rfl, ⟨rfl, trivial⟩⟩ (x_cv (As := [jI x1]) (st := []) c363_2 cl_133 kl344 rfl (Nat.le_of_ble_eq_true rfl) mx344 (Nat.le_refl _) H))))
theorem s363_5 {kc : List va_E} {d : Nat} {v1 u0 : Int} {M : fx_M} {Q : Option fx_V → fx_M → Prop} (H : wc kc d 345 [jR 133, jI v1] M (fun v M1 => wp kc (d + 1) 363 11 [some (jR 133), some (jI v1), some (jI u0), none, none, none] (v.toList ++ []) M1 Q)) : wp kc (d + 1) 363 5 [some (jR 133), some (jI v1), none, none, none, none] [jI u0] M Q :=
  (x_istn (l' := [some (jR 133), some (jI v1), some (jI u0), none, none, none]) c363_5 rfl (x_aldn c363_6 rfl (x_ildn c363_7 rfl (wp_wk (l' := [some (jR 133), some (jI v1), some (jI u0), none, none, none]) ⟨rfl, ⟨rfl, ⟨rfl, trivial⟩⟩⟩ (x_cv (As := [jI v1]) (st := []) c363_8 cl_133 kl345 rfl (Nat.le_of_ble_eq_true rfl) mx345 (Nat.le_refl _) H)))))
theorem s363_11 {kc : List va_E} {d : Nat} {v1 v2 u0 : Int} {M : fx_M} {Q : Option fx_V → fx_M → Prop} (H : ((fx_in32 v2)) ∧ (v2 < 3 → Q (some (jI 0)) M) ∧ (3 ≤ v2 → ((fx_in32 u0)) ∧ (u0 < 1 → Q (some (jI 0)) M) ∧ (1 ≤ u0 → ((fx_in32 (v2 + u0))) ∧ (v2 + u0 ≤ 32 → (((0 : Int) ≤ 32 * v2 ∧ 32 * v2 < 1024)) ∧ ((fx_in32 (M 188 (32 * v2)))) ∧ (M 188 (32 * v2) < 1 → Q (some (jI 0)) M) ∧ (1 ≤ M 188 (32 * v2) → ((fx_in32 (M 188 (32 * v2)))) ∧ (M 188 (32 * v2) ≤ 8 → wp kc (d + 1) 363 61 [some (jR 133), some (jI v1), some (jI v2), none, some (jI (M 188 (32 * v2))), some (jI 1)] [] M Q) ∧ (8 < M 188 (32 * v2) → Q (some (jI 0)) M))) ∧ (32 < v2 + u0 → Q (some (jI 0)) M)))) : wp kc (d + 1) 363 11 [some (jR 133), some (jI v1), some (jI v2), none, none, none] [jI u0] M Q :=
  (x_istn (l' := [some (jR 133), some (jI v1), some (jI v2), some (jI u0), none, none]) c363_11 rfl (x_ildn c363_12 rfl (x_ci c363_13 (x_clt c363_14 H.1 (by decide) (fun h9 => (x_ci c363_30 (x_zrt c363_31 r363 (by decide) (H.2.1 h9)))) (fun h10 => (x_ildn c363_17 rfl (x_ci c363_18 (x_clt c363_19 (H.2.2 h10).1 (by decide) (fun h7 => (x_ci c363_30 (x_zrt c363_31 r363 (by decide) ((H.2.2 h10).2.1 h7)))) (fun h8 => (x_ildn c363_22 rfl (x_ildn c363_23 rfl (x_iadd c363_24 (x_ci c363_25 (x_cle c363_27 ((H.2.2 h10).2.2 h8).1 (by decide) (fun h5 => (x_aldn c363_32 rfl (x_gfr c363_33 k_133_97 (x_ci c363_36 (x_ildn c363_38 rfl (x_imul c363_39 (x_iald c363_40 a_188 (((H.2.2 h10).2.2 h8).2.1 h5).1 (by decide) (x_ist (l' := [some (jR 133), some (jI v1), some (jI v2), some (jI u0), some (jI (M 188 (32 * v2))), none]) c363_41 rfl (x_ild c363_43 rfl (x_ci c363_45 (x_clt c363_46 (((H.2.2 h10).2.2 h8).2.1 h5).2.1 (by decide) (fun h3 => (x_ci c363_56 (x_zrt c363_57 r363 (by decide) ((((H.2.2 h10).2.2 h8).2.1 h5).2.2.1 h3)))) (fun h4 => (x_ild c363_49 rfl (x_ci c363_51 (x_cle c363_53 ((((H.2.2 h10).2.2 h8).2.1 h5).2.2.2 h4).1 (by decide) (fun h1 => (x_ci c363_58 (x_ist (l' := [some (jR 133), some (jI v1), some (jI v2), some (jI u0), some (jI (M 188 (32 * v2))), some (jI 1)]) c363_59 rfl (wp_wk (l' := [some (jR 133), some (jI v1), some (jI v2), none, some (jI (M 188 (32 * v2))), some (jI 1)]) ⟨rfl, ⟨rfl, ⟨rfl, ⟨rfl, ⟨rfl, trivial⟩⟩⟩⟩⟩ (((((H.2.2 h10).2.2 h8).2.1 h5).2.2.2 h4).2.1 h1))))) (fun h2 => (x_ci c363_56 (x_zrt c363_57 r363 (by decide) (((((H.2.2 h10).2.2 h8).2.1 h5).2.2.2 h4).2.2 h2))))))))))))))))))) (fun h6 => (x_ci c363_30 (x_zrt c363_31 r363 (by decide) (((H.2.2 h10).2.2 h8).2.2 h6))))))))))))))))))
theorem s363_61 {kc : List va_E} {d : Nat} {v1 v2 v4 v5 : Int} {M : fx_M} {Q : Option fx_V → fx_M → Prop} (H : ((fx_in32 v5) ∧ (fx_in32 v4)) ∧ (v4 < v5 → wc kc d 343 [jR 133, jI v1] M (fun v M1 => wp kc (d + 1) 363 115 [some (jR 133), none, none, none, none, none] (v.toList ++ []) M1 Q)) ∧ (v5 ≤ v4 → (((0 : Int) ≤ (32 * v2) + v5 ∧ (32 * v2) + v5 < 1024)) ∧ ((fx_in32 (M 188 ((32 * v2) + v5)))) ∧ (M 188 ((32 * v2) + v5) < 97 → Q (some (jI 0)) M) ∧ (97 ≤ M 188 ((32 * v2) + v5) → (((0 : Int) ≤ (32 * v2) + v5 ∧ (32 * v2) + v5 < 1024)) ∧ ((fx_in32 (M 188 ((32 * v2) + v5)))) ∧ (M 188 ((32 * v2) + v5) ≤ 122 → wp kc (d + 1) 363 61 [some (jR 133), some (jI v1), some (jI v2), none, some (jI v4), some (jI (v5 + 1))] [] M Q) ∧ (122 < M 188 ((32 * v2) + v5) → Q (some (jI 0)) M)))) : wp kc (d + 1) 363 61 [some (jR 133), some (jI v1), some (jI v2), none, some (jI v4), some (jI v5)] [] M Q :=
  (x_ild c363_61 rfl (x_ild c363_63 rfl (x_cgt c363_65 H.1.1 H.1.2 (fun h5 => (x_aldn c363_110 rfl (x_ildn c363_111 rfl (wp_wk (l' := [some (jR 133), none, none, none, none, none]) ⟨rfl, trivial⟩ (x_cv (As := [jI v1]) (st := []) c363_112 cl_133 kl343 rfl (Nat.le_of_ble_eq_true rfl) mx343 (Nat.le_refl _) (H.2.1 h5)))))) (fun h6 => (x_aldn c363_68 rfl (x_gfr c363_69 k_133_97 (x_ci c363_72 (x_ildn c363_74 rfl (x_imul c363_75 (x_ild c363_76 rfl (x_iadd c363_78 (x_iald c363_79 a_188 (H.2.2 h6).1 (by decide) (x_ci c363_80 (x_clt c363_82 (H.2.2 h6).2.1 (by decide) (fun h3 => (x_ci c363_102 (x_zrt c363_103 r363 (by decide) ((H.2.2 h6).2.2.1 h3)))) (fun h4 => (x_aldn c363_85 rfl (x_gfr c363_86 k_133_97 (x_ci c363_89 (x_ildn c363_91 rfl (x_imul c363_92 (x_ild c363_93 rfl (x_iadd c363_95 (x_iald c363_96 a_188 ((H.2.2 h6).2.2.2 h4).1 (by decide) (x_ci c363_97 (x_cle c363_99 ((H.2.2 h6).2.2.2 h4).2.1 (by decide) (fun h1 => (x_inc (l' := [some (jR 133), some (jI v1), some (jI v2), none, some (jI v4), some (jI (v5 + 1))]) c363_104 rfl rfl (x_goto c363_107 (wp_wk (l' := [some (jR 133), some (jI v1), some (jI v2), none, some (jI v4), some (jI (v5 + 1))]) ⟨rfl, ⟨rfl, ⟨rfl, ⟨rfl, ⟨rfl, trivial⟩⟩⟩⟩⟩ (((H.2.2 h6).2.2.2 h4).2.2.1 h1))))) (fun h2 => (x_ci c363_102 (x_zrt c363_103 r363 (by decide) (((H.2.2 h6).2.2.2 h4).2.2.2 h2)))))))))))))))))))))))))))))
theorem s363_115 {kc : List va_E} {d : Nat} {u0 : Int} {M : fx_M} {Q : Option fx_V → fx_M → Prop} (H : ((fx_in32 u0)) ∧ (u0 = 0 → Q (some (jI 0)) M) ∧ (u0 ≠ 0 → wc kc d 238 [jR 133, jI 1] M (fun v M1 => wp kc (d + 1) 363 123 [some (jR 133), none, none, none, none, none] (v.toList ++ []) M1 Q))) : wp kc (d + 1) 363 115 [some (jR 133), none, none, none, none, none] [jI u0] M Q :=
  (x_zeq c363_115 H.1 (fun h1 => (x_ci c363_148 (x_zrt c363_149 r363 (by decide) (H.2.1 h1)))) (fun h2 => (x_aldn c363_118 rfl (x_ci c363_119 (wp_wk (l' := [some (jR 133), none, none, none, none, none]) ⟨rfl, trivial⟩ (x_cv (As := [jI 1]) (st := []) c363_120 cl_133 kl238 rfl (Nat.le_of_ble_eq_true rfl) mx238 (Nat.le_refl _) (H.2.2 h2)))))))
theorem s363_123 {kc : List va_E} {d : Nat} {u0 : Int} {M : fx_M} {Q : Option fx_V → fx_M → Prop} (H : ((fx_in32 u0)) ∧ (u0 ≠ 0 → (fx_in32 (M 133 7))) ∧ (u0 ≠ 0 → (fx_in32 (M 133 3))) ∧ (u0 ≠ 0 → M 133 7 = M 133 3 → (fx_in32 (M 133 23))) ∧ ((0 : Int) ≤ (if u0 = 0 then (0 : Int) else (if M 133 7 = M 133 3 then ((if M 133 23 = 0 then (1 : Int) else 0) : Int) else 0)) ∧ (if u0 = 0 then (0 : Int) else (if M 133 7 = M 133 3 then ((if M 133 23 = 0 then (1 : Int) else 0) : Int) else 0)) ≤ 1) ∧ Q (some (jI (if u0 = 0 then (0 : Int) else (if M 133 7 = M 133 3 then ((if M 133 23 = 0 then (1 : Int) else 0) : Int) else 0)))) M) : wp kc (d + 1) 363 123 [some (jR 133), none, none, none, none, none] [jI u0] M Q :=
  (have K : wp kc (d + 1) 363 149 [none, none, none, none, none, none] [jI (if u0 = 0 then (0 : Int) else (if M 133 7 = M 133 3 then ((if M 133 23 = 0 then (1 : Int) else 0) : Int) else 0))] M Q := (x_zrt c363_149 r363 H.2.2.2.2.1 H.2.2.2.2.2); (x_zeq c363_123 H.1 (fun (h1 : u0 = 0) => (x_ci c363_148 (wp_wk (l' := [none, none, none, none, none, none]) trivial (by have K := K; first | (simp only [if_pos h1] at K ⊢; exact K) | (exfalso; omega))))) (fun (h2 : u0 ≠ 0) => (x_aldn c363_126 rfl (x_gfi c363_127 k_133_7 (x_aldn c363_130 rfl (x_gfi c363_131 k_133_3 (x_cne c363_134 (H.2.1 h2) (H.2.2.1 h2) (fun (h3 : M 133 7 ≠ M 133 3) => (x_ci c363_148 (wp_wk (l' := [none, none, none, none, none, none]) trivial (by have K := K; first | (simp only [if_neg h2, if_neg h3] at K ⊢; exact K) | (exfalso; omega))))) (fun (h4 : M 133 7 = M 133 3) => (x_aldn c363_137 rfl (x_gfi c363_138 k_133_23 (x_zne c363_141 (H.2.2.2.1 h2 h4) (fun (h5 : M 133 23 ≠ 0) => (x_ci c363_148 (wp_wk (l' := [none, none, none, none, none, none]) trivial (by have K := K; first | (simp only [if_neg h2, if_pos h4, if_neg h5] at K ⊢; exact K) | (exfalso; omega))))) (fun (h6 : M 133 23 = 0) => (x_ci c363_144 (x_goto c363_145 (wp_wk (l' := [none, none, none, none, none, none]) trivial (by have K := K; first | (simp only [if_neg h2, if_pos h4, if_pos h6] at K ⊢; exact K) | (exfalso; omega))))))))))))))))))
theorem s363 {kc : List va_E} {d : Nat} {x1 : Int} {M : fx_M} {Q : Option fx_V → fx_M → Prop} (H : wc kc d 344 [jR 133, jI x1] M (fun v M1 => wp kc (d + 1) 363 5 [some (jR 133), some (jI x1), none, none, none, none] (v.toList ++ []) M1 Q)) : wc kc (d + 1) 363 [jR 133, jI x1] M Q :=
  wc_of (wp_wk (l' := [some (jR 133), some (jI x1), none, none, none, none]) ⟨rfl, ⟨rfl, trivial⟩⟩ (s363_0 H))

/- PuzzleHouseModel.sayBook(I)V -/
theorem c364_0 : fx_op 364 0 = some (.aload_n 0, 1, 0) := by decide +kernel
theorem c364_1 : fx_gf 364 1 = some (12, 96, 4) := by decide +kernel
theorem c364_4 : fx_op 364 4 = some (.ifCond .ne 8, 7, 12) := by decide +kernel
theorem c364_12 : fx_op 364 12 = some (.iload_n 1, 13, 12) := by decide +kernel
theorem c364_109 : fx_op 364 109 = some (.aload_n 0, 110, 109) := by decide +kernel
theorem c364_110 : fx_op 364 110 = some (.aload_n 0, 111, 110) := by decide +kernel
theorem c364_111 : fx_gf 364 111 = some (12, 8, 114) := by decide +kernel
theorem c364_127 : fx_op 364 127 = some (.aload_n 0, 128, 127) := by decide +kernel
theorem c364_68 : fx_op 364 68 = some (.aload_n 0, 69, 68) := by decide +kernel
theorem c364_69 : fx_op 364 69 = some (.aload_n 0, 70, 69) := by decide +kernel
theorem c364_70 : fx_ci 364 70 = some (0, 71) := by decide +kernel
theorem c364_88 : fx_op 364 88 = some (.aload_n 0, 89, 88) := by decide +kernel
theorem c364_95 : fx_op 364 95 = some (.aload_n 0, 96, 95) := by decide +kernel
theorem c364_102 : fx_op 364 102 = some (.aload_n 0, 103, 102) := by decide +kernel
theorem c364_120 : fx_op 364 120 = some (.aload_n 0, 121, 120) := by decide +kernel
theorem c364_7 : fx_op 364 7 = some (.aload_n 0, 8, 7) := by decide +kernel
theorem c364_114 : fx_ca 364 114 = some (375, 2, 2, 117) := by decide +kernel
theorem c364_128 : fx_ca 364 128 = some (377, 1, 2, 131) := by decide +kernel
theorem c364_71 : fx_ca 364 71 = some (365, 2, 2, 74) := by decide +kernel
theorem c364_89 : fx_ca 364 89 = some (372, 1, 2, 92) := by decide +kernel
theorem c364_96 : fx_ca 364 96 = some (373, 1, 2, 99) := by decide +kernel
theorem c364_103 : fx_ca 364 103 = some (374, 1, 2, 106) := by decide +kernel
theorem c364_121 : fx_ca 364 121 = some (376, 1, 2, 124) := by decide +kernel
theorem c364_13 : fx_ts 364 13 = some (34, [109, 127, 127, 68, 88, 95, 102, 127, 127, 120], 127) := by decide +kernel
theorem c364_8 : fx_ca 364 8 = some (333, 1, 2, 11) := by decide +kernel
theorem c364_117 : fx_op 364 117 = some (.goto 14, 120, 131) := by decide +kernel
theorem c364_131 : fx_op 364 131 = some (.return_, 132, 131) := by decide +kernel
theorem c364_74 : fx_op 364 74 = some (.ifCond .eq 7, 77, 81) := by decide +kernel
theorem c364_81 : fx_ci 364 81 = some (4, 82) := by decide +kernel
theorem c364_77 : fx_ci 364 77 = some (0, 78) := by decide +kernel
theorem c364_78 : fx_op 364 78 = some (.goto 4, 81, 82) := by decide +kernel
theorem c364_82 : fx_ca 364 82 = some (259, 2, 2, 85) := by decide +kernel
theorem c364_92 : fx_op 364 92 = some (.goto 39, 95, 131) := by decide +kernel
theorem c364_99 : fx_op 364 99 = some (.goto 32, 102, 131) := by decide +kernel
theorem c364_106 : fx_op 364 106 = some (.goto 25, 109, 131) := by decide +kernel
theorem c364_124 : fx_op 364 124 = some (.goto 7, 127, 131) := by decide +kernel
theorem c364_11 : fx_op 364 11 = some (.return_, 12, 11) := by decide +kernel
theorem c364_85 : fx_op 364 85 = some (.goto 46, 88, 131) := by decide +kernel
theorem s364_0 {kc : List va_E} {d : Nat} {x1 : Int} {M : fx_M} {Q : Option fx_V → fx_M → Prop} (H : ((fx_in32 (M 133 96))) ∧ (M 133 96 ≠ 0 → fx_in32 x1 ∧ (x1 = 34 → wc kc d 375 [jR 133, jI (M 133 8)] M (fun v M1 => wp kc (d + 1) 364 117 [none, none] (v.toList ++ []) M1 Q)) ∧ (x1 = 35 → wc kc d 377 [jR 133] M (fun v M1 => wp kc (d + 1) 364 131 [none, none] (v.toList ++ []) M1 Q)) ∧ (x1 = 36 → wc kc d 377 [jR 133] M (fun v M1 => wp kc (d + 1) 364 131 [none, none] (v.toList ++ []) M1 Q)) ∧ (x1 = 37 → wc kc d 365 [jR 133, jI 0] M (fun v M1 => wp kc (d + 1) 364 74 [none, none] (v.toList ++ [jR 133]) M1 Q)) ∧ (x1 = 38 → wc kc d 372 [jR 133] M (fun v M1 => wp kc (d + 1) 364 92 [none, none] (v.toList ++ []) M1 Q)) ∧ (x1 = 39 → wc kc d 373 [jR 133] M (fun v M1 => wp kc (d + 1) 364 99 [none, none] (v.toList ++ []) M1 Q)) ∧ (x1 = 40 → wc kc d 374 [jR 133] M (fun v M1 => wp kc (d + 1) 364 106 [none, none] (v.toList ++ []) M1 Q)) ∧ (x1 = 41 → wc kc d 377 [jR 133] M (fun v M1 => wp kc (d + 1) 364 131 [none, none] (v.toList ++ []) M1 Q)) ∧ (x1 = 42 → wc kc d 377 [jR 133] M (fun v M1 => wp kc (d + 1) 364 131 [none, none] (v.toList ++ []) M1 Q)) ∧ (x1 = 43 → wc kc d 376 [jR 133] M (fun v M1 => wp kc (d + 1) 364 124 [none, none] (v.toList ++ []) M1 Q)) ∧ ((x1 < 34 ∨ 44 ≤ x1) → wc kc d 377 [jR 133] M (fun v M1 => wp kc (d + 1) 364 131 [none, none] (v.toList ++ []) M1 Q))) ∧ (M 133 96 = 0 → wc kc d 333 [jR 133] M (fun v M1 => wp kc (d + 1) 364 11 [none, none] (v.toList ++ []) M1 Q))) : wp kc (d + 1) 364 0 [some (jR 133), some (jI x1)] [] M Q :=
  (x_aldn c364_0 rfl (x_gfi c364_1 k_133_96 (x_zne c364_4 H.1 (fun h1 => (x_ildn c364_12 rfl (x_sw c364_13 (H.2.1 h1).1 ⟨fun h3 => (x_aldn c364_109 rfl (x_aldn c364_110 rfl (x_gfi c364_111 k_133_8 (wp_wk (l' := [none, none]) trivial (x_cv (As := [jI (M 133 8)]) (st := []) c364_114 cl_133 kl375 rfl (Nat.le_of_ble_eq_true rfl) mx375 (Nat.le_refl _) ((H.2.1 h1).2.1 h3)))))), ⟨fun h4 => (x_aldn c364_127 rfl (wp_wk (l' := [none, none]) trivial (x_cv (As := []) (st := []) c364_128 cl_133 kl377 rfl (Nat.le_of_ble_eq_true rfl) mx377 (Nat.le_refl _) ((H.2.1 h1).2.2.1 h4)))), ⟨fun h5 => (x_aldn c364_127 rfl (wp_wk (l' := [none, none]) trivial (x_cv (As := []) (st := []) c364_128 cl_133 kl377 rfl (Nat.le_of_ble_eq_true rfl) mx377 (Nat.le_refl _) ((H.2.1 h1).2.2.2.1 h5)))), ⟨fun h6 => (x_aldn c364_68 rfl (x_aldn c364_69 rfl (x_ci c364_70 (wp_wk (l' := [none, none]) trivial (x_cv (As := [jI 0]) (st := [jR 133]) c364_71 cl_133 kl365 rfl (Nat.le_of_ble_eq_true rfl) mx365 (Nat.le_refl _) ((H.2.1 h1).2.2.2.2.1 h6)))))), ⟨fun h7 => (x_aldn c364_88 rfl (wp_wk (l' := [none, none]) trivial (x_cv (As := []) (st := []) c364_89 cl_133 kl372 rfl (Nat.le_of_ble_eq_true rfl) mx372 (Nat.le_refl _) ((H.2.1 h1).2.2.2.2.2.1 h7)))), ⟨fun h8 => (x_aldn c364_95 rfl (wp_wk (l' := [none, none]) trivial (x_cv (As := []) (st := []) c364_96 cl_133 kl373 rfl (Nat.le_of_ble_eq_true rfl) mx373 (Nat.le_refl _) ((H.2.1 h1).2.2.2.2.2.2.1 h8)))), ⟨fun h9 => (x_aldn c364_102 rfl (wp_wk (l' := [none, none]) trivial (x_cv (As := []) (st := []) c364_103 cl_133 kl374 rfl (Nat.le_of_ble_eq_true rfl) mx374 (Nat.le_refl _) ((H.2.1 h1).2.2.2.2.2.2.2.1 h9)))), ⟨fun h10 => (x_aldn c364_127 rfl (wp_wk (l' := [none, none]) trivial (x_cv (As := []) (st := []) c364_128 cl_133 kl377 rfl (Nat.le_of_ble_eq_true rfl) mx377 (Nat.le_refl _) ((H.2.1 h1).2.2.2.2.2.2.2.2.1 h10)))), ⟨fun h11 => (x_aldn c364_127 rfl (wp_wk (l' := [none, none]) trivial (x_cv (As := []) (st := []) c364_128 cl_133 kl377 rfl (Nat.le_of_ble_eq_true rfl) mx377 (Nat.le_refl _) ((H.2.1 h1).2.2.2.2.2.2.2.2.2.1 h11)))), ⟨fun h12 => (x_aldn c364_120 rfl (wp_wk (l' := [none, none]) trivial (x_cv (As := []) (st := []) c364_121 cl_133 kl376 rfl (Nat.le_of_ble_eq_true rfl) mx376 (Nat.le_refl _) ((H.2.1 h1).2.2.2.2.2.2.2.2.2.2.1 h12)))), trivial⟩⟩⟩⟩⟩⟩⟩⟩⟩⟩ (fun h13 => (x_aldn c364_127 rfl (wp_wk (l' := [none, none]) trivial (x_cv (As := []) (st := []) c364_128 cl_133 kl377 rfl (Nat.le_of_ble_eq_true rfl) mx377 (Nat.le_refl _) ((H.2.1 h1).2.2.2.2.2.2.2.2.2.2.2 h13)))))))) (fun h2 => (x_aldn c364_7 rfl (wp_wk (l' := [none, none]) trivial (x_cv (As := []) (st := []) c364_8 cl_133 kl333 rfl (Nat.le_of_ble_eq_true rfl) mx333 (Nat.le_refl _) (H.2.2 h2))))))))
theorem s364_11 {kc : List va_E} {d : Nat} {M : fx_M} {Q : Option fx_V → fx_M → Prop} (H : Q none M) : wp kc (d + 1) 364 11 [none, none] [] M Q :=
  (x_vr c364_11 r364 H)
theorem s364_74 {kc : List va_E} {d : Nat} {u0 : Int} {M : fx_M} {Q : Option fx_V → fx_M → Prop} (H : ((fx_in32 u0)) ∧ wc kc d 259 [jR 133, jI (if u0 = 0 then (4 : Int) else 0)] M (fun v M1 => wp kc (d + 1) 364 85 [none, none] (v.toList ++ []) M1 Q)) : wp kc (d + 1) 364 74 [none, none] [jI u0, jR 133] M Q :=
  (have K : wp kc (d + 1) 364 82 [none, none] [jI (if u0 = 0 then (4 : Int) else 0), jR 133] M Q := (wp_wk (l' := [none, none]) trivial (x_cv (As := [jI (if u0 = 0 then (4 : Int) else 0)]) (st := []) c364_82 cl_133 kl259 rfl (Nat.le_of_ble_eq_true rfl) mx259 (Nat.le_refl _) H.2)); (x_zeq c364_74 H.1 (fun (h1 : u0 = 0) => (x_ci c364_81 (wp_wk (l' := [none, none]) trivial (by have K := K; first | (simp only [if_pos h1] at K ⊢; exact K) | (exfalso; omega))))) (fun (h2 : u0 ≠ 0) => (x_ci c364_77 (x_goto c364_78 (wp_wk (l' := [none, none]) trivial (by have K := K; first | (simp only [if_neg h2] at K ⊢; exact K) | (exfalso; omega))))))))
theorem s364_85 {kc : List va_E} {d : Nat} {M : fx_M} {Q : Option fx_V → fx_M → Prop} (H : Q none M) : wp kc (d + 1) 364 85 [none, none] [] M Q :=
  (x_goto c364_85 (x_vr c364_131 r364 H))
theorem s364_92 {kc : List va_E} {d : Nat} {M : fx_M} {Q : Option fx_V → fx_M → Prop} (H : Q none M) : wp kc (d + 1) 364 92 [none, none] [] M Q :=
  (x_goto c364_92 (x_vr c364_131 r364 H))
theorem s364_99 {kc : List va_E} {d : Nat} {M : fx_M} {Q : Option fx_V → fx_M → Prop} (H : Q none M) : wp kc (d + 1) 364 99 [none, none] [] M Q :=
  (x_goto c364_99 (x_vr c364_131 r364 H))
theorem s364_106 {kc : List va_E} {d : Nat} {M : fx_M} {Q : Option fx_V → fx_M → Prop} (H : Q none M) : wp kc (d + 1) 364 106 [none, none] [] M Q :=
  (x_goto c364_106 (x_vr c364_131 r364 H))
theorem s364_117 {kc : List va_E} {d : Nat} {M : fx_M} {Q : Option fx_V → fx_M → Prop} (H : Q none M) : wp kc (d + 1) 364 117 [none, none] [] M Q :=
  (x_goto c364_117 (x_vr c364_131 r364 H))
theorem s364_124 {kc : List va_E} {d : Nat} {M : fx_M} {Q : Option fx_V → fx_M → Prop} (H : Q none M) : wp kc (d + 1) 364 124 [none, none] [] M Q :=
  (x_goto c364_124 (x_vr c364_131 r364 H))
theorem s364_131 {kc : List va_E} {d : Nat} {M : fx_M} {Q : Option fx_V → fx_M → Prop} (H : Q none M) : wp kc (d + 1) 364 131 [none, none] [] M Q :=
  (x_vr c364_131 r364 H)
theorem s364 {kc : List va_E} {d : Nat} {x1 : Int} {M : fx_M} {Q : Option fx_V → fx_M → Prop} (H : ((fx_in32 (M 133 96))) ∧ (M 133 96 ≠ 0 → fx_in32 x1 ∧ (x1 = 34 → wc kc d 375 [jR 133, jI (M 133 8)] M (fun v M1 => wp kc (d + 1) 364 117 [none, none] (v.toList ++ []) M1 Q)) ∧ (x1 = 35 → wc kc d 377 [jR 133] M (fun v M1 => wp kc (d + 1) 364 131 [none, none] (v.toList ++ []) M1 Q)) ∧ (x1 = 36 → wc kc d 377 [jR 133] M (fun v M1 => wp kc (d + 1) 364 131 [none, none] (v.toList ++ []) M1 Q)) ∧ (x1 = 37 → wc kc d 365 [jR 133, jI 0] M (fun v M1 => wp kc (d + 1) 364 74 [none, none] (v.toList ++ [jR 133]) M1 Q)) ∧ (x1 = 38 → wc kc d 372 [jR 133] M (fun v M1 => wp kc (d + 1) 364 92 [none, none] (v.toList ++ []) M1 Q)) ∧ (x1 = 39 → wc kc d 373 [jR 133] M (fun v M1 => wp kc (d + 1) 364 99 [none, none] (v.toList ++ []) M1 Q)) ∧ (x1 = 40 → wc kc d 374 [jR 133] M (fun v M1 => wp kc (d + 1) 364 106 [none, none] (v.toList ++ []) M1 Q)) ∧ (x1 = 41 → wc kc d 377 [jR 133] M (fun v M1 => wp kc (d + 1) 364 131 [none, none] (v.toList ++ []) M1 Q)) ∧ (x1 = 42 → wc kc d 377 [jR 133] M (fun v M1 => wp kc (d + 1) 364 131 [none, none] (v.toList ++ []) M1 Q)) ∧ (x1 = 43 → wc kc d 376 [jR 133] M (fun v M1 => wp kc (d + 1) 364 124 [none, none] (v.toList ++ []) M1 Q)) ∧ ((x1 < 34 ∨ 44 ≤ x1) → wc kc d 377 [jR 133] M (fun v M1 => wp kc (d + 1) 364 131 [none, none] (v.toList ++ []) M1 Q))) ∧ (M 133 96 = 0 → wc kc d 333 [jR 133] M (fun v M1 => wp kc (d + 1) 364 11 [none, none] (v.toList ++ []) M1 Q))) : wc kc (d + 1) 364 [jR 133, jI x1] M Q :=
  wc_of (wp_wk (l' := [some (jR 133), some (jI x1)]) ⟨rfl, ⟨rfl, trivial⟩⟩ (s364_0 H))

/- PuzzleHouseModel.keeps(I)Z -/
theorem c365_0 : fx_op 365 0 = some (.aload_n 0, 1, 0) := by decide +kernel
theorem c365_1 : fx_ca 365 1 = some (366, 1, 2, 4) := by decide +kernel
theorem c365_4 : fx_op 365 4 = some (.istore_n 2, 5, 4) := by decide +kernel
theorem c365_5 : fx_op 365 5 = some (.aload_n 0, 6, 5) := by decide +kernel
theorem c365_6 : fx_gf 365 6 = some (12, 5, 9) := by decide +kernel
theorem c365_9 : fx_op 365 9 = some (.istore_n 3, 10, 9) := by decide +kernel
theorem c365_10 : fx_op 365 10 = some (.aload_n 0, 11, 10) := by decide +kernel
theorem c365_11 : fx_op 365 11 = some (.iload_n 1, 12, 11) := by decide +kernel
theorem c365_12 : fx_ca 365 12 = some (340, 2, 2, 15) := by decide +kernel
theorem c365_15 : fx_op 365 15 = some (.aload_n 0, 16, 15) := by decide +kernel
theorem c365_16 : fx_gf 365 16 = some (12, 5, 19) := by decide +kernel
theorem c365_19 : fx_op 365 19 = some (.iload_n 3, 20, 19) := by decide +kernel
theorem c365_20 : fx_op 365 20 = some (.isub, 21, 20) := by decide +kernel
theorem c365_21 : fx_op 365 21 = some (.istore 4, 23, 21) := by decide +kernel
theorem c365_23 : fx_op 365 23 = some (.aload_n 0, 24, 23) := by decide +kernel
theorem c365_24 : fx_op 365 24 = some (.iload_n 3, 25, 24) := by decide +kernel
theorem c365_25 : fx_pf 365 25 = some (12, 5, 0, 28) := by decide +kernel
theorem c365_28 : fx_ci 365 28 = some (1, 29) := by decide +kernel
theorem c365_29 : fx_op 365 29 = some (.aload_n 0, 30, 29) := by decide +kernel
theorem c365_30 : fx_gf 365 30 = some (12, 16, 33) := by decide +kernel
theorem c365_33 : fx_op 365 33 = some (.iadd, 34, 33) := by decide +kernel
theorem c365_34 : fx_ci 365 34 = some (2, 35) := by decide +kernel
theorem c365_35 : fx_op 365 35 = some (.iadd, 36, 35) := by decide +kernel
theorem c365_36 : fx_op 365 36 = some (.iload 4, 38, 36) := by decide +kernel
theorem c365_38 : fx_op 365 38 = some (.iadd, 39, 38) := by decide +kernel
theorem c365_39 : fx_ci 365 39 = some (32, 41) := by decide +kernel
theorem c365_41 : fx_op 365 41 = some (.iadd, 42, 41) := by decide +kernel
theorem c365_42 : fx_ci 365 42 = some (1, 43) := by decide +kernel
theorem c365_43 : fx_op 365 43 = some (.isub, 44, 43) := by decide +kernel
theorem c365_44 : fx_ci 365 44 = some (32, 46) := by decide +kernel
theorem c365_47 : fx_op 365 47 = some (.istore 5, 49, 47) := by decide +kernel
theorem c365_49 : fx_op 365 49 = some (.aload_n 0, 50, 49) := by decide +kernel
theorem c365_50 : fx_op 365 50 = some (.iload 5, 52, 50) := by decide +kernel
theorem c365_46 : fx_op 365 46 = some (.idiv, 47, 46) := by decide +kernel
theorem c365_52 : fx_ca 365 52 = some (368, 2, 2, 55) := by decide +kernel
theorem c365_55 : fx_op 365 55 = some (.istore 6, 57, 55) := by decide +kernel
theorem c365_57 : fx_op 365 57 = some (.iload_n 2, 58, 57) := by decide +kernel
theorem c365_58 : fx_op 365 58 = some (.ifCond .ge 12, 61, 70) := by decide +kernel
theorem c365_70 : fx_op 365 70 = some (.iload 6, 72, 70) := by decide +kernel
theorem c365_72 : fx_op 365 72 = some (.ifCond .ge 5, 75, 77) := by decide +kernel
theorem c365_77 : fx_op 365 77 = some (.aload_n 0, 78, 77) := by decide +kernel
theorem c365_75 : fx_ci 365 75 = some (0, 76) := by decide +kernel
theorem c365_61 : fx_op 365 61 = some (.aload_n 0, 62, 61) := by decide +kernel
theorem c365_78 : fx_ca 365 78 = some (370, 1, 2, 81) := by decide +kernel
theorem c365_76 : fx_op 365 76 = some (.ireturn, 77, 76) := by decide +kernel
theorem c365_62 : fx_ca 365 62 = some (341, 1, 2, 65) := by decide +kernel
theorem c365_81 : fx_ci 365 81 = some (32, 83) := by decide +kernel
theorem c365_83 : fx_op 365 83 = some (.iload 6, 85, 83) := by decide +kernel
theorem c365_85 : fx_op 365 85 = some (.imul, 86, 85) := by decide +kernel
theorem c365_86 : fx_op 365 86 = some (.istore 7, 88, 86) := by decide +kernel
theorem c365_88 : fx_ci 365 88 = some (0, 89) := by decide +kernel
theorem c365_89 : fx_op 365 89 = some (.istore 8, 91, 89) := by decide +kernel
theorem c365_65 : fx_ci 365 65 = some (15, 67) := by decide +kernel
theorem c365_67 : fx_op 365 67 = some (.if_icmp .eq 8, 70, 75) := by decide +kernel
theorem c365_91 : fx_op 365 91 = some (.iload 8, 93, 91) := by decide +kernel
theorem c365_93 : fx_ci 365 93 = some (32, 95) := by decide +kernel
theorem c365_95 : fx_op 365 95 = some (.iload 5, 97, 95) := by decide +kernel
theorem c365_97 : fx_op 365 97 = some (.imul, 98, 97) := by decide +kernel
theorem c365_98 : fx_op 365 98 = some (.if_icmp .ge 142, 101, 240) := by decide +kernel
theorem c365_101 : fx_op 365 101 = some (.iload 8, 103, 101) := by decide +kernel
theorem c365_103 : fx_ci 365 103 = some (3, 104) := by decide +kernel
theorem c365_104 : fx_op 365 104 = some (.isub, 105, 104) := by decide +kernel
theorem c365_105 : fx_op 365 105 = some (.aload_n 0, 106, 105) := by decide +kernel
theorem c365_106 : fx_gf 365 106 = some (12, 16, 109) := by decide +kernel
theorem c365_109 : fx_op 365 109 = some (.isub, 110, 109) := by decide +kernel
theorem c365_110 : fx_op 365 110 = some (.istore 9, 112, 110) := by decide +kernel
theorem c365_112 : fx_op 365 112 = some (.iload 9, 114, 112) := by decide +kernel
theorem c365_114 : fx_op 365 114 = some (.ifCond .lt 22, 117, 136) := by decide +kernel
theorem c365_136 : fx_ci 365 136 = some (0, 137) := by decide +kernel
theorem c365_137 : fx_op 365 137 = some (.istore 10, 139, 137) := by decide +kernel
theorem c365_139 : fx_op 365 139 = some (.iload 8, 141, 139) := by decide +kernel
theorem c365_141 : fx_op 365 141 = some (.ifCond .ne 12, 144, 153) := by decide +kernel
theorem c365_153 : fx_op 365 153 = some (.iload 8, 155, 153) := by decide +kernel
theorem c365_155 : fx_op 365 155 = some (.aload_n 0, 156, 155) := by decide +kernel
theorem c365_156 : fx_gf 365 156 = some (12, 16, 159) := by decide +kernel
theorem c365_159 : fx_op 365 159 = some (.if_icmp .gt 22, 162, 181) := by decide +kernel
theorem c365_181 : fx_op 365 181 = some (.iload 8, 183, 181) := by decide +kernel
theorem c365_183 : fx_op 365 183 = some (.aload_n 0, 184, 183) := by decide +kernel
theorem c365_184 : fx_gf 365 184 = some (12, 16, 187) := by decide +kernel
theorem c365_187 : fx_ci 365 187 = some (1, 188) := by decide +kernel
theorem c365_188 : fx_op 365 188 = some (.iadd, 189, 188) := by decide +kernel
theorem c365_189 : fx_op 365 189 = some (.if_icmp .ne 14, 192, 203) := by decide +kernel
theorem c365_203 : fx_op 365 203 = some (.iload 8, 205, 203) := by decide +kernel
theorem c365_205 : fx_op 365 205 = some (.aload_n 0, 206, 205) := by decide +kernel
theorem c365_206 : fx_gf 365 206 = some (12, 16, 209) := by decide +kernel
theorem c365_209 : fx_ci 365 209 = some (2, 210) := by decide +kernel
theorem c365_210 : fx_op 365 210 = some (.iadd, 211, 210) := by decide +kernel
theorem c365_211 : fx_op 365 211 = some (.if_icmp .ne 11, 214, 222) := by decide +kernel
theorem c365_222 : fx_op 365 222 = some (.aload_n 0, 223, 222) := by decide +kernel
theorem c365_223 : fx_gf 365 223 = some (12, 97, 226) := by decide +kernel
theorem c365_226 : fx_op 365 226 = some (.iload 7, 228, 226) := by decide +kernel
theorem c365_228 : fx_op 365 228 = some (.iload 8, 230, 228) := by decide +kernel
theorem c365_230 : fx_op 365 230 = some (.iadd, 231, 230) := by decide +kernel
theorem c365_231 : fx_op 365 231 = some (.iload 10, 233, 231) := by decide +kernel
theorem c365_240 : fx_op 365 240 = some (.aload_n 0, 241, 240) := by decide +kernel
theorem c365_241 : fx_op 365 241 = some (.iload_n 2, 242, 241) := by decide +kernel
theorem c365_242 : fx_op 365 242 = some (.iload 6, 244, 242) := by decide +kernel
theorem c365_244 : fx_op 365 244 = some (.iload 5, 246, 244) := by decide +kernel
theorem c365_117 : fx_op 365 117 = some (.iload 9, 119, 117) := by decide +kernel
theorem c365_119 : fx_op 365 119 = some (.iload 4, 121, 119) := by decide +kernel
theorem c365_121 : fx_op 365 121 = some (.if_icmp .ge 15, 124, 136) := by decide +kernel
theorem c365_124 : fx_op 365 124 = some (.aload_n 0, 125, 124) := by decide +kernel
theorem c365_125 : fx_gf 365 125 = some (12, 6, 128) := by decide +kernel
theorem c365_128 : fx_op 365 128 = some (.iload_n 3, 129, 128) := by decide +kernel
theorem c365_129 : fx_op 365 129 = some (.iload 9, 131, 129) := by decide +kernel
theorem c365_131 : fx_op 365 131 = some (.iadd, 132, 131) := by decide +kernel
theorem c365_132 : fx_op 365 132 = some (.iaload, 133, 132) := by decide +kernel
theorem c365_133 : fx_op 365 133 = some (.goto 4, 136, 137) := by decide +kernel
theorem c365_214 : fx_op 365 214 = some (.iload 4, 216, 214) := by decide +kernel
theorem c365_216 : fx_ci 365 216 = some (256, 219) := by decide +kernel
theorem c365_219 : fx_op 365 219 = some (.idiv, 220, 219) := by decide +kernel
theorem c365_220 : fx_op 365 220 = some (.istore 10, 222, 220) := by decide +kernel
theorem c365_192 : fx_op 365 192 = some (.iload 4, 194, 192) := by decide +kernel
theorem c365_194 : fx_ci 365 194 = some (256, 197) := by decide +kernel
theorem c365_197 : fx_op 365 197 = some (.irem, 198, 197) := by decide +kernel
theorem c365_198 : fx_op 365 198 = some (.istore 10, 200, 198) := by decide +kernel
theorem c365_200 : fx_op 365 200 = some (.goto 22, 203, 222) := by decide +kernel
theorem c365_162 : fx_op 365 162 = some (.aload_n 0, 163, 162) := by decide +kernel
theorem c365_163 : fx_gf 365 163 = some (12, 4, 166) := by decide +kernel
theorem c365_166 : fx_op 365 166 = some (.aload_n 0, 167, 166) := by decide +kernel
theorem c365_167 : fx_gf 365 167 = some (12, 15, 170) := by decide +kernel
theorem c365_170 : fx_op 365 170 = some (.iload 8, 172, 170) := by decide +kernel
theorem c365_172 : fx_op 365 172 = some (.iadd, 173, 172) := by decide +kernel
theorem c365_173 : fx_ci 365 173 = some (1, 174) := by decide +kernel
theorem c365_174 : fx_op 365 174 = some (.isub, 175, 174) := by decide +kernel
theorem c365_175 : fx_op 365 175 = some (.iaload, 176, 175) := by decide +kernel
theorem c365_176 : fx_op 365 176 = some (.istore 10, 178, 176) := by decide +kernel
theorem c365_178 : fx_op 365 178 = some (.goto 44, 181, 222) := by decide +kernel
theorem c365_144 : fx_op 365 144 = some (.aload_n 0, 145, 144) := by decide +kernel
theorem c365_145 : fx_gf 365 145 = some (12, 16, 148) := by decide +kernel
theorem c365_148 : fx_op 365 148 = some (.istore 10, 150, 148) := by decide +kernel
theorem c365_150 : fx_op 365 150 = some (.goto 72, 153, 222) := by decide +kernel
theorem c365_234 : fx_op 365 234 = some (.iinc 8 1, 237, 234) := by decide +kernel
theorem c365_246 : fx_ca 365 246 = some (371, 4, 2, 249) := by decide +kernel
theorem c365_233 : fx_op 365 233 = some (.iastore, 234, 233) := by decide +kernel
theorem c365_237 : fx_op 365 237 = some (.goto (-146), 240, 91) := by decide +kernel
theorem c365_249 : fx_ci 365 249 = some (1, 250) := by decide +kernel
theorem c365_250 : fx_op 365 250 = some (.ireturn, 251, 250) := by decide +kernel
theorem s365_0 {kc : List va_E} {d : Nat} {x1 : Int} {M : fx_M} {Q : Option fx_V → fx_M → Prop} (H : wc kc d 366 [jR 133] M (fun v M1 => wp kc (d + 1) 365 4 [some (jR 133), some (jI x1), none, none, none, none, none, none, none, none, none] (v.toList ++ []) M1 Q)) : wp kc (d + 1) 365 0 [some (jR 133), some (jI x1), none, none, none, none, none, none, none, none, none] [] M Q :=
  (x_aldn c365_0 rfl (wp_wk (l' := [some (jR 133), some (jI x1), none, none, none, none, none, none, none, none, none]) ⟨rfl, ⟨rfl, trivial⟩⟩ (x_cv (As := []) (st := []) c365_1 cl_133 kl366 rfl (Nat.le_of_ble_eq_true rfl) mx366 (Nat.le_refl _) H)))
theorem s365_4 {kc : List va_E} {d : Nat} {v1 u0 : Int} {M : fx_M} {Q : Option fx_V → fx_M → Prop} (H : wc kc d 340 [jR 133, jI v1] M (fun v M1 => wp kc (d + 1) 365 15 [some (jR 133), none, some (jI u0), some (jI (M 133 5)), none, none, none, none, none, none, none] (v.toList ++ []) M1 Q)) : wp kc (d + 1) 365 4 [some (jR 133), some (jI v1), none, none, none, none, none, none, none, none, none] [jI u0] M Q :=
  (x_istn (l' := [some (jR 133), some (jI v1), some (jI u0), none, none, none, none, none, none, none, none]) c365_4 rfl (x_aldn c365_5 rfl (x_gfi c365_6 k_133_5 (x_istn (l' := [some (jR 133), some (jI v1), some (jI u0), some (jI (M 133 5)), none, none, none, none, none, none, none]) c365_9 rfl (x_aldn c365_10 rfl (x_ildn c365_11 rfl (wp_wk (l' := [some (jR 133), none, some (jI u0), some (jI (M 133 5)), none, none, none, none, none, none, none]) ⟨rfl, ⟨rfl, ⟨rfl, trivial⟩⟩⟩ (x_cv (As := [jI v1]) (st := []) c365_12 cl_133 kl340 rfl (Nat.le_of_ble_eq_true rfl) mx340 (Nat.le_refl _) H))))))))
theorem s365_15 {kc : List va_E} {d : Nat} {v2 v3 : Int} {M : fx_M} {Q : Option fx_V → fx_M → Prop} (H : (((0 : Int) ≤ ((((1 + (M 133 16)) + 2) + ((M 133 5) - v3)) + 32) - 1 ∧ ((((1 + (M 133 16)) + 2) + ((M 133 5) - v3)) + 32) - 1 ≤ 2147483647)) ∧ wc kc d 368 [jR 133, jI ((((((1 + (M 133 16)) + 2) + ((M 133 5) - v3)) + 32) - 1) / 32)] (fx_up M 133 5 v3) (fun v M1 => wp kc (d + 1) 365 55 [some (jR 133), none, some (jI v2), some (jI v3), some (jI ((M 133 5) - v3)), some (jI ((((((1 + (M 133 16)) + 2) + ((M 133 5) - v3)) + 32) - 1) / 32)), none, none, none, none, none] (v.toList ++ []) M1 Q)) : wp kc (d + 1) 365 15 [some (jR 133), none, some (jI v2), some (jI v3), none, none, none, none, none, none, none] [] M Q :=
  (x_aldn c365_15 rfl (x_gfi c365_16 k_133_5 (x_ildn c365_19 rfl (x_isub c365_20 (x_ist (l' := [some (jR 133), none, some (jI v2), some (jI v3), some (jI ((M 133 5) - v3)), none, none, none, none, none, none]) c365_21 rfl (x_aldn c365_23 rfl (x_ildn c365_24 rfl (x_pfi c365_25 k_133_5 (x_ci c365_28 (x_aldn c365_29 rfl (x_gfi c365_30 k_133_16 (wp_vI (fx_upK (by decide)) (x_iadd c365_33 (x_ci c365_34 (x_iadd c365_35 (x_ild c365_36 rfl (x_iadd c365_38 (x_ci c365_39 (x_iadd c365_41 (x_ci c365_42 (x_isub c365_43 (x_ci c365_44 (x_idiv c365_46 H.1 (by decide) (x_ist (l' := [some (jR 133), none, some (jI v2), some (jI v3), some (jI ((M 133 5) - v3)), some (jI ((((((1 + (M 133 16)) + 2) + ((M 133 5) - v3)) + 32) - 1) / 32)), none, none, none, none, none]) c365_47 rfl (x_aldn c365_49 rfl (x_ild c365_50 rfl (wp_wk (l' := [some (jR 133), none, some (jI v2), some (jI v3), some (jI ((M 133 5) - v3)), some (jI ((((((1 + (M 133 16)) + 2) + ((M 133 5) - v3)) + 32) - 1) / 32)), none, none, none, none, none]) ⟨rfl, ⟨rfl, ⟨rfl, ⟨rfl, ⟨rfl, trivial⟩⟩⟩⟩⟩ (x_cv (As := [jI ((((((1 + (M 133 16)) + 2) + ((M 133 5) - v3)) + 32) - 1) / 32)]) (st := []) c365_52 cl_133 kl368 rfl (Nat.le_of_ble_eq_true rfl) mx368 (Nat.le_refl _) H.2))))))))))))))))))))))))))))
theorem s365_55 {kc : List va_E} {d : Nat} {v2 v3 v4 v5 u0 : Int} {M : fx_M} {Q : Option fx_V → fx_M → Prop} (H : ((fx_in32 v2)) ∧ (0 ≤ v2 → ((fx_in32 u0)) ∧ (0 ≤ u0 → wc kc d 370 [jR 133] M (fun v M1 => wp kc (d + 1) 365 81 [some (jR 133), none, some (jI v2), some (jI v3), some (jI v4), some (jI v5), some (jI u0), none, none, none, none] (v.toList ++ []) M1 Q)) ∧ (u0 < 0 → Q (some (jI 0)) M)) ∧ (v2 < 0 → wc kc d 341 [jR 133] M (fun v M1 => wp kc (d + 1) 365 65 [some (jR 133), none, some (jI v2), some (jI v3), some (jI v4), some (jI v5), some (jI u0), none, none, none, none] (v.toList ++ []) M1 Q))) : wp kc (d + 1) 365 55 [some (jR 133), none, some (jI v2), some (jI v3), some (jI v4), some (jI v5), none, none, none, none, none] [jI u0] M Q :=
  (x_ist (l' := [some (jR 133), none, some (jI v2), some (jI v3), some (jI v4), some (jI v5), some (jI u0), none, none, none, none]) c365_55 rfl (x_ildn c365_57 rfl (x_zge c365_58 H.1 (fun h3 => (x_ild c365_70 rfl (x_zge c365_72 (H.2.1 h3).1 (fun h1 => (x_aldn c365_77 rfl (wp_wk (l' := [some (jR 133), none, some (jI v2), some (jI v3), some (jI v4), some (jI v5), some (jI u0), none, none, none, none]) ⟨rfl, ⟨rfl, ⟨rfl, ⟨rfl, ⟨rfl, ⟨rfl, trivial⟩⟩⟩⟩⟩⟩ (x_cv (As := []) (st := []) c365_78 cl_133 kl370 rfl (Nat.le_of_ble_eq_true rfl) mx370 (Nat.le_refl _) ((H.2.1 h3).2.1 h1))))) (fun h2 => (x_ci c365_75 (x_zrt c365_76 r365 (by decide) ((H.2.1 h3).2.2 h2))))))) (fun h4 => (x_aldn c365_61 rfl (wp_wk (l' := [some (jR 133), none, some (jI v2), some (jI v3), some (jI v4), some (jI v5), some (jI u0), none, none, none, none]) ⟨rfl, ⟨rfl, ⟨rfl, ⟨rfl, ⟨rfl, ⟨rfl, trivial⟩⟩⟩⟩⟩⟩ (x_cv (As := []) (st := []) c365_62 cl_133 kl341 rfl (Nat.le_of_ble_eq_true rfl) mx341 (Nat.le_refl _) (H.2.2 h4))))))))
theorem s365_65 {kc : List va_E} {d : Nat} {v2 v3 v4 v5 v6 u0 : Int} {M : fx_M} {Q : Option fx_V → fx_M → Prop} (H : ((fx_in32 u0)) ∧ (u0 = 15 → Q (some (jI 0)) M) ∧ (u0 ≠ 15 → ((fx_in32 v6)) ∧ (0 ≤ v6 → wc kc d 370 [jR 133] M (fun v M1 => wp kc (d + 1) 365 81 [some (jR 133), none, some (jI v2), some (jI v3), some (jI v4), some (jI v5), some (jI v6), none, none, none, none] (v.toList ++ []) M1 Q)) ∧ (v6 < 0 → Q (some (jI 0)) M))) : wp kc (d + 1) 365 65 [some (jR 133), none, some (jI v2), some (jI v3), some (jI v4), some (jI v5), some (jI v6), none, none, none, none] [jI u0] M Q :=
  (x_ci c365_65 (x_ceq c365_67 H.1 (by decide) (fun h3 => (x_ci c365_75 (x_zrt c365_76 r365 (by decide) (H.2.1 h3)))) (fun h4 => (x_ild c365_70 rfl (x_zge c365_72 (H.2.2 h4).1 (fun h1 => (x_aldn c365_77 rfl (wp_wk (l' := [some (jR 133), none, some (jI v2), some (jI v3), some (jI v4), some (jI v5), some (jI v6), none, none, none, none]) ⟨rfl, ⟨rfl, ⟨rfl, ⟨rfl, ⟨rfl, ⟨rfl, trivial⟩⟩⟩⟩⟩⟩ (x_cv (As := []) (st := []) c365_78 cl_133 kl370 rfl (Nat.le_of_ble_eq_true rfl) mx370 (Nat.le_refl _) ((H.2.2 h4).2.1 h1))))) (fun h2 => (x_ci c365_75 (x_zrt c365_76 r365 (by decide) ((H.2.2 h4).2.2 h2)))))))))
theorem s365_81 {kc : List va_E} {d : Nat} {v2 v3 v4 v5 v6 : Int} {M : fx_M} {Q : Option fx_V → fx_M → Prop} (H : wp kc (d + 1) 365 91 [some (jR 133), none, some (jI v2), some (jI v3), some (jI v4), some (jI v5), some (jI v6), some (jI (32 * v6)), some (jI 0), none, none] [] M Q) : wp kc (d + 1) 365 81 [some (jR 133), none, some (jI v2), some (jI v3), some (jI v4), some (jI v5), some (jI v6), none, none, none, none] [] M Q :=
  (x_ci c365_81 (x_ild c365_83 rfl (x_imul c365_85 (x_ist (l' := [some (jR 133), none, some (jI v2), some (jI v3), some (jI v4), some (jI v5), some (jI v6), some (jI (32 * v6)), none, none, none]) c365_86 rfl (x_ci c365_88 (x_ist (l' := [some (jR 133), none, some (jI v2), some (jI v3), some (jI v4), some (jI v5), some (jI v6), some (jI (32 * v6)), some (jI 0), none, none]) c365_89 rfl (wp_wk (l' := [some (jR 133), none, some (jI v2), some (jI v3), some (jI v4), some (jI v5), some (jI v6), some (jI (32 * v6)), some (jI 0), none, none]) ⟨rfl, ⟨rfl, ⟨rfl, ⟨rfl, ⟨rfl, ⟨rfl, ⟨rfl, ⟨rfl, trivial⟩⟩⟩⟩⟩⟩⟩⟩ H)))))))
theorem s365_91 {kc : List va_E} {d : Nat} {v2 v3 v4 v5 v6 v7 v8 : Int} {M : fx_M} {Q : Option fx_V → fx_M → Prop} (H : ((fx_in32 v8) ∧ (fx_in32 (32 * v5))) ∧ (32 * v5 ≤ v8 → wc kc d 371 [jR 133, jI v2, jI v6, jI v5] M (fun v M1 => wp kc (d + 1) 365 249 [none, none, none, none, none, none, none, none, none, none, none] (v.toList ++ []) M1 Q)) ∧ (v8 < 32 * v5 → ((fx_in32 ((v8 - 3) - (M 133 16)))) ∧ (0 ≤ (v8 - 3) - (M 133 16) → (fx_in32 ((v8 - 3) - (M 133 16)))) ∧ (0 ≤ (v8 - 3) - (M 133 16) → (fx_in32 v4)) ∧ (0 ≤ (v8 - 3) - (M 133 16) → (v8 - 3) - (M 133 16) < v4 → ((((0 : Int) ≤ v3 + ((v8 - 3) - (M 133 16)) ∧ v3 + ((v8 - 3) - (M 133 16)) < 6000)))) ∧ ((fx_in32 v8)) ∧ (v8 ≠ 0 → (fx_in32 v8)) ∧ (v8 ≠ 0 → (fx_in32 (M 133 16))) ∧ (v8 ≠ 0 → M 133 16 < v8 → (fx_in32 v8)) ∧ (v8 ≠ 0 → M 133 16 < v8 → (fx_in32 ((M 133 16) + 1))) ∧ (v8 ≠ 0 → M 133 16 < v8 → v8 ≠ (M 133 16) + 1 → (fx_in32 v8)) ∧ (v8 ≠ 0 → M 133 16 < v8 → v8 ≠ (M 133 16) + 1 → (fx_in32 ((M 133 16) + 2))) ∧ (v8 ≠ 0 → M 133 16 < v8 → v8 ≠ (M 133 16) + 1 → v8 = (M 133 16) + 2 → ((((0 : Int) ≤ v4 ∧ v4 ≤ 2147483647)))) ∧ (v8 ≠ 0 → M 133 16 < v8 → v8 = (M 133 16) + 1 → ((((0 : Int) ≤ v4 ∧ v4 ≤ 2147483647)))) ∧ (v8 ≠ 0 → v8 ≤ M 133 16 → ((((0 : Int) ≤ ((M 133 15) + v8) - 1 ∧ ((M 133 15) + v8) - 1 < 6100)))) ∧ (((0 : Int) ≤ v7 + v8 ∧ v7 + v8 < 1024)) ∧ wp kc (d + 1) 365 91 [some (jR 133), none, some (jI v2), some (jI v3), some (jI v4), some (jI v5), some (jI v6), some (jI v7), some (jI (v8 + 1)), none, none] [] (fx_up M 188 (v7 + v8) (if v8 = 0 then (M 133 16 : Int) else (if M 133 16 < v8 then ((if v8 = (M 133 16) + 1 then (v4 % 256 : Int) else (if v8 = (M 133 16) + 2 then (v4 / 256 : Int) else (if (v8 - 3) - (M 133 16) < 0 then (0 : Int) else (if (v8 - 3) - (M 133 16) < v4 then (M 136 (v3 + ((v8 - 3) - (M 133 16))) : Int) else 0)))) : Int) else M 135 (((M 133 15) + v8) - 1)))) Q)) : wp kc (d + 1) 365 91 [some (jR 133), none, some (jI v2), some (jI v3), some (jI v4), some (jI v5), some (jI v6), some (jI v7), some (jI v8), none, none] [] M Q :=
  (x_ild c365_91 rfl (x_ci c365_93 (x_ild c365_95 rfl (x_imul c365_97 (x_cge c365_98 H.1.1 H.1.2 (fun h1 => (x_aldn c365_240 rfl (x_ildn c365_241 rfl (x_ild c365_242 rfl (x_ild c365_244 rfl (wp_wk (l' := [none, none, none, none, none, none, none, none, none, none, none]) trivial (x_cv (As := [jI v2, jI v6, jI v5]) (st := []) c365_246 cl_133 kl371 rfl (Nat.le_of_ble_eq_true rfl) mx371 (Nat.le_refl _) (H.2.1 h1)))))))) (fun h2 => (x_ild c365_101 rfl (x_ci c365_103 (x_isub c365_104 (x_aldn c365_105 rfl (x_gfi c365_106 k_133_16 (x_isub c365_109 (x_ist (l' := [some (jR 133), none, some (jI v2), some (jI v3), some (jI v4), some (jI v5), some (jI v6), some (jI v7), some (jI v8), some (jI ((v8 - 3) - (M 133 16))), none]) c365_110 rfl (x_ild c365_112 rfl (have K : wp kc (d + 1) 365 137 [some (jR 133), none, some (jI v2), some (jI v3), some (jI v4), some (jI v5), some (jI v6), some (jI v7), some (jI v8), none, none] [jI (if (v8 - 3) - (M 133 16) < 0 then (0 : Int) else (if (v8 - 3) - (M 133 16) < v4 then (M 136 (v3 + ((v8 - 3) - (M 133 16))) : Int) else 0))] M Q := (x_ist (l' := [some (jR 133), none, some (jI v2), some (jI v3), some (jI v4), some (jI v5), some (jI v6), some (jI v7), some (jI v8), none, some (jI (if (v8 - 3) - (M 133 16) < 0 then (0 : Int) else (if (v8 - 3) - (M 133 16) < v4 then (M 136 (v3 + ((v8 - 3) - (M 133 16))) : Int) else 0)))]) c365_137 rfl (x_ild c365_139 rfl (have K : wp kc (d + 1) 365 222 [some (jR 133), none, some (jI v2), some (jI v3), some (jI v4), some (jI v5), some (jI v6), some (jI v7), some (jI v8), none, some (jI (if v8 = 0 then (M 133 16 : Int) else (if M 133 16 < v8 then ((if v8 = (M 133 16) + 1 then (v4 % 256 : Int) else (if v8 = (M 133 16) + 2 then (v4 / 256 : Int) else (if (v8 - 3) - (M 133 16) < 0 then (0 : Int) else (if (v8 - 3) - (M 133 16) < v4 then (M 136 (v3 + ((v8 - 3) - (M 133 16))) : Int) else 0)))) : Int) else M 135 (((M 133 15) + v8) - 1))))] [] M Q := (x_aldn c365_222 rfl (x_gfr c365_223 k_133_97 (x_ild c365_226 rfl (x_ild c365_228 rfl (x_iadd c365_230 (x_ild c365_231 rfl (x_iast c365_233 a_188 (H.2.2 h2).2.2.2.2.2.2.2.2.2.2.2.2.2.2.1 (by decide) (x_inc (l' := [some (jR 133), none, some (jI v2), some (jI v3), some (jI v4), some (jI v5), some (jI v6), some (jI v7), some (jI (v8 + 1)), none, some (jI (if v8 = 0 then (M 133 16 : Int) else (if M 133 16 < v8 then ((if v8 = (M 133 16) + 1 then (v4 % 256 : Int) else (if v8 = (M 133 16) + 2 then (v4 / 256 : Int) else (if (v8 - 3) - (M 133 16) < 0 then (0 : Int) else (if (v8 - 3) - (M 133 16) < v4 then (M 136 (v3 + ((v8 - 3) - (M 133 16))) : Int) else 0)))) : Int) else M 135 (((M 133 15) + v8) - 1))))]) c365_234 rfl rfl (x_goto c365_237 (wp_wk (l' := [some (jR 133), none, some (jI v2), some (jI v3), some (jI v4), some (jI v5), some (jI v6), some (jI v7), some (jI (v8 + 1)), none, none]) ⟨rfl, ⟨rfl, ⟨rfl, ⟨rfl, ⟨rfl, ⟨rfl, ⟨rfl, ⟨rfl, trivial⟩⟩⟩⟩⟩⟩⟩⟩ (H.2.2 h2).2.2.2.2.2.2.2.2.2.2.2.2.2.2.2)))))))))); (x_zne c365_141 (H.2.2 h2).2.2.2.2.1 (fun (h7 : v8 ≠ 0) => (x_ild c365_153 rfl (x_aldn c365_155 rfl (x_gfi c365_156 k_133_16 (x_cgt c365_159 ((H.2.2 h2).2.2.2.2.2.1 h7) ((H.2.2 h2).2.2.2.2.2.2.1 h7) (fun (h9 : M 133 16 < v8) => (x_ild c365_181 rfl (x_aldn c365_183 rfl (x_gfi c365_184 k_133_16 (x_ci c365_187 (x_iadd c365_188 (x_cne c365_189 ((H.2.2 h2).2.2.2.2.2.2.2.1 h7 h9) ((H.2.2 h2).2.2.2.2.2.2.2.2.1 h7 h9) (fun (h11 : v8 ≠ (M 133 16) + 1) => (x_ild c365_203 rfl (x_aldn c365_205 rfl (x_gfi c365_206 k_133_16 (x_ci c365_209 (x_iadd c365_210 (x_cne c365_211 ((H.2.2 h2).2.2.2.2.2.2.2.2.2.1 h7 h9 h11) ((H.2.2 h2).2.2.2.2.2.2.2.2.2.2.1 h7 h9 h11) (fun (h13 : v8 ≠ (M 133 16) + 2) => (wp_wk (l' := [some (jR 133), none, some (jI v2), some (jI v3), some (jI v4), some (jI v5), some (jI v6), some (jI v7), some (jI v8), none, some (jI (if (v8 - 3) - (M 133 16) < 0 then (0 : Int) else (if (v8 - 3) - (M 133 16) < v4 then (M 136 (v3 + ((v8 - 3) - (M 133 16))) : Int) else 0)))]) ⟨rfl, ⟨rfl, ⟨rfl, ⟨rfl, ⟨rfl, ⟨rfl, ⟨rfl, ⟨rfl, ⟨rfl, trivial⟩⟩⟩⟩⟩⟩⟩⟩⟩ (by have K := K; first | (simp only [if_neg h7, if_pos h9, if_neg h11, if_neg h13] at K ⊢; exact K) | (exfalso; omega)))) (fun (h14 : v8 = (M 133 16) + 2) => (x_ild c365_214 rfl (x_ci c365_216 (x_idiv c365_219 ((H.2.2 h2).2.2.2.2.2.2.2.2.2.2.2.1 h7 h9 h11 h14) (by decide) (x_ist (l' := [some (jR 133), none, some (jI v2), some (jI v3), some (jI v4), some (jI v5), some (jI v6), some (jI v7), some (jI v8), none, some (jI (v4 / 256))]) c365_220 rfl (wp_wk (l' := [some (jR 133), none, some (jI v2), some (jI v3), some (jI v4), some (jI v5), some (jI v6), some (jI v7), some (jI v8), none, some (jI (v4 / 256))]) ⟨rfl, ⟨rfl, ⟨rfl, ⟨rfl, ⟨rfl, ⟨rfl, ⟨rfl, ⟨rfl, ⟨rfl, trivial⟩⟩⟩⟩⟩⟩⟩⟩⟩ (by have K := K; first | (simp only [if_neg h7, if_pos h9, if_neg h11, if_pos h14] at K ⊢; exact K) | (exfalso; omega))))))))))))))) (fun (h12 : v8 = (M 133 16) + 1) => (x_ild c365_192 rfl (x_ci c365_194 (x_irem c365_197 ((H.2.2 h2).2.2.2.2.2.2.2.2.2.2.2.2.1 h7 h9 h12) (by decide) (x_ist (l' := [some (jR 133), none, some (jI v2), some (jI v3), some (jI v4), some (jI v5), some (jI v6), some (jI v7), some (jI v8), none, some (jI (v4 % 256))]) c365_198 rfl (x_goto c365_200 (wp_wk (l' := [some (jR 133), none, some (jI v2), some (jI v3), some (jI v4), some (jI v5), some (jI v6), some (jI v7), some (jI v8), none, some (jI (v4 % 256))]) ⟨rfl, ⟨rfl, ⟨rfl, ⟨rfl, ⟨rfl, ⟨rfl, ⟨rfl, ⟨rfl, ⟨rfl, trivial⟩⟩⟩⟩⟩⟩⟩⟩⟩ (by have K := K; first | (simp only [if_neg h7, if_pos h9, if_pos h12] at K ⊢; exact K) | (exfalso; omega)))))))))))))))) (fun (h10 : v8 ≤ M 133 16) => (x_aldn c365_162 rfl (x_gfr c365_163 k_133_4 (x_aldn c365_166 rfl (x_gfi c365_167 k_133_15 (x_ild c365_170 rfl (x_iadd c365_172 (x_ci c365_173 (x_isub c365_174 (x_iald c365_175 a_135 ((H.2.2 h2).2.2.2.2.2.2.2.2.2.2.2.2.2.1 h7 h10) (by decide) (x_ist (l' := [some (jR 133), none, some (jI v2), some (jI v3), some (jI v4), some (jI v5), some (jI v6), some (jI v7), some (jI v8), none, some (jI (M 135 (((M 133 15) + v8) - 1)))]) c365_176 rfl (x_goto c365_178 (wp_wk (l' := [some (jR 133), none, some (jI v2), some (jI v3), some (jI v4), some (jI v5), some (jI v6), some (jI v7), some (jI v8), none, some (jI (M 135 (((M 133 15) + v8) - 1)))]) ⟨rfl, ⟨rfl, ⟨rfl, ⟨rfl, ⟨rfl, ⟨rfl, ⟨rfl, ⟨rfl, ⟨rfl, trivial⟩⟩⟩⟩⟩⟩⟩⟩⟩ (by have K := K; first | (simp only [if_neg h7, if_neg (Int.not_lt.mpr h10)] at K ⊢; exact K) | (exfalso; omega)))))))))))))))))))) (fun (h8 : v8 = 0) => (x_aldn c365_144 rfl (x_gfi c365_145 k_133_16 (x_ist (l' := [some (jR 133), none, some (jI v2), some (jI v3), some (jI v4), some (jI v5), some (jI v6), some (jI v7), some (jI v8), none, some (jI (M 133 16))]) c365_148 rfl (x_goto c365_150 (wp_wk (l' := [some (jR 133), none, some (jI v2), some (jI v3), some (jI v4), some (jI v5), some (jI v6), some (jI v7), some (jI v8), none, some (jI (M 133 16))]) ⟨rfl, ⟨rfl, ⟨rfl, ⟨rfl, ⟨rfl, ⟨rfl, ⟨rfl, ⟨rfl, ⟨rfl, trivial⟩⟩⟩⟩⟩⟩⟩⟩⟩ (by have K := K; first | (simp only [if_pos h8] at K ⊢; exact K) | (exfalso; omega)))))))))))); (x_zlt c365_114 (H.2.2 h2).1 (fun (h3 : (v8 - 3) - (M 133 16) < 0) => (x_ci c365_136 (wp_wk (l' := [some (jR 133), none, some (jI v2), some (jI v3), some (jI v4), some (jI v5), some (jI v6), some (jI v7), some (jI v8), none, none]) ⟨rfl, ⟨rfl, ⟨rfl, ⟨rfl, ⟨rfl, ⟨rfl, ⟨rfl, ⟨rfl, trivial⟩⟩⟩⟩⟩⟩⟩⟩ (by have K := K; first | (simp only [if_pos h3] at K ⊢; exact K) | (exfalso; omega))))) (fun (h4 : 0 ≤ (v8 - 3) - (M 133 16)) => (x_ild c365_117 rfl (x_ild c365_119 rfl (x_cge c365_121 ((H.2.2 h2).2.1 h4) ((H.2.2 h2).2.2.1 h4) (fun (h5 : v4 ≤ (v8 - 3) - (M 133 16)) => (x_ci c365_136 (wp_wk (l' := [some (jR 133), none, some (jI v2), some (jI v3), some (jI v4), some (jI v5), some (jI v6), some (jI v7), some (jI v8), none, none]) ⟨rfl, ⟨rfl, ⟨rfl, ⟨rfl, ⟨rfl, ⟨rfl, ⟨rfl, ⟨rfl, trivial⟩⟩⟩⟩⟩⟩⟩⟩ (by have K := K; first | (simp only [if_neg (Int.not_lt.mpr h4), if_neg (Int.not_lt.mpr h5)] at K ⊢; exact K) | (exfalso; omega))))) (fun (h6 : (v8 - 3) - (M 133 16) < v4) => (x_aldn c365_124 rfl (x_gfr c365_125 k_133_6 (x_ildn c365_128 rfl (x_ild c365_129 rfl (x_iadd c365_131 (x_iald c365_132 a_136 ((H.2.2 h2).2.2.2.1 h4 h6) (by decide) (x_goto c365_133 (wp_wk (l' := [some (jR 133), none, some (jI v2), some (jI v3), some (jI v4), some (jI v5), some (jI v6), some (jI v7), some (jI v8), none, none]) ⟨rfl, ⟨rfl, ⟨rfl, ⟨rfl, ⟨rfl, ⟨rfl, ⟨rfl, ⟨rfl, trivial⟩⟩⟩⟩⟩⟩⟩⟩ (by have K := K; first | (simp only [if_neg (Int.not_lt.mpr h4), if_pos h6] at K ⊢; exact K) | (exfalso; omega)))))))))))))))))))))))))))))))
theorem s365_249 {kc : List va_E} {d : Nat} {M : fx_M} {Q : Option fx_V → fx_M → Prop} (H : Q (some (jI 1)) M) : wp kc (d + 1) 365 249 [none, none, none, none, none, none, none, none, none, none, none] [] M Q :=
  (x_ci c365_249 (x_zrt c365_250 r365 (by decide) H))
theorem s365 {kc : List va_E} {d : Nat} {x1 : Int} {M : fx_M} {Q : Option fx_V → fx_M → Prop} (H : wc kc d 366 [jR 133] M (fun v M1 => wp kc (d + 1) 365 4 [some (jR 133), some (jI x1), none, none, none, none, none, none, none, none, none] (v.toList ++ []) M1 Q)) : wc kc (d + 1) 365 [jR 133, jI x1] M Q :=
  wc_of (wp_wk (l' := [some (jR 133), some (jI x1), none, none, none, none, none, none, none, none, none]) ⟨rfl, ⟨rfl, trivial⟩⟩ (s365_0 H))

/- PuzzleHouseModel.find()I -/
theorem c366_0 : fx_ci 366 0 = some (0, 1) := by decide +kernel
theorem c366_1 : fx_op 366 1 = some (.istore_n 1, 2, 1) := by decide +kernel
theorem c366_2 : fx_op 366 2 = some (.iload_n 1, 3, 2) := by decide +kernel
theorem c366_3 : fx_op 366 3 = some (.aload_n 0, 4, 3) := by decide +kernel
theorem c366_4 : fx_ca 366 4 = some (341, 1, 2, 7) := by decide +kernel
theorem c366_7 : fx_op 366 7 = some (.if_icmp .ge 19, 10, 26) := by decide +kernel
theorem c366_26 : fx_ci 366 26 = some ((-1), 27) := by decide +kernel
theorem c366_10 : fx_op 366 10 = some (.aload_n 0, 11, 10) := by decide +kernel
theorem c366_11 : fx_op 366 11 = some (.iload_n 1, 12, 11) := by decide +kernel
theorem c366_27 : fx_op 366 27 = some (.ireturn, 28, 27) := by decide +kernel
theorem c366_12 : fx_ca 366 12 = some (367, 2, 2, 15) := by decide +kernel
theorem c366_15 : fx_op 366 15 = some (.ifCond .eq 5, 18, 20) := by decide +kernel
theorem c366_20 : fx_op 366 20 = some (.iinc 1 1, 23, 20) := by decide +kernel
theorem c366_18 : fx_op 366 18 = some (.iload_n 1, 19, 18) := by decide +kernel
theorem c366_23 : fx_op 366 23 = some (.goto (-21), 26, 2) := by decide +kernel
theorem c366_19 : fx_op 366 19 = some (.ireturn, 20, 19) := by decide +kernel
theorem s366_0 {kc : List va_E} {d : Nat} {M : fx_M} {Q : Option fx_V → fx_M → Prop} (H : wp kc (d + 1) 366 2 [some (jR 133), some (jI 0)] [] M Q) : wp kc (d + 1) 366 0 [some (jR 133), none] [] M Q :=
  (x_ci c366_0 (x_istn (l' := [some (jR 133), some (jI 0)]) c366_1 rfl (wp_wk (l' := [some (jR 133), some (jI 0)]) ⟨rfl, ⟨rfl, trivial⟩⟩ H)))
theorem s366_2 {kc : List va_E} {d : Nat} {v1 : Int} {M : fx_M} {Q : Option fx_V → fx_M → Prop} (H : wc kc d 341 [jR 133] M (fun v M1 => wp kc (d + 1) 366 7 [some (jR 133), some (jI v1)] (v.toList ++ [jI v1]) M1 Q)) : wp kc (d + 1) 366 2 [some (jR 133), some (jI v1)] [] M Q :=
  (x_ildn c366_2 rfl (x_aldn c366_3 rfl (wp_wk (l' := [some (jR 133), some (jI v1)]) ⟨rfl, ⟨rfl, trivial⟩⟩ (x_cv (As := []) (st := [jI v1]) c366_4 cl_133 kl341 rfl (Nat.le_of_ble_eq_true rfl) mx341 (Nat.le_refl _) H))))
theorem s366_7 {kc : List va_E} {d : Nat} {v1 u0 u1 : Int} {M : fx_M} {Q : Option fx_V → fx_M → Prop} (H : ((fx_in32 u1) ∧ (fx_in32 u0)) ∧ (u0 ≤ u1 → Q (some (jI (-1))) M) ∧ (u1 < u0 → wc kc d 367 [jR 133, jI v1] M (fun v M1 => wp kc (d + 1) 366 15 [some (jR 133), some (jI v1)] (v.toList ++ []) M1 Q))) : wp kc (d + 1) 366 7 [some (jR 133), some (jI v1)] [jI u0, jI u1] M Q :=
  (x_cge c366_7 H.1.1 H.1.2 (fun h1 => (x_ci c366_26 (x_irt c366_27 r366 (H.2.1 h1)))) (fun h2 => (x_aldn c366_10 rfl (x_ildn c366_11 rfl (wp_wk (l' := [some (jR 133), some (jI v1)]) ⟨rfl, ⟨rfl, trivial⟩⟩ (x_cv (As := [jI v1]) (st := []) c366_12 cl_133 kl367 rfl (Nat.le_of_ble_eq_true rfl) mx367 (Nat.le_refl _) (H.2.2 h2)))))))
theorem s366_15 {kc : List va_E} {d : Nat} {v1 u0 : Int} {M : fx_M} {Q : Option fx_V → fx_M → Prop} (H : ((fx_in32 u0)) ∧ (u0 = 0 → wp kc (d + 1) 366 2 [some (jR 133), some (jI (v1 + 1))] [] M Q) ∧ (u0 ≠ 0 → Q (some (jI v1)) M)) : wp kc (d + 1) 366 15 [some (jR 133), some (jI v1)] [jI u0] M Q :=
  (x_zeq c366_15 H.1 (fun h1 => (x_inc (l' := [some (jR 133), some (jI (v1 + 1))]) c366_20 rfl rfl (x_goto c366_23 (wp_wk (l' := [some (jR 133), some (jI (v1 + 1))]) ⟨rfl, ⟨rfl, trivial⟩⟩ (H.2.1 h1))))) (fun h2 => (x_ildn c366_18 rfl (x_irt c366_19 r366 (H.2.2 h2)))))
theorem s366 {kc : List va_E} {d : Nat} {M : fx_M} {Q : Option fx_V → fx_M → Prop} (H : wp kc (d + 1) 366 2 [some (jR 133), some (jI 0)] [] M Q) : wc kc (d + 1) 366 [jR 133] M Q :=
  wc_of (wp_wk (l' := [some (jR 133), none]) ⟨rfl, trivial⟩ (s366_0 H))

/- PuzzleHouseModel.isNamed(I)Z -/
theorem c367_0 : fx_ci 367 0 = some (32, 2) := by decide +kernel
theorem c367_2 : fx_op 367 2 = some (.aload_n 0, 3, 2) := by decide +kernel
theorem c367_3 : fx_op 367 3 = some (.iload_n 1, 4, 3) := by decide +kernel
theorem c367_4 : fx_ca 367 4 = some (344, 2, 2, 7) := by decide +kernel
theorem c367_7 : fx_op 367 7 = some (.imul, 8, 7) := by decide +kernel
theorem c367_8 : fx_op 367 8 = some (.istore_n 2, 9, 8) := by decide +kernel
theorem c367_9 : fx_op 367 9 = some (.aload_n 0, 10, 9) := by decide +kernel
theorem c367_10 : fx_gf 367 10 = some (12, 97, 13) := by decide +kernel
theorem c367_13 : fx_op 367 13 = some (.iload_n 2, 14, 13) := by decide +kernel
theorem c367_15 : fx_op 367 15 = some (.aload_n 0, 16, 15) := by decide +kernel
theorem c367_16 : fx_gf 367 16 = some (12, 16, 19) := by decide +kernel
theorem c367_19 : fx_op 367 19 = some (.if_icmp .eq 5, 22, 24) := by decide +kernel
theorem c367_24 : fx_ci 367 24 = some (0, 25) := by decide +kernel
theorem c367_25 : fx_op 367 25 = some (.istore_n 3, 26, 25) := by decide +kernel
theorem c367_22 : fx_ci 367 22 = some (0, 23) := by decide +kernel
theorem c367_14 : fx_op 367 14 = some (.iaload, 15, 14) := by decide +kernel
theorem c367_23 : fx_op 367 23 = some (.ireturn, 24, 23) := by decide +kernel
theorem c367_26 : fx_op 367 26 = some (.iload_n 3, 27, 26) := by decide +kernel
theorem c367_27 : fx_op 367 27 = some (.aload_n 0, 28, 27) := by decide +kernel
theorem c367_28 : fx_gf 367 28 = some (12, 16, 31) := by decide +kernel
theorem c367_31 : fx_op 367 31 = some (.if_icmp .ge 35, 34, 66) := by decide +kernel
theorem c367_66 : fx_ci 367 66 = some (1, 67) := by decide +kernel
theorem c367_34 : fx_op 367 34 = some (.aload_n 0, 35, 34) := by decide +kernel
theorem c367_35 : fx_gf 367 35 = some (12, 97, 38) := by decide +kernel
theorem c367_38 : fx_op 367 38 = some (.iload_n 2, 39, 38) := by decide +kernel
theorem c367_39 : fx_ci 367 39 = some (1, 40) := by decide +kernel
theorem c367_40 : fx_op 367 40 = some (.iadd, 41, 40) := by decide +kernel
theorem c367_41 : fx_op 367 41 = some (.iload_n 3, 42, 41) := by decide +kernel
theorem c367_42 : fx_op 367 42 = some (.iadd, 43, 42) := by decide +kernel
theorem c367_44 : fx_op 367 44 = some (.aload_n 0, 45, 44) := by decide +kernel
theorem c367_45 : fx_gf 367 45 = some (12, 4, 48) := by decide +kernel
theorem c367_48 : fx_op 367 48 = some (.aload_n 0, 49, 48) := by decide +kernel
theorem c367_49 : fx_gf 367 49 = some (12, 15, 52) := by decide +kernel
theorem c367_52 : fx_op 367 52 = some (.iload_n 3, 53, 52) := by decide +kernel
theorem c367_53 : fx_op 367 53 = some (.iadd, 54, 53) := by decide +kernel
theorem c367_55 : fx_op 367 55 = some (.if_icmp .eq 5, 58, 60) := by decide +kernel
theorem c367_60 : fx_op 367 60 = some (.iinc 3 1, 63, 60) := by decide +kernel
theorem c367_58 : fx_ci 367 58 = some (0, 59) := by decide +kernel
theorem c367_67 : fx_op 367 67 = some (.ireturn, 68, 67) := by decide +kernel
theorem c367_43 : fx_op 367 43 = some (.iaload, 44, 43) := by decide +kernel
theorem c367_54 : fx_op 367 54 = some (.iaload, 55, 54) := by decide +kernel
theorem c367_63 : fx_op 367 63 = some (.goto (-37), 66, 26) := by decide +kernel
theorem c367_59 : fx_op 367 59 = some (.ireturn, 60, 59) := by decide +kernel
theorem s367_0 {kc : List va_E} {d : Nat} {x1 : Int} {M : fx_M} {Q : Option fx_V → fx_M → Prop} (H : wc kc d 344 [jR 133, jI x1] M (fun v M1 => wp kc (d + 1) 367 7 [some (jR 133), none, none, none] (v.toList ++ [jI 32]) M1 Q)) : wp kc (d + 1) 367 0 [some (jR 133), some (jI x1), none, none] [] M Q :=
  (x_ci c367_0 (x_aldn c367_2 rfl (x_ildn c367_3 rfl (wp_wk (l' := [some (jR 133), none, none, none]) ⟨rfl, trivial⟩ (x_cv (As := [jI x1]) (st := [jI 32]) c367_4 cl_133 kl344 rfl (Nat.le_of_ble_eq_true rfl) mx344 (Nat.le_refl _) H)))))
theorem s367_7 {kc : List va_E} {d : Nat} {u0 u1 : Int} {M : fx_M} {Q : Option fx_V → fx_M → Prop} (H : (((0 : Int) ≤ u1 * u0 ∧ u1 * u0 < 1024)) ∧ ((fx_in32 (M 188 (u1 * u0))) ∧ (fx_in32 (M 133 16))) ∧ (M 188 (u1 * u0) = M 133 16 → wp kc (d + 1) 367 26 [some (jR 133), none, some (jI (u1 * u0)), some (jI 0)] [] M Q) ∧ (M 188 (u1 * u0) ≠ M 133 16 → Q (some (jI 0)) M)) : wp kc (d + 1) 367 7 [some (jR 133), none, none, none] [jI u0, jI u1] M Q :=
  (x_imul c367_7 (x_istn (l' := [some (jR 133), none, some (jI (u1 * u0)), none]) c367_8 rfl (x_aldn c367_9 rfl (x_gfr c367_10 k_133_97 (x_ildn c367_13 rfl (x_iald c367_14 a_188 H.1 (by decide) (x_aldn c367_15 rfl (x_gfi c367_16 k_133_16 (x_ceq c367_19 H.2.1.1 H.2.1.2 (fun h1 => (x_ci c367_24 (x_istn (l' := [some (jR 133), none, some (jI (u1 * u0)), some (jI 0)]) c367_25 rfl (wp_wk (l' := [some (jR 133), none, some (jI (u1 * u0)), some (jI 0)]) ⟨rfl, ⟨rfl, ⟨rfl, trivial⟩⟩⟩ (H.2.2.1 h1))))) (fun h2 => (x_ci c367_22 (x_zrt c367_23 r367 (by decide) (H.2.2.2 h2)))))))))))))
theorem s367_26 {kc : List va_E} {d : Nat} {v2 v3 : Int} {M : fx_M} {Q : Option fx_V → fx_M → Prop} (H : ((fx_in32 v3) ∧ (fx_in32 (M 133 16))) ∧ (M 133 16 ≤ v3 → Q (some (jI 1)) M) ∧ (v3 < M 133 16 → (((0 : Int) ≤ (v2 + 1) + v3 ∧ (v2 + 1) + v3 < 1024)) ∧ (((0 : Int) ≤ (M 133 15) + v3 ∧ (M 133 15) + v3 < 6100)) ∧ ((fx_in32 (M 188 ((v2 + 1) + v3))) ∧ (fx_in32 (M 135 ((M 133 15) + v3)))) ∧ (M 188 ((v2 + 1) + v3) = M 135 ((M 133 15) + v3) → wp kc (d + 1) 367 26 [some (jR 133), none, some (jI v2), some (jI (v3 + 1))] [] M Q) ∧ (M 188 ((v2 + 1) + v3) ≠ M 135 ((M 133 15) + v3) → Q (some (jI 0)) M))) : wp kc (d + 1) 367 26 [some (jR 133), none, some (jI v2), some (jI v3)] [] M Q :=
  (x_ildn c367_26 rfl (x_aldn c367_27 rfl (x_gfi c367_28 k_133_16 (x_cge c367_31 H.1.1 H.1.2 (fun h3 => (x_ci c367_66 (x_zrt c367_67 r367 (by decide) (H.2.1 h3)))) (fun h4 => (x_aldn c367_34 rfl (x_gfr c367_35 k_133_97 (x_ildn c367_38 rfl (x_ci c367_39 (x_iadd c367_40 (x_ildn c367_41 rfl (x_iadd c367_42 (x_iald c367_43 a_188 (H.2.2 h4).1 (by decide) (x_aldn c367_44 rfl (x_gfr c367_45 k_133_4 (x_aldn c367_48 rfl (x_gfi c367_49 k_133_15 (x_ildn c367_52 rfl (x_iadd c367_53 (x_iald c367_54 a_135 (H.2.2 h4).2.1 (by decide) (x_ceq c367_55 (H.2.2 h4).2.2.1.1 (H.2.2 h4).2.2.1.2 (fun h1 => (x_inc (l' := [some (jR 133), none, some (jI v2), some (jI (v3 + 1))]) c367_60 rfl rfl (x_goto c367_63 (wp_wk (l' := [some (jR 133), none, some (jI v2), some (jI (v3 + 1))]) ⟨rfl, ⟨rfl, ⟨rfl, trivial⟩⟩⟩ ((H.2.2 h4).2.2.2.1 h1))))) (fun h2 => (x_ci c367_58 (x_zrt c367_59 r367 (by decide) ((H.2.2 h4).2.2.2.2 h2)))))))))))))))))))))))))
theorem s367 {kc : List va_E} {d : Nat} {x1 : Int} {M : fx_M} {Q : Option fx_V → fx_M → Prop} (H : wc kc d 344 [jR 133, jI x1] M (fun v M1 => wp kc (d + 1) 367 7 [some (jR 133), none, none, none] (v.toList ++ [jI 32]) M1 Q)) : wc kc (d + 1) 367 [jR 133, jI x1] M Q :=
  wc_of (wp_wk (l' := [some (jR 133), some (jI x1), none, none]) ⟨rfl, ⟨rfl, trivial⟩⟩ (s367_0 H))

/- PuzzleHouseModel.room(I)I -/
theorem c368_0 : fx_ci 368 0 = some (3, 1) := by decide +kernel
theorem c368_1 : fx_op 368 1 = some (.istore_n 2, 2, 1) := by decide +kernel
theorem c368_2 : fx_op 368 2 = some (.iload_n 2, 3, 2) := by decide +kernel
theorem c368_3 : fx_op 368 3 = some (.iload_n 1, 4, 3) := by decide +kernel
theorem c368_4 : fx_op 368 4 = some (.iadd, 5, 4) := by decide +kernel
theorem c368_5 : fx_ci 368 5 = some (32, 7) := by decide +kernel
theorem c368_7 : fx_op 368 7 = some (.if_icmp .gt 53, 10, 60) := by decide +kernel
theorem c368_60 : fx_ci 368 60 = some ((-1), 61) := by decide +kernel
theorem c368_10 : fx_ci 368 10 = some (1, 11) := by decide +kernel
theorem c368_11 : fx_op 368 11 = some (.istore_n 3, 12, 11) := by decide +kernel
theorem c368_12 : fx_op 368 12 = some (.iload_n 2, 13, 12) := by decide +kernel
theorem c368_13 : fx_op 368 13 = some (.istore 4, 15, 13) := by decide +kernel
theorem c368_61 : fx_op 368 61 = some (.ireturn, 62, 61) := by decide +kernel
theorem c368_15 : fx_op 368 15 = some (.iload 4, 17, 15) := by decide +kernel
theorem c368_17 : fx_op 368 17 = some (.iload_n 2, 18, 17) := by decide +kernel
theorem c368_18 : fx_op 368 18 = some (.iload_n 1, 19, 18) := by decide +kernel
theorem c368_19 : fx_op 368 19 = some (.iadd, 20, 19) := by decide +kernel
theorem c368_20 : fx_op 368 20 = some (.if_icmp .ge 28, 23, 48) := by decide +kernel
theorem c368_23 : fx_op 368 23 = some (.iload_n 3, 24, 23) := by decide +kernel
theorem c368_24 : fx_op 368 24 = some (.ifCond .eq 16, 27, 40) := by decide +kernel
theorem c368_40 : fx_ci 368 40 = some (0, 41) := by decide +kernel
theorem c368_41 : fx_op 368 41 = some (.istore_n 3, 42, 41) := by decide +kernel
theorem c368_42 : fx_op 368 42 = some (.iinc 4 1, 45, 42) := by decide +kernel
theorem c368_48 : fx_op 368 48 = some (.iload_n 3, 49, 48) := by decide +kernel
theorem c368_49 : fx_op 368 49 = some (.ifCond .eq 5, 52, 54) := by decide +kernel
theorem c368_54 : fx_op 368 54 = some (.iinc 2 1, 57, 54) := by decide +kernel
theorem c368_52 : fx_op 368 52 = some (.iload_n 2, 53, 52) := by decide +kernel
theorem c368_27 : fx_op 368 27 = some (.aload_n 0, 28, 27) := by decide +kernel
theorem c368_28 : fx_op 368 28 = some (.iload 4, 30, 28) := by decide +kernel
theorem c368_57 : fx_op 368 57 = some (.goto (-55), 60, 2) := by decide +kernel
theorem c368_53 : fx_op 368 53 = some (.ireturn, 54, 53) := by decide +kernel
theorem c368_45 : fx_op 368 45 = some (.goto (-30), 48, 15) := by decide +kernel
theorem c368_30 : fx_ca 368 30 = some (369, 2, 2, 33) := by decide +kernel
theorem c368_33 : fx_op 368 33 = some (.ifCond .eq 7, 36, 40) := by decide +kernel
theorem c368_36 : fx_ci 368 36 = some (1, 37) := by decide +kernel
theorem c368_37 : fx_op 368 37 = some (.goto 4, 40, 41) := by decide +kernel
theorem s368_0 {kc : List va_E} {d : Nat} {x1 : Int} {M : fx_M} {Q : Option fx_V → fx_M → Prop} (H : wp kc (d + 1) 368 2 [some (jR 133), some (jI x1), some (jI 3), none, none] [] M Q) : wp kc (d + 1) 368 0 [some (jR 133), some (jI x1), none, none, none] [] M Q :=
  (x_ci c368_0 (x_istn (l' := [some (jR 133), some (jI x1), some (jI 3), none, none]) c368_1 rfl (wp_wk (l' := [some (jR 133), some (jI x1), some (jI 3), none, none]) ⟨rfl, ⟨rfl, ⟨rfl, trivial⟩⟩⟩ H)))
theorem s368_2 {kc : List va_E} {d : Nat} {v1 v2 : Int} {M : fx_M} {Q : Option fx_V → fx_M → Prop} (H : ((fx_in32 (v2 + v1))) ∧ (32 < v2 + v1 → Q (some (jI (-1))) M) ∧ (v2 + v1 ≤ 32 → wp kc (d + 1) 368 15 [some (jR 133), some (jI v1), some (jI v2), some (jI 1), some (jI v2)] [] M Q)) : wp kc (d + 1) 368 2 [some (jR 133), some (jI v1), some (jI v2), none, none] [] M Q :=
  (x_ildn c368_2 rfl (x_ildn c368_3 rfl (x_iadd c368_4 (x_ci c368_5 (x_cgt c368_7 H.1 (by decide) (fun h1 => (x_ci c368_60 (x_irt c368_61 r368 (H.2.1 h1)))) (fun h2 => (x_ci c368_10 (x_istn (l' := [some (jR 133), some (jI v1), some (jI v2), some (jI 1), none]) c368_11 rfl (x_ildn c368_12 rfl (x_ist (l' := [some (jR 133), some (jI v1), some (jI v2), some (jI 1), some (jI v2)]) c368_13 rfl (wp_wk (l' := [some (jR 133), some (jI v1), some (jI v2), some (jI 1), some (jI v2)]) ⟨rfl, ⟨rfl, ⟨rfl, ⟨rfl, ⟨rfl, trivial⟩⟩⟩⟩⟩ (H.2.2 h2))))))))))))
theorem s368_15 {kc : List va_E} {d : Nat} {v1 v2 v3 v4 : Int} {M : fx_M} {Q : Option fx_V → fx_M → Prop} (H : ((fx_in32 v4) ∧ (fx_in32 (v2 + v1))) ∧ (v2 + v1 ≤ v4 → ((fx_in32 v3)) ∧ (v3 = 0 → wp kc (d + 1) 368 2 [some (jR 133), some (jI v1), some (jI (v2 + 1)), none, none] [] M Q) ∧ (v3 ≠ 0 → Q (some (jI v2)) M)) ∧ (v4 < v2 + v1 → ((fx_in32 v3)) ∧ (v3 = 0 → wp kc (d + 1) 368 15 [some (jR 133), some (jI v1), some (jI v2), some (jI 0), some (jI (v4 + 1))] [] M Q) ∧ (v3 ≠ 0 → wc kc d 369 [jR 133, jI v4] M (fun v M1 => wp kc (d + 1) 368 33 [some (jR 133), some (jI v1), some (jI v2), none, some (jI v4)] (v.toList ++ []) M1 Q)))) : wp kc (d + 1) 368 15 [some (jR 133), some (jI v1), some (jI v2), some (jI v3), some (jI v4)] [] M Q :=
  (x_ild c368_15 rfl (x_ildn c368_17 rfl (x_ildn c368_18 rfl (x_iadd c368_19 (x_cge c368_20 H.1.1 H.1.2 (fun h5 => (x_ildn c368_48 rfl (x_zeq c368_49 (H.2.1 h5).1 (fun h1 => (x_inc (l' := [some (jR 133), some (jI v1), some (jI (v2 + 1)), some (jI v3), some (jI v4)]) c368_54 rfl rfl (x_goto c368_57 (wp_wk (l' := [some (jR 133), some (jI v1), some (jI (v2 + 1)), none, none]) ⟨rfl, ⟨rfl, ⟨rfl, trivial⟩⟩⟩ ((H.2.1 h5).2.1 h1))))) (fun h2 => (x_ildn c368_52 rfl (x_irt c368_53 r368 ((H.2.1 h5).2.2 h2))))))) (fun h6 => (x_ildn c368_23 rfl (x_zeq c368_24 (H.2.2 h6).1 (fun h3 => (x_ci c368_40 (x_istn (l' := [some (jR 133), some (jI v1), some (jI v2), some (jI 0), some (jI v4)]) c368_41 rfl (x_inc (l' := [some (jR 133), some (jI v1), some (jI v2), some (jI 0), some (jI (v4 + 1))]) c368_42 rfl rfl (x_goto c368_45 (wp_wk (l' := [some (jR 133), some (jI v1), some (jI v2), some (jI 0), some (jI (v4 + 1))]) ⟨rfl, ⟨rfl, ⟨rfl, ⟨rfl, ⟨rfl, trivial⟩⟩⟩⟩⟩ ((H.2.2 h6).2.1 h3))))))) (fun h4 => (x_aldn c368_27 rfl (x_ild c368_28 rfl (wp_wk (l' := [some (jR 133), some (jI v1), some (jI v2), none, some (jI v4)]) ⟨rfl, ⟨rfl, ⟨rfl, ⟨rfl, trivial⟩⟩⟩⟩ (x_cv (As := [jI v4]) (st := []) c368_30 cl_133 kl369 rfl (Nat.le_of_ble_eq_true rfl) mx369 (Nat.le_refl _) ((H.2.2 h6).2.2 h4))))))))))))))
theorem s368_33 {kc : List va_E} {d : Nat} {v1 v2 v4 u0 : Int} {M : fx_M} {Q : Option fx_V → fx_M → Prop} (H : ((fx_in32 u0)) ∧ wp kc (d + 1) 368 15 [some (jR 133), some (jI v1), some (jI v2), some (jI (if u0 = 0 then (0 : Int) else 1)), some (jI (v4 + 1))] [] M Q) : wp kc (d + 1) 368 33 [some (jR 133), some (jI v1), some (jI v2), none, some (jI v4)] [jI u0] M Q :=
  (have K : wp kc (d + 1) 368 41 [some (jR 133), some (jI v1), some (jI v2), none, some (jI v4)] [jI (if u0 = 0 then (0 : Int) else 1)] M Q := (x_istn (l' := [some (jR 133), some (jI v1), some (jI v2), some (jI (if u0 = 0 then (0 : Int) else 1)), some (jI v4)]) c368_41 rfl (x_inc (l' := [some (jR 133), some (jI v1), some (jI v2), some (jI (if u0 = 0 then (0 : Int) else 1)), some (jI (v4 + 1))]) c368_42 rfl rfl (x_goto c368_45 (wp_wk (l' := [some (jR 133), some (jI v1), some (jI v2), some (jI (if u0 = 0 then (0 : Int) else 1)), some (jI (v4 + 1))]) ⟨rfl, ⟨rfl, ⟨rfl, ⟨rfl, ⟨rfl, trivial⟩⟩⟩⟩⟩ H.2)))); (x_zeq c368_33 H.1 (fun (h1 : u0 = 0) => (x_ci c368_40 (wp_wk (l' := [some (jR 133), some (jI v1), some (jI v2), none, some (jI v4)]) ⟨rfl, ⟨rfl, ⟨rfl, ⟨rfl, trivial⟩⟩⟩⟩ (by have K := K; first | (simp only [if_pos h1] at K ⊢; exact K) | (exfalso; omega))))) (fun (h2 : u0 ≠ 0) => (x_ci c368_36 (x_goto c368_37 (wp_wk (l' := [some (jR 133), some (jI v1), some (jI v2), none, some (jI v4)]) ⟨rfl, ⟨rfl, ⟨rfl, ⟨rfl, trivial⟩⟩⟩⟩ (by have K := K; first | (simp only [if_neg h2] at K ⊢; exact K) | (exfalso; omega))))))))
theorem s368 {kc : List va_E} {d : Nat} {x1 : Int} {M : fx_M} {Q : Option fx_V → fx_M → Prop} (H : wp kc (d + 1) 368 2 [some (jR 133), some (jI x1), some (jI 3), none, none] [] M Q) : wc kc (d + 1) 368 [jR 133, jI x1] M Q :=
  wc_of (wp_wk (l' := [some (jR 133), some (jI x1), none, none, none]) ⟨rfl, ⟨rfl, trivial⟩⟩ (s368_0 H))

/- PuzzleHouseModel.isFree(I)Z -/
theorem c369_0 : fx_op 369 0 = some (.iload_n 1, 1, 0) := by decide +kernel
theorem c369_1 : fx_ci 369 1 = some (3, 2) := by decide +kernel
theorem c369_2 : fx_op 369 2 = some (.if_icmp .lt 9, 5, 11) := by decide +kernel
theorem c369_11 : fx_ci 369 11 = some (0, 12) := by decide +kernel
theorem c369_5 : fx_op 369 5 = some (.iload_n 1, 6, 5) := by decide +kernel
theorem c369_6 : fx_ci 369 6 = some (31, 8) := by decide +kernel
theorem c369_8 : fx_op 369 8 = some (.if_icmp .le 5, 11, 13) := by decide +kernel
theorem c369_13 : fx_ci 369 13 = some (0, 14) := by decide +kernel
theorem c369_14 : fx_op 369 14 = some (.istore_n 2, 15, 14) := by decide +kernel
theorem c369_12 : fx_op 369 12 = some (.ireturn, 13, 12) := by decide +kernel
theorem c369_15 : fx_op 369 15 = some (.iload_n 2, 16, 15) := by decide +kernel
theorem c369_16 : fx_op 369 16 = some (.aload_n 0, 17, 16) := by decide +kernel
theorem c369_17 : fx_ca 369 17 = some (341, 1, 2, 20) := by decide +kernel
theorem c369_20 : fx_op 369 20 = some (.if_icmp .ge 35, 23, 55) := by decide +kernel
theorem c369_55 : fx_ci 369 55 = some (1, 56) := by decide +kernel
theorem c369_23 : fx_op 369 23 = some (.iload_n 1, 24, 23) := by decide +kernel
theorem c369_24 : fx_op 369 24 = some (.aload_n 0, 25, 24) := by decide +kernel
theorem c369_25 : fx_op 369 25 = some (.iload_n 2, 26, 25) := by decide +kernel
theorem c369_56 : fx_op 369 56 = some (.ireturn, 57, 56) := by decide +kernel
theorem c369_26 : fx_ca 369 26 = some (344, 2, 2, 29) := by decide +kernel
theorem c369_29 : fx_op 369 29 = some (.if_icmp .lt 20, 32, 49) := by decide +kernel
theorem c369_49 : fx_op 369 49 = some (.iinc 2 1, 52, 49) := by decide +kernel
theorem c369_32 : fx_op 369 32 = some (.iload_n 1, 33, 32) := by decide +kernel
theorem c369_33 : fx_op 369 33 = some (.aload_n 0, 34, 33) := by decide +kernel
theorem c369_34 : fx_op 369 34 = some (.iload_n 2, 35, 34) := by decide +kernel
theorem c369_52 : fx_op 369 52 = some (.goto (-37), 55, 15) := by decide +kernel
theorem c369_35 : fx_ca 369 35 = some (344, 2, 2, 38) := by decide +kernel
theorem c369_38 : fx_op 369 38 = some (.aload_n 0, 39, 38) := by decide +kernel
theorem c369_39 : fx_op 369 39 = some (.iload_n 2, 40, 39) := by decide +kernel
theorem c369_40 : fx_ca 369 40 = some (345, 2, 2, 43) := by decide +kernel
theorem c369_43 : fx_op 369 43 = some (.iadd, 44, 43) := by decide +kernel
theorem c369_44 : fx_op 369 44 = some (.if_icmp .ge 5, 47, 49) := by decide +kernel
theorem c369_47 : fx_ci 369 47 = some (0, 48) := by decide +kernel
theorem c369_48 : fx_op 369 48 = some (.ireturn, 49, 48) := by decide +kernel
theorem s369_0 {kc : List va_E} {d : Nat} {x1 : Int} {M : fx_M} {Q : Option fx_V → fx_M → Prop} (H : ((fx_in32 x1)) ∧ (x1 < 3 → Q (some (jI 0)) M) ∧ (3 ≤ x1 → ((fx_in32 x1)) ∧ (x1 ≤ 31 → wp kc (d + 1) 369 15 [some (jR 133), some (jI x1), some (jI 0)] [] M Q) ∧ (31 < x1 → Q (some (jI 0)) M))) : wp kc (d + 1) 369 0 [some (jR 133), some (jI x1), none] [] M Q :=
  (x_ildn c369_0 rfl (x_ci c369_1 (x_clt c369_2 H.1 (by decide) (fun h3 => (x_ci c369_11 (x_zrt c369_12 r369 (by decide) (H.2.1 h3)))) (fun h4 => (x_ildn c369_5 rfl (x_ci c369_6 (x_cle c369_8 (H.2.2 h4).1 (by decide) (fun h1 => (x_ci c369_13 (x_istn (l' := [some (jR 133), some (jI x1), some (jI 0)]) c369_14 rfl (wp_wk (l' := [some (jR 133), some (jI x1), some (jI 0)]) ⟨rfl, ⟨rfl, ⟨rfl, trivial⟩⟩⟩ ((H.2.2 h4).2.1 h1))))) (fun h2 => (x_ci c369_11 (x_zrt c369_12 r369 (by decide) ((H.2.2 h4).2.2 h2)))))))))))
theorem s369_15 {kc : List va_E} {d : Nat} {v1 v2 : Int} {M : fx_M} {Q : Option fx_V → fx_M → Prop} (H : wc kc d 341 [jR 133] M (fun v M1 => wp kc (d + 1) 369 20 [some (jR 133), some (jI v1), some (jI v2)] (v.toList ++ [jI v2]) M1 Q)) : wp kc (d + 1) 369 15 [some (jR 133), some (jI v1), some (jI v2)] [] M Q :=
  (x_ildn c369_15 rfl (x_aldn c369_16 rfl (wp_wk (l' := [some (jR 133), some (jI v1), some (jI v2)]) ⟨rfl, ⟨rfl, ⟨rfl, trivial⟩⟩⟩ (x_cv (As := []) (st := [jI v2]) c369_17 cl_133 kl341 rfl (Nat.le_of_ble_eq_true rfl) mx341 (Nat.le_refl _) H))))
theorem s369_20 {kc : List va_E} {d : Nat} {v1 v2 u0 u1 : Int} {M : fx_M} {Q : Option fx_V → fx_M → Prop} (H : ((fx_in32 u1) ∧ (fx_in32 u0)) ∧ (u0 ≤ u1 → Q (some (jI 1)) M) ∧ (u1 < u0 → wc kc d 344 [jR 133, jI v2] M (fun v M1 => wp kc (d + 1) 369 29 [some (jR 133), some (jI v1), some (jI v2)] (v.toList ++ [jI v1]) M1 Q))) : wp kc (d + 1) 369 20 [some (jR 133), some (jI v1), some (jI v2)] [jI u0, jI u1] M Q :=
  (x_cge c369_20 H.1.1 H.1.2 (fun h1 => (x_ci c369_55 (x_zrt c369_56 r369 (by decide) (H.2.1 h1)))) (fun h2 => (x_ildn c369_23 rfl (x_aldn c369_24 rfl (x_ildn c369_25 rfl (wp_wk (l' := [some (jR 133), some (jI v1), some (jI v2)]) ⟨rfl, ⟨rfl, ⟨rfl, trivial⟩⟩⟩ (x_cv (As := [jI v2]) (st := [jI v1]) c369_26 cl_133 kl344 rfl (Nat.le_of_ble_eq_true rfl) mx344 (Nat.le_refl _) (H.2.2 h2))))))))
theorem s369_29 {kc : List va_E} {d : Nat} {v1 v2 u0 u1 : Int} {M : fx_M} {Q : Option fx_V → fx_M → Prop} (H : ((fx_in32 u1) ∧ (fx_in32 u0)) ∧ (u1 < u0 → wp kc (d + 1) 369 15 [some (jR 133), some (jI v1), some (jI (v2 + 1))] [] M Q) ∧ (u0 ≤ u1 → wc kc d 344 [jR 133, jI v2] M (fun v M1 => wp kc (d + 1) 369 38 [some (jR 133), some (jI v1), some (jI v2)] (v.toList ++ [jI v1]) M1 Q))) : wp kc (d + 1) 369 29 [some (jR 133), some (jI v1), some (jI v2)] [jI u0, jI u1] M Q :=
  (x_clt c369_29 H.1.1 H.1.2 (fun h1 => (x_inc (l' := [some (jR 133), some (jI v1), some (jI (v2 + 1))]) c369_49 rfl rfl (x_goto c369_52 (wp_wk (l' := [some (jR 133), some (jI v1), some (jI (v2 + 1))]) ⟨rfl, ⟨rfl, ⟨rfl, trivial⟩⟩⟩ (H.2.1 h1))))) (fun h2 => (x_ildn c369_32 rfl (x_aldn c369_33 rfl (x_ildn c369_34 rfl (wp_wk (l' := [some (jR 133), some (jI v1), some (jI v2)]) ⟨rfl, ⟨rfl, ⟨rfl, trivial⟩⟩⟩ (x_cv (As := [jI v2]) (st := [jI v1]) c369_35 cl_133 kl344 rfl (Nat.le_of_ble_eq_true rfl) mx344 (Nat.le_refl _) (H.2.2 h2))))))))
theorem s369_38 {kc : List va_E} {d : Nat} {v1 v2 u0 u1 : Int} {M : fx_M} {Q : Option fx_V → fx_M → Prop} (H : wc kc d 345 [jR 133, jI v2] M (fun v M1 => wp kc (d + 1) 369 43 [some (jR 133), some (jI v1), some (jI v2)] (v.toList ++ [jI u0, jI u1]) M1 Q)) : wp kc (d + 1) 369 38 [some (jR 133), some (jI v1), some (jI v2)] [jI u0, jI u1] M Q :=
  (x_aldn c369_38 rfl (x_ildn c369_39 rfl (wp_wk (l' := [some (jR 133), some (jI v1), some (jI v2)]) ⟨rfl, ⟨rfl, ⟨rfl, trivial⟩⟩⟩ (x_cv (As := [jI v2]) (st := [jI u0, jI u1]) c369_40 cl_133 kl345 rfl (Nat.le_of_ble_eq_true rfl) mx345 (Nat.le_refl _) H))))
theorem s369_43 {kc : List va_E} {d : Nat} {v1 v2 u0 u1 u2 : Int} {M : fx_M} {Q : Option fx_V → fx_M → Prop} (H : ((fx_in32 u2) ∧ (fx_in32 (u1 + u0))) ∧ (u1 + u0 ≤ u2 → wp kc (d + 1) 369 15 [some (jR 133), some (jI v1), some (jI (v2 + 1))] [] M Q) ∧ (u2 < u1 + u0 → Q (some (jI 0)) M)) : wp kc (d + 1) 369 43 [some (jR 133), some (jI v1), some (jI v2)] [jI u0, jI u1, jI u2] M Q :=
  (x_iadd c369_43 (x_cge c369_44 H.1.1 H.1.2 (fun h1 => (x_inc (l' := [some (jR 133), some (jI v1), some (jI (v2 + 1))]) c369_49 rfl rfl (x_goto c369_52 (wp_wk (l' := [some (jR 133), some (jI v1), some (jI (v2 + 1))]) ⟨rfl, ⟨rfl, ⟨rfl, trivial⟩⟩⟩ (H.2.1 h1))))) (fun h2 => (x_ci c369_47 (x_zrt c369_48 r369 (by decide) (H.2.2 h2))))))
theorem s369 {kc : List va_E} {d : Nat} {x1 : Int} {M : fx_M} {Q : Option fx_V → fx_M → Prop} (H : ((fx_in32 x1)) ∧ (x1 < 3 → Q (some (jI 0)) M) ∧ (3 ≤ x1 → ((fx_in32 x1)) ∧ (x1 ≤ 31 → wp kc (d + 1) 369 15 [some (jR 133), some (jI x1), some (jI 0)] [] M Q) ∧ (31 < x1 → Q (some (jI 0)) M))) : wc kc (d + 1) 369 [jR 133, jI x1] M Q :=
  wc_of (wp_wk (l' := [some (jR 133), some (jI x1), none]) ⟨rfl, ⟨rfl, trivial⟩⟩ (s369_0 H))

/- PuzzleHouseModel.remember()V -/
theorem c370_0 : fx_ci 370 0 = some (0, 1) := by decide +kernel
theorem c370_1 : fx_op 370 1 = some (.istore_n 1, 2, 1) := by decide +kernel
theorem c370_2 : fx_op 370 2 = some (.iload_n 1, 3, 2) := by decide +kernel
theorem c370_3 : fx_ci 370 3 = some (1024, 6) := by decide +kernel
theorem c370_6 : fx_op 370 6 = some (.if_icmp .ge 21, 9, 27) := by decide +kernel
theorem c370_9 : fx_op 370 9 = some (.aload_n 0, 10, 9) := by decide +kernel
theorem c370_10 : fx_gf 370 10 = some (12, 98, 13) := by decide +kernel
theorem c370_13 : fx_op 370 13 = some (.iload_n 1, 14, 13) := by decide +kernel
theorem c370_14 : fx_op 370 14 = some (.aload_n 0, 15, 14) := by decide +kernel
theorem c370_15 : fx_gf 370 15 = some (12, 97, 18) := by decide +kernel
theorem c370_18 : fx_op 370 18 = some (.iload_n 1, 19, 18) := by decide +kernel
theorem c370_19 : fx_op 370 19 = some (.iaload, 20, 19) := by decide +kernel
theorem c370_21 : fx_op 370 21 = some (.iinc 1 1, 24, 21) := by decide +kernel
theorem c370_27 : fx_op 370 27 = some (.return_, 28, 27) := by decide +kernel
theorem c370_20 : fx_op 370 20 = some (.iastore, 21, 20) := by decide +kernel
theorem c370_24 : fx_op 370 24 = some (.goto (-22), 27, 2) := by decide +kernel
theorem s370_0 {kc : List va_E} {d : Nat} {M : fx_M} {Q : Option fx_V → fx_M → Prop} (H : wp kc (d + 1) 370 2 [some (jR 133), some (jI 0)] [] M Q) : wp kc (d + 1) 370 0 [some (jR 133), none] [] M Q :=
  (x_ci c370_0 (x_istn (l' := [some (jR 133), some (jI 0)]) c370_1 rfl (wp_wk (l' := [some (jR 133), some (jI 0)]) ⟨rfl, ⟨rfl, trivial⟩⟩ H)))
theorem s370_2 {kc : List va_E} {d : Nat} {v1 : Int} {M : fx_M} {Q : Option fx_V → fx_M → Prop} (H : ((fx_in32 v1)) ∧ (1024 ≤ v1 → Q none M) ∧ (v1 < 1024 → (((0 : Int) ≤ v1 ∧ v1 < 1024)) ∧ (((0 : Int) ≤ v1 ∧ v1 < 1024)) ∧ wp kc (d + 1) 370 2 [some (jR 133), some (jI (v1 + 1))] [] (fx_up M 189 v1 (M 188 v1)) Q)) : wp kc (d + 1) 370 2 [some (jR 133), some (jI v1)] [] M Q :=
  (x_ildn c370_2 rfl (x_ci c370_3 (x_cge c370_6 H.1 (by decide) (fun h1 => (x_vr c370_27 r370 (H.2.1 h1))) (fun h2 => (x_aldn c370_9 rfl (x_gfr c370_10 k_133_98 (x_ildn c370_13 rfl (x_aldn c370_14 rfl (x_gfr c370_15 k_133_97 (x_ildn c370_18 rfl (x_iald c370_19 a_188 (H.2.2 h2).1 (by decide) (x_iast c370_20 a_189 (H.2.2 h2).2.1 (by decide) (x_inc (l' := [some (jR 133), some (jI (v1 + 1))]) c370_21 rfl rfl (x_goto c370_24 (wp_wk (l' := [some (jR 133), some (jI (v1 + 1))]) ⟨rfl, ⟨rfl, trivial⟩⟩ (H.2.2 h2).2.2)))))))))))))))
theorem s370 {kc : List va_E} {d : Nat} {M : fx_M} {Q : Option fx_V → fx_M → Prop} (H : wp kc (d + 1) 370 2 [some (jR 133), some (jI 0)] [] M Q) : wc kc (d + 1) 370 [jR 133] M Q :=
  wc_of (wp_wk (l' := [some (jR 133), none]) ⟨rfl, trivial⟩ (s370_0 H))

/- PuzzleHouseModel.writeRoot(III)V -/
theorem c371_0 : fx_ci 371 0 = some (3, 1) := by decide +kernel
theorem c371_1 : fx_op 371 1 = some (.aload_n 0, 2, 1) := by decide +kernel
theorem c371_2 : fx_gf 371 2 = some (12, 97, 5) := by decide +kernel
theorem c371_5 : fx_ci 371 5 = some (0, 6) := by decide +kernel
theorem c371_6 : fx_op 371 6 = some (.iaload, 7, 6) := by decide +kernel
theorem c371_7 : fx_op 371 7 = some (.isub, 8, 7) := by decide +kernel
theorem c371_8 : fx_op 371 8 = some (.istore 4, 10, 8) := by decide +kernel
theorem c371_10 : fx_ci 371 10 = some (32, 12) := by decide +kernel
theorem c371_12 : fx_op 371 12 = some (.iload 4, 14, 12) := by decide +kernel
theorem c371_14 : fx_op 371 14 = some (.imul, 15, 14) := by decide +kernel
theorem c371_15 : fx_op 371 15 = some (.istore 5, 17, 15) := by decide +kernel
theorem c371_17 : fx_ci 371 17 = some (0, 18) := by decide +kernel
theorem c371_18 : fx_op 371 18 = some (.istore 6, 20, 18) := by decide +kernel
theorem c371_20 : fx_ci 371 20 = some (0, 21) := by decide +kernel
theorem c371_21 : fx_op 371 21 = some (.istore 7, 23, 21) := by decide +kernel
theorem c371_23 : fx_op 371 23 = some (.iload 7, 25, 23) := by decide +kernel
theorem c371_25 : fx_op 371 25 = some (.aload_n 0, 26, 25) := by decide +kernel
theorem c371_26 : fx_ca 371 26 = some (341, 1, 2, 29) := by decide +kernel
theorem c371_29 : fx_op 371 29 = some (.if_icmp .ge 61, 32, 90) := by decide +kernel
theorem c371_32 : fx_op 371 32 = some (.iload 7, 34, 32) := by decide +kernel
theorem c371_34 : fx_op 371 34 = some (.iload_n 1, 35, 34) := by decide +kernel
theorem c371_35 : fx_op 371 35 = some (.if_icmp .ne 6, 38, 41) := by decide +kernel
theorem c371_41 : fx_op 371 41 = some (.aload_n 0, 42, 41) := by decide +kernel
theorem c371_42 : fx_gf 371 42 = some (12, 97, 45) := by decide +kernel
theorem c371_45 : fx_op 371 45 = some (.iload 5, 47, 45) := by decide +kernel
theorem c371_47 : fx_ci 371 47 = some (1, 48) := by decide +kernel
theorem c371_48 : fx_op 371 48 = some (.iadd, 49, 48) := by decide +kernel
theorem c371_49 : fx_ci 371 49 = some (2, 50) := by decide +kernel
theorem c371_50 : fx_op 371 50 = some (.iload 6, 52, 50) := by decide +kernel
theorem c371_52 : fx_op 371 52 = some (.imul, 53, 52) := by decide +kernel
theorem c371_53 : fx_op 371 53 = some (.iadd, 54, 53) := by decide +kernel
theorem c371_54 : fx_op 371 54 = some (.aload_n 0, 55, 54) := by decide +kernel
theorem c371_55 : fx_op 371 55 = some (.iload 7, 57, 55) := by decide +kernel
theorem c371_90 : fx_op 371 90 = some (.iload_n 3, 91, 90) := by decide +kernel
theorem c371_91 : fx_op 371 91 = some (.ifCond .le 36, 94, 127) := by decide +kernel
theorem c371_94 : fx_op 371 94 = some (.aload_n 0, 95, 94) := by decide +kernel
theorem c371_95 : fx_gf 371 95 = some (12, 97, 98) := by decide +kernel
theorem c371_98 : fx_op 371 98 = some (.iload 5, 100, 98) := by decide +kernel
theorem c371_100 : fx_ci 371 100 = some (1, 101) := by decide +kernel
theorem c371_101 : fx_op 371 101 = some (.iadd, 102, 101) := by decide +kernel
theorem c371_102 : fx_ci 371 102 = some (2, 103) := by decide +kernel
theorem c371_103 : fx_op 371 103 = some (.iload 6, 105, 103) := by decide +kernel
theorem c371_105 : fx_op 371 105 = some (.imul, 106, 105) := by decide +kernel
theorem c371_106 : fx_op 371 106 = some (.iadd, 107, 106) := by decide +kernel
theorem c371_107 : fx_op 371 107 = some (.iload_n 2, 108, 107) := by decide +kernel
theorem c371_127 : fx_op 371 127 = some (.aload_n 0, 128, 127) := by decide +kernel
theorem c371_128 : fx_gf 371 128 = some (12, 97, 131) := by decide +kernel
theorem c371_131 : fx_op 371 131 = some (.iload 5, 133, 131) := by decide +kernel
theorem c371_133 : fx_op 371 133 = some (.iload 6, 135, 133) := by decide +kernel
theorem c371_136 : fx_ci 371 136 = some (1, 137) := by decide +kernel
theorem c371_137 : fx_ci 371 137 = some (2, 138) := by decide +kernel
theorem c371_138 : fx_op 371 138 = some (.iload 6, 140, 138) := by decide +kernel
theorem c371_140 : fx_op 371 140 = some (.imul, 141, 140) := by decide +kernel
theorem c371_141 : fx_op 371 141 = some (.iadd, 142, 141) := by decide +kernel
theorem c371_142 : fx_op 371 142 = some (.istore 7, 144, 142) := by decide +kernel
theorem c371_109 : fx_op 371 109 = some (.aload_n 0, 110, 109) := by decide +kernel
theorem c371_110 : fx_gf 371 110 = some (12, 97, 113) := by decide +kernel
theorem c371_113 : fx_op 371 113 = some (.iload 5, 115, 113) := by decide +kernel
theorem c371_115 : fx_ci 371 115 = some (2, 116) := by decide +kernel
theorem c371_116 : fx_op 371 116 = some (.iadd, 117, 116) := by decide +kernel
theorem c371_117 : fx_ci 371 117 = some (2, 118) := by decide +kernel
theorem c371_118 : fx_op 371 118 = some (.iload 6, 120, 118) := by decide +kernel
theorem c371_120 : fx_op 371 120 = some (.imul, 121, 120) := by decide +kernel
theorem c371_121 : fx_op 371 121 = some (.iadd, 122, 121) := by decide +kernel
theorem c371_122 : fx_op 371 122 = some (.iload_n 3, 123, 122) := by decide +kernel
theorem c371_124 : fx_op 371 124 = some (.iinc 6 1, 127, 124) := by decide +kernel
theorem c371_84 : fx_op 371 84 = some (.iinc 7 1, 87, 84) := by decide +kernel
theorem c371_135 : fx_op 371 135 = some (.iastore, 136, 135) := by decide +kernel
theorem c371_108 : fx_op 371 108 = some (.iastore, 109, 108) := by decide +kernel
theorem c371_123 : fx_op 371 123 = some (.iastore, 124, 123) := by decide +kernel
theorem c371_57 : fx_ca 371 57 = some (344, 2, 2, 60) := by decide +kernel
theorem c371_38 : fx_op 371 38 = some (.goto 46, 41, 84) := by decide +kernel
theorem c371_87 : fx_op 371 87 = some (.goto (-64), 90, 23) := by decide +kernel
theorem c371_144 : fx_op 371 144 = some (.iload 7, 146, 144) := by decide +kernel
theorem c371_146 : fx_ci 371 146 = some (31, 148) := by decide +kernel
theorem c371_148 : fx_op 371 148 = some (.if_icmp .ge 20, 151, 168) := by decide +kernel
theorem c371_151 : fx_op 371 151 = some (.aload_n 0, 152, 151) := by decide +kernel
theorem c371_152 : fx_gf 371 152 = some (12, 97, 155) := by decide +kernel
theorem c371_155 : fx_op 371 155 = some (.iload 5, 157, 155) := by decide +kernel
theorem c371_157 : fx_op 371 157 = some (.iload 7, 159, 157) := by decide +kernel
theorem c371_159 : fx_op 371 159 = some (.iadd, 160, 159) := by decide +kernel
theorem c371_160 : fx_ci 371 160 = some (0, 161) := by decide +kernel
theorem c371_168 : fx_op 371 168 = some (.aload_n 0, 169, 168) := by decide +kernel
theorem c371_169 : fx_gf 371 169 = some (12, 97, 172) := by decide +kernel
theorem c371_172 : fx_op 371 172 = some (.iload 5, 174, 172) := by decide +kernel
theorem c371_174 : fx_ci 371 174 = some (32, 176) := by decide +kernel
theorem c371_176 : fx_op 371 176 = some (.iadd, 177, 176) := by decide +kernel
theorem c371_177 : fx_ci 371 177 = some (1, 178) := by decide +kernel
theorem c371_178 : fx_op 371 178 = some (.isub, 179, 178) := by decide +kernel
theorem c371_179 : fx_op 371 179 = some (.aload_n 0, 180, 179) := by decide +kernel
theorem c371_180 : fx_op 371 180 = some (.iload 4, 182, 180) := by decide +kernel
theorem c371_162 : fx_op 371 162 = some (.iinc 7 1, 165, 162) := by decide +kernel
theorem c371_182 : fx_ca 371 182 = some (362, 2, 2, 185) := by decide +kernel
theorem c371_161 : fx_op 371 161 = some (.iastore, 162, 161) := by decide +kernel
theorem c371_165 : fx_op 371 165 = some (.goto (-21), 168, 144) := by decide +kernel
theorem c371_61 : fx_op 371 61 = some (.aload_n 0, 62, 61) := by decide +kernel
theorem c371_62 : fx_gf 371 62 = some (12, 97, 65) := by decide +kernel
theorem c371_65 : fx_op 371 65 = some (.iload 5, 67, 65) := by decide +kernel
theorem c371_67 : fx_ci 371 67 = some (2, 68) := by decide +kernel
theorem c371_68 : fx_op 371 68 = some (.iadd, 69, 68) := by decide +kernel
theorem c371_69 : fx_ci 371 69 = some (2, 70) := by decide +kernel
theorem c371_70 : fx_op 371 70 = some (.iload 6, 72, 70) := by decide +kernel
theorem c371_72 : fx_op 371 72 = some (.imul, 73, 72) := by decide +kernel
theorem c371_73 : fx_op 371 73 = some (.iadd, 74, 73) := by decide +kernel
theorem c371_74 : fx_op 371 74 = some (.aload_n 0, 75, 74) := by decide +kernel
theorem c371_75 : fx_op 371 75 = some (.iload 7, 77, 75) := by decide +kernel
theorem c371_60 : fx_op 371 60 = some (.iastore, 61, 60) := by decide +kernel
theorem c371_77 : fx_ca 371 77 = some (345, 2, 2, 80) := by decide +kernel
theorem c371_186 : fx_op 371 186 = some (.aload_n 0, 187, 186) := by decide +kernel
theorem c371_187 : fx_gf 371 187 = some (12, 97, 190) := by decide +kernel
theorem c371_190 : fx_ci 371 190 = some (0, 191) := by decide +kernel
theorem c371_191 : fx_op 371 191 = some (.iload 4, 193, 191) := by decide +kernel
theorem c371_194 : fx_op 371 194 = some (.aload_n 0, 195, 194) := by decide +kernel
theorem c371_195 : fx_op 371 195 = some (.iload_n 2, 196, 195) := by decide +kernel
theorem c371_196 : fx_pf 371 196 = some (12, 99, 0, 199) := by decide +kernel
theorem c371_199 : fx_op 371 199 = some (.aload_n 0, 200, 199) := by decide +kernel
theorem c371_200 : fx_op 371 200 = some (.iload_n 3, 201, 200) := by decide +kernel
theorem c371_201 : fx_pf 371 201 = some (12, 100, 0, 204) := by decide +kernel
theorem c371_204 : fx_op 371 204 = some (.aload_n 0, 205, 204) := by decide +kernel
theorem c371_205 : fx_op 371 205 = some (.iload 4, 207, 205) := by decide +kernel
theorem c371_207 : fx_pf 371 207 = some (12, 101, 0, 210) := by decide +kernel
theorem c371_210 : fx_op 371 210 = some (.aload_n 0, 211, 210) := by decide +kernel
theorem c371_211 : fx_ci 371 211 = some (32, 213) := by decide +kernel
theorem c371_213 : fx_op 371 213 = some (.iload_n 3, 214, 213) := by decide +kernel
theorem c371_214 : fx_op 371 214 = some (.imul, 215, 214) := by decide +kernel
theorem c371_215 : fx_ci 371 215 = some (32, 217) := by decide +kernel
theorem c371_217 : fx_op 371 217 = some (.iadd, 218, 217) := by decide +kernel
theorem c371_218 : fx_ci 371 218 = some (1, 219) := by decide +kernel
theorem c371_219 : fx_op 371 219 = some (.iadd, 220, 219) := by decide +kernel
theorem c371_220 : fx_pf 371 220 = some (12, 102, 0, 223) := by decide +kernel
theorem c371_185 : fx_op 371 185 = some (.iastore, 186, 185) := by decide +kernel
theorem c371_193 : fx_op 371 193 = some (.iastore, 194, 193) := by decide +kernel
theorem c371_223 : fx_op 371 223 = some (.return_, 224, 223) := by decide +kernel
theorem c371_81 : fx_op 371 81 = some (.iinc 6 1, 84, 81) := by decide +kernel
theorem c371_80 : fx_op 371 80 = some (.iastore, 81, 80) := by decide +kernel
theorem s371_0 {kc : List va_E} {d : Nat} {x1 x2 x3 : Int} {M : fx_M} {Q : Option fx_V → fx_M → Prop} (H : wp kc (d + 1) 371 23 [some (jR 133), some (jI x1), some (jI x2), some (jI x3), some (jI (3 - (M 188 0))), some (jI (32 * (3 - (M 188 0)))), some (jI 0), some (jI 0)] [] M Q) : wp kc (d + 1) 371 0 [some (jR 133), some (jI x1), some (jI x2), some (jI x3), none, none, none, none] [] M Q :=
  (x_ci c371_0 (x_aldn c371_1 rfl (x_gfr c371_2 k_133_97 (x_ci c371_5 (x_iald c371_6 a_188 (by decide) (by decide) (x_isub c371_7 (x_ist (l' := [some (jR 133), some (jI x1), some (jI x2), some (jI x3), some (jI (3 - (M 188 0))), none, none, none]) c371_8 rfl (x_ci c371_10 (x_ild c371_12 rfl (x_imul c371_14 (x_ist (l' := [some (jR 133), some (jI x1), some (jI x2), some (jI x3), some (jI (3 - (M 188 0))), some (jI (32 * (3 - (M 188 0)))), none, none]) c371_15 rfl (x_ci c371_17 (x_ist (l' := [some (jR 133), some (jI x1), some (jI x2), some (jI x3), some (jI (3 - (M 188 0))), some (jI (32 * (3 - (M 188 0)))), some (jI 0), none]) c371_18 rfl (x_ci c371_20 (x_ist (l' := [some (jR 133), some (jI x1), some (jI x2), some (jI x3), some (jI (3 - (M 188 0))), some (jI (32 * (3 - (M 188 0)))), some (jI 0), some (jI 0)]) c371_21 rfl (wp_wk (l' := [some (jR 133), some (jI x1), some (jI x2), some (jI x3), some (jI (3 - (M 188 0))), some (jI (32 * (3 - (M 188 0)))), some (jI 0), some (jI 0)]) ⟨rfl, ⟨rfl, ⟨rfl, ⟨rfl, ⟨rfl, ⟨rfl, ⟨rfl, ⟨rfl, trivial⟩⟩⟩⟩⟩⟩⟩⟩ H))))))))))))))))
theorem s371_23 {kc : List va_E} {d : Nat} {v1 v2 v3 v4 v5 v6 v7 : Int} {M : fx_M} {Q : Option fx_V → fx_M → Prop} (H : wc kc d 341 [jR 133] M (fun v M1 => wp kc (d + 1) 371 29 [some (jR 133), some (jI v1), some (jI v2), some (jI v3), some (jI v4), some (jI v5), some (jI v6), some (jI v7)] (v.toList ++ [jI v7]) M1 Q)) : wp kc (d + 1) 371 23 [some (jR 133), some (jI v1), some (jI v2), some (jI v3), some (jI v4), some (jI v5), some (jI v6), some (jI v7)] [] M Q :=
  (x_ild c371_23 rfl (x_aldn c371_25 rfl (wp_wk (l' := [some (jR 133), some (jI v1), some (jI v2), some (jI v3), some (jI v4), some (jI v5), some (jI v6), some (jI v7)]) ⟨rfl, ⟨rfl, ⟨rfl, ⟨rfl, ⟨rfl, ⟨rfl, ⟨rfl, ⟨rfl, trivial⟩⟩⟩⟩⟩⟩⟩⟩ (x_cv (As := []) (st := [jI v7]) c371_26 cl_133 kl341 rfl (Nat.le_of_ble_eq_true rfl) mx341 (Nat.le_refl _) H))))
theorem s371_29 {kc : List va_E} {d : Nat} {v1 v2 v3 v4 v5 v6 v7 u0 u1 : Int} {M : fx_M} {Q : Option fx_V → fx_M → Prop} (H : ((fx_in32 u1) ∧ (fx_in32 u0)) ∧ (u0 ≤ u1 → ((fx_in32 v3)) ∧ (v3 ≤ 0 → (((0 : Int) ≤ v5 ∧ v5 < 1024)) ∧ wp kc (d + 1) 371 144 [some (jR 133), none, some (jI v2), some (jI v3), some (jI v4), some (jI v5), none, some (jI (1 + (2 * v6)))] [] (fx_up M 188 v5 v6) Q) ∧ (0 < v3 → (((0 : Int) ≤ (v5 + 1) + (2 * v6) ∧ (v5 + 1) + (2 * v6) < 1024)) ∧ (((0 : Int) ≤ (v5 + 2) + (2 * v6) ∧ (v5 + 2) + (2 * v6) < 1024)) ∧ (((0 : Int) ≤ v5 ∧ v5 < 1024)) ∧ wp kc (d + 1) 371 144 [some (jR 133), none, some (jI v2), some (jI v3), some (jI v4), some (jI v5), none, some (jI (1 + (2 * (v6 + 1))))] [] (fx_up (fx_up (fx_up M 188 ((v5 + 1) + (2 * v6)) v2) 188 ((v5 + 2) + (2 * v6)) v3) 188 v5 (v6 + 1)) Q)) ∧ (u1 < u0 → ((fx_in32 v7) ∧ (fx_in32 v1)) ∧ (v7 ≠ v1 → wc kc d 344 [jR 133, jI v7] M (fun v M1 => wp kc (d + 1) 371 60 [some (jR 133), some (jI v1), some (jI v2), some (jI v3), some (jI v4), some (jI v5), some (jI v6), some (jI v7)] (v.toList ++ [jI ((v5 + 1) + (2 * v6)), jR 188]) M1 Q)) ∧ (v7 = v1 → wp kc (d + 1) 371 23 [some (jR 133), some (jI v1), some (jI v2), some (jI v3), some (jI v4), some (jI v5), some (jI v6), some (jI (v7 + 1))] [] M Q))) : wp kc (d + 1) 371 29 [some (jR 133), some (jI v1), some (jI v2), some (jI v3), some (jI v4), some (jI v5), some (jI v6), some (jI v7)] [jI u0, jI u1] M Q :=
  (x_cge c371_29 H.1.1 H.1.2 (fun h5 => (x_ildn c371_90 rfl (x_zle c371_91 (H.2.1 h5).1 (fun h1 => (x_aldn c371_127 rfl (x_gfr c371_128 k_133_97 (x_ild c371_131 rfl (x_ild c371_133 rfl (x_iast c371_135 a_188 ((H.2.1 h5).2.1 h1).1 (by decide) (x_ci c371_136 (x_ci c371_137 (x_ild c371_138 rfl (x_imul c371_140 (x_iadd c371_141 (x_ist (l' := [some (jR 133), some (jI v1), some (jI v2), some (jI v3), some (jI v4), some (jI v5), some (jI v6), some (jI (1 + (2 * v6)))]) c371_142 rfl (wp_wk (l' := [some (jR 133), none, some (jI v2), some (jI v3), some (jI v4), some (jI v5), none, some (jI (1 + (2 * v6)))]) ⟨rfl, ⟨rfl, ⟨rfl, ⟨rfl, ⟨rfl, ⟨rfl, trivial⟩⟩⟩⟩⟩⟩ ((H.2.1 h5).2.1 h1).2))))))))))))) (fun h2 => (x_aldn c371_94 rfl (x_gfr c371_95 k_133_97 (x_ild c371_98 rfl (x_ci c371_100 (x_iadd c371_101 (x_ci c371_102 (x_ild c371_103 rfl (x_imul c371_105 (x_iadd c371_106 (x_ildn c371_107 rfl (x_iast c371_108 a_188 ((H.2.1 h5).2.2 h2).1 (by decide) (x_aldn c371_109 rfl (x_gfr c371_110 k_133_97 (x_ild c371_113 rfl (x_ci c371_115 (x_iadd c371_116 (x_ci c371_117 (x_ild c371_118 rfl (x_imul c371_120 (x_iadd c371_121 (x_ildn c371_122 rfl (x_iast c371_123 a_188 ((H.2.1 h5).2.2 h2).2.1 (by decide) (x_inc (l' := [some (jR 133), some (jI v1), some (jI v2), some (jI v3), some (jI v4), some (jI v5), some (jI (v6 + 1)), some (jI v7)]) c371_124 rfl rfl (x_aldn c371_127 rfl (x_gfr c371_128 k_133_97 (x_ild c371_131 rfl (x_ild c371_133 rfl (x_iast c371_135 a_188 ((H.2.1 h5).2.2 h2).2.2.1 (by decide) (x_ci c371_136 (x_ci c371_137 (x_ild c371_138 rfl (x_imul c371_140 (x_iadd c371_141 (x_ist (l' := [some (jR 133), some (jI v1), some (jI v2), some (jI v3), some (jI v4), some (jI v5), some (jI (v6 + 1)), some (jI (1 + (2 * (v6 + 1))))]) c371_142 rfl (wp_wk (l' := [some (jR 133), none, some (jI v2), some (jI v3), some (jI v4), some (jI v5), none, some (jI (1 + (2 * (v6 + 1))))]) ⟨rfl, ⟨rfl, ⟨rfl, ⟨rfl, ⟨rfl, ⟨rfl, trivial⟩⟩⟩⟩⟩⟩ ((H.2.1 h5).2.2 h2).2.2.2))))))))))))))))))))))))))))))))))))))) (fun h6 => (x_ild c371_32 rfl (x_ildn c371_34 rfl (x_cne c371_35 (H.2.2 h6).1.1 (H.2.2 h6).1.2 (fun h3 => (x_aldn c371_41 rfl (x_gfr c371_42 k_133_97 (x_ild c371_45 rfl (x_ci c371_47 (x_iadd c371_48 (x_ci c371_49 (x_ild c371_50 rfl (x_imul c371_52 (x_iadd c371_53 (x_aldn c371_54 rfl (x_ild c371_55 rfl (wp_wk (l' := [some (jR 133), some (jI v1), some (jI v2), some (jI v3), some (jI v4), some (jI v5), some (jI v6), some (jI v7)]) ⟨rfl, ⟨rfl, ⟨rfl, ⟨rfl, ⟨rfl, ⟨rfl, ⟨rfl, ⟨rfl, trivial⟩⟩⟩⟩⟩⟩⟩⟩ (x_cv (As := [jI v7]) (st := [jI ((v5 + 1) + (2 * v6)), jR 188]) c371_57 cl_133 kl344 rfl (Nat.le_of_ble_eq_true rfl) mx344 (Nat.le_refl _) ((H.2.2 h6).2.1 h3))))))))))))))) (fun h4 => (x_goto c371_38 (x_inc (l' := [some (jR 133), some (jI v1), some (jI v2), some (jI v3), some (jI v4), some (jI v5), some (jI v6), some (jI (v7 + 1))]) c371_84 rfl rfl (x_goto c371_87 (wp_wk (l' := [some (jR 133), some (jI v1), some (jI v2), some (jI v3), some (jI v4), some (jI v5), some (jI v6), some (jI (v7 + 1))]) ⟨rfl, ⟨rfl, ⟨rfl, ⟨rfl, ⟨rfl, ⟨rfl, ⟨rfl, ⟨rfl, trivial⟩⟩⟩⟩⟩⟩⟩⟩ ((H.2.2 h6).2.2 h4)))))))))))
theorem s371_60 {kc : List va_E} {d : Nat} {v1 v2 v3 v4 v5 v6 v7 u0 u1 : Int} {M : fx_M} {Q : Option fx_V → fx_M → Prop} (H : (((0 : Int) ≤ u1 ∧ u1 < 1024)) ∧ wc kc d 345 [jR 133, jI v7] (fx_up M 188 u1 u0) (fun v M1 => wp kc (d + 1) 371 80 [some (jR 133), some (jI v1), some (jI v2), some (jI v3), some (jI v4), some (jI v5), some (jI v6), some (jI v7)] (v.toList ++ [jI ((v5 + 2) + (2 * v6)), jR 188]) M1 Q)) : wp kc (d + 1) 371 60 [some (jR 133), some (jI v1), some (jI v2), some (jI v3), some (jI v4), some (jI v5), some (jI v6), some (jI v7)] [jI u0, jI u1, jR 188] M Q :=
  (x_iast c371_60 a_188 H.1 (by decide) (x_aldn c371_61 rfl (x_gfr c371_62 k_133_97 (x_ild c371_65 rfl (x_ci c371_67 (x_iadd c371_68 (x_ci c371_69 (x_ild c371_70 rfl (x_imul c371_72 (x_iadd c371_73 (x_aldn c371_74 rfl (x_ild c371_75 rfl (wp_wk (l' := [some (jR 133), some (jI v1), some (jI v2), some (jI v3), some (jI v4), some (jI v5), some (jI v6), some (jI v7)]) ⟨rfl, ⟨rfl, ⟨rfl, ⟨rfl, ⟨rfl, ⟨rfl, ⟨rfl, ⟨rfl, trivial⟩⟩⟩⟩⟩⟩⟩⟩ (x_cv (As := [jI v7]) (st := [jI ((v5 + 2) + (2 * v6)), jR 188]) c371_77 cl_133 kl345 rfl (Nat.le_of_ble_eq_true rfl) mx345 (Nat.le_refl _) H.2))))))))))))))
theorem s371_80 {kc : List va_E} {d : Nat} {v1 v2 v3 v4 v5 v6 v7 u0 u1 : Int} {M : fx_M} {Q : Option fx_V → fx_M → Prop} (H : (((0 : Int) ≤ u1 ∧ u1 < 1024)) ∧ wp kc (d + 1) 371 23 [some (jR 133), some (jI v1), some (jI v2), some (jI v3), some (jI v4), some (jI v5), some (jI (v6 + 1)), some (jI (v7 + 1))] [] (fx_up M 188 u1 u0) Q) : wp kc (d + 1) 371 80 [some (jR 133), some (jI v1), some (jI v2), some (jI v3), some (jI v4), some (jI v5), some (jI v6), some (jI v7)] [jI u0, jI u1, jR 188] M Q :=
  (x_iast c371_80 a_188 H.1 (by decide) (x_inc (l' := [some (jR 133), some (jI v1), some (jI v2), some (jI v3), some (jI v4), some (jI v5), some (jI (v6 + 1)), some (jI v7)]) c371_81 rfl rfl (x_inc (l' := [some (jR 133), some (jI v1), some (jI v2), some (jI v3), some (jI v4), some (jI v5), some (jI (v6 + 1)), some (jI (v7 + 1))]) c371_84 rfl rfl (x_goto c371_87 (wp_wk (l' := [some (jR 133), some (jI v1), some (jI v2), some (jI v3), some (jI v4), some (jI v5), some (jI (v6 + 1)), some (jI (v7 + 1))]) ⟨rfl, ⟨rfl, ⟨rfl, ⟨rfl, ⟨rfl, ⟨rfl, ⟨rfl, ⟨rfl, trivial⟩⟩⟩⟩⟩⟩⟩⟩ H.2)))))
theorem s371_144 {kc : List va_E} {d : Nat} {v2 v3 v4 v5 v7 : Int} {M : fx_M} {Q : Option fx_V → fx_M → Prop} (H : ((fx_in32 v7)) ∧ (31 ≤ v7 → wc kc d 362 [jR 133, jI v4] M (fun v M1 => wp kc (d + 1) 371 185 [some (jR 133), none, some (jI v2), some (jI v3), some (jI v4), none, none, none] (v.toList ++ [jI ((v5 + 32) - 1), jR 188]) M1 Q)) ∧ (v7 < 31 → (((0 : Int) ≤ v5 + v7 ∧ v5 + v7 < 1024)) ∧ wp kc (d + 1) 371 144 [some (jR 133), none, some (jI v2), some (jI v3), some (jI v4), some (jI v5), none, some (jI (v7 + 1))] [] (fx_up M 188 (v5 + v7) 0) Q)) : wp kc (d + 1) 371 144 [some (jR 133), none, some (jI v2), some (jI v3), some (jI v4), some (jI v5), none, some (jI v7)] [] M Q :=
  (x_ild c371_144 rfl (x_ci c371_146 (x_cge c371_148 H.1 (by decide) (fun h1 => (x_aldn c371_168 rfl (x_gfr c371_169 k_133_97 (x_ild c371_172 rfl (x_ci c371_174 (x_iadd c371_176 (x_ci c371_177 (x_isub c371_178 (x_aldn c371_179 rfl (x_ild c371_180 rfl (wp_wk (l' := [some (jR 133), none, some (jI v2), some (jI v3), some (jI v4), none, none, none]) ⟨rfl, ⟨rfl, ⟨rfl, ⟨rfl, trivial⟩⟩⟩⟩ (x_cv (As := [jI v4]) (st := [jI ((v5 + 32) - 1), jR 188]) c371_182 cl_133 kl362 rfl (Nat.le_of_ble_eq_true rfl) mx362 (Nat.le_refl _) (H.2.1 h1))))))))))))) (fun h2 => (x_aldn c371_151 rfl (x_gfr c371_152 k_133_97 (x_ild c371_155 rfl (x_ild c371_157 rfl (x_iadd c371_159 (x_ci c371_160 (x_iast c371_161 a_188 (H.2.2 h2).1 (by decide) (x_inc (l' := [some (jR 133), none, some (jI v2), some (jI v3), some (jI v4), some (jI v5), none, some (jI (v7 + 1))]) c371_162 rfl rfl (x_goto c371_165 (wp_wk (l' := [some (jR 133), none, some (jI v2), some (jI v3), some (jI v4), some (jI v5), none, some (jI (v7 + 1))]) ⟨rfl, ⟨rfl, ⟨rfl, ⟨rfl, ⟨rfl, ⟨rfl, trivial⟩⟩⟩⟩⟩⟩ (H.2.2 h2).2))))))))))))))
theorem s371_185 {kc : List va_E} {d : Nat} {v2 v3 v4 u0 u1 : Int} {M : fx_M} {Q : Option fx_V → fx_M → Prop} (H : (((0 : Int) ≤ u1 ∧ u1 < 1024)) ∧ Q none (fx_up (fx_up (fx_up (fx_up (fx_up (fx_up M 188 u1 u0) 188 0 v4) 133 99 v2) 133 100 v3) 133 101 v4) 133 102 (((32 * v3) + 32) + 1))) : wp kc (d + 1) 371 185 [some (jR 133), none, some (jI v2), some (jI v3), some (jI v4), none, none, none] [jI u0, jI u1, jR 188] M Q :=
  (x_iast c371_185 a_188 H.1 (by decide) (x_aldn c371_186 rfl (x_gfr c371_187 k_133_97 (x_ci c371_190 (x_ild c371_191 rfl (x_iast c371_193 a_188 (by decide) (by decide) (x_aldn c371_194 rfl (x_ildn c371_195 rfl (x_pfi c371_196 k_133_99 (x_aldn c371_199 rfl (x_ildn c371_200 rfl (x_pfi c371_201 k_133_100 (x_aldn c371_204 rfl (x_ild c371_205 rfl (x_pfi c371_207 k_133_101 (x_aldn c371_210 rfl (x_ci c371_211 (x_ildn c371_213 rfl (x_imul c371_214 (x_ci c371_215 (x_iadd c371_217 (x_ci c371_218 (x_iadd c371_219 (x_pfi c371_220 k_133_102 (x_vr c371_223 r371 H.2)))))))))))))))))))))))))
theorem s371 {kc : List va_E} {d : Nat} {x1 x2 x3 : Int} {M : fx_M} {Q : Option fx_V → fx_M → Prop} (H : wp kc (d + 1) 371 23 [some (jR 133), some (jI x1), some (jI x2), some (jI x3), some (jI (3 - (M 188 0))), some (jI (32 * (3 - (M 188 0)))), some (jI 0), some (jI 0)] [] M Q) : wc kc (d + 1) 371 [jR 133, jI x1, jI x2, jI x3] M Q :=
  wc_of (wp_wk (l' := [some (jR 133), some (jI x1), some (jI x2), some (jI x3), none, none, none, none]) ⟨rfl, ⟨rfl, ⟨rfl, ⟨rfl, trivial⟩⟩⟩⟩ (s371_0 H))

/- PuzzleHouseModel.sayOpen()V -/
theorem c372_0 : fx_op 372 0 = some (.aload_n 0, 1, 0) := by decide +kernel
theorem c372_1 : fx_ca 372 1 = some (366, 1, 2, 4) := by decide +kernel
theorem c372_4 : fx_op 372 4 = some (.istore_n 1, 5, 4) := by decide +kernel
theorem c372_5 : fx_op 372 5 = some (.iload_n 1, 6, 5) := by decide +kernel
theorem c372_6 : fx_op 372 6 = some (.ifCond .ge 11, 9, 17) := by decide +kernel
theorem c372_17 : fx_op 372 17 = some (.aload_n 0, 18, 17) := by decide +kernel
theorem c372_18 : fx_op 372 18 = some (.iload_n 1, 19, 18) := by decide +kernel
theorem c372_9 : fx_op 372 9 = some (.aload_n 0, 10, 9) := by decide +kernel
theorem c372_10 : fx_cj 372 10 = some (1851878757, 13) := by decide +kernel
theorem c372_19 : fx_ca 372 19 = some (343, 2, 2, 22) := by decide +kernel
theorem c372_13 : fx_ca 372 13 = some (260, 2, 2, 16) := by decide +kernel
theorem c372_22 : fx_op 372 22 = some (.pop, 23, 22) := by decide +kernel
theorem c372_23 : fx_op 372 23 = some (.aload_n 0, 24, 23) := by decide +kernel
theorem c372_24 : fx_ca 372 24 = some (263, 1, 2, 27) := by decide +kernel
theorem c372_16 : fx_op 372 16 = some (.return_, 17, 16) := by decide +kernel
theorem c372_27 : fx_op 372 27 = some (.return_, 28, 27) := by decide +kernel
theorem s372_0 {kc : List va_E} {d : Nat} {M : fx_M} {Q : Option fx_V → fx_M → Prop} (H : wc kc d 366 [jR 133] M (fun v M1 => wp kc (d + 1) 372 4 [some (jR 133), none] (v.toList ++ []) M1 Q)) : wp kc (d + 1) 372 0 [some (jR 133), none] [] M Q :=
  (x_aldn c372_0 rfl (wp_wk (l' := [some (jR 133), none]) ⟨rfl, trivial⟩ (x_cv (As := []) (st := []) c372_1 cl_133 kl366 rfl (Nat.le_of_ble_eq_true rfl) mx366 (Nat.le_refl _) H)))
theorem s372_4 {kc : List va_E} {d : Nat} {u0 : Int} {M : fx_M} {Q : Option fx_V → fx_M → Prop} (H : ((fx_in32 u0)) ∧ (0 ≤ u0 → wc kc d 343 [jR 133, jI u0] M (fun v M1 => wp kc (d + 1) 372 22 [some (jR 133), none] (v.toList ++ []) M1 Q)) ∧ (u0 < 0 → wc kc d 260 [jR 133, jL 1851878757] M (fun v M1 => wp kc (d + 1) 372 16 [none, none] (v.toList ++ []) M1 Q))) : wp kc (d + 1) 372 4 [some (jR 133), none] [jI u0] M Q :=
  (x_istn (l' := [some (jR 133), some (jI u0)]) c372_4 rfl (x_ildn c372_5 rfl (x_zge c372_6 H.1 (fun h1 => (x_aldn c372_17 rfl (x_ildn c372_18 rfl (wp_wk (l' := [some (jR 133), none]) ⟨rfl, trivial⟩ (x_cv (As := [jI u0]) (st := []) c372_19 cl_133 kl343 rfl (Nat.le_of_ble_eq_true rfl) mx343 (Nat.le_refl _) (H.2.1 h1)))))) (fun h2 => (x_aldn c372_9 rfl (x_cj c372_10 (wp_wk (l' := [none, none]) trivial (x_cv (As := [jL 1851878757]) (st := []) c372_13 cl_133 kl260 rfl (Nat.le_of_ble_eq_true rfl) mx260 (Nat.le_refl _) (H.2.2 h2)))))))))
theorem s372_16 {kc : List va_E} {d : Nat} {M : fx_M} {Q : Option fx_V → fx_M → Prop} (H : Q none M) : wp kc (d + 1) 372 16 [none, none] [] M Q :=
  (x_vr c372_16 r372 H)
theorem s372_22 {kc : List va_E} {d : Nat} {u0 : Int} {M : fx_M} {Q : Option fx_V → fx_M → Prop} (H : wc kc d 263 [jR 133] M (fun v M1 => wp kc (d + 1) 372 27 [none, none] (v.toList ++ []) M1 Q)) : wp kc (d + 1) 372 22 [some (jR 133), none] [jI u0] M Q :=
  (x_popi c372_22 (x_aldn c372_23 rfl (wp_wk (l' := [none, none]) trivial (x_cv (As := []) (st := []) c372_24 cl_133 kl263 rfl (Nat.le_of_ble_eq_true rfl) mx263 (Nat.le_refl _) H))))
theorem s372_27 {kc : List va_E} {d : Nat} {M : fx_M} {Q : Option fx_V → fx_M → Prop} (H : Q none M) : wp kc (d + 1) 372 27 [none, none] [] M Q :=
  (x_vr c372_27 r372 H)
theorem s372 {kc : List va_E} {d : Nat} {M : fx_M} {Q : Option fx_V → fx_M → Prop} (H : wc kc d 366 [jR 133] M (fun v M1 => wp kc (d + 1) 372 4 [some (jR 133), none] (v.toList ++ []) M1 Q)) : wc kc (d + 1) 372 [jR 133] M Q :=
  wc_of (wp_wk (l' := [some (jR 133), none]) ⟨rfl, trivial⟩ (s372_0 H))

/- PuzzleHouseModel.sayRemove()V -/
theorem c373_0 : fx_op 373 0 = some (.aload_n 0, 1, 0) := by decide +kernel
theorem c373_1 : fx_ca 373 1 = some (366, 1, 2, 4) := by decide +kernel
theorem c373_4 : fx_op 373 4 = some (.istore_n 1, 5, 4) := by decide +kernel
theorem c373_5 : fx_op 373 5 = some (.iload_n 1, 6, 5) := by decide +kernel
theorem c373_6 : fx_op 373 6 = some (.ifCond .ge 11, 9, 17) := by decide +kernel
theorem c373_17 : fx_op 373 17 = some (.aload_n 0, 18, 17) := by decide +kernel
theorem c373_9 : fx_op 373 9 = some (.aload_n 0, 10, 9) := by decide +kernel
theorem c373_10 : fx_cj 373 10 = some (1851878757, 13) := by decide +kernel
theorem c373_18 : fx_ca 373 18 = some (370, 1, 2, 21) := by decide +kernel
theorem c373_13 : fx_ca 373 13 = some (260, 2, 2, 16) := by decide +kernel
theorem c373_21 : fx_op 373 21 = some (.aload_n 0, 22, 21) := by decide +kernel
theorem c373_22 : fx_op 373 22 = some (.iload_n 1, 23, 22) := by decide +kernel
theorem c373_23 : fx_ci 373 23 = some (0, 24) := by decide +kernel
theorem c373_24 : fx_ci 373 24 = some (0, 25) := by decide +kernel
theorem c373_25 : fx_ca 373 25 = some (371, 4, 2, 28) := by decide +kernel
theorem c373_16 : fx_op 373 16 = some (.return_, 17, 16) := by decide +kernel
theorem c373_28 : fx_op 373 28 = some (.aload_n 0, 29, 28) := by decide +kernel
theorem c373_29 : fx_ca 373 29 = some (261, 1, 2, 32) := by decide +kernel
theorem c373_32 : fx_op 373 32 = some (.return_, 33, 32) := by decide +kernel
theorem s373_0 {kc : List va_E} {d : Nat} {M : fx_M} {Q : Option fx_V → fx_M → Prop} (H : wc kc d 366 [jR 133] M (fun v M1 => wp kc (d + 1) 373 4 [some (jR 133), none] (v.toList ++ []) M1 Q)) : wp kc (d + 1) 373 0 [some (jR 133), none] [] M Q :=
  (x_aldn c373_0 rfl (wp_wk (l' := [some (jR 133), none]) ⟨rfl, trivial⟩ (x_cv (As := []) (st := []) c373_1 cl_133 kl366 rfl (Nat.le_of_ble_eq_true rfl) mx366 (Nat.le_refl _) H)))
theorem s373_4 {kc : List va_E} {d : Nat} {u0 : Int} {M : fx_M} {Q : Option fx_V → fx_M → Prop} (H : ((fx_in32 u0)) ∧ (0 ≤ u0 → wc kc d 370 [jR 133] M (fun v M1 => wp kc (d + 1) 373 21 [some (jR 133), some (jI u0)] (v.toList ++ []) M1 Q)) ∧ (u0 < 0 → wc kc d 260 [jR 133, jL 1851878757] M (fun v M1 => wp kc (d + 1) 373 16 [none, none] (v.toList ++ []) M1 Q))) : wp kc (d + 1) 373 4 [some (jR 133), none] [jI u0] M Q :=
  (x_istn (l' := [some (jR 133), some (jI u0)]) c373_4 rfl (x_ildn c373_5 rfl (x_zge c373_6 H.1 (fun h1 => (x_aldn c373_17 rfl (wp_wk (l' := [some (jR 133), some (jI u0)]) ⟨rfl, ⟨rfl, trivial⟩⟩ (x_cv (As := []) (st := []) c373_18 cl_133 kl370 rfl (Nat.le_of_ble_eq_true rfl) mx370 (Nat.le_refl _) (H.2.1 h1))))) (fun h2 => (x_aldn c373_9 rfl (x_cj c373_10 (wp_wk (l' := [none, none]) trivial (x_cv (As := [jL 1851878757]) (st := []) c373_13 cl_133 kl260 rfl (Nat.le_of_ble_eq_true rfl) mx260 (Nat.le_refl _) (H.2.2 h2)))))))))
theorem s373_16 {kc : List va_E} {d : Nat} {M : fx_M} {Q : Option fx_V → fx_M → Prop} (H : Q none M) : wp kc (d + 1) 373 16 [none, none] [] M Q :=
  (x_vr c373_16 r373 H)
theorem s373_21 {kc : List va_E} {d : Nat} {v1 : Int} {M : fx_M} {Q : Option fx_V → fx_M → Prop} (H : wc kc d 371 [jR 133, jI v1, jI 0, jI 0] M (fun v M1 => wp kc (d + 1) 373 28 [some (jR 133), none] (v.toList ++ []) M1 Q)) : wp kc (d + 1) 373 21 [some (jR 133), some (jI v1)] [] M Q :=
  (x_aldn c373_21 rfl (x_ildn c373_22 rfl (x_ci c373_23 (x_ci c373_24 (wp_wk (l' := [some (jR 133), none]) ⟨rfl, trivial⟩ (x_cv (As := [jI v1, jI 0, jI 0]) (st := []) c373_25 cl_133 kl371 rfl (Nat.le_of_ble_eq_true rfl) mx371 (Nat.le_refl _) H))))))
theorem s373_28 {kc : List va_E} {d : Nat} {M : fx_M} {Q : Option fx_V → fx_M → Prop} (H : wc kc d 261 [jR 133] M (fun v M1 => wp kc (d + 1) 373 32 [none, none] (v.toList ++ []) M1 Q)) : wp kc (d + 1) 373 28 [some (jR 133), none] [] M Q :=
  (x_aldn c373_28 rfl (wp_wk (l' := [none, none]) trivial (x_cv (As := []) (st := []) c373_29 cl_133 kl261 rfl (Nat.le_of_ble_eq_true rfl) mx261 (Nat.le_refl _) H)))
theorem s373_32 {kc : List va_E} {d : Nat} {M : fx_M} {Q : Option fx_V → fx_M → Prop} (H : Q none M) : wp kc (d + 1) 373 32 [none, none] [] M Q :=
  (x_vr c373_32 r373 H)
theorem s373 {kc : List va_E} {d : Nat} {M : fx_M} {Q : Option fx_V → fx_M → Prop} (H : wc kc d 366 [jR 133] M (fun v M1 => wp kc (d + 1) 373 4 [some (jR 133), none] (v.toList ++ []) M1 Q)) : wc kc (d + 1) 373 [jR 133] M Q :=
  wc_of (wp_wk (l' := [some (jR 133), none]) ⟨rfl, trivial⟩ (s373_0 H))

/- PuzzleHouseModel.sayList()V -/
theorem c374_0 : fx_ci 374 0 = some (0, 1) := by decide +kernel
theorem c374_1 : fx_op 374 1 = some (.istore_n 1, 2, 1) := by decide +kernel
theorem c374_2 : fx_op 374 2 = some (.iload_n 1, 3, 2) := by decide +kernel
theorem c374_3 : fx_op 374 3 = some (.aload_n 0, 4, 3) := by decide +kernel
theorem c374_4 : fx_ca 374 4 = some (341, 1, 2, 7) := by decide +kernel
theorem c374_7 : fx_op 374 7 = some (.if_icmp .ge 14, 10, 21) := by decide +kernel
theorem c374_10 : fx_op 374 10 = some (.aload_n 0, 11, 10) := by decide +kernel
theorem c374_11 : fx_op 374 11 = some (.iload_n 1, 12, 11) := by decide +kernel
theorem c374_21 : fx_op 374 21 = some (.aload_n 0, 22, 21) := by decide +kernel
theorem c374_22 : fx_ci 374 22 = some (46, 24) := by decide +kernel
theorem c374_24 : fx_ca 374 24 = some (254, 2, 2, 27) := by decide +kernel
theorem c374_12 : fx_ca 374 12 = some (347, 2, 2, 15) := by decide +kernel
theorem c374_27 : fx_op 374 27 = some (.return_, 28, 27) := by decide +kernel
theorem c374_15 : fx_op 374 15 = some (.iinc 1 1, 18, 15) := by decide +kernel
theorem c374_18 : fx_op 374 18 = some (.goto (-16), 21, 2) := by decide +kernel
theorem s374_0 {kc : List va_E} {d : Nat} {M : fx_M} {Q : Option fx_V → fx_M → Prop} (H : wp kc (d + 1) 374 2 [some (jR 133), some (jI 0)] [] M Q) : wp kc (d + 1) 374 0 [some (jR 133), none] [] M Q :=
  (x_ci c374_0 (x_istn (l' := [some (jR 133), some (jI 0)]) c374_1 rfl (wp_wk (l' := [some (jR 133), some (jI 0)]) ⟨rfl, ⟨rfl, trivial⟩⟩ H)))
theorem s374_2 {kc : List va_E} {d : Nat} {v1 : Int} {M : fx_M} {Q : Option fx_V → fx_M → Prop} (H : wc kc d 341 [jR 133] M (fun v M1 => wp kc (d + 1) 374 7 [some (jR 133), some (jI v1)] (v.toList ++ [jI v1]) M1 Q)) : wp kc (d + 1) 374 2 [some (jR 133), some (jI v1)] [] M Q :=
  (x_ildn c374_2 rfl (x_aldn c374_3 rfl (wp_wk (l' := [some (jR 133), some (jI v1)]) ⟨rfl, ⟨rfl, trivial⟩⟩ (x_cv (As := []) (st := [jI v1]) c374_4 cl_133 kl341 rfl (Nat.le_of_ble_eq_true rfl) mx341 (Nat.le_refl _) H))))
theorem s374_7 {kc : List va_E} {d : Nat} {v1 u0 u1 : Int} {M : fx_M} {Q : Option fx_V → fx_M → Prop} (H : ((fx_in32 u1) ∧ (fx_in32 u0)) ∧ (u0 ≤ u1 → wc kc d 254 [jR 133, jI 46] M (fun v M1 => wp kc (d + 1) 374 27 [none, none] (v.toList ++ []) M1 Q)) ∧ (u1 < u0 → wc kc d 347 [jR 133, jI v1] M (fun v M1 => wp kc (d + 1) 374 15 [some (jR 133), some (jI v1)] (v.toList ++ []) M1 Q))) : wp kc (d + 1) 374 7 [some (jR 133), some (jI v1)] [jI u0, jI u1] M Q :=
  (x_cge c374_7 H.1.1 H.1.2 (fun h1 => (x_aldn c374_21 rfl (x_ci c374_22 (wp_wk (l' := [none, none]) trivial (x_cv (As := [jI 46]) (st := []) c374_24 cl_133 kl254 rfl (Nat.le_of_ble_eq_true rfl) mx254 (Nat.le_refl _) (H.2.1 h1)))))) (fun h2 => (x_aldn c374_10 rfl (x_ildn c374_11 rfl (wp_wk (l' := [some (jR 133), some (jI v1)]) ⟨rfl, ⟨rfl, trivial⟩⟩ (x_cv (As := [jI v1]) (st := []) c374_12 cl_133 kl347 rfl (Nat.le_of_ble_eq_true rfl) mx347 (Nat.le_refl _) (H.2.2 h2)))))))
theorem s374_15 {kc : List va_E} {d : Nat} {v1 : Int} {M : fx_M} {Q : Option fx_V → fx_M → Prop} (H : wp kc (d + 1) 374 2 [some (jR 133), some (jI (v1 + 1))] [] M Q) : wp kc (d + 1) 374 15 [some (jR 133), some (jI v1)] [] M Q :=
  (x_inc (l' := [some (jR 133), some (jI (v1 + 1))]) c374_15 rfl rfl (x_goto c374_18 (wp_wk (l' := [some (jR 133), some (jI (v1 + 1))]) ⟨rfl, ⟨rfl, trivial⟩⟩ H)))
theorem s374_27 {kc : List va_E} {d : Nat} {M : fx_M} {Q : Option fx_V → fx_M → Prop} (H : Q none M) : wp kc (d + 1) 374 27 [none, none] [] M Q :=
  (x_vr c374_27 r374 H)
theorem s374 {kc : List va_E} {d : Nat} {M : fx_M} {Q : Option fx_V → fx_M → Prop} (H : wp kc (d + 1) 374 2 [some (jR 133), some (jI 0)] [] M Q) : wc kc (d + 1) 374 [jR 133] M Q :=
  wc_of (wp_wk (l' := [some (jR 133), none]) ⟨rfl, trivial⟩ (s374_0 H))

/- PuzzleHouseModel.saySetItem(I)V -/
theorem c375_0 : fx_op 375 0 = some (.aload_n 0, 1, 0) := by decide +kernel
theorem c375_1 : fx_ca 375 1 = some (366, 1, 2, 4) := by decide +kernel
theorem c375_4 : fx_op 375 4 = some (.istore_n 2, 5, 4) := by decide +kernel
theorem c375_5 : fx_op 375 5 = some (.iload_n 2, 6, 5) := by decide +kernel
theorem c375_6 : fx_op 375 6 = some (.ifCond .ge 13, 9, 19) := by decide +kernel
theorem c375_19 : fx_op 375 19 = some (.aload_n 0, 20, 19) := by decide +kernel
theorem c375_9 : fx_op 375 9 = some (.aload_n 0, 10, 9) := by decide +kernel
theorem c375_10 : fx_cj 375 10 = some (1851878757, 13) := by decide +kernel
theorem c375_20 : fx_ca 375 20 = some (350, 1, 2, 23) := by decide +kernel
theorem c375_13 : fx_ca 375 13 = some (260, 2, 2, 16) := by decide +kernel
theorem c375_23 : fx_op 375 23 = some (.ifCond .lt 13, 26, 36) := by decide +kernel
theorem c375_36 : fx_op 375 36 = some (.aload_n 0, 37, 36) := by decide +kernel
theorem c375_37 : fx_gf 375 37 = some (12, 89, 40) := by decide +kernel
theorem c375_40 : fx_ci 375 40 = some (6, 42) := by decide +kernel
theorem c375_42 : fx_op 375 42 = some (.if_icmp .ne 11, 45, 53) := by decide +kernel
theorem c375_53 : fx_op 375 53 = some (.aload_n 0, 54, 53) := by decide +kernel
theorem c375_54 : fx_gf 375 54 = some (12, 91, 57) := by decide +kernel
theorem c375_57 : fx_op 375 57 = some (.aload_n 0, 58, 57) := by decide +kernel
theorem c375_58 : fx_gf 375 58 = some (12, 89, 61) := by decide +kernel
theorem c375_61 : fx_op 375 61 = some (.aload_n 0, 62, 61) := by decide +kernel
theorem c375_62 : fx_gf 375 62 = some (12, 16, 65) := by decide +kernel
theorem c375_66 : fx_ci 375 66 = some (0, 67) := by decide +kernel
theorem c375_67 : fx_op 375 67 = some (.istore_n 3, 68, 67) := by decide +kernel
theorem c375_45 : fx_op 375 45 = some (.aload_n 0, 46, 45) := by decide +kernel
theorem c375_46 : fx_ci 375 46 = some (4, 47) := by decide +kernel
theorem c375_26 : fx_op 375 26 = some (.aload_n 0, 27, 26) := by decide +kernel
theorem c375_27 : fx_cj 375 27 = some (499967685221, 30) := by decide +kernel
theorem c375_65 : fx_op 375 65 = some (.iastore, 66, 65) := by decide +kernel
theorem c375_47 : fx_ca 375 47 = some (259, 2, 2, 50) := by decide +kernel
theorem c375_30 : fx_ca 375 30 = some (253, 2, 2, 33) := by decide +kernel
theorem c375_16 : fx_op 375 16 = some (.goto 175, 19, 191) := by decide +kernel
theorem c375_191 : fx_op 375 191 = some (.return_, 192, 191) := by decide +kernel
theorem c375_68 : fx_op 375 68 = some (.iload_n 3, 69, 68) := by decide +kernel
theorem c375_69 : fx_op 375 69 = some (.aload_n 0, 70, 69) := by decide +kernel
theorem c375_70 : fx_gf 375 70 = some (12, 16, 73) := by decide +kernel
theorem c375_73 : fx_op 375 73 = some (.if_icmp .ge 34, 76, 107) := by decide +kernel
theorem c375_76 : fx_op 375 76 = some (.aload_n 0, 77, 76) := by decide +kernel
theorem c375_77 : fx_gf 375 77 = some (12, 90, 80) := by decide +kernel
theorem c375_80 : fx_ci 375 80 = some (8, 82) := by decide +kernel
theorem c375_82 : fx_op 375 82 = some (.aload_n 0, 83, 82) := by decide +kernel
theorem c375_83 : fx_gf 375 83 = some (12, 89, 86) := by decide +kernel
theorem c375_86 : fx_op 375 86 = some (.imul, 87, 86) := by decide +kernel
theorem c375_87 : fx_op 375 87 = some (.iload_n 3, 88, 87) := by decide +kernel
theorem c375_88 : fx_op 375 88 = some (.iadd, 89, 88) := by decide +kernel
theorem c375_89 : fx_op 375 89 = some (.aload_n 0, 90, 89) := by decide +kernel
theorem c375_90 : fx_gf 375 90 = some (12, 4, 93) := by decide +kernel
theorem c375_93 : fx_op 375 93 = some (.aload_n 0, 94, 93) := by decide +kernel
theorem c375_94 : fx_gf 375 94 = some (12, 15, 97) := by decide +kernel
theorem c375_97 : fx_op 375 97 = some (.iload_n 3, 98, 97) := by decide +kernel
theorem c375_98 : fx_op 375 98 = some (.iadd, 99, 98) := by decide +kernel
theorem c375_99 : fx_op 375 99 = some (.iaload, 100, 99) := by decide +kernel
theorem c375_107 : fx_op 375 107 = some (.aload_n 0, 108, 107) := by decide +kernel
theorem c375_108 : fx_gf 375 108 = some (12, 92, 111) := by decide +kernel
theorem c375_111 : fx_op 375 111 = some (.aload_n 0, 112, 111) := by decide +kernel
theorem c375_112 : fx_gf 375 112 = some (12, 89, 115) := by decide +kernel
theorem c375_115 : fx_op 375 115 = some (.iload_n 1, 116, 115) := by decide +kernel
theorem c375_117 : fx_ci 375 117 = some (0, 118) := by decide +kernel
theorem c375_118 : fx_op 375 118 = some (.istore_n 3, 119, 118) := by decide +kernel
theorem c375_101 : fx_op 375 101 = some (.iinc 3 1, 104, 101) := by decide +kernel
theorem c375_116 : fx_op 375 116 = some (.iastore, 117, 116) := by decide +kernel
theorem c375_100 : fx_op 375 100 = some (.iastore, 101, 100) := by decide +kernel
theorem c375_104 : fx_op 375 104 = some (.goto (-36), 107, 68) := by decide +kernel
theorem c375_50 : fx_op 375 50 = some (.goto 141, 53, 191) := by decide +kernel
theorem c375_33 : fx_op 375 33 = some (.goto 158, 36, 191) := by decide +kernel
theorem c375_119 : fx_op 375 119 = some (.iload_n 3, 120, 119) := by decide +kernel
theorem c375_120 : fx_ci 375 120 = some (3, 121) := by decide +kernel
theorem c375_121 : fx_op 375 121 = some (.if_icmp .ge 39, 124, 160) := by decide +kernel
theorem c375_124 : fx_op 375 124 = some (.aload_n 0, 125, 124) := by decide +kernel
theorem c375_125 : fx_gf 375 125 = some (12, 93, 128) := by decide +kernel
theorem c375_128 : fx_ci 375 128 = some (6, 130) := by decide +kernel
theorem c375_130 : fx_op 375 130 = some (.iload_n 3, 131, 130) := by decide +kernel
theorem c375_131 : fx_op 375 131 = some (.imul, 132, 131) := by decide +kernel
theorem c375_132 : fx_op 375 132 = some (.aload_n 0, 133, 132) := by decide +kernel
theorem c375_133 : fx_gf 375 133 = some (12, 89, 136) := by decide +kernel
theorem c375_136 : fx_op 375 136 = some (.iadd, 137, 136) := by decide +kernel
theorem c375_137 : fx_ci 375 137 = some (0, 138) := by decide +kernel
theorem c375_160 : fx_op 375 160 = some (.aload_n 0, 161, 160) := by decide +kernel
theorem c375_161 : fx_op 375 161 = some (.iload_n 2, 162, 161) := by decide +kernel
theorem c375_139 : fx_op 375 139 = some (.aload_n 0, 140, 139) := by decide +kernel
theorem c375_140 : fx_gf 375 140 = some (12, 94, 143) := by decide +kernel
theorem c375_143 : fx_ci 375 143 = some (6, 145) := by decide +kernel
theorem c375_145 : fx_op 375 145 = some (.iload_n 3, 146, 145) := by decide +kernel
theorem c375_146 : fx_op 375 146 = some (.imul, 147, 146) := by decide +kernel
theorem c375_147 : fx_op 375 147 = some (.aload_n 0, 148, 147) := by decide +kernel
theorem c375_148 : fx_gf 375 148 = some (12, 89, 151) := by decide +kernel
theorem c375_151 : fx_op 375 151 = some (.iadd, 152, 151) := by decide +kernel
theorem c375_152 : fx_ci 375 152 = some (0, 153) := by decide +kernel
theorem c375_154 : fx_op 375 154 = some (.iinc 3 1, 157, 154) := by decide +kernel
theorem c375_162 : fx_ca 375 162 = some (343, 2, 2, 165) := by decide +kernel
theorem c375_138 : fx_op 375 138 = some (.iastore, 139, 138) := by decide +kernel
theorem c375_153 : fx_op 375 153 = some (.bastore, 154, 153) := by decide +kernel
theorem c375_157 : fx_op 375 157 = some (.goto (-38), 160, 119) := by decide +kernel
theorem c375_165 : fx_op 375 165 = some (.pop, 166, 165) := by decide +kernel
theorem c375_166 : fx_op 375 166 = some (.aload_n 0, 167, 166) := by decide +kernel
theorem c375_167 : fx_ci 375 167 = some (4, 168) := by decide +kernel
theorem c375_168 : fx_op 375 168 = some (.aload_n 0, 169, 168) := by decide +kernel
theorem c375_169 : fx_gf 375 169 = some (12, 89, 172) := by decide +kernel
theorem c375_172 : fx_op 375 172 = some (.iadd, 173, 172) := by decide +kernel
theorem c375_173 : fx_ca 375 173 = some (238, 2, 2, 176) := by decide +kernel
theorem c375_176 : fx_op 375 176 = some (.pop, 177, 176) := by decide +kernel
theorem c375_177 : fx_op 375 177 = some (.aload_n 0, 178, 177) := by decide +kernel
theorem c375_178 : fx_op 375 178 = some (.dup, 179, 178) := by decide +kernel
theorem c375_179 : fx_gf 375 179 = some (12, 89, 182) := by decide +kernel
theorem c375_182 : fx_ci 375 182 = some (1, 183) := by decide +kernel
theorem c375_183 : fx_op 375 183 = some (.iadd, 184, 183) := by decide +kernel
theorem c375_184 : fx_pf 375 184 = some (12, 89, 0, 187) := by decide +kernel
theorem c375_187 : fx_op 375 187 = some (.aload_n 0, 188, 187) := by decide +kernel
theorem c375_188 : fx_ca 375 188 = some (261, 1, 2, 191) := by decide +kernel
theorem s375_0 {kc : List va_E} {d : Nat} {x1 : Int} {M : fx_M} {Q : Option fx_V → fx_M → Prop} (H : wc kc d 366 [jR 133] M (fun v M1 => wp kc (d + 1) 375 4 [some (jR 133), some (jI x1), none, none] (v.toList ++ []) M1 Q)) : wp kc (d + 1) 375 0 [some (jR 133), some (jI x1), none, none] [] M Q :=
  (x_aldn c375_0 rfl (wp_wk (l' := [some (jR 133), some (jI x1), none, none]) ⟨rfl, ⟨rfl, trivial⟩⟩ (x_cv (As := []) (st := []) c375_1 cl_133 kl366 rfl (Nat.le_of_ble_eq_true rfl) mx366 (Nat.le_refl _) H)))
theorem s375_4 {kc : List va_E} {d : Nat} {v1 u0 : Int} {M : fx_M} {Q : Option fx_V → fx_M → Prop} (H : ((fx_in32 u0)) ∧ (0 ≤ u0 → wc kc d 350 [jR 133] M (fun v M1 => wp kc (d + 1) 375 23 [some (jR 133), some (jI v1), some (jI u0), none] (v.toList ++ []) M1 Q)) ∧ (u0 < 0 → wc kc d 260 [jR 133, jL 1851878757] M (fun v M1 => wp kc (d + 1) 375 16 [none, none, none, none] (v.toList ++ []) M1 Q))) : wp kc (d + 1) 375 4 [some (jR 133), some (jI v1), none, none] [jI u0] M Q :=
  (x_istn (l' := [some (jR 133), some (jI v1), some (jI u0), none]) c375_4 rfl (x_ildn c375_5 rfl (x_zge c375_6 H.1 (fun h1 => (x_aldn c375_19 rfl (wp_wk (l' := [some (jR 133), some (jI v1), some (jI u0), none]) ⟨rfl, ⟨rfl, ⟨rfl, trivial⟩⟩⟩ (x_cv (As := []) (st := []) c375_20 cl_133 kl350 rfl (Nat.le_of_ble_eq_true rfl) mx350 (Nat.le_refl _) (H.2.1 h1))))) (fun h2 => (x_aldn c375_9 rfl (x_cj c375_10 (wp_wk (l' := [none, none, none, none]) trivial (x_cv (As := [jL 1851878757]) (st := []) c375_13 cl_133 kl260 rfl (Nat.le_of_ble_eq_true rfl) mx260 (Nat.le_refl _) (H.2.2 h2)))))))))
theorem s375_16 {kc : List va_E} {d : Nat} {M : fx_M} {Q : Option fx_V → fx_M → Prop} (H : Q none M) : wp kc (d + 1) 375 16 [none, none, none, none] [] M Q :=
  (x_goto c375_16 (x_vr c375_191 r375 H))
theorem s375_23 {kc : List va_E} {d : Nat} {v1 v2 u0 : Int} {M : fx_M} {Q : Option fx_V → fx_M → Prop} (H : ((fx_in32 u0)) ∧ (u0 < 0 → ((fx_in32 (M 133 89))) ∧ (M 133 89 ≠ 6 → (((0 : Int) ≤ M 133 89 ∧ M 133 89 < 6)) ∧ wp kc (d + 1) 375 68 [some (jR 133), some (jI v1), some (jI v2), some (jI 0)] [] (fx_up M 183 (M 133 89) (M 133 16)) Q) ∧ (M 133 89 = 6 → wc kc d 259 [jR 133, jI 4] M (fun v M1 => wp kc (d + 1) 375 50 [none, none, none, none] (v.toList ++ []) M1 Q))) ∧ (0 ≤ u0 → wc kc d 253 [jR 133, jL 499967685221] M (fun v M1 => wp kc (d + 1) 375 33 [none, none, none, none] (v.toList ++ []) M1 Q))) : wp kc (d + 1) 375 23 [some (jR 133), some (jI v1), some (jI v2), none] [jI u0] M Q :=
  (x_zlt c375_23 H.1 (fun h3 => (x_aldn c375_36 rfl (x_gfi c375_37 k_133_89 (x_ci c375_40 (x_cne c375_42 (H.2.1 h3).1 (by decide) (fun h1 => (x_aldn c375_53 rfl (x_gfr c375_54 k_133_91 (x_aldn c375_57 rfl (x_gfi c375_58 k_133_89 (x_aldn c375_61 rfl (x_gfi c375_62 k_133_16 (x_iast c375_65 a_183 ((H.2.1 h3).2.1 h1).1 (by decide) (x_ci c375_66 (x_istn (l' := [some (jR 133), some (jI v1), some (jI v2), some (jI 0)]) c375_67 rfl (wp_wk (l' := [some (jR 133), some (jI v1), some (jI v2), some (jI 0)]) ⟨rfl, ⟨rfl, ⟨rfl, ⟨rfl, trivial⟩⟩⟩⟩ ((H.2.1 h3).2.1 h1).2))))))))))) (fun h2 => (x_aldn c375_45 rfl (x_ci c375_46 (wp_wk (l' := [none, none, none, none]) trivial (x_cv (As := [jI 4]) (st := []) c375_47 cl_133 kl259 rfl (Nat.le_of_ble_eq_true rfl) mx259 (Nat.le_refl _) ((H.2.1 h3).2.2 h2))))))))))) (fun h4 => (x_aldn c375_26 rfl (x_cj c375_27 (wp_wk (l' := [none, none, none, none]) trivial (x_cv (As := [jL 499967685221]) (st := []) c375_30 cl_133 kl253 rfl (Nat.le_of_ble_eq_true rfl) mx253 (Nat.le_refl _) (H.2.2 h4)))))))
theorem s375_33 {kc : List va_E} {d : Nat} {M : fx_M} {Q : Option fx_V → fx_M → Prop} (H : Q none M) : wp kc (d + 1) 375 33 [none, none, none, none] [] M Q :=
  (x_goto c375_33 (x_vr c375_191 r375 H))
theorem s375_50 {kc : List va_E} {d : Nat} {M : fx_M} {Q : Option fx_V → fx_M → Prop} (H : Q none M) : wp kc (d + 1) 375 50 [none, none, none, none] [] M Q :=
  (x_goto c375_50 (x_vr c375_191 r375 H))
theorem s375_68 {kc : List va_E} {d : Nat} {v1 v2 v3 : Int} {M : fx_M} {Q : Option fx_V → fx_M → Prop} (H : ((fx_in32 v3) ∧ (fx_in32 (M 133 16))) ∧ (M 133 16 ≤ v3 → (((0 : Int) ≤ M 133 89 ∧ M 133 89 < 6)) ∧ wp kc (d + 1) 375 119 [some (jR 133), none, some (jI v2), some (jI 0)] [] (fx_up M 184 (M 133 89) v1) Q) ∧ (v3 < M 133 16 → (((0 : Int) ≤ (M 133 15) + v3 ∧ (M 133 15) + v3 < 6100)) ∧ (((0 : Int) ≤ (8 * (M 133 89)) + v3 ∧ (8 * (M 133 89)) + v3 < 48)) ∧ wp kc (d + 1) 375 68 [some (jR 133), some (jI v1), some (jI v2), some (jI (v3 + 1))] [] (fx_up M 182 ((8 * (M 133 89)) + v3) (M 135 ((M 133 15) + v3))) Q)) : wp kc (d + 1) 375 68 [some (jR 133), some (jI v1), some (jI v2), some (jI v3)] [] M Q :=
  (x_ildn c375_68 rfl (x_aldn c375_69 rfl (x_gfi c375_70 k_133_16 (x_cge c375_73 H.1.1 H.1.2 (fun h1 => (x_aldn c375_107 rfl (x_gfr c375_108 k_133_92 (x_aldn c375_111 rfl (x_gfi c375_112 k_133_89 (x_ildn c375_115 rfl (x_iast c375_116 a_184 (H.2.1 h1).1 (by decide) (x_ci c375_117 (x_istn (l' := [some (jR 133), some (jI v1), some (jI v2), some (jI 0)]) c375_118 rfl (wp_wk (l' := [some (jR 133), none, some (jI v2), some (jI 0)]) ⟨rfl, ⟨rfl, ⟨rfl, trivial⟩⟩⟩ (H.2.1 h1).2)))))))))) (fun h2 => (x_aldn c375_76 rfl (x_gfr c375_77 k_133_90 (x_ci c375_80 (x_aldn c375_82 rfl (x_gfi c375_83 k_133_89 (x_imul c375_86 (x_ildn c375_87 rfl (x_iadd c375_88 (x_aldn c375_89 rfl (x_gfr c375_90 k_133_4 (x_aldn c375_93 rfl (x_gfi c375_94 k_133_15 (x_ildn c375_97 rfl (x_iadd c375_98 (x_iald c375_99 a_135 (H.2.2 h2).1 (by decide) (x_iast c375_100 a_182 (H.2.2 h2).2.1 (by decide) (x_inc (l' := [some (jR 133), some (jI v1), some (jI v2), some (jI (v3 + 1))]) c375_101 rfl rfl (x_goto c375_104 (wp_wk (l' := [some (jR 133), some (jI v1), some (jI v2), some (jI (v3 + 1))]) ⟨rfl, ⟨rfl, ⟨rfl, ⟨rfl, trivial⟩⟩⟩⟩ (H.2.2 h2).2.2))))))))))))))))))))))))
theorem s375_119 {kc : List va_E} {d : Nat} {v2 v3 : Int} {M : fx_M} {Q : Option fx_V → fx_M → Prop} (H : ((fx_in32 v3)) ∧ (3 ≤ v3 → wc kc d 343 [jR 133, jI v2] M (fun v M1 => wp kc (d + 1) 375 165 [some (jR 133), none, none, none] (v.toList ++ []) M1 Q)) ∧ (v3 < 3 → (((0 : Int) ≤ (6 * v3) + (M 133 89) ∧ (6 * v3) + (M 133 89) < 18)) ∧ (((0 : Int) ≤ (6 * v3) + (M 133 89) ∧ (6 * v3) + (M 133 89) < 18)) ∧ wp kc (d + 1) 375 119 [some (jR 133), none, some (jI v2), some (jI (v3 + 1))] [] (fx_up (fx_up M 185 ((6 * v3) + (M 133 89)) 0) 186 ((6 * v3) + (M 133 89)) 0) Q)) : wp kc (d + 1) 375 119 [some (jR 133), none, some (jI v2), some (jI v3)] [] M Q :=
  (x_ildn c375_119 rfl (x_ci c375_120 (x_cge c375_121 H.1 (by decide) (fun h1 => (x_aldn c375_160 rfl (x_ildn c375_161 rfl (wp_wk (l' := [some (jR 133), none, none, none]) ⟨rfl, trivial⟩ (x_cv (As := [jI v2]) (st := []) c375_162 cl_133 kl343 rfl (Nat.le_of_ble_eq_true rfl) mx343 (Nat.le_refl _) (H.2.1 h1)))))) (fun h2 => (x_aldn c375_124 rfl (x_gfr c375_125 k_133_93 (x_ci c375_128 (x_ildn c375_130 rfl (x_imul c375_131 (x_aldn c375_132 rfl (x_gfi c375_133 k_133_89 (x_iadd c375_136 (x_ci c375_137 (x_iast c375_138 a_185 (H.2.2 h2).1 (by decide) (x_aldn c375_139 rfl (x_gfr c375_140 k_133_94 (x_ci c375_143 (x_ildn c375_145 rfl (x_imul c375_146 (x_aldn c375_147 rfl (x_gfi c375_148 k_133_89 (wp_vI (fx_upA (by decide)) (x_iadd c375_151 (x_ci c375_152 (x_bast c375_153 a_186 (H.2.2 h2).2.1 (by decide) (by decide) (x_inc (l' := [some (jR 133), none, some (jI v2), some (jI (v3 + 1))]) c375_154 rfl rfl (x_goto c375_157 (wp_wk (l' := [some (jR 133), none, some (jI v2), some (jI (v3 + 1))]) ⟨rfl, ⟨rfl, ⟨rfl, trivial⟩⟩⟩ (H.2.2 h2).2.2))))))))))))))))))))))))))))
theorem s375_165 {kc : List va_E} {d : Nat} {u0 : Int} {M : fx_M} {Q : Option fx_V → fx_M → Prop} (H : wc kc d 238 [jR 133, jI (4 + (M 133 89))] M (fun v M1 => wp kc (d + 1) 375 176 [some (jR 133), none, none, none] (v.toList ++ []) M1 Q)) : wp kc (d + 1) 375 165 [some (jR 133), none, none, none] [jI u0] M Q :=
  (x_popi c375_165 (x_aldn c375_166 rfl (x_ci c375_167 (x_aldn c375_168 rfl (x_gfi c375_169 k_133_89 (x_iadd c375_172 (wp_wk (l' := [some (jR 133), none, none, none]) ⟨rfl, trivial⟩ (x_cv (As := [jI (4 + (M 133 89))]) (st := []) c375_173 cl_133 kl238 rfl (Nat.le_of_ble_eq_true rfl) mx238 (Nat.le_refl _) H))))))))
theorem s375_176 {kc : List va_E} {d : Nat} {u0 : Int} {M : fx_M} {Q : Option fx_V → fx_M → Prop} (H : wc kc d 261 [jR 133] (fx_up M 133 89 ((M 133 89) + 1)) (fun v M1 => wp kc (d + 1) 375 191 [none, none, none, none] (v.toList ++ []) M1 Q)) : wp kc (d + 1) 375 176 [some (jR 133), none, none, none] [jI u0] M Q :=
  (x_popi c375_176 (x_aldn c375_177 rfl (x_dupr c375_178 (x_gfi c375_179 k_133_89 (x_ci c375_182 (x_iadd c375_183 (x_pfi c375_184 k_133_89 (x_aldn c375_187 rfl (wp_wk (l' := [none, none, none, none]) trivial (x_cv (As := []) (st := []) c375_188 cl_133 kl261 rfl (Nat.le_of_ble_eq_true rfl) mx261 (Nat.le_refl _) H))))))))))
theorem s375_191 {kc : List va_E} {d : Nat} {M : fx_M} {Q : Option fx_V → fx_M → Prop} (H : Q none M) : wp kc (d + 1) 375 191 [none, none, none, none] [] M Q :=
  (x_vr c375_191 r375 H)
theorem s375 {kc : List va_E} {d : Nat} {x1 : Int} {M : fx_M} {Q : Option fx_V → fx_M → Prop} (H : wc kc d 366 [jR 133] M (fun v M1 => wp kc (d + 1) 375 4 [some (jR 133), some (jI x1), none, none] (v.toList ++ []) M1 Q)) : wc kc (d + 1) 375 [jR 133, jI x1] M Q :=
  wc_of (wp_wk (l' := [some (jR 133), some (jI x1), none, none]) ⟨rfl, ⟨rfl, trivial⟩⟩ (s375_0 H))

/- PuzzleHouseModel.sayExport()V -/
theorem c376_0 : fx_op 376 0 = some (.aload_n 0, 1, 0) := by decide +kernel
theorem c376_1 : fx_ci 376 1 = some (56, 3) := by decide +kernel
theorem c376_3 : fx_ca 376 3 = some (221, 1, 0, 6) := by decide +kernel
theorem c376_6 : fx_op 376 6 = some (.aload_n 0, 7, 6) := by decide +kernel
theorem c376_7 : fx_ca 376 7 = some (341, 1, 2, 10) := by decide +kernel
theorem c376_10 : fx_ca 376 10 = some (252, 3, 2, 13) := by decide +kernel
theorem c376_13 : fx_ci 376 13 = some (0, 14) := by decide +kernel
theorem c376_14 : fx_op 376 14 = some (.istore_n 1, 15, 14) := by decide +kernel
theorem c376_15 : fx_op 376 15 = some (.iload_n 1, 16, 15) := by decide +kernel
theorem c376_16 : fx_op 376 16 = some (.aload_n 0, 17, 16) := by decide +kernel
theorem c376_17 : fx_ca 376 17 = some (341, 1, 2, 20) := by decide +kernel
theorem c376_20 : fx_op 376 20 = some (.if_icmp .ge 37, 23, 57) := by decide +kernel
theorem c376_23 : fx_op 376 23 = some (.aload_n 0, 24, 23) := by decide +kernel
theorem c376_24 : fx_ci 376 24 = some (47, 26) := by decide +kernel
theorem c376_57 : fx_op 376 57 = some (.aload_n 0, 58, 57) := by decide +kernel
theorem c376_58 : fx_ci 376 58 = some (47, 60) := by decide +kernel
theorem c376_60 : fx_ca 376 60 = some (254, 2, 2, 63) := by decide +kernel
theorem c376_26 : fx_ca 376 26 = some (254, 2, 2, 29) := by decide +kernel
theorem c376_63 : fx_ci 376 63 = some (7, 65) := by decide +kernel
theorem c376_65 : fx_op 376 65 = some (.istore_n 1, 66, 65) := by decide +kernel
theorem c376_66 : fx_ci 376 66 = some (0, 67) := by decide +kernel
theorem c376_67 : fx_op 376 67 = some (.istore_n 2, 68, 67) := by decide +kernel
theorem c376_29 : fx_op 376 29 = some (.aload_n 0, 30, 29) := by decide +kernel
theorem c376_30 : fx_op 376 30 = some (.iload_n 1, 31, 30) := by decide +kernel
theorem c376_31 : fx_ca 376 31 = some (347, 2, 2, 34) := by decide +kernel
theorem c376_68 : fx_op 376 68 = some (.iload_n 2, 69, 68) := by decide +kernel
theorem c376_69 : fx_op 376 69 = some (.aload_n 0, 70, 69) := by decide +kernel
theorem c376_70 : fx_gf 376 70 = some (12, 5, 73) := by decide +kernel
theorem c376_73 : fx_op 376 73 = some (.if_icmp .ge 25, 76, 98) := by decide +kernel
theorem c376_76 : fx_ci 376 76 = some (31, 78) := by decide +kernel
theorem c376_78 : fx_op 376 78 = some (.iload_n 1, 79, 78) := by decide +kernel
theorem c376_79 : fx_op 376 79 = some (.imul, 80, 79) := by decide +kernel
theorem c376_80 : fx_op 376 80 = some (.aload_n 0, 81, 80) := by decide +kernel
theorem c376_81 : fx_gf 376 81 = some (12, 6, 84) := by decide +kernel
theorem c376_84 : fx_op 376 84 = some (.iload_n 2, 85, 84) := by decide +kernel
theorem c376_85 : fx_op 376 85 = some (.iaload, 86, 85) := by decide +kernel
theorem c376_86 : fx_op 376 86 = some (.iadd, 87, 86) := by decide +kernel
theorem c376_87 : fx_ci 376 87 = some (65521, 90) := by decide +kernel
theorem c376_90 : fx_op 376 90 = some (.irem, 91, 90) := by decide +kernel
theorem c376_91 : fx_op 376 91 = some (.istore_n 1, 92, 91) := by decide +kernel
theorem c376_92 : fx_op 376 92 = some (.iinc 2 1, 95, 92) := by decide +kernel
theorem c376_98 : fx_op 376 98 = some (.aload_n 0, 99, 98) := by decide +kernel
theorem c376_99 : fx_op 376 99 = some (.iload_n 1, 100, 99) := by decide +kernel
theorem c376_100 : fx_ca 376 100 = some (256, 2, 2, 103) := by decide +kernel
theorem c376_95 : fx_op 376 95 = some (.goto (-27), 98, 68) := by decide +kernel
theorem c376_34 : fx_op 376 34 = some (.aload_n 0, 35, 34) := by decide +kernel
theorem c376_35 : fx_op 376 35 = some (.iload_n 1, 36, 35) := by decide +kernel
theorem c376_36 : fx_ca 376 36 = some (343, 2, 2, 39) := by decide +kernel
theorem c376_103 : fx_op 376 103 = some (.return_, 104, 103) := by decide +kernel
theorem c376_39 : fx_op 376 39 = some (.pop, 40, 39) := by decide +kernel
theorem c376_40 : fx_op 376 40 = some (.aload_n 0, 41, 40) := by decide +kernel
theorem c376_41 : fx_ci 376 41 = some (1, 42) := by decide +kernel
theorem c376_42 : fx_ca 376 42 = some (238, 2, 2, 45) := by decide +kernel
theorem c376_45 : fx_op 376 45 = some (.pop, 46, 45) := by decide +kernel
theorem c376_46 : fx_op 376 46 = some (.aload_n 0, 47, 46) := by decide +kernel
theorem c376_47 : fx_ci 376 47 = some (1, 48) := by decide +kernel
theorem c376_48 : fx_ca 376 48 = some (340, 2, 2, 51) := by decide +kernel
theorem c376_51 : fx_op 376 51 = some (.iinc 1 1, 54, 51) := by decide +kernel
theorem c376_54 : fx_op 376 54 = some (.goto (-39), 57, 15) := by decide +kernel
theorem s376_0 {kc : List va_E} {d : Nat} {M : fx_M} {Q : Option fx_V → fx_M → Prop} (H : wc kc d 221 [jI 56] M (fun v M1 => wp kc (d + 1) 376 6 [some (jR 133), none, none] (v.toList ++ [jR 133]) M1 Q)) : wp kc (d + 1) 376 0 [some (jR 133), none, none] [] M Q :=
  (x_aldn c376_0 rfl (x_ci c376_1 (wp_wk (l' := [some (jR 133), none, none]) ⟨rfl, trivial⟩ (x_cs (As := [jI 56]) (st := [jR 133]) c376_3 (by decide) rfl (Nat.le_of_ble_eq_true rfl) mx221 (Nat.le_refl _) H))))
theorem s376_6 {kc : List va_E} {d : Nat} {u0 : Int} {M : fx_M} {Q : Option fx_V → fx_M → Prop} (H : wc kc d 341 [jR 133] M (fun v M1 => wp kc (d + 1) 376 10 [some (jR 133), none, none] (v.toList ++ [jL u0, jR 133]) M1 Q)) : wp kc (d + 1) 376 6 [some (jR 133), none, none] [jL u0, jR 133] M Q :=
  (x_aldn c376_6 rfl (wp_wk (l' := [some (jR 133), none, none]) ⟨rfl, trivial⟩ (x_cv (As := []) (st := [jL u0, jR 133]) c376_7 cl_133 kl341 rfl (Nat.le_of_ble_eq_true rfl) mx341 (Nat.le_refl _) H)))
theorem s376_10 {kc : List va_E} {d : Nat} {u0 u1 : Int} {M : fx_M} {Q : Option fx_V → fx_M → Prop} (H : wc kc d 252 [jR 133, jL u1, jI u0] M (fun v M1 => wp kc (d + 1) 376 13 [some (jR 133), none, none] (v.toList ++ []) M1 Q)) : wp kc (d + 1) 376 10 [some (jR 133), none, none] [jI u0, jL u1, jR 133] M Q :=
  (wp_wk (l' := [some (jR 133), none, none]) ⟨rfl, trivial⟩ (x_cv (As := [jL u1, jI u0]) (st := []) c376_10 cl_133 kl252 rfl (Nat.le_of_ble_eq_true rfl) mx252 (Nat.le_refl _) H))
theorem s376_13 {kc : List va_E} {d : Nat} {M : fx_M} {Q : Option fx_V → fx_M → Prop} (H : wp kc (d + 1) 376 15 [some (jR 133), some (jI 0), none] [] M Q) : wp kc (d + 1) 376 13 [some (jR 133), none, none] [] M Q :=
  (x_ci c376_13 (x_istn (l' := [some (jR 133), some (jI 0), none]) c376_14 rfl (wp_wk (l' := [some (jR 133), some (jI 0), none]) ⟨rfl, ⟨rfl, trivial⟩⟩ H)))
theorem s376_15 {kc : List va_E} {d : Nat} {v1 : Int} {M : fx_M} {Q : Option fx_V → fx_M → Prop} (H : wc kc d 341 [jR 133] M (fun v M1 => wp kc (d + 1) 376 20 [some (jR 133), some (jI v1), none] (v.toList ++ [jI v1]) M1 Q)) : wp kc (d + 1) 376 15 [some (jR 133), some (jI v1), none] [] M Q :=
  (x_ildn c376_15 rfl (x_aldn c376_16 rfl (wp_wk (l' := [some (jR 133), some (jI v1), none]) ⟨rfl, ⟨rfl, trivial⟩⟩ (x_cv (As := []) (st := [jI v1]) c376_17 cl_133 kl341 rfl (Nat.le_of_ble_eq_true rfl) mx341 (Nat.le_refl _) H))))
theorem s376_20 {kc : List va_E} {d : Nat} {v1 u0 u1 : Int} {M : fx_M} {Q : Option fx_V → fx_M → Prop} (H : ((fx_in32 u1) ∧ (fx_in32 u0)) ∧ (u0 ≤ u1 → wc kc d 254 [jR 133, jI 47] M (fun v M1 => wp kc (d + 1) 376 63 [some (jR 133), none, none] (v.toList ++ []) M1 Q)) ∧ (u1 < u0 → wc kc d 254 [jR 133, jI 47] M (fun v M1 => wp kc (d + 1) 376 29 [some (jR 133), some (jI v1), none] (v.toList ++ []) M1 Q))) : wp kc (d + 1) 376 20 [some (jR 133), some (jI v1), none] [jI u0, jI u1] M Q :=
  (x_cge c376_20 H.1.1 H.1.2 (fun h1 => (x_aldn c376_57 rfl (x_ci c376_58 (wp_wk (l' := [some (jR 133), none, none]) ⟨rfl, trivial⟩ (x_cv (As := [jI 47]) (st := []) c376_60 cl_133 kl254 rfl (Nat.le_of_ble_eq_true rfl) mx254 (Nat.le_refl _) (H.2.1 h1)))))) (fun h2 => (x_aldn c376_23 rfl (x_ci c376_24 (wp_wk (l' := [some (jR 133), some (jI v1), none]) ⟨rfl, ⟨rfl, trivial⟩⟩ (x_cv (As := [jI 47]) (st := []) c376_26 cl_133 kl254 rfl (Nat.le_of_ble_eq_true rfl) mx254 (Nat.le_refl _) (H.2.2 h2)))))))
theorem s376_29 {kc : List va_E} {d : Nat} {v1 : Int} {M : fx_M} {Q : Option fx_V → fx_M → Prop} (H : wc kc d 347 [jR 133, jI v1] M (fun v M1 => wp kc (d + 1) 376 34 [some (jR 133), some (jI v1), none] (v.toList ++ []) M1 Q)) : wp kc (d + 1) 376 29 [some (jR 133), some (jI v1), none] [] M Q :=
  (x_aldn c376_29 rfl (x_ildn c376_30 rfl (wp_wk (l' := [some (jR 133), some (jI v1), none]) ⟨rfl, ⟨rfl, trivial⟩⟩ (x_cv (As := [jI v1]) (st := []) c376_31 cl_133 kl347 rfl (Nat.le_of_ble_eq_true rfl) mx347 (Nat.le_refl _) H))))
theorem s376_34 {kc : List va_E} {d : Nat} {v1 : Int} {M : fx_M} {Q : Option fx_V → fx_M → Prop} (H : wc kc d 343 [jR 133, jI v1] M (fun v M1 => wp kc (d + 1) 376 39 [some (jR 133), some (jI v1), none] (v.toList ++ []) M1 Q)) : wp kc (d + 1) 376 34 [some (jR 133), some (jI v1), none] [] M Q :=
  (x_aldn c376_34 rfl (x_ildn c376_35 rfl (wp_wk (l' := [some (jR 133), some (jI v1), none]) ⟨rfl, ⟨rfl, trivial⟩⟩ (x_cv (As := [jI v1]) (st := []) c376_36 cl_133 kl343 rfl (Nat.le_of_ble_eq_true rfl) mx343 (Nat.le_refl _) H))))
theorem s376_39 {kc : List va_E} {d : Nat} {v1 u0 : Int} {M : fx_M} {Q : Option fx_V → fx_M → Prop} (H : wc kc d 238 [jR 133, jI 1] M (fun v M1 => wp kc (d + 1) 376 45 [some (jR 133), some (jI v1), none] (v.toList ++ []) M1 Q)) : wp kc (d + 1) 376 39 [some (jR 133), some (jI v1), none] [jI u0] M Q :=
  (x_popi c376_39 (x_aldn c376_40 rfl (x_ci c376_41 (wp_wk (l' := [some (jR 133), some (jI v1), none]) ⟨rfl, ⟨rfl, trivial⟩⟩ (x_cv (As := [jI 1]) (st := []) c376_42 cl_133 kl238 rfl (Nat.le_of_ble_eq_true rfl) mx238 (Nat.le_refl _) H)))))
theorem s376_45 {kc : List va_E} {d : Nat} {v1 u0 : Int} {M : fx_M} {Q : Option fx_V → fx_M → Prop} (H : wc kc d 340 [jR 133, jI 1] M (fun v M1 => wp kc (d + 1) 376 51 [some (jR 133), some (jI v1), none] (v.toList ++ []) M1 Q)) : wp kc (d + 1) 376 45 [some (jR 133), some (jI v1), none] [jI u0] M Q :=
  (x_popi c376_45 (x_aldn c376_46 rfl (x_ci c376_47 (wp_wk (l' := [some (jR 133), some (jI v1), none]) ⟨rfl, ⟨rfl, trivial⟩⟩ (x_cv (As := [jI 1]) (st := []) c376_48 cl_133 kl340 rfl (Nat.le_of_ble_eq_true rfl) mx340 (Nat.le_refl _) H)))))
theorem s376_51 {kc : List va_E} {d : Nat} {v1 : Int} {M : fx_M} {Q : Option fx_V → fx_M → Prop} (H : wp kc (d + 1) 376 15 [some (jR 133), some (jI (v1 + 1)), none] [] M Q) : wp kc (d + 1) 376 51 [some (jR 133), some (jI v1), none] [] M Q :=
  (x_inc (l' := [some (jR 133), some (jI (v1 + 1)), none]) c376_51 rfl rfl (x_goto c376_54 (wp_wk (l' := [some (jR 133), some (jI (v1 + 1)), none]) ⟨rfl, ⟨rfl, trivial⟩⟩ H)))
theorem s376_63 {kc : List va_E} {d : Nat} {M : fx_M} {Q : Option fx_V → fx_M → Prop} (H : wp kc (d + 1) 376 68 [some (jR 133), some (jI 7), some (jI 0)] [] M Q) : wp kc (d + 1) 376 63 [some (jR 133), none, none] [] M Q :=
  (x_ci c376_63 (x_istn (l' := [some (jR 133), some (jI 7), none]) c376_65 rfl (x_ci c376_66 (x_istn (l' := [some (jR 133), some (jI 7), some (jI 0)]) c376_67 rfl (wp_wk (l' := [some (jR 133), some (jI 7), some (jI 0)]) ⟨rfl, ⟨rfl, ⟨rfl, trivial⟩⟩⟩ H)))))
theorem s376_68 {kc : List va_E} {d : Nat} {v1 v2 : Int} {M : fx_M} {Q : Option fx_V → fx_M → Prop} (H : ((fx_in32 v2) ∧ (fx_in32 (M 133 5))) ∧ (M 133 5 ≤ v2 → wc kc d 256 [jR 133, jI v1] M (fun v M1 => wp kc (d + 1) 376 103 [none, none, none] (v.toList ++ []) M1 Q)) ∧ (v2 < M 133 5 → (((0 : Int) ≤ v2 ∧ v2 < 6000)) ∧ (((0 : Int) ≤ (31 * v1) + (M 136 v2) ∧ (31 * v1) + (M 136 v2) ≤ 2147483647)) ∧ wp kc (d + 1) 376 68 [some (jR 133), some (jI (((31 * v1) + (M 136 v2)) % 65521)), some (jI (v2 + 1))] [] M Q)) : wp kc (d + 1) 376 68 [some (jR 133), some (jI v1), some (jI v2)] [] M Q :=
  (x_ildn c376_68 rfl (x_aldn c376_69 rfl (x_gfi c376_70 k_133_5 (x_cge c376_73 H.1.1 H.1.2 (fun h1 => (x_aldn c376_98 rfl (x_ildn c376_99 rfl (wp_wk (l' := [none, none, none]) trivial (x_cv (As := [jI v1]) (st := []) c376_100 cl_133 kl256 rfl (Nat.le_of_ble_eq_true rfl) mx256 (Nat.le_refl _) (H.2.1 h1)))))) (fun h2 => (x_ci c376_76 (x_ildn c376_78 rfl (x_imul c376_79 (x_aldn c376_80 rfl (x_gfr c376_81 k_133_6 (x_ildn c376_84 rfl (x_iald c376_85 a_136 (H.2.2 h2).1 (by decide) (x_iadd c376_86 (x_ci c376_87 (x_irem c376_90 (H.2.2 h2).2.1 (by decide) (x_istn (l' := [some (jR 133), some (jI (((31 * v1) + (M 136 v2)) % 65521)), some (jI v2)]) c376_91 rfl (x_inc (l' := [some (jR 133), some (jI (((31 * v1) + (M 136 v2)) % 65521)), some (jI (v2 + 1))]) c376_92 rfl rfl (x_goto c376_95 (wp_wk (l' := [some (jR 133), some (jI (((31 * v1) + (M 136 v2)) % 65521)), some (jI (v2 + 1))]) ⟨rfl, ⟨rfl, ⟨rfl, trivial⟩⟩⟩ (H.2.2 h2).2.2)))))))))))))))))))
theorem s376_103 {kc : List va_E} {d : Nat} {M : fx_M} {Q : Option fx_V → fx_M → Prop} (H : Q none M) : wp kc (d + 1) 376 103 [none, none, none] [] M Q :=
  (x_vr c376_103 r376 H)
theorem s376 {kc : List va_E} {d : Nat} {M : fx_M} {Q : Option fx_V → fx_M → Prop} (H : wc kc d 221 [jI 56] M (fun v M1 => wp kc (d + 1) 376 6 [some (jR 133), none, none] (v.toList ++ [jR 133]) M1 Q)) : wc kc (d + 1) 376 [jR 133] M Q :=
  wc_of (wp_wk (l' := [some (jR 133), none, none]) ⟨rfl, trivial⟩ (s376_0 H))
