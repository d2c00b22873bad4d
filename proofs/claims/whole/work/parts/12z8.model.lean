/-! SEGMENTS of the model, 8 (by gen/emit_segs.py) -/
/- PuzzleHouseModel.makeSo(IZ)V -/
theorem c403_0 : fx_ci 403 0 = some (1, 1) := by decide +kernel
theorem c403_1 : fx_op 403 1 = some (.iload_n 1, 2, 1) := by decide +kernel
theorem c403_2 : fx_ca 403 2 = some (400, 1, 0, 5) := by decide +kernel
theorem c403_5 : fx_op 403 5 = some (.ishl, 6, 5) := by decide +kernel
theorem c403_6 : fx_op 403 6 = some (.istore_n 3, 7, 6) := by decide +kernel
theorem c403_7 : fx_op 403 7 = some (.iload_n 1, 8, 7) := by decide +kernel
theorem c403_8 : fx_ca 403 8 = some (399, 1, 0, 11) := by decide +kernel
theorem c403_11 : fx_op 403 11 = some (.istore 4, 13, 11) := by decide +kernel
theorem c403_13 : fx_op 403 13 = some (.aload_n 0, 14, 13) := by decide +kernel
theorem c403_14 : fx_gf 403 14 = some (12, 47, 17) := by decide +kernel
theorem c403_17 : fx_op 403 17 = some (.iload 4, 19, 17) := by decide +kernel
theorem c403_19 : fx_op 403 19 = some (.aload_n 0, 20, 19) := by decide +kernel
theorem c403_20 : fx_gf 403 20 = some (12, 47, 23) := by decide +kernel
theorem c403_23 : fx_op 403 23 = some (.iload 4, 25, 23) := by decide +kernel
theorem c403_26 : fx_op 403 26 = some (.iload_n 1, 27, 26) := by decide +kernel
theorem c403_25 : fx_op 403 25 = some (.iaload, 26, 25) := by decide +kernel
theorem c403_27 : fx_ca 403 27 = some (401, 1, 0, 30) := by decide +kernel
theorem c403_30 : fx_op 403 30 = some (.iload_n 2, 31, 30) := by decide +kernel
theorem c403_31 : fx_op 403 31 = some (.if_icmp .ne 7, 34, 38) := by decide +kernel
theorem c403_38 : fx_op 403 38 = some (.iload_n 3, 39, 38) := by decide +kernel
theorem c403_39 : fx_ci 403 39 = some ((-1), 40) := by decide +kernel
theorem c403_40 : fx_op 403 40 = some (.ixor, 41, 40) := by decide +kernel
theorem c403_34 : fx_op 403 34 = some (.iload_n 3, 35, 34) := by decide +kernel
theorem c403_35 : fx_op 403 35 = some (.goto 6, 38, 41) := by decide +kernel
theorem c403_41 : fx_op 403 41 = some (.iand, 42, 41) := by decide +kernel
theorem c403_42 : fx_op 403 42 = some (.iastore, 43, 42) := by decide +kernel
theorem c403_43 : fx_op 403 43 = some (.return_, 44, 43) := by decide +kernel
theorem s403_0 {kc : List va_E} {d : Nat} {x1 x2 : Int} {M : fx_M} {Q : Option fx_V → fx_M → Prop} (H : wc kc d 400 [jI x1] M (fun v M1 => wp kc (d + 1) 403 5 [some (jR 133), some (jI x1), some (jI x2), none, none] (v.toList ++ [jI 1]) M1 Q)) : wp kc (d + 1) 403 0 [some (jR 133), some (jI x1), some (jI x2), none, none] [] M Q :=
  (x_ci c403_0 (x_ildn c403_1 rfl (wp_wk (l' := [some (jR 133), some (jI x1), some (jI x2), none, none]) ⟨rfl, ⟨rfl, ⟨rfl, trivial⟩⟩⟩ (x_cs (As := [jI x1]) (st := [jI 1]) c403_2 (by decide) rfl (Nat.le_of_ble_eq_true rfl) mx400 (Nat.le_refl _) H))))
theorem s403_5 {kc : List va_E} {d : Nat} {v1 v2 u0 u1 : Int} {M : fx_M} {Q : Option fx_V → fx_M → Prop} (H : wc kc d 399 [jI v1] M (fun v M1 => wp kc (d + 1) 403 11 [some (jR 133), some (jI v1), some (jI v2), some (jI (fx_shl u1 u0)), none] (v.toList ++ []) M1 Q)) : wp kc (d + 1) 403 5 [some (jR 133), some (jI v1), some (jI v2), none, none] [jI u0, jI u1] M Q :=
  (x_ishl c403_5 (x_istn (l' := [some (jR 133), some (jI v1), some (jI v2), some (jI (fx_shl u1 u0)), none]) c403_6 rfl (x_ildn c403_7 rfl (wp_wk (l' := [some (jR 133), some (jI v1), some (jI v2), some (jI (fx_shl u1 u0)), none]) ⟨rfl, ⟨rfl, ⟨rfl, ⟨rfl, trivial⟩⟩⟩⟩ (x_cs (As := [jI v1]) (st := []) c403_8 (by decide) rfl (Nat.le_of_ble_eq_true rfl) mx399 (Nat.le_refl _) H)))))
theorem s403_11 {kc : List va_E} {d : Nat} {v1 v2 v3 u0 : Int} {M : fx_M} {Q : Option fx_V → fx_M → Prop} (H : (((0 : Int) ≤ u0 ∧ u0 < 9)) ∧ wc kc d 401 [jI v1] M (fun v M1 => wp kc (d + 1) 403 30 [none, none, some (jI v2), some (jI v3), none] (v.toList ++ [jI (M 156 u0), jI u0, jR 156]) M1 Q)) : wp kc (d + 1) 403 11 [some (jR 133), some (jI v1), some (jI v2), some (jI v3), none] [jI u0] M Q :=
  (x_ist (l' := [some (jR 133), some (jI v1), some (jI v2), some (jI v3), some (jI u0)]) c403_11 rfl (x_aldn c403_13 rfl (x_gfr c403_14 k_133_47 (x_ild c403_17 rfl (x_aldn c403_19 rfl (x_gfr c403_20 k_133_47 (x_ild c403_23 rfl (x_iald c403_25 a_156 H.1 (by decide) (x_ildn c403_26 rfl (wp_wk (l' := [none, none, some (jI v2), some (jI v3), none]) ⟨rfl, ⟨rfl, trivial⟩⟩ (x_cs (As := [jI v1]) (st := [jI (M 156 u0), jI u0, jR 156]) c403_27 (by decide) rfl (Nat.le_of_ble_eq_true rfl) mx401 (Nat.le_refl _) H.2)))))))))))
theorem s403_30 {kc : List va_E} {d : Nat} {v2 v3 u0 u1 u2 : Int} {M : fx_M} {Q : Option fx_V → fx_M → Prop} (H : ((fx_in32 u0)) ∧ ((fx_in32 v2)) ∧ (((0 : Int) ≤ u2 ∧ u2 < 9)) ∧ Q none (fx_up M 156 u2 (fx_and u1 (if u0 = v2 then (v3 : Int) else fx_xor v3 (-1))))) : wp kc (d + 1) 403 30 [none, none, some (jI v2), some (jI v3), none] [jI u0, jI u1, jI u2, jR 156] M Q :=
  (x_ildn c403_30 rfl (have K : wp kc (d + 1) 403 41 [none, none, none, none, none] [jI (if u0 = v2 then (v3 : Int) else fx_xor v3 (-1)), jI u1, jI u2, jR 156] M Q := (x_iand c403_41 (x_iast c403_42 a_156 H.2.2.1 (by decide) (x_vr c403_43 r403 H.2.2.2))); (x_cne c403_31 H.1 H.2.1 (fun (h1 : u0 ≠ v2) => (x_ildn c403_38 rfl (x_ci c403_39 (x_ixor c403_40 (wp_wk (l' := [none, none, none, none, none]) trivial (by have K := K; first | (simp only [if_neg h1] at K ⊢; exact K) | (exfalso; omega))))))) (fun (h2 : u0 = v2) => (x_ildn c403_34 rfl (x_goto c403_35 (wp_wk (l' := [none, none, none, none, none]) trivial (by have K := K; first | (simp only [if_pos h2] at K ⊢; exact K) | (exfalso; omega)))))))))
theorem s403 {kc : List va_E} {d : Nat} {x1 x2 : Int} {M : fx_M} {Q : Option fx_V → fx_M → Prop} (H : wc kc d 400 [jI x1] M (fun v M1 => wp kc (d + 1) 403 5 [some (jR 133), some (jI x1), some (jI x2), none, none] (v.toList ++ [jI 1]) M1 Q)) : wc kc (d + 1) 403 [jR 133, jI x1, jI x2] M Q :=
  wc_of (wp_wk (l' := [some (jR 133), some (jI x1), some (jI x2), none, none]) ⟨rfl, ⟨rfl, ⟨rfl, trivial⟩⟩⟩ (s403_0 H))

/- PuzzleHouseModel.unit(I)I -/
theorem c404_0 : fx_ci 404 0 = some ((-1), 1) := by decide +kernel
theorem c404_1 : fx_op 404 1 = some (.istore_n 2, 2, 1) := by decide +kernel
theorem c404_2 : fx_ci 404 2 = some (0, 3) := by decide +kernel
theorem c404_3 : fx_op 404 3 = some (.istore_n 3, 4, 3) := by decide +kernel
theorem c404_4 : fx_op 404 4 = some (.iload_n 3, 5, 4) := by decide +kernel
theorem c404_5 : fx_op 404 5 = some (.aload_n 0, 6, 5) := by decide +kernel
theorem c404_6 : fx_op 404 6 = some (.iload_n 1, 7, 6) := by decide +kernel
theorem c404_7 : fx_ca 404 7 = some (394, 2, 2, 10) := by decide +kernel
theorem c404_10 : fx_op 404 10 = some (.if_icmp .ge 56, 13, 66) := by decide +kernel
theorem c404_66 : fx_op 404 66 = some (.iload_n 2, 67, 66) := by decide +kernel
theorem c404_67 : fx_op 404 67 = some (.ifCond .ge 5, 70, 72) := by decide +kernel
theorem c404_72 : fx_op 404 72 = some (.aload_n 0, 73, 72) := by decide +kernel
theorem c404_73 : fx_op 404 73 = some (.iload_n 2, 74, 73) := by decide +kernel
theorem c404_74 : fx_ci 404 74 = some (1, 75) := by decide +kernel
theorem c404_70 : fx_ci 404 70 = some (2, 71) := by decide +kernel
theorem c404_13 : fx_op 404 13 = some (.aload_n 0, 14, 13) := by decide +kernel
theorem c404_14 : fx_op 404 14 = some (.iload_n 1, 15, 14) := by decide +kernel
theorem c404_15 : fx_op 404 15 = some (.iload_n 3, 16, 15) := by decide +kernel
theorem c404_75 : fx_ca 404 75 = some (403, 3, 2, 78) := by decide +kernel
theorem c404_71 : fx_op 404 71 = some (.ireturn, 72, 71) := by decide +kernel
theorem c404_16 : fx_ca 404 16 = some (395, 3, 2, 19) := by decide +kernel
theorem c404_78 : fx_ci 404 78 = some (1, 79) := by decide +kernel
theorem c404_79 : fx_op 404 79 = some (.ireturn, 80, 79) := by decide +kernel
theorem c404_19 : fx_op 404 19 = some (.istore 4, 21, 19) := by decide +kernel
theorem c404_21 : fx_op 404 21 = some (.aload_n 0, 22, 21) := by decide +kernel
theorem c404_22 : fx_op 404 22 = some (.iload 4, 24, 22) := by decide +kernel
theorem c404_24 : fx_ca 404 24 = some (405, 2, 2, 27) := by decide +kernel
theorem c404_27 : fx_op 404 27 = some (.istore 5, 29, 27) := by decide +kernel
theorem c404_29 : fx_op 404 29 = some (.iload 5, 31, 29) := by decide +kernel
theorem c404_31 : fx_ci 404 31 = some (1, 32) := by decide +kernel
theorem c404_32 : fx_op 404 32 = some (.if_icmp .eq 13, 35, 45) := by decide +kernel
theorem c404_45 : fx_ci 404 45 = some (0, 46) := by decide +kernel
theorem c404_35 : fx_op 404 35 = some (.iload 5, 37, 35) := by decide +kernel
theorem c404_37 : fx_ci 404 37 = some (2, 38) := by decide +kernel
theorem c404_38 : fx_op 404 38 = some (.if_icmp .ne 9, 41, 47) := by decide +kernel
theorem c404_47 : fx_op 404 47 = some (.iload 5, 49, 47) := by decide +kernel
theorem c404_49 : fx_ci 404 49 = some (2, 50) := by decide +kernel
theorem c404_50 : fx_op 404 50 = some (.if_icmp .ne 8, 53, 58) := by decide +kernel
theorem c404_58 : fx_op 404 58 = some (.iload_n 2, 59, 58) := by decide +kernel
theorem c404_53 : fx_op 404 53 = some (.iload 4, 55, 53) := by decide +kernel
theorem c404_55 : fx_op 404 55 = some (.goto 4, 58, 59) := by decide +kernel
theorem c404_59 : fx_op 404 59 = some (.istore_n 2, 60, 59) := by decide +kernel
theorem c404_60 : fx_op 404 60 = some (.iinc 3 1, 63, 60) := by decide +kernel
theorem c404_41 : fx_op 404 41 = some (.iload_n 2, 42, 41) := by decide +kernel
theorem c404_42 : fx_op 404 42 = some (.ifCond .lt 5, 45, 47) := by decide +kernel
theorem c404_46 : fx_op 404 46 = some (.ireturn, 47, 46) := by decide +kernel
theorem c404_63 : fx_op 404 63 = some (.goto (-59), 66, 4) := by decide +kernel
theorem s404_0 {kc : List va_E} {d : Nat} {x1 : Int} {M : fx_M} {Q : Option fx_V → fx_M → Prop} (H : wp kc (d + 1) 404 4 [some (jR 133), some (jI x1), some (jI (-1)), some (jI 0), none, none] [] M Q) : wp kc (d + 1) 404 0 [some (jR 133), some (jI x1), none, none, none, none] [] M Q :=
  (x_ci c404_0 (x_istn (l' := [some (jR 133), some (jI x1), some (jI (-1)), none, none, none]) c404_1 rfl (x_ci c404_2 (x_istn (l' := [some (jR 133), some (jI x1), some (jI (-1)), some (jI 0), none, none]) c404_3 rfl (wp_wk (l' := [some (jR 133), some (jI x1), some (jI (-1)), some (jI 0), none, none]) ⟨rfl, ⟨rfl, ⟨rfl, ⟨rfl, trivial⟩⟩⟩⟩ H)))))
theorem s404_4 {kc : List va_E} {d : Nat} {v1 v2 v3 : Int} {M : fx_M} {Q : Option fx_V → fx_M → Prop} (H : wc kc d 394 [jR 133, jI v1] M (fun v M1 => wp kc (d + 1) 404 10 [some (jR 133), some (jI v1), some (jI v2), some (jI v3), none, none] (v.toList ++ [jI v3]) M1 Q)) : wp kc (d + 1) 404 4 [some (jR 133), some (jI v1), some (jI v2), some (jI v3), none, none] [] M Q :=
  (x_ildn c404_4 rfl (x_aldn c404_5 rfl (x_ildn c404_6 rfl (wp_wk (l' := [some (jR 133), some (jI v1), some (jI v2), some (jI v3), none, none]) ⟨rfl, ⟨rfl, ⟨rfl, ⟨rfl, trivial⟩⟩⟩⟩ (x_cv (As := [jI v1]) (st := [jI v3]) c404_7 cl_133 kl394 rfl (Nat.le_of_ble_eq_true rfl) mx394 (Nat.le_refl _) H)))))
theorem s404_10 {kc : List va_E} {d : Nat} {v1 v2 v3 u0 u1 : Int} {M : fx_M} {Q : Option fx_V → fx_M → Prop} (H : ((fx_in32 u1) ∧ (fx_in32 u0)) ∧ (u0 ≤ u1 → ((fx_in32 v2)) ∧ (0 ≤ v2 → wc kc d 403 [jR 133, jI v2, jI 1] M (fun v M1 => wp kc (d + 1) 404 78 [none, none, none, none, none, none] (v.toList ++ []) M1 Q)) ∧ (v2 < 0 → Q (some (jI 2)) M)) ∧ (u1 < u0 → wc kc d 395 [jR 133, jI v1, jI v3] M (fun v M1 => wp kc (d + 1) 404 19 [some (jR 133), some (jI v1), some (jI v2), some (jI v3), none, none] (v.toList ++ []) M1 Q))) : wp kc (d + 1) 404 10 [some (jR 133), some (jI v1), some (jI v2), some (jI v3), none, none] [jI u0, jI u1] M Q :=
  (x_cge c404_10 H.1.1 H.1.2 (fun h3 => (x_ildn c404_66 rfl (x_zge c404_67 (H.2.1 h3).1 (fun h1 => (x_aldn c404_72 rfl (x_ildn c404_73 rfl (x_ci c404_74 (wp_wk (l' := [none, none, none, none, none, none]) trivial (x_cv (As := [jI v2, jI 1]) (st := []) c404_75 cl_133 kl403 rfl (Nat.le_of_ble_eq_true rfl) mx403 (Nat.le_refl _) ((H.2.1 h3).2.1 h1))))))) (fun h2 => (x_ci c404_70 (x_irt c404_71 r404 ((H.2.1 h3).2.2 h2))))))) (fun h4 => (x_aldn c404_13 rfl (x_ildn c404_14 rfl (x_ildn c404_15 rfl (wp_wk (l' := [some (jR 133), some (jI v1), some (jI v2), some (jI v3), none, none]) ⟨rfl, ⟨rfl, ⟨rfl, ⟨rfl, trivial⟩⟩⟩⟩ (x_cv (As := [jI v1, jI v3]) (st := []) c404_16 cl_133 kl395 rfl (Nat.le_of_ble_eq_true rfl) mx395 (Nat.le_refl _) (H.2.2 h4))))))))
theorem s404_19 {kc : List va_E} {d : Nat} {v1 v2 v3 u0 : Int} {M : fx_M} {Q : Option fx_V → fx_M → Prop} (H : wc kc d 405 [jR 133, jI u0] M (fun v M1 => wp kc (d + 1) 404 27 [some (jR 133), some (jI v1), some (jI v2), some (jI v3), some (jI u0), none] (v.toList ++ []) M1 Q)) : wp kc (d + 1) 404 19 [some (jR 133), some (jI v1), some (jI v2), some (jI v3), none, none] [jI u0] M Q :=
  (x_ist (l' := [some (jR 133), some (jI v1), some (jI v2), some (jI v3), some (jI u0), none]) c404_19 rfl (x_aldn c404_21 rfl (x_ild c404_22 rfl (wp_wk (l' := [some (jR 133), some (jI v1), some (jI v2), some (jI v3), some (jI u0), none]) ⟨rfl, ⟨rfl, ⟨rfl, ⟨rfl, ⟨rfl, trivial⟩⟩⟩⟩⟩ (x_cv (As := [jI u0]) (st := []) c404_24 cl_133 kl405 rfl (Nat.le_of_ble_eq_true rfl) mx405 (Nat.le_refl _) H)))))
theorem s404_27 {kc : List va_E} {d : Nat} {v1 v2 v3 v4 u0 : Int} {M : fx_M} {Q : Option fx_V → fx_M → Prop} (H : ((fx_in32 u0)) ∧ (u0 = 1 → Q (some (jI 0)) M) ∧ (u0 ≠ 1 → ((fx_in32 u0)) ∧ (u0 ≠ 2 → ((fx_in32 u0)) ∧ wp kc (d + 1) 404 4 [some (jR 133), some (jI v1), some (jI (if u0 = 2 then (v4 : Int) else v2)), some (jI (v3 + 1)), none, none] [] M Q) ∧ (u0 = 2 → ((fx_in32 v2)) ∧ (v2 < 0 → ((fx_in32 u0)) ∧ wp kc (d + 1) 404 4 [some (jR 133), some (jI v1), some (jI (if u0 = 2 then (v4 : Int) else v2)), some (jI (v3 + 1)), none, none] [] M Q) ∧ (0 ≤ v2 → Q (some (jI 0)) M)))) : wp kc (d + 1) 404 27 [some (jR 133), some (jI v1), some (jI v2), some (jI v3), some (jI v4), none] [jI u0] M Q :=
  (x_ist (l' := [some (jR 133), some (jI v1), some (jI v2), some (jI v3), some (jI v4), some (jI u0)]) c404_27 rfl (x_ild c404_29 rfl (x_ci c404_31 (x_ceq c404_32 H.1 (by decide) (fun h5 => (x_ci c404_45 (x_irt c404_46 r404 (H.2.1 h5)))) (fun h6 => (x_ild c404_35 rfl (x_ci c404_37 (x_cne c404_38 (H.2.2 h6).1 (by decide) (fun h3 => (x_ild c404_47 rfl (x_ci c404_49 (have K : wp kc (d + 1) 404 59 [some (jR 133), some (jI v1), none, some (jI v3), none, none] [jI (if u0 = 2 then (v4 : Int) else v2)] M Q := (x_istn (l' := [some (jR 133), some (jI v1), some (jI (if u0 = 2 then (v4 : Int) else v2)), some (jI v3), none, none]) c404_59 rfl (x_inc (l' := [some (jR 133), some (jI v1), some (jI (if u0 = 2 then (v4 : Int) else v2)), some (jI (v3 + 1)), none, none]) c404_60 rfl rfl (x_goto c404_63 (wp_wk (l' := [some (jR 133), some (jI v1), some (jI (if u0 = 2 then (v4 : Int) else v2)), some (jI (v3 + 1)), none, none]) ⟨rfl, ⟨rfl, ⟨rfl, ⟨rfl, trivial⟩⟩⟩⟩ ((H.2.2 h6).2.1 h3).2)))); (x_cne c404_50 ((H.2.2 h6).2.1 h3).1 (by decide) (fun (h7 : u0 ≠ 2) => (x_ildn c404_58 rfl (wp_wk (l' := [some (jR 133), some (jI v1), none, some (jI v3), none, none]) ⟨rfl, ⟨rfl, ⟨rfl, trivial⟩⟩⟩ (by have K := K; first | (simp only [if_neg h7] at K ⊢; exact K) | (exfalso; omega))))) (fun (h8 : u0 = 2) => (x_ild c404_53 rfl (x_goto c404_55 (wp_wk (l' := [some (jR 133), some (jI v1), none, some (jI v3), none, none]) ⟨rfl, ⟨rfl, ⟨rfl, trivial⟩⟩⟩ (by have K := K; first | (simp only [if_pos h8] at K ⊢; exact K) | (exfalso; omega))))))))))) (fun h4 => (x_ildn c404_41 rfl (x_zlt c404_42 ((H.2.2 h6).2.2 h4).1 (fun h1 => (x_ild c404_47 rfl (x_ci c404_49 (have K : wp kc (d + 1) 404 59 [some (jR 133), some (jI v1), none, some (jI v3), none, none] [jI (if u0 = 2 then (v4 : Int) else v2)] M Q := (x_istn (l' := [some (jR 133), some (jI v1), some (jI (if u0 = 2 then (v4 : Int) else v2)), some (jI v3), none, none]) c404_59 rfl (x_inc (l' := [some (jR 133), some (jI v1), some (jI (if u0 = 2 then (v4 : Int) else v2)), some (jI (v3 + 1)), none, none]) c404_60 rfl rfl (x_goto c404_63 (wp_wk (l' := [some (jR 133), some (jI v1), some (jI (if u0 = 2 then (v4 : Int) else v2)), some (jI (v3 + 1)), none, none]) ⟨rfl, ⟨rfl, ⟨rfl, ⟨rfl, trivial⟩⟩⟩⟩ (((H.2.2 h6).2.2 h4).2.1 h1).2)))); (x_cne c404_50 (((H.2.2 h6).2.2 h4).2.1 h1).1 (by decide) (fun (h9 : u0 ≠ 2) => (x_ildn c404_58 rfl (wp_wk (l' := [some (jR 133), some (jI v1), none, some (jI v3), none, none]) ⟨rfl, ⟨rfl, ⟨rfl, trivial⟩⟩⟩ (by have K := K; first | (simp only [if_neg h9] at K ⊢; exact K) | (exfalso; omega))))) (fun (h10 : u0 = 2) => (x_ild c404_53 rfl (x_goto c404_55 (wp_wk (l' := [some (jR 133), some (jI v1), none, some (jI v3), none, none]) ⟨rfl, ⟨rfl, ⟨rfl, trivial⟩⟩⟩ (by have K := K; first | (simp only [if_pos h10] at K ⊢; exact K) | (exfalso; omega))))))))))) (fun h2 => (x_ci c404_45 (x_irt c404_46 r404 (((H.2.2 h6).2.2 h4).2.2 h2)))))))))))))))
theorem s404_78 {kc : List va_E} {d : Nat} {M : fx_M} {Q : Option fx_V → fx_M → Prop} (H : Q (some (jI 1)) M) : wp kc (d + 1) 404 78 [none, none, none, none, none, none] [] M Q :=
  (x_ci c404_78 (x_irt c404_79 r404 H))
theorem s404 {kc : List va_E} {d : Nat} {x1 : Int} {M : fx_M} {Q : Option fx_V → fx_M → Prop} (H : wp kc (d + 1) 404 4 [some (jR 133), some (jI x1), some (jI (-1)), some (jI 0), none, none] [] M Q) : wc kc (d + 1) 404 [jR 133, jI x1] M Q :=
  wc_of (wp_wk (l' := [some (jR 133), some (jI x1), none, none, none, none]) ⟨rfl, ⟨rfl, trivial⟩⟩ (s404_0 H))

/- PuzzleHouseModel.valueOf(I)I -/
theorem c405_0 : fx_op 405 0 = some (.iload_n 1, 1, 0) := by decide +kernel
theorem c405_1 : fx_ca 405 1 = some (399, 1, 0, 4) := by decide +kernel
theorem c405_4 : fx_op 405 4 = some (.istore_n 2, 5, 4) := by decide +kernel
theorem c405_5 : fx_ci 405 5 = some (1, 6) := by decide +kernel
theorem c405_6 : fx_op 405 6 = some (.iload_n 1, 7, 6) := by decide +kernel
theorem c405_7 : fx_ca 405 7 = some (400, 1, 0, 10) := by decide +kernel
theorem c405_10 : fx_op 405 10 = some (.ishl, 11, 10) := by decide +kernel
theorem c405_11 : fx_op 405 11 = some (.istore_n 3, 12, 11) := by decide +kernel
theorem c405_12 : fx_op 405 12 = some (.aload_n 0, 13, 12) := by decide +kernel
theorem c405_13 : fx_gf 405 13 = some (12, 47, 16) := by decide +kernel
theorem c405_16 : fx_op 405 16 = some (.iload_n 2, 17, 16) := by decide +kernel
theorem c405_18 : fx_op 405 18 = some (.iload_n 3, 19, 18) := by decide +kernel
theorem c405_19 : fx_op 405 19 = some (.iand, 20, 19) := by decide +kernel
theorem c405_20 : fx_op 405 20 = some (.ifCond .ne 16, 23, 36) := by decide +kernel
theorem c405_36 : fx_op 405 36 = some (.aload_n 0, 37, 36) := by decide +kernel
theorem c405_37 : fx_gf 405 37 = some (12, 47, 40) := by decide +kernel
theorem c405_40 : fx_op 405 40 = some (.iload_n 2, 41, 40) := by decide +kernel
theorem c405_42 : fx_op 405 42 = some (.iload_n 3, 43, 42) := by decide +kernel
theorem c405_43 : fx_op 405 43 = some (.if_icmp .ne 16, 46, 59) := by decide +kernel
theorem c405_59 : fx_ci 405 59 = some (2, 60) := by decide +kernel
theorem c405_46 : fx_op 405 46 = some (.iload_n 1, 47, 46) := by decide +kernel
theorem c405_23 : fx_op 405 23 = some (.iload_n 1, 24, 23) := by decide +kernel
theorem c405_17 : fx_op 405 17 = some (.iaload, 18, 17) := by decide +kernel
theorem c405_41 : fx_op 405 41 = some (.iaload, 42, 41) := by decide +kernel
theorem c405_60 : fx_op 405 60 = some (.ireturn, 61, 60) := by decide +kernel
theorem c405_47 : fx_ca 405 47 = some (401, 1, 0, 50) := by decide +kernel
theorem c405_24 : fx_ca 405 24 = some (401, 1, 0, 27) := by decide +kernel
theorem c405_50 : fx_op 405 50 = some (.ifCond .eq 7, 53, 57) := by decide +kernel
theorem c405_57 : fx_ci 405 57 = some (0, 58) := by decide +kernel
theorem c405_53 : fx_ci 405 53 = some (1, 54) := by decide +kernel
theorem c405_54 : fx_op 405 54 = some (.goto 4, 57, 58) := by decide +kernel
theorem c405_58 : fx_op 405 58 = some (.ireturn, 59, 58) := by decide +kernel
theorem c405_27 : fx_op 405 27 = some (.ifCond .eq 7, 30, 34) := by decide +kernel
theorem c405_34 : fx_ci 405 34 = some (1, 35) := by decide +kernel
theorem c405_30 : fx_ci 405 30 = some (0, 31) := by decide +kernel
theorem c405_31 : fx_op 405 31 = some (.goto 4, 34, 35) := by decide +kernel
theorem c405_35 : fx_op 405 35 = some (.ireturn, 36, 35) := by decide +kernel
theorem s405_0 {kc : List va_E} {d : Nat} {x1 : Int} {M : fx_M} {Q : Option fx_V → fx_M → Prop} (H : wc kc d 399 [jI x1] M (fun v M1 => wp kc (d + 1) 405 4 [some (jR 133), some (jI x1), none, none] (v.toList ++ []) M1 Q)) : wp kc (d + 1) 405 0 [some (jR 133), some (jI x1), none, none] [] M Q :=
  (x_ildn c405_0 rfl (wp_wk (l' := [some (jR 133), some (jI x1), none, none]) ⟨rfl, ⟨rfl, trivial⟩⟩ (x_cs (As := [jI x1]) (st := []) c405_1 (by decide) rfl (Nat.le_of_ble_eq_true rfl) mx399 (Nat.le_refl _) H)))
theorem s405_4 {kc : List va_E} {d : Nat} {v1 u0 : Int} {M : fx_M} {Q : Option fx_V → fx_M → Prop} (H : wc kc d 400 [jI v1] M (fun v M1 => wp kc (d + 1) 405 10 [some (jR 133), some (jI v1), some (jI u0), none] (v.toList ++ [jI 1]) M1 Q)) : wp kc (d + 1) 405 4 [some (jR 133), some (jI v1), none, none] [jI u0] M Q :=
  (x_istn (l' := [some (jR 133), some (jI v1), some (jI u0), none]) c405_4 rfl (x_ci c405_5 (x_ildn c405_6 rfl (wp_wk (l' := [some (jR 133), some (jI v1), some (jI u0), none]) ⟨rfl, ⟨rfl, ⟨rfl, trivial⟩⟩⟩ (x_cs (As := [jI v1]) (st := [jI 1]) c405_7 (by decide) rfl (Nat.le_of_ble_eq_true rfl) mx400 (Nat.le_refl _) H)))))
theorem s405_10 {kc : List va_E} {d : Nat} {v1 v2 u0 u1 : Int} {M : fx_M} {Q : Option fx_V → fx_M → Prop} (H : (((0 : Int) ≤ v2 ∧ v2 < 9)) ∧ ((fx_in32 (fx_and (M 156 v2) (fx_shl u1 u0)))) ∧ (fx_and (M 156 v2) (fx_shl u1 u0) ≠ 0 → (((0 : Int) ≤ v2 ∧ v2 < 9)) ∧ ((fx_in32 (M 156 v2)) ∧ (fx_in32 (fx_shl u1 u0))) ∧ (M 156 v2 ≠ fx_shl u1 u0 → Q (some (jI 2)) M) ∧ (M 156 v2 = fx_shl u1 u0 → wc kc d 401 [jI v1] M (fun v M1 => wp kc (d + 1) 405 50 [none, none, none, none] (v.toList ++ []) M1 Q))) ∧ (fx_and (M 156 v2) (fx_shl u1 u0) = 0 → wc kc d 401 [jI v1] M (fun v M1 => wp kc (d + 1) 405 27 [none, none, none, none] (v.toList ++ []) M1 Q))) : wp kc (d + 1) 405 10 [some (jR 133), some (jI v1), some (jI v2), none] [jI u0, jI u1] M Q :=
  (x_ishl c405_10 (x_istn (l' := [some (jR 133), some (jI v1), some (jI v2), some (jI (fx_shl u1 u0))]) c405_11 rfl (x_aldn c405_12 rfl (x_gfr c405_13 k_133_47 (x_ildn c405_16 rfl (x_iald c405_17 a_156 H.1 (by decide) (x_ildn c405_18 rfl (x_iand c405_19 (x_zne c405_20 H.2.1 (fun h3 => (x_aldn c405_36 rfl (x_gfr c405_37 k_133_47 (x_ildn c405_40 rfl (x_iald c405_41 a_156 (H.2.2.1 h3).1 (by decide) (x_ildn c405_42 rfl (x_cne c405_43 (H.2.2.1 h3).2.1.1 (H.2.2.1 h3).2.1.2 (fun h1 => (x_ci c405_59 (x_irt c405_60 r405 ((H.2.2.1 h3).2.2.1 h1)))) (fun h2 => (x_ildn c405_46 rfl (wp_wk (l' := [none, none, none, none]) trivial (x_cs (As := [jI v1]) (st := []) c405_47 (by decide) rfl (Nat.le_of_ble_eq_true rfl) mx401 (Nat.le_refl _) ((H.2.2.1 h3).2.2.2 h2)))))))))))) (fun h4 => (x_ildn c405_23 rfl (wp_wk (l' := [none, none, none, none]) trivial (x_cs (As := [jI v1]) (st := []) c405_24 (by decide) rfl (Nat.le_of_ble_eq_true rfl) mx401 (Nat.le_refl _) (H.2.2.2 h4))))))))))))))
theorem s405_27 {kc : List va_E} {d : Nat} {u0 : Int} {M : fx_M} {Q : Option fx_V → fx_M → Prop} (H : ((fx_in32 u0)) ∧ Q (some (jI (if u0 = 0 then (1 : Int) else 0))) M) : wp kc (d + 1) 405 27 [none, none, none, none] [jI u0] M Q :=
  (have K : wp kc (d + 1) 405 35 [none, none, none, none] [jI (if u0 = 0 then (1 : Int) else 0)] M Q := (x_irt c405_35 r405 H.2); (x_zeq c405_27 H.1 (fun (h1 : u0 = 0) => (x_ci c405_34 (wp_wk (l' := [none, none, none, none]) trivial (by have K := K; first | (simp only [if_pos h1] at K ⊢; exact K) | (exfalso; omega))))) (fun (h2 : u0 ≠ 0) => (x_ci c405_30 (x_goto c405_31 (wp_wk (l' := [none, none, none, none]) trivial (by have K := K; first | (simp only [if_neg h2] at K ⊢; exact K) | (exfalso; omega))))))))
theorem s405_50 {kc : List va_E} {d : Nat} {u0 : Int} {M : fx_M} {Q : Option fx_V → fx_M → Prop} (H : ((fx_in32 u0)) ∧ Q (some (jI (if u0 = 0 then (0 : Int) else 1))) M) : wp kc (d + 1) 405 50 [none, none, none, none] [jI u0] M Q :=
  (have K : wp kc (d + 1) 405 58 [none, none, none, none] [jI (if u0 = 0 then (0 : Int) else 1)] M Q := (x_irt c405_58 r405 H.2); (x_zeq c405_50 H.1 (fun (h1 : u0 = 0) => (x_ci c405_57 (wp_wk (l' := [none, none, none, none]) trivial (by have K := K; first | (simp only [if_pos h1] at K ⊢; exact K) | (exfalso; omega))))) (fun (h2 : u0 ≠ 0) => (x_ci c405_53 (x_goto c405_54 (wp_wk (l' := [none, none, none, none]) trivial (by have K := K; first | (simp only [if_neg h2] at K ⊢; exact K) | (exfalso; omega))))))))
theorem s405 {kc : List va_E} {d : Nat} {x1 : Int} {M : fx_M} {Q : Option fx_V → fx_M → Prop} (H : wc kc d 399 [jI x1] M (fun v M1 => wp kc (d + 1) 405 4 [some (jR 133), some (jI x1), none, none] (v.toList ++ []) M1 Q)) : wc kc (d + 1) 405 [jR 133, jI x1] M Q :=
  wc_of (wp_wk (l' := [some (jR 133), some (jI x1), none, none]) ⟨rfl, ⟨rfl, trivial⟩⟩ (s405_0 H))

/- PuzzleHouseModel.isFilling(I)Z -/
theorem c406_0 : fx_op 406 0 = some (.aload_n 0, 1, 0) := by decide +kernel
theorem c406_1 : fx_op 406 1 = some (.iload_n 1, 2, 1) := by decide +kernel
theorem c406_2 : fx_ca 406 2 = some (394, 2, 2, 5) := by decide +kernel
theorem c406_5 : fx_op 406 5 = some (.aload_n 0, 6, 5) := by decide +kernel
theorem c406_6 : fx_ca 406 6 = some (248, 1, 2, 9) := by decide +kernel
theorem c406_9 : fx_op 406 9 = some (.if_icmp .eq 5, 12, 14) := by decide +kernel
theorem c406_14 : fx_ci 406 14 = some (0, 15) := by decide +kernel
theorem c406_15 : fx_op 406 15 = some (.istore_n 2, 16, 15) := by decide +kernel
theorem c406_12 : fx_ci 406 12 = some (0, 13) := by decide +kernel
theorem c406_13 : fx_op 406 13 = some (.ireturn, 14, 13) := by decide +kernel
theorem c406_16 : fx_op 406 16 = some (.iload_n 2, 17, 16) := by decide +kernel
theorem c406_17 : fx_ci 406 17 = some (9, 19) := by decide +kernel
theorem c406_19 : fx_op 406 19 = some (.if_icmp .ge 16, 22, 35) := by decide +kernel
theorem c406_22 : fx_op 406 22 = some (.aload_n 0, 23, 22) := by decide +kernel
theorem c406_23 : fx_gf 406 23 = some (12, 46, 26) := by decide +kernel
theorem c406_26 : fx_op 406 26 = some (.iload_n 2, 27, 26) := by decide +kernel
theorem c406_27 : fx_ci 406 27 = some ((-1), 28) := by decide +kernel
theorem c406_35 : fx_ci 406 35 = some (0, 36) := by decide +kernel
theorem c406_36 : fx_op 406 36 = some (.istore_n 2, 37, 36) := by decide +kernel
theorem c406_29 : fx_op 406 29 = some (.iinc 2 1, 32, 29) := by decide +kernel
theorem c406_28 : fx_op 406 28 = some (.iastore, 29, 28) := by decide +kernel
theorem c406_32 : fx_op 406 32 = some (.goto (-16), 35, 16) := by decide +kernel
theorem c406_37 : fx_op 406 37 = some (.iload_n 2, 38, 37) := by decide +kernel
theorem c406_38 : fx_op 406 38 = some (.aload_n 0, 39, 38) := by decide +kernel
theorem c406_39 : fx_op 406 39 = some (.iload_n 1, 40, 39) := by decide +kernel
theorem c406_40 : fx_ca 406 40 = some (394, 2, 2, 43) := by decide +kernel
theorem c406_43 : fx_op 406 43 = some (.if_icmp .ge 50, 46, 93) := by decide +kernel
theorem c406_93 : fx_op 406 93 = some (.aload_n 0, 94, 93) := by decide +kernel
theorem c406_46 : fx_op 406 46 = some (.aload_n 0, 47, 46) := by decide +kernel
theorem c406_47 : fx_op 406 47 = some (.iload_n 1, 48, 47) := by decide +kernel
theorem c406_48 : fx_op 406 48 = some (.iload_n 2, 49, 48) := by decide +kernel
theorem c406_94 : fx_ca 406 94 = some (353, 1, 2, 97) := by decide +kernel
theorem c406_49 : fx_ca 406 49 = some (395, 3, 2, 52) := by decide +kernel
theorem c406_97 : fx_op 406 97 = some (.ireturn, 98, 97) := by decide +kernel
theorem c406_52 : fx_op 406 52 = some (.istore_n 3, 53, 52) := by decide +kernel
theorem c406_53 : fx_op 406 53 = some (.iload_n 3, 54, 53) := by decide +kernel
theorem c406_54 : fx_ca 406 54 = some (401, 1, 0, 57) := by decide +kernel
theorem c406_57 : fx_op 406 57 = some (.ifCond .ne 15, 60, 72) := by decide +kernel
theorem c406_72 : fx_ci 406 72 = some (0, 73) := by decide +kernel
theorem c406_60 : fx_op 406 60 = some (.aload_n 0, 61, 60) := by decide +kernel
theorem c406_61 : fx_gf 406 61 = some (12, 46, 64) := by decide +kernel
theorem c406_64 : fx_op 406 64 = some (.iload_n 3, 65, 64) := by decide +kernel
theorem c406_73 : fx_op 406 73 = some (.ireturn, 74, 73) := by decide +kernel
theorem c406_65 : fx_ca 406 65 = some (399, 1, 0, 68) := by decide +kernel
theorem c406_69 : fx_op 406 69 = some (.ifCond .lt 5, 72, 74) := by decide +kernel
theorem c406_74 : fx_op 406 74 = some (.aload_n 0, 75, 74) := by decide +kernel
theorem c406_75 : fx_gf 406 75 = some (12, 46, 78) := by decide +kernel
theorem c406_78 : fx_op 406 78 = some (.iload_n 3, 79, 78) := by decide +kernel
theorem c406_68 : fx_op 406 68 = some (.iaload, 69, 68) := by decide +kernel
theorem c406_79 : fx_ca 406 79 = some (399, 1, 0, 82) := by decide +kernel
theorem c406_82 : fx_op 406 82 = some (.iload_n 3, 83, 82) := by decide +kernel
theorem c406_83 : fx_ca 406 83 = some (400, 1, 0, 86) := by decide +kernel
theorem c406_87 : fx_op 406 87 = some (.iinc 2 1, 90, 87) := by decide +kernel
theorem c406_86 : fx_op 406 86 = some (.iastore, 87, 86) := by decide +kernel
theorem c406_90 : fx_op 406 90 = some (.goto (-53), 93, 37) := by decide +kernel
theorem s406_0 {kc : List va_E} {d : Nat} {x1 : Int} {M : fx_M} {Q : Option fx_V → fx_M → Prop} (H : wc kc d 394 [jR 133, jI x1] M (fun v M1 => wp kc (d + 1) 406 5 [some (jR 133), some (jI x1), none, none] (v.toList ++ []) M1 Q)) : wp kc (d + 1) 406 0 [some (jR 133), some (jI x1), none, none] [] M Q :=
  (x_aldn c406_0 rfl (x_ildn c406_1 rfl (wp_wk (l' := [some (jR 133), some (jI x1), none, none]) ⟨rfl, ⟨rfl, trivial⟩⟩ (x_cv (As := [jI x1]) (st := []) c406_2 cl_133 kl394 rfl (Nat.le_of_ble_eq_true rfl) mx394 (Nat.le_refl _) H))))
theorem s406_5 {kc : List va_E} {d : Nat} {v1 u0 : Int} {M : fx_M} {Q : Option fx_V → fx_M → Prop} (H : wc kc d 248 [jR 133] M (fun v M1 => wp kc (d + 1) 406 9 [some (jR 133), some (jI v1), none, none] (v.toList ++ [jI u0]) M1 Q)) : wp kc (d + 1) 406 5 [some (jR 133), some (jI v1), none, none] [jI u0] M Q :=
  (x_aldn c406_5 rfl (wp_wk (l' := [some (jR 133), some (jI v1), none, none]) ⟨rfl, ⟨rfl, trivial⟩⟩ (x_cv (As := []) (st := [jI u0]) c406_6 cl_133 kl248 rfl (Nat.le_of_ble_eq_true rfl) mx248 (Nat.le_refl _) H)))
theorem s406_9 {kc : List va_E} {d : Nat} {v1 u0 u1 : Int} {M : fx_M} {Q : Option fx_V → fx_M → Prop} (H : ((fx_in32 u1) ∧ (fx_in32 u0)) ∧ (u1 = u0 → wp kc (d + 1) 406 16 [some (jR 133), some (jI v1), some (jI 0), none] [] M Q) ∧ (u1 ≠ u0 → Q (some (jI 0)) M)) : wp kc (d + 1) 406 9 [some (jR 133), some (jI v1), none, none] [jI u0, jI u1] M Q :=
  (x_ceq c406_9 H.1.1 H.1.2 (fun h1 => (x_ci c406_14 (x_istn (l' := [some (jR 133), some (jI v1), some (jI 0), none]) c406_15 rfl (wp_wk (l' := [some (jR 133), some (jI v1), some (jI 0), none]) ⟨rfl, ⟨rfl, ⟨rfl, trivial⟩⟩⟩ (H.2.1 h1))))) (fun h2 => (x_ci c406_12 (x_zrt c406_13 r406 (by decide) (H.2.2 h2)))))
theorem s406_16 {kc : List va_E} {d : Nat} {v1 v2 : Int} {M : fx_M} {Q : Option fx_V → fx_M → Prop} (H : ((fx_in32 v2)) ∧ (9 ≤ v2 → wp kc (d + 1) 406 37 [some (jR 133), some (jI v1), some (jI 0), none] [] M Q) ∧ (v2 < 9 → (((0 : Int) ≤ v2 ∧ v2 < 9)) ∧ wp kc (d + 1) 406 16 [some (jR 133), some (jI v1), some (jI (v2 + 1)), none] [] (fx_up M 155 v2 (-1)) Q)) : wp kc (d + 1) 406 16 [some (jR 133), some (jI v1), some (jI v2), none] [] M Q :=
  (x_ildn c406_16 rfl (x_ci c406_17 (x_cge c406_19 H.1 (by decide) (fun h1 => (x_ci c406_35 (x_istn (l' := [some (jR 133), some (jI v1), some (jI 0), none]) c406_36 rfl (wp_wk (l' := [some (jR 133), some (jI v1), some (jI 0), none]) ⟨rfl, ⟨rfl, ⟨rfl, trivial⟩⟩⟩ (H.2.1 h1))))) (fun h2 => (x_aldn c406_22 rfl (x_gfr c406_23 k_133_46 (x_ildn c406_26 rfl (x_ci c406_27 (x_iast c406_28 a_155 (H.2.2 h2).1 (by decide) (x_inc (l' := [some (jR 133), some (jI v1), some (jI (v2 + 1)), none]) c406_29 rfl rfl (x_goto c406_32 (wp_wk (l' := [some (jR 133), some (jI v1), some (jI (v2 + 1)), none]) ⟨rfl, ⟨rfl, ⟨rfl, trivial⟩⟩⟩ (H.2.2 h2).2))))))))))))
theorem s406_37 {kc : List va_E} {d : Nat} {v1 v2 : Int} {M : fx_M} {Q : Option fx_V → fx_M → Prop} (H : wc kc d 394 [jR 133, jI v1] M (fun v M1 => wp kc (d + 1) 406 43 [some (jR 133), some (jI v1), some (jI v2), none] (v.toList ++ [jI v2]) M1 Q)) : wp kc (d + 1) 406 37 [some (jR 133), some (jI v1), some (jI v2), none] [] M Q :=
  (x_ildn c406_37 rfl (x_aldn c406_38 rfl (x_ildn c406_39 rfl (wp_wk (l' := [some (jR 133), some (jI v1), some (jI v2), none]) ⟨rfl, ⟨rfl, ⟨rfl, trivial⟩⟩⟩ (x_cv (As := [jI v1]) (st := [jI v2]) c406_40 cl_133 kl394 rfl (Nat.le_of_ble_eq_true rfl) mx394 (Nat.le_refl _) H)))))
theorem s406_43 {kc : List va_E} {d : Nat} {v1 v2 u0 u1 : Int} {M : fx_M} {Q : Option fx_V → fx_M → Prop} (H : ((fx_in32 u1) ∧ (fx_in32 u0)) ∧ (u0 ≤ u1 → wc kc d 353 [jR 133] M (fun v M1 => wp kc (d + 1) 406 97 [none, none, none, none] (v.toList ++ []) M1 Q)) ∧ (u1 < u0 → wc kc d 395 [jR 133, jI v1, jI v2] M (fun v M1 => wp kc (d + 1) 406 52 [some (jR 133), some (jI v1), some (jI v2), none] (v.toList ++ []) M1 Q))) : wp kc (d + 1) 406 43 [some (jR 133), some (jI v1), some (jI v2), none] [jI u0, jI u1] M Q :=
  (x_cge c406_43 H.1.1 H.1.2 (fun h1 => (x_aldn c406_93 rfl (wp_wk (l' := [none, none, none, none]) trivial (x_cv (As := []) (st := []) c406_94 cl_133 kl353 rfl (Nat.le_of_ble_eq_true rfl) mx353 (Nat.le_refl _) (H.2.1 h1))))) (fun h2 => (x_aldn c406_46 rfl (x_ildn c406_47 rfl (x_ildn c406_48 rfl (wp_wk (l' := [some (jR 133), some (jI v1), some (jI v2), none]) ⟨rfl, ⟨rfl, ⟨rfl, trivial⟩⟩⟩ (x_cv (As := [jI v1, jI v2]) (st := []) c406_49 cl_133 kl395 rfl (Nat.le_of_ble_eq_true rfl) mx395 (Nat.le_refl _) (H.2.2 h2))))))))
theorem s406_52 {kc : List va_E} {d : Nat} {v1 v2 u0 : Int} {M : fx_M} {Q : Option fx_V → fx_M → Prop} (H : wc kc d 401 [jI u0] M (fun v M1 => wp kc (d + 1) 406 57 [some (jR 133), some (jI v1), some (jI v2), some (jI u0)] (v.toList ++ []) M1 Q)) : wp kc (d + 1) 406 52 [some (jR 133), some (jI v1), some (jI v2), none] [jI u0] M Q :=
  (x_istn (l' := [some (jR 133), some (jI v1), some (jI v2), some (jI u0)]) c406_52 rfl (x_ildn c406_53 rfl (wp_wk (l' := [some (jR 133), some (jI v1), some (jI v2), some (jI u0)]) ⟨rfl, ⟨rfl, ⟨rfl, ⟨rfl, trivial⟩⟩⟩⟩ (x_cs (As := [jI u0]) (st := []) c406_54 (by decide) rfl (Nat.le_of_ble_eq_true rfl) mx401 (Nat.le_refl _) H))))
theorem s406_57 {kc : List va_E} {d : Nat} {v1 v2 v3 u0 : Int} {M : fx_M} {Q : Option fx_V → fx_M → Prop} (H : ((fx_in32 u0)) ∧ (u0 ≠ 0 → Q (some (jI 0)) M) ∧ (u0 = 0 → wc kc d 399 [jI v3] M (fun v M1 => wp kc (d + 1) 406 68 [some (jR 133), some (jI v1), some (jI v2), some (jI v3)] (v.toList ++ [jR 155]) M1 Q))) : wp kc (d + 1) 406 57 [some (jR 133), some (jI v1), some (jI v2), some (jI v3)] [jI u0] M Q :=
  (x_zne c406_57 H.1 (fun h1 => (x_ci c406_72 (x_zrt c406_73 r406 (by decide) (H.2.1 h1)))) (fun h2 => (x_aldn c406_60 rfl (x_gfr c406_61 k_133_46 (x_ildn c406_64 rfl (wp_wk (l' := [some (jR 133), some (jI v1), some (jI v2), some (jI v3)]) ⟨rfl, ⟨rfl, ⟨rfl, ⟨rfl, trivial⟩⟩⟩⟩ (x_cs (As := [jI v3]) (st := [jR 155]) c406_65 (by decide) rfl (Nat.le_of_ble_eq_true rfl) mx399 (Nat.le_refl _) (H.2.2 h2))))))))
theorem s406_68 {kc : List va_E} {d : Nat} {v1 v2 v3 u0 : Int} {M : fx_M} {Q : Option fx_V → fx_M → Prop} (H : (((0 : Int) ≤ u0 ∧ u0 < 9)) ∧ ((fx_in32 (M 155 u0))) ∧ (M 155 u0 < 0 → wc kc d 399 [jI v3] M (fun v M1 => wp kc (d + 1) 406 82 [some (jR 133), some (jI v1), some (jI v2), some (jI v3)] (v.toList ++ [jR 155]) M1 Q)) ∧ (0 ≤ M 155 u0 → Q (some (jI 0)) M)) : wp kc (d + 1) 406 68 [some (jR 133), some (jI v1), some (jI v2), some (jI v3)] [jI u0, jR 155] M Q :=
  (x_iald c406_68 a_155 H.1 (by decide) (x_zlt c406_69 H.2.1 (fun h1 => (x_aldn c406_74 rfl (x_gfr c406_75 k_133_46 (x_ildn c406_78 rfl (wp_wk (l' := [some (jR 133), some (jI v1), some (jI v2), some (jI v3)]) ⟨rfl, ⟨rfl, ⟨rfl, ⟨rfl, trivial⟩⟩⟩⟩ (x_cs (As := [jI v3]) (st := [jR 155]) c406_79 (by decide) rfl (Nat.le_of_ble_eq_true rfl) mx399 (Nat.le_refl _) (H.2.2.1 h1))))))) (fun h2 => (x_ci c406_72 (x_zrt c406_73 r406 (by decide) (H.2.2.2 h2))))))
theorem s406_82 {kc : List va_E} {d : Nat} {v1 v2 v3 u0 : Int} {M : fx_M} {Q : Option fx_V → fx_M → Prop} (H : wc kc d 400 [jI v3] M (fun v M1 => wp kc (d + 1) 406 86 [some (jR 133), some (jI v1), some (jI v2), none] (v.toList ++ [jI u0, jR 155]) M1 Q)) : wp kc (d + 1) 406 82 [some (jR 133), some (jI v1), some (jI v2), some (jI v3)] [jI u0, jR 155] M Q :=
  (x_ildn c406_82 rfl (wp_wk (l' := [some (jR 133), some (jI v1), some (jI v2), none]) ⟨rfl, ⟨rfl, ⟨rfl, trivial⟩⟩⟩ (x_cs (As := [jI v3]) (st := [jI u0, jR 155]) c406_83 (by decide) rfl (Nat.le_of_ble_eq_true rfl) mx400 (Nat.le_refl _) H)))
theorem s406_86 {kc : List va_E} {d : Nat} {v1 v2 u0 u1 : Int} {M : fx_M} {Q : Option fx_V → fx_M → Prop} (H : (((0 : Int) ≤ u1 ∧ u1 < 9)) ∧ wp kc (d + 1) 406 37 [some (jR 133), some (jI v1), some (jI (v2 + 1)), none] [] (fx_up M 155 u1 u0) Q) : wp kc (d + 1) 406 86 [some (jR 133), some (jI v1), some (jI v2), none] [jI u0, jI u1, jR 155] M Q :=
  (x_iast c406_86 a_155 H.1 (by decide) (x_inc (l' := [some (jR 133), some (jI v1), some (jI (v2 + 1)), none]) c406_87 rfl rfl (x_goto c406_90 (wp_wk (l' := [some (jR 133), some (jI v1), some (jI (v2 + 1)), none]) ⟨rfl, ⟨rfl, ⟨rfl, trivial⟩⟩⟩ H.2))))
theorem s406_97 {kc : List va_E} {d : Nat} {u0 : Int} {M : fx_M} {Q : Option fx_V → fx_M → Prop} (H : ((0 : Int) ≤ u0 ∧ u0 ≤ 1) ∧ Q (some (jI u0)) M) : wp kc (d + 1) 406 97 [none, none, none, none] [jI u0] M Q :=
  (x_zrt c406_97 r406 H.1 H.2)
theorem s406 {kc : List va_E} {d : Nat} {x1 : Int} {M : fx_M} {Q : Option fx_V → fx_M → Prop} (H : wc kc d 394 [jR 133, jI x1] M (fun v M1 => wp kc (d + 1) 406 5 [some (jR 133), some (jI x1), none, none] (v.toList ++ []) M1 Q)) : wc kc (d + 1) 406 [jR 133, jI x1] M Q :=
  wc_of (wp_wk (l' := [some (jR 133), some (jI x1), none, none]) ⟨rfl, ⟨rfl, trivial⟩⟩ (s406_0 H))

/- PuzzleHouseModel.fillings()I -/
theorem c407_0 : fx_ci 407 0 = some (0, 1) := by decide +kernel
theorem c407_1 : fx_op 407 1 = some (.istore_n 1, 2, 1) := by decide +kernel
theorem c407_2 : fx_ci 407 2 = some (0, 3) := by decide +kernel
theorem c407_3 : fx_op 407 3 = some (.istore_n 2, 4, 3) := by decide +kernel
theorem c407_4 : fx_op 407 4 = some (.iload_n 2, 5, 4) := by decide +kernel
theorem c407_5 : fx_op 407 5 = some (.aload_n 0, 6, 5) := by decide +kernel
theorem c407_6 : fx_gf 407 6 = some (12, 24, 9) := by decide +kernel
theorem c407_9 : fx_op 407 9 = some (.if_icmp .ge 85, 12, 94) := by decide +kernel
theorem c407_12 : fx_op 407 12 = some (.aload_n 0, 13, 12) := by decide +kernel
theorem c407_13 : fx_gf 407 13 = some (12, 25, 16) := by decide +kernel
theorem c407_16 : fx_op 407 16 = some (.iload_n 2, 17, 16) := by decide +kernel
theorem c407_17 : fx_op 407 17 = some (.iaload, 18, 17) := by decide +kernel
theorem c407_18 : fx_ci 407 18 = some (98, 20) := by decide +kernel
theorem c407_20 : fx_op 407 20 = some (.if_icmp .ne 7, 23, 27) := by decide +kernel
theorem c407_27 : fx_ci 407 27 = some (0, 28) := by decide +kernel
theorem c407_28 : fx_op 407 28 = some (.istore_n 3, 29, 28) := by decide +kernel
theorem c407_29 : fx_ci 407 29 = some (0, 30) := by decide +kernel
theorem c407_30 : fx_op 407 30 = some (.istore 4, 32, 30) := by decide +kernel
theorem c407_94 : fx_op 407 94 = some (.iload_n 1, 95, 94) := by decide +kernel
theorem c407_23 : fx_ci 407 23 = some (1, 24) := by decide +kernel
theorem c407_24 : fx_op 407 24 = some (.goto 4, 27, 28) := by decide +kernel
theorem c407_95 : fx_op 407 95 = some (.ireturn, 96, 95) := by decide +kernel
theorem c407_32 : fx_op 407 32 = some (.iload 4, 34, 32) := by decide +kernel
theorem c407_34 : fx_op 407 34 = some (.iload_n 2, 35, 34) := by decide +kernel
theorem c407_35 : fx_op 407 35 = some (.if_icmp .ge 41, 38, 76) := by decide +kernel
theorem c407_38 : fx_op 407 38 = some (.iload_n 3, 39, 38) := by decide +kernel
theorem c407_39 : fx_op 407 39 = some (.ifCond .eq 37, 42, 76) := by decide +kernel
theorem c407_42 : fx_op 407 42 = some (.aload_n 0, 43, 42) := by decide +kernel
theorem c407_43 : fx_gf 407 43 = some (12, 25, 46) := by decide +kernel
theorem c407_46 : fx_op 407 46 = some (.iload 4, 48, 46) := by decide +kernel
theorem c407_48 : fx_op 407 48 = some (.iaload, 49, 48) := by decide +kernel
theorem c407_49 : fx_ci 407 49 = some (98, 51) := by decide +kernel
theorem c407_51 : fx_op 407 51 = some (.if_icmp .ne 13, 54, 64) := by decide +kernel
theorem c407_64 : fx_ci 407 64 = some (1, 65) := by decide +kernel
theorem c407_69 : fx_op 407 69 = some (.istore_n 3, 70, 69) := by decide +kernel
theorem c407_70 : fx_op 407 70 = some (.iinc 4 1, 73, 70) := by decide +kernel
theorem c407_76 : fx_op 407 76 = some (.iload_n 1, 77, 76) := by decide +kernel
theorem c407_77 : fx_op 407 77 = some (.iload_n 3, 78, 77) := by decide +kernel
theorem c407_78 : fx_op 407 78 = some (.ifCond .eq 7, 81, 85) := by decide +kernel
theorem c407_85 : fx_ci 407 85 = some (0, 86) := by decide +kernel
theorem c407_81 : fx_ci 407 81 = some (1, 82) := by decide +kernel
theorem c407_82 : fx_op 407 82 = some (.goto 4, 85, 86) := by decide +kernel
theorem c407_86 : fx_op 407 86 = some (.iadd, 87, 86) := by decide +kernel
theorem c407_87 : fx_op 407 87 = some (.istore_n 1, 88, 87) := by decide +kernel
theorem c407_88 : fx_op 407 88 = some (.iinc 2 1, 91, 88) := by decide +kernel
theorem c407_65 : fx_op 407 65 = some (.goto 4, 68, 69) := by decide +kernel
theorem c407_54 : fx_op 407 54 = some (.aload_n 0, 55, 54) := by decide +kernel
theorem c407_55 : fx_op 407 55 = some (.iload 4, 57, 55) := by decide +kernel
theorem c407_57 : fx_op 407 57 = some (.iload_n 2, 58, 57) := by decide +kernel
theorem c407_91 : fx_op 407 91 = some (.goto (-87), 94, 4) := by decide +kernel
theorem c407_73 : fx_op 407 73 = some (.goto (-41), 76, 32) := by decide +kernel
theorem c407_58 : fx_ca 407 58 = some (408, 3, 2, 61) := by decide +kernel
theorem c407_61 : fx_op 407 61 = some (.ifCond .ne 7, 64, 68) := by decide +kernel
theorem c407_68 : fx_ci 407 68 = some (0, 69) := by decide +kernel
theorem s407_0 {kc : List va_E} {d : Nat} {M : fx_M} {Q : Option fx_V → fx_M → Prop} (H : wp kc (d + 1) 407 4 [some (jR 133), some (jI 0), some (jI 0), none, none] [] M Q) : wp kc (d + 1) 407 0 [some (jR 133), none, none, none, none] [] M Q :=
  (x_ci c407_0 (x_istn (l' := [some (jR 133), some (jI 0), none, none, none]) c407_1 rfl (x_ci c407_2 (x_istn (l' := [some (jR 133), some (jI 0), some (jI 0), none, none]) c407_3 rfl (wp_wk (l' := [some (jR 133), some (jI 0), some (jI 0), none, none]) ⟨rfl, ⟨rfl, ⟨rfl, trivial⟩⟩⟩ H)))))
theorem s407_4 {kc : List va_E} {d : Nat} {v1 v2 : Int} {M : fx_M} {Q : Option fx_V → fx_M → Prop} (H : ((fx_in32 v2) ∧ (fx_in32 (M 133 24))) ∧ (M 133 24 ≤ v2 → Q (some (jI v1)) M) ∧ (v2 < M 133 24 → (((0 : Int) ≤ v2 ∧ v2 < 3100)) ∧ ((fx_in32 (M 138 v2))) ∧ wp kc (d + 1) 407 32 [some (jR 133), some (jI v1), some (jI v2), some (jI (if M 138 v2 = 98 then (1 : Int) else 0)), some (jI 0)] [] M Q)) : wp kc (d + 1) 407 4 [some (jR 133), some (jI v1), some (jI v2), none, none] [] M Q :=
  (x_ildn c407_4 rfl (x_aldn c407_5 rfl (x_gfi c407_6 k_133_24 (x_cge c407_9 H.1.1 H.1.2 (fun h1 => (x_ildn c407_94 rfl (x_irt c407_95 r407 (H.2.1 h1)))) (fun h2 => (x_aldn c407_12 rfl (x_gfr c407_13 k_133_25 (x_ildn c407_16 rfl (x_iald c407_17 a_138 (H.2.2 h2).1 (by decide) (x_ci c407_18 (have K : wp kc (d + 1) 407 28 [some (jR 133), some (jI v1), some (jI v2), none, none] [jI (if M 138 v2 = 98 then (1 : Int) else 0)] M Q := (x_istn (l' := [some (jR 133), some (jI v1), some (jI v2), some (jI (if M 138 v2 = 98 then (1 : Int) else 0)), none]) c407_28 rfl (x_ci c407_29 (x_ist (l' := [some (jR 133), some (jI v1), some (jI v2), some (jI (if M 138 v2 = 98 then (1 : Int) else 0)), some (jI 0)]) c407_30 rfl (wp_wk (l' := [some (jR 133), some (jI v1), some (jI v2), some (jI (if M 138 v2 = 98 then (1 : Int) else 0)), some (jI 0)]) ⟨rfl, ⟨rfl, ⟨rfl, ⟨rfl, ⟨rfl, trivial⟩⟩⟩⟩⟩ (H.2.2 h2).2.2)))); (x_cne c407_20 (H.2.2 h2).2.1 (by decide) (fun (h3 : M 138 v2 ≠ 98) => (x_ci c407_27 (wp_wk (l' := [some (jR 133), some (jI v1), some (jI v2), none, none]) ⟨rfl, ⟨rfl, ⟨rfl, trivial⟩⟩⟩ (by have K := K; first | (simp only [if_neg h3] at K ⊢; exact K) | (exfalso; omega))))) (fun (h4 : M 138 v2 = 98) => (x_ci c407_23 (x_goto c407_24 (wp_wk (l' := [some (jR 133), some (jI v1), some (jI v2), none, none]) ⟨rfl, ⟨rfl, ⟨rfl, trivial⟩⟩⟩ (by have K := K; first | (simp only [if_pos h4] at K ⊢; exact K) | (exfalso; omega))))))))))))))))))
theorem s407_32 {kc : List va_E} {d : Nat} {v1 v2 v3 v4 : Int} {M : fx_M} {Q : Option fx_V → fx_M → Prop} (H : ((fx_in32 v4) ∧ (fx_in32 v2)) ∧ (v2 ≤ v4 → ((fx_in32 v3)) ∧ wp kc (d + 1) 407 4 [some (jR 133), some (jI (v1 + (if v3 = 0 then (0 : Int) else 1))), some (jI (v2 + 1)), none, none] [] M Q) ∧ (v4 < v2 → ((fx_in32 v3)) ∧ (v3 = 0 → ((fx_in32 v3)) ∧ wp kc (d + 1) 407 4 [some (jR 133), some (jI (v1 + (if v3 = 0 then (0 : Int) else 1))), some (jI (v2 + 1)), none, none] [] M Q) ∧ (v3 ≠ 0 → (((0 : Int) ≤ v4 ∧ v4 < 3100)) ∧ ((fx_in32 (M 138 v4))) ∧ (M 138 v4 ≠ 98 → wp kc (d + 1) 407 32 [some (jR 133), some (jI v1), some (jI v2), some (jI 1), some (jI (v4 + 1))] [] M Q) ∧ (M 138 v4 = 98 → wc kc d 408 [jR 133, jI v4, jI v2] M (fun v M1 => wp kc (d + 1) 407 61 [some (jR 133), some (jI v1), some (jI v2), none, some (jI v4)] (v.toList ++ []) M1 Q))))) : wp kc (d + 1) 407 32 [some (jR 133), some (jI v1), some (jI v2), some (jI v3), some (jI v4)] [] M Q :=
  (x_ild c407_32 rfl (x_ildn c407_34 rfl (x_cge c407_35 H.1.1 H.1.2 (fun h5 => (x_ildn c407_76 rfl (x_ildn c407_77 rfl (have K : wp kc (d + 1) 407 86 [some (jR 133), none, some (jI v2), none, none] [jI (if v3 = 0 then (0 : Int) else 1), jI v1] M Q := (x_iadd c407_86 (x_istn (l' := [some (jR 133), some (jI (v1 + (if v3 = 0 then (0 : Int) else 1))), some (jI v2), none, none]) c407_87 rfl (x_inc (l' := [some (jR 133), some (jI (v1 + (if v3 = 0 then (0 : Int) else 1))), some (jI (v2 + 1)), none, none]) c407_88 rfl rfl (x_goto c407_91 (wp_wk (l' := [some (jR 133), some (jI (v1 + (if v3 = 0 then (0 : Int) else 1))), some (jI (v2 + 1)), none, none]) ⟨rfl, ⟨rfl, ⟨rfl, trivial⟩⟩⟩ (H.2.1 h5).2))))); (x_zeq c407_78 (H.2.1 h5).1 (fun (h7 : v3 = 0) => (x_ci c407_85 (wp_wk (l' := [some (jR 133), none, some (jI v2), none, none]) ⟨rfl, ⟨rfl, trivial⟩⟩ (by have K := K; first | (simp only [if_pos h7] at K ⊢; exact K) | (exfalso; omega))))) (fun (h8 : v3 ≠ 0) => (x_ci c407_81 (x_goto c407_82 (wp_wk (l' := [some (jR 133), none, some (jI v2), none, none]) ⟨rfl, ⟨rfl, trivial⟩⟩ (by have K := K; first | (simp only [if_neg h8] at K ⊢; exact K) | (exfalso; omega))))))))))) (fun h6 => (x_ildn c407_38 rfl (x_zeq c407_39 (H.2.2 h6).1 (fun h3 => (x_ildn c407_76 rfl (x_ildn c407_77 rfl (have K : wp kc (d + 1) 407 86 [some (jR 133), none, some (jI v2), none, none] [jI (if v3 = 0 then (0 : Int) else 1), jI v1] M Q := (x_iadd c407_86 (x_istn (l' := [some (jR 133), some (jI (v1 + (if v3 = 0 then (0 : Int) else 1))), some (jI v2), none, none]) c407_87 rfl (x_inc (l' := [some (jR 133), some (jI (v1 + (if v3 = 0 then (0 : Int) else 1))), some (jI (v2 + 1)), none, none]) c407_88 rfl rfl (x_goto c407_91 (wp_wk (l' := [some (jR 133), some (jI (v1 + (if v3 = 0 then (0 : Int) else 1))), some (jI (v2 + 1)), none, none]) ⟨rfl, ⟨rfl, ⟨rfl, trivial⟩⟩⟩ ((H.2.2 h6).2.1 h3).2))))); (x_zeq c407_78 ((H.2.2 h6).2.1 h3).1 (fun (h9 : v3 = 0) => (x_ci c407_85 (wp_wk (l' := [some (jR 133), none, some (jI v2), none, none]) ⟨rfl, ⟨rfl, trivial⟩⟩ (by have K := K; first | (simp only [if_pos h9] at K ⊢; exact K) | (exfalso; omega))))) (fun (h10 : v3 ≠ 0) => (x_ci c407_81 (x_goto c407_82 (wp_wk (l' := [some (jR 133), none, some (jI v2), none, none]) ⟨rfl, ⟨rfl, trivial⟩⟩ (by have K := K; first | (simp only [if_neg h10] at K ⊢; exact K) | (exfalso; omega))))))))))) (fun h4 => (x_aldn c407_42 rfl (x_gfr c407_43 k_133_25 (x_ild c407_46 rfl (x_iald c407_48 a_138 ((H.2.2 h6).2.2 h4).1 (by decide) (x_ci c407_49 (x_cne c407_51 ((H.2.2 h6).2.2 h4).2.1 (by decide) (fun h1 => (x_ci c407_64 (x_goto c407_65 (x_istn (l' := [some (jR 133), some (jI v1), some (jI v2), some (jI 1), some (jI v4)]) c407_69 rfl (x_inc (l' := [some (jR 133), some (jI v1), some (jI v2), some (jI 1), some (jI (v4 + 1))]) c407_70 rfl rfl (x_goto c407_73 (wp_wk (l' := [some (jR 133), some (jI v1), some (jI v2), some (jI 1), some (jI (v4 + 1))]) ⟨rfl, ⟨rfl, ⟨rfl, ⟨rfl, ⟨rfl, trivial⟩⟩⟩⟩⟩ (((H.2.2 h6).2.2 h4).2.2.1 h1)))))))) (fun h2 => (x_aldn c407_54 rfl (x_ild c407_55 rfl (x_ildn c407_57 rfl (wp_wk (l' := [some (jR 133), some (jI v1), some (jI v2), none, some (jI v4)]) ⟨rfl, ⟨rfl, ⟨rfl, ⟨rfl, trivial⟩⟩⟩⟩ (x_cv (As := [jI v4, jI v2]) (st := []) c407_58 cl_133 kl408 rfl (Nat.le_of_ble_eq_true rfl) mx408 (Nat.le_refl _) (((H.2.2 h6).2.2 h4).2.2.2 h2))))))))))))))))))))
theorem s407_61 {kc : List va_E} {d : Nat} {v1 v2 v4 u0 : Int} {M : fx_M} {Q : Option fx_V → fx_M → Prop} (H : ((fx_in32 u0)) ∧ wp kc (d + 1) 407 32 [some (jR 133), some (jI v1), some (jI v2), some (jI (if u0 = 0 then (1 : Int) else 0)), some (jI (v4 + 1))] [] M Q) : wp kc (d + 1) 407 61 [some (jR 133), some (jI v1), some (jI v2), none, some (jI v4)] [jI u0] M Q :=
  (have K : wp kc (d + 1) 407 69 [some (jR 133), some (jI v1), some (jI v2), none, some (jI v4)] [jI (if u0 = 0 then (1 : Int) else 0)] M Q := (x_istn (l' := [some (jR 133), some (jI v1), some (jI v2), some (jI (if u0 = 0 then (1 : Int) else 0)), some (jI v4)]) c407_69 rfl (x_inc (l' := [some (jR 133), some (jI v1), some (jI v2), some (jI (if u0 = 0 then (1 : Int) else 0)), some (jI (v4 + 1))]) c407_70 rfl rfl (x_goto c407_73 (wp_wk (l' := [some (jR 133), some (jI v1), some (jI v2), some (jI (if u0 = 0 then (1 : Int) else 0)), some (jI (v4 + 1))]) ⟨rfl, ⟨rfl, ⟨rfl, ⟨rfl, ⟨rfl, trivial⟩⟩⟩⟩⟩ H.2)))); (x_zne c407_61 H.1 (fun (h1 : u0 ≠ 0) => (x_ci c407_68 (wp_wk (l' := [some (jR 133), some (jI v1), some (jI v2), none, some (jI v4)]) ⟨rfl, ⟨rfl, ⟨rfl, ⟨rfl, trivial⟩⟩⟩⟩ (by have K := K; first | (simp only [if_neg h1] at K ⊢; exact K) | (exfalso; omega))))) (fun (h2 : u0 = 0) => (x_ci c407_64 (x_goto c407_65 (wp_wk (l' := [some (jR 133), some (jI v1), some (jI v2), none, some (jI v4)]) ⟨rfl, ⟨rfl, ⟨rfl, ⟨rfl, trivial⟩⟩⟩⟩ (by have K := K; first | (simp only [if_pos h2] at K ⊢; exact K) | (exfalso; omega))))))))
theorem s407 {kc : List va_E} {d : Nat} {M : fx_M} {Q : Option fx_V → fx_M → Prop} (H : wp kc (d + 1) 407 4 [some (jR 133), some (jI 0), some (jI 0), none, none] [] M Q) : wc kc (d + 1) 407 [jR 133] M Q :=
  wc_of (wp_wk (l' := [some (jR 133), none, none, none, none]) ⟨rfl, trivial⟩ (s407_0 H))

/- PuzzleHouseModel.isSame(II)Z -/
theorem c408_0 : fx_ci 408 0 = some (0, 1) := by decide +kernel
theorem c408_1 : fx_op 408 1 = some (.istore_n 3, 2, 1) := by decide +kernel
theorem c408_2 : fx_op 408 2 = some (.iload_n 3, 3, 2) := by decide +kernel
theorem c408_3 : fx_op 408 3 = some (.aload_n 0, 4, 3) := by decide +kernel
theorem c408_4 : fx_op 408 4 = some (.iload_n 2, 5, 4) := by decide +kernel
theorem c408_5 : fx_ca 408 5 = some (394, 2, 2, 8) := by decide +kernel
theorem c408_8 : fx_op 408 8 = some (.if_icmp .ge 25, 11, 33) := by decide +kernel
theorem c408_33 : fx_ci 408 33 = some (1, 34) := by decide +kernel
theorem c408_11 : fx_op 408 11 = some (.aload_n 0, 12, 11) := by decide +kernel
theorem c408_12 : fx_op 408 12 = some (.iload_n 1, 13, 12) := by decide +kernel
theorem c408_13 : fx_op 408 13 = some (.aload_n 0, 14, 13) := by decide +kernel
theorem c408_14 : fx_op 408 14 = some (.iload_n 2, 15, 14) := by decide +kernel
theorem c408_15 : fx_op 408 15 = some (.iload_n 3, 16, 15) := by decide +kernel
theorem c408_34 : fx_op 408 34 = some (.ireturn, 35, 34) := by decide +kernel
theorem c408_16 : fx_ca 408 16 = some (395, 3, 2, 19) := by decide +kernel
theorem c408_19 : fx_ca 408 19 = some (396, 3, 2, 22) := by decide +kernel
theorem c408_22 : fx_op 408 22 = some (.ifCond .ne 5, 25, 27) := by decide +kernel
theorem c408_27 : fx_op 408 27 = some (.iinc 3 1, 30, 27) := by decide +kernel
theorem c408_25 : fx_ci 408 25 = some (0, 26) := by decide +kernel
theorem c408_30 : fx_op 408 30 = some (.goto (-28), 33, 2) := by decide +kernel
theorem c408_26 : fx_op 408 26 = some (.ireturn, 27, 26) := by decide +kernel
theorem s408_0 {kc : List va_E} {d : Nat} {x1 x2 : Int} {M : fx_M} {Q : Option fx_V → fx_M → Prop} (H : wp kc (d + 1) 408 2 [some (jR 133), some (jI x1), some (jI x2), some (jI 0)] [] M Q) : wp kc (d + 1) 408 0 [some (jR 133), some (jI x1), some (jI x2), none] [] M Q :=
  (x_ci c408_0 (x_istn (l' := [some (jR 133), some (jI x1), some (jI x2), some (jI 0)]) c408_1 rfl (wp_wk (l' := [some (jR 133), some (jI x1), some (jI x2), some (jI 0)]) ⟨rfl, ⟨rfl, ⟨rfl, ⟨rfl, trivial⟩⟩⟩⟩ H)))
theorem s408_2 {kc : List va_E} {d : Nat} {v1 v2 v3 : Int} {M : fx_M} {Q : Option fx_V → fx_M → Prop} (H : wc kc d 394 [jR 133, jI v2] M (fun v M1 => wp kc (d + 1) 408 8 [some (jR 133), some (jI v1), some (jI v2), some (jI v3)] (v.toList ++ [jI v3]) M1 Q)) : wp kc (d + 1) 408 2 [some (jR 133), some (jI v1), some (jI v2), some (jI v3)] [] M Q :=
  (x_ildn c408_2 rfl (x_aldn c408_3 rfl (x_ildn c408_4 rfl (wp_wk (l' := [some (jR 133), some (jI v1), some (jI v2), some (jI v3)]) ⟨rfl, ⟨rfl, ⟨rfl, ⟨rfl, trivial⟩⟩⟩⟩ (x_cv (As := [jI v2]) (st := [jI v3]) c408_5 cl_133 kl394 rfl (Nat.le_of_ble_eq_true rfl) mx394 (Nat.le_refl _) H)))))
theorem s408_8 {kc : List va_E} {d : Nat} {v1 v2 v3 u0 u1 : Int} {M : fx_M} {Q : Option fx_V → fx_M → Prop} (H : ((fx_in32 u1) ∧ (fx_in32 u0)) ∧ (u0 ≤ u1 → Q (some (jI 1)) M) ∧ (u1 < u0 → wc kc d 395 [jR 133, jI v2, jI v3] M (fun v M1 => wp kc (d + 1) 408 19 [some (jR 133), some (jI v1), some (jI v2), some (jI v3)] (v.toList ++ [jI v1, jR 133]) M1 Q))) : wp kc (d + 1) 408 8 [some (jR 133), some (jI v1), some (jI v2), some (jI v3)] [jI u0, jI u1] M Q :=
  (x_cge c408_8 H.1.1 H.1.2 (fun h1 => (x_ci c408_33 (x_zrt c408_34 r408 (by decide) (H.2.1 h1)))) (fun h2 => (x_aldn c408_11 rfl (x_ildn c408_12 rfl (x_aldn c408_13 rfl (x_ildn c408_14 rfl (x_ildn c408_15 rfl (wp_wk (l' := [some (jR 133), some (jI v1), some (jI v2), some (jI v3)]) ⟨rfl, ⟨rfl, ⟨rfl, ⟨rfl, trivial⟩⟩⟩⟩ (x_cv (As := [jI v2, jI v3]) (st := [jI v1, jR 133]) c408_16 cl_133 kl395 rfl (Nat.le_of_ble_eq_true rfl) mx395 (Nat.le_refl _) (H.2.2 h2))))))))))
theorem s408_19 {kc : List va_E} {d : Nat} {v1 v2 v3 u0 u1 : Int} {M : fx_M} {Q : Option fx_V → fx_M → Prop} (H : wc kc d 396 [jR 133, jI u1, jI u0] M (fun v M1 => wp kc (d + 1) 408 22 [some (jR 133), some (jI v1), some (jI v2), some (jI v3)] (v.toList ++ []) M1 Q)) : wp kc (d + 1) 408 19 [some (jR 133), some (jI v1), some (jI v2), some (jI v3)] [jI u0, jI u1, jR 133] M Q :=
  (wp_wk (l' := [some (jR 133), some (jI v1), some (jI v2), some (jI v3)]) ⟨rfl, ⟨rfl, ⟨rfl, ⟨rfl, trivial⟩⟩⟩⟩ (x_cv (As := [jI u1, jI u0]) (st := []) c408_19 cl_133 kl396 rfl (Nat.le_of_ble_eq_true rfl) mx396 (Nat.le_refl _) H))
theorem s408_22 {kc : List va_E} {d : Nat} {v1 v2 v3 u0 : Int} {M : fx_M} {Q : Option fx_V → fx_M → Prop} (H : ((fx_in32 u0)) ∧ (u0 ≠ 0 → wp kc (d + 1) 408 2 [some (jR 133), some (jI v1), some (jI v2), some (jI (v3 + 1))] [] M Q) ∧ (u0 = 0 → Q (some (jI 0)) M)) : wp kc (d + 1) 408 22 [some (jR 133), some (jI v1), some (jI v2), some (jI v3)] [jI u0] M Q :=
  (x_zne c408_22 H.1 (fun h1 => (x_inc (l' := [some (jR 133), some (jI v1), some (jI v2), some (jI (v3 + 1))]) c408_27 rfl rfl (x_goto c408_30 (wp_wk (l' := [some (jR 133), some (jI v1), some (jI v2), some (jI (v3 + 1))]) ⟨rfl, ⟨rfl, ⟨rfl, ⟨rfl, trivial⟩⟩⟩⟩ (H.2.1 h1))))) (fun h2 => (x_ci c408_25 (x_zrt c408_26 r408 (by decide) (H.2.2 h2)))))
theorem s408 {kc : List va_E} {d : Nat} {x1 x2 : Int} {M : fx_M} {Q : Option fx_V → fx_M → Prop} (H : wp kc (d + 1) 408 2 [some (jR 133), some (jI x1), some (jI x2), some (jI 0)] [] M Q) : wc kc (d + 1) 408 [jR 133, jI x1, jI x2] M Q :=
  wc_of (wp_wk (l' := [some (jR 133), some (jI x1), some (jI x2), none]) ⟨rfl, ⟨rfl, ⟨rfl, trivial⟩⟩⟩ (s408_0 H))

/- PuzzleHouseModel.sayGrade()V -/
theorem c409_0 : fx_op 409 0 = some (.aload_n 0, 1, 0) := by decide +kernel
theorem c409_1 : fx_ci 409 1 = some (0, 2) := by decide +kernel
theorem c409_2 : fx_ca 409 2 = some (384, 2, 2, 5) := by decide +kernel
theorem c409_5 : fx_op 409 5 = some (.aload_n 0, 6, 5) := by decide +kernel
theorem c409_6 : fx_gf 409 6 = some (12, 57, 9) := by decide +kernel
theorem c409_9 : fx_op 409 9 = some (.ifCond .eq 8, 12, 17) := by decide +kernel
theorem c409_17 : fx_op 409 17 = some (.aload_n 0, 18, 17) := by decide +kernel
theorem c409_18 : fx_op 409 18 = some (.aload_n 0, 19, 18) := by decide +kernel
theorem c409_19 : fx_gf 409 19 = some (12, 61, 22) := by decide +kernel
theorem c409_12 : fx_op 409 12 = some (.aload_n 0, 13, 12) := by decide +kernel
theorem c409_22 : fx_ca 409 22 = some (256, 2, 2, 25) := by decide +kernel
theorem c409_13 : fx_ca 409 13 = some (390, 1, 2, 16) := by decide +kernel
theorem c409_25 : fx_op 409 25 = some (.aload_n 0, 26, 25) := by decide +kernel
theorem c409_26 : fx_op 409 26 = some (.aload_n 0, 27, 26) := by decide +kernel
theorem c409_27 : fx_gf 409 27 = some (12, 58, 30) := by decide +kernel
theorem c409_30 : fx_ca 409 30 = some (255, 2, 2, 33) := by decide +kernel
theorem c409_16 : fx_op 409 16 = some (.return_, 17, 16) := by decide +kernel
theorem c409_33 : fx_op 409 33 = some (.aload_n 0, 34, 33) := by decide +kernel
theorem c409_34 : fx_op 409 34 = some (.aload_n 0, 35, 34) := by decide +kernel
theorem c409_35 : fx_gf 409 35 = some (12, 60, 38) := by decide +kernel
theorem c409_38 : fx_ca 409 38 = some (255, 2, 2, 41) := by decide +kernel
theorem c409_41 : fx_op 409 41 = some (.return_, 42, 41) := by decide +kernel
theorem s409_0 {kc : List va_E} {d : Nat} {M : fx_M} {Q : Option fx_V → fx_M → Prop} (H : wc kc d 384 [jR 133, jI 0] M (fun v M1 => wp kc (d + 1) 409 5 [some (jR 133)] (v.toList ++ []) M1 Q)) : wp kc (d + 1) 409 0 [some (jR 133)] [] M Q :=
  (x_aldn c409_0 rfl (x_ci c409_1 (wp_wk (l' := [some (jR 133)]) ⟨rfl, trivial⟩ (x_cv (As := [jI 0]) (st := []) c409_2 cl_133 kl384 rfl (Nat.le_of_ble_eq_true rfl) mx384 (Nat.le_refl _) H))))
theorem s409_5 {kc : List va_E} {d : Nat} {M : fx_M} {Q : Option fx_V → fx_M → Prop} (H : ((fx_in32 (M 133 57))) ∧ (M 133 57 = 0 → wc kc d 256 [jR 133, jI (M 133 61)] M (fun v M1 => wp kc (d + 1) 409 25 [some (jR 133)] (v.toList ++ []) M1 Q)) ∧ (M 133 57 ≠ 0 → wc kc d 390 [jR 133] M (fun v M1 => wp kc (d + 1) 409 16 [none] (v.toList ++ []) M1 Q))) : wp kc (d + 1) 409 5 [some (jR 133)] [] M Q :=
  (x_aldn c409_5 rfl (x_gfi c409_6 k_133_57 (x_zeq c409_9 H.1 (fun h1 => (x_aldn c409_17 rfl (x_aldn c409_18 rfl (x_gfi c409_19 k_133_61 (wp_wk (l' := [some (jR 133)]) ⟨rfl, trivial⟩ (x_cv (As := [jI (M 133 61)]) (st := []) c409_22 cl_133 kl256 rfl (Nat.le_of_ble_eq_true rfl) mx256 (Nat.le_refl _) (H.2.1 h1))))))) (fun h2 => (x_aldn c409_12 rfl (wp_wk (l' := [none]) trivial (x_cv (As := []) (st := []) c409_13 cl_133 kl390 rfl (Nat.le_of_ble_eq_true rfl) mx390 (Nat.le_refl _) (H.2.2 h2))))))))
theorem s409_16 {kc : List va_E} {d : Nat} {M : fx_M} {Q : Option fx_V → fx_M → Prop} (H : Q none M) : wp kc (d + 1) 409 16 [none] [] M Q :=
  (x_vr c409_16 r409 H)
theorem s409_25 {kc : List va_E} {d : Nat} {M : fx_M} {Q : Option fx_V → fx_M → Prop} (H : wc kc d 255 [jR 133, jI (M 133 58)] M (fun v M1 => wp kc (d + 1) 409 33 [some (jR 133)] (v.toList ++ []) M1 Q)) : wp kc (d + 1) 409 25 [some (jR 133)] [] M Q :=
  (x_aldn c409_25 rfl (x_aldn c409_26 rfl (x_gfi c409_27 k_133_58 (wp_wk (l' := [some (jR 133)]) ⟨rfl, trivial⟩ (x_cv (As := [jI (M 133 58)]) (st := []) c409_30 cl_133 kl255 rfl (Nat.le_of_ble_eq_true rfl) mx255 (Nat.le_refl _) H)))))
theorem s409_33 {kc : List va_E} {d : Nat} {M : fx_M} {Q : Option fx_V → fx_M → Prop} (H : wc kc d 255 [jR 133, jI (M 133 60)] M (fun v M1 => wp kc (d + 1) 409 41 [none] (v.toList ++ []) M1 Q)) : wp kc (d + 1) 409 33 [some (jR 133)] [] M Q :=
  (x_aldn c409_33 rfl (x_aldn c409_34 rfl (x_gfi c409_35 k_133_60 (wp_wk (l' := [none]) trivial (x_cv (As := [jI (M 133 60)]) (st := []) c409_38 cl_133 kl255 rfl (Nat.le_of_ble_eq_true rfl) mx255 (Nat.le_refl _) H)))))
theorem s409_41 {kc : List va_E} {d : Nat} {M : fx_M} {Q : Option fx_V → fx_M → Prop} (H : Q none M) : wp kc (d + 1) 409 41 [none] [] M Q :=
  (x_vr c409_41 r409 H)
theorem s409 {kc : List va_E} {d : Nat} {M : fx_M} {Q : Option fx_V → fx_M → Prop} (H : wc kc d 384 [jR 133, jI 0] M (fun v M1 => wp kc (d + 1) 409 5 [some (jR 133)] (v.toList ++ []) M1 Q)) : wc kc (d + 1) 409 [jR 133] M Q :=
  wc_of (wp_wk (l' := [some (jR 133)]) ⟨rfl, trivial⟩ (s409_0 H))

/- PuzzleHouseModel.sayLesson()V -/
theorem c410_0 : fx_op 410 0 = some (.aload_n 0, 1, 0) := by decide +kernel
theorem c410_1 : fx_ci 410 1 = some (0, 2) := by decide +kernel
theorem c410_2 : fx_pf 410 2 = some (12, 57, 2, 5) := by decide +kernel
theorem c410_5 : fx_op 410 5 = some (.aload_n 0, 6, 5) := by decide +kernel
theorem c410_6 : fx_ca 410 6 = some (385, 1, 2, 9) := by decide +kernel
theorem c410_9 : fx_op 410 9 = some (.aload_n 0, 10, 9) := by decide +kernel
theorem c410_10 : fx_ca 410 10 = some (295, 1, 2, 13) := by decide +kernel
theorem c410_13 : fx_op 410 13 = some (.aload_n 0, 14, 13) := by decide +kernel
theorem c410_14 : fx_ci 410 14 = some (1, 15) := by decide +kernel
theorem c410_15 : fx_ca 410 15 = some (322, 2, 2, 18) := by decide +kernel
theorem c410_18 : fx_op 410 18 = some (.aload_n 0, 19, 18) := by decide +kernel
theorem c410_19 : fx_gf 410 19 = some (12, 57, 22) := by decide +kernel
theorem c410_22 : fx_op 410 22 = some (.ifCond .ne 15, 25, 37) := by decide +kernel
theorem c410_25 : fx_op 410 25 = some (.aload_n 0, 26, 25) := by decide +kernel
theorem c410_26 : fx_gf 410 26 = some (12, 69, 29) := by decide +kernel
theorem c410_29 : fx_ci 410 29 = some (1, 30) := by decide +kernel
theorem c410_30 : fx_op 410 30 = some (.if_icmp .ne 7, 33, 37) := by decide +kernel
theorem c410_33 : fx_op 410 33 = some (.aload_n 0, 34, 33) := by decide +kernel
theorem c410_37 : fx_op 410 37 = some (.aload_n 0, 38, 37) := by decide +kernel
theorem c410_38 : fx_gf 410 38 = some (12, 57, 41) := by decide +kernel
theorem c410_41 : fx_op 410 41 = some (.ifCond .ne 20, 44, 61) := by decide +kernel
theorem c410_44 : fx_op 410 44 = some (.aload_n 0, 45, 44) := by decide +kernel
theorem c410_45 : fx_gf 410 45 = some (12, 69, 48) := by decide +kernel
theorem c410_48 : fx_op 410 48 = some (.ifCond .le 13, 51, 61) := by decide +kernel
theorem c410_51 : fx_op 410 51 = some (.aload_n 0, 52, 51) := by decide +kernel
theorem c410_52 : fx_ci 410 52 = some (117, 54) := by decide +kernel
theorem c410_61 : fx_op 410 61 = some (.aload_n 0, 62, 61) := by decide +kernel
theorem c410_62 : fx_gf 410 62 = some (12, 57, 65) := by decide +kernel
theorem c410_65 : fx_op 410 65 = some (.ifCond .eq 10, 68, 75) := by decide +kernel
theorem c410_75 : fx_op 410 75 = some (.aload_n 0, 76, 75) := by decide +kernel
theorem c410_76 : fx_gf 410 76 = some (12, 5, 79) := by decide +kernel
theorem c410_79 : fx_op 410 79 = some (.ifCond .ne 9, 82, 88) := by decide +kernel
theorem c410_82 : fx_op 410 82 = some (.aload_n 0, 83, 82) := by decide +kernel
theorem c410_83 : fx_ci 410 83 = some (46, 85) := by decide +kernel
theorem c410_68 : fx_op 410 68 = some (.aload_n 0, 69, 68) := by decide +kernel
theorem c410_88 : fx_op 410 88 = some (.return_, 89, 88) := by decide +kernel
theorem c410_85 : fx_ca 410 85 = some (254, 2, 2, 88) := by decide +kernel
theorem c410_69 : fx_ca 410 69 = some (390, 1, 2, 72) := by decide +kernel
theorem c410_54 : fx_ca 410 54 = some (254, 2, 2, 57) := by decide +kernel
theorem c410_34 : fx_ca 410 34 = some (387, 1, 2, 37) := by decide +kernel
theorem c410_72 : fx_op 410 72 = some (.goto 16, 75, 88) := by decide +kernel
theorem c410_57 : fx_op 410 57 = some (.aload_n 0, 58, 57) := by decide +kernel
theorem c410_58 : fx_ca 410 58 = some (317, 1, 2, 61) := by decide +kernel
theorem s410_0 {kc : List va_E} {d : Nat} {M : fx_M} {Q : Option fx_V → fx_M → Prop} (H : wc kc d 385 [jR 133] (fx_up M 133 57 0) (fun v M1 => wp kc (d + 1) 410 9 [some (jR 133)] (v.toList ++ []) M1 Q)) : wp kc (d + 1) 410 0 [some (jR 133)] [] M Q :=
  (x_aldn c410_0 rfl (x_ci c410_1 (x_pfz c410_2 k_133_57 (by decide) (x_aldn c410_5 rfl (wp_wk (l' := [some (jR 133)]) ⟨rfl, trivial⟩ (x_cv (As := []) (st := []) c410_6 cl_133 kl385 rfl (Nat.le_of_ble_eq_true rfl) mx385 (Nat.le_refl _) H))))))
theorem s410_9 {kc : List va_E} {d : Nat} {M : fx_M} {Q : Option fx_V → fx_M → Prop} (H : wc kc d 295 [jR 133] M (fun v M1 => wp kc (d + 1) 410 13 [some (jR 133)] (v.toList ++ []) M1 Q)) : wp kc (d + 1) 410 9 [some (jR 133)] [] M Q :=
  (x_aldn c410_9 rfl (wp_wk (l' := [some (jR 133)]) ⟨rfl, trivial⟩ (x_cv (As := []) (st := []) c410_10 cl_133 kl295 rfl (Nat.le_of_ble_eq_true rfl) mx295 (Nat.le_refl _) H)))
theorem s410_13 {kc : List va_E} {d : Nat} {M : fx_M} {Q : Option fx_V → fx_M → Prop} (H : wc kc d 322 [jR 133, jI 1] M (fun v M1 => wp kc (d + 1) 410 18 [some (jR 133)] (v.toList ++ []) M1 Q)) : wp kc (d + 1) 410 13 [some (jR 133)] [] M Q :=
  (x_aldn c410_13 rfl (x_ci c410_14 (wp_wk (l' := [some (jR 133)]) ⟨rfl, trivial⟩ (x_cv (As := [jI 1]) (st := []) c410_15 cl_133 kl322 rfl (Nat.le_of_ble_eq_true rfl) mx322 (Nat.le_refl _) H))))
theorem s410_18 {kc : List va_E} {d : Nat} {M : fx_M} {Q : Option fx_V → fx_M → Prop} (H : ((fx_in32 (M 133 57))) ∧ (M 133 57 ≠ 0 → ((fx_in32 (M 133 57))) ∧ (M 133 57 ≠ 0 → ((fx_in32 (M 133 57))) ∧ (M 133 57 = 0 → ((fx_in32 (M 133 5))) ∧ (M 133 5 ≠ 0 → Q none M) ∧ (M 133 5 = 0 → wc kc d 254 [jR 133, jI 46] M (fun v M1 => wp kc (d + 1) 410 88 [none] (v.toList ++ []) M1 Q))) ∧ (M 133 57 ≠ 0 → wc kc d 390 [jR 133] M (fun v M1 => wp kc (d + 1) 410 72 [none] (v.toList ++ []) M1 Q))) ∧ (M 133 57 = 0 → ((fx_in32 (M 133 69))) ∧ (M 133 69 ≤ 0 → ((fx_in32 (M 133 57))) ∧ (M 133 57 = 0 → ((fx_in32 (M 133 5))) ∧ (M 133 5 ≠ 0 → Q none M) ∧ (M 133 5 = 0 → wc kc d 254 [jR 133, jI 46] M (fun v M1 => wp kc (d + 1) 410 88 [none] (v.toList ++ []) M1 Q))) ∧ (M 133 57 ≠ 0 → wc kc d 390 [jR 133] M (fun v M1 => wp kc (d + 1) 410 72 [none] (v.toList ++ []) M1 Q))) ∧ (0 < M 133 69 → wc kc d 254 [jR 133, jI 117] M (fun v M1 => wp kc (d + 1) 410 57 [some (jR 133)] (v.toList ++ []) M1 Q)))) ∧ (M 133 57 = 0 → ((fx_in32 (M 133 69))) ∧ (M 133 69 ≠ 1 → ((fx_in32 (M 133 57))) ∧ (M 133 57 ≠ 0 → ((fx_in32 (M 133 57))) ∧ (M 133 57 = 0 → ((fx_in32 (M 133 5))) ∧ (M 133 5 ≠ 0 → Q none M) ∧ (M 133 5 = 0 → wc kc d 254 [jR 133, jI 46] M (fun v M1 => wp kc (d + 1) 410 88 [none] (v.toList ++ []) M1 Q))) ∧ (M 133 57 ≠ 0 → wc kc d 390 [jR 133] M (fun v M1 => wp kc (d + 1) 410 72 [none] (v.toList ++ []) M1 Q))) ∧ (M 133 57 = 0 → ((fx_in32 (M 133 69))) ∧ (M 133 69 ≤ 0 → ((fx_in32 (M 133 57))) ∧ (M 133 57 = 0 → ((fx_in32 (M 133 5))) ∧ (M 133 5 ≠ 0 → Q none M) ∧ (M 133 5 = 0 → wc kc d 254 [jR 133, jI 46] M (fun v M1 => wp kc (d + 1) 410 88 [none] (v.toList ++ []) M1 Q))) ∧ (M 133 57 ≠ 0 → wc kc d 390 [jR 133] M (fun v M1 => wp kc (d + 1) 410 72 [none] (v.toList ++ []) M1 Q))) ∧ (0 < M 133 69 → wc kc d 254 [jR 133, jI 117] M (fun v M1 => wp kc (d + 1) 410 57 [some (jR 133)] (v.toList ++ []) M1 Q)))) ∧ (M 133 69 = 1 → wc kc d 387 [jR 133] M (fun v M1 => wp kc (d + 1) 410 37 [some (jR 133)] (v.toList ++ []) M1 Q)))) : wp kc (d + 1) 410 18 [some (jR 133)] [] M Q :=
  (x_aldn c410_18 rfl (x_gfi c410_19 k_133_57 (x_zne c410_22 H.1 (fun h27 => (x_aldn c410_37 rfl (x_gfi c410_38 k_133_57 (x_zne c410_41 (H.2.1 h27).1 (fun h11 => (x_aldn c410_61 rfl (x_gfi c410_62 k_133_57 (x_zeq c410_65 ((H.2.1 h27).2.1 h11).1 (fun h3 => (x_aldn c410_75 rfl (x_gfi c410_76 k_133_5 (x_zne c410_79 (((H.2.1 h27).2.1 h11).2.1 h3).1 (fun h1 => (x_vr c410_88 r410 ((((H.2.1 h27).2.1 h11).2.1 h3).2.1 h1))) (fun h2 => (x_aldn c410_82 rfl (x_ci c410_83 (wp_wk (l' := [none]) trivial (x_cv (As := [jI 46]) (st := []) c410_85 cl_133 kl254 rfl (Nat.le_of_ble_eq_true rfl) mx254 (Nat.le_refl _) ((((H.2.1 h27).2.1 h11).2.1 h3).2.2 h2)))))))))) (fun h4 => (x_aldn c410_68 rfl (wp_wk (l' := [none]) trivial (x_cv (As := []) (st := []) c410_69 cl_133 kl390 rfl (Nat.le_of_ble_eq_true rfl) mx390 (Nat.le_refl _) (((H.2.1 h27).2.1 h11).2.2 h4))))))))) (fun h12 => (x_aldn c410_44 rfl (x_gfi c410_45 k_133_69 (x_zle c410_48 ((H.2.1 h27).2.2 h12).1 (fun h9 => (x_aldn c410_61 rfl (x_gfi c410_62 k_133_57 (x_zeq c410_65 (((H.2.1 h27).2.2 h12).2.1 h9).1 (fun h7 => (x_aldn c410_75 rfl (x_gfi c410_76 k_133_5 (x_zne c410_79 ((((H.2.1 h27).2.2 h12).2.1 h9).2.1 h7).1 (fun h5 => (x_vr c410_88 r410 (((((H.2.1 h27).2.2 h12).2.1 h9).2.1 h7).2.1 h5))) (fun h6 => (x_aldn c410_82 rfl (x_ci c410_83 (wp_wk (l' := [none]) trivial (x_cv (As := [jI 46]) (st := []) c410_85 cl_133 kl254 rfl (Nat.le_of_ble_eq_true rfl) mx254 (Nat.le_refl _) (((((H.2.1 h27).2.2 h12).2.1 h9).2.1 h7).2.2 h6)))))))))) (fun h8 => (x_aldn c410_68 rfl (wp_wk (l' := [none]) trivial (x_cv (As := []) (st := []) c410_69 cl_133 kl390 rfl (Nat.le_of_ble_eq_true rfl) mx390 (Nat.le_refl _) ((((H.2.1 h27).2.2 h12).2.1 h9).2.2 h8))))))))) (fun h10 => (x_aldn c410_51 rfl (x_ci c410_52 (wp_wk (l' := [some (jR 133)]) ⟨rfl, trivial⟩ (x_cv (As := [jI 117]) (st := []) c410_54 cl_133 kl254 rfl (Nat.le_of_ble_eq_true rfl) mx254 (Nat.le_refl _) (((H.2.1 h27).2.2 h12).2.2 h10)))))))))))))) (fun h28 => (x_aldn c410_25 rfl (x_gfi c410_26 k_133_69 (x_ci c410_29 (x_cne c410_30 (H.2.2 h28).1 (by decide) (fun h25 => (x_aldn c410_37 rfl (x_gfi c410_38 k_133_57 (x_zne c410_41 ((H.2.2 h28).2.1 h25).1 (fun h23 => (x_aldn c410_61 rfl (x_gfi c410_62 k_133_57 (x_zeq c410_65 (((H.2.2 h28).2.1 h25).2.1 h23).1 (fun h15 => (x_aldn c410_75 rfl (x_gfi c410_76 k_133_5 (x_zne c410_79 ((((H.2.2 h28).2.1 h25).2.1 h23).2.1 h15).1 (fun h13 => (x_vr c410_88 r410 (((((H.2.2 h28).2.1 h25).2.1 h23).2.1 h15).2.1 h13))) (fun h14 => (x_aldn c410_82 rfl (x_ci c410_83 (wp_wk (l' := [none]) trivial (x_cv (As := [jI 46]) (st := []) c410_85 cl_133 kl254 rfl (Nat.le_of_ble_eq_true rfl) mx254 (Nat.le_refl _) (((((H.2.2 h28).2.1 h25).2.1 h23).2.1 h15).2.2 h14)))))))))) (fun h16 => (x_aldn c410_68 rfl (wp_wk (l' := [none]) trivial (x_cv (As := []) (st := []) c410_69 cl_133 kl390 rfl (Nat.le_of_ble_eq_true rfl) mx390 (Nat.le_refl _) ((((H.2.2 h28).2.1 h25).2.1 h23).2.2 h16))))))))) (fun h24 => (x_aldn c410_44 rfl (x_gfi c410_45 k_133_69 (x_zle c410_48 (((H.2.2 h28).2.1 h25).2.2 h24).1 (fun h21 => (x_aldn c410_61 rfl (x_gfi c410_62 k_133_57 (x_zeq c410_65 ((((H.2.2 h28).2.1 h25).2.2 h24).2.1 h21).1 (fun h19 => (x_aldn c410_75 rfl (x_gfi c410_76 k_133_5 (x_zne c410_79 (((((H.2.2 h28).2.1 h25).2.2 h24).2.1 h21).2.1 h19).1 (fun h17 => (x_vr c410_88 r410 ((((((H.2.2 h28).2.1 h25).2.2 h24).2.1 h21).2.1 h19).2.1 h17))) (fun h18 => (x_aldn c410_82 rfl (x_ci c410_83 (wp_wk (l' := [none]) trivial (x_cv (As := [jI 46]) (st := []) c410_85 cl_133 kl254 rfl (Nat.le_of_ble_eq_true rfl) mx254 (Nat.le_refl _) ((((((H.2.2 h28).2.1 h25).2.2 h24).2.1 h21).2.1 h19).2.2 h18)))))))))) (fun h20 => (x_aldn c410_68 rfl (wp_wk (l' := [none]) trivial (x_cv (As := []) (st := []) c410_69 cl_133 kl390 rfl (Nat.le_of_ble_eq_true rfl) mx390 (Nat.le_refl _) (((((H.2.2 h28).2.1 h25).2.2 h24).2.1 h21).2.2 h20))))))))) (fun h22 => (x_aldn c410_51 rfl (x_ci c410_52 (wp_wk (l' := [some (jR 133)]) ⟨rfl, trivial⟩ (x_cv (As := [jI 117]) (st := []) c410_54 cl_133 kl254 rfl (Nat.le_of_ble_eq_true rfl) mx254 (Nat.le_refl _) ((((H.2.2 h28).2.1 h25).2.2 h24).2.2 h22)))))))))))))) (fun h26 => (x_aldn c410_33 rfl (wp_wk (l' := [some (jR 133)]) ⟨rfl, trivial⟩ (x_cv (As := []) (st := []) c410_34 cl_133 kl387 rfl (Nat.le_of_ble_eq_true rfl) mx387 (Nat.le_refl _) ((H.2.2 h28).2.2 h26)))))))))))))
theorem s410_37 {kc : List va_E} {d : Nat} {M : fx_M} {Q : Option fx_V → fx_M → Prop} (H : ((fx_in32 (M 133 57))) ∧ (M 133 57 ≠ 0 → ((fx_in32 (M 133 57))) ∧ (M 133 57 = 0 → ((fx_in32 (M 133 5))) ∧ (M 133 5 ≠ 0 → Q none M) ∧ (M 133 5 = 0 → wc kc d 254 [jR 133, jI 46] M (fun v M1 => wp kc (d + 1) 410 88 [none] (v.toList ++ []) M1 Q))) ∧ (M 133 57 ≠ 0 → wc kc d 390 [jR 133] M (fun v M1 => wp kc (d + 1) 410 72 [none] (v.toList ++ []) M1 Q))) ∧ (M 133 57 = 0 → ((fx_in32 (M 133 69))) ∧ (M 133 69 ≤ 0 → ((fx_in32 (M 133 57))) ∧ (M 133 57 = 0 → ((fx_in32 (M 133 5))) ∧ (M 133 5 ≠ 0 → Q none M) ∧ (M 133 5 = 0 → wc kc d 254 [jR 133, jI 46] M (fun v M1 => wp kc (d + 1) 410 88 [none] (v.toList ++ []) M1 Q))) ∧ (M 133 57 ≠ 0 → wc kc d 390 [jR 133] M (fun v M1 => wp kc (d + 1) 410 72 [none] (v.toList ++ []) M1 Q))) ∧ (0 < M 133 69 → wc kc d 254 [jR 133, jI 117] M (fun v M1 => wp kc (d + 1) 410 57 [some (jR 133)] (v.toList ++ []) M1 Q)))) : wp kc (d + 1) 410 37 [some (jR 133)] [] M Q :=
  (x_aldn c410_37 rfl (x_gfi c410_38 k_133_57 (x_zne c410_41 H.1 (fun h11 => (x_aldn c410_61 rfl (x_gfi c410_62 k_133_57 (x_zeq c410_65 (H.2.1 h11).1 (fun h3 => (x_aldn c410_75 rfl (x_gfi c410_76 k_133_5 (x_zne c410_79 ((H.2.1 h11).2.1 h3).1 (fun h1 => (x_vr c410_88 r410 (((H.2.1 h11).2.1 h3).2.1 h1))) (fun h2 => (x_aldn c410_82 rfl (x_ci c410_83 (wp_wk (l' := [none]) trivial (x_cv (As := [jI 46]) (st := []) c410_85 cl_133 kl254 rfl (Nat.le_of_ble_eq_true rfl) mx254 (Nat.le_refl _) (((H.2.1 h11).2.1 h3).2.2 h2)))))))))) (fun h4 => (x_aldn c410_68 rfl (wp_wk (l' := [none]) trivial (x_cv (As := []) (st := []) c410_69 cl_133 kl390 rfl (Nat.le_of_ble_eq_true rfl) mx390 (Nat.le_refl _) ((H.2.1 h11).2.2 h4))))))))) (fun h12 => (x_aldn c410_44 rfl (x_gfi c410_45 k_133_69 (x_zle c410_48 (H.2.2 h12).1 (fun h9 => (x_aldn c410_61 rfl (x_gfi c410_62 k_133_57 (x_zeq c410_65 ((H.2.2 h12).2.1 h9).1 (fun h7 => (x_aldn c410_75 rfl (x_gfi c410_76 k_133_5 (x_zne c410_79 (((H.2.2 h12).2.1 h9).2.1 h7).1 (fun h5 => (x_vr c410_88 r410 ((((H.2.2 h12).2.1 h9).2.1 h7).2.1 h5))) (fun h6 => (x_aldn c410_82 rfl (x_ci c410_83 (wp_wk (l' := [none]) trivial (x_cv (As := [jI 46]) (st := []) c410_85 cl_133 kl254 rfl (Nat.le_of_ble_eq_true rfl) mx254 (Nat.le_refl _) ((((H.2.2 h12).2.1 h9).2.1 h7).2.2 h6)))))))))) (fun h8 => (x_aldn c410_68 rfl (wp_wk (l' := [none]) trivial (x_cv (As := []) (st := []) c410_69 cl_133 kl390 rfl (Nat.le_of_ble_eq_true rfl) mx390 (Nat.le_refl _) (((H.2.2 h12).2.1 h9).2.2 h8))))))))) (fun h10 => (x_aldn c410_51 rfl (x_ci c410_52 (wp_wk (l' := [some (jR 133)]) ⟨rfl, trivial⟩ (x_cv (As := [jI 117]) (st := []) c410_54 cl_133 kl254 rfl (Nat.le_of_ble_eq_true rfl) mx254 (Nat.le_refl _) ((H.2.2 h12).2.2 h10)))))))))))))
theorem s410_57 {kc : List va_E} {d : Nat} {M : fx_M} {Q : Option fx_V → fx_M → Prop} (H : wc kc d 317 [jR 133] M (fun v M1 => wp kc (d + 1) 410 61 [some (jR 133)] (v.toList ++ []) M1 Q)) : wp kc (d + 1) 410 57 [some (jR 133)] [] M Q :=
  (x_aldn c410_57 rfl (wp_wk (l' := [some (jR 133)]) ⟨rfl, trivial⟩ (x_cv (As := []) (st := []) c410_58 cl_133 kl317 rfl (Nat.le_of_ble_eq_true rfl) mx317 (Nat.le_refl _) H)))
theorem s410_61 {kc : List va_E} {d : Nat} {M : fx_M} {Q : Option fx_V → fx_M → Prop} (H : ((fx_in32 (M 133 57))) ∧ (M 133 57 = 0 → ((fx_in32 (M 133 5))) ∧ (M 133 5 ≠ 0 → Q none M) ∧ (M 133 5 = 0 → wc kc d 254 [jR 133, jI 46] M (fun v M1 => wp kc (d + 1) 410 88 [none] (v.toList ++ []) M1 Q))) ∧ (M 133 57 ≠ 0 → wc kc d 390 [jR 133] M (fun v M1 => wp kc (d + 1) 410 72 [none] (v.toList ++ []) M1 Q))) : wp kc (d + 1) 410 61 [some (jR 133)] [] M Q :=
  (x_aldn c410_61 rfl (x_gfi c410_62 k_133_57 (x_zeq c410_65 H.1 (fun h3 => (x_aldn c410_75 rfl (x_gfi c410_76 k_133_5 (x_zne c410_79 (H.2.1 h3).1 (fun h1 => (x_vr c410_88 r410 ((H.2.1 h3).2.1 h1))) (fun h2 => (x_aldn c410_82 rfl (x_ci c410_83 (wp_wk (l' := [none]) trivial (x_cv (As := [jI 46]) (st := []) c410_85 cl_133 kl254 rfl (Nat.le_of_ble_eq_true rfl) mx254 (Nat.le_refl _) ((H.2.1 h3).2.2 h2)))))))))) (fun h4 => (x_aldn c410_68 rfl (wp_wk (l' := [none]) trivial (x_cv (As := []) (st := []) c410_69 cl_133 kl390 rfl (Nat.le_of_ble_eq_true rfl) mx390 (Nat.le_refl _) (H.2.2 h4))))))))
theorem s410_72 {kc : List va_E} {d : Nat} {M : fx_M} {Q : Option fx_V → fx_M → Prop} (H : Q none M) : wp kc (d + 1) 410 72 [none] [] M Q :=
  (x_goto c410_72 (x_vr c410_88 r410 H))
theorem s410_88 {kc : List va_E} {d : Nat} {M : fx_M} {Q : Option fx_V → fx_M → Prop} (H : Q none M) : wp kc (d + 1) 410 88 [none] [] M Q :=
  (x_vr c410_88 r410 H)
theorem s410 {kc : List va_E} {d : Nat} {M : fx_M} {Q : Option fx_V → fx_M → Prop} (H : wc kc d 385 [jR 133] (fx_up M 133 57 0) (fun v M1 => wp kc (d + 1) 410 9 [some (jR 133)] (v.toList ++ []) M1 Q)) : wc kc (d + 1) 410 [jR 133] M Q :=
  wc_of (wp_wk (l' := [some (jR 133)]) ⟨rfl, trivial⟩ (s410_0 H))

/- PuzzleHouseModel.sayClash()V -/
theorem c411_0 : fx_op 411 0 = some (.aload_n 0, 1, 0) := by decide +kernel
theorem c411_1 : fx_ci 411 1 = some (1, 2) := by decide +kernel
theorem c411_2 : fx_ca 411 2 = some (268, 2, 2, 5) := by decide +kernel
theorem c411_5 : fx_op 411 5 = some (.ifCond .le 11, 8, 16) := by decide +kernel
theorem c411_16 : fx_op 411 16 = some (.aload_n 0, 17, 16) := by decide +kernel
theorem c411_8 : fx_op 411 8 = some (.aload_n 0, 9, 8) := by decide +kernel
theorem c411_9 : fx_cj 411 9 = some (1852796517, 12) := by decide +kernel
theorem c411_17 : fx_ca 411 17 = some (282, 1, 2, 20) := by decide +kernel
theorem c411_12 : fx_ca 411 12 = some (253, 2, 2, 15) := by decide +kernel
theorem c411_20 : fx_ci 411 20 = some (0, 21) := by decide +kernel
theorem c411_21 : fx_op 411 21 = some (.istore_n 1, 22, 21) := by decide +kernel
theorem c411_15 : fx_op 411 15 = some (.return_, 16, 15) := by decide +kernel
theorem c411_22 : fx_op 411 22 = some (.iload_n 1, 23, 22) := by decide +kernel
theorem c411_23 : fx_op 411 23 = some (.aload_n 0, 24, 23) := by decide +kernel
theorem c411_24 : fx_ca 411 24 = some (248, 1, 2, 27) := by decide +kernel
theorem c411_27 : fx_op 411 27 = some (.if_icmp .ge 44, 30, 71) := by decide +kernel
theorem c411_30 : fx_op 411 30 = some (.aload_n 0, 31, 30) := by decide +kernel
theorem c411_31 : fx_op 411 31 = some (.iload_n 1, 32, 31) := by decide +kernel
theorem c411_71 : fx_op 411 71 = some (.aload_n 0, 72, 71) := by decide +kernel
theorem c411_72 : fx_ci 411 72 = some (17, 74) := by decide +kernel
theorem c411_74 : fx_ca 411 74 = some (221, 1, 0, 77) := by decide +kernel
theorem c411_32 : fx_ca 411 32 = some (271, 2, 2, 35) := by decide +kernel
theorem c411_77 : fx_ca 411 77 = some (253, 2, 2, 80) := by decide +kernel
theorem c411_35 : fx_op 411 35 = some (.istore_n 2, 36, 35) := by decide +kernel
theorem c411_36 : fx_op 411 36 = some (.iload_n 2, 37, 36) := by decide +kernel
theorem c411_37 : fx_op 411 37 = some (.ifCond .ge 6, 40, 43) := by decide +kernel
theorem c411_43 : fx_op 411 43 = some (.aload_n 0, 44, 43) := by decide +kernel
theorem c411_44 : fx_gf 411 44 = some (12, 45, 47) := by decide +kernel
theorem c411_47 : fx_op 411 47 = some (.iload_n 1, 48, 47) := by decide +kernel
theorem c411_48 : fx_ci 411 48 = some ((-1), 49) := by decide +kernel
theorem c411_50 : fx_op 411 50 = some (.aload_n 0, 51, 50) := by decide +kernel
theorem c411_51 : fx_ci 411 51 = some (1, 52) := by decide +kernel
theorem c411_65 : fx_op 411 65 = some (.iinc 1 1, 68, 65) := by decide +kernel
theorem c411_49 : fx_op 411 49 = some (.iastore, 50, 49) := by decide +kernel
theorem c411_52 : fx_ca 411 52 = some (268, 2, 2, 55) := by decide +kernel
theorem c411_40 : fx_op 411 40 = some (.goto 25, 43, 65) := by decide +kernel
theorem c411_68 : fx_op 411 68 = some (.goto (-46), 71, 22) := by decide +kernel
theorem c411_80 : fx_ci 411 80 = some (0, 81) := by decide +kernel
theorem c411_81 : fx_op 411 81 = some (.istore_n 1, 82, 81) := by decide +kernel
theorem c411_55 : fx_op 411 55 = some (.ifCond .le 10, 58, 65) := by decide +kernel
theorem c411_58 : fx_op 411 58 = some (.aload_n 0, 59, 58) := by decide +kernel
theorem c411_59 : fx_gf 411 59 = some (12, 45, 62) := by decide +kernel
theorem c411_62 : fx_op 411 62 = some (.iload_n 1, 63, 62) := by decide +kernel
theorem c411_63 : fx_op 411 63 = some (.iload_n 2, 64, 63) := by decide +kernel
theorem c411_64 : fx_op 411 64 = some (.iastore, 65, 64) := by decide +kernel
theorem c411_82 : fx_op 411 82 = some (.iload_n 1, 83, 82) := by decide +kernel
theorem c411_83 : fx_op 411 83 = some (.aload_n 0, 84, 83) := by decide +kernel
theorem c411_84 : fx_ca 411 84 = some (248, 1, 2, 87) := by decide +kernel
theorem c411_87 : fx_op 411 87 = some (.if_icmp .ge 22, 90, 109) := by decide +kernel
theorem c411_90 : fx_op 411 90 = some (.aload_n 0, 91, 90) := by decide +kernel
theorem c411_91 : fx_op 411 91 = some (.iload_n 1, 92, 91) := by decide +kernel
theorem c411_109 : fx_op 411 109 = some (.aload_n 0, 110, 109) := by decide +kernel
theorem c411_110 : fx_ca 411 110 = some (283, 1, 2, 113) := by decide +kernel
theorem c411_92 : fx_ca 411 92 = some (271, 2, 2, 95) := by decide +kernel
theorem c411_113 : fx_op 411 113 = some (.return_, 114, 113) := by decide +kernel
theorem c411_95 : fx_op 411 95 = some (.ifCond .lt 8, 98, 103) := by decide +kernel
theorem c411_98 : fx_op 411 98 = some (.aload_n 0, 99, 98) := by decide +kernel
theorem c411_99 : fx_op 411 99 = some (.iload_n 1, 100, 99) := by decide +kernel
theorem c411_103 : fx_op 411 103 = some (.iinc 1 1, 106, 103) := by decide +kernel
theorem c411_106 : fx_op 411 106 = some (.goto (-24), 109, 82) := by decide +kernel
theorem c411_100 : fx_ca 411 100 = some (255, 2, 2, 103) := by decide +kernel
theorem s411_0 {kc : List va_E} {d : Nat} {M : fx_M} {Q : Option fx_V → fx_M → Prop} (H : wc kc d 268 [jR 133, jI 1] M (fun v M1 => wp kc (d + 1) 411 5 [some (jR 133), none, none] (v.toList ++ []) M1 Q)) : wp kc (d + 1) 411 0 [some (jR 133), none, none] [] M Q :=
  (x_aldn c411_0 rfl (x_ci c411_1 (wp_wk (l' := [some (jR 133), none, none]) ⟨rfl, trivial⟩ (x_cv (As := [jI 1]) (st := []) c411_2 cl_133 kl268 rfl (Nat.le_of_ble_eq_true rfl) mx268 (Nat.le_refl _) H))))
theorem s411_5 {kc : List va_E} {d : Nat} {u0 : Int} {M : fx_M} {Q : Option fx_V → fx_M → Prop} (H : ((fx_in32 u0)) ∧ (u0 ≤ 0 → wc kc d 282 [jR 133] M (fun v M1 => wp kc (d + 1) 411 20 [some (jR 133), none, none] (v.toList ++ []) M1 Q)) ∧ (0 < u0 → wc kc d 253 [jR 133, jL 1852796517] M (fun v M1 => wp kc (d + 1) 411 15 [none, none, none] (v.toList ++ []) M1 Q))) : wp kc (d + 1) 411 5 [some (jR 133), none, none] [jI u0] M Q :=
  (x_zle c411_5 H.1 (fun h1 => (x_aldn c411_16 rfl (wp_wk (l' := [some (jR 133), none, none]) ⟨rfl, trivial⟩ (x_cv (As := []) (st := []) c411_17 cl_133 kl282 rfl (Nat.le_of_ble_eq_true rfl) mx282 (Nat.le_refl _) (H.2.1 h1))))) (fun h2 => (x_aldn c411_8 rfl (x_cj c411_9 (wp_wk (l' := [none, none, none]) trivial (x_cv (As := [jL 1852796517]) (st := []) c411_12 cl_133 kl253 rfl (Nat.le_of_ble_eq_true rfl) mx253 (Nat.le_refl _) (H.2.2 h2)))))))
theorem s411_15 {kc : List va_E} {d : Nat} {M : fx_M} {Q : Option fx_V → fx_M → Prop} (H : Q none M) : wp kc (d + 1) 411 15 [none, none, none] [] M Q :=
  (x_vr c411_15 r411 H)
theorem s411_20 {kc : List va_E} {d : Nat} {M : fx_M} {Q : Option fx_V → fx_M → Prop} (H : wp kc (d + 1) 411 22 [some (jR 133), some (jI 0), none] [] M Q) : wp kc (d + 1) 411 20 [some (jR 133), none, none] [] M Q :=
  (x_ci c411_20 (x_istn (l' := [some (jR 133), some (jI 0), none]) c411_21 rfl (wp_wk (l' := [some (jR 133), some (jI 0), none]) ⟨rfl, ⟨rfl, trivial⟩⟩ H)))
theorem s411_22 {kc : List va_E} {d : Nat} {v1 : Int} {M : fx_M} {Q : Option fx_V → fx_M → Prop} (H : wc kc d 248 [jR 133] M (fun v M1 => wp kc (d + 1) 411 27 [some (jR 133), some (jI v1), none] (v.toList ++ [jI v1]) M1 Q)) : wp kc (d + 1) 411 22 [some (jR 133), some (jI v1), none] [] M Q :=
  (x_ildn c411_22 rfl (x_aldn c411_23 rfl (wp_wk (l' := [some (jR 133), some (jI v1), none]) ⟨rfl, ⟨rfl, trivial⟩⟩ (x_cv (As := []) (st := [jI v1]) c411_24 cl_133 kl248 rfl (Nat.le_of_ble_eq_true rfl) mx248 (Nat.le_refl _) H))))
theorem s411_27 {kc : List va_E} {d : Nat} {v1 u0 u1 : Int} {M : fx_M} {Q : Option fx_V → fx_M → Prop} (H : ((fx_in32 u1) ∧ (fx_in32 u0)) ∧ (u0 ≤ u1 → wc kc d 221 [jI 17] M (fun v M1 => wp kc (d + 1) 411 77 [some (jR 133), none, none] (v.toList ++ [jR 133]) M1 Q)) ∧ (u1 < u0 → wc kc d 271 [jR 133, jI v1] M (fun v M1 => wp kc (d + 1) 411 35 [some (jR 133), some (jI v1), none] (v.toList ++ []) M1 Q))) : wp kc (d + 1) 411 27 [some (jR 133), some (jI v1), none] [jI u0, jI u1] M Q :=
  (x_cge c411_27 H.1.1 H.1.2 (fun h1 => (x_aldn c411_71 rfl (x_ci c411_72 (wp_wk (l' := [some (jR 133), none, none]) ⟨rfl, trivial⟩ (x_cs (As := [jI 17]) (st := [jR 133]) c411_74 (by decide) rfl (Nat.le_of_ble_eq_true rfl) mx221 (Nat.le_refl _) (H.2.1 h1)))))) (fun h2 => (x_aldn c411_30 rfl (x_ildn c411_31 rfl (wp_wk (l' := [some (jR 133), some (jI v1), none]) ⟨rfl, ⟨rfl, trivial⟩⟩ (x_cv (As := [jI v1]) (st := []) c411_32 cl_133 kl271 rfl (Nat.le_of_ble_eq_true rfl) mx271 (Nat.le_refl _) (H.2.2 h2)))))))
theorem s411_35 {kc : List va_E} {d : Nat} {v1 u0 : Int} {M : fx_M} {Q : Option fx_V → fx_M → Prop} (H : ((fx_in32 u0)) ∧ (0 ≤ u0 → (((0 : Int) ≤ v1 ∧ v1 < 90)) ∧ wc kc d 268 [jR 133, jI 1] (fx_up M 154 v1 (-1)) (fun v M1 => wp kc (d + 1) 411 55 [some (jR 133), some (jI v1), some (jI u0)] (v.toList ++ []) M1 Q)) ∧ (u0 < 0 → wp kc (d + 1) 411 22 [some (jR 133), some (jI (v1 + 1)), none] [] M Q)) : wp kc (d + 1) 411 35 [some (jR 133), some (jI v1), none] [jI u0] M Q :=
  (x_istn (l' := [some (jR 133), some (jI v1), some (jI u0)]) c411_35 rfl (x_ildn c411_36 rfl (x_zge c411_37 H.1 (fun h1 => (x_aldn c411_43 rfl (x_gfr c411_44 k_133_45 (x_ildn c411_47 rfl (x_ci c411_48 (x_iast c411_49 a_154 (H.2.1 h1).1 (by decide) (x_aldn c411_50 rfl (x_ci c411_51 (wp_wk (l' := [some (jR 133), some (jI v1), some (jI u0)]) ⟨rfl, ⟨rfl, ⟨rfl, trivial⟩⟩⟩ (x_cv (As := [jI 1]) (st := []) c411_52 cl_133 kl268 rfl (Nat.le_of_ble_eq_true rfl) mx268 (Nat.le_refl _) (H.2.1 h1).2)))))))))) (fun h2 => (x_goto c411_40 (x_inc (l' := [some (jR 133), some (jI (v1 + 1)), some (jI u0)]) c411_65 rfl rfl (x_goto c411_68 (wp_wk (l' := [some (jR 133), some (jI (v1 + 1)), none]) ⟨rfl, ⟨rfl, trivial⟩⟩ (H.2.2 h2)))))))))
theorem s411_55 {kc : List va_E} {d : Nat} {v1 v2 u0 : Int} {M : fx_M} {Q : Option fx_V → fx_M → Prop} (H : ((fx_in32 u0)) ∧ (u0 ≤ 0 → wp kc (d + 1) 411 22 [some (jR 133), some (jI (v1 + 1)), none] [] M Q) ∧ (0 < u0 → (((0 : Int) ≤ v1 ∧ v1 < 90)) ∧ wp kc (d + 1) 411 22 [some (jR 133), some (jI (v1 + 1)), none] [] (fx_up M 154 v1 v2) Q)) : wp kc (d + 1) 411 55 [some (jR 133), some (jI v1), some (jI v2)] [jI u0] M Q :=
  (x_zle c411_55 H.1 (fun h1 => (x_inc (l' := [some (jR 133), some (jI (v1 + 1)), some (jI v2)]) c411_65 rfl rfl (x_goto c411_68 (wp_wk (l' := [some (jR 133), some (jI (v1 + 1)), none]) ⟨rfl, ⟨rfl, trivial⟩⟩ (H.2.1 h1))))) (fun h2 => (x_aldn c411_58 rfl (x_gfr c411_59 k_133_45 (x_ildn c411_62 rfl (x_ildn c411_63 rfl (x_iast c411_64 a_154 (H.2.2 h2).1 (by decide) (x_inc (l' := [some (jR 133), some (jI (v1 + 1)), some (jI v2)]) c411_65 rfl rfl (x_goto c411_68 (wp_wk (l' := [some (jR 133), some (jI (v1 + 1)), none]) ⟨rfl, ⟨rfl, trivial⟩⟩ (H.2.2 h2).2))))))))))
theorem s411_77 {kc : List va_E} {d : Nat} {u0 : Int} {M : fx_M} {Q : Option fx_V → fx_M → Prop} (H : wc kc d 253 [jR 133, jL u0] M (fun v M1 => wp kc (d + 1) 411 80 [some (jR 133), none, none] (v.toList ++ []) M1 Q)) : wp kc (d + 1) 411 77 [some (jR 133), none, none] [jL u0, jR 133] M Q :=
  (wp_wk (l' := [some (jR 133), none, none]) ⟨rfl, trivial⟩ (x_cv (As := [jL u0]) (st := []) c411_77 cl_133 kl253 rfl (Nat.le_of_ble_eq_true rfl) mx253 (Nat.le_refl _) H))
theorem s411_80 {kc : List va_E} {d : Nat} {M : fx_M} {Q : Option fx_V → fx_M → Prop} (H : wp kc (d + 1) 411 82 [some (jR 133), some (jI 0), none] [] M Q) : wp kc (d + 1) 411 80 [some (jR 133), none, none] [] M Q :=
  (x_ci c411_80 (x_istn (l' := [some (jR 133), some (jI 0), none]) c411_81 rfl (wp_wk (l' := [some (jR 133), some (jI 0), none]) ⟨rfl, ⟨rfl, trivial⟩⟩ H)))
theorem s411_82 {kc : List va_E} {d : Nat} {v1 : Int} {M : fx_M} {Q : Option fx_V → fx_M → Prop} (H : wc kc d 248 [jR 133] M (fun v M1 => wp kc (d + 1) 411 87 [some (jR 133), some (jI v1), none] (v.toList ++ [jI v1]) M1 Q)) : wp kc (d + 1) 411 82 [some (jR 133), some (jI v1), none] [] M Q :=
  (x_ildn c411_82 rfl (x_aldn c411_83 rfl (wp_wk (l' := [some (jR 133), some (jI v1), none]) ⟨rfl, ⟨rfl, trivial⟩⟩ (x_cv (As := []) (st := [jI v1]) c411_84 cl_133 kl248 rfl (Nat.le_of_ble_eq_true rfl) mx248 (Nat.le_refl _) H))))
theorem s411_87 {kc : List va_E} {d : Nat} {v1 u0 u1 : Int} {M : fx_M} {Q : Option fx_V → fx_M → Prop} (H : ((fx_in32 u1) ∧ (fx_in32 u0)) ∧ (u0 ≤ u1 → wc kc d 283 [jR 133] M (fun v M1 => wp kc (d + 1) 411 113 [none, none, none] (v.toList ++ []) M1 Q)) ∧ (u1 < u0 → wc kc d 271 [jR 133, jI v1] M (fun v M1 => wp kc (d + 1) 411 95 [some (jR 133), some (jI v1), none] (v.toList ++ []) M1 Q))) : wp kc (d + 1) 411 87 [some (jR 133), some (jI v1), none] [jI u0, jI u1] M Q :=
  (x_cge c411_87 H.1.1 H.1.2 (fun h1 => (x_aldn c411_109 rfl (wp_wk (l' := [none, none, none]) trivial (x_cv (As := []) (st := []) c411_110 cl_133 kl283 rfl (Nat.le_of_ble_eq_true rfl) mx283 (Nat.le_refl _) (H.2.1 h1))))) (fun h2 => (x_aldn c411_90 rfl (x_ildn c411_91 rfl (wp_wk (l' := [some (jR 133), some (jI v1), none]) ⟨rfl, ⟨rfl, trivial⟩⟩ (x_cv (As := [jI v1]) (st := []) c411_92 cl_133 kl271 rfl (Nat.le_of_ble_eq_true rfl) mx271 (Nat.le_refl _) (H.2.2 h2)))))))
theorem s411_95 {kc : List va_E} {d : Nat} {v1 u0 : Int} {M : fx_M} {Q : Option fx_V → fx_M → Prop} (H : ((fx_in32 u0)) ∧ (u0 < 0 → wp kc (d + 1) 411 82 [some (jR 133), some (jI (v1 + 1)), none] [] M Q) ∧ (0 ≤ u0 → wc kc d 255 [jR 133, jI v1] M (fun v M1 => wp kc (d + 1) 411 103 [some (jR 133), some (jI v1), none] (v.toList ++ []) M1 Q))) : wp kc (d + 1) 411 95 [some (jR 133), some (jI v1), none] [jI u0] M Q :=
  (x_zlt c411_95 H.1 (fun h1 => (x_inc (l' := [some (jR 133), some (jI (v1 + 1)), none]) c411_103 rfl rfl (x_goto c411_106 (wp_wk (l' := [some (jR 133), some (jI (v1 + 1)), none]) ⟨rfl, ⟨rfl, trivial⟩⟩ (H.2.1 h1))))) (fun h2 => (x_aldn c411_98 rfl (x_ildn c411_99 rfl (wp_wk (l' := [some (jR 133), some (jI v1), none]) ⟨rfl, ⟨rfl, trivial⟩⟩ (x_cv (As := [jI v1]) (st := []) c411_100 cl_133 kl255 rfl (Nat.le_of_ble_eq_true rfl) mx255 (Nat.le_refl _) (H.2.2 h2)))))))
theorem s411_103 {kc : List va_E} {d : Nat} {v1 : Int} {M : fx_M} {Q : Option fx_V → fx_M → Prop} (H : wp kc (d + 1) 411 82 [some (jR 133), some (jI (v1 + 1)), none] [] M Q) : wp kc (d + 1) 411 103 [some (jR 133), some (jI v1), none] [] M Q :=
  (x_inc (l' := [some (jR 133), some (jI (v1 + 1)), none]) c411_103 rfl rfl (x_goto c411_106 (wp_wk (l' := [some (jR 133), some (jI (v1 + 1)), none]) ⟨rfl, ⟨rfl, trivial⟩⟩ H)))
theorem s411_113 {kc : List va_E} {d : Nat} {M : fx_M} {Q : Option fx_V → fx_M → Prop} (H : Q none M) : wp kc (d + 1) 411 113 [none, none, none] [] M Q :=
  (x_vr c411_113 r411 H)
theorem s411 {kc : List va_E} {d : Nat} {M : fx_M} {Q : Option fx_V → fx_M → Prop} (H : wc kc d 268 [jR 133, jI 1] M (fun v M1 => wp kc (d + 1) 411 5 [some (jR 133), none, none] (v.toList ++ []) M1 Q)) : wc kc (d + 1) 411 [jR 133] M Q :=
  wc_of (wp_wk (l' := [some (jR 133), none, none]) ⟨rfl, trivial⟩ (s411_0 H))

/- PuzzleHouseModel.sayForm()V -/
theorem c412_0 : fx_op 412 0 = some (.aload_n 0, 1, 0) := by decide +kernel
theorem c412_1 : fx_ci 412 1 = some (0, 2) := by decide +kernel
theorem c412_2 : fx_ca 412 2 = some (334, 2, 2, 5) := by decide +kernel
theorem c412_5 : fx_ci 412 5 = some (0, 6) := by decide +kernel
theorem c412_6 : fx_op 412 6 = some (.istore_n 1, 7, 6) := by decide +kernel
theorem c412_7 : fx_op 412 7 = some (.iload_n 1, 8, 7) := by decide +kernel
theorem c412_8 : fx_op 412 8 = some (.aload_n 0, 9, 8) := by decide +kernel
theorem c412_9 : fx_gf 412 9 = some (12, 74, 12) := by decide +kernel
theorem c412_12 : fx_op 412 12 = some (.if_icmp .ge 19, 15, 31) := by decide +kernel
theorem c412_15 : fx_op 412 15 = some (.aload_n 0, 16, 15) := by decide +kernel
theorem c412_16 : fx_op 412 16 = some (.aload_n 0, 17, 16) := by decide +kernel
theorem c412_17 : fx_gf 412 17 = some (12, 75, 20) := by decide +kernel
theorem c412_20 : fx_op 412 20 = some (.iload_n 1, 21, 20) := by decide +kernel
theorem c412_21 : fx_op 412 21 = some (.iaload, 22, 21) := by decide +kernel
theorem c412_31 : fx_op 412 31 = some (.return_, 32, 31) := by decide +kernel
theorem c412_22 : fx_ca 412 22 = some (254, 2, 2, 25) := by decide +kernel
theorem c412_25 : fx_op 412 25 = some (.iinc 1 1, 28, 25) := by decide +kernel
theorem c412_28 : fx_op 412 28 = some (.goto (-21), 31, 7) := by decide +kernel
theorem s412_0 {kc : List va_E} {d : Nat} {M : fx_M} {Q : Option fx_V → fx_M → Prop} (H : wc kc d 334 [jR 133, jI 0] M (fun v M1 => wp kc (d + 1) 412 5 [some (jR 133), none] (v.toList ++ []) M1 Q)) : wp kc (d + 1) 412 0 [some (jR 133), none] [] M Q :=
  (x_aldn c412_0 rfl (x_ci c412_1 (wp_wk (l' := [some (jR 133), none]) ⟨rfl, trivial⟩ (x_cv (As := [jI 0]) (st := []) c412_2 cl_133 kl334 rfl (Nat.le_of_ble_eq_true rfl) mx334 (Nat.le_refl _) H))))
theorem s412_5 {kc : List va_E} {d : Nat} {M : fx_M} {Q : Option fx_V → fx_M → Prop} (H : wp kc (d + 1) 412 7 [some (jR 133), some (jI 0)] [] M Q) : wp kc (d + 1) 412 5 [some (jR 133), none] [] M Q :=
  (x_ci c412_5 (x_istn (l' := [some (jR 133), some (jI 0)]) c412_6 rfl (wp_wk (l' := [some (jR 133), some (jI 0)]) ⟨rfl, ⟨rfl, trivial⟩⟩ H)))
theorem s412_7 {kc : List va_E} {d : Nat} {v1 : Int} {M : fx_M} {Q : Option fx_V → fx_M → Prop} (H : ((fx_in32 v1) ∧ (fx_in32 (M 133 74))) ∧ (M 133 74 ≤ v1 → Q none M) ∧ (v1 < M 133 74 → (((0 : Int) ≤ v1 ∧ v1 < 600)) ∧ wc kc d 254 [jR 133, jI (M 170 v1)] M (fun v M1 => wp kc (d + 1) 412 25 [some (jR 133), some (jI v1)] (v.toList ++ []) M1 Q))) : wp kc (d + 1) 412 7 [some (jR 133), some (jI v1)] [] M Q :=
  (x_ildn c412_7 rfl (x_aldn c412_8 rfl (x_gfi c412_9 k_133_74 (x_cge c412_12 H.1.1 H.1.2 (fun h1 => (x_vr c412_31 r412 (H.2.1 h1))) (fun h2 => (x_aldn c412_15 rfl (x_aldn c412_16 rfl (x_gfr c412_17 k_133_75 (x_ildn c412_20 rfl (x_iald c412_21 a_170 (H.2.2 h2).1 (by decide) (wp_wk (l' := [some (jR 133), some (jI v1)]) ⟨rfl, ⟨rfl, trivial⟩⟩ (x_cv (As := [jI (M 170 v1)]) (st := []) c412_22 cl_133 kl254 rfl (Nat.le_of_ble_eq_true rfl) mx254 (Nat.le_refl _) (H.2.2 h2).2))))))))))))
theorem s412_25 {kc : List va_E} {d : Nat} {v1 : Int} {M : fx_M} {Q : Option fx_V → fx_M → Prop} (H : wp kc (d + 1) 412 7 [some (jR 133), some (jI (v1 + 1))] [] M Q) : wp kc (d + 1) 412 25 [some (jR 133), some (jI v1)] [] M Q :=
  (x_inc (l' := [some (jR 133), some (jI (v1 + 1))]) c412_25 rfl rfl (x_goto c412_28 (wp_wk (l' := [some (jR 133), some (jI (v1 + 1))]) ⟨rfl, ⟨rfl, trivial⟩⟩ H)))
theorem s412 {kc : List va_E} {d : Nat} {M : fx_M} {Q : Option fx_V → fx_M → Prop} (H : wc kc d 334 [jR 133, jI 0] M (fun v M1 => wp kc (d + 1) 412 5 [some (jR 133), none] (v.toList ++ []) M1 Q)) : wc kc (d + 1) 412 [jR 133] M Q :=
  wc_of (wp_wk (l' := [some (jR 133), none]) ⟨rfl, trivial⟩ (s412_0 H))

/- PuzzleHouseModel.sayCover(I)V -/
theorem c413_0 : fx_op 413 0 = some (.iload_n 1, 1, 0) := by decide +kernel
theorem c413_1 : fx_ci 413 1 = some (100, 3) := by decide +kernel
theorem c413_3 : fx_op 413 3 = some (.if_icmp .le 9, 6, 12) := by decide +kernel
theorem c413_12 : fx_op 413 12 = some (.aload_n 0, 13, 12) := by decide +kernel
theorem c413_6 : fx_op 413 6 = some (.aload_n 0, 7, 6) := by decide +kernel
theorem c413_7 : fx_ci 413 7 = some (3, 8) := by decide +kernel
theorem c413_13 : fx_ca 413 13 = some (414, 1, 2, 16) := by decide +kernel
theorem c413_8 : fx_ca 413 8 = some (259, 2, 2, 11) := by decide +kernel
theorem c413_16 : fx_ci 413 16 = some (1, 17) := by decide +kernel
theorem c413_17 : fx_op 413 17 = some (.aload_n 0, 18, 17) := by decide +kernel
theorem c413_18 : fx_ca 413 18 = some (248, 1, 2, 21) := by decide +kernel
theorem c413_11 : fx_op 413 11 = some (.return_, 12, 11) := by decide +kernel
theorem c413_21 : fx_op 413 21 = some (.ishl, 22, 21) := by decide +kernel
theorem c413_22 : fx_ci 413 22 = some (1, 23) := by decide +kernel
theorem c413_23 : fx_op 413 23 = some (.isub, 24, 23) := by decide +kernel
theorem c413_24 : fx_op 413 24 = some (.istore_n 2, 25, 24) := by decide +kernel
theorem c413_25 : fx_ci 413 25 = some (0, 26) := by decide +kernel
theorem c413_26 : fx_op 413 26 = some (.istore_n 3, 27, 26) := by decide +kernel
theorem c413_27 : fx_op 413 27 = some (.aload_n 0, 28, 27) := by decide +kernel
theorem c413_28 : fx_ci 413 28 = some (0, 29) := by decide +kernel
theorem c413_29 : fx_ci 413 29 = some (1, 30) := by decide +kernel
theorem c413_30 : fx_ca 413 30 = some (415, 3, 2, 33) := by decide +kernel
theorem c413_33 : fx_op 413 33 = some (.istore 4, 35, 33) := by decide +kernel
theorem c413_35 : fx_op 413 35 = some (.iload 4, 37, 35) := by decide +kernel
theorem c413_37 : fx_op 413 37 = some (.ifCond .eq 63, 40, 100) := by decide +kernel
theorem c413_40 : fx_op 413 40 = some (.iload_n 3, 41, 40) := by decide +kernel
theorem c413_41 : fx_op 413 41 = some (.iload_n 1, 42, 41) := by decide +kernel
theorem c413_42 : fx_op 413 42 = some (.if_icmp .gt 58, 45, 100) := by decide +kernel
theorem c413_45 : fx_op 413 45 = some (.aload_n 0, 46, 45) := by decide +kernel
theorem c413_46 : fx_op 413 46 = some (.iload 4, 48, 46) := by decide +kernel
theorem c413_100 : fx_op 413 100 = some (.aload_n 0, 101, 100) := by decide +kernel
theorem c413_101 : fx_op 413 101 = some (.iload_n 3, 102, 101) := by decide +kernel
theorem c413_102 : fx_op 413 102 = some (.iload_n 1, 103, 102) := by decide +kernel
theorem c413_103 : fx_op 413 103 = some (.if_icmp .le 9, 106, 112) := by decide +kernel
theorem c413_112 : fx_cj 413 112 = some (6384748, 115) := by decide +kernel
theorem c413_106 : fx_cj 413 106 = some (1836020325, 109) := by decide +kernel
theorem c413_109 : fx_op 413 109 = some (.goto 6, 112, 115) := by decide +kernel
theorem c413_115 : fx_ca 413 115 = some (253, 2, 2, 118) := by decide +kernel
theorem c413_48 : fx_ca 413 48 = some (416, 2, 2, 51) := by decide +kernel
theorem c413_118 : fx_op 413 118 = some (.return_, 119, 118) := by decide +kernel
theorem c413_51 : fx_op 413 51 = some (.istore 5, 53, 51) := by decide +kernel
theorem c413_53 : fx_op 413 53 = some (.iload 5, 55, 53) := by decide +kernel
theorem c413_55 : fx_op 413 55 = some (.iload_n 2, 56, 55) := by decide +kernel
theorem c413_56 : fx_op 413 56 = some (.if_icmp .ne 17, 59, 73) := by decide +kernel
theorem c413_59 : fx_op 413 59 = some (.iinc 3 1, 62, 59) := by decide +kernel
theorem c413_62 : fx_op 413 62 = some (.iload_n 3, 63, 62) := by decide +kernel
theorem c413_63 : fx_op 413 63 = some (.iload_n 1, 64, 63) := by decide +kernel
theorem c413_64 : fx_op 413 64 = some (.if_icmp .gt 9, 67, 73) := by decide +kernel
theorem c413_67 : fx_op 413 67 = some (.aload_n 0, 68, 67) := by decide +kernel
theorem c413_68 : fx_op 413 68 = some (.iload 4, 70, 68) := by decide +kernel
theorem c413_73 : fx_op 413 73 = some (.aload_n 0, 74, 73) := by decide +kernel
theorem c413_74 : fx_op 413 74 = some (.iload 4, 76, 74) := by decide +kernel
theorem c413_76 : fx_op 413 76 = some (.iload 5, 78, 76) := by decide +kernel
theorem c413_78 : fx_op 413 78 = some (.ifCond .lt 13, 81, 91) := by decide +kernel
theorem c413_91 : fx_ci 413 91 = some (0, 92) := by decide +kernel
theorem c413_81 : fx_op 413 81 = some (.iload 5, 83, 81) := by decide +kernel
theorem c413_83 : fx_op 413 83 = some (.iload_n 2, 84, 83) := by decide +kernel
theorem c413_84 : fx_op 413 84 = some (.if_icmp .eq 7, 87, 91) := by decide +kernel
theorem c413_87 : fx_ci 413 87 = some (1, 88) := by decide +kernel
theorem c413_88 : fx_op 413 88 = some (.goto 4, 91, 92) := by decide +kernel
theorem c413_92 : fx_ca 413 92 = some (415, 3, 2, 95) := by decide +kernel
theorem c413_70 : fx_ca 413 70 = some (417, 2, 2, 73) := by decide +kernel
theorem c413_95 : fx_op 413 95 = some (.istore 4, 97, 95) := by decide +kernel
theorem c413_97 : fx_op 413 97 = some (.goto (-62), 100, 35) := by decide +kernel
theorem s413_0 {kc : List va_E} {d : Nat} {x1 : Int} {M : fx_M} {Q : Option fx_V → fx_M → Prop} (H : ((fx_in32 x1)) ∧ (x1 ≤ 100 → wc kc d 414 [jR 133] M (fun v M1 => wp kc (d + 1) 413 16 [some (jR 133), some (jI x1), none, none, none, none] (v.toList ++ []) M1 Q)) ∧ (100 < x1 → wc kc d 259 [jR 133, jI 3] M (fun v M1 => wp kc (d + 1) 413 11 [none, none, none, none, none, none] (v.toList ++ []) M1 Q))) : wp kc (d + 1) 413 0 [some (jR 133), some (jI x1), none, none, none, none] [] M Q :=
  (x_ildn c413_0 rfl (x_ci c413_1 (x_cle c413_3 H.1 (by decide) (fun h1 => (x_aldn c413_12 rfl (wp_wk (l' := [some (jR 133), some (jI x1), none, none, none, none]) ⟨rfl, ⟨rfl, trivial⟩⟩ (x_cv (As := []) (st := []) c413_13 cl_133 kl414 rfl (Nat.le_of_ble_eq_true rfl) mx414 (Nat.le_refl _) (H.2.1 h1))))) (fun h2 => (x_aldn c413_6 rfl (x_ci c413_7 (wp_wk (l' := [none, none, none, none, none, none]) trivial (x_cv (As := [jI 3]) (st := []) c413_8 cl_133 kl259 rfl (Nat.le_of_ble_eq_true rfl) mx259 (Nat.le_refl _) (H.2.2 h2)))))))))
theorem s413_11 {kc : List va_E} {d : Nat} {M : fx_M} {Q : Option fx_V → fx_M → Prop} (H : Q none M) : wp kc (d + 1) 413 11 [none, none, none, none, none, none] [] M Q :=
  (x_vr c413_11 r413 H)
theorem s413_16 {kc : List va_E} {d : Nat} {v1 : Int} {M : fx_M} {Q : Option fx_V → fx_M → Prop} (H : wc kc d 248 [jR 133] M (fun v M1 => wp kc (d + 1) 413 21 [some (jR 133), some (jI v1), none, none, none, none] (v.toList ++ [jI 1]) M1 Q)) : wp kc (d + 1) 413 16 [some (jR 133), some (jI v1), none, none, none, none] [] M Q :=
  (x_ci c413_16 (x_aldn c413_17 rfl (wp_wk (l' := [some (jR 133), some (jI v1), none, none, none, none]) ⟨rfl, ⟨rfl, trivial⟩⟩ (x_cv (As := []) (st := [jI 1]) c413_18 cl_133 kl248 rfl (Nat.le_of_ble_eq_true rfl) mx248 (Nat.le_refl _) H))))
theorem s413_21 {kc : List va_E} {d : Nat} {v1 u0 u1 : Int} {M : fx_M} {Q : Option fx_V → fx_M → Prop} (H : wc kc d 415 [jR 133, jI 0, jI 1] M (fun v M1 => wp kc (d + 1) 413 33 [some (jR 133), some (jI v1), some (jI ((fx_shl u1 u0) - 1)), some (jI 0), none, none] (v.toList ++ []) M1 Q)) : wp kc (d + 1) 413 21 [some (jR 133), some (jI v1), none, none, none, none] [jI u0, jI u1] M Q :=
  (x_ishl c413_21 (x_ci c413_22 (x_isub c413_23 (x_istn (l' := [some (jR 133), some (jI v1), some (jI ((fx_shl u1 u0) - 1)), none, none, none]) c413_24 rfl (x_ci c413_25 (x_istn (l' := [some (jR 133), some (jI v1), some (jI ((fx_shl u1 u0) - 1)), some (jI 0), none, none]) c413_26 rfl (x_aldn c413_27 rfl (x_ci c413_28 (x_ci c413_29 (wp_wk (l' := [some (jR 133), some (jI v1), some (jI ((fx_shl u1 u0) - 1)), some (jI 0), none, none]) ⟨rfl, ⟨rfl, ⟨rfl, ⟨rfl, trivial⟩⟩⟩⟩ (x_cv (As := [jI 0, jI 1]) (st := []) c413_30 cl_133 kl415 rfl (Nat.le_of_ble_eq_true rfl) mx415 (Nat.le_refl _) H)))))))))))
theorem s413_33 {kc : List va_E} {d : Nat} {v1 v2 v3 u0 : Int} {M : fx_M} {Q : Option fx_V → fx_M → Prop} (H : wp kc (d + 1) 413 35 [some (jR 133), some (jI v1), some (jI v2), some (jI v3), some (jI u0), none] [] M Q) : wp kc (d + 1) 413 33 [some (jR 133), some (jI v1), some (jI v2), some (jI v3), none, none] [jI u0] M Q :=
  (x_ist (l' := [some (jR 133), some (jI v1), some (jI v2), some (jI v3), some (jI u0), none]) c413_33 rfl (wp_wk (l' := [some (jR 133), some (jI v1), some (jI v2), some (jI v3), some (jI u0), none]) ⟨rfl, ⟨rfl, ⟨rfl, ⟨rfl, ⟨rfl, trivial⟩⟩⟩⟩⟩ H))
theorem s413_35 {kc : List va_E} {d : Nat} {v1 v2 v3 v4 : Int} {M : fx_M} {Q : Option fx_V → fx_M → Prop} (H : ((fx_in32 v4)) ∧ (v4 = 0 → ((fx_in32 v3)) ∧ ((fx_in32 v1)) ∧ wc kc d 253 [jR 133, jL (if v1 < v3 then (1836020325 : Int) else 6384748)] M (fun v M1 => wp kc (d + 1) 413 118 [none, none, none, none, none, none] (v.toList ++ []) M1 Q)) ∧ (v4 ≠ 0 → ((fx_in32 v3) ∧ (fx_in32 v1)) ∧ (v1 < v3 → ((fx_in32 v3)) ∧ ((fx_in32 v1)) ∧ wc kc d 253 [jR 133, jL (if v1 < v3 then (1836020325 : Int) else 6384748)] M (fun v M1 => wp kc (d + 1) 413 118 [none, none, none, none, none, none] (v.toList ++ []) M1 Q)) ∧ (v3 ≤ v1 → wc kc d 416 [jR 133, jI v4] M (fun v M1 => wp kc (d + 1) 413 51 [some (jR 133), some (jI v1), some (jI v2), some (jI v3), some (jI v4), none] (v.toList ++ []) M1 Q)))) : wp kc (d + 1) 413 35 [some (jR 133), some (jI v1), some (jI v2), some (jI v3), some (jI v4), none] [] M Q :=
  (x_ild c413_35 rfl (x_zeq c413_37 H.1 (fun h3 => (x_aldn c413_100 rfl (x_ildn c413_101 rfl (x_ildn c413_102 rfl (have K : wp kc (d + 1) 413 115 [none, none, none, none, none, none] [jL (if v1 < v3 then (1836020325 : Int) else 6384748), jR 133] M Q := (wp_wk (l' := [none, none, none, none, none, none]) trivial (x_cv (As := [jL (if v1 < v3 then (1836020325 : Int) else 6384748)]) (st := []) c413_115 cl_133 kl253 rfl (Nat.le_of_ble_eq_true rfl) mx253 (Nat.le_refl _) (H.2.1 h3).2.2)); (x_cle c413_103 (H.2.1 h3).1 (H.2.1 h3).2.1 (fun (h5 : v3 ≤ v1) => (x_cj c413_112 (wp_wk (l' := [none, none, none, none, none, none]) trivial (by have K := K; first | (simp only [if_neg (Int.not_lt.mpr h5)] at K ⊢; exact K) | (exfalso; omega))))) (fun (h6 : v1 < v3) => (x_cj c413_106 (x_goto c413_109 (wp_wk (l' := [none, none, none, none, none, none]) trivial (by have K := K; first | (simp only [if_pos h6] at K ⊢; exact K) | (exfalso; omega)))))))))))) (fun h4 => (x_ildn c413_40 rfl (x_ildn c413_41 rfl (x_cgt c413_42 (H.2.2 h4).1.1 (H.2.2 h4).1.2 (fun h1 => (x_aldn c413_100 rfl (x_ildn c413_101 rfl (x_ildn c413_102 rfl (have K : wp kc (d + 1) 413 115 [none, none, none, none, none, none] [jL (if v1 < v3 then (1836020325 : Int) else 6384748), jR 133] M Q := (wp_wk (l' := [none, none, none, none, none, none]) trivial (x_cv (As := [jL (if v1 < v3 then (1836020325 : Int) else 6384748)]) (st := []) c413_115 cl_133 kl253 rfl (Nat.le_of_ble_eq_true rfl) mx253 (Nat.le_refl _) ((H.2.2 h4).2.1 h1).2.2)); (x_cle c413_103 ((H.2.2 h4).2.1 h1).1 ((H.2.2 h4).2.1 h1).2.1 (fun (h7 : v3 ≤ v1) => (x_cj c413_112 (wp_wk (l' := [none, none, none, none, none, none]) trivial (by have K := K; first | (simp only [if_neg (Int.not_lt.mpr h7)] at K ⊢; exact K) | (exfalso; omega))))) (fun (h8 : v1 < v3) => (x_cj c413_106 (x_goto c413_109 (wp_wk (l' := [none, none, none, none, none, none]) trivial (by have K := K; first | (simp only [if_pos h8] at K ⊢; exact K) | (exfalso; omega)))))))))))) (fun h2 => (x_aldn c413_45 rfl (x_ild c413_46 rfl (wp_wk (l' := [some (jR 133), some (jI v1), some (jI v2), some (jI v3), some (jI v4), none]) ⟨rfl, ⟨rfl, ⟨rfl, ⟨rfl, ⟨rfl, trivial⟩⟩⟩⟩⟩ (x_cv (As := [jI v4]) (st := []) c413_48 cl_133 kl416 rfl (Nat.le_of_ble_eq_true rfl) mx416 (Nat.le_refl _) ((H.2.2 h4).2.2 h2))))))))))))
theorem s413_51 {kc : List va_E} {d : Nat} {v1 v2 v3 v4 u0 : Int} {M : fx_M} {Q : Option fx_V → fx_M → Prop} (H : ((fx_in32 u0) ∧ (fx_in32 v2)) ∧ (u0 ≠ v2 → ((fx_in32 u0)) ∧ (0 ≤ u0 → (fx_in32 u0)) ∧ (0 ≤ u0 → (fx_in32 v2)) ∧ wc kc d 415 [jR 133, jI v4, jI (if u0 < 0 then (0 : Int) else (if u0 = v2 then (0 : Int) else 1))] M (fun v M1 => wp kc (d + 1) 413 95 [some (jR 133), some (jI v1), some (jI v2), some (jI v3), none, none] (v.toList ++ []) M1 Q)) ∧ (u0 = v2 → ((fx_in32 (v3 + 1)) ∧ (fx_in32 v1)) ∧ (v1 < v3 + 1 → ((fx_in32 u0)) ∧ (0 ≤ u0 → (fx_in32 u0)) ∧ (0 ≤ u0 → (fx_in32 v2)) ∧ wc kc d 415 [jR 133, jI v4, jI (if u0 < 0 then (0 : Int) else (if u0 = v2 then (0 : Int) else 1))] M (fun v M1 => wp kc (d + 1) 413 95 [some (jR 133), some (jI v1), some (jI v2), some (jI (v3 + 1)), none, none] (v.toList ++ []) M1 Q)) ∧ (v3 + 1 ≤ v1 → wc kc d 417 [jR 133, jI v4] M (fun v M1 => wp kc (d + 1) 413 73 [some (jR 133), some (jI v1), some (jI v2), some (jI (v3 + 1)), some (jI v4), some (jI u0)] (v.toList ++ []) M1 Q)))) : wp kc (d + 1) 413 51 [some (jR 133), some (jI v1), some (jI v2), some (jI v3), some (jI v4), none] [jI u0] M Q :=
  (x_ist (l' := [some (jR 133), some (jI v1), some (jI v2), some (jI v3), some (jI v4), some (jI u0)]) c413_51 rfl (x_ild c413_53 rfl (x_ildn c413_55 rfl (x_cne c413_56 H.1.1 H.1.2 (fun h3 => (x_aldn c413_73 rfl (x_ild c413_74 rfl (x_ild c413_76 rfl (have K : wp kc (d + 1) 413 92 [some (jR 133), some (jI v1), some (jI v2), some (jI v3), none, none] [jI (if u0 < 0 then (0 : Int) else (if u0 = v2 then (0 : Int) else 1)), jI v4, jR 133] M Q := (wp_wk (l' := [some (jR 133), some (jI v1), some (jI v2), some (jI v3), none, none]) ⟨rfl, ⟨rfl, ⟨rfl, ⟨rfl, trivial⟩⟩⟩⟩ (x_cv (As := [jI v4, jI (if u0 < 0 then (0 : Int) else (if u0 = v2 then (0 : Int) else 1))]) (st := []) c413_92 cl_133 kl415 rfl (Nat.le_of_ble_eq_true rfl) mx415 (Nat.le_refl _) (H.2.1 h3).2.2.2)); (x_zlt c413_78 (H.2.1 h3).1 (fun (h5 : u0 < 0) => (x_ci c413_91 (wp_wk (l' := [some (jR 133), some (jI v1), some (jI v2), some (jI v3), none, none]) ⟨rfl, ⟨rfl, ⟨rfl, ⟨rfl, trivial⟩⟩⟩⟩ (by have K := K; first | (simp only [if_pos h5] at K ⊢; exact K) | (exfalso; omega))))) (fun (h6 : 0 ≤ u0) => (x_ild c413_81 rfl (x_ildn c413_83 rfl (x_ceq c413_84 ((H.2.1 h3).2.1 h6) ((H.2.1 h3).2.2.1 h6) (fun (h7 : u0 = v2) => (x_ci c413_91 (wp_wk (l' := [some (jR 133), some (jI v1), some (jI v2), some (jI v3), none, none]) ⟨rfl, ⟨rfl, ⟨rfl, ⟨rfl, trivial⟩⟩⟩⟩ (by have K := K; first | (simp only [if_neg (Int.not_lt.mpr h6), if_pos h7] at K ⊢; exact K) | (exfalso; omega))))) (fun (h8 : u0 ≠ v2) => (x_ci c413_87 (x_goto c413_88 (wp_wk (l' := [some (jR 133), some (jI v1), some (jI v2), some (jI v3), none, none]) ⟨rfl, ⟨rfl, ⟨rfl, ⟨rfl, trivial⟩⟩⟩⟩ (by have K := K; first | (simp only [if_neg (Int.not_lt.mpr h6), if_neg h8] at K ⊢; exact K) | (exfalso; omega)))))))))))))))) (fun h4 => (x_inc (l' := [some (jR 133), some (jI v1), some (jI v2), some (jI (v3 + 1)), some (jI v4), some (jI u0)]) c413_59 rfl rfl (x_ildn c413_62 rfl (x_ildn c413_63 rfl (x_cgt c413_64 (H.2.2 h4).1.1 (H.2.2 h4).1.2 (fun h1 => (x_aldn c413_73 rfl (x_ild c413_74 rfl (x_ild c413_76 rfl (have K : wp kc (d + 1) 413 92 [some (jR 133), some (jI v1), some (jI v2), some (jI (v3 + 1)), none, none] [jI (if u0 < 0 then (0 : Int) else (if u0 = v2 then (0 : Int) else 1)), jI v4, jR 133] M Q := (wp_wk (l' := [some (jR 133), some (jI v1), some (jI v2), some (jI (v3 + 1)), none, none]) ⟨rfl, ⟨rfl, ⟨rfl, ⟨rfl, trivial⟩⟩⟩⟩ (x_cv (As := [jI v4, jI (if u0 < 0 then (0 : Int) else (if u0 = v2 then (0 : Int) else 1))]) (st := []) c413_92 cl_133 kl415 rfl (Nat.le_of_ble_eq_true rfl) mx415 (Nat.le_refl _) ((H.2.2 h4).2.1 h1).2.2.2)); (x_zlt c413_78 ((H.2.2 h4).2.1 h1).1 (fun (h9 : u0 < 0) => (x_ci c413_91 (wp_wk (l' := [some (jR 133), some (jI v1), some (jI v2), some (jI (v3 + 1)), none, none]) ⟨rfl, ⟨rfl, ⟨rfl, ⟨rfl, trivial⟩⟩⟩⟩ (by have K := K; first | (simp only [if_pos h9] at K ⊢; exact K) | (exfalso; omega))))) (fun (h10 : 0 ≤ u0) => (x_ild c413_81 rfl (x_ildn c413_83 rfl (x_ceq c413_84 (((H.2.2 h4).2.1 h1).2.1 h10) (((H.2.2 h4).2.1 h1).2.2.1 h10) (fun (h11 : u0 = v2) => (x_ci c413_91 (wp_wk (l' := [some (jR 133), some (jI v1), some (jI v2), some (jI (v3 + 1)), none, none]) ⟨rfl, ⟨rfl, ⟨rfl, ⟨rfl, trivial⟩⟩⟩⟩ (by have K := K; first | (simp only [if_neg (Int.not_lt.mpr h10), if_pos h11] at K ⊢; exact K) | (exfalso; omega))))) (fun (h12 : u0 ≠ v2) => (x_ci c413_87 (x_goto c413_88 (wp_wk (l' := [some (jR 133), some (jI v1), some (jI v2), some (jI (v3 + 1)), none, none]) ⟨rfl, ⟨rfl, ⟨rfl, ⟨rfl, trivial⟩⟩⟩⟩ (by have K := K; first | (simp only [if_neg (Int.not_lt.mpr h10), if_neg h12] at K ⊢; exact K) | (exfalso; omega)))))))))))))))) (fun h2 => (x_aldn c413_67 rfl (x_ild c413_68 rfl (wp_wk (l' := [some (jR 133), some (jI v1), some (jI v2), some (jI (v3 + 1)), some (jI v4), some (jI u0)]) ⟨rfl, ⟨rfl, ⟨rfl, ⟨rfl, ⟨rfl, ⟨rfl, trivial⟩⟩⟩⟩⟩⟩ (x_cv (As := [jI v4]) (st := []) c413_70 cl_133 kl417 rfl (Nat.le_of_ble_eq_true rfl) mx417 (Nat.le_refl _) ((H.2.2 h4).2.2 h2)))))))))))))))
theorem s413_73 {kc : List va_E} {d : Nat} {v1 v2 v3 v4 v5 : Int} {M : fx_M} {Q : Option fx_V → fx_M → Prop} (H : ((fx_in32 v5)) ∧ (0 ≤ v5 → (fx_in32 v5)) ∧ (0 ≤ v5 → (fx_in32 v2)) ∧ wc kc d 415 [jR 133, jI v4, jI (if v5 < 0 then (0 : Int) else (if v5 = v2 then (0 : Int) else 1))] M (fun v M1 => wp kc (d + 1) 413 95 [some (jR 133), some (jI v1), some (jI v2), some (jI v3), none, none] (v.toList ++ []) M1 Q)) : wp kc (d + 1) 413 73 [some (jR 133), some (jI v1), some (jI v2), some (jI v3), some (jI v4), some (jI v5)] [] M Q :=
  (x_aldn c413_73 rfl (x_ild c413_74 rfl (x_ild c413_76 rfl (have K : wp kc (d + 1) 413 92 [some (jR 133), some (jI v1), some (jI v2), some (jI v3), none, none] [jI (if v5 < 0 then (0 : Int) else (if v5 = v2 then (0 : Int) else 1)), jI v4, jR 133] M Q := (wp_wk (l' := [some (jR 133), some (jI v1), some (jI v2), some (jI v3), none, none]) ⟨rfl, ⟨rfl, ⟨rfl, ⟨rfl, trivial⟩⟩⟩⟩ (x_cv (As := [jI v4, jI (if v5 < 0 then (0 : Int) else (if v5 = v2 then (0 : Int) else 1))]) (st := []) c413_92 cl_133 kl415 rfl (Nat.le_of_ble_eq_true rfl) mx415 (Nat.le_refl _) H.2.2.2)); (x_zlt c413_78 H.1 (fun (h1 : v5 < 0) => (x_ci c413_91 (wp_wk (l' := [some (jR 133), some (jI v1), some (jI v2), some (jI v3), none, none]) ⟨rfl, ⟨rfl, ⟨rfl, ⟨rfl, trivial⟩⟩⟩⟩ (by have K := K; first | (simp only [if_pos h1] at K ⊢; exact K) | (exfalso; omega))))) (fun (h2 : 0 ≤ v5) => (x_ild c413_81 rfl (x_ildn c413_83 rfl (x_ceq c413_84 (H.2.1 h2) (H.2.2.1 h2) (fun (h3 : v5 = v2) => (x_ci c413_91 (wp_wk (l' := [some (jR 133), some (jI v1), some (jI v2), some (jI v3), none, none]) ⟨rfl, ⟨rfl, ⟨rfl, ⟨rfl, trivial⟩⟩⟩⟩ (by have K := K; first | (simp only [if_neg (Int.not_lt.mpr h2), if_pos h3] at K ⊢; exact K) | (exfalso; omega))))) (fun (h4 : v5 ≠ v2) => (x_ci c413_87 (x_goto c413_88 (wp_wk (l' := [some (jR 133), some (jI v1), some (jI v2), some (jI v3), none, none]) ⟨rfl, ⟨rfl, ⟨rfl, ⟨rfl, trivial⟩⟩⟩⟩ (by have K := K; first | (simp only [if_neg (Int.not_lt.mpr h2), if_neg h4] at K ⊢; exact K) | (exfalso; omega)))))))))))))))
theorem s413_95 {kc : List va_E} {d : Nat} {v1 v2 v3 u0 : Int} {M : fx_M} {Q : Option fx_V → fx_M → Prop} (H : wp kc (d + 1) 413 35 [some (jR 133), some (jI v1), some (jI v2), some (jI v3), some (jI u0), none] [] M Q) : wp kc (d + 1) 413 95 [some (jR 133), some (jI v1), some (jI v2), some (jI v3), none, none] [jI u0] M Q :=
  (x_ist (l' := [some (jR 133), some (jI v1), some (jI v2), some (jI v3), some (jI u0), none]) c413_95 rfl (x_goto c413_97 (wp_wk (l' := [some (jR 133), some (jI v1), some (jI v2), some (jI v3), some (jI u0), none]) ⟨rfl, ⟨rfl, ⟨rfl, ⟨rfl, ⟨rfl, trivial⟩⟩⟩⟩⟩ H)))
theorem s413_118 {kc : List va_E} {d : Nat} {M : fx_M} {Q : Option fx_V → fx_M → Prop} (H : Q none M) : wp kc (d + 1) 413 118 [none, none, none, none, none, none] [] M Q :=
  (x_vr c413_118 r413 H)
theorem s413 {kc : List va_E} {d : Nat} {x1 : Int} {M : fx_M} {Q : Option fx_V → fx_M → Prop} (H : ((fx_in32 x1)) ∧ (x1 ≤ 100 → wc kc d 414 [jR 133] M (fun v M1 => wp kc (d + 1) 413 16 [some (jR 133), some (jI x1), none, none, none, none] (v.toList ++ []) M1 Q)) ∧ (100 < x1 → wc kc d 259 [jR 133, jI 3] M (fun v M1 => wp kc (d + 1) 413 11 [none, none, none, none, none, none] (v.toList ++ []) M1 Q))) : wc kc (d + 1) 413 [jR 133, jI x1] M Q :=
  wc_of (wp_wk (l' := [some (jR 133), some (jI x1), none, none, none, none]) ⟨rfl, ⟨rfl, trivial⟩⟩ (s413_0 H))

/- PuzzleHouseModel.findMasks()V -/
theorem c414_0 : fx_ci 414 0 = some (0, 1) := by decide +kernel
theorem c414_1 : fx_op 414 1 = some (.istore_n 1, 2, 1) := by decide +kernel
theorem c414_2 : fx_op 414 2 = some (.iload_n 1, 3, 2) := by decide +kernel
theorem c414_3 : fx_op 414 3 = some (.aload_n 0, 4, 3) := by decide +kernel
theorem c414_4 : fx_gf 414 4 = some (12, 40, 7) := by decide +kernel
theorem c414_7 : fx_ci 414 7 = some (0, 8) := by decide +kernel
theorem c414_8 : fx_op 414 8 = some (.iaload, 9, 8) := by decide +kernel
theorem c414_9 : fx_op 414 9 = some (.if_icmp .ge 59, 12, 68) := by decide +kernel
theorem c414_12 : fx_op 414 12 = some (.aload_n 0, 13, 12) := by decide +kernel
theorem c414_13 : fx_gf 414 13 = some (12, 78, 16) := by decide +kernel
theorem c414_16 : fx_op 414 16 = some (.iload_n 1, 17, 16) := by decide +kernel
theorem c414_17 : fx_ci 414 17 = some (0, 18) := by decide +kernel
theorem c414_19 : fx_ci 414 19 = some (0, 20) := by decide +kernel
theorem c414_20 : fx_op 414 20 = some (.istore_n 2, 21, 20) := by decide +kernel
theorem c414_68 : fx_op 414 68 = some (.return_, 69, 68) := by decide +kernel
theorem c414_18 : fx_op 414 18 = some (.iastore, 19, 18) := by decide +kernel
theorem c414_21 : fx_op 414 21 = some (.iload_n 2, 22, 21) := by decide +kernel
theorem c414_22 : fx_op 414 22 = some (.aload_n 0, 23, 22) := by decide +kernel
theorem c414_23 : fx_gf 414 23 = some (12, 43, 26) := by decide +kernel
theorem c414_26 : fx_op 414 26 = some (.iload_n 1, 27, 26) := by decide +kernel
theorem c414_28 : fx_op 414 28 = some (.if_icmp .ge 34, 31, 62) := by decide +kernel
theorem c414_31 : fx_op 414 31 = some (.aload_n 0, 32, 31) := by decide +kernel
theorem c414_32 : fx_gf 414 32 = some (12, 78, 35) := by decide +kernel
theorem c414_35 : fx_op 414 35 = some (.iload_n 1, 36, 35) := by decide +kernel
theorem c414_36 : fx_op 414 36 = some (.aload_n 0, 37, 36) := by decide +kernel
theorem c414_37 : fx_gf 414 37 = some (12, 78, 40) := by decide +kernel
theorem c414_40 : fx_op 414 40 = some (.iload_n 1, 41, 40) := by decide +kernel
theorem c414_41 : fx_op 414 41 = some (.iaload, 42, 41) := by decide +kernel
theorem c414_42 : fx_ci 414 42 = some (1, 43) := by decide +kernel
theorem c414_43 : fx_op 414 43 = some (.aload_n 0, 44, 43) := by decide +kernel
theorem c414_44 : fx_gf 414 44 = some (12, 44, 47) := by decide +kernel
theorem c414_47 : fx_ci 414 47 = some (4, 48) := by decide +kernel
theorem c414_48 : fx_op 414 48 = some (.iload_n 1, 49, 48) := by decide +kernel
theorem c414_49 : fx_op 414 49 = some (.imul, 50, 49) := by decide +kernel
theorem c414_50 : fx_op 414 50 = some (.iload_n 2, 51, 50) := by decide +kernel
theorem c414_51 : fx_op 414 51 = some (.iadd, 52, 51) := by decide +kernel
theorem c414_52 : fx_op 414 52 = some (.iaload, 53, 52) := by decide +kernel
theorem c414_53 : fx_op 414 53 = some (.ishl, 54, 53) := by decide +kernel
theorem c414_54 : fx_op 414 54 = some (.ior, 55, 54) := by decide +kernel
theorem c414_62 : fx_op 414 62 = some (.iinc 1 1, 65, 62) := by decide +kernel
theorem c414_56 : fx_op 414 56 = some (.iinc 2 1, 59, 56) := by decide +kernel
theorem c414_27 : fx_op 414 27 = some (.iaload, 28, 27) := by decide +kernel
theorem c414_65 : fx_op 414 65 = some (.goto (-63), 68, 2) := by decide +kernel
theorem c414_55 : fx_op 414 55 = some (.iastore, 56, 55) := by decide +kernel
theorem c414_59 : fx_op 414 59 = some (.goto (-38), 62, 21) := by decide +kernel
theorem s414_0 {kc : List va_E} {d : Nat} {M : fx_M} {Q : Option fx_V → fx_M → Prop} (H : wp kc (d + 1) 414 2 [some (jR 133), some (jI 0), none] [] M Q) : wp kc (d + 1) 414 0 [some (jR 133), none, none] [] M Q :=
  (x_ci c414_0 (x_istn (l' := [some (jR 133), some (jI 0), none]) c414_1 rfl (wp_wk (l' := [some (jR 133), some (jI 0), none]) ⟨rfl, ⟨rfl, trivial⟩⟩ H)))
theorem s414_2 {kc : List va_E} {d : Nat} {v1 : Int} {M : fx_M} {Q : Option fx_V → fx_M → Prop} (H : ((fx_in32 v1) ∧ (fx_in32 (M 149 0))) ∧ (M 149 0 ≤ v1 → Q none M) ∧ (v1 < M 149 0 → (((0 : Int) ≤ v1 ∧ v1 < 12)) ∧ wp kc (d + 1) 414 21 [some (jR 133), some (jI v1), some (jI 0)] [] (fx_up M 172 v1 0) Q)) : wp kc (d + 1) 414 2 [some (jR 133), some (jI v1), none] [] M Q :=
  (x_ildn c414_2 rfl (x_aldn c414_3 rfl (x_gfr c414_4 k_133_40 (x_ci c414_7 (x_iald c414_8 a_149 (by decide) (by decide) (x_cge c414_9 H.1.1 H.1.2 (fun h1 => (x_vr c414_68 r414 (H.2.1 h1))) (fun h2 => (x_aldn c414_12 rfl (x_gfr c414_13 k_133_78 (x_ildn c414_16 rfl (x_ci c414_17 (x_iast c414_18 a_172 (H.2.2 h2).1 (by decide) (x_ci c414_19 (x_istn (l' := [some (jR 133), some (jI v1), some (jI 0)]) c414_20 rfl (wp_wk (l' := [some (jR 133), some (jI v1), some (jI 0)]) ⟨rfl, ⟨rfl, ⟨rfl, trivial⟩⟩⟩ (H.2.2 h2).2)))))))))))))))
theorem s414_21 {kc : List va_E} {d : Nat} {v1 v2 : Int} {M : fx_M} {Q : Option fx_V → fx_M → Prop} (H : (((0 : Int) ≤ v1 ∧ v1 < 120)) ∧ ((fx_in32 v2) ∧ (fx_in32 (M 152 v1))) ∧ (M 152 v1 ≤ v2 → wp kc (d + 1) 414 2 [some (jR 133), some (jI (v1 + 1)), none] [] M Q) ∧ (v2 < M 152 v1 → (((0 : Int) ≤ v1 ∧ v1 < 12)) ∧ (((0 : Int) ≤ (4 * v1) + v2 ∧ (4 * v1) + v2 < 480)) ∧ (((0 : Int) ≤ v1 ∧ v1 < 12)) ∧ wp kc (d + 1) 414 21 [some (jR 133), some (jI v1), some (jI (v2 + 1))] [] (fx_up M 172 v1 (fx_or (M 172 v1) (fx_shl 1 (M 153 ((4 * v1) + v2))))) Q)) : wp kc (d + 1) 414 21 [some (jR 133), some (jI v1), some (jI v2)] [] M Q :=
  (x_ildn c414_21 rfl (x_aldn c414_22 rfl (x_gfr c414_23 k_133_43 (x_ildn c414_26 rfl (x_iald c414_27 a_152 H.1 (by decide) (x_cge c414_28 H.2.1.1 H.2.1.2 (fun h1 => (x_inc (l' := [some (jR 133), some (jI (v1 + 1)), some (jI v2)]) c414_62 rfl rfl (x_goto c414_65 (wp_wk (l' := [some (jR 133), some (jI (v1 + 1)), none]) ⟨rfl, ⟨rfl, trivial⟩⟩ (H.2.2.1 h1))))) (fun h2 => (x_aldn c414_31 rfl (x_gfr c414_32 k_133_78 (x_ildn c414_35 rfl (x_aldn c414_36 rfl (x_gfr c414_37 k_133_78 (x_ildn c414_40 rfl (x_iald c414_41 a_172 (H.2.2.2 h2).1 (by decide) (x_ci c414_42 (x_aldn c414_43 rfl (x_gfr c414_44 k_133_44 (x_ci c414_47 (x_ildn c414_48 rfl (x_imul c414_49 (x_ildn c414_50 rfl (x_iadd c414_51 (x_iald c414_52 a_153 (H.2.2.2 h2).2.1 (by decide) (x_ishl c414_53 (x_ior c414_54 (x_iast c414_55 a_172 (H.2.2.2 h2).2.2.1 (by decide) (x_inc (l' := [some (jR 133), some (jI v1), some (jI (v2 + 1))]) c414_56 rfl rfl (x_goto c414_59 (wp_wk (l' := [some (jR 133), some (jI v1), some (jI (v2 + 1))]) ⟨rfl, ⟨rfl, ⟨rfl, trivial⟩⟩⟩ (H.2.2.2 h2).2.2.2)))))))))))))))))))))))))))))
theorem s414 {kc : List va_E} {d : Nat} {M : fx_M} {Q : Option fx_V → fx_M → Prop} (H : wp kc (d + 1) 414 2 [some (jR 133), some (jI 0), none] [] M Q) : wc kc (d + 1) 414 [jR 133] M Q :=
  wc_of (wp_wk (l' := [some (jR 133), none, none]) ⟨rfl, trivial⟩ (s414_0 H))

/- PuzzleHouseModel.nextSet(IZ)I -/
theorem c415_0 : fx_op 415 0 = some (.aload_n 0, 1, 0) := by decide +kernel
theorem c415_1 : fx_gf 415 1 = some (12, 40, 4) := by decide +kernel
theorem c415_4 : fx_ci 415 4 = some (0, 5) := by decide +kernel
theorem c415_5 : fx_op 415 5 = some (.iaload, 6, 5) := by decide +kernel
theorem c415_6 : fx_op 415 6 = some (.istore_n 3, 7, 6) := by decide +kernel
theorem c415_7 : fx_ci 415 7 = some ((-1), 8) := by decide +kernel
theorem c415_8 : fx_op 415 8 = some (.istore 4, 10, 8) := by decide +kernel
theorem c415_10 : fx_ci 415 10 = some (0, 11) := by decide +kernel
theorem c415_11 : fx_op 415 11 = some (.istore 5, 13, 11) := by decide +kernel
theorem c415_13 : fx_op 415 13 = some (.iload 5, 15, 13) := by decide +kernel
theorem c415_15 : fx_op 415 15 = some (.iload_n 3, 16, 15) := by decide +kernel
theorem c415_16 : fx_op 415 16 = some (.if_icmp .ge 28, 19, 44) := by decide +kernel
theorem c415_19 : fx_op 415 19 = some (.iload_n 1, 20, 19) := by decide +kernel
theorem c415_20 : fx_op 415 20 = some (.iload 5, 22, 20) := by decide +kernel
theorem c415_22 : fx_op 415 22 = some (.ishr, 23, 22) := by decide +kernel
theorem c415_23 : fx_ci 415 23 = some (1, 24) := by decide +kernel
theorem c415_24 : fx_op 415 24 = some (.iand, 25, 24) := by decide +kernel
theorem c415_25 : fx_ci 415 25 = some (1, 26) := by decide +kernel
theorem c415_26 : fx_op 415 26 = some (.if_icmp .ne 8, 29, 34) := by decide +kernel
theorem c415_34 : fx_op 415 34 = some (.iload 4, 36, 34) := by decide +kernel
theorem c415_36 : fx_op 415 36 = some (.istore 4, 38, 36) := by decide +kernel
theorem c415_38 : fx_op 415 38 = some (.iinc 5 1, 41, 38) := by decide +kernel
theorem c415_44 : fx_op 415 44 = some (.iload_n 2, 45, 44) := by decide +kernel
theorem c415_45 : fx_op 415 45 = some (.ifCond .eq 20, 48, 65) := by decide +kernel
theorem c415_65 : fx_op 415 65 = some (.iload_n 1, 66, 65) := by decide +kernel
theorem c415_66 : fx_op 415 66 = some (.istore 5, 68, 66) := by decide +kernel
theorem c415_48 : fx_op 415 48 = some (.iload 4, 50, 48) := by decide +kernel
theorem c415_50 : fx_ci 415 50 = some (1, 51) := by decide +kernel
theorem c415_51 : fx_op 415 51 = some (.iadd, 52, 51) := by decide +kernel
theorem c415_52 : fx_op 415 52 = some (.iload_n 3, 53, 52) := by decide +kernel
theorem c415_53 : fx_op 415 53 = some (.if_icmp .ge 12, 56, 65) := by decide +kernel
theorem c415_56 : fx_op 415 56 = some (.iload_n 1, 57, 56) := by decide +kernel
theorem c415_57 : fx_ci 415 57 = some (1, 58) := by decide +kernel
theorem c415_58 : fx_op 415 58 = some (.iload 4, 60, 58) := by decide +kernel
theorem c415_60 : fx_ci 415 60 = some (1, 61) := by decide +kernel
theorem c415_61 : fx_op 415 61 = some (.iadd, 62, 61) := by decide +kernel
theorem c415_62 : fx_op 415 62 = some (.ishl, 63, 62) := by decide +kernel
theorem c415_63 : fx_op 415 63 = some (.ior, 64, 63) := by decide +kernel
theorem c415_29 : fx_op 415 29 = some (.iload 5, 31, 29) := by decide +kernel
theorem c415_31 : fx_op 415 31 = some (.goto 5, 34, 36) := by decide +kernel
theorem c415_64 : fx_op 415 64 = some (.ireturn, 65, 64) := by decide +kernel
theorem c415_41 : fx_op 415 41 = some (.goto (-28), 44, 13) := by decide +kernel
theorem c415_68 : fx_op 415 68 = some (.iload 5, 70, 68) := by decide +kernel
theorem c415_70 : fx_op 415 70 = some (.ifCond .eq 73, 73, 143) := by decide +kernel
theorem c415_143 : fx_ci 415 143 = some (0, 144) := by decide +kernel
theorem c415_73 : fx_op 415 73 = some (.iload 5, 75, 73) := by decide +kernel
theorem c415_75 : fx_ci 415 75 = some (1, 76) := by decide +kernel
theorem c415_76 : fx_op 415 76 = some (.iload 4, 78, 76) := by decide +kernel
theorem c415_78 : fx_op 415 78 = some (.ishl, 79, 78) := by decide +kernel
theorem c415_79 : fx_ci 415 79 = some ((-1), 80) := by decide +kernel
theorem c415_80 : fx_op 415 80 = some (.ixor, 81, 80) := by decide +kernel
theorem c415_81 : fx_op 415 81 = some (.iand, 82, 81) := by decide +kernel
theorem c415_82 : fx_op 415 82 = some (.istore 5, 84, 82) := by decide +kernel
theorem c415_84 : fx_op 415 84 = some (.iload 4, 86, 84) := by decide +kernel
theorem c415_86 : fx_ci 415 86 = some (1, 87) := by decide +kernel
theorem c415_87 : fx_op 415 87 = some (.iadd, 88, 87) := by decide +kernel
theorem c415_88 : fx_op 415 88 = some (.iload_n 3, 89, 88) := by decide +kernel
theorem c415_89 : fx_op 415 89 = some (.if_icmp .ge 13, 92, 102) := by decide +kernel
theorem c415_102 : fx_ci 415 102 = some ((-1), 103) := by decide +kernel
theorem c415_103 : fx_op 415 103 = some (.istore 4, 105, 103) := by decide +kernel
theorem c415_105 : fx_ci 415 105 = some (0, 106) := by decide +kernel
theorem c415_106 : fx_op 415 106 = some (.istore 6, 108, 106) := by decide +kernel
theorem c415_92 : fx_op 415 92 = some (.iload 5, 94, 92) := by decide +kernel
theorem c415_94 : fx_ci 415 94 = some (1, 95) := by decide +kernel
theorem c415_95 : fx_op 415 95 = some (.iload 4, 97, 95) := by decide +kernel
theorem c415_97 : fx_ci 415 97 = some (1, 98) := by decide +kernel
theorem c415_98 : fx_op 415 98 = some (.iadd, 99, 98) := by decide +kernel
theorem c415_99 : fx_op 415 99 = some (.ishl, 100, 99) := by decide +kernel
theorem c415_100 : fx_op 415 100 = some (.ior, 101, 100) := by decide +kernel
theorem c415_144 : fx_op 415 144 = some (.ireturn, 145, 144) := by decide +kernel
theorem c415_101 : fx_op 415 101 = some (.ireturn, 102, 101) := by decide +kernel
theorem c415_108 : fx_op 415 108 = some (.iload 6, 110, 108) := by decide +kernel
theorem c415_110 : fx_op 415 110 = some (.iload_n 3, 111, 110) := by decide +kernel
theorem c415_111 : fx_op 415 111 = some (.if_icmp .ge 29, 114, 140) := by decide +kernel
theorem c415_114 : fx_op 415 114 = some (.iload 5, 116, 114) := by decide +kernel
theorem c415_116 : fx_op 415 116 = some (.iload 6, 118, 116) := by decide +kernel
theorem c415_118 : fx_op 415 118 = some (.ishr, 119, 118) := by decide +kernel
theorem c415_119 : fx_ci 415 119 = some (1, 120) := by decide +kernel
theorem c415_120 : fx_op 415 120 = some (.iand, 121, 120) := by decide +kernel
theorem c415_121 : fx_ci 415 121 = some (1, 122) := by decide +kernel
theorem c415_122 : fx_op 415 122 = some (.if_icmp .ne 8, 125, 130) := by decide +kernel
theorem c415_130 : fx_op 415 130 = some (.iload 4, 132, 130) := by decide +kernel
theorem c415_132 : fx_op 415 132 = some (.istore 4, 134, 132) := by decide +kernel
theorem c415_134 : fx_op 415 134 = some (.iinc 6 1, 137, 134) := by decide +kernel
theorem c415_125 : fx_op 415 125 = some (.iload 6, 127, 125) := by decide +kernel
theorem c415_127 : fx_op 415 127 = some (.goto 5, 130, 132) := by decide +kernel
theorem c415_140 : fx_op 415 140 = some (.goto (-72), 143, 68) := by decide +kernel
theorem c415_137 : fx_op 415 137 = some (.goto (-29), 140, 108) := by decide +kernel
theorem s415_0 {kc : List va_E} {d : Nat} {x1 x2 : Int} {M : fx_M} {Q : Option fx_V → fx_M → Prop} (H : wp kc (d + 1) 415 13 [none, some (jI x1), some (jI x2), some (jI (M 149 0)), some (jI (-1)), some (jI 0), none] [] M Q) : wp kc (d + 1) 415 0 [some (jR 133), some (jI x1), some (jI x2), none, none, none, none] [] M Q :=
  (x_aldn c415_0 rfl (x_gfr c415_1 k_133_40 (x_ci c415_4 (x_iald c415_5 a_149 (by decide) (by decide) (x_istn (l' := [some (jR 133), some (jI x1), some (jI x2), some (jI (M 149 0)), none, none, none]) c415_6 rfl (x_ci c415_7 (x_ist (l' := [some (jR 133), some (jI x1), some (jI x2), some (jI (M 149 0)), some (jI (-1)), none, none]) c415_8 rfl (x_ci c415_10 (x_ist (l' := [some (jR 133), some (jI x1), some (jI x2), some (jI (M 149 0)), some (jI (-1)), some (jI 0), none]) c415_11 rfl (wp_wk (l' := [none, some (jI x1), some (jI x2), some (jI (M 149 0)), some (jI (-1)), some (jI 0), none]) ⟨rfl, ⟨rfl, ⟨rfl, ⟨rfl, ⟨rfl, trivial⟩⟩⟩⟩⟩ H))))))))))
theorem s415_13 {kc : List va_E} {d : Nat} {v1 v2 v3 v4 v5 : Int} {M : fx_M} {Q : Option fx_V → fx_M → Prop} (H : ((fx_in32 v5) ∧ (fx_in32 v3)) ∧ (v3 ≤ v5 → ((fx_in32 v2)) ∧ (v2 = 0 → wp kc (d + 1) 415 68 [none, none, none, some (jI v3), some (jI v4), some (jI v1), none] [] M Q) ∧ (v2 ≠ 0 → ((fx_in32 (v4 + 1)) ∧ (fx_in32 v3)) ∧ (v3 ≤ v4 + 1 → wp kc (d + 1) 415 68 [none, none, none, some (jI v3), some (jI v4), some (jI v1), none] [] M Q) ∧ (v4 + 1 < v3 → Q (some (jI (fx_or v1 (fx_shl 1 (v4 + 1))))) M))) ∧ (v5 < v3 → ((fx_in32 (fx_and (fx_shr v1 v5) 1))) ∧ wp kc (d + 1) 415 13 [none, some (jI v1), some (jI v2), some (jI v3), some (jI (if fx_and (fx_shr v1 v5) 1 = 1 then (v5 : Int) else v4)), some (jI (v5 + 1)), none] [] M Q)) : wp kc (d + 1) 415 13 [none, some (jI v1), some (jI v2), some (jI v3), some (jI v4), some (jI v5), none] [] M Q :=
  (x_ild c415_13 rfl (x_ildn c415_15 rfl (x_cge c415_16 H.1.1 H.1.2 (fun h5 => (x_ildn c415_44 rfl (x_zeq c415_45 (H.2.1 h5).1 (fun h3 => (x_ildn c415_65 rfl (x_ist (l' := [none, some (jI v1), some (jI v2), some (jI v3), some (jI v4), some (jI v1), none]) c415_66 rfl (wp_wk (l' := [none, none, none, some (jI v3), some (jI v4), some (jI v1), none]) ⟨rfl, ⟨rfl, ⟨rfl, trivial⟩⟩⟩ ((H.2.1 h5).2.1 h3))))) (fun h4 => (x_ild c415_48 rfl (x_ci c415_50 (x_iadd c415_51 (x_ildn c415_52 rfl (x_cge c415_53 ((H.2.1 h5).2.2 h4).1.1 ((H.2.1 h5).2.2 h4).1.2 (fun h1 => (x_ildn c415_65 rfl (x_ist (l' := [none, some (jI v1), some (jI v2), some (jI v3), some (jI v4), some (jI v1), none]) c415_66 rfl (wp_wk (l' := [none, none, none, some (jI v3), some (jI v4), some (jI v1), none]) ⟨rfl, ⟨rfl, ⟨rfl, trivial⟩⟩⟩ (((H.2.1 h5).2.2 h4).2.1 h1))))) (fun h2 => (x_ildn c415_56 rfl (x_ci c415_57 (x_ild c415_58 rfl (x_ci c415_60 (x_iadd c415_61 (x_ishl c415_62 (x_ior c415_63 (x_irt c415_64 r415 (((H.2.1 h5).2.2 h4).2.2 h2))))))))))))))))))) (fun h6 => (x_ildn c415_19 rfl (x_ild c415_20 rfl (x_ishr c415_22 (x_ci c415_23 (x_iand c415_24 (x_ci c415_25 (have K : wp kc (d + 1) 415 36 [none, some (jI v1), some (jI v2), some (jI v3), none, some (jI v5), none] [jI (if fx_and (fx_shr v1 v5) 1 = 1 then (v5 : Int) else v4)] M Q := (x_ist (l' := [none, some (jI v1), some (jI v2), some (jI v3), some (jI (if fx_and (fx_shr v1 v5) 1 = 1 then (v5 : Int) else v4)), some (jI v5), none]) c415_36 rfl (x_inc (l' := [none, some (jI v1), some (jI v2), some (jI v3), some (jI (if fx_and (fx_shr v1 v5) 1 = 1 then (v5 : Int) else v4)), some (jI (v5 + 1)), none]) c415_38 rfl rfl (x_goto c415_41 (wp_wk (l' := [none, some (jI v1), some (jI v2), some (jI v3), some (jI (if fx_and (fx_shr v1 v5) 1 = 1 then (v5 : Int) else v4)), some (jI (v5 + 1)), none]) ⟨rfl, ⟨rfl, ⟨rfl, ⟨rfl, ⟨rfl, trivial⟩⟩⟩⟩⟩ (H.2.2 h6).2)))); (x_cne c415_26 (H.2.2 h6).1 (by decide) (fun (h7 : fx_and (fx_shr v1 v5) 1 ≠ 1) => (x_ild c415_34 rfl (wp_wk (l' := [none, some (jI v1), some (jI v2), some (jI v3), none, some (jI v5), none]) ⟨rfl, ⟨rfl, ⟨rfl, ⟨rfl, trivial⟩⟩⟩⟩ (by have K := K; first | (simp only [if_neg h7] at K ⊢; exact K) | (exfalso; omega))))) (fun (h8 : fx_and (fx_shr v1 v5) 1 = 1) => (x_ild c415_29 rfl (x_goto c415_31 (wp_wk (l' := [none, some (jI v1), some (jI v2), some (jI v3), none, some (jI v5), none]) ⟨rfl, ⟨rfl, ⟨rfl, ⟨rfl, trivial⟩⟩⟩⟩ (by have K := K; first | (simp only [if_pos h8] at K ⊢; exact K) | (exfalso; omega))))))))))))))))))
theorem s415_68 {kc : List va_E} {d : Nat} {v3 v4 v5 : Int} {M : fx_M} {Q : Option fx_V → fx_M → Prop} (H : ((fx_in32 v5)) ∧ (v5 = 0 → Q (some (jI 0)) M) ∧ (v5 ≠ 0 → ((fx_in32 (v4 + 1)) ∧ (fx_in32 v3)) ∧ (v3 ≤ v4 + 1 → wp kc (d + 1) 415 108 [none, none, none, some (jI v3), some (jI (-1)), some (jI (fx_and v5 (fx_xor (fx_shl 1 v4) (-1)))), some (jI 0)] [] M Q) ∧ (v4 + 1 < v3 → Q (some (jI (fx_or (fx_and v5 (fx_xor (fx_shl 1 v4) (-1))) (fx_shl 1 (v4 + 1))))) M))) : wp kc (d + 1) 415 68 [none, none, none, some (jI v3), some (jI v4), some (jI v5), none] [] M Q :=
  (x_ild c415_68 rfl (x_zeq c415_70 H.1 (fun h3 => (x_ci c415_143 (x_irt c415_144 r415 (H.2.1 h3)))) (fun h4 => (x_ild c415_73 rfl (x_ci c415_75 (x_ild c415_76 rfl (x_ishl c415_78 (x_ci c415_79 (x_ixor c415_80 (x_iand c415_81 (x_ist (l' := [none, none, none, some (jI v3), some (jI v4), some (jI (fx_and v5 (fx_xor (fx_shl 1 v4) (-1)))), none]) c415_82 rfl (x_ild c415_84 rfl (x_ci c415_86 (x_iadd c415_87 (x_ildn c415_88 rfl (x_cge c415_89 (H.2.2 h4).1.1 (H.2.2 h4).1.2 (fun h1 => (x_ci c415_102 (x_ist (l' := [none, none, none, some (jI v3), some (jI (-1)), some (jI (fx_and v5 (fx_xor (fx_shl 1 v4) (-1)))), none]) c415_103 rfl (x_ci c415_105 (x_ist (l' := [none, none, none, some (jI v3), some (jI (-1)), some (jI (fx_and v5 (fx_xor (fx_shl 1 v4) (-1)))), some (jI 0)]) c415_106 rfl (wp_wk (l' := [none, none, none, some (jI v3), some (jI (-1)), some (jI (fx_and v5 (fx_xor (fx_shl 1 v4) (-1)))), some (jI 0)]) ⟨rfl, ⟨rfl, ⟨rfl, ⟨rfl, trivial⟩⟩⟩⟩ ((H.2.2 h4).2.1 h1))))))) (fun h2 => (x_ild c415_92 rfl (x_ci c415_94 (x_ild c415_95 rfl (x_ci c415_97 (x_iadd c415_98 (x_ishl c415_99 (x_ior c415_100 (x_irt c415_101 r415 ((H.2.2 h4).2.2 h2))))))))))))))))))))))))))
theorem s415_108 {kc : List va_E} {d : Nat} {v3 v4 v5 v6 : Int} {M : fx_M} {Q : Option fx_V → fx_M → Prop} (H : ((fx_in32 v6) ∧ (fx_in32 v3)) ∧ (v3 ≤ v6 → wp kc (d + 1) 415 68 [none, none, none, some (jI v3), some (jI v4), some (jI v5), none] [] M Q) ∧ (v6 < v3 → ((fx_in32 (fx_and (fx_shr v5 v6) 1))) ∧ wp kc (d + 1) 415 108 [none, none, none, some (jI v3), some (jI (if fx_and (fx_shr v5 v6) 1 = 1 then (v6 : Int) else v4)), some (jI v5), some (jI (v6 + 1))] [] M Q)) : wp kc (d + 1) 415 108 [none, none, none, some (jI v3), some (jI v4), some (jI v5), some (jI v6)] [] M Q :=
  (x_ild c415_108 rfl (x_ildn c415_110 rfl (x_cge c415_111 H.1.1 H.1.2 (fun h1 => (x_goto c415_140 (wp_wk (l' := [none, none, none, some (jI v3), some (jI v4), some (jI v5), none]) ⟨rfl, ⟨rfl, ⟨rfl, trivial⟩⟩⟩ (H.2.1 h1)))) (fun h2 => (x_ild c415_114 rfl (x_ild c415_116 rfl (x_ishr c415_118 (x_ci c415_119 (x_iand c415_120 (x_ci c415_121 (have K : wp kc (d + 1) 415 132 [none, none, none, some (jI v3), none, some (jI v5), some (jI v6)] [jI (if fx_and (fx_shr v5 v6) 1 = 1 then (v6 : Int) else v4)] M Q := (x_ist (l' := [none, none, none, some (jI v3), some (jI (if fx_and (fx_shr v5 v6) 1 = 1 then (v6 : Int) else v4)), some (jI v5), some (jI v6)]) c415_132 rfl (x_inc (l' := [none, none, none, some (jI v3), some (jI (if fx_and (fx_shr v5 v6) 1 = 1 then (v6 : Int) else v4)), some (jI v5), some (jI (v6 + 1))]) c415_134 rfl rfl (x_goto c415_137 (wp_wk (l' := [none, none, none, some (jI v3), some (jI (if fx_and (fx_shr v5 v6) 1 = 1 then (v6 : Int) else v4)), some (jI v5), some (jI (v6 + 1))]) ⟨rfl, ⟨rfl, ⟨rfl, ⟨rfl, trivial⟩⟩⟩⟩ (H.2.2 h2).2)))); (x_cne c415_122 (H.2.2 h2).1 (by decide) (fun (h3 : fx_and (fx_shr v5 v6) 1 ≠ 1) => (x_ild c415_130 rfl (wp_wk (l' := [none, none, none, some (jI v3), none, some (jI v5), some (jI v6)]) ⟨rfl, ⟨rfl, ⟨rfl, trivial⟩⟩⟩ (by have K := K; first | (simp only [if_neg h3] at K ⊢; exact K) | (exfalso; omega))))) (fun (h4 : fx_and (fx_shr v5 v6) 1 = 1) => (x_ild c415_125 rfl (x_goto c415_127 (wp_wk (l' := [none, none, none, some (jI v3), none, some (jI v5), some (jI v6)]) ⟨rfl, ⟨rfl, ⟨rfl, trivial⟩⟩⟩ (by have K := K; first | (simp only [if_pos h4] at K ⊢; exact K) | (exfalso; omega))))))))))))))))))
theorem s415 {kc : List va_E} {d : Nat} {x1 x2 : Int} {M : fx_M} {Q : Option fx_V → fx_M → Prop} (H : wp kc (d + 1) 415 13 [none, some (jI x1), some (jI x2), some (jI (M 149 0)), some (jI (-1)), some (jI 0), none] [] M Q) : wc kc (d + 1) 415 [jR 133, jI x1, jI x2] M Q :=
  wc_of (wp_wk (l' := [some (jR 133), some (jI x1), some (jI x2), none, none, none, none]) ⟨rfl, ⟨rfl, ⟨rfl, trivial⟩⟩⟩ (s415_0 H))

/- PuzzleHouseModel.cellsOf(I)I -/
theorem c416_0 : fx_ci 416 0 = some (0, 1) := by decide +kernel
theorem c416_1 : fx_op 416 1 = some (.istore_n 2, 2, 1) := by decide +kernel
theorem c416_2 : fx_ci 416 2 = some (0, 3) := by decide +kernel
theorem c416_3 : fx_op 416 3 = some (.istore_n 3, 4, 3) := by decide +kernel
theorem c416_4 : fx_op 416 4 = some (.iload_n 3, 5, 4) := by decide +kernel
theorem c416_5 : fx_op 416 5 = some (.aload_n 0, 6, 5) := by decide +kernel
theorem c416_6 : fx_gf 416 6 = some (12, 40, 9) := by decide +kernel
theorem c416_9 : fx_ci 416 9 = some (0, 10) := by decide +kernel
theorem c416_10 : fx_op 416 10 = some (.iaload, 11, 10) := by decide +kernel
theorem c416_11 : fx_op 416 11 = some (.if_icmp .ge 42, 14, 53) := by decide +kernel
theorem c416_53 : fx_op 416 53 = some (.iload_n 2, 54, 53) := by decide +kernel
theorem c416_14 : fx_op 416 14 = some (.iload_n 1, 15, 14) := by decide +kernel
theorem c416_15 : fx_op 416 15 = some (.iload_n 3, 16, 15) := by decide +kernel
theorem c416_16 : fx_op 416 16 = some (.ishr, 17, 16) := by decide +kernel
theorem c416_17 : fx_ci 416 17 = some (1, 18) := by decide +kernel
theorem c416_18 : fx_op 416 18 = some (.iand, 19, 18) := by decide +kernel
theorem c416_19 : fx_op 416 19 = some (.ifCond .ne 6, 22, 25) := by decide +kernel
theorem c416_25 : fx_op 416 25 = some (.iload_n 2, 26, 25) := by decide +kernel
theorem c416_26 : fx_op 416 26 = some (.aload_n 0, 27, 26) := by decide +kernel
theorem c416_27 : fx_gf 416 27 = some (12, 78, 30) := by decide +kernel
theorem c416_30 : fx_op 416 30 = some (.iload_n 3, 31, 30) := by decide +kernel
theorem c416_32 : fx_op 416 32 = some (.iand, 33, 32) := by decide +kernel
theorem c416_33 : fx_op 416 33 = some (.ifCond .eq 5, 36, 38) := by decide +kernel
theorem c416_38 : fx_op 416 38 = some (.iload_n 2, 39, 38) := by decide +kernel
theorem c416_39 : fx_op 416 39 = some (.aload_n 0, 40, 39) := by decide +kernel
theorem c416_40 : fx_gf 416 40 = some (12, 78, 43) := by decide +kernel
theorem c416_43 : fx_op 416 43 = some (.iload_n 3, 44, 43) := by decide +kernel
theorem c416_45 : fx_op 416 45 = some (.ior, 46, 45) := by decide +kernel
theorem c416_46 : fx_op 416 46 = some (.istore_n 2, 47, 46) := by decide +kernel
theorem c416_47 : fx_op 416 47 = some (.iinc 3 1, 50, 47) := by decide +kernel
theorem c416_36 : fx_ci 416 36 = some ((-1), 37) := by decide +kernel
theorem c416_54 : fx_op 416 54 = some (.ireturn, 55, 54) := by decide +kernel
theorem c416_31 : fx_op 416 31 = some (.iaload, 32, 31) := by decide +kernel
theorem c416_44 : fx_op 416 44 = some (.iaload, 45, 44) := by decide +kernel
theorem c416_50 : fx_op 416 50 = some (.goto (-46), 53, 4) := by decide +kernel
theorem c416_37 : fx_op 416 37 = some (.ireturn, 38, 37) := by decide +kernel
theorem c416_22 : fx_op 416 22 = some (.goto 25, 25, 47) := by decide +kernel
theorem s416_0 {kc : List va_E} {d : Nat} {x1 : Int} {M : fx_M} {Q : Option fx_V → fx_M → Prop} (H : wp kc (d + 1) 416 4 [some (jR 133), some (jI x1), some (jI 0), some (jI 0)] [] M Q) : wp kc (d + 1) 416 0 [some (jR 133), some (jI x1), none, none] [] M Q :=
  (x_ci c416_0 (x_istn (l' := [some (jR 133), some (jI x1), some (jI 0), none]) c416_1 rfl (x_ci c416_2 (x_istn (l' := [some (jR 133), some (jI x1), some (jI 0), some (jI 0)]) c416_3 rfl (wp_wk (l' := [some (jR 133), some (jI x1), some (jI 0), some (jI 0)]) ⟨rfl, ⟨rfl, ⟨rfl, ⟨rfl, trivial⟩⟩⟩⟩ H)))))
theorem s416_4 {kc : List va_E} {d : Nat} {v1 v2 v3 : Int} {M : fx_M} {Q : Option fx_V → fx_M → Prop} (H : ((fx_in32 v3) ∧ (fx_in32 (M 149 0))) ∧ (M 149 0 ≤ v3 → Q (some (jI v2)) M) ∧ (v3 < M 149 0 → ((fx_in32 (fx_and (fx_shr v1 v3) 1))) ∧ (fx_and (fx_shr v1 v3) 1 ≠ 0 → (((0 : Int) ≤ v3 ∧ v3 < 12)) ∧ ((fx_in32 (fx_and v2 (M 172 v3)))) ∧ (fx_and v2 (M 172 v3) = 0 → (((0 : Int) ≤ v3 ∧ v3 < 12)) ∧ wp kc (d + 1) 416 4 [some (jR 133), some (jI v1), some (jI (fx_or v2 (M 172 v3))), some (jI (v3 + 1))] [] M Q) ∧ (fx_and v2 (M 172 v3) ≠ 0 → Q (some (jI (-1))) M)) ∧ (fx_and (fx_shr v1 v3) 1 = 0 → wp kc (d + 1) 416 4 [some (jR 133), some (jI v1), some (jI v2), some (jI (v3 + 1))] [] M Q))) : wp kc (d + 1) 416 4 [some (jR 133), some (jI v1), some (jI v2), some (jI v3)] [] M Q :=
  (x_ildn c416_4 rfl (x_aldn c416_5 rfl (x_gfr c416_6 k_133_40 (x_ci c416_9 (x_iald c416_10 a_149 (by decide) (by decide) (x_cge c416_11 H.1.1 H.1.2 (fun h5 => (x_ildn c416_53 rfl (x_irt c416_54 r416 (H.2.1 h5)))) (fun h6 => (x_ildn c416_14 rfl (x_ildn c416_15 rfl (x_ishr c416_16 (x_ci c416_17 (x_iand c416_18 (x_zne c416_19 (H.2.2 h6).1 (fun h3 => (x_ildn c416_25 rfl (x_aldn c416_26 rfl (x_gfr c416_27 k_133_78 (x_ildn c416_30 rfl (x_iald c416_31 a_172 ((H.2.2 h6).2.1 h3).1 (by decide) (x_iand c416_32 (x_zeq c416_33 ((H.2.2 h6).2.1 h3).2.1 (fun h1 => (x_ildn c416_38 rfl (x_aldn c416_39 rfl (x_gfr c416_40 k_133_78 (x_ildn c416_43 rfl (x_iald c416_44 a_172 (((H.2.2 h6).2.1 h3).2.2.1 h1).1 (by decide) (x_ior c416_45 (x_istn (l' := [some (jR 133), some (jI v1), some (jI (fx_or v2 (M 172 v3))), some (jI v3)]) c416_46 rfl (x_inc (l' := [some (jR 133), some (jI v1), some (jI (fx_or v2 (M 172 v3))), some (jI (v3 + 1))]) c416_47 rfl rfl (x_goto c416_50 (wp_wk (l' := [some (jR 133), some (jI v1), some (jI (fx_or v2 (M 172 v3))), some (jI (v3 + 1))]) ⟨rfl, ⟨rfl, ⟨rfl, ⟨rfl, trivial⟩⟩⟩⟩ (((H.2.2 h6).2.1 h3).2.2.1 h1).2))))))))))) (fun h2 => (x_ci c416_36 (x_irt c416_37 r416 (((H.2.2 h6).2.1 h3).2.2.2 h2)))))))))))) (fun h4 => (x_goto c416_22 (x_inc (l' := [some (jR 133), some (jI v1), some (jI v2), some (jI (v3 + 1))]) c416_47 rfl rfl (x_goto c416_50 (wp_wk (l' := [some (jR 133), some (jI v1), some (jI v2), some (jI (v3 + 1))]) ⟨rfl, ⟨rfl, ⟨rfl, ⟨rfl, trivial⟩⟩⟩⟩ ((H.2.2 h6).2.2 h4)))))))))))))))))))
theorem s416 {kc : List va_E} {d : Nat} {x1 : Int} {M : fx_M} {Q : Option fx_V → fx_M → Prop} (H : wp kc (d + 1) 416 4 [some (jR 133), some (jI x1), some (jI 0), some (jI 0)] [] M Q) : wc kc (d + 1) 416 [jR 133, jI x1] M Q :=
  wc_of (wp_wk (l' := [some (jR 133), some (jI x1), none, none]) ⟨rfl, ⟨rfl, trivial⟩⟩ (s416_0 H))

/- PuzzleHouseModel.saySet(I)V -/
theorem c417_0 : fx_ci 417 0 = some (1, 1) := by decide +kernel
theorem c417_1 : fx_op 417 1 = some (.istore_n 2, 2, 1) := by decide +kernel
theorem c417_2 : fx_ci 417 2 = some (0, 3) := by decide +kernel
theorem c417_3 : fx_op 417 3 = some (.istore_n 3, 4, 3) := by decide +kernel
theorem c417_4 : fx_op 417 4 = some (.iload_n 3, 5, 4) := by decide +kernel
theorem c417_5 : fx_op 417 5 = some (.aload_n 0, 6, 5) := by decide +kernel
theorem c417_6 : fx_gf 417 6 = some (12, 40, 9) := by decide +kernel
theorem c417_9 : fx_ci 417 9 = some (0, 10) := by decide +kernel
theorem c417_10 : fx_op 417 10 = some (.iaload, 11, 10) := by decide +kernel
theorem c417_11 : fx_op 417 11 = some (.if_icmp .ge 37, 14, 48) := by decide +kernel
theorem c417_14 : fx_op 417 14 = some (.iload_n 1, 15, 14) := by decide +kernel
theorem c417_15 : fx_op 417 15 = some (.iload_n 3, 16, 15) := by decide +kernel
theorem c417_16 : fx_op 417 16 = some (.ishr, 17, 16) := by decide +kernel
theorem c417_17 : fx_ci 417 17 = some (1, 18) := by decide +kernel
theorem c417_18 : fx_op 417 18 = some (.iand, 19, 18) := by decide +kernel
theorem c417_19 : fx_op 417 19 = some (.ifCond .ne 6, 22, 25) := by decide +kernel
theorem c417_25 : fx_op 417 25 = some (.iload_n 2, 26, 25) := by decide +kernel
theorem c417_26 : fx_op 417 26 = some (.ifCond .ne 9, 29, 35) := by decide +kernel
theorem c417_35 : fx_op 417 35 = some (.aload_n 0, 36, 35) := by decide +kernel
theorem c417_36 : fx_op 417 36 = some (.iload_n 3, 37, 36) := by decide +kernel
theorem c417_48 : fx_op 417 48 = some (.aload_n 0, 49, 48) := by decide +kernel
theorem c417_49 : fx_ci 417 49 = some (32, 51) := by decide +kernel
theorem c417_29 : fx_op 417 29 = some (.aload_n 0, 30, 29) := by decide +kernel
theorem c417_30 : fx_ci 417 30 = some (43, 32) := by decide +kernel
theorem c417_42 : fx_op 417 42 = some (.iinc 3 1, 45, 42) := by decide +kernel
theorem c417_51 : fx_ca 417 51 = some (254, 2, 2, 54) := by decide +kernel
theorem c417_37 : fx_ca 417 37 = some (256, 2, 2, 40) := by decide +kernel
theorem c417_32 : fx_ca 417 32 = some (254, 2, 2, 35) := by decide +kernel
theorem c417_22 : fx_op 417 22 = some (.goto 20, 25, 42) := by decide +kernel
theorem c417_45 : fx_op 417 45 = some (.goto (-41), 48, 4) := by decide +kernel
theorem c417_54 : fx_op 417 54 = some (.return_, 55, 54) := by decide +kernel
theorem c417_40 : fx_ci 417 40 = some (0, 41) := by decide +kernel
theorem c417_41 : fx_op 417 41 = some (.istore_n 2, 42, 41) := by decide +kernel
theorem s417_0 {kc : List va_E} {d : Nat} {x1 : Int} {M : fx_M} {Q : Option fx_V → fx_M → Prop} (H : wp kc (d + 1) 417 4 [some (jR 133), some (jI x1), some (jI 1), some (jI 0)] [] M Q) : wp kc (d + 1) 417 0 [some (jR 133), some (jI x1), none, none] [] M Q :=
  (x_ci c417_0 (x_istn (l' := [some (jR 133), some (jI x1), some (jI 1), none]) c417_1 rfl (x_ci c417_2 (x_istn (l' := [some (jR 133), some (jI x1), some (jI 1), some (jI 0)]) c417_3 rfl (wp_wk (l' := [some (jR 133), some (jI x1), some (jI 1), some (jI 0)]) ⟨rfl, ⟨rfl, ⟨rfl, ⟨rfl, trivial⟩⟩⟩⟩ H)))))
theorem s417_4 {kc : List va_E} {d : Nat} {v1 v2 v3 : Int} {M : fx_M} {Q : Option fx_V → fx_M → Prop} (H : ((fx_in32 v3) ∧ (fx_in32 (M 149 0))) ∧ (M 149 0 ≤ v3 → wc kc d 254 [jR 133, jI 32] M (fun v M1 => wp kc (d + 1) 417 54 [none, none, none, none] (v.toList ++ []) M1 Q)) ∧ (v3 < M 149 0 → ((fx_in32 (fx_and (fx_shr v1 v3) 1))) ∧ (fx_and (fx_shr v1 v3) 1 ≠ 0 → ((fx_in32 v2)) ∧ (v2 ≠ 0 → wc kc d 256 [jR 133, jI v3] M (fun v M1 => wp kc (d + 1) 417 40 [some (jR 133), some (jI v1), none, some (jI v3)] (v.toList ++ []) M1 Q)) ∧ (v2 = 0 → wc kc d 254 [jR 133, jI 43] M (fun v M1 => wp kc (d + 1) 417 35 [some (jR 133), some (jI v1), none, some (jI v3)] (v.toList ++ []) M1 Q))) ∧ (fx_and (fx_shr v1 v3) 1 = 0 → wp kc (d + 1) 417 4 [some (jR 133), some (jI v1), some (jI v2), some (jI (v3 + 1))] [] M Q))) : wp kc (d + 1) 417 4 [some (jR 133), some (jI v1), some (jI v2), some (jI v3)] [] M Q :=
  (x_ildn c417_4 rfl (x_aldn c417_5 rfl (x_gfr c417_6 k_133_40 (x_ci c417_9 (x_iald c417_10 a_149 (by decide) (by decide) (x_cge c417_11 H.1.1 H.1.2 (fun h5 => (x_aldn c417_48 rfl (x_ci c417_49 (wp_wk (l' := [none, none, none, none]) trivial (x_cv (As := [jI 32]) (st := []) c417_51 cl_133 kl254 rfl (Nat.le_of_ble_eq_true rfl) mx254 (Nat.le_refl _) (H.2.1 h5)))))) (fun h6 => (x_ildn c417_14 rfl (x_ildn c417_15 rfl (x_ishr c417_16 (x_ci c417_17 (x_iand c417_18 (x_zne c417_19 (H.2.2 h6).1 (fun h3 => (x_ildn c417_25 rfl (x_zne c417_26 ((H.2.2 h6).2.1 h3).1 (fun h1 => (x_aldn c417_35 rfl (x_ildn c417_36 rfl (wp_wk (l' := [some (jR 133), some (jI v1), none, some (jI v3)]) ⟨rfl, ⟨rfl, ⟨rfl, trivial⟩⟩⟩ (x_cv (As := [jI v3]) (st := []) c417_37 cl_133 kl256 rfl (Nat.le_of_ble_eq_true rfl) mx256 (Nat.le_refl _) (((H.2.2 h6).2.1 h3).2.1 h1)))))) (fun h2 => (x_aldn c417_29 rfl (x_ci c417_30 (wp_wk (l' := [some (jR 133), some (jI v1), none, some (jI v3)]) ⟨rfl, ⟨rfl, ⟨rfl, trivial⟩⟩⟩ (x_cv (As := [jI 43]) (st := []) c417_32 cl_133 kl254 rfl (Nat.le_of_ble_eq_true rfl) mx254 (Nat.le_refl _) (((H.2.2 h6).2.1 h3).2.2 h2))))))))) (fun h4 => (x_goto c417_22 (x_inc (l' := [some (jR 133), some (jI v1), some (jI v2), some (jI (v3 + 1))]) c417_42 rfl rfl (x_goto c417_45 (wp_wk (l' := [some (jR 133), some (jI v1), some (jI v2), some (jI (v3 + 1))]) ⟨rfl, ⟨rfl, ⟨rfl, ⟨rfl, trivial⟩⟩⟩⟩ ((H.2.2 h6).2.2 h4)))))))))))))))))))
theorem s417_35 {kc : List va_E} {d : Nat} {v1 v3 : Int} {M : fx_M} {Q : Option fx_V → fx_M → Prop} (H : wc kc d 256 [jR 133, jI v3] M (fun v M1 => wp kc (d + 1) 417 40 [some (jR 133), some (jI v1), none, some (jI v3)] (v.toList ++ []) M1 Q)) : wp kc (d + 1) 417 35 [some (jR 133), some (jI v1), none, some (jI v3)] [] M Q :=
  (x_aldn c417_35 rfl (x_ildn c417_36 rfl (wp_wk (l' := [some (jR 133), some (jI v1), none, some (jI v3)]) ⟨rfl, ⟨rfl, ⟨rfl, trivial⟩⟩⟩ (x_cv (As := [jI v3]) (st := []) c417_37 cl_133 kl256 rfl (Nat.le_of_ble_eq_true rfl) mx256 (Nat.le_refl _) H))))
theorem s417_40 {kc : List va_E} {d : Nat} {v1 v3 : Int} {M : fx_M} {Q : Option fx_V → fx_M → Prop} (H : wp kc (d + 1) 417 4 [some (jR 133), some (jI v1), some (jI 0), some (jI (v3 + 1))] [] M Q) : wp kc (d + 1) 417 40 [some (jR 133), some (jI v1), none, some (jI v3)] [] M Q :=
  (x_ci c417_40 (x_istn (l' := [some (jR 133), some (jI v1), some (jI 0), some (jI v3)]) c417_41 rfl (x_inc (l' := [some (jR 133), some (jI v1), some (jI 0), some (jI (v3 + 1))]) c417_42 rfl rfl (x_goto c417_45 (wp_wk (l' := [some (jR 133), some (jI v1), some (jI 0), some (jI (v3 + 1))]) ⟨rfl, ⟨rfl, ⟨rfl, ⟨rfl, trivial⟩⟩⟩⟩ H)))))
theorem s417_54 {kc : List va_E} {d : Nat} {M : fx_M} {Q : Option fx_V → fx_M → Prop} (H : Q none M) : wp kc (d + 1) 417 54 [none, none, none, none] [] M Q :=
  (x_vr c417_54 r417 H)
theorem s417 {kc : List va_E} {d : Nat} {x1 : Int} {M : fx_M} {Q : Option fx_V → fx_M → Prop} (H : wp kc (d + 1) 417 4 [some (jR 133), some (jI x1), some (jI 1), some (jI 0)] [] M Q) : wc kc (d + 1) 417 [jR 133, jI x1] M Q :=
  wc_of (wp_wk (l' := [some (jR 133), some (jI x1), none, none]) ⟨rfl, ⟨rfl, trivial⟩⟩ (s417_0 H))

/- PuzzleHouseModel.sayBarred()V -/
theorem c418_0 : fx_ci 418 0 = some (2, 1) := by decide +kernel
theorem c418_1 : fx_op 418 1 = some (.istore_n 1, 2, 1) := by decide +kernel
theorem c418_2 : fx_op 418 2 = some (.iload_n 1, 3, 2) := by decide +kernel
theorem c418_3 : fx_ci 418 3 = some (4, 4) := by decide +kernel
theorem c418_4 : fx_op 418 4 = some (.if_icmp .ge 95, 7, 99) := by decide +kernel
theorem c418_99 : fx_op 418 99 = some (.aload_n 0, 100, 99) := by decide +kernel
theorem c418_100 : fx_ci 418 100 = some (38, 102) := by decide +kernel
theorem c418_7 : fx_ci 418 7 = some (0, 8) := by decide +kernel
theorem c418_8 : fx_op 418 8 = some (.istore_n 2, 9, 8) := by decide +kernel
theorem c418_102 : fx_ca 418 102 = some (221, 1, 0, 105) := by decide +kernel
theorem c418_9 : fx_op 418 9 = some (.iload_n 2, 10, 9) := by decide +kernel
theorem c418_10 : fx_ci 418 10 = some (9, 12) := by decide +kernel
theorem c418_12 : fx_op 418 12 = some (.if_icmp .ge 16, 15, 28) := by decide +kernel
theorem c418_15 : fx_op 418 15 = some (.aload_n 0, 16, 15) := by decide +kernel
theorem c418_16 : fx_gf 418 16 = some (12, 79, 19) := by decide +kernel
theorem c418_19 : fx_op 418 19 = some (.iload_n 2, 20, 19) := by decide +kernel
theorem c418_20 : fx_ci 418 20 = some (0, 21) := by decide +kernel
theorem c418_22 : fx_op 418 22 = some (.iinc 2 1, 25, 22) := by decide +kernel
theorem c418_21 : fx_op 418 21 = some (.iastore, 22, 21) := by decide +kernel
theorem c418_25 : fx_op 418 25 = some (.goto (-16), 28, 9) := by decide +kernel
theorem c418_105 : fx_ca 418 105 = some (253, 2, 2, 108) := by decide +kernel
theorem c418_28 : fx_op 418 28 = some (.aload_n 0, 29, 28) := by decide +kernel
theorem c418_29 : fx_op 418 29 = some (.iload_n 1, 30, 29) := by decide +kernel
theorem c418_30 : fx_ca 418 30 = some (419, 2, 2, 33) := by decide +kernel
theorem c418_108 : fx_op 418 108 = some (.return_, 109, 108) := by decide +kernel
theorem c418_33 : fx_op 418 33 = some (.ifCond .eq 60, 36, 93) := by decide +kernel
theorem c418_93 : fx_op 418 93 = some (.iinc 1 1, 96, 93) := by decide +kernel
theorem c418_36 : fx_op 418 36 = some (.aload_n 0, 37, 36) := by decide +kernel
theorem c418_37 : fx_op 418 37 = some (.iload_n 1, 38, 37) := by decide +kernel
theorem c418_96 : fx_op 418 96 = some (.goto (-94), 99, 2) := by decide +kernel
theorem c418_38 : fx_ca 418 38 = some (420, 2, 2, 41) := by decide +kernel
theorem c418_41 : fx_op 418 41 = some (.ifCond .ne 6, 44, 47) := by decide +kernel
theorem c418_47 : fx_op 418 47 = some (.aload_n 0, 48, 47) := by decide +kernel
theorem c418_48 : fx_ci 418 48 = some (24, 50) := by decide +kernel
theorem c418_50 : fx_ca 418 50 = some (221, 1, 0, 53) := by decide +kernel
theorem c418_44 : fx_op 418 44 = some (.goto (-16), 47, 28) := by decide +kernel
theorem c418_53 : fx_op 418 53 = some (.iload_n 1, 54, 53) := by decide +kernel
theorem c418_54 : fx_ca 418 54 = some (252, 3, 2, 57) := by decide +kernel
theorem c418_57 : fx_op 418 57 = some (.aload_n 0, 58, 57) := by decide +kernel
theorem c418_58 : fx_ci 418 58 = some (32, 60) := by decide +kernel
theorem c418_60 : fx_ca 418 60 = some (254, 2, 2, 63) := by decide +kernel
theorem c418_63 : fx_ci 418 63 = some (0, 64) := by decide +kernel
theorem c418_64 : fx_op 418 64 = some (.istore_n 2, 65, 64) := by decide +kernel
theorem c418_65 : fx_op 418 65 = some (.iload_n 2, 66, 65) := by decide +kernel
theorem c418_66 : fx_op 418 66 = some (.aload_n 0, 67, 66) := by decide +kernel
theorem c418_67 : fx_ca 418 67 = some (248, 1, 2, 70) := by decide +kernel
theorem c418_70 : fx_op 418 70 = some (.if_icmp .ge 22, 73, 92) := by decide +kernel
theorem c418_73 : fx_op 418 73 = some (.aload_n 0, 74, 73) := by decide +kernel
theorem c418_74 : fx_ci 418 74 = some (48, 76) := by decide +kernel
theorem c418_76 : fx_op 418 76 = some (.aload_n 0, 77, 76) := by decide +kernel
theorem c418_77 : fx_gf 418 77 = some (12, 79, 80) := by decide +kernel
theorem c418_80 : fx_op 418 80 = some (.iload_n 2, 81, 80) := by decide +kernel
theorem c418_81 : fx_op 418 81 = some (.iaload, 82, 81) := by decide +kernel
theorem c418_82 : fx_op 418 82 = some (.iadd, 83, 82) := by decide +kernel
theorem c418_92 : fx_op 418 92 = some (.return_, 93, 92) := by decide +kernel
theorem c418_83 : fx_ca 418 83 = some (254, 2, 2, 86) := by decide +kernel
theorem c418_86 : fx_op 418 86 = some (.iinc 2 1, 89, 86) := by decide +kernel
theorem c418_89 : fx_op 418 89 = some (.goto (-24), 92, 65) := by decide +kernel
theorem s418_0 {kc : List va_E} {d : Nat} {M : fx_M} {Q : Option fx_V → fx_M → Prop} (H : wp kc (d + 1) 418 2 [some (jR 133), some (jI 2), none] [] M Q) : wp kc (d + 1) 418 0 [some (jR 133), none, none] [] M Q :=
  (x_ci c418_0 (x_istn (l' := [some (jR 133), some (jI 2), none]) c418_1 rfl (wp_wk (l' := [some (jR 133), some (jI 2), none]) ⟨rfl, ⟨rfl, trivial⟩⟩ H)))
theorem s418_2 {kc : List va_E} {d : Nat} {v1 : Int} {M : fx_M} {Q : Option fx_V → fx_M → Prop} (H : ((fx_in32 v1)) ∧ (4 ≤ v1 → wc kc d 221 [jI 38] M (fun v M1 => wp kc (d + 1) 418 105 [none, none, none] (v.toList ++ [jR 133]) M1 Q)) ∧ (v1 < 4 → wp kc (d + 1) 418 9 [some (jR 133), some (jI v1), some (jI 0)] [] M Q)) : wp kc (d + 1) 418 2 [some (jR 133), some (jI v1), none] [] M Q :=
  (x_ildn c418_2 rfl (x_ci c418_3 (x_cge c418_4 H.1 (by decide) (fun h1 => (x_aldn c418_99 rfl (x_ci c418_100 (wp_wk (l' := [none, none, none]) trivial (x_cs (As := [jI 38]) (st := [jR 133]) c418_102 (by decide) rfl (Nat.le_of_ble_eq_true rfl) mx221 (Nat.le_refl _) (H.2.1 h1)))))) (fun h2 => (x_ci c418_7 (x_istn (l' := [some (jR 133), some (jI v1), some (jI 0)]) c418_8 rfl (wp_wk (l' := [some (jR 133), some (jI v1), some (jI 0)]) ⟨rfl, ⟨rfl, ⟨rfl, trivial⟩⟩⟩ (H.2.2 h2))))))))
theorem s418_9 {kc : List va_E} {d : Nat} {v1 v2 : Int} {M : fx_M} {Q : Option fx_V → fx_M → Prop} (H : ((fx_in32 v2)) ∧ (9 ≤ v2 → wp kc (d + 1) 418 28 [some (jR 133), some (jI v1), none] [] M Q) ∧ (v2 < 9 → (((0 : Int) ≤ v2 ∧ v2 < 9)) ∧ wp kc (d + 1) 418 9 [some (jR 133), some (jI v1), some (jI (v2 + 1))] [] (fx_up M 173 v2 0) Q)) : wp kc (d + 1) 418 9 [some (jR 133), some (jI v1), some (jI v2)] [] M Q :=
  (x_ildn c418_9 rfl (x_ci c418_10 (x_cge c418_12 H.1 (by decide) (fun h1 => (wp_wk (l' := [some (jR 133), some (jI v1), none]) ⟨rfl, ⟨rfl, trivial⟩⟩ (H.2.1 h1))) (fun h2 => (x_aldn c418_15 rfl (x_gfr c418_16 k_133_79 (x_ildn c418_19 rfl (x_ci c418_20 (x_iast c418_21 a_173 (H.2.2 h2).1 (by decide) (x_inc (l' := [some (jR 133), some (jI v1), some (jI (v2 + 1))]) c418_22 rfl rfl (x_goto c418_25 (wp_wk (l' := [some (jR 133), some (jI v1), some (jI (v2 + 1))]) ⟨rfl, ⟨rfl, ⟨rfl, trivial⟩⟩⟩ (H.2.2 h2).2))))))))))))
theorem s418_28 {kc : List va_E} {d : Nat} {v1 : Int} {M : fx_M} {Q : Option fx_V → fx_M → Prop} (H : wc kc d 419 [jR 133, jI v1] M (fun v M1 => wp kc (d + 1) 418 33 [some (jR 133), some (jI v1), none] (v.toList ++ []) M1 Q)) : wp kc (d + 1) 418 28 [some (jR 133), some (jI v1), none] [] M Q :=
  (x_aldn c418_28 rfl (x_ildn c418_29 rfl (wp_wk (l' := [some (jR 133), some (jI v1), none]) ⟨rfl, ⟨rfl, trivial⟩⟩ (x_cv (As := [jI v1]) (st := []) c418_30 cl_133 kl419 rfl (Nat.le_of_ble_eq_true rfl) mx419 (Nat.le_refl _) H))))
theorem s418_33 {kc : List va_E} {d : Nat} {v1 u0 : Int} {M : fx_M} {Q : Option fx_V → fx_M → Prop} (H : ((fx_in32 u0)) ∧ (u0 = 0 → wp kc (d + 1) 418 2 [some (jR 133), some (jI (v1 + 1)), none] [] M Q) ∧ (u0 ≠ 0 → wc kc d 420 [jR 133, jI v1] M (fun v M1 => wp kc (d + 1) 418 41 [some (jR 133), some (jI v1), none] (v.toList ++ []) M1 Q))) : wp kc (d + 1) 418 33 [some (jR 133), some (jI v1), none] [jI u0] M Q :=
  (x_zeq c418_33 H.1 (fun h1 => (x_inc (l' := [some (jR 133), some (jI (v1 + 1)), none]) c418_93 rfl rfl (x_goto c418_96 (wp_wk (l' := [some (jR 133), some (jI (v1 + 1)), none]) ⟨rfl, ⟨rfl, trivial⟩⟩ (H.2.1 h1))))) (fun h2 => (x_aldn c418_36 rfl (x_ildn c418_37 rfl (wp_wk (l' := [some (jR 133), some (jI v1), none]) ⟨rfl, ⟨rfl, trivial⟩⟩ (x_cv (As := [jI v1]) (st := []) c418_38 cl_133 kl420 rfl (Nat.le_of_ble_eq_true rfl) mx420 (Nat.le_refl _) (H.2.2 h2)))))))
theorem s418_41 {kc : List va_E} {d : Nat} {v1 u0 : Int} {M : fx_M} {Q : Option fx_V → fx_M → Prop} (H : ((fx_in32 u0)) ∧ (u0 ≠ 0 → wc kc d 221 [jI 24] M (fun v M1 => wp kc (d + 1) 418 53 [some (jR 133), some (jI v1), none] (v.toList ++ [jR 133]) M1 Q)) ∧ (u0 = 0 → wp kc (d + 1) 418 28 [some (jR 133), some (jI v1), none] [] M Q)) : wp kc (d + 1) 418 41 [some (jR 133), some (jI v1), none] [jI u0] M Q :=
  (x_zne c418_41 H.1 (fun h1 => (x_aldn c418_47 rfl (x_ci c418_48 (wp_wk (l' := [some (jR 133), some (jI v1), none]) ⟨rfl, ⟨rfl, trivial⟩⟩ (x_cs (As := [jI 24]) (st := [jR 133]) c418_50 (by decide) rfl (Nat.le_of_ble_eq_true rfl) mx221 (Nat.le_refl _) (H.2.1 h1)))))) (fun h2 => (x_goto c418_44 (wp_wk (l' := [some (jR 133), some (jI v1), none]) ⟨rfl, ⟨rfl, trivial⟩⟩ (H.2.2 h2)))))
theorem s418_53 {kc : List va_E} {d : Nat} {v1 u0 : Int} {M : fx_M} {Q : Option fx_V → fx_M → Prop} (H : wc kc d 252 [jR 133, jL u0, jI v1] M (fun v M1 => wp kc (d + 1) 418 57 [some (jR 133), none, none] (v.toList ++ []) M1 Q)) : wp kc (d + 1) 418 53 [some (jR 133), some (jI v1), none] [jL u0, jR 133] M Q :=
  (x_ildn c418_53 rfl (wp_wk (l' := [some (jR 133), none, none]) ⟨rfl, trivial⟩ (x_cv (As := [jL u0, jI v1]) (st := []) c418_54 cl_133 kl252 rfl (Nat.le_of_ble_eq_true rfl) mx252 (Nat.le_refl _) H)))
theorem s418_57 {kc : List va_E} {d : Nat} {M : fx_M} {Q : Option fx_V → fx_M → Prop} (H : wc kc d 254 [jR 133, jI 32] M (fun v M1 => wp kc (d + 1) 418 63 [some (jR 133), none, none] (v.toList ++ []) M1 Q)) : wp kc (d + 1) 418 57 [some (jR 133), none, none] [] M Q :=
  (x_aldn c418_57 rfl (x_ci c418_58 (wp_wk (l' := [some (jR 133), none, none]) ⟨rfl, trivial⟩ (x_cv (As := [jI 32]) (st := []) c418_60 cl_133 kl254 rfl (Nat.le_of_ble_eq_true rfl) mx254 (Nat.le_refl _) H))))
theorem s418_63 {kc : List va_E} {d : Nat} {M : fx_M} {Q : Option fx_V → fx_M → Prop} (H : wp kc (d + 1) 418 65 [some (jR 133), none, some (jI 0)] [] M Q) : wp kc (d + 1) 418 63 [some (jR 133), none, none] [] M Q :=
  (x_ci c418_63 (x_istn (l' := [some (jR 133), none, some (jI 0)]) c418_64 rfl (wp_wk (l' := [some (jR 133), none, some (jI 0)]) ⟨rfl, ⟨rfl, trivial⟩⟩ H)))
theorem s418_65 {kc : List va_E} {d : Nat} {v2 : Int} {M : fx_M} {Q : Option fx_V → fx_M → Prop} (H : wc kc d 248 [jR 133] M (fun v M1 => wp kc (d + 1) 418 70 [some (jR 133), none, some (jI v2)] (v.toList ++ [jI v2]) M1 Q)) : wp kc (d + 1) 418 65 [some (jR 133), none, some (jI v2)] [] M Q :=
  (x_ildn c418_65 rfl (x_aldn c418_66 rfl (wp_wk (l' := [some (jR 133), none, some (jI v2)]) ⟨rfl, ⟨rfl, trivial⟩⟩ (x_cv (As := []) (st := [jI v2]) c418_67 cl_133 kl248 rfl (Nat.le_of_ble_eq_true rfl) mx248 (Nat.le_refl _) H))))
theorem s418_70 {kc : List va_E} {d : Nat} {v2 u0 u1 : Int} {M : fx_M} {Q : Option fx_V → fx_M → Prop} (H : ((fx_in32 u1) ∧ (fx_in32 u0)) ∧ (u0 ≤ u1 → Q none M) ∧ (u1 < u0 → (((0 : Int) ≤ v2 ∧ v2 < 9)) ∧ wc kc d 254 [jR 133, jI (48 + (M 173 v2))] M (fun v M1 => wp kc (d + 1) 418 86 [some (jR 133), none, some (jI v2)] (v.toList ++ []) M1 Q))) : wp kc (d + 1) 418 70 [some (jR 133), none, some (jI v2)] [jI u0, jI u1] M Q :=
  (x_cge c418_70 H.1.1 H.1.2 (fun h1 => (x_vr c418_92 r418 (H.2.1 h1))) (fun h2 => (x_aldn c418_73 rfl (x_ci c418_74 (x_aldn c418_76 rfl (x_gfr c418_77 k_133_79 (x_ildn c418_80 rfl (x_iald c418_81 a_173 (H.2.2 h2).1 (by decide) (x_iadd c418_82 (wp_wk (l' := [some (jR 133), none, some (jI v2)]) ⟨rfl, ⟨rfl, trivial⟩⟩ (x_cv (As := [jI (48 + (M 173 v2))]) (st := []) c418_83 cl_133 kl254 rfl (Nat.le_of_ble_eq_true rfl) mx254 (Nat.le_refl _) (H.2.2 h2).2)))))))))))
theorem s418_86 {kc : List va_E} {d : Nat} {v2 : Int} {M : fx_M} {Q : Option fx_V → fx_M → Prop} (H : wp kc (d + 1) 418 65 [some (jR 133), none, some (jI (v2 + 1))] [] M Q) : wp kc (d + 1) 418 86 [some (jR 133), none, some (jI v2)] [] M Q :=
  (x_inc (l' := [some (jR 133), none, some (jI (v2 + 1))]) c418_86 rfl rfl (x_goto c418_89 (wp_wk (l' := [some (jR 133), none, some (jI (v2 + 1))]) ⟨rfl, ⟨rfl, trivial⟩⟩ H)))
theorem s418_105 {kc : List va_E} {d : Nat} {u0 : Int} {M : fx_M} {Q : Option fx_V → fx_M → Prop} (H : wc kc d 253 [jR 133, jL u0] M (fun v M1 => wp kc (d + 1) 418 108 [none, none, none] (v.toList ++ []) M1 Q)) : wp kc (d + 1) 418 105 [none, none, none] [jL u0, jR 133] M Q :=
  (wp_wk (l' := [none, none, none]) trivial (x_cv (As := [jL u0]) (st := []) c418_105 cl_133 kl253 rfl (Nat.le_of_ble_eq_true rfl) mx253 (Nat.le_refl _) H))
theorem s418_108 {kc : List va_E} {d : Nat} {M : fx_M} {Q : Option fx_V → fx_M → Prop} (H : Q none M) : wp kc (d + 1) 418 108 [none, none, none] [] M Q :=
  (x_vr c418_108 r418 H)
theorem s418 {kc : List va_E} {d : Nat} {M : fx_M} {Q : Option fx_V → fx_M → Prop} (H : wp kc (d + 1) 418 2 [some (jR 133), some (jI 2), none] [] M Q) : wc kc (d + 1) 418 [jR 133] M Q :=
  wc_of (wp_wk (l' := [some (jR 133), none, none]) ⟨rfl, trivial⟩ (s418_0 H))

/- PuzzleHouseModel.nextColours(I)Z -/
theorem c419_0 : fx_op 419 0 = some (.aload_n 0, 1, 0) := by decide +kernel
theorem c419_1 : fx_ca 419 1 = some (248, 1, 2, 4) := by decide +kernel
theorem c419_4 : fx_ci 419 4 = some (1, 5) := by decide +kernel
theorem c419_5 : fx_op 419 5 = some (.isub, 6, 5) := by decide +kernel
theorem c419_6 : fx_op 419 6 = some (.istore_n 2, 7, 6) := by decide +kernel
theorem c419_7 : fx_op 419 7 = some (.iload_n 2, 8, 7) := by decide +kernel
theorem c419_8 : fx_op 419 8 = some (.ifCond .lt 28, 11, 36) := by decide +kernel
theorem c419_11 : fx_op 419 11 = some (.aload_n 0, 12, 11) := by decide +kernel
theorem c419_12 : fx_gf 419 12 = some (12, 79, 15) := by decide +kernel
theorem c419_15 : fx_op 419 15 = some (.iload_n 2, 16, 15) := by decide +kernel
theorem c419_16 : fx_op 419 16 = some (.iaload, 17, 16) := by decide +kernel
theorem c419_17 : fx_op 419 17 = some (.iload_n 1, 18, 17) := by decide +kernel
theorem c419_18 : fx_ci 419 18 = some (1, 19) := by decide +kernel
theorem c419_19 : fx_op 419 19 = some (.isub, 20, 19) := by decide +kernel
theorem c419_20 : fx_op 419 20 = some (.if_icmp .ne 16, 23, 36) := by decide +kernel
theorem c419_23 : fx_op 419 23 = some (.aload_n 0, 24, 23) := by decide +kernel
theorem c419_24 : fx_gf 419 24 = some (12, 79, 27) := by decide +kernel
theorem c419_27 : fx_op 419 27 = some (.iload_n 2, 28, 27) := by decide +kernel
theorem c419_28 : fx_ci 419 28 = some (0, 29) := by decide +kernel
theorem c419_36 : fx_op 419 36 = some (.iload_n 2, 37, 36) := by decide +kernel
theorem c419_37 : fx_op 419 37 = some (.ifCond .lt 13, 40, 50) := by decide +kernel
theorem c419_40 : fx_op 419 40 = some (.aload_n 0, 41, 40) := by decide +kernel
theorem c419_41 : fx_gf 419 41 = some (12, 79, 44) := by decide +kernel
theorem c419_44 : fx_op 419 44 = some (.iload_n 2, 45, 44) := by decide +kernel
theorem c419_45 : fx_op 419 45 = some (.dup2, 46, 45) := by decide +kernel
theorem c419_46 : fx_op 419 46 = some (.iaload, 47, 46) := by decide +kernel
theorem c419_47 : fx_ci 419 47 = some (1, 48) := by decide +kernel
theorem c419_48 : fx_op 419 48 = some (.iadd, 49, 48) := by decide +kernel
theorem c419_50 : fx_op 419 50 = some (.iload_n 2, 51, 50) := by decide +kernel
theorem c419_51 : fx_op 419 51 = some (.ifCond .lt 7, 54, 58) := by decide +kernel
theorem c419_58 : fx_ci 419 58 = some (0, 59) := by decide +kernel
theorem c419_54 : fx_ci 419 54 = some (1, 55) := by decide +kernel
theorem c419_55 : fx_op 419 55 = some (.goto 4, 58, 59) := by decide +kernel
theorem c419_30 : fx_op 419 30 = some (.iinc 2 (-1), 33, 30) := by decide +kernel
theorem c419_59 : fx_op 419 59 = some (.ireturn, 60, 59) := by decide +kernel
theorem c419_49 : fx_op 419 49 = some (.iastore, 50, 49) := by decide +kernel
theorem c419_29 : fx_op 419 29 = some (.iastore, 30, 29) := by decide +kernel
theorem c419_33 : fx_op 419 33 = some (.goto (-26), 36, 7) := by decide +kernel
theorem s419_0 {kc : List va_E} {d : Nat} {x1 : Int} {M : fx_M} {Q : Option fx_V → fx_M → Prop} (H : wc kc d 248 [jR 133] M (fun v M1 => wp kc (d + 1) 419 4 [some (jR 133), some (jI x1), none] (v.toList ++ []) M1 Q)) : wp kc (d + 1) 419 0 [some (jR 133), some (jI x1), none] [] M Q :=
  (x_aldn c419_0 rfl (wp_wk (l' := [some (jR 133), some (jI x1), none]) ⟨rfl, ⟨rfl, trivial⟩⟩ (x_cv (As := []) (st := []) c419_1 cl_133 kl248 rfl (Nat.le_of_ble_eq_true rfl) mx248 (Nat.le_refl _) H)))
theorem s419_4 {kc : List va_E} {d : Nat} {v1 u0 : Int} {M : fx_M} {Q : Option fx_V → fx_M → Prop} (H : wp kc (d + 1) 419 7 [some (jR 133), some (jI v1), some (jI (u0 - 1))] [] M Q) : wp kc (d + 1) 419 4 [some (jR 133), some (jI v1), none] [jI u0] M Q :=
  (x_ci c419_4 (x_isub c419_5 (x_istn (l' := [some (jR 133), some (jI v1), some (jI (u0 - 1))]) c419_6 rfl (wp_wk (l' := [some (jR 133), some (jI v1), some (jI (u0 - 1))]) ⟨rfl, ⟨rfl, ⟨rfl, trivial⟩⟩⟩ H))))
theorem s419_7 {kc : List va_E} {d : Nat} {v1 v2 : Int} {M : fx_M} {Q : Option fx_V → fx_M → Prop} (H : ((fx_in32 v2)) ∧ (v2 < 0 → ((fx_in32 v2)) ∧ (v2 < 0 → ((fx_in32 v2)) ∧ ((0 : Int) ≤ (if v2 < 0 then (0 : Int) else 1) ∧ (if v2 < 0 then (0 : Int) else 1) ≤ 1) ∧ Q (some (jI (if v2 < 0 then (0 : Int) else 1))) M) ∧ (0 ≤ v2 → (((0 : Int) ≤ v2 ∧ v2 < 9)) ∧ (((0 : Int) ≤ v2 ∧ v2 < 9)) ∧ ((fx_in32 v2)) ∧ ((0 : Int) ≤ (if v2 < 0 then (0 : Int) else 1) ∧ (if v2 < 0 then (0 : Int) else 1) ≤ 1) ∧ Q (some (jI (if v2 < 0 then (0 : Int) else 1))) (fx_up M 173 v2 ((M 173 v2) + 1)))) ∧ (0 ≤ v2 → (((0 : Int) ≤ v2 ∧ v2 < 9)) ∧ ((fx_in32 (M 173 v2)) ∧ (fx_in32 (v1 - 1))) ∧ (M 173 v2 ≠ v1 - 1 → ((fx_in32 v2)) ∧ (v2 < 0 → ((fx_in32 v2)) ∧ ((0 : Int) ≤ (if v2 < 0 then (0 : Int) else 1) ∧ (if v2 < 0 then (0 : Int) else 1) ≤ 1) ∧ Q (some (jI (if v2 < 0 then (0 : Int) else 1))) M) ∧ (0 ≤ v2 → (((0 : Int) ≤ v2 ∧ v2 < 9)) ∧ (((0 : Int) ≤ v2 ∧ v2 < 9)) ∧ ((fx_in32 v2)) ∧ ((0 : Int) ≤ (if v2 < 0 then (0 : Int) else 1) ∧ (if v2 < 0 then (0 : Int) else 1) ≤ 1) ∧ Q (some (jI (if v2 < 0 then (0 : Int) else 1))) (fx_up M 173 v2 ((M 173 v2) + 1)))) ∧ (M 173 v2 = v1 - 1 → (((0 : Int) ≤ v2 ∧ v2 < 9)) ∧ wp kc (d + 1) 419 7 [some (jR 133), some (jI v1), some (jI (v2 + (-1)))] [] (fx_up M 173 v2 0) Q))) : wp kc (d + 1) 419 7 [some (jR 133), some (jI v1), some (jI v2)] [] M Q :=
  (x_ildn c419_7 rfl (x_zlt c419_8 H.1 (fun h7 => (x_ildn c419_36 rfl (x_zlt c419_37 (H.2.1 h7).1 (fun h1 => (x_ildn c419_50 rfl (have K : wp kc (d + 1) 419 59 [none, none, none] [jI (if v2 < 0 then (0 : Int) else 1)] M Q := (x_zrt c419_59 r419 ((H.2.1 h7).2.1 h1).2.1 ((H.2.1 h7).2.1 h1).2.2); (x_zlt c419_51 ((H.2.1 h7).2.1 h1).1 (fun (h9 : v2 < 0) => (x_ci c419_58 (wp_wk (l' := [none, none, none]) trivial (by have K := K; first | (simp only [if_pos h9] at K ⊢; exact K) | (exfalso; omega))))) (fun (h10 : 0 ≤ v2) => (x_ci c419_54 (x_goto c419_55 (wp_wk (l' := [none, none, none]) trivial (by have K := K; first | (simp only [if_neg (Int.not_lt.mpr h10)] at K ⊢; exact K) | (exfalso; omega)))))))))) (fun h2 => (x_aldn c419_40 rfl (x_gfr c419_41 k_133_79 (x_ildn c419_44 rfl (x_dup2 c419_45 (x_iald c419_46 a_173 ((H.2.1 h7).2.2 h2).1 (by decide) (x_ci c419_47 (x_iadd c419_48 (x_iast c419_49 a_173 ((H.2.1 h7).2.2 h2).2.1 (by decide) (x_ildn c419_50 rfl (have K : wp kc (d + 1) 419 59 [none, none, none] [jI (if v2 < 0 then (0 : Int) else 1)] (fx_up M 173 v2 ((M 173 v2) + 1)) Q := (x_zrt c419_59 r419 ((H.2.1 h7).2.2 h2).2.2.2.1 ((H.2.1 h7).2.2 h2).2.2.2.2); (x_zlt c419_51 ((H.2.1 h7).2.2 h2).2.2.1 (fun (h11 : v2 < 0) => (x_ci c419_58 (wp_wk (l' := [none, none, none]) trivial (by have K := K; first | (simp only [if_pos h11] at K ⊢; exact K) | (exfalso; omega))))) (fun (h12 : 0 ≤ v2) => (x_ci c419_54 (x_goto c419_55 (wp_wk (l' := [none, none, none]) trivial (by have K := K; first | (simp only [if_neg (Int.not_lt.mpr h12)] at K ⊢; exact K) | (exfalso; omega))))))))))))))))))))) (fun h8 => (x_aldn c419_11 rfl (x_gfr c419_12 k_133_79 (x_ildn c419_15 rfl (x_iald c419_16 a_173 (H.2.2 h8).1 (by decide) (x_ildn c419_17 rfl (x_ci c419_18 (x_isub c419_19 (x_cne c419_20 (H.2.2 h8).2.1.1 (H.2.2 h8).2.1.2 (fun h5 => (x_ildn c419_36 rfl (x_zlt c419_37 ((H.2.2 h8).2.2.1 h5).1 (fun h3 => (x_ildn c419_50 rfl (have K : wp kc (d + 1) 419 59 [none, none, none] [jI (if v2 < 0 then (0 : Int) else 1)] M Q := (x_zrt c419_59 r419 (((H.2.2 h8).2.2.1 h5).2.1 h3).2.1 (((H.2.2 h8).2.2.1 h5).2.1 h3).2.2); (x_zlt c419_51 (((H.2.2 h8).2.2.1 h5).2.1 h3).1 (fun (h13 : v2 < 0) => (x_ci c419_58 (wp_wk (l' := [none, none, none]) trivial (by have K := K; first | (simp only [if_pos h13] at K ⊢; exact K) | (exfalso; omega))))) (fun (h14 : 0 ≤ v2) => (x_ci c419_54 (x_goto c419_55 (wp_wk (l' := [none, none, none]) trivial (by have K := K; first | (simp only [if_neg (Int.not_lt.mpr h14)] at K ⊢; exact K) | (exfalso; omega)))))))))) (fun h4 => (x_aldn c419_40 rfl (x_gfr c419_41 k_133_79 (x_ildn c419_44 rfl (x_dup2 c419_45 (x_iald c419_46 a_173 (((H.2.2 h8).2.2.1 h5).2.2 h4).1 (by decide) (x_ci c419_47 (x_iadd c419_48 (x_iast c419_49 a_173 (((H.2.2 h8).2.2.1 h5).2.2 h4).2.1 (by decide) (x_ildn c419_50 rfl (have K : wp kc (d + 1) 419 59 [none, none, none] [jI (if v2 < 0 then (0 : Int) else 1)] (fx_up M 173 v2 ((M 173 v2) + 1)) Q := (x_zrt c419_59 r419 (((H.2.2 h8).2.2.1 h5).2.2 h4).2.2.2.1 (((H.2.2 h8).2.2.1 h5).2.2 h4).2.2.2.2); (x_zlt c419_51 (((H.2.2 h8).2.2.1 h5).2.2 h4).2.2.1 (fun (h15 : v2 < 0) => (x_ci c419_58 (wp_wk (l' := [none, none, none]) trivial (by have K := K; first | (simp only [if_pos h15] at K ⊢; exact K) | (exfalso; omega))))) (fun (h16 : 0 ≤ v2) => (x_ci c419_54 (x_goto c419_55 (wp_wk (l' := [none, none, none]) trivial (by have K := K; first | (simp only [if_neg (Int.not_lt.mpr h16)] at K ⊢; exact K) | (exfalso; omega))))))))))))))))))))) (fun h6 => (x_aldn c419_23 rfl (x_gfr c419_24 k_133_79 (x_ildn c419_27 rfl (x_ci c419_28 (x_iast c419_29 a_173 ((H.2.2 h8).2.2.2 h6).1 (by decide) (x_inc (l' := [some (jR 133), some (jI v1), some (jI (v2 + (-1)))]) c419_30 rfl rfl (x_goto c419_33 (wp_wk (l' := [some (jR 133), some (jI v1), some (jI (v2 + (-1)))]) ⟨rfl, ⟨rfl, ⟨rfl, trivial⟩⟩⟩ ((H.2.2 h8).2.2.2 h6).2))))))))))))))))))))
theorem s419 {kc : List va_E} {d : Nat} {x1 : Int} {M : fx_M} {Q : Option fx_V → fx_M → Prop} (H : wc kc d 248 [jR 133] M (fun v M1 => wp kc (d + 1) 419 4 [some (jR 133), some (jI x1), none] (v.toList ++ []) M1 Q)) : wc kc (d + 1) 419 [jR 133, jI x1] M Q :=
  wc_of (wp_wk (l' := [some (jR 133), some (jI x1), none]) ⟨rfl, ⟨rfl, trivial⟩⟩ (s419_0 H))

/- PuzzleHouseModel.bars(I)Z -/
theorem c420_0 : fx_ci 420 0 = some (0, 1) := by decide +kernel
theorem c420_1 : fx_op 420 1 = some (.istore_n 2, 2, 1) := by decide +kernel
theorem c420_2 : fx_op 420 2 = some (.iload_n 2, 3, 2) := by decide +kernel
theorem c420_3 : fx_op 420 3 = some (.aload_n 0, 4, 3) := by decide +kernel
theorem c420_4 : fx_gf 420 4 = some (12, 40, 7) := by decide +kernel
theorem c420_7 : fx_ci 420 7 = some (0, 8) := by decide +kernel
theorem c420_8 : fx_op 420 8 = some (.iaload, 9, 8) := by decide +kernel
theorem c420_9 : fx_op 420 9 = some (.if_icmp .ge 58, 12, 67) := by decide +kernel
theorem c420_67 : fx_ci 420 67 = some (0, 68) := by decide +kernel
theorem c420_68 : fx_op 420 68 = some (.istore_n 2, 69, 68) := by decide +kernel
theorem c420_69 : fx_ci 420 69 = some (0, 70) := by decide +kernel
theorem c420_70 : fx_op 420 70 = some (.istore_n 3, 71, 70) := by decide +kernel
theorem c420_12 : fx_ci 420 12 = some (0, 13) := by decide +kernel
theorem c420_13 : fx_op 420 13 = some (.istore_n 3, 14, 13) := by decide +kernel
theorem c420_14 : fx_ci 420 14 = some (0, 15) := by decide +kernel
theorem c420_15 : fx_op 420 15 = some (.istore 4, 17, 15) := by decide +kernel
theorem c420_71 : fx_op 420 71 = some (.iload_n 3, 72, 71) := by decide +kernel
theorem c420_72 : fx_op 420 72 = some (.aload_n 0, 73, 72) := by decide +kernel
theorem c420_73 : fx_ca 420 73 = some (248, 1, 2, 76) := by decide +kernel
theorem c420_17 : fx_op 420 17 = some (.iload 4, 19, 17) := by decide +kernel
theorem c420_19 : fx_op 420 19 = some (.aload_n 0, 20, 19) := by decide +kernel
theorem c420_20 : fx_gf 420 20 = some (12, 43, 23) := by decide +kernel
theorem c420_23 : fx_op 420 23 = some (.iload_n 2, 24, 23) := by decide +kernel
theorem c420_25 : fx_op 420 25 = some (.if_icmp .ge 28, 28, 53) := by decide +kernel
theorem c420_28 : fx_op 420 28 = some (.iload_n 3, 29, 28) := by decide +kernel
theorem c420_29 : fx_op 420 29 = some (.aload_n 0, 30, 29) := by decide +kernel
theorem c420_30 : fx_gf 420 30 = some (12, 79, 33) := by decide +kernel
theorem c420_33 : fx_op 420 33 = some (.aload_n 0, 34, 33) := by decide +kernel
theorem c420_34 : fx_gf 420 34 = some (12, 44, 37) := by decide +kernel
theorem c420_37 : fx_ci 420 37 = some (4, 38) := by decide +kernel
theorem c420_38 : fx_op 420 38 = some (.iload_n 2, 39, 38) := by decide +kernel
theorem c420_39 : fx_op 420 39 = some (.imul, 40, 39) := by decide +kernel
theorem c420_40 : fx_op 420 40 = some (.iload 4, 42, 40) := by decide +kernel
theorem c420_42 : fx_op 420 42 = some (.iadd, 43, 42) := by decide +kernel
theorem c420_43 : fx_op 420 43 = some (.iaload, 44, 43) := by decide +kernel
theorem c420_44 : fx_op 420 44 = some (.iaload, 45, 44) := by decide +kernel
theorem c420_45 : fx_op 420 45 = some (.iadd, 46, 45) := by decide +kernel
theorem c420_46 : fx_op 420 46 = some (.istore_n 3, 47, 46) := by decide +kernel
theorem c420_47 : fx_op 420 47 = some (.iinc 4 1, 50, 47) := by decide +kernel
theorem c420_53 : fx_op 420 53 = some (.iload_n 3, 54, 53) := by decide +kernel
theorem c420_54 : fx_op 420 54 = some (.iload_n 1, 55, 54) := by decide +kernel
theorem c420_56 : fx_op 420 56 = some (.ifCond .eq 5, 59, 61) := by decide +kernel
theorem c420_61 : fx_op 420 61 = some (.iinc 2 1, 64, 61) := by decide +kernel
theorem c420_59 : fx_ci 420 59 = some (0, 60) := by decide +kernel
theorem c420_24 : fx_op 420 24 = some (.iaload, 25, 24) := by decide +kernel
theorem c420_55 : fx_op 420 55 = some (.irem, 56, 55) := by decide +kernel
theorem c420_64 : fx_op 420 64 = some (.goto (-62), 67, 2) := by decide +kernel
theorem c420_60 : fx_op 420 60 = some (.ireturn, 61, 60) := by decide +kernel
theorem c420_50 : fx_op 420 50 = some (.goto (-33), 53, 17) := by decide +kernel
theorem c420_76 : fx_op 420 76 = some (.if_icmp .ge 18, 79, 94) := by decide +kernel
theorem c420_79 : fx_op 420 79 = some (.iload_n 2, 80, 79) := by decide +kernel
theorem c420_80 : fx_op 420 80 = some (.aload_n 0, 81, 80) := by decide +kernel
theorem c420_81 : fx_gf 420 81 = some (12, 79, 84) := by decide +kernel
theorem c420_84 : fx_op 420 84 = some (.iload_n 3, 85, 84) := by decide +kernel
theorem c420_85 : fx_op 420 85 = some (.iaload, 86, 85) := by decide +kernel
theorem c420_86 : fx_op 420 86 = some (.iadd, 87, 86) := by decide +kernel
theorem c420_87 : fx_op 420 87 = some (.istore_n 2, 88, 87) := by decide +kernel
theorem c420_88 : fx_op 420 88 = some (.iinc 3 1, 91, 88) := by decide +kernel
theorem c420_94 : fx_op 420 94 = some (.iload_n 2, 95, 94) := by decide +kernel
theorem c420_95 : fx_op 420 95 = some (.iload_n 1, 96, 95) := by decide +kernel
theorem c420_97 : fx_op 420 97 = some (.ifCond .eq 7, 100, 104) := by decide +kernel
theorem c420_104 : fx_ci 420 104 = some (0, 105) := by decide +kernel
theorem c420_100 : fx_ci 420 100 = some (1, 101) := by decide +kernel
theorem c420_101 : fx_op 420 101 = some (.goto 4, 104, 105) := by decide +kernel
theorem c420_96 : fx_op 420 96 = some (.irem, 97, 96) := by decide +kernel
theorem c420_105 : fx_op 420 105 = some (.ireturn, 106, 105) := by decide +kernel
theorem c420_91 : fx_op 420 91 = some (.goto (-20), 94, 71) := by decide +kernel
theorem s420_0 {kc : List va_E} {d : Nat} {x1 : Int} {M : fx_M} {Q : Option fx_V → fx_M → Prop} (H : wp kc (d + 1) 420 2 [some (jR 133), some (jI x1), some (jI 0), none, none] [] M Q) : wp kc (d + 1) 420 0 [some (jR 133), some (jI x1), none, none, none] [] M Q :=
  (x_ci c420_0 (x_istn (l' := [some (jR 133), some (jI x1), some (jI 0), none, none]) c420_1 rfl (wp_wk (l' := [some (jR 133), some (jI x1), some (jI 0), none, none]) ⟨rfl, ⟨rfl, ⟨rfl, trivial⟩⟩⟩ H)))
theorem s420_2 {kc : List va_E} {d : Nat} {v1 v2 : Int} {M : fx_M} {Q : Option fx_V → fx_M → Prop} (H : ((fx_in32 v2) ∧ (fx_in32 (M 149 0))) ∧ (M 149 0 ≤ v2 → wp kc (d + 1) 420 71 [some (jR 133), some (jI v1), some (jI 0), some (jI 0), none] [] M Q) ∧ (v2 < M 149 0 → wp kc (d + 1) 420 17 [some (jR 133), some (jI v1), some (jI v2), some (jI 0), some (jI 0)] [] M Q)) : wp kc (d + 1) 420 2 [some (jR 133), some (jI v1), some (jI v2), none, none] [] M Q :=
  (x_ildn c420_2 rfl (x_aldn c420_3 rfl (x_gfr c420_4 k_133_40 (x_ci c420_7 (x_iald c420_8 a_149 (by decide) (by decide) (x_cge c420_9 H.1.1 H.1.2 (fun h1 => (x_ci c420_67 (x_istn (l' := [some (jR 133), some (jI v1), some (jI 0), none, none]) c420_68 rfl (x_ci c420_69 (x_istn (l' := [some (jR 133), some (jI v1), some (jI 0), some (jI 0), none]) c420_70 rfl (wp_wk (l' := [some (jR 133), some (jI v1), some (jI 0), some (jI 0), none]) ⟨rfl, ⟨rfl, ⟨rfl, ⟨rfl, trivial⟩⟩⟩⟩ (H.2.1 h1))))))) (fun h2 => (x_ci c420_12 (x_istn (l' := [some (jR 133), some (jI v1), some (jI v2), some (jI 0), none]) c420_13 rfl (x_ci c420_14 (x_ist (l' := [some (jR 133), some (jI v1), some (jI v2), some (jI 0), some (jI 0)]) c420_15 rfl (wp_wk (l' := [some (jR 133), some (jI v1), some (jI v2), some (jI 0), some (jI 0)]) ⟨rfl, ⟨rfl, ⟨rfl, ⟨rfl, ⟨rfl, trivial⟩⟩⟩⟩⟩ (H.2.2 h2)))))))))))))
theorem s420_17 {kc : List va_E} {d : Nat} {v1 v2 v3 v4 : Int} {M : fx_M} {Q : Option fx_V → fx_M → Prop} (H : (((0 : Int) ≤ v2 ∧ v2 < 120)) ∧ ((fx_in32 v4) ∧ (fx_in32 (M 152 v2))) ∧ (M 152 v2 ≤ v4 → (((0 : Int) ≤ v3 ∧ v3 ≤ 2147483647) ∧ ((0 : Int) < v1 ∧ v1 ≤ 2147483647)) ∧ ((fx_in32 (v3 % v1))) ∧ (v3 % v1 = 0 → wp kc (d + 1) 420 2 [some (jR 133), some (jI v1), some (jI (v2 + 1)), none, none] [] M Q) ∧ (v3 % v1 ≠ 0 → Q (some (jI 0)) M)) ∧ (v4 < M 152 v2 → (((0 : Int) ≤ (4 * v2) + v4 ∧ (4 * v2) + v4 < 480)) ∧ (((0 : Int) ≤ M 153 ((4 * v2) + v4) ∧ M 153 ((4 * v2) + v4) < 9)) ∧ wp kc (d + 1) 420 17 [some (jR 133), some (jI v1), some (jI v2), some (jI (v3 + (M 173 (M 153 ((4 * v2) + v4))))), some (jI (v4 + 1))] [] M Q)) : wp kc (d + 1) 420 17 [some (jR 133), some (jI v1), some (jI v2), some (jI v3), some (jI v4)] [] M Q :=
  (x_ild c420_17 rfl (x_aldn c420_19 rfl (x_gfr c420_20 k_133_43 (x_ildn c420_23 rfl (x_iald c420_24 a_152 H.1 (by decide) (x_cge c420_25 H.2.1.1 H.2.1.2 (fun h3 => (x_ildn c420_53 rfl (x_ildn c420_54 rfl (x_irem c420_55 (H.2.2.1 h3).1.1 (H.2.2.1 h3).1.2 (x_zeq c420_56 (H.2.2.1 h3).2.1 (fun h1 => (x_inc (l' := [some (jR 133), some (jI v1), some (jI (v2 + 1)), some (jI v3), some (jI v4)]) c420_61 rfl rfl (x_goto c420_64 (wp_wk (l' := [some (jR 133), some (jI v1), some (jI (v2 + 1)), none, none]) ⟨rfl, ⟨rfl, ⟨rfl, trivial⟩⟩⟩ ((H.2.2.1 h3).2.2.1 h1))))) (fun h2 => (x_ci c420_59 (x_zrt c420_60 r420 (by decide) ((H.2.2.1 h3).2.2.2 h2))))))))) (fun h4 => (x_ildn c420_28 rfl (x_aldn c420_29 rfl (x_gfr c420_30 k_133_79 (x_aldn c420_33 rfl (x_gfr c420_34 k_133_44 (x_ci c420_37 (x_ildn c420_38 rfl (x_imul c420_39 (x_ild c420_40 rfl (x_iadd c420_42 (x_iald c420_43 a_153 (H.2.2.2 h4).1 (by decide) (x_iald c420_44 a_173 (H.2.2.2 h4).2.1 (by decide) (x_iadd c420_45 (x_istn (l' := [some (jR 133), some (jI v1), some (jI v2), some (jI (v3 + (M 173 (M 153 ((4 * v2) + v4))))), some (jI v4)]) c420_46 rfl (x_inc (l' := [some (jR 133), some (jI v1), some (jI v2), some (jI (v3 + (M 173 (M 153 ((4 * v2) + v4))))), some (jI (v4 + 1))]) c420_47 rfl rfl (x_goto c420_50 (wp_wk (l' := [some (jR 133), some (jI v1), some (jI v2), some (jI (v3 + (M 173 (M 153 ((4 * v2) + v4))))), some (jI (v4 + 1))]) ⟨rfl, ⟨rfl, ⟨rfl, ⟨rfl, ⟨rfl, trivial⟩⟩⟩⟩⟩ (H.2.2.2 h4).2.2))))))))))))))))))))))))
theorem s420_71 {kc : List va_E} {d : Nat} {v1 v2 v3 : Int} {M : fx_M} {Q : Option fx_V → fx_M → Prop} (H : wc kc d 248 [jR 133] M (fun v M1 => wp kc (d + 1) 420 76 [some (jR 133), some (jI v1), some (jI v2), some (jI v3), none] (v.toList ++ [jI v3]) M1 Q)) : wp kc (d + 1) 420 71 [some (jR 133), some (jI v1), some (jI v2), some (jI v3), none] [] M Q :=
  (x_ildn c420_71 rfl (x_aldn c420_72 rfl (wp_wk (l' := [some (jR 133), some (jI v1), some (jI v2), some (jI v3), none]) ⟨rfl, ⟨rfl, ⟨rfl, ⟨rfl, trivial⟩⟩⟩⟩ (x_cv (As := []) (st := [jI v3]) c420_73 cl_133 kl248 rfl (Nat.le_of_ble_eq_true rfl) mx248 (Nat.le_refl _) H))))
theorem s420_76 {kc : List va_E} {d : Nat} {v1 v2 v3 u0 u1 : Int} {M : fx_M} {Q : Option fx_V → fx_M → Prop} (H : ((fx_in32 u1) ∧ (fx_in32 u0)) ∧ (u0 ≤ u1 → (((0 : Int) ≤ v2 ∧ v2 ≤ 2147483647) ∧ ((0 : Int) < v1 ∧ v1 ≤ 2147483647)) ∧ ((fx_in32 (v2 % v1))) ∧ ((0 : Int) ≤ (if v2 % v1 = 0 then (0 : Int) else 1) ∧ (if v2 % v1 = 0 then (0 : Int) else 1) ≤ 1) ∧ Q (some (jI (if v2 % v1 = 0 then (0 : Int) else 1))) M) ∧ (u1 < u0 → (((0 : Int) ≤ v3 ∧ v3 < 9)) ∧ wp kc (d + 1) 420 71 [some (jR 133), some (jI v1), some (jI (v2 + (M 173 v3))), some (jI (v3 + 1)), none] [] M Q)) : wp kc (d + 1) 420 76 [some (jR 133), some (jI v1), some (jI v2), some (jI v3), none] [jI u0, jI u1] M Q :=
  (x_cge c420_76 H.1.1 H.1.2 (fun h1 => (x_ildn c420_94 rfl (x_ildn c420_95 rfl (x_irem c420_96 (H.2.1 h1).1.1 (H.2.1 h1).1.2 (have K : wp kc (d + 1) 420 105 [none, none, none, none, none] [jI (if v2 % v1 = 0 then (0 : Int) else 1)] M Q := (x_zrt c420_105 r420 (H.2.1 h1).2.2.1 (H.2.1 h1).2.2.2); (x_zeq c420_97 (H.2.1 h1).2.1 (fun (h3 : v2 % v1 = 0) => (x_ci c420_104 (wp_wk (l' := [none, none, none, none, none]) trivial (by have K := K; first | (simp only [if_pos h3] at K ⊢; exact K) | (exfalso; omega))))) (fun (h4 : v2 % v1 ≠ 0) => (x_ci c420_100 (x_goto c420_101 (wp_wk (l' := [none, none, none, none, none]) trivial (by have K := K; first | (simp only [if_neg h4] at K ⊢; exact K) | (exfalso; omega)))))))))))) (fun h2 => (x_ildn c420_79 rfl (x_aldn c420_80 rfl (x_gfr c420_81 k_133_79 (x_ildn c420_84 rfl (x_iald c420_85 a_173 (H.2.2 h2).1 (by decide) (x_iadd c420_86 (x_istn (l' := [some (jR 133), some (jI v1), some (jI (v2 + (M 173 v3))), some (jI v3), none]) c420_87 rfl (x_inc (l' := [some (jR 133), some (jI v1), some (jI (v2 + (M 173 v3))), some (jI (v3 + 1)), none]) c420_88 rfl rfl (x_goto c420_91 (wp_wk (l' := [some (jR 133), some (jI v1), some (jI (v2 + (M 173 v3))), some (jI (v3 + 1)), none]) ⟨rfl, ⟨rfl, ⟨rfl, ⟨rfl, trivial⟩⟩⟩⟩ (H.2.2 h2).2))))))))))))
theorem s420 {kc : List va_E} {d : Nat} {x1 : Int} {M : fx_M} {Q : Option fx_V → fx_M → Prop} (H : wp kc (d + 1) 420 2 [some (jR 133), some (jI x1), some (jI 0), none, none] [] M Q) : wc kc (d + 1) 420 [jR 133, jI x1] M Q :=
  wc_of (wp_wk (l' := [some (jR 133), some (jI x1), none, none, none]) ⟨rfl, ⟨rfl, trivial⟩⟩ (s420_0 H))

/- PuzzleHouseModel.answer(I)I -/
theorem c421_0 : fx_op 421 0 = some (.aload_n 0, 1, 0) := by decide +kernel
theorem c421_1 : fx_ci 421 1 = some (0, 2) := by decide +kernel
theorem c421_2 : fx_pf 421 2 = some (12, 0, 0, 5) := by decide +kernel
theorem c421_5 : fx_op 421 5 = some (.iload_n 1, 6, 5) := by decide +kernel
theorem c421_6 : fx_op 421 6 = some (.ifCond .lt 11, 9, 17) := by decide +kernel
theorem c421_17 : fx_ci 421 17 = some ((-1), 18) := by decide +kernel
theorem c421_18 : fx_op 421 18 = some (.goto 9, 21, 27) := by decide +kernel
theorem c421_9 : fx_op 421 9 = some (.iload_n 1, 10, 9) := by decide +kernel
theorem c421_10 : fx_op 421 10 = some (.aload_n 0, 11, 10) := by decide +kernel
theorem c421_11 : fx_gf 421 11 = some (12, 5, 14) := by decide +kernel
theorem c421_14 : fx_op 421 14 = some (.if_icmp .lt 7, 17, 21) := by decide +kernel
theorem c421_21 : fx_op 421 21 = some (.aload_n 0, 22, 21) := by decide +kernel
theorem c421_22 : fx_gf 421 22 = some (12, 6, 25) := by decide +kernel
theorem c421_25 : fx_op 421 25 = some (.iload_n 1, 26, 25) := by decide +kernel
theorem c421_26 : fx_op 421 26 = some (.iaload, 27, 26) := by decide +kernel
theorem c421_27 : fx_op 421 27 = some (.ireturn, 28, 27) := by decide +kernel
theorem s421_0 {kc : List va_E} {d : Nat} {x1 : Int} {M : fx_M} {Q : Option fx_V → fx_M → Prop} (H : ((fx_in32 x1)) ∧ (0 ≤ x1 → (fx_in32 x1)) ∧ (0 ≤ x1 → (fx_in32 (M 133 5))) ∧ (0 ≤ x1 → x1 < M 133 5 → ((((0 : Int) ≤ x1 ∧ x1 < 6000)))) ∧ Q (some (jI (if x1 < 0 then ((-1) : Int) else (if x1 < M 133 5 then (M 136 x1 : Int) else (-1))))) (fx_up M 133 0 0)) : wp kc (d + 1) 421 0 [some (jR 133), some (jI x1)] [] M Q :=
  (x_aldn c421_0 rfl (x_ci c421_1 (x_pfi c421_2 k_133_0 (x_ildn c421_5 rfl (have K : wp kc (d + 1) 421 27 [none, none] [jI (if x1 < 0 then ((-1) : Int) else (if x1 < M 133 5 then (M 136 x1 : Int) else (-1)))] (fx_up M 133 0 0) Q := (x_irt c421_27 r421 H.2.2.2.2); (x_zlt c421_6 H.1 (fun (h1 : x1 < 0) => (x_ci c421_17 (x_goto c421_18 (wp_wk (l' := [none, none]) trivial (by have K := K; first | (simp only [if_pos h1] at K ⊢; exact K) | (exfalso; omega)))))) (fun (h2 : 0 ≤ x1) => (x_ildn c421_9 rfl (x_aldn c421_10 rfl (x_gfi c421_11 k_133_5 (wp_vI (fx_upK (by decide)) (x_clt c421_14 (H.2.1 h2) (H.2.2.1 h2) (fun (h3 : x1 < M 133 5) => (x_aldn c421_21 rfl (x_gfr c421_22 k_133_6 (x_ildn c421_25 rfl (x_iald c421_26 a_136 (H.2.2.2.1 h2 h3) (by decide) (wp_vI (fx_upA (by decide)) (wp_wk (l' := [none, none]) trivial (by have K := K; first | (simp only [if_neg (Int.not_lt.mpr h2), if_pos h3] at K ⊢; exact K) | (exfalso; omega))))))))) (fun (h4 : M 133 5 ≤ x1) => (x_ci c421_17 (x_goto c421_18 (wp_wk (l' := [none, none]) trivial (by have K := K; first | (simp only [if_neg (Int.not_lt.mpr h2), if_neg (Int.not_lt.mpr h4)] at K ⊢; exact K) | (exfalso; omega))))))))))))))))))
theorem s421 {kc : List va_E} {d : Nat} {x1 : Int} {M : fx_M} {Q : Option fx_V → fx_M → Prop} (H : ((fx_in32 x1)) ∧ (0 ≤ x1 → (fx_in32 x1)) ∧ (0 ≤ x1 → (fx_in32 (M 133 5))) ∧ (0 ≤ x1 → x1 < M 133 5 → ((((0 : Int) ≤ x1 ∧ x1 < 6000)))) ∧ Q (some (jI (if x1 < 0 then ((-1) : Int) else (if x1 < M 133 5 then (M 136 x1 : Int) else (-1))))) (fx_up M 133 0 0)) : wc kc (d + 1) 421 [jR 133, jI x1] M Q :=
  wc_of (wp_wk (l' := [some (jR 133), some (jI x1)]) ⟨rfl, ⟨rfl, trivial⟩⟩ (s421_0 H))

/- PuzzleHouseModel.checkAnswer()I -/
theorem c422_0 : fx_op 422 0 = some (.aload_n 0, 1, 0) := by decide +kernel
theorem c422_1 : fx_ci 422 1 = some (0, 2) := by decide +kernel
theorem c422_2 : fx_pf 422 2 = some (12, 0, 0, 5) := by decide +kernel
theorem c422_5 : fx_ci 422 5 = some (11, 7) := by decide +kernel
theorem c422_7 : fx_ca 422 7 = some (221, 1, 0, 10) := by decide +kernel
theorem c422_10 : fx_op 422 10 = some (.lstore_n 1, 11, 10) := by decide +kernel
theorem c422_11 : fx_ci 422 11 = some (0, 12) := by decide +kernel
theorem c422_12 : fx_op 422 12 = some (.istore_n 3, 13, 12) := by decide +kernel
theorem c422_13 : fx_op 422 13 = some (.iload_n 3, 14, 13) := by decide +kernel
theorem c422_14 : fx_ci 422 14 = some (5, 15) := by decide +kernel
theorem c422_15 : fx_op 422 15 = some (.if_icmp .ge 20, 18, 35) := by decide +kernel
theorem c422_18 : fx_op 422 18 = some (.aload_n 0, 19, 18) := by decide +kernel
theorem c422_19 : fx_gf 422 19 = some (12, 4, 22) := by decide +kernel
theorem c422_22 : fx_op 422 22 = some (.iload_n 3, 23, 22) := by decide +kernel
theorem c422_23 : fx_op 422 23 = some (.lload_n 1, 24, 23) := by decide +kernel
theorem c422_24 : fx_op 422 24 = some (.iload_n 3, 25, 24) := by decide +kernel
theorem c422_35 : fx_op 422 35 = some (.aload_n 0, 36, 35) := by decide +kernel
theorem c422_36 : fx_gf 422 36 = some (12, 4, 39) := by decide +kernel
theorem c422_39 : fx_ci 422 39 = some (5, 40) := by decide +kernel
theorem c422_40 : fx_ci 422 40 = some (32, 42) := by decide +kernel
theorem c422_43 : fx_ci 422 43 = some (0, 44) := by decide +kernel
theorem c422_44 : fx_op 422 44 = some (.istore_n 3, 45, 44) := by decide +kernel
theorem c422_42 : fx_op 422 42 = some (.iastore, 43, 42) := by decide +kernel
theorem c422_25 : fx_ca 422 25 = some (224, 2, 0, 28) := by decide +kernel
theorem c422_45 : fx_op 422 45 = some (.iload_n 3, 46, 45) := by decide +kernel
theorem c422_46 : fx_op 422 46 = some (.aload_n 0, 47, 46) := by decide +kernel
theorem c422_47 : fx_gf 422 47 = some (12, 5, 50) := by decide +kernel
theorem c422_50 : fx_op 422 50 = some (.if_icmp .ge 24, 53, 74) := by decide +kernel
theorem c422_53 : fx_op 422 53 = some (.aload_n 0, 54, 53) := by decide +kernel
theorem c422_54 : fx_gf 422 54 = some (12, 4, 57) := by decide +kernel
theorem c422_57 : fx_ci 422 57 = some (6, 59) := by decide +kernel
theorem c422_59 : fx_op 422 59 = some (.iload_n 3, 60, 59) := by decide +kernel
theorem c422_60 : fx_op 422 60 = some (.iadd, 61, 60) := by decide +kernel
theorem c422_61 : fx_op 422 61 = some (.aload_n 0, 62, 61) := by decide +kernel
theorem c422_62 : fx_gf 422 62 = some (12, 6, 65) := by decide +kernel
theorem c422_65 : fx_op 422 65 = some (.iload_n 3, 66, 65) := by decide +kernel
theorem c422_66 : fx_op 422 66 = some (.iaload, 67, 66) := by decide +kernel
theorem c422_74 : fx_op 422 74 = some (.aload_n 0, 75, 74) := by decide +kernel
theorem c422_75 : fx_ci 422 75 = some (6, 77) := by decide +kernel
theorem c422_77 : fx_op 422 77 = some (.aload_n 0, 78, 77) := by decide +kernel
theorem c422_78 : fx_gf 422 78 = some (12, 5, 81) := by decide +kernel
theorem c422_81 : fx_op 422 81 = some (.iadd, 82, 81) := by decide +kernel
theorem c422_82 : fx_pf 422 82 = some (12, 3, 0, 85) := by decide +kernel
theorem c422_85 : fx_op 422 85 = some (.aload_n 0, 86, 85) := by decide +kernel
theorem c422_68 : fx_op 422 68 = some (.iinc 3 1, 71, 68) := by decide +kernel
theorem c422_86 : fx_ca 422 86 = some (219, 1, 2, 89) := by decide +kernel
theorem c422_67 : fx_op 422 67 = some (.iastore, 68, 67) := by decide +kernel
theorem c422_71 : fx_op 422 71 = some (.goto (-26), 74, 45) := by decide +kernel
theorem c422_29 : fx_op 422 29 = some (.iinc 3 1, 32, 29) := by decide +kernel
theorem c422_28 : fx_op 422 28 = some (.iastore, 29, 28) := by decide +kernel
theorem c422_32 : fx_op 422 32 = some (.goto (-19), 35, 13) := by decide +kernel
theorem c422_89 : fx_op 422 89 = some (.ireturn, 90, 89) := by decide +kernel
theorem s422_0 {kc : List va_E} {d : Nat} {M : fx_M} {Q : Option fx_V → fx_M → Prop} (H : wc kc d 221 [jI 11] (fx_up M 133 0 0) (fun v M1 => wp kc (d + 1) 422 10 [some (jR 133), none, none, none] (v.toList ++ []) M1 Q)) : wp kc (d + 1) 422 0 [some (jR 133), none, none, none] [] M Q :=
  (x_aldn c422_0 rfl (x_ci c422_1 (x_pfi c422_2 k_133_0 (x_ci c422_5 (wp_wk (l' := [some (jR 133), none, none, none]) ⟨rfl, trivial⟩ (x_cs (As := [jI 11]) (st := []) c422_7 (by decide) rfl (Nat.le_of_ble_eq_true rfl) mx221 (Nat.le_refl _) H))))))
theorem s422_10 {kc : List va_E} {d : Nat} {u0 : Int} {M : fx_M} {Q : Option fx_V → fx_M → Prop} (H : wp kc (d + 1) 422 13 [some (jR 133), some (jL u0), none, some (jI 0)] [] M Q) : wp kc (d + 1) 422 10 [some (jR 133), none, none, none] [jL u0] M Q :=
  (x_lstn (l' := [some (jR 133), some (jL u0), none, none]) c422_10 rfl (x_ci c422_11 (x_istn (l' := [some (jR 133), some (jL u0), none, some (jI 0)]) c422_12 rfl (wp_wk (l' := [some (jR 133), some (jL u0), none, some (jI 0)]) ⟨rfl, ⟨rfl, ⟨rfl, trivial⟩⟩⟩ H))))
theorem s422_13 {kc : List va_E} {d : Nat} {v1 v3 : Int} {M : fx_M} {Q : Option fx_V → fx_M → Prop} (H : ((fx_in32 v3)) ∧ (5 ≤ v3 → wp kc (d + 1) 422 45 [some (jR 133), none, none, some (jI 0)] [] (fx_up M 135 5 32) Q) ∧ (v3 < 5 → wc kc d 224 [jL v1, jI v3] M (fun v M1 => wp kc (d + 1) 422 28 [some (jR 133), some (jL v1), none, some (jI v3)] (v.toList ++ [jI v3, jR 135]) M1 Q))) : wp kc (d + 1) 422 13 [some (jR 133), some (jL v1), none, some (jI v3)] [] M Q :=
  (x_ildn c422_13 rfl (x_ci c422_14 (x_cge c422_15 H.1 (by decide) (fun h1 => (x_aldn c422_35 rfl (x_gfr c422_36 k_133_4 (x_ci c422_39 (x_ci c422_40 (x_iast c422_42 a_135 (by decide) (by decide) (x_ci c422_43 (x_istn (l' := [some (jR 133), some (jL v1), none, some (jI 0)]) c422_44 rfl (wp_wk (l' := [some (jR 133), none, none, some (jI 0)]) ⟨rfl, ⟨rfl, trivial⟩⟩ (H.2.1 h1)))))))))) (fun h2 => (x_aldn c422_18 rfl (x_gfr c422_19 k_133_4 (x_ildn c422_22 rfl (x_lldn c422_23 rfl (x_ildn c422_24 rfl (wp_wk (l' := [some (jR 133), some (jL v1), none, some (jI v3)]) ⟨rfl, ⟨rfl, ⟨rfl, trivial⟩⟩⟩ (x_cs (As := [jL v1, jI v3]) (st := [jI v3, jR 135]) c422_25 (by decide) rfl (Nat.le_of_ble_eq_true rfl) mx224 (Nat.le_refl _) (H.2.2 h2))))))))))))
theorem s422_28 {kc : List va_E} {d : Nat} {v1 v3 u0 u1 : Int} {M : fx_M} {Q : Option fx_V → fx_M → Prop} (H : (((0 : Int) ≤ u1 ∧ u1 < 6100)) ∧ wp kc (d + 1) 422 13 [some (jR 133), some (jL v1), none, some (jI (v3 + 1))] [] (fx_up M 135 u1 u0) Q) : wp kc (d + 1) 422 28 [some (jR 133), some (jL v1), none, some (jI v3)] [jI u0, jI u1, jR 135] M Q :=
  (x_iast c422_28 a_135 H.1 (by decide) (x_inc (l' := [some (jR 133), some (jL v1), none, some (jI (v3 + 1))]) c422_29 rfl rfl (x_goto c422_32 (wp_wk (l' := [some (jR 133), some (jL v1), none, some (jI (v3 + 1))]) ⟨rfl, ⟨rfl, ⟨rfl, trivial⟩⟩⟩ H.2))))
theorem s422_45 {kc : List va_E} {d : Nat} {v3 : Int} {M : fx_M} {Q : Option fx_V → fx_M → Prop} (H : ((fx_in32 v3) ∧ (fx_in32 (M 133 5))) ∧ (M 133 5 ≤ v3 → wc kc d 219 [jR 133] (fx_up M 133 3 (6 + (M 133 5))) (fun v M1 => wp kc (d + 1) 422 89 [none, none, none, none] (v.toList ++ []) M1 Q)) ∧ (v3 < M 133 5 → (((0 : Int) ≤ v3 ∧ v3 < 6000)) ∧ (((0 : Int) ≤ 6 + v3 ∧ 6 + v3 < 6100)) ∧ wp kc (d + 1) 422 45 [some (jR 133), none, none, some (jI (v3 + 1))] [] (fx_up M 135 (6 + v3) (M 136 v3)) Q)) : wp kc (d + 1) 422 45 [some (jR 133), none, none, some (jI v3)] [] M Q :=
  (x_ildn c422_45 rfl (x_aldn c422_46 rfl (x_gfi c422_47 k_133_5 (x_cge c422_50 H.1.1 H.1.2 (fun h1 => (x_aldn c422_74 rfl (x_ci c422_75 (x_aldn c422_77 rfl (x_gfi c422_78 k_133_5 (x_iadd c422_81 (x_pfi c422_82 k_133_3 (x_aldn c422_85 rfl (wp_wk (l' := [none, none, none, none]) trivial (x_cv (As := []) (st := []) c422_86 cl_133 kl219 rfl (Nat.le_of_ble_eq_true rfl) mx219 (Nat.le_refl _) (H.2.1 h1))))))))))) (fun h2 => (x_aldn c422_53 rfl (x_gfr c422_54 k_133_4 (x_ci c422_57 (x_ildn c422_59 rfl (x_iadd c422_60 (x_aldn c422_61 rfl (x_gfr c422_62 k_133_6 (x_ildn c422_65 rfl (x_iald c422_66 a_136 (H.2.2 h2).1 (by decide) (x_iast c422_67 a_135 (H.2.2 h2).2.1 (by decide) (x_inc (l' := [some (jR 133), none, none, some (jI (v3 + 1))]) c422_68 rfl rfl (x_goto c422_71 (wp_wk (l' := [some (jR 133), none, none, some (jI (v3 + 1))]) ⟨rfl, ⟨rfl, trivial⟩⟩ (H.2.2 h2).2.2))))))))))))))))))
theorem s422_89 {kc : List va_E} {d : Nat} {u0 : Int} {M : fx_M} {Q : Option fx_V → fx_M → Prop} (H : Q (some (jI u0)) M) : wp kc (d + 1) 422 89 [none, none, none, none] [jI u0] M Q :=
  (x_irt c422_89 r422 H)
theorem s422 {kc : List va_E} {d : Nat} {M : fx_M} {Q : Option fx_V → fx_M → Prop} (H : wc kc d 221 [jI 11] (fx_up M 133 0 0) (fun v M1 => wp kc (d + 1) 422 10 [some (jR 133), none, none, none] (v.toList ++ []) M1 Q)) : wc kc (d + 1) 422 [jR 133] M Q :=
  wc_of (wp_wk (l' := [some (jR 133), none, none, none]) ⟨rfl, trivial⟩ (s422_0 H))

/- PuzzleHouseModel.state(I)I -/
theorem c423_0 : fx_op 423 0 = some (.aload_n 0, 1, 0) := by decide +kernel
theorem c423_1 : fx_ci 423 1 = some (0, 2) := by decide +kernel
theorem c423_2 : fx_pf 423 2 = some (12, 0, 0, 5) := by decide +kernel
theorem c423_5 : fx_op 423 5 = some (.iload_n 1, 6, 5) := by decide +kernel
theorem c423_60 : fx_op 423 60 = some (.aload_n 0, 61, 60) := by decide +kernel
theorem c423_61 : fx_gf 423 61 = some (12, 40, 64) := by decide +kernel
theorem c423_64 : fx_ci 423 64 = some (0, 65) := by decide +kernel
theorem c423_65 : fx_op 423 65 = some (.iaload, 66, 65) := by decide +kernel
theorem c423_67 : fx_op 423 67 = some (.aload_n 0, 68, 67) := by decide +kernel
theorem c423_72 : fx_op 423 72 = some (.aload_n 0, 73, 72) := by decide +kernel
theorem c423_77 : fx_op 423 77 = some (.aload_n 0, 78, 77) := by decide +kernel
theorem c423_78 : fx_gf 423 78 = some (12, 39, 81) := by decide +kernel
theorem c423_81 : fx_ci 423 81 = some (0, 82) := by decide +kernel
theorem c423_82 : fx_op 423 82 = some (.iaload, 83, 82) := by decide +kernel
theorem c423_84 : fx_op 423 84 = some (.aload_n 0, 85, 84) := by decide +kernel
theorem c423_85 : fx_gf 423 85 = some (12, 83, 88) := by decide +kernel
theorem c423_88 : fx_op 423 88 = some (.aload_n 0, 89, 88) := by decide +kernel
theorem c423_89 : fx_gf 423 89 = some (12, 80, 92) := by decide +kernel
theorem c423_94 : fx_op 423 94 = some (.aload_n 0, 95, 94) := by decide +kernel
theorem c423_95 : fx_gf 423 95 = some (12, 96, 98) := by decide +kernel
theorem c423_98 : fx_op 423 98 = some (.ifCond .eq 10, 101, 108) := by decide +kernel
theorem c423_108 : fx_ci 423 108 = some ((-1), 109) := by decide +kernel
theorem c423_101 : fx_op 423 101 = some (.aload_n 0, 102, 101) := by decide +kernel
theorem c423_110 : fx_op 423 110 = some (.aload_n 0, 111, 110) := by decide +kernel
theorem c423_111 : fx_gf 423 111 = some (12, 1, 114) := by decide +kernel
theorem c423_115 : fx_op 423 115 = some (.aload_n 0, 116, 115) := by decide +kernel
theorem c423_116 : fx_gf 423 116 = some (12, 5, 119) := by decide +kernel
theorem c423_120 : fx_op 423 120 = some (.aload_n 0, 121, 120) := by decide +kernel
theorem c423_121 : fx_gf 423 121 = some (12, 80, 124) := by decide +kernel
theorem c423_125 : fx_op 423 125 = some (.aload_n 0, 126, 125) := by decide +kernel
theorem c423_126 : fx_gf 423 126 = some (12, 89, 129) := by decide +kernel
theorem c423_130 : fx_ci 423 130 = some ((-1), 131) := by decide +kernel
theorem c423_66 : fx_op 423 66 = some (.ireturn, 67, 66) := by decide +kernel
theorem c423_68 : fx_ca 423 68 = some (280, 1, 2, 71) := by decide +kernel
theorem c423_73 : fx_ca 423 73 = some (248, 1, 2, 76) := by decide +kernel
theorem c423_83 : fx_op 423 83 = some (.ireturn, 84, 83) := by decide +kernel
theorem c423_92 : fx_op 423 92 = some (.iaload, 93, 92) := by decide +kernel
theorem c423_93 : fx_op 423 93 = some (.ireturn, 94, 93) := by decide +kernel
theorem c423_109 : fx_op 423 109 = some (.ireturn, 110, 109) := by decide +kernel
theorem c423_102 : fx_ca 423 102 = some (341, 1, 2, 105) := by decide +kernel
theorem c423_114 : fx_op 423 114 = some (.ireturn, 115, 114) := by decide +kernel
theorem c423_119 : fx_op 423 119 = some (.ireturn, 120, 119) := by decide +kernel
theorem c423_124 : fx_op 423 124 = some (.ireturn, 125, 124) := by decide +kernel
theorem c423_129 : fx_op 423 129 = some (.ireturn, 130, 129) := by decide +kernel
theorem c423_6 : fx_ts 423 6 = some (0, [60, 67, 72, 77, 84, 94, 110, 115, 120, 125], 130) := by decide +kernel
theorem c423_131 : fx_op 423 131 = some (.ireturn, 132, 131) := by decide +kernel
theorem c423_71 : fx_op 423 71 = some (.ireturn, 72, 71) := by decide +kernel
theorem c423_76 : fx_op 423 76 = some (.ireturn, 77, 76) := by decide +kernel
theorem c423_105 : fx_op 423 105 = some (.goto 4, 108, 109) := by decide +kernel
theorem s423_0 {kc : List va_E} {d : Nat} {x1 : Int} {M : fx_M} {Q : Option fx_V → fx_M → Prop} (H : fx_in32 x1 ∧ (x1 = 0 → Q (some (jI (M 149 0))) (fx_up M 133 0 0)) ∧ (x1 = 1 → wc kc d 280 [jR 133] (fx_up M 133 0 0) (fun v M1 => wp kc (d + 1) 423 71 [none, none] (v.toList ++ []) M1 Q)) ∧ (x1 = 2 → wc kc d 248 [jR 133] (fx_up M 133 0 0) (fun v M1 => wp kc (d + 1) 423 76 [none, none] (v.toList ++ []) M1 Q)) ∧ (x1 = 3 → Q (some (jI (M 148 0))) (fx_up M 133 0 0)) ∧ (x1 = 4 → (((0 : Int) ≤ M 133 80 ∧ M 133 80 < 3)) ∧ Q (some (jI (M 176 (M 133 80)))) (fx_up M 133 0 0)) ∧ (x1 = 5 → ((fx_in32 (M 133 96))) ∧ (M 133 96 = 0 → Q (some (jI (-1))) (fx_up M 133 0 0)) ∧ (M 133 96 ≠ 0 → wc kc d 341 [jR 133] (fx_up M 133 0 0) (fun v M1 => wp kc (d + 1) 423 105 [none, none] (v.toList ++ []) M1 Q))) ∧ (x1 = 6 → Q (some (jI (M 133 1))) (fx_up M 133 0 0)) ∧ (x1 = 7 → Q (some (jI (M 133 5))) (fx_up M 133 0 0)) ∧ (x1 = 8 → Q (some (jI (M 133 80))) (fx_up M 133 0 0)) ∧ (x1 = 9 → Q (some (jI (M 133 89))) (fx_up M 133 0 0)) ∧ ((x1 < 0 ∨ 10 ≤ x1) → Q (some (jI (-1))) (fx_up M 133 0 0))) : wp kc (d + 1) 423 0 [some (jR 133), some (jI x1)] [] M Q :=
  (x_aldn c423_0 rfl (x_ci c423_1 (x_pfi c423_2 k_133_0 (x_ildn c423_5 rfl (x_sw c423_6 H.1 ⟨fun h3 => (x_aldn c423_60 rfl (x_gfr c423_61 k_133_40 (x_ci c423_64 (x_iald c423_65 a_149 (by decide) (by decide) (wp_vI (fx_upA (by decide)) (x_irt c423_66 r423 (H.2.1 h3))))))), ⟨fun h4 => (x_aldn c423_67 rfl (wp_wk (l' := [none, none]) trivial (x_cv (As := []) (st := []) c423_68 cl_133 kl280 rfl (Nat.le_of_ble_eq_true rfl) mx280 (Nat.le_refl _) (H.2.2.1 h4)))), ⟨fun h5 => (x_aldn c423_72 rfl (wp_wk (l' := [none, none]) trivial (x_cv (As := []) (st := []) c423_73 cl_133 kl248 rfl (Nat.le_of_ble_eq_true rfl) mx248 (Nat.le_refl _) (H.2.2.2.1 h5)))), ⟨fun h6 => (x_aldn c423_77 rfl (x_gfr c423_78 k_133_39 (x_ci c423_81 (x_iald c423_82 a_148 (by decide) (by decide) (wp_vI (fx_upA (by decide)) (x_irt c423_83 r423 (H.2.2.2.2.1 h6))))))), ⟨fun h7 => (x_aldn c423_84 rfl (x_gfr c423_85 k_133_83 (x_aldn c423_88 rfl (x_gfi c423_89 k_133_80 (wp_vI (fx_upK (by decide)) (x_iald c423_92 a_176 (H.2.2.2.2.2.1 h7).1 (by decide) (wp_vI (fx_upA (by decide)) (x_irt c423_93 r423 (H.2.2.2.2.2.1 h7).2)))))))), ⟨fun h8 => (x_aldn c423_94 rfl (x_gfi c423_95 k_133_96 (wp_vI (fx_upK (by decide)) (x_zeq c423_98 (H.2.2.2.2.2.2.1 h8).1 (fun h1 => (x_ci c423_108 (x_irt c423_109 r423 ((H.2.2.2.2.2.2.1 h8).2.1 h1)))) (fun h2 => (x_aldn c423_101 rfl (wp_wk (l' := [none, none]) trivial (x_cv (As := []) (st := []) c423_102 cl_133 kl341 rfl (Nat.le_of_ble_eq_true rfl) mx341 (Nat.le_refl _) ((H.2.2.2.2.2.2.1 h8).2.2 h2))))))))), ⟨fun h9 => (x_aldn c423_110 rfl (x_gfi c423_111 k_133_1 (wp_vI (fx_upK (by decide)) (x_irt c423_114 r423 (H.2.2.2.2.2.2.2.1 h9))))), ⟨fun h10 => (x_aldn c423_115 rfl (x_gfi c423_116 k_133_5 (wp_vI (fx_upK (by decide)) (x_irt c423_119 r423 (H.2.2.2.2.2.2.2.2.1 h10))))), ⟨fun h11 => (x_aldn c423_120 rfl (x_gfi c423_121 k_133_80 (wp_vI (fx_upK (by decide)) (x_irt c423_124 r423 (H.2.2.2.2.2.2.2.2.2.1 h11))))), ⟨fun h12 => (x_aldn c423_125 rfl (x_gfi c423_126 k_133_89 (wp_vI (fx_upK (by decide)) (x_irt c423_129 r423 (H.2.2.2.2.2.2.2.2.2.2.1 h12))))), trivial⟩⟩⟩⟩⟩⟩⟩⟩⟩⟩ (fun h13 => (x_ci c423_130 (x_irt c423_131 r423 (H.2.2.2.2.2.2.2.2.2.2.2 h13)))))))))
theorem s423_71 {kc : List va_E} {d : Nat} {u0 : Int} {M : fx_M} {Q : Option fx_V → fx_M → Prop} (H : Q (some (jI u0)) M) : wp kc (d + 1) 423 71 [none, none] [jI u0] M Q :=
  (x_irt c423_71 r423 H)
theorem s423_76 {kc : List va_E} {d : Nat} {u0 : Int} {M : fx_M} {Q : Option fx_V → fx_M → Prop} (H : Q (some (jI u0)) M) : wp kc (d + 1) 423 76 [none, none] [jI u0] M Q :=
  (x_irt c423_76 r423 H)
theorem s423_105 {kc : List va_E} {d : Nat} {u0 : Int} {M : fx_M} {Q : Option fx_V → fx_M → Prop} (H : Q (some (jI u0)) M) : wp kc (d + 1) 423 105 [none, none] [jI u0] M Q :=
  (x_goto c423_105 (x_irt c423_109 r423 H))
theorem s423 {kc : List va_E} {d : Nat} {x1 : Int} {M : fx_M} {Q : Option fx_V → fx_M → Prop} (H : fx_in32 x1 ∧ (x1 = 0 → Q (some (jI (M 149 0))) (fx_up M 133 0 0)) ∧ (x1 = 1 → wc kc d 280 [jR 133] (fx_up M 133 0 0) (fun v M1 => wp kc (d + 1) 423 71 [none, none] (v.toList ++ []) M1 Q)) ∧ (x1 = 2 → wc kc d 248 [jR 133] (fx_up M 133 0 0) (fun v M1 => wp kc (d + 1) 423 76 [none, none] (v.toList ++ []) M1 Q)) ∧ (x1 = 3 → Q (some (jI (M 148 0))) (fx_up M 133 0 0)) ∧ (x1 = 4 → (((0 : Int) ≤ M 133 80 ∧ M 133 80 < 3)) ∧ Q (some (jI (M 176 (M 133 80)))) (fx_up M 133 0 0)) ∧ (x1 = 5 → ((fx_in32 (M 133 96))) ∧ (M 133 96 = 0 → Q (some (jI (-1))) (fx_up M 133 0 0)) ∧ (M 133 96 ≠ 0 → wc kc d 341 [jR 133] (fx_up M 133 0 0) (fun v M1 => wp kc (d + 1) 423 105 [none, none] (v.toList ++ []) M1 Q))) ∧ (x1 = 6 → Q (some (jI (M 133 1))) (fx_up M 133 0 0)) ∧ (x1 = 7 → Q (some (jI (M 133 5))) (fx_up M 133 0 0)) ∧ (x1 = 8 → Q (some (jI (M 133 80))) (fx_up M 133 0 0)) ∧ (x1 = 9 → Q (some (jI (M 133 89))) (fx_up M 133 0 0)) ∧ ((x1 < 0 ∨ 10 ≤ x1) → Q (some (jI (-1))) (fx_up M 133 0 0))) : wc kc (d + 1) 423 [jR 133, jI x1] M Q :=
  wc_of (wp_wk (l' := [some (jR 133), some (jI x1)]) ⟨rfl, ⟨rfl, trivial⟩⟩ (s423_0 H))

/- PuzzleHouseModel.byteAt(II)I -/
theorem c424_0 : fx_op 424 0 = some (.aload_n 0, 1, 0) := by decide +kernel
theorem c424_1 : fx_ci 424 1 = some (0, 2) := by decide +kernel
theorem c424_2 : fx_pf 424 2 = some (12, 0, 0, 5) := by decide +kernel
theorem c424_5 : fx_op 424 5 = some (.iload_n 1, 6, 5) := by decide +kernel
theorem c424_6 : fx_op 424 6 = some (.ifCond .lt 19, 9, 25) := by decide +kernel
theorem c424_25 : fx_ci 424 25 = some ((-1), 26) := by decide +kernel
theorem c424_26 : fx_op 424 26 = some (.goto 14, 29, 40) := by decide +kernel
theorem c424_9 : fx_op 424 9 = some (.iload_n 1, 10, 9) := by decide +kernel
theorem c424_10 : fx_ci 424 10 = some (32, 12) := by decide +kernel
theorem c424_12 : fx_op 424 12 = some (.if_icmp .ge 13, 15, 25) := by decide +kernel
theorem c424_15 : fx_op 424 15 = some (.iload_n 2, 16, 15) := by decide +kernel
theorem c424_16 : fx_op 424 16 = some (.ifCond .lt 9, 19, 25) := by decide +kernel
theorem c424_19 : fx_op 424 19 = some (.iload_n 2, 20, 19) := by decide +kernel
theorem c424_20 : fx_ci 424 20 = some (32, 22) := by decide +kernel
theorem c424_22 : fx_op 424 22 = some (.if_icmp .lt 7, 25, 29) := by decide +kernel
theorem c424_29 : fx_op 424 29 = some (.aload_n 0, 30, 29) := by decide +kernel
theorem c424_30 : fx_gf 424 30 = some (12, 97, 33) := by decide +kernel
theorem c424_33 : fx_ci 424 33 = some (32, 35) := by decide +kernel
theorem c424_35 : fx_op 424 35 = some (.iload_n 1, 36, 35) := by decide +kernel
theorem c424_36 : fx_op 424 36 = some (.imul, 37, 36) := by decide +kernel
theorem c424_37 : fx_op 424 37 = some (.iload_n 2, 38, 37) := by decide +kernel
theorem c424_38 : fx_op 424 38 = some (.iadd, 39, 38) := by decide +kernel
theorem c424_39 : fx_op 424 39 = some (.iaload, 40, 39) := by decide +kernel
theorem c424_40 : fx_op 424 40 = some (.ireturn, 41, 40) := by decide +kernel
theorem s424_0 {kc : List va_E} {d : Nat} {x1 x2 : Int} {M : fx_M} {Q : Option fx_V → fx_M → Prop} (H : ((fx_in32 x1)) ∧ (0 ≤ x1 → (fx_in32 x1)) ∧ (0 ≤ x1 → x1 < 32 → (fx_in32 x2)) ∧ (0 ≤ x1 → x1 < 32 → 0 ≤ x2 → (fx_in32 x2)) ∧ (0 ≤ x1 → x1 < 32 → 0 ≤ x2 → x2 < 32 → ((((0 : Int) ≤ (32 * x1) + x2 ∧ (32 * x1) + x2 < 1024)))) ∧ Q (some (jI (if x1 < 0 then ((-1) : Int) else (if x1 < 32 then ((if x2 < 0 then ((-1) : Int) else (if x2 < 32 then (M 188 ((32 * x1) + x2) : Int) else (-1))) : Int) else (-1))))) (fx_up M 133 0 0)) : wp kc (d + 1) 424 0 [some (jR 133), some (jI x1), some (jI x2)] [] M Q :=
  (x_aldn c424_0 rfl (x_ci c424_1 (x_pfi c424_2 k_133_0 (x_ildn c424_5 rfl (have K : wp kc (d + 1) 424 40 [none, none, none] [jI (if x1 < 0 then ((-1) : Int) else (if x1 < 32 then ((if x2 < 0 then ((-1) : Int) else (if x2 < 32 then (M 188 ((32 * x1) + x2) : Int) else (-1))) : Int) else (-1)))] (fx_up M 133 0 0) Q := (x_irt c424_40 r424 H.2.2.2.2.2); (x_zlt c424_6 H.1 (fun (h1 : x1 < 0) => (x_ci c424_25 (x_goto c424_26 (wp_wk (l' := [none, none, none]) trivial (by have K := K; first | (simp only [if_pos h1] at K ⊢; exact K) | (exfalso; omega)))))) (fun (h2 : 0 ≤ x1) => (x_ildn c424_9 rfl (x_ci c424_10 (x_cge c424_12 (H.2.1 h2) (by decide) (fun (h3 : 32 ≤ x1) => (x_ci c424_25 (x_goto c424_26 (wp_wk (l' := [none, none, none]) trivial (by have K := K; first | (simp only [if_neg (Int.not_lt.mpr h2), if_neg (Int.not_lt.mpr h3)] at K ⊢; exact K) | (exfalso; omega)))))) (fun (h4 : x1 < 32) => (x_ildn c424_15 rfl (x_zlt c424_16 (H.2.2.1 h2 h4) (fun (h5 : x2 < 0) => (x_ci c424_25 (x_goto c424_26 (wp_wk (l' := [none, none, none]) trivial (by have K := K; first | (simp only [if_neg (Int.not_lt.mpr h2), if_pos h4, if_pos h5] at K ⊢; exact K) | (exfalso; omega)))))) (fun (h6 : 0 ≤ x2) => (x_ildn c424_19 rfl (x_ci c424_20 (x_clt c424_22 (H.2.2.2.1 h2 h4 h6) (by decide) (fun (h7 : x2 < 32) => (x_aldn c424_29 rfl (x_gfr c424_30 k_133_97 (x_ci c424_33 (x_ildn c424_35 rfl (x_imul c424_36 (x_ildn c424_37 rfl (x_iadd c424_38 (x_iald c424_39 a_188 (H.2.2.2.2.1 h2 h4 h6 h7) (by decide) (wp_vI (fx_upA (by decide)) (wp_wk (l' := [none, none, none]) trivial (by have K := K; first | (simp only [if_neg (Int.not_lt.mpr h2), if_pos h4, if_neg (Int.not_lt.mpr h6), if_pos h7] at K ⊢; exact K) | (exfalso; omega))))))))))))) (fun (h8 : 32 ≤ x2) => (x_ci c424_25 (x_goto c424_26 (wp_wk (l' := [none, none, none]) trivial (by have K := K; first | (simp only [if_neg (Int.not_lt.mpr h2), if_pos h4, if_neg (Int.not_lt.mpr h6), if_neg (Int.not_lt.mpr h8)] at K ⊢; exact K) | (exfalso; omega)))))))))))))))))))))))
theorem s424 {kc : List va_E} {d : Nat} {x1 x2 : Int} {M : fx_M} {Q : Option fx_V → fx_M → Prop} (H : ((fx_in32 x1)) ∧ (0 ≤ x1 → (fx_in32 x1)) ∧ (0 ≤ x1 → x1 < 32 → (fx_in32 x2)) ∧ (0 ≤ x1 → x1 < 32 → 0 ≤ x2 → (fx_in32 x2)) ∧ (0 ≤ x1 → x1 < 32 → 0 ≤ x2 → x2 < 32 → ((((0 : Int) ≤ (32 * x1) + x2 ∧ (32 * x1) + x2 < 1024)))) ∧ Q (some (jI (if x1 < 0 then ((-1) : Int) else (if x1 < 32 then ((if x2 < 0 then ((-1) : Int) else (if x2 < 32 then (M 188 ((32 * x1) + x2) : Int) else (-1))) : Int) else (-1))))) (fx_up M 133 0 0)) : wc kc (d + 1) 424 [jR 133, jI x1, jI x2] M Q :=
  wc_of (wp_wk (l' := [some (jR 133), some (jI x1), some (jI x2)]) ⟨rfl, ⟨rfl, ⟨rfl, trivial⟩⟩⟩ (s424_0 H))

/- PuzzleHouseModel.poke(III)Z -/
theorem c425_0 : fx_op 425 0 = some (.aload_n 0, 1, 0) := by decide +kernel
theorem c425_1 : fx_ci 425 1 = some (0, 2) := by decide +kernel
theorem c425_2 : fx_pf 425 2 = some (12, 0, 0, 5) := by decide +kernel
theorem c425_5 : fx_op 425 5 = some (.iload_n 1, 6, 5) := by decide +kernel
theorem c425_6 : fx_op 425 6 = some (.ifCond .lt 31, 9, 37) := by decide +kernel
theorem c425_37 : fx_ci 425 37 = some (0, 38) := by decide +kernel
theorem c425_9 : fx_op 425 9 = some (.iload_n 1, 10, 9) := by decide +kernel
theorem c425_10 : fx_ci 425 10 = some (32, 12) := by decide +kernel
theorem c425_12 : fx_op 425 12 = some (.if_icmp .ge 25, 15, 37) := by decide +kernel
theorem c425_15 : fx_op 425 15 = some (.iload_n 2, 16, 15) := by decide +kernel
theorem c425_16 : fx_op 425 16 = some (.ifCond .lt 21, 19, 37) := by decide +kernel
theorem c425_19 : fx_op 425 19 = some (.iload_n 2, 20, 19) := by decide +kernel
theorem c425_20 : fx_ci 425 20 = some (32, 22) := by decide +kernel
theorem c425_22 : fx_op 425 22 = some (.if_icmp .ge 15, 25, 37) := by decide +kernel
theorem c425_25 : fx_op 425 25 = some (.iload_n 3, 26, 25) := by decide +kernel
theorem c425_26 : fx_ci 425 26 = some (1, 27) := by decide +kernel
theorem c425_27 : fx_op 425 27 = some (.if_icmp .lt 10, 30, 37) := by decide +kernel
theorem c425_30 : fx_op 425 30 = some (.iload_n 3, 31, 30) := by decide +kernel
theorem c425_31 : fx_ci 425 31 = some (255, 34) := by decide +kernel
theorem c425_34 : fx_op 425 34 = some (.if_icmp .le 5, 37, 39) := by decide +kernel
theorem c425_39 : fx_op 425 39 = some (.aload_n 0, 40, 39) := by decide +kernel
theorem c425_40 : fx_gf 425 40 = some (12, 97, 43) := by decide +kernel
theorem c425_43 : fx_ci 425 43 = some (32, 45) := by decide +kernel
theorem c425_45 : fx_op 425 45 = some (.iload_n 1, 46, 45) := by decide +kernel
theorem c425_46 : fx_op 425 46 = some (.imul, 47, 46) := by decide +kernel
theorem c425_47 : fx_op 425 47 = some (.iload_n 2, 48, 47) := by decide +kernel
theorem c425_48 : fx_op 425 48 = some (.iadd, 49, 48) := by decide +kernel
theorem c425_49 : fx_op 425 49 = some (.aload_n 0, 50, 49) := by decide +kernel
theorem c425_50 : fx_gf 425 50 = some (12, 97, 53) := by decide +kernel
theorem c425_53 : fx_ci 425 53 = some (32, 55) := by decide +kernel
theorem c425_55 : fx_op 425 55 = some (.iload_n 1, 56, 55) := by decide +kernel
theorem c425_56 : fx_op 425 56 = some (.imul, 57, 56) := by decide +kernel
theorem c425_57 : fx_op 425 57 = some (.iload_n 2, 58, 57) := by decide +kernel
theorem c425_58 : fx_op 425 58 = some (.iadd, 59, 58) := by decide +kernel
theorem c425_60 : fx_op 425 60 = some (.iload_n 3, 61, 60) := by decide +kernel
theorem c425_61 : fx_op 425 61 = some (.ixor, 62, 61) := by decide +kernel
theorem c425_63 : fx_op 425 63 = some (.aload_n 0, 64, 63) := by decide +kernel
theorem c425_64 : fx_ci 425 64 = some (0, 65) := by decide +kernel
theorem c425_65 : fx_pf 425 65 = some (12, 96, 2, 68) := by decide +kernel
theorem c425_68 : fx_ci 425 68 = some (1, 69) := by decide +kernel
theorem c425_38 : fx_op 425 38 = some (.ireturn, 39, 38) := by decide +kernel
theorem c425_59 : fx_op 425 59 = some (.iaload, 60, 59) := by decide +kernel
theorem c425_62 : fx_op 425 62 = some (.iastore, 63, 62) := by decide +kernel
theorem c425_69 : fx_op 425 69 = some (.ireturn, 70, 69) := by decide +kernel
theorem s425_0 {kc : List va_E} {d : Nat} {x1 x2 x3 : Int} {M : fx_M} {Q : Option fx_V → fx_M → Prop} (H : ((fx_in32 x1)) ∧ (x1 < 0 → Q (some (jI 0)) (fx_up M 133 0 0)) ∧ (0 ≤ x1 → ((fx_in32 x1)) ∧ (32 ≤ x1 → Q (some (jI 0)) (fx_up M 133 0 0)) ∧ (x1 < 32 → ((fx_in32 x2)) ∧ (x2 < 0 → Q (some (jI 0)) (fx_up M 133 0 0)) ∧ (0 ≤ x2 → ((fx_in32 x2)) ∧ (32 ≤ x2 → Q (some (jI 0)) (fx_up M 133 0 0)) ∧ (x2 < 32 → ((fx_in32 x3)) ∧ (x3 < 1 → Q (some (jI 0)) (fx_up M 133 0 0)) ∧ (1 ≤ x3 → ((fx_in32 x3)) ∧ (x3 ≤ 255 → (((0 : Int) ≤ (32 * x1) + x2 ∧ (32 * x1) + x2 < 1024)) ∧ (((0 : Int) ≤ (32 * x1) + x2 ∧ (32 * x1) + x2 < 1024)) ∧ Q (some (jI 1)) (fx_up (fx_up (fx_up M 133 0 0) 188 ((32 * x1) + x2) (fx_xor (M 188 ((32 * x1) + x2)) x3)) 133 96 0)) ∧ (255 < x3 → Q (some (jI 0)) (fx_up M 133 0 0)))))))) : wp kc (d + 1) 425 0 [some (jR 133), some (jI x1), some (jI x2), some (jI x3)] [] M Q :=
  (x_aldn c425_0 rfl (x_ci c425_1 (x_pfi c425_2 k_133_0 (x_ildn c425_5 rfl (x_zlt c425_6 H.1 (fun h11 => (x_ci c425_37 (x_zrt c425_38 r425 (by decide) (H.2.1 h11)))) (fun h12 => (x_ildn c425_9 rfl (x_ci c425_10 (x_cge c425_12 (H.2.2 h12).1 (by decide) (fun h9 => (x_ci c425_37 (x_zrt c425_38 r425 (by decide) ((H.2.2 h12).2.1 h9)))) (fun h10 => (x_ildn c425_15 rfl (x_zlt c425_16 ((H.2.2 h12).2.2 h10).1 (fun h7 => (x_ci c425_37 (x_zrt c425_38 r425 (by decide) (((H.2.2 h12).2.2 h10).2.1 h7)))) (fun h8 => (x_ildn c425_19 rfl (x_ci c425_20 (x_cge c425_22 (((H.2.2 h12).2.2 h10).2.2 h8).1 (by decide) (fun h5 => (x_ci c425_37 (x_zrt c425_38 r425 (by decide) ((((H.2.2 h12).2.2 h10).2.2 h8).2.1 h5)))) (fun h6 => (x_ildn c425_25 rfl (x_ci c425_26 (x_clt c425_27 ((((H.2.2 h12).2.2 h10).2.2 h8).2.2 h6).1 (by decide) (fun h3 => (x_ci c425_37 (x_zrt c425_38 r425 (by decide) (((((H.2.2 h12).2.2 h10).2.2 h8).2.2 h6).2.1 h3)))) (fun h4 => (x_ildn c425_30 rfl (x_ci c425_31 (x_cle c425_34 (((((H.2.2 h12).2.2 h10).2.2 h8).2.2 h6).2.2 h4).1 (by decide) (fun h1 => (x_aldn c425_39 rfl (x_gfr c425_40 k_133_97 (x_ci c425_43 (x_ildn c425_45 rfl (x_imul c425_46 (x_ildn c425_47 rfl (x_iadd c425_48 (x_aldn c425_49 rfl (x_gfr c425_50 k_133_97 (x_ci c425_53 (x_ildn c425_55 rfl (x_imul c425_56 (x_ildn c425_57 rfl (x_iadd c425_58 (x_iald c425_59 a_188 ((((((H.2.2 h12).2.2 h10).2.2 h8).2.2 h6).2.2 h4).2.1 h1).1 (by decide) (wp_vI (fx_upA (by decide)) (x_ildn c425_60 rfl (x_ixor c425_61 (x_iast c425_62 a_188 ((((((H.2.2 h12).2.2 h10).2.2 h8).2.2 h6).2.2 h4).2.1 h1).2.1 (by decide) (x_aldn c425_63 rfl (x_ci c425_64 (x_pfz c425_65 k_133_96 (by decide) (x_ci c425_68 (x_zrt c425_69 r425 (by decide) ((((((H.2.2 h12).2.2 h10).2.2 h8).2.2 h6).2.2 h4).2.1 h1).2.2))))))))))))))))))))))))) (fun h2 => (x_ci c425_37 (x_zrt c425_38 r425 (by decide) ((((((H.2.2 h12).2.2 h10).2.2 h8).2.2 h6).2.2 h4).2.2 h2))))))))))))))))))))))))))))
theorem s425 {kc : List va_E} {d : Nat} {x1 x2 x3 : Int} {M : fx_M} {Q : Option fx_V → fx_M → Prop} (H : ((fx_in32 x1)) ∧ (x1 < 0 → Q (some (jI 0)) (fx_up M 133 0 0)) ∧ (0 ≤ x1 → ((fx_in32 x1)) ∧ (32 ≤ x1 → Q (some (jI 0)) (fx_up M 133 0 0)) ∧ (x1 < 32 → ((fx_in32 x2)) ∧ (x2 < 0 → Q (some (jI 0)) (fx_up M 133 0 0)) ∧ (0 ≤ x2 → ((fx_in32 x2)) ∧ (32 ≤ x2 → Q (some (jI 0)) (fx_up M 133 0 0)) ∧ (x2 < 32 → ((fx_in32 x3)) ∧ (x3 < 1 → Q (some (jI 0)) (fx_up M 133 0 0)) ∧ (1 ≤ x3 → ((fx_in32 x3)) ∧ (x3 ≤ 255 → (((0 : Int) ≤ (32 * x1) + x2 ∧ (32 * x1) + x2 < 1024)) ∧ (((0 : Int) ≤ (32 * x1) + x2 ∧ (32 * x1) + x2 < 1024)) ∧ Q (some (jI 1)) (fx_up (fx_up (fx_up M 133 0 0) 188 ((32 * x1) + x2) (fx_xor (M 188 ((32 * x1) + x2)) x3)) 133 96 0)) ∧ (255 < x3 → Q (some (jI 0)) (fx_up M 133 0 0)))))))) : wc kc (d + 1) 425 [jR 133, jI x1, jI x2, jI x3] M Q :=
  wc_of (wp_wk (l' := [some (jR 133), some (jI x1), some (jI x2), some (jI x3)]) ⟨rfl, ⟨rfl, ⟨rfl, ⟨rfl, trivial⟩⟩⟩⟩ (s425_0 H))
