/-! SEGMENTS of Play (by gen/emit_segs.py) -/
/- PuzzleHouse$Play.begin()V -/
theorem c73_0 : fx_ci 73 0 = some (0, 1) := by decide +kernel
theorem c73_1 : fx_op 73 1 = some (.istore_n 1, 2, 1) := by decide +kernel
theorem c73_2 : fx_op 73 2 = some (.iload_n 1, 3, 2) := by decide +kernel
theorem c73_3 : fx_ci 73 3 = some (27, 5) := by decide +kernel
theorem c73_5 : fx_op 73 5 = some (.if_icmp .ge 23, 8, 28) := by decide +kernel
theorem c73_8 : fx_op 73 8 = some (.aload_n 0, 9, 8) := by decide +kernel
theorem c73_9 : fx_gf 73 9 = some (9, 1, 12) := by decide +kernel
theorem c73_12 : fx_op 73 12 = some (.iload_n 1, 13, 12) := by decide +kernel
theorem c73_13 : fx_ci 73 13 = some ((-1), 14) := by decide +kernel
theorem c73_28 : fx_ci 73 28 = some (0, 29) := by decide +kernel
theorem c73_29 : fx_op 73 29 = some (.istore_n 1, 30, 29) := by decide +kernel
theorem c73_15 : fx_op 73 15 = some (.aload_n 0, 16, 15) := by decide +kernel
theorem c73_16 : fx_gf 73 16 = some (9, 2, 19) := by decide +kernel
theorem c73_19 : fx_op 73 19 = some (.iload_n 1, 20, 19) := by decide +kernel
theorem c73_20 : fx_ci 73 20 = some (0, 21) := by decide +kernel
theorem c73_22 : fx_op 73 22 = some (.iinc 1 1, 25, 22) := by decide +kernel
theorem c73_14 : fx_op 73 14 = some (.iastore, 15, 14) := by decide +kernel
theorem c73_21 : fx_op 73 21 = some (.iastore, 22, 21) := by decide +kernel
theorem c73_25 : fx_op 73 25 = some (.goto (-23), 28, 2) := by decide +kernel
theorem c73_30 : fx_op 73 30 = some (.iload_n 1, 31, 30) := by decide +kernel
theorem c73_31 : fx_ci 73 31 = some (3, 32) := by decide +kernel
theorem c73_32 : fx_op 73 32 = some (.if_icmp .ge 23, 35, 55) := by decide +kernel
theorem c73_35 : fx_op 73 35 = some (.aload_n 0, 36, 35) := by decide +kernel
theorem c73_36 : fx_gf 73 36 = some (9, 3, 39) := by decide +kernel
theorem c73_39 : fx_op 73 39 = some (.iload_n 1, 40, 39) := by decide +kernel
theorem c73_40 : fx_ci 73 40 = some (0, 41) := by decide +kernel
theorem c73_42 : fx_op 73 42 = some (.aload_n 0, 43, 42) := by decide +kernel
theorem c73_43 : fx_gf 73 43 = some (9, 4, 46) := by decide +kernel
theorem c73_46 : fx_op 73 46 = some (.iload_n 1, 47, 46) := by decide +kernel
theorem c73_47 : fx_ci 73 47 = some ((-1), 48) := by decide +kernel
theorem c73_49 : fx_op 73 49 = some (.iinc 1 1, 52, 49) := by decide +kernel
theorem c73_55 : fx_op 73 55 = some (.return_, 56, 55) := by decide +kernel
theorem c73_41 : fx_op 73 41 = some (.iastore, 42, 41) := by decide +kernel
theorem c73_48 : fx_op 73 48 = some (.iastore, 49, 48) := by decide +kernel
theorem c73_52 : fx_op 73 52 = some (.goto (-22), 55, 30) := by decide +kernel
theorem s73_0 {kc : List va_E} {d : Nat} {M : fx_M} {Q : Option fx_V → fx_M → Prop} (H : wp kc (d + 1) 73 2 [some (jR 53), some (jI 0)] [] M Q) : wp kc (d + 1) 73 0 [some (jR 53), none] [] M Q :=
  (x_ci c73_0 (x_istn (l' := [some (jR 53), some (jI 0)]) c73_1 rfl (wp_wk (l' := [some (jR 53), some (jI 0)]) ⟨rfl, ⟨rfl, trivial⟩⟩ H)))
theorem s73_2 {kc : List va_E} {d : Nat} {v1 : Int} {M : fx_M} {Q : Option fx_V → fx_M → Prop} (H : ((fx_in32 v1)) ∧ (27 ≤ v1 → wp kc (d + 1) 73 30 [some (jR 53), some (jI 0)] [] M Q) ∧ (v1 < 27 → (((0 : Int) ≤ v1 ∧ v1 < 27)) ∧ (((0 : Int) ≤ v1 ∧ v1 < 27)) ∧ wp kc (d + 1) 73 2 [some (jR 53), some (jI (v1 + 1))] [] (fx_up (fx_up M 54 v1 (-1)) 55 v1 0) Q)) : wp kc (d + 1) 73 2 [some (jR 53), some (jI v1)] [] M Q :=
  (x_ildn c73_2 rfl (x_ci c73_3 (x_cge c73_5 H.1 (by decide) (fun h1 => (x_ci c73_28 (x_istn (l' := [some (jR 53), some (jI 0)]) c73_29 rfl (wp_wk (l' := [some (jR 53), some (jI 0)]) ⟨rfl, ⟨rfl, trivial⟩⟩ (H.2.1 h1))))) (fun h2 => (x_aldn c73_8 rfl (x_gfr c73_9 k_53_1 (x_ildn c73_12 rfl (x_ci c73_13 (x_iast c73_14 a_54 (H.2.2 h2).1 (by decide) (x_aldn c73_15 rfl (x_gfr c73_16 k_53_2 (x_ildn c73_19 rfl (x_ci c73_20 (x_iast c73_21 a_55 (H.2.2 h2).2.1 (by decide) (x_inc (l' := [some (jR 53), some (jI (v1 + 1))]) c73_22 rfl rfl (x_goto c73_25 (wp_wk (l' := [some (jR 53), some (jI (v1 + 1))]) ⟨rfl, ⟨rfl, trivial⟩⟩ (H.2.2 h2).2.2)))))))))))))))))
theorem s73_30 {kc : List va_E} {d : Nat} {v1 : Int} {M : fx_M} {Q : Option fx_V → fx_M → Prop} (H : ((fx_in32 v1)) ∧ (3 ≤ v1 → Q none M) ∧ (v1 < 3 → (((0 : Int) ≤ v1 ∧ v1 < 3)) ∧ (((0 : Int) ≤ v1 ∧ v1 < 3)) ∧ wp kc (d + 1) 73 30 [some (jR 53), some (jI (v1 + 1))] [] (fx_up (fx_up M 56 v1 0) 57 v1 (-1)) Q)) : wp kc (d + 1) 73 30 [some (jR 53), some (jI v1)] [] M Q :=
  (x_ildn c73_30 rfl (x_ci c73_31 (x_cge c73_32 H.1 (by decide) (fun h1 => (x_vr c73_55 r73 (H.2.1 h1))) (fun h2 => (x_aldn c73_35 rfl (x_gfr c73_36 k_53_3 (x_ildn c73_39 rfl (x_ci c73_40 (x_iast c73_41 a_56 (H.2.2 h2).1 (by decide) (x_aldn c73_42 rfl (x_gfr c73_43 k_53_4 (x_ildn c73_46 rfl (x_ci c73_47 (x_iast c73_48 a_57 (H.2.2 h2).2.1 (by decide) (x_inc (l' := [some (jR 53), some (jI (v1 + 1))]) c73_49 rfl rfl (x_goto c73_52 (wp_wk (l' := [some (jR 53), some (jI (v1 + 1))]) ⟨rfl, ⟨rfl, trivial⟩⟩ (H.2.2 h2).2.2)))))))))))))))))
theorem s73 {kc : List va_E} {d : Nat} {M : fx_M} {Q : Option fx_V → fx_M → Prop} (H : wp kc (d + 1) 73 2 [some (jR 53), some (jI 0)] [] M Q) : wc kc (d + 1) 73 [jR 53] M Q :=
  wc_of (wp_wk (l' := [some (jR 53), none]) ⟨rfl, trivial⟩ (s73_0 H))

/- PuzzleHouse$Play.wrongEntries(J)I -/
theorem c102_0 : fx_ci 102 0 = some (0, 1) := by decide +kernel
theorem c102_1 : fx_op 102 1 = some (.istore_n 3, 2, 1) := by decide +kernel
theorem c102_2 : fx_ci 102 2 = some (0, 3) := by decide +kernel
theorem c102_3 : fx_op 102 3 = some (.istore 4, 5, 3) := by decide +kernel
theorem c102_5 : fx_op 102 5 = some (.iload 4, 7, 5) := by decide +kernel
theorem c102_7 : fx_ci 102 7 = some (9, 9) := by decide +kernel
theorem c102_9 : fx_op 102 9 = some (.if_icmp .ge 53, 12, 62) := by decide +kernel
theorem c102_12 : fx_op 102 12 = some (.aload_n 0, 13, 12) := by decide +kernel
theorem c102_13 : fx_gf 102 13 = some (9, 1, 16) := by decide +kernel
theorem c102_16 : fx_ci 102 16 = some (9, 18) := by decide +kernel
theorem c102_18 : fx_op 102 18 = some (.aload_n 0, 19, 18) := by decide +kernel
theorem c102_19 : fx_gf 102 19 = some (9, 0, 22) := by decide +kernel
theorem c102_22 : fx_op 102 22 = some (.imul, 23, 22) := by decide +kernel
theorem c102_23 : fx_op 102 23 = some (.iload 4, 25, 23) := by decide +kernel
theorem c102_25 : fx_op 102 25 = some (.iadd, 26, 25) := by decide +kernel
theorem c102_26 : fx_op 102 26 = some (.iaload, 27, 26) := by decide +kernel
theorem c102_27 : fx_op 102 27 = some (.istore 5, 29, 27) := by decide +kernel
theorem c102_29 : fx_op 102 29 = some (.iload_n 3, 30, 29) := by decide +kernel
theorem c102_30 : fx_op 102 30 = some (.iload 5, 32, 30) := by decide +kernel
theorem c102_32 : fx_op 102 32 = some (.ifCond .lt 21, 35, 53) := by decide +kernel
theorem c102_53 : fx_ci 102 53 = some (0, 54) := by decide +kernel
theorem c102_54 : fx_op 102 54 = some (.iadd, 55, 54) := by decide +kernel
theorem c102_55 : fx_op 102 55 = some (.istore_n 3, 56, 55) := by decide +kernel
theorem c102_56 : fx_op 102 56 = some (.iinc 4 1, 59, 56) := by decide +kernel
theorem c102_62 : fx_op 102 62 = some (.iload_n 3, 63, 62) := by decide +kernel
theorem c102_35 : fx_op 102 35 = some (.lload_n 1, 36, 35) := by decide +kernel
theorem c102_36 : fx_op 102 36 = some (.iload 4, 38, 36) := by decide +kernel
theorem c102_63 : fx_op 102 63 = some (.ireturn, 64, 63) := by decide +kernel
theorem c102_59 : fx_op 102 59 = some (.goto (-54), 62, 5) := by decide +kernel
theorem c102_38 : fx_ca 102 38 = some (86, 2, 1, 41) := by decide +kernel
theorem c102_41 : fx_op 102 41 = some (.iload 5, 43, 41) := by decide +kernel
theorem c102_43 : fx_op 102 43 = some (.ishr, 44, 43) := by decide +kernel
theorem c102_44 : fx_ci 102 44 = some (1, 45) := by decide +kernel
theorem c102_45 : fx_op 102 45 = some (.iand, 46, 45) := by decide +kernel
theorem c102_46 : fx_op 102 46 = some (.ifCond .ne 7, 49, 53) := by decide +kernel
theorem c102_49 : fx_ci 102 49 = some (1, 50) := by decide +kernel
theorem c102_50 : fx_op 102 50 = some (.goto 4, 53, 54) := by decide +kernel
theorem s102_0 {kc : List va_E} {d : Nat} {x1 : Int} {M : fx_M} {Q : Option fx_V → fx_M → Prop} (H : wp kc (d + 1) 102 5 [some (jR 53), some (jL x1), none, some (jI 0), some (jI 0), none] [] M Q) : wp kc (d + 1) 102 0 [some (jR 53), some (jL x1), none, none, none, none] [] M Q :=
  (x_ci c102_0 (x_istn (l' := [some (jR 53), some (jL x1), none, some (jI 0), none, none]) c102_1 rfl (x_ci c102_2 (x_ist (l' := [some (jR 53), some (jL x1), none, some (jI 0), some (jI 0), none]) c102_3 rfl (wp_wk (l' := [some (jR 53), some (jL x1), none, some (jI 0), some (jI 0), none]) ⟨rfl, ⟨rfl, ⟨rfl, ⟨rfl, trivial⟩⟩⟩⟩ H)))))
theorem s102_5 {kc : List va_E} {d : Nat} {v1 v3 v4 : Int} {M : fx_M} {Q : Option fx_V → fx_M → Prop} (H : ((fx_in32 v4)) ∧ (9 ≤ v4 → Q (some (jI v3)) M) ∧ (v4 < 9 → (((0 : Int) ≤ (9 * (M 53 0)) + v4 ∧ (9 * (M 53 0)) + v4 < 27)) ∧ ((fx_in32 (M 54 ((9 * (M 53 0)) + v4)))) ∧ (M 54 ((9 * (M 53 0)) + v4) < 0 → wp kc (d + 1) 102 5 [some (jR 53), some (jL v1), none, some (jI (v3 + 0)), some (jI (v4 + 1)), none] [] M Q) ∧ (0 ≤ M 54 ((9 * (M 53 0)) + v4) → wc kc d 86 [jL v1, jI v4] M (fun v M1 => wp kc (d + 1) 102 41 [some (jR 53), some (jL v1), none, none, some (jI v4), some (jI (M 54 ((9 * (M 53 0)) + v4)))] (v.toList ++ [jI v3]) M1 Q)))) : wp kc (d + 1) 102 5 [some (jR 53), some (jL v1), none, some (jI v3), some (jI v4), none] [] M Q :=
  (x_ild c102_5 rfl (x_ci c102_7 (x_cge c102_9 H.1 (by decide) (fun h3 => (x_ildn c102_62 rfl (x_irt c102_63 r102 (H.2.1 h3)))) (fun h4 => (x_aldn c102_12 rfl (x_gfr c102_13 k_53_1 (x_ci c102_16 (x_aldn c102_18 rfl (x_gfi c102_19 k_53_0 (x_imul c102_22 (x_ild c102_23 rfl (x_iadd c102_25 (x_iald c102_26 a_54 (H.2.2 h4).1 (by decide) (x_ist (l' := [some (jR 53), some (jL v1), none, some (jI v3), some (jI v4), some (jI (M 54 ((9 * (M 53 0)) + v4)))]) c102_27 rfl (x_ildn c102_29 rfl (x_ild c102_30 rfl (x_zlt c102_32 (H.2.2 h4).2.1 (fun h1 => (x_ci c102_53 (x_iadd c102_54 (x_istn (l' := [some (jR 53), some (jL v1), none, some (jI (v3 + 0)), some (jI v4), some (jI (M 54 ((9 * (M 53 0)) + v4)))]) c102_55 rfl (x_inc (l' := [some (jR 53), some (jL v1), none, some (jI (v3 + 0)), some (jI (v4 + 1)), some (jI (M 54 ((9 * (M 53 0)) + v4)))]) c102_56 rfl rfl (x_goto c102_59 (wp_wk (l' := [some (jR 53), some (jL v1), none, some (jI (v3 + 0)), some (jI (v4 + 1)), none]) ⟨rfl, ⟨rfl, ⟨rfl, ⟨rfl, trivial⟩⟩⟩⟩ ((H.2.2 h4).2.2.1 h1)))))))) (fun h2 => (x_lldn c102_35 rfl (x_ild c102_36 rfl (wp_wk (l' := [some (jR 53), some (jL v1), none, none, some (jI v4), some (jI (M 54 ((9 * (M 53 0)) + v4)))]) ⟨rfl, ⟨rfl, ⟨rfl, ⟨rfl, trivial⟩⟩⟩⟩ (x_cs (As := [jL v1, jI v4]) (st := [jI v3]) c102_38 (by decide) rfl (Nat.le_of_ble_eq_true rfl) mx86 (Nat.le_refl _) ((H.2.2 h4).2.2.2 h2)))))))))))))))))))))))
theorem s102_41 {kc : List va_E} {d : Nat} {v1 v4 v5 u0 u1 : Int} {M : fx_M} {Q : Option fx_V → fx_M → Prop} (H : ((fx_in32 (fx_and (fx_shr u0 v5) 1))) ∧ wp kc (d + 1) 102 5 [some (jR 53), some (jL v1), none, some (jI (u1 + (if fx_and (fx_shr u0 v5) 1 = 0 then (1 : Int) else 0))), some (jI (v4 + 1)), none] [] M Q) : wp kc (d + 1) 102 41 [some (jR 53), some (jL v1), none, none, some (jI v4), some (jI v5)] [jI u0, jI u1] M Q :=
  (x_ild c102_41 rfl (x_ishr c102_43 (x_ci c102_44 (x_iand c102_45 (have K : wp kc (d + 1) 102 54 [some (jR 53), some (jL v1), none, none, some (jI v4), none] [jI (if fx_and (fx_shr u0 v5) 1 = 0 then (1 : Int) else 0), jI u1] M Q := (x_iadd c102_54 (x_istn (l' := [some (jR 53), some (jL v1), none, some (jI (u1 + (if fx_and (fx_shr u0 v5) 1 = 0 then (1 : Int) else 0))), some (jI v4), none]) c102_55 rfl (x_inc (l' := [some (jR 53), some (jL v1), none, some (jI (u1 + (if fx_and (fx_shr u0 v5) 1 = 0 then (1 : Int) else 0))), some (jI (v4 + 1)), none]) c102_56 rfl rfl (x_goto c102_59 (wp_wk (l' := [some (jR 53), some (jL v1), none, some (jI (u1 + (if fx_and (fx_shr u0 v5) 1 = 0 then (1 : Int) else 0))), some (jI (v4 + 1)), none]) ⟨rfl, ⟨rfl, ⟨rfl, ⟨rfl, trivial⟩⟩⟩⟩ H.2))))); (x_zne c102_46 H.1 (fun (h1 : fx_and (fx_shr u0 v5) 1 ≠ 0) => (x_ci c102_53 (wp_wk (l' := [some (jR 53), some (jL v1), none, none, some (jI v4), none]) ⟨rfl, ⟨rfl, ⟨rfl, trivial⟩⟩⟩ (by have K := K; first | (simp only [if_neg h1] at K ⊢; exact K) | (exfalso; omega))))) (fun (h2 : fx_and (fx_shr u0 v5) 1 = 0) => (x_ci c102_49 (x_goto c102_50 (wp_wk (l' := [some (jR 53), some (jL v1), none, none, some (jI v4), none]) ⟨rfl, ⟨rfl, ⟨rfl, trivial⟩⟩⟩ (by have K := K; first | (simp only [if_pos h2] at K ⊢; exact K) | (exfalso; omega))))))))))))
theorem s102 {kc : List va_E} {d : Nat} {x1 : Int} {M : fx_M} {Q : Option fx_V → fx_M → Prop} (H : wp kc (d + 1) 102 5 [some (jR 53), some (jL x1), none, some (jI 0), some (jI 0), none] [] M Q) : wc kc (d + 1) 102 [jR 53, jL x1] M Q :=
  wc_of (wp_wk (l' := [some (jR 53), some (jL x1), none, none, none, none]) ⟨rfl, ⟨rfl, trivial⟩⟩ (s102_0 H))

/- PuzzleHouse$Play.standing(LPuzzleHouse$Puzzle;)J -/
theorem c136_0 : fx_op 136 0 = some (.aload_n 1, 1, 0) := by decide +kernel
theorem c136_1 : fx_ca 136 1 = some (81, 1, 2, 4) := by decide +kernel
theorem c136_4 : fx_op 136 4 = some (.lstore_n 2, 5, 4) := by decide +kernel
theorem c136_5 : fx_ci 136 5 = some (0, 6) := by decide +kernel
theorem c136_6 : fx_op 136 6 = some (.istore 4, 8, 6) := by decide +kernel
theorem c136_8 : fx_op 136 8 = some (.iload 4, 10, 8) := by decide +kernel
theorem c136_10 : fx_op 136 10 = some (.aload_n 1, 11, 10) := by decide +kernel
theorem c136_11 : fx_gf 136 11 = some (3, 2, 14) := by decide +kernel
theorem c136_14 : fx_op 136 14 = some (.if_icmp .ge 40, 17, 54) := by decide +kernel
theorem c136_17 : fx_op 136 17 = some (.aload_n 0, 18, 17) := by decide +kernel
theorem c136_18 : fx_gf 136 18 = some (9, 1, 21) := by decide +kernel
theorem c136_21 : fx_ci 136 21 = some (9, 23) := by decide +kernel
theorem c136_23 : fx_op 136 23 = some (.aload_n 0, 24, 23) := by decide +kernel
theorem c136_24 : fx_gf 136 24 = some (9, 0, 27) := by decide +kernel
theorem c136_27 : fx_op 136 27 = some (.imul, 28, 27) := by decide +kernel
theorem c136_28 : fx_op 136 28 = some (.iload 4, 30, 28) := by decide +kernel
theorem c136_30 : fx_op 136 30 = some (.iadd, 31, 30) := by decide +kernel
theorem c136_31 : fx_op 136 31 = some (.iaload, 32, 31) := by decide +kernel
theorem c136_32 : fx_op 136 32 = some (.istore 5, 34, 32) := by decide +kernel
theorem c136_34 : fx_op 136 34 = some (.iload 5, 36, 34) := by decide +kernel
theorem c136_36 : fx_op 136 36 = some (.ifCond .lt 12, 39, 48) := by decide +kernel
theorem c136_48 : fx_op 136 48 = some (.iinc 4 1, 51, 48) := by decide +kernel
theorem c136_54 : fx_op 136 54 = some (.lload_n 2, 55, 54) := by decide +kernel
theorem c136_39 : fx_op 136 39 = some (.lload_n 2, 40, 39) := by decide +kernel
theorem c136_40 : fx_op 136 40 = some (.iload 4, 42, 40) := by decide +kernel
theorem c136_42 : fx_op 136 42 = some (.iload 5, 44, 42) := by decide +kernel
theorem c136_55 : fx_op 136 55 = some (.lreturn, 56, 55) := by decide +kernel
theorem c136_51 : fx_op 136 51 = some (.goto (-43), 54, 8) := by decide +kernel
theorem c136_44 : fx_ca 136 44 = some (83, 3, 1, 47) := by decide +kernel
theorem c136_47 : fx_op 136 47 = some (.lstore_n 2, 48, 47) := by decide +kernel
theorem s136_0 {kc : List va_E} {d : Nat} {p : Nat} {M : fx_M} {Q : Option fx_V → fx_M → Prop} (Hp : fx_puz p) (H : wc kc d 81 [jR p] M (fun v M1 => wp kc (d + 1) 136 4 [some (jR 53), some (jR p), none, none, none, none] (v.toList ++ []) M1 Q)) : wp kc (d + 1) 136 0 [some (jR 53), some (jR p), none, none, none, none] [] M Q :=
  (x_aldn c136_0 rfl (wp_wk (l' := [some (jR 53), some (jR p), none, none, none, none]) ⟨rfl, ⟨rfl, trivial⟩⟩ (x_cv (As := []) (st := []) c136_1 (clp Hp) kl81 rfl (Nat.le_of_ble_eq_true rfl) mx81 (Nat.le_refl _) H)))
theorem s136_4 {kc : List va_E} {d : Nat} {p : Nat} {u0 : Int} {M : fx_M} {Q : Option fx_V → fx_M → Prop} (Hp : fx_puz p) (H : wp kc (d + 1) 136 8 [some (jR 53), some (jR p), some (jL u0), none, some (jI 0), none] [] M Q) : wp kc (d + 1) 136 4 [some (jR 53), some (jR p), none, none, none, none] [jL u0] M Q :=
  (x_lstn (l' := [some (jR 53), some (jR p), some (jL u0), none, none, none]) c136_4 rfl (x_ci c136_5 (x_ist (l' := [some (jR 53), some (jR p), some (jL u0), none, some (jI 0), none]) c136_6 rfl (wp_wk (l' := [some (jR 53), some (jR p), some (jL u0), none, some (jI 0), none]) ⟨rfl, ⟨rfl, ⟨rfl, ⟨rfl, trivial⟩⟩⟩⟩ H))))
theorem s136_8 {kc : List va_E} {d : Nat} {p : Nat} {v2 v4 : Int} {M : fx_M} {Q : Option fx_V → fx_M → Prop} (Hp : fx_puz p) (H : ((fx_in32 v4) ∧ (fx_in32 (M p 2))) ∧ (M p 2 ≤ v4 → Q (some (jL v2)) M) ∧ (v4 < M p 2 → (((0 : Int) ≤ (9 * (M 53 0)) + v4 ∧ (9 * (M 53 0)) + v4 < 27)) ∧ ((fx_in32 (M 54 ((9 * (M 53 0)) + v4)))) ∧ (M 54 ((9 * (M 53 0)) + v4) < 0 → wp kc (d + 1) 136 8 [some (jR 53), some (jR p), some (jL v2), none, some (jI (v4 + 1)), none] [] M Q) ∧ (0 ≤ M 54 ((9 * (M 53 0)) + v4) → wc kc d 83 [jL v2, jI v4, jI (M 54 ((9 * (M 53 0)) + v4))] M (fun v M1 => wp kc (d + 1) 136 47 [some (jR 53), some (jR p), none, none, some (jI v4), none] (v.toList ++ []) M1 Q)))) : wp kc (d + 1) 136 8 [some (jR 53), some (jR p), some (jL v2), none, some (jI v4), none] [] M Q :=
  (x_ild c136_8 rfl (x_aldn c136_10 rfl (x_gfi c136_11 (kp_2 Hp) (x_cge c136_14 H.1.1 H.1.2 (fun h3 => (x_lldn c136_54 rfl (x_lrt c136_55 r136 (H.2.1 h3)))) (fun h4 => (x_aldn c136_17 rfl (x_gfr c136_18 k_53_1 (x_ci c136_21 (x_aldn c136_23 rfl (x_gfi c136_24 k_53_0 (x_imul c136_27 (x_ild c136_28 rfl (x_iadd c136_30 (x_iald c136_31 a_54 (H.2.2 h4).1 (by decide) (x_ist (l' := [some (jR 53), some (jR p), some (jL v2), none, some (jI v4), some (jI (M 54 ((9 * (M 53 0)) + v4)))]) c136_32 rfl (x_ild c136_34 rfl (x_zlt c136_36 (H.2.2 h4).2.1 (fun h1 => (x_inc (l' := [some (jR 53), some (jR p), some (jL v2), none, some (jI (v4 + 1)), some (jI (M 54 ((9 * (M 53 0)) + v4)))]) c136_48 rfl rfl (x_goto c136_51 (wp_wk (l' := [some (jR 53), some (jR p), some (jL v2), none, some (jI (v4 + 1)), none]) ⟨rfl, ⟨rfl, ⟨rfl, ⟨rfl, trivial⟩⟩⟩⟩ ((H.2.2 h4).2.2.1 h1))))) (fun h2 => (x_lldn c136_39 rfl (x_ild c136_40 rfl (x_ild c136_42 rfl (wp_wk (l' := [some (jR 53), some (jR p), none, none, some (jI v4), none]) ⟨rfl, ⟨rfl, ⟨rfl, trivial⟩⟩⟩ (x_cs (As := [jL v2, jI v4, jI (M 54 ((9 * (M 53 0)) + v4))]) (st := []) c136_44 (by decide) rfl (Nat.le_of_ble_eq_true rfl) mx83 (Nat.le_refl _) ((H.2.2 h4).2.2.2 h2))))))))))))))))))))))))
theorem s136_47 {kc : List va_E} {d : Nat} {p : Nat} {v4 u0 : Int} {M : fx_M} {Q : Option fx_V → fx_M → Prop} (Hp : fx_puz p) (H : wp kc (d + 1) 136 8 [some (jR 53), some (jR p), some (jL u0), none, some (jI (v4 + 1)), none] [] M Q) : wp kc (d + 1) 136 47 [some (jR 53), some (jR p), none, none, some (jI v4), none] [jL u0] M Q :=
  (x_lstn (l' := [some (jR 53), some (jR p), some (jL u0), none, some (jI v4), none]) c136_47 rfl (x_inc (l' := [some (jR 53), some (jR p), some (jL u0), none, some (jI (v4 + 1)), none]) c136_48 rfl rfl (x_goto c136_51 (wp_wk (l' := [some (jR 53), some (jR p), some (jL u0), none, some (jI (v4 + 1)), none]) ⟨rfl, ⟨rfl, ⟨rfl, ⟨rfl, trivial⟩⟩⟩⟩ H))))
theorem s136 {kc : List va_E} {d : Nat} {p : Nat} {M : fx_M} {Q : Option fx_V → fx_M → Prop} (Hp : fx_puz p) (H : wc kc d 81 [jR p] M (fun v M1 => wp kc (d + 1) 136 4 [some (jR 53), some (jR p), none, none, none, none] (v.toList ++ []) M1 Q)) : wc kc (d + 1) 136 [jR 53, jR p] M Q :=
  wc_of (wp_wk (l' := [some (jR 53), some (jR p), none, none, none, none]) ⟨rfl, ⟨rfl, trivial⟩⟩ (s136_0 Hp H))

/- PuzzleHouse$Play.enter(I)Ljava/lang/String; -/
theorem c168_0 : fx_op 168 0 = some (.iload_n 1, 1, 0) := by decide +kernel
theorem c168_1 : fx_ci 168 1 = some (3, 2) := by decide +kernel
theorem c168_2 : fx_op 168 2 = some (.if_icmp .lt 6, 5, 8) := by decide +kernel
theorem c168_8 : fx_op 168 8 = some (.aload_n 0, 9, 8) := by decide +kernel
theorem c168_9 : fx_op 168 9 = some (.iload_n 1, 10, 9) := by decide +kernel
theorem c168_10 : fx_pf 168 10 = some (9, 0, 0, 13) := by decide +kernel
theorem c168_13 : fx_cr 168 13 = some (1000127, 15) := by decide +kernel
theorem c168_5 : fx_cr 168 5 = some (1000125, 7) := by decide +kernel
theorem c168_15 : fx_op 168 15 = some (.areturn, 16, 15) := by decide +kernel
theorem c168_7 : fx_op 168 7 = some (.areturn, 8, 7) := by decide +kernel
theorem s168_0 {kc : List va_E} {d : Nat} {x1 : Int} {M : fx_M} {Q : Option fx_V → fx_M → Prop} (H : ((fx_in32 x1)) ∧ (x1 < 3 → Q (some (jR 1000127)) (fx_up M 53 0 x1)) ∧ (3 ≤ x1 → Q (some (jR 1000125)) M)) : wp kc (d + 1) 168 0 [some (jR 53), some (jI x1)] [] M Q :=
  (x_ildn c168_0 rfl (x_ci c168_1 (x_clt c168_2 H.1 (by decide) (fun h1 => (x_aldn c168_8 rfl (x_ildn c168_9 rfl (x_pfi c168_10 k_53_0 (x_cr c168_13 (x_art c168_15 r168 (H.2.1 h1))))))) (fun h2 => (x_cr c168_5 (x_art c168_7 r168 (H.2.2 h2)))))))
theorem s168 {kc : List va_E} {d : Nat} {x1 : Int} {M : fx_M} {Q : Option fx_V → fx_M → Prop} (H : ((fx_in32 x1)) ∧ (x1 < 3 → Q (some (jR 1000127)) (fx_up M 53 0 x1)) ∧ (3 ≤ x1 → Q (some (jR 1000125)) M)) : wc kc (d + 1) 168 [jR 53, jI x1] M Q :=
  wc_of (wp_wk (l' := [some (jR 53), some (jI x1)]) ⟨rfl, ⟨rfl, trivial⟩⟩ (s168_0 H))

/- PuzzleHouse$Play.put(LPuzzleHouse$Puzzle;II)Ljava/lang/String; -/
theorem c169_0 : fx_op 169 0 = some (.aload_n 0, 1, 0) := by decide +kernel
theorem c169_1 : fx_op 169 1 = some (.aload_n 1, 2, 1) := by decide +kernel
theorem c169_2 : fx_op 169 2 = some (.iload_n 2, 3, 2) := by decide +kernel
theorem c169_3 : fx_op 169 3 = some (.iload_n 3, 4, 3) := by decide +kernel
theorem c169_4 : fx_ca 169 4 = some (170, 4, 2, 7) := by decide +kernel
theorem c169_7 : fx_op 169 7 = some (.astore 4, 9, 7) := by decide +kernel
theorem c169_9 : fx_op 169 9 = some (.aload 4, 11, 9) := by decide +kernel
theorem c169_11 : fx_ca 169 11 = some (50, 1, 2, 14) := by decide +kernel
theorem c169_14 : fx_op 169 14 = some (.ifCond .ne 6, 17, 20) := by decide +kernel
theorem c169_20 : fx_ci 169 20 = some (9, 22) := by decide +kernel
theorem c169_22 : fx_op 169 22 = some (.aload_n 0, 23, 22) := by decide +kernel
theorem c169_23 : fx_gf 169 23 = some (9, 0, 26) := by decide +kernel
theorem c169_26 : fx_op 169 26 = some (.imul, 27, 26) := by decide +kernel
theorem c169_27 : fx_op 169 27 = some (.iload_n 2, 28, 27) := by decide +kernel
theorem c169_28 : fx_op 169 28 = some (.iadd, 29, 28) := by decide +kernel
theorem c169_29 : fx_op 169 29 = some (.istore 5, 31, 29) := by decide +kernel
theorem c169_31 : fx_op 169 31 = some (.aload_n 0, 32, 31) := by decide +kernel
theorem c169_32 : fx_gf 169 32 = some (9, 1, 35) := by decide +kernel
theorem c169_35 : fx_op 169 35 = some (.iload 5, 37, 35) := by decide +kernel
theorem c169_38 : fx_op 169 38 = some (.iload_n 3, 39, 38) := by decide +kernel
theorem c169_39 : fx_op 169 39 = some (.if_icmp .ne 6, 42, 45) := by decide +kernel
theorem c169_45 : fx_op 169 45 = some (.aload_n 0, 46, 45) := by decide +kernel
theorem c169_46 : fx_gf 169 46 = some (9, 3, 49) := by decide +kernel
theorem c169_49 : fx_op 169 49 = some (.aload_n 0, 50, 49) := by decide +kernel
theorem c169_50 : fx_gf 169 50 = some (9, 0, 53) := by decide +kernel
theorem c169_54 : fx_ci 169 54 = some (100, 56) := by decide +kernel
theorem c169_56 : fx_op 169 56 = some (.if_icmp .lt 6, 59, 62) := by decide +kernel
theorem c169_62 : fx_ci 169 62 = some (100, 64) := by decide +kernel
theorem c169_64 : fx_op 169 64 = some (.aload_n 0, 65, 64) := by decide +kernel
theorem c169_65 : fx_gf 169 65 = some (9, 0, 68) := by decide +kernel
theorem c169_68 : fx_op 169 68 = some (.imul, 69, 68) := by decide +kernel
theorem c169_69 : fx_op 169 69 = some (.aload_n 0, 70, 69) := by decide +kernel
theorem c169_70 : fx_gf 169 70 = some (9, 3, 73) := by decide +kernel
theorem c169_73 : fx_op 169 73 = some (.aload_n 0, 74, 73) := by decide +kernel
theorem c169_74 : fx_gf 169 74 = some (9, 0, 77) := by decide +kernel
theorem c169_78 : fx_op 169 78 = some (.iadd, 79, 78) := by decide +kernel
theorem c169_79 : fx_op 169 79 = some (.istore 6, 81, 79) := by decide +kernel
theorem c169_81 : fx_op 169 81 = some (.aload_n 0, 82, 81) := by decide +kernel
theorem c169_82 : fx_gf 169 82 = some (9, 5, 85) := by decide +kernel
theorem c169_85 : fx_op 169 85 = some (.iload 6, 87, 85) := by decide +kernel
theorem c169_87 : fx_op 169 87 = some (.aload_n 0, 88, 87) := by decide +kernel
theorem c169_88 : fx_gf 169 88 = some (9, 4, 91) := by decide +kernel
theorem c169_91 : fx_op 169 91 = some (.aload_n 0, 92, 91) := by decide +kernel
theorem c169_92 : fx_gf 169 92 = some (9, 0, 95) := by decide +kernel
theorem c169_97 : fx_op 169 97 = some (.aload_n 0, 98, 97) := by decide +kernel
theorem c169_98 : fx_gf 169 98 = some (9, 6, 101) := by decide +kernel
theorem c169_101 : fx_op 169 101 = some (.iload 6, 103, 101) := by decide +kernel
theorem c169_103 : fx_op 169 103 = some (.iload_n 2, 104, 103) := by decide +kernel
theorem c169_105 : fx_op 169 105 = some (.aload_n 0, 106, 105) := by decide +kernel
theorem c169_106 : fx_gf 169 106 = some (9, 7, 109) := by decide +kernel
theorem c169_109 : fx_op 169 109 = some (.iload 6, 111, 109) := by decide +kernel
theorem c169_111 : fx_op 169 111 = some (.aload_n 0, 112, 111) := by decide +kernel
theorem c169_112 : fx_gf 169 112 = some (9, 1, 115) := by decide +kernel
theorem c169_115 : fx_op 169 115 = some (.iload 5, 117, 115) := by decide +kernel
theorem c169_119 : fx_op 169 119 = some (.aload_n 0, 120, 119) := by decide +kernel
theorem c169_120 : fx_gf 169 120 = some (9, 8, 123) := by decide +kernel
theorem c169_123 : fx_op 169 123 = some (.iload 6, 125, 123) := by decide +kernel
theorem c169_125 : fx_op 169 125 = some (.iload_n 3, 126, 125) := by decide +kernel
theorem c169_127 : fx_op 169 127 = some (.aload_n 0, 128, 127) := by decide +kernel
theorem c169_128 : fx_gf 169 128 = some (9, 4, 131) := by decide +kernel
theorem c169_131 : fx_op 169 131 = some (.aload_n 0, 132, 131) := by decide +kernel
theorem c169_132 : fx_gf 169 132 = some (9, 0, 135) := by decide +kernel
theorem c169_135 : fx_op 169 135 = some (.aload_n 0, 136, 135) := by decide +kernel
theorem c169_136 : fx_gf 169 136 = some (9, 3, 139) := by decide +kernel
theorem c169_139 : fx_op 169 139 = some (.aload_n 0, 140, 139) := by decide +kernel
theorem c169_140 : fx_gf 169 140 = some (9, 0, 143) := by decide +kernel
theorem c169_145 : fx_op 169 145 = some (.aload_n 0, 146, 145) := by decide +kernel
theorem c169_146 : fx_gf 169 146 = some (9, 3, 149) := by decide +kernel
theorem c169_149 : fx_op 169 149 = some (.aload_n 0, 150, 149) := by decide +kernel
theorem c169_150 : fx_gf 169 150 = some (9, 0, 153) := by decide +kernel
theorem c169_153 : fx_op 169 153 = some (.dup2, 154, 153) := by decide +kernel
theorem c169_155 : fx_ci 169 155 = some (1, 156) := by decide +kernel
theorem c169_156 : fx_op 169 156 = some (.iadd, 157, 156) := by decide +kernel
theorem c169_158 : fx_op 169 158 = some (.aload_n 0, 159, 158) := by decide +kernel
theorem c169_159 : fx_gf 169 159 = some (9, 1, 162) := by decide +kernel
theorem c169_162 : fx_op 169 162 = some (.iload 5, 164, 162) := by decide +kernel
theorem c169_164 : fx_op 169 164 = some (.iload_n 3, 165, 164) := by decide +kernel
theorem c169_166 : fx_cr 169 166 = some (1000127, 168) := by decide +kernel
theorem c169_59 : fx_cr 169 59 = some (1000139, 61) := by decide +kernel
theorem c169_42 : fx_cr 169 42 = some (1000137, 44) := by decide +kernel
theorem c169_17 : fx_op 169 17 = some (.aload 4, 19, 17) := by decide +kernel
theorem c169_37 : fx_op 169 37 = some (.iaload, 38, 37) := by decide +kernel
theorem c169_53 : fx_op 169 53 = some (.iaload, 54, 53) := by decide +kernel
theorem c169_77 : fx_op 169 77 = some (.iaload, 78, 77) := by decide +kernel
theorem c169_95 : fx_op 169 95 = some (.iaload, 96, 95) := by decide +kernel
theorem c169_96 : fx_op 169 96 = some (.iastore, 97, 96) := by decide +kernel
theorem c169_104 : fx_op 169 104 = some (.iastore, 105, 104) := by decide +kernel
theorem c169_117 : fx_op 169 117 = some (.iaload, 118, 117) := by decide +kernel
theorem c169_118 : fx_op 169 118 = some (.iastore, 119, 118) := by decide +kernel
theorem c169_126 : fx_op 169 126 = some (.iastore, 127, 126) := by decide +kernel
theorem c169_143 : fx_op 169 143 = some (.iaload, 144, 143) := by decide +kernel
theorem c169_144 : fx_op 169 144 = some (.iastore, 145, 144) := by decide +kernel
theorem c169_154 : fx_op 169 154 = some (.iaload, 155, 154) := by decide +kernel
theorem c169_157 : fx_op 169 157 = some (.iastore, 158, 157) := by decide +kernel
theorem c169_165 : fx_op 169 165 = some (.iastore, 166, 165) := by decide +kernel
theorem c169_168 : fx_op 169 168 = some (.areturn, 169, 168) := by decide +kernel
theorem c169_61 : fx_op 169 61 = some (.areturn, 62, 61) := by decide +kernel
theorem c169_44 : fx_op 169 44 = some (.areturn, 45, 44) := by decide +kernel
theorem c169_19 : fx_op 169 19 = some (.areturn, 20, 19) := by decide +kernel
theorem s169_0 {kc : List va_E} {d : Nat} {p : Nat} {x2 x3 : Int} {M : fx_M} {Q : Option fx_V → fx_M → Prop} (Hp : fx_puz p) (H : wc kc d 170 [jR 53, jR p, jI x2, jI x3] M (fun v M1 => wp kc (d + 1) 169 7 [some (jR 53), none, some (jI x2), some (jI x3), none, none, none] (v.toList ++ []) M1 Q)) : wp kc (d + 1) 169 0 [some (jR 53), some (jR p), some (jI x2), some (jI x3), none, none, none] [] M Q :=
  (x_aldn c169_0 rfl (x_aldn c169_1 rfl (x_ildn c169_2 rfl (x_ildn c169_3 rfl (wp_wk (l' := [some (jR 53), none, some (jI x2), some (jI x3), none, none, none]) ⟨rfl, ⟨rfl, ⟨rfl, trivial⟩⟩⟩ (x_cv (As := [jR p, jI x2, jI x3]) (st := []) c169_4 cl_53 kl170 rfl (Nat.le_of_ble_eq_true rfl) mx170 (Nat.le_refl _) H))))))
theorem s169_7 {kc : List va_E} {d : Nat} {p u0 : Nat} {v2 v3 : Int} {M : fx_M} {Q : Option fx_V → fx_M → Prop} (Hp : fx_puz p) (H : fx_lit kc u0 ∧ wc kc d 50 [jR u0] M (fun v M1 => wp kc (d + 1) 169 14 [some (jR 53), none, some (jI v2), some (jI v3), some (jR u0), none, none] (v.toList ++ []) M1 Q)) : wp kc (d + 1) 169 7 [some (jR 53), none, some (jI v2), some (jI v3), none, none, none] [jR u0] M Q :=
  (x_ast (l' := [some (jR 53), none, some (jI v2), some (jI v3), some (jR u0), none, none]) c169_7 rfl (x_ald c169_9 rfl (wp_wk (l' := [some (jR 53), none, some (jI v2), some (jI v3), some (jR u0), none, none]) ⟨rfl, ⟨rfl, ⟨rfl, ⟨rfl, trivial⟩⟩⟩⟩ (x_cl (b := u0) (As := []) (st := []) c169_11 kl50 H.1 rfl (Nat.le_of_ble_eq_true rfl) mx50 (Nat.le_refl _) H.2))))
theorem s169_14 {kc : List va_E} {d : Nat} {p v4 : Nat} {v2 v3 u0 : Int} {M : fx_M} {Q : Option fx_V → fx_M → Prop} (Hp : fx_puz p) (H : ((fx_in32 u0)) ∧ (u0 ≠ 0 → (((0 : Int) ≤ (9 * (M 53 0)) + v2 ∧ (9 * (M 53 0)) + v2 < 27)) ∧ ((fx_in32 (M 54 ((9 * (M 53 0)) + v2))) ∧ (fx_in32 v3)) ∧ (M 54 ((9 * (M 53 0)) + v2) ≠ v3 → (((0 : Int) ≤ M 53 0 ∧ M 53 0 < 3)) ∧ ((fx_in32 (M 56 (M 53 0)))) ∧ (M 56 (M 53 0) < 100 → (((0 : Int) ≤ M 53 0 ∧ M 53 0 < 3)) ∧ (((0 : Int) ≤ M 53 0 ∧ M 53 0 < 3)) ∧ (((0 : Int) ≤ (100 * (M 53 0)) + (M 56 (M 53 0)) ∧ (100 * (M 53 0)) + (M 56 (M 53 0)) < 300)) ∧ (((0 : Int) ≤ (100 * (M 53 0)) + (M 56 (M 53 0)) ∧ (100 * (M 53 0)) + (M 56 (M 53 0)) < 300)) ∧ (((0 : Int) ≤ (9 * (M 53 0)) + v2 ∧ (9 * (M 53 0)) + v2 < 27)) ∧ (((0 : Int) ≤ (100 * (M 53 0)) + (M 56 (M 53 0)) ∧ (100 * (M 53 0)) + (M 56 (M 53 0)) < 300)) ∧ (((0 : Int) ≤ (100 * (M 53 0)) + (M 56 (M 53 0)) ∧ (100 * (M 53 0)) + (M 56 (M 53 0)) < 300)) ∧ (((0 : Int) ≤ M 53 0 ∧ M 53 0 < 3)) ∧ (((0 : Int) ≤ M 53 0 ∧ M 53 0 < 3)) ∧ (((0 : Int) ≤ M 53 0 ∧ M 53 0 < 3)) ∧ (((0 : Int) ≤ M 53 0 ∧ M 53 0 < 3)) ∧ (((0 : Int) ≤ (9 * (M 53 0)) + v2 ∧ (9 * (M 53 0)) + v2 < 27)) ∧ Q (some (jR 1000127)) (fx_up (fx_up (fx_up (fx_up (fx_up (fx_up (fx_up M 58 ((100 * (M 53 0)) + (M 56 (M 53 0))) (M 57 (M 53 0))) 59 ((100 * (M 53 0)) + (M 56 (M 53 0))) v2) 60 ((100 * (M 53 0)) + (M 56 (M 53 0))) (M 54 ((9 * (M 53 0)) + v2))) 61 ((100 * (M 53 0)) + (M 56 (M 53 0))) v3) 57 (M 53 0) (M 56 (M 53 0))) 56 (M 53 0) ((M 56 (M 53 0)) + 1)) 54 ((9 * (M 53 0)) + v2) v3)) ∧ (100 ≤ M 56 (M 53 0) → Q (some (jR 1000139)) M)) ∧ (M 54 ((9 * (M 53 0)) + v2) = v3 → Q (some (jR 1000137)) M)) ∧ (u0 = 0 → Q (some (jR v4)) M)) : wp kc (d + 1) 169 14 [some (jR 53), none, some (jI v2), some (jI v3), some (jR v4), none, none] [jI u0] M Q :=
  (x_zne c169_14 H.1 (fun h5 => (x_ci c169_20 (x_aldn c169_22 rfl (x_gfi c169_23 k_53_0 (x_imul c169_26 (x_ildn c169_27 rfl (x_iadd c169_28 (x_ist (l' := [some (jR 53), none, some (jI v2), some (jI v3), some (jR v4), some (jI ((9 * (M 53 0)) + v2)), none]) c169_29 rfl (x_aldn c169_31 rfl (x_gfr c169_32 k_53_1 (x_ild c169_35 rfl (x_iald c169_37 a_54 (H.2.1 h5).1 (by decide) (x_ildn c169_38 rfl (x_cne c169_39 (H.2.1 h5).2.1.1 (H.2.1 h5).2.1.2 (fun h3 => (x_aldn c169_45 rfl (x_gfr c169_46 k_53_3 (x_aldn c169_49 rfl (x_gfi c169_50 k_53_0 (x_iald c169_53 a_56 ((H.2.1 h5).2.2.1 h3).1 (by decide) (x_ci c169_54 (x_clt c169_56 ((H.2.1 h5).2.2.1 h3).2.1 (by decide) (fun h1 => (x_ci c169_62 (x_aldn c169_64 rfl (x_gfi c169_65 k_53_0 (x_imul c169_68 (x_aldn c169_69 rfl (x_gfr c169_70 k_53_3 (x_aldn c169_73 rfl (x_gfi c169_74 k_53_0 (x_iald c169_77 a_56 (((H.2.1 h5).2.2.1 h3).2.2.1 h1).1 (by decide) (x_iadd c169_78 (x_ist (l' := [some (jR 53), none, some (jI v2), some (jI v3), some (jR v4), some (jI ((9 * (M 53 0)) + v2)), some (jI ((100 * (M 53 0)) + (M 56 (M 53 0))))]) c169_79 rfl (x_aldn c169_81 rfl (x_gfr c169_82 k_53_5 (x_ild c169_85 rfl (x_aldn c169_87 rfl (x_gfr c169_88 k_53_4 (x_aldn c169_91 rfl (x_gfi c169_92 k_53_0 (x_iald c169_95 a_57 (((H.2.1 h5).2.2.1 h3).2.2.1 h1).2.1 (by decide) (x_iast c169_96 a_58 (((H.2.1 h5).2.2.1 h3).2.2.1 h1).2.2.1 (by decide) (x_aldn c169_97 rfl (x_gfr c169_98 k_53_6 (x_ild c169_101 rfl (x_ildn c169_103 rfl (x_iast c169_104 a_59 (((H.2.1 h5).2.2.1 h3).2.2.1 h1).2.2.2.1 (by decide) (x_aldn c169_105 rfl (x_gfr c169_106 k_53_7 (x_ild c169_109 rfl (x_aldn c169_111 rfl (x_gfr c169_112 k_53_1 (x_ild c169_115 rfl (x_iald c169_117 a_54 (((H.2.1 h5).2.2.1 h3).2.2.1 h1).2.2.2.2.1 (by decide) (wp_vI (((fx_upA (by decide)).trans (fx_upA (by decide)))) (x_iast c169_118 a_60 (((H.2.1 h5).2.2.1 h3).2.2.1 h1).2.2.2.2.2.1 (by decide) (x_aldn c169_119 rfl (x_gfr c169_120 k_53_8 (x_ild c169_123 rfl (x_ildn c169_125 rfl (x_iast c169_126 a_61 (((H.2.1 h5).2.2.1 h3).2.2.1 h1).2.2.2.2.2.2.1 (by decide) (x_aldn c169_127 rfl (x_gfr c169_128 k_53_4 (x_aldn c169_131 rfl (x_gfi c169_132 k_53_0 (wp_vI (((fx_upA (by decide)).trans ((fx_upA (by decide)).trans ((fx_upA (by decide)).trans (fx_upA (by decide)))))) (x_aldn c169_135 rfl (x_gfr c169_136 k_53_3 (x_aldn c169_139 rfl (x_gfi c169_140 k_53_0 (wp_vI (((fx_upA (by decide)).trans ((fx_upA (by decide)).trans ((fx_upA (by decide)).trans (fx_upA (by decide)))))) (x_iald c169_143 a_56 (((H.2.1 h5).2.2.1 h3).2.2.1 h1).2.2.2.2.2.2.2.1 (by decide) (wp_vI (((fx_upA (by decide)).trans ((fx_upA (by decide)).trans ((fx_upA (by decide)).trans (fx_upA (by decide)))))) (x_iast c169_144 a_57 (((H.2.1 h5).2.2.1 h3).2.2.1 h1).2.2.2.2.2.2.2.2.1 (by decide) (x_aldn c169_145 rfl (x_gfr c169_146 k_53_3 (x_aldn c169_149 rfl (x_gfi c169_150 k_53_0 (wp_vI (((fx_upA (by decide)).trans ((fx_upA (by decide)).trans ((fx_upA (by decide)).trans ((fx_upA (by decide)).trans (fx_upA (by decide))))))) (x_dup2 c169_153 (x_iald c169_154 a_56 (((H.2.1 h5).2.2.1 h3).2.2.1 h1).2.2.2.2.2.2.2.2.2.1 (by decide) (wp_vI (((fx_upA (by decide)).trans ((fx_upA (by decide)).trans ((fx_upA (by decide)).trans ((fx_upA (by decide)).trans (fx_upA (by decide))))))) (x_ci c169_155 (x_iadd c169_156 (x_iast c169_157 a_56 (((H.2.1 h5).2.2.1 h3).2.2.1 h1).2.2.2.2.2.2.2.2.2.2.1 (by decide) (x_aldn c169_158 rfl (x_gfr c169_159 k_53_1 (x_ild c169_162 rfl (x_ildn c169_164 rfl (x_iast c169_165 a_54 (((H.2.1 h5).2.2.1 h3).2.2.1 h1).2.2.2.2.2.2.2.2.2.2.2.1 (by decide) (x_cr c169_166 (x_art c169_168 r169 (((H.2.1 h5).2.2.1 h3).2.2.1 h1).2.2.2.2.2.2.2.2.2.2.2.2))))))))))))))))))))))))))))))))))))))))))))))))))))))))))))))))))))))) (fun h2 => (x_cr c169_59 (x_art c169_61 r169 (((H.2.1 h5).2.2.1 h3).2.2.2 h2)))))))))))) (fun h4 => (x_cr c169_42 (x_art c169_44 r169 ((H.2.1 h5).2.2.2 h4)))))))))))))))))) (fun h6 => (x_ald c169_17 rfl (x_art c169_19 r169 (H.2.2 h6)))))
theorem s169 {kc : List va_E} {d : Nat} {p : Nat} {x2 x3 : Int} {M : fx_M} {Q : Option fx_V → fx_M → Prop} (Hp : fx_puz p) (H : wc kc d 170 [jR 53, jR p, jI x2, jI x3] M (fun v M1 => wp kc (d + 1) 169 7 [some (jR 53), none, some (jI x2), some (jI x3), none, none, none] (v.toList ++ []) M1 Q)) : wc kc (d + 1) 169 [jR 53, jR p, jI x2, jI x3] M Q :=
  wc_of (wp_wk (l' := [some (jR 53), some (jR p), some (jI x2), some (jI x3), none, none, none]) ⟨rfl, ⟨rfl, ⟨rfl, ⟨rfl, trivial⟩⟩⟩⟩ (s169_0 Hp H))

/- PuzzleHouse$Play.refusal(LPuzzleHouse$Puzzle;II)Ljava/lang/String; -/
theorem c170_0 : fx_op 170 0 = some (.iload_n 2, 1, 0) := by decide +kernel
theorem c170_1 : fx_op 170 1 = some (.aload_n 1, 2, 1) := by decide +kernel
theorem c170_2 : fx_gf 170 2 = some (3, 2, 5) := by decide +kernel
theorem c170_5 : fx_op 170 5 = some (.if_icmp .lt 6, 8, 11) := by decide +kernel
theorem c170_11 : fx_op 170 11 = some (.aload_n 1, 12, 11) := by decide +kernel
theorem c170_12 : fx_gf 170 12 = some (3, 10, 15) := by decide +kernel
theorem c170_15 : fx_op 170 15 = some (.iload_n 2, 16, 15) := by decide +kernel
theorem c170_17 : fx_op 170 17 = some (.ifCond .lt 6, 20, 23) := by decide +kernel
theorem c170_23 : fx_op 170 23 = some (.iload_n 3, 24, 23) := by decide +kernel
theorem c170_24 : fx_op 170 24 = some (.aload_n 1, 25, 24) := by decide +kernel
theorem c170_25 : fx_gf 170 25 = some (3, 3, 28) := by decide +kernel
theorem c170_28 : fx_op 170 28 = some (.if_icmp .lt 8, 31, 36) := by decide +kernel
theorem c170_36 : fx_cr 170 36 = some (1000135, 38) := by decide +kernel
theorem c170_31 : fx_cr 170 31 = some (1000133, 33) := by decide +kernel
theorem c170_33 : fx_op 170 33 = some (.goto 5, 36, 38) := by decide +kernel
theorem c170_20 : fx_cr 170 20 = some (1000131, 22) := by decide +kernel
theorem c170_8 : fx_cr 170 8 = some (1000129, 10) := by decide +kernel
theorem c170_16 : fx_op 170 16 = some (.iaload, 17, 16) := by decide +kernel
theorem c170_38 : fx_op 170 38 = some (.areturn, 39, 38) := by decide +kernel
theorem c170_22 : fx_op 170 22 = some (.areturn, 23, 22) := by decide +kernel
theorem c170_10 : fx_op 170 10 = some (.areturn, 11, 10) := by decide +kernel
theorem s170_0 {kc : List va_E} {d : Nat} {p : Nat} {x2 x3 : Int} {M : fx_M} {Q : Option fx_V → fx_M → Prop} (Hp : fx_puz p) (H : ((fx_in32 x2) ∧ (fx_in32 (M p 2))) ∧ (x2 < M p 2 → (((0 : Int) ≤ x2 ∧ x2 < 9)) ∧ ((fx_in32 (M (p + 6) x2))) ∧ (M (p + 6) x2 < 0 → ((fx_in32 x3) ∧ (fx_in32 (M p 3))) ∧ (x3 < M p 3 → Q (some (jR 1000135)) M) ∧ (M p 3 ≤ x3 → Q (some (jR 1000133)) M)) ∧ (0 ≤ M (p + 6) x2 → Q (some (jR 1000131)) M)) ∧ (M p 2 ≤ x2 → Q (some (jR 1000129)) M)) : wp kc (d + 1) 170 0 [some (jR 53), some (jR p), some (jI x2), some (jI x3)] [] M Q :=
  (x_ildn c170_0 rfl (x_aldn c170_1 rfl (x_gfi c170_2 (kp_2 Hp) (x_clt c170_5 H.1.1 H.1.2 (fun h5 => (x_aldn c170_11 rfl (x_gfr c170_12 (kp_10 Hp) (x_ildn c170_15 rfl (x_iald c170_16 (ap_6 Hp) (H.2.1 h5).1 (by decide) (x_zlt c170_17 (H.2.1 h5).2.1 (fun h3 => (x_ildn c170_23 rfl (x_aldn c170_24 rfl (x_gfi c170_25 (kp_3 Hp) (x_clt c170_28 ((H.2.1 h5).2.2.1 h3).1.1 ((H.2.1 h5).2.2.1 h3).1.2 (fun h1 => (x_cr c170_36 (x_art c170_38 r170 (((H.2.1 h5).2.2.1 h3).2.1 h1)))) (fun h2 => (x_cr c170_31 (x_goto c170_33 (x_art c170_38 r170 (((H.2.1 h5).2.2.1 h3).2.2 h2)))))))))) (fun h4 => (x_cr c170_20 (x_art c170_22 r170 ((H.2.1 h5).2.2.2 h4)))))))))) (fun h6 => (x_cr c170_8 (x_art c170_10 r170 (H.2.2 h6))))))))
theorem s170 {kc : List va_E} {d : Nat} {p : Nat} {x2 x3 : Int} {M : fx_M} {Q : Option fx_V → fx_M → Prop} (Hp : fx_puz p) (H : ((fx_in32 x2) ∧ (fx_in32 (M p 2))) ∧ (x2 < M p 2 → (((0 : Int) ≤ x2 ∧ x2 < 9)) ∧ ((fx_in32 (M (p + 6) x2))) ∧ (M (p + 6) x2 < 0 → ((fx_in32 x3) ∧ (fx_in32 (M p 3))) ∧ (x3 < M p 3 → Q (some (jR 1000135)) M) ∧ (M p 3 ≤ x3 → Q (some (jR 1000133)) M)) ∧ (0 ≤ M (p + 6) x2 → Q (some (jR 1000131)) M)) ∧ (M p 2 ≤ x2 → Q (some (jR 1000129)) M)) : wc kc (d + 1) 170 [jR 53, jR p, jI x2, jI x3] M Q :=
  wc_of (wp_wk (l' := [some (jR 53), some (jR p), some (jI x2), some (jI x3)]) ⟨rfl, ⟨rfl, ⟨rfl, ⟨rfl, trivial⟩⟩⟩⟩ (s170_0 Hp H))

/- PuzzleHouse$Play.undo()Ljava/lang/String; -/
theorem c171_0 : fx_op 171 0 = some (.aload_n 0, 1, 0) := by decide +kernel
theorem c171_1 : fx_gf 171 1 = some (9, 4, 4) := by decide +kernel
theorem c171_4 : fx_op 171 4 = some (.aload_n 0, 5, 4) := by decide +kernel
theorem c171_5 : fx_gf 171 5 = some (9, 0, 8) := by decide +kernel
theorem c171_9 : fx_op 171 9 = some (.ifCond .ge 6, 12, 15) := by decide +kernel
theorem c171_15 : fx_ci 171 15 = some (100, 17) := by decide +kernel
theorem c171_17 : fx_op 171 17 = some (.aload_n 0, 18, 17) := by decide +kernel
theorem c171_18 : fx_gf 171 18 = some (9, 0, 21) := by decide +kernel
theorem c171_21 : fx_op 171 21 = some (.imul, 22, 21) := by decide +kernel
theorem c171_22 : fx_op 171 22 = some (.aload_n 0, 23, 22) := by decide +kernel
theorem c171_23 : fx_gf 171 23 = some (9, 4, 26) := by decide +kernel
theorem c171_26 : fx_op 171 26 = some (.aload_n 0, 27, 26) := by decide +kernel
theorem c171_27 : fx_gf 171 27 = some (9, 0, 30) := by decide +kernel
theorem c171_31 : fx_op 171 31 = some (.iadd, 32, 31) := by decide +kernel
theorem c171_32 : fx_op 171 32 = some (.istore_n 1, 33, 32) := by decide +kernel
theorem c171_33 : fx_op 171 33 = some (.aload_n 0, 34, 33) := by decide +kernel
theorem c171_34 : fx_gf 171 34 = some (9, 1, 37) := by decide +kernel
theorem c171_37 : fx_ci 171 37 = some (9, 39) := by decide +kernel
theorem c171_39 : fx_op 171 39 = some (.aload_n 0, 40, 39) := by decide +kernel
theorem c171_40 : fx_gf 171 40 = some (9, 0, 43) := by decide +kernel
theorem c171_43 : fx_op 171 43 = some (.imul, 44, 43) := by decide +kernel
theorem c171_44 : fx_op 171 44 = some (.aload_n 0, 45, 44) := by decide +kernel
theorem c171_45 : fx_gf 171 45 = some (9, 6, 48) := by decide +kernel
theorem c171_48 : fx_op 171 48 = some (.iload_n 1, 49, 48) := by decide +kernel
theorem c171_50 : fx_op 171 50 = some (.iadd, 51, 50) := by decide +kernel
theorem c171_51 : fx_op 171 51 = some (.aload_n 0, 52, 51) := by decide +kernel
theorem c171_52 : fx_gf 171 52 = some (9, 7, 55) := by decide +kernel
theorem c171_55 : fx_op 171 55 = some (.iload_n 1, 56, 55) := by decide +kernel
theorem c171_58 : fx_op 171 58 = some (.aload_n 0, 59, 58) := by decide +kernel
theorem c171_59 : fx_gf 171 59 = some (9, 4, 62) := by decide +kernel
theorem c171_62 : fx_op 171 62 = some (.aload_n 0, 63, 62) := by decide +kernel
theorem c171_63 : fx_gf 171 63 = some (9, 0, 66) := by decide +kernel
theorem c171_66 : fx_op 171 66 = some (.aload_n 0, 67, 66) := by decide +kernel
theorem c171_67 : fx_gf 171 67 = some (9, 5, 70) := by decide +kernel
theorem c171_70 : fx_op 171 70 = some (.iload_n 1, 71, 70) := by decide +kernel
theorem c171_73 : fx_cr 171 73 = some (1000127, 75) := by decide +kernel
theorem c171_12 : fx_cr 171 12 = some (1000141, 14) := by decide +kernel
theorem c171_8 : fx_op 171 8 = some (.iaload, 9, 8) := by decide +kernel
theorem c171_30 : fx_op 171 30 = some (.iaload, 31, 30) := by decide +kernel
theorem c171_49 : fx_op 171 49 = some (.iaload, 50, 49) := by decide +kernel
theorem c171_56 : fx_op 171 56 = some (.iaload, 57, 56) := by decide +kernel
theorem c171_57 : fx_op 171 57 = some (.iastore, 58, 57) := by decide +kernel
theorem c171_71 : fx_op 171 71 = some (.iaload, 72, 71) := by decide +kernel
theorem c171_72 : fx_op 171 72 = some (.iastore, 73, 72) := by decide +kernel
theorem c171_75 : fx_op 171 75 = some (.areturn, 76, 75) := by decide +kernel
theorem c171_14 : fx_op 171 14 = some (.areturn, 15, 14) := by decide +kernel
theorem s171_0 {kc : List va_E} {d : Nat} {M : fx_M} {Q : Option fx_V → fx_M → Prop} (H : (((0 : Int) ≤ M 53 0 ∧ M 53 0 < 3)) ∧ ((fx_in32 (M 57 (M 53 0)))) ∧ (0 ≤ M 57 (M 53 0) → (((0 : Int) ≤ M 53 0 ∧ M 53 0 < 3)) ∧ (((0 : Int) ≤ (100 * (M 53 0)) + (M 57 (M 53 0)) ∧ (100 * (M 53 0)) + (M 57 (M 53 0)) < 300)) ∧ (((0 : Int) ≤ (100 * (M 53 0)) + (M 57 (M 53 0)) ∧ (100 * (M 53 0)) + (M 57 (M 53 0)) < 300)) ∧ (((0 : Int) ≤ (9 * (M 53 0)) + (M 59 ((100 * (M 53 0)) + (M 57 (M 53 0)))) ∧ (9 * (M 53 0)) + (M 59 ((100 * (M 53 0)) + (M 57 (M 53 0)))) < 27)) ∧ (((0 : Int) ≤ (100 * (M 53 0)) + (M 57 (M 53 0)) ∧ (100 * (M 53 0)) + (M 57 (M 53 0)) < 300)) ∧ (((0 : Int) ≤ M 53 0 ∧ M 53 0 < 3)) ∧ Q (some (jR 1000127)) (fx_up (fx_up M 54 ((9 * (M 53 0)) + (M 59 ((100 * (M 53 0)) + (M 57 (M 53 0))))) (M 60 ((100 * (M 53 0)) + (M 57 (M 53 0))))) 57 (M 53 0) (M 58 ((100 * (M 53 0)) + (M 57 (M 53 0)))))) ∧ (M 57 (M 53 0) < 0 → Q (some (jR 1000141)) M)) : wp kc (d + 1) 171 0 [some (jR 53), none] [] M Q :=
  (x_aldn c171_0 rfl (x_gfr c171_1 k_53_4 (x_aldn c171_4 rfl (x_gfi c171_5 k_53_0 (x_iald c171_8 a_57 H.1 (by decide) (x_zge c171_9 H.2.1 (fun h1 => (x_ci c171_15 (x_aldn c171_17 rfl (x_gfi c171_18 k_53_0 (x_imul c171_21 (x_aldn c171_22 rfl (x_gfr c171_23 k_53_4 (x_aldn c171_26 rfl (x_gfi c171_27 k_53_0 (x_iald c171_30 a_57 (H.2.2.1 h1).1 (by decide) (x_iadd c171_31 (x_istn (l' := [some (jR 53), some (jI ((100 * (M 53 0)) + (M 57 (M 53 0))))]) c171_32 rfl (x_aldn c171_33 rfl (x_gfr c171_34 k_53_1 (x_ci c171_37 (x_aldn c171_39 rfl (x_gfi c171_40 k_53_0 (x_imul c171_43 (x_aldn c171_44 rfl (x_gfr c171_45 k_53_6 (x_ildn c171_48 rfl (x_iald c171_49 a_59 (H.2.2.1 h1).2.1 (by decide) (x_iadd c171_50 (x_aldn c171_51 rfl (x_gfr c171_52 k_53_7 (x_ildn c171_55 rfl (x_iald c171_56 a_60 (H.2.2.1 h1).2.2.1 (by decide) (x_iast c171_57 a_54 (H.2.2.1 h1).2.2.2.1 (by decide) (x_aldn c171_58 rfl (x_gfr c171_59 k_53_4 (x_aldn c171_62 rfl (x_gfi c171_63 k_53_0 (wp_vI (fx_upA (by decide)) (x_aldn c171_66 rfl (x_gfr c171_67 k_53_5 (x_ildn c171_70 rfl (x_iald c171_71 a_58 (H.2.2.1 h1).2.2.2.2.1 (by decide) (wp_vI (fx_upA (by decide)) (x_iast c171_72 a_57 (H.2.2.1 h1).2.2.2.2.2.1 (by decide) (x_cr c171_73 (x_art c171_75 r171 (H.2.2.1 h1).2.2.2.2.2.2))))))))))))))))))))))))))))))))))))))))) (fun h2 => (x_cr c171_12 (x_art c171_14 r171 (H.2.2.2 h2))))))))))
theorem s171 {kc : List va_E} {d : Nat} {M : fx_M} {Q : Option fx_V → fx_M → Prop} (H : (((0 : Int) ≤ M 53 0 ∧ M 53 0 < 3)) ∧ ((fx_in32 (M 57 (M 53 0)))) ∧ (0 ≤ M 57 (M 53 0) → (((0 : Int) ≤ M 53 0 ∧ M 53 0 < 3)) ∧ (((0 : Int) ≤ (100 * (M 53 0)) + (M 57 (M 53 0)) ∧ (100 * (M 53 0)) + (M 57 (M 53 0)) < 300)) ∧ (((0 : Int) ≤ (100 * (M 53 0)) + (M 57 (M 53 0)) ∧ (100 * (M 53 0)) + (M 57 (M 53 0)) < 300)) ∧ (((0 : Int) ≤ (9 * (M 53 0)) + (M 59 ((100 * (M 53 0)) + (M 57 (M 53 0)))) ∧ (9 * (M 53 0)) + (M 59 ((100 * (M 53 0)) + (M 57 (M 53 0)))) < 27)) ∧ (((0 : Int) ≤ (100 * (M 53 0)) + (M 57 (M 53 0)) ∧ (100 * (M 53 0)) + (M 57 (M 53 0)) < 300)) ∧ (((0 : Int) ≤ M 53 0 ∧ M 53 0 < 3)) ∧ Q (some (jR 1000127)) (fx_up (fx_up M 54 ((9 * (M 53 0)) + (M 59 ((100 * (M 53 0)) + (M 57 (M 53 0))))) (M 60 ((100 * (M 53 0)) + (M 57 (M 53 0))))) 57 (M 53 0) (M 58 ((100 * (M 53 0)) + (M 57 (M 53 0)))))) ∧ (M 57 (M 53 0) < 0 → Q (some (jR 1000141)) M)) : wc kc (d + 1) 171 [jR 53] M Q :=
  wc_of (wp_wk (l' := [some (jR 53), none]) ⟨rfl, trivial⟩ (s171_0 H))

/- PuzzleHouse$Play.redo(I)Ljava/lang/String; -/
theorem c172_0 : fx_op 172 0 = some (.iload_n 1, 1, 0) := by decide +kernel
theorem c172_1 : fx_op 172 1 = some (.istore_n 2, 2, 1) := by decide +kernel
theorem c172_2 : fx_ci 172 2 = some (0, 3) := by decide +kernel
theorem c172_3 : fx_op 172 3 = some (.istore_n 3, 4, 3) := by decide +kernel
theorem c172_4 : fx_op 172 4 = some (.iload_n 3, 5, 4) := by decide +kernel
theorem c172_5 : fx_op 172 5 = some (.aload_n 0, 6, 5) := by decide +kernel
theorem c172_6 : fx_gf 172 6 = some (9, 3, 9) := by decide +kernel
theorem c172_9 : fx_op 172 9 = some (.aload_n 0, 10, 9) := by decide +kernel
theorem c172_10 : fx_gf 172 10 = some (9, 0, 13) := by decide +kernel
theorem c172_14 : fx_op 172 14 = some (.if_icmp .ge 86, 17, 100) := by decide +kernel
theorem c172_100 : fx_cr 172 100 = some (1000141, 102) := by decide +kernel
theorem c172_17 : fx_ci 172 17 = some (100, 19) := by decide +kernel
theorem c172_19 : fx_op 172 19 = some (.aload_n 0, 20, 19) := by decide +kernel
theorem c172_20 : fx_gf 172 20 = some (9, 0, 23) := by decide +kernel
theorem c172_23 : fx_op 172 23 = some (.imul, 24, 23) := by decide +kernel
theorem c172_24 : fx_op 172 24 = some (.iload_n 3, 25, 24) := by decide +kernel
theorem c172_25 : fx_op 172 25 = some (.iadd, 26, 25) := by decide +kernel
theorem c172_26 : fx_op 172 26 = some (.istore 4, 28, 26) := by decide +kernel
theorem c172_28 : fx_op 172 28 = some (.aload_n 0, 29, 28) := by decide +kernel
theorem c172_29 : fx_gf 172 29 = some (9, 5, 32) := by decide +kernel
theorem c172_32 : fx_op 172 32 = some (.iload 4, 34, 32) := by decide +kernel
theorem c172_35 : fx_op 172 35 = some (.aload_n 0, 36, 35) := by decide +kernel
theorem c172_36 : fx_gf 172 36 = some (9, 4, 39) := by decide +kernel
theorem c172_39 : fx_op 172 39 = some (.aload_n 0, 40, 39) := by decide +kernel
theorem c172_40 : fx_gf 172 40 = some (9, 0, 43) := by decide +kernel
theorem c172_44 : fx_op 172 44 = some (.if_icmp .ne 50, 47, 94) := by decide +kernel
theorem c172_94 : fx_op 172 94 = some (.iinc 3 1, 97, 94) := by decide +kernel
theorem c172_47 : fx_op 172 47 = some (.iload_n 2, 48, 47) := by decide +kernel
theorem c172_48 : fx_op 172 48 = some (.ifCond .ne 43, 51, 91) := by decide +kernel
theorem c172_91 : fx_op 172 91 = some (.iinc 2 (-1), 94, 91) := by decide +kernel
theorem c172_51 : fx_op 172 51 = some (.aload_n 0, 52, 51) := by decide +kernel
theorem c172_52 : fx_gf 172 52 = some (9, 1, 55) := by decide +kernel
theorem c172_55 : fx_ci 172 55 = some (9, 57) := by decide +kernel
theorem c172_57 : fx_op 172 57 = some (.aload_n 0, 58, 57) := by decide +kernel
theorem c172_58 : fx_gf 172 58 = some (9, 0, 61) := by decide +kernel
theorem c172_61 : fx_op 172 61 = some (.imul, 62, 61) := by decide +kernel
theorem c172_62 : fx_op 172 62 = some (.aload_n 0, 63, 62) := by decide +kernel
theorem c172_63 : fx_gf 172 63 = some (9, 6, 66) := by decide +kernel
theorem c172_66 : fx_op 172 66 = some (.iload 4, 68, 66) := by decide +kernel
theorem c172_69 : fx_op 172 69 = some (.iadd, 70, 69) := by decide +kernel
theorem c172_70 : fx_op 172 70 = some (.aload_n 0, 71, 70) := by decide +kernel
theorem c172_71 : fx_gf 172 71 = some (9, 8, 74) := by decide +kernel
theorem c172_74 : fx_op 172 74 = some (.iload 4, 76, 74) := by decide +kernel
theorem c172_78 : fx_op 172 78 = some (.aload_n 0, 79, 78) := by decide +kernel
theorem c172_79 : fx_gf 172 79 = some (9, 4, 82) := by decide +kernel
theorem c172_82 : fx_op 172 82 = some (.aload_n 0, 83, 82) := by decide +kernel
theorem c172_83 : fx_gf 172 83 = some (9, 0, 86) := by decide +kernel
theorem c172_86 : fx_op 172 86 = some (.iload_n 3, 87, 86) := by decide +kernel
theorem c172_88 : fx_cr 172 88 = some (1000127, 90) := by decide +kernel
theorem c172_13 : fx_op 172 13 = some (.iaload, 14, 13) := by decide +kernel
theorem c172_102 : fx_op 172 102 = some (.areturn, 103, 102) := by decide +kernel
theorem c172_34 : fx_op 172 34 = some (.iaload, 35, 34) := by decide +kernel
theorem c172_43 : fx_op 172 43 = some (.iaload, 44, 43) := by decide +kernel
theorem c172_97 : fx_op 172 97 = some (.goto (-93), 100, 4) := by decide +kernel
theorem c172_68 : fx_op 172 68 = some (.iaload, 69, 68) := by decide +kernel
theorem c172_76 : fx_op 172 76 = some (.iaload, 77, 76) := by decide +kernel
theorem c172_77 : fx_op 172 77 = some (.iastore, 78, 77) := by decide +kernel
theorem c172_87 : fx_op 172 87 = some (.iastore, 88, 87) := by decide +kernel
theorem c172_90 : fx_op 172 90 = some (.areturn, 91, 90) := by decide +kernel
theorem s172_0 {kc : List va_E} {d : Nat} {x1 : Int} {M : fx_M} {Q : Option fx_V → fx_M → Prop} (H : wp kc (d + 1) 172 4 [some (jR 53), none, some (jI x1), some (jI 0), none] [] M Q) : wp kc (d + 1) 172 0 [some (jR 53), some (jI x1), none, none, none] [] M Q :=
  (x_ildn c172_0 rfl (x_istn (l' := [some (jR 53), some (jI x1), some (jI x1), none, none]) c172_1 rfl (x_ci c172_2 (x_istn (l' := [some (jR 53), some (jI x1), some (jI x1), some (jI 0), none]) c172_3 rfl (wp_wk (l' := [some (jR 53), none, some (jI x1), some (jI 0), none]) ⟨rfl, ⟨rfl, ⟨rfl, trivial⟩⟩⟩ H)))))
theorem s172_4 {kc : List va_E} {d : Nat} {v2 v3 : Int} {M : fx_M} {Q : Option fx_V → fx_M → Prop} (H : (((0 : Int) ≤ M 53 0 ∧ M 53 0 < 3)) ∧ ((fx_in32 v3) ∧ (fx_in32 (M 56 (M 53 0)))) ∧ (M 56 (M 53 0) ≤ v3 → Q (some (jR 1000141)) M) ∧ (v3 < M 56 (M 53 0) → (((0 : Int) ≤ (100 * (M 53 0)) + v3 ∧ (100 * (M 53 0)) + v3 < 300)) ∧ (((0 : Int) ≤ M 53 0 ∧ M 53 0 < 3)) ∧ ((fx_in32 (M 58 ((100 * (M 53 0)) + v3))) ∧ (fx_in32 (M 57 (M 53 0)))) ∧ (M 58 ((100 * (M 53 0)) + v3) ≠ M 57 (M 53 0) → wp kc (d + 1) 172 4 [some (jR 53), none, some (jI v2), some (jI (v3 + 1)), none] [] M Q) ∧ (M 58 ((100 * (M 53 0)) + v3) = M 57 (M 53 0) → ((fx_in32 v2)) ∧ (v2 ≠ 0 → wp kc (d + 1) 172 4 [some (jR 53), none, some (jI (v2 + (-1))), some (jI (v3 + 1)), none] [] M Q) ∧ (v2 = 0 → (((0 : Int) ≤ (100 * (M 53 0)) + v3 ∧ (100 * (M 53 0)) + v3 < 300)) ∧ (((0 : Int) ≤ (100 * (M 53 0)) + v3 ∧ (100 * (M 53 0)) + v3 < 300)) ∧ (((0 : Int) ≤ (9 * (M 53 0)) + (M 59 ((100 * (M 53 0)) + v3)) ∧ (9 * (M 53 0)) + (M 59 ((100 * (M 53 0)) + v3)) < 27)) ∧ (((0 : Int) ≤ M 53 0 ∧ M 53 0 < 3)) ∧ Q (some (jR 1000127)) (fx_up (fx_up M 54 ((9 * (M 53 0)) + (M 59 ((100 * (M 53 0)) + v3))) (M 61 ((100 * (M 53 0)) + v3))) 57 (M 53 0) v3))))) : wp kc (d + 1) 172 4 [some (jR 53), none, some (jI v2), some (jI v3), none] [] M Q :=
  (x_ildn c172_4 rfl (x_aldn c172_5 rfl (x_gfr c172_6 k_53_3 (x_aldn c172_9 rfl (x_gfi c172_10 k_53_0 (x_iald c172_13 a_56 H.1 (by decide) (x_cge c172_14 H.2.1.1 H.2.1.2 (fun h5 => (x_cr c172_100 (x_art c172_102 r172 (H.2.2.1 h5)))) (fun h6 => (x_ci c172_17 (x_aldn c172_19 rfl (x_gfi c172_20 k_53_0 (x_imul c172_23 (x_ildn c172_24 rfl (x_iadd c172_25 (x_ist (l' := [some (jR 53), none, some (jI v2), some (jI v3), some (jI ((100 * (M 53 0)) + v3))]) c172_26 rfl (x_aldn c172_28 rfl (x_gfr c172_29 k_53_5 (x_ild c172_32 rfl (x_iald c172_34 a_58 (H.2.2.2 h6).1 (by decide) (x_aldn c172_35 rfl (x_gfr c172_36 k_53_4 (x_aldn c172_39 rfl (x_gfi c172_40 k_53_0 (x_iald c172_43 a_57 (H.2.2.2 h6).2.1 (by decide) (x_cne c172_44 (H.2.2.2 h6).2.2.1.1 (H.2.2.2 h6).2.2.1.2 (fun h3 => (x_inc (l' := [some (jR 53), none, some (jI v2), some (jI (v3 + 1)), some (jI ((100 * (M 53 0)) + v3))]) c172_94 rfl rfl (x_goto c172_97 (wp_wk (l' := [some (jR 53), none, some (jI v2), some (jI (v3 + 1)), none]) ⟨rfl, ⟨rfl, ⟨rfl, trivial⟩⟩⟩ ((H.2.2.2 h6).2.2.2.1 h3))))) (fun h4 => (x_ildn c172_47 rfl (x_zne c172_48 ((H.2.2.2 h6).2.2.2.2 h4).1 (fun h1 => (x_inc (l' := [some (jR 53), none, some (jI (v2 + (-1))), some (jI v3), some (jI ((100 * (M 53 0)) + v3))]) c172_91 rfl rfl (x_inc (l' := [some (jR 53), none, some (jI (v2 + (-1))), some (jI (v3 + 1)), some (jI ((100 * (M 53 0)) + v3))]) c172_94 rfl rfl (x_goto c172_97 (wp_wk (l' := [some (jR 53), none, some (jI (v2 + (-1))), some (jI (v3 + 1)), none]) ⟨rfl, ⟨rfl, ⟨rfl, trivial⟩⟩⟩ (((H.2.2.2 h6).2.2.2.2 h4).2.1 h1)))))) (fun h2 => (x_aldn c172_51 rfl (x_gfr c172_52 k_53_1 (x_ci c172_55 (x_aldn c172_57 rfl (x_gfi c172_58 k_53_0 (x_imul c172_61 (x_aldn c172_62 rfl (x_gfr c172_63 k_53_6 (x_ild c172_66 rfl (x_iald c172_68 a_59 (((H.2.2.2 h6).2.2.2.2 h4).2.2 h2).1 (by decide) (x_iadd c172_69 (x_aldn c172_70 rfl (x_gfr c172_71 k_53_8 (x_ild c172_74 rfl (x_iald c172_76 a_61 (((H.2.2.2 h6).2.2.2.2 h4).2.2 h2).2.1 (by decide) (x_iast c172_77 a_54 (((H.2.2.2 h6).2.2.2.2 h4).2.2 h2).2.2.1 (by decide) (x_aldn c172_78 rfl (x_gfr c172_79 k_53_4 (x_aldn c172_82 rfl (x_gfi c172_83 k_53_0 (wp_vI (fx_upA (by decide)) (x_ildn c172_86 rfl (x_iast c172_87 a_57 (((H.2.2.2 h6).2.2.2.2 h4).2.2 h2).2.2.2.1 (by decide) (x_cr c172_88 (x_art c172_90 r172 (((H.2.2.2 h6).2.2.2.2 h4).2.2 h2).2.2.2.2))))))))))))))))))))))))))))))))))))))))))))))))))))))
theorem s172 {kc : List va_E} {d : Nat} {x1 : Int} {M : fx_M} {Q : Option fx_V → fx_M → Prop} (H : wp kc (d + 1) 172 4 [some (jR 53), none, some (jI x1), some (jI 0), none] [] M Q) : wc kc (d + 1) 172 [jR 53, jI x1] M Q :=
  wc_of (wp_wk (l' := [some (jR 53), some (jI x1), none, none, none]) ⟨rfl, ⟨rfl, trivial⟩⟩ (s172_0 H))

/- PuzzleHouse$Play.write(LPuzzleHouse$Puzzle;LPuzzleHouse$Out;)V -/
theorem c173_0 : fx_ci 173 0 = some (0, 1) := by decide +kernel
theorem c173_1 : fx_op 173 1 = some (.istore_n 3, 2, 1) := by decide +kernel
theorem c173_2 : fx_op 173 2 = some (.iload_n 3, 3, 2) := by decide +kernel
theorem c173_3 : fx_op 173 3 = some (.aload_n 1, 4, 3) := by decide +kernel
theorem c173_4 : fx_gf 173 4 = some (3, 2, 7) := by decide +kernel
theorem c173_7 : fx_op 173 7 = some (.if_icmp .ge 63, 10, 70) := by decide +kernel
theorem c173_10 : fx_op 173 10 = some (.aload_n 1, 11, 10) := by decide +kernel
theorem c173_11 : fx_gf 173 11 = some (3, 10, 14) := by decide +kernel
theorem c173_14 : fx_op 173 14 = some (.iload_n 3, 15, 14) := by decide +kernel
theorem c173_15 : fx_op 173 15 = some (.iaload, 16, 15) := by decide +kernel
theorem c173_16 : fx_op 173 16 = some (.ifCond .lt 12, 19, 28) := by decide +kernel
theorem c173_28 : fx_op 173 28 = some (.aload_n 0, 29, 28) := by decide +kernel
theorem c173_29 : fx_gf 173 29 = some (9, 1, 32) := by decide +kernel
theorem c173_32 : fx_ci 173 32 = some (9, 34) := by decide +kernel
theorem c173_34 : fx_op 173 34 = some (.aload_n 0, 35, 34) := by decide +kernel
theorem c173_35 : fx_gf 173 35 = some (9, 0, 38) := by decide +kernel
theorem c173_38 : fx_op 173 38 = some (.imul, 39, 38) := by decide +kernel
theorem c173_39 : fx_op 173 39 = some (.iload_n 3, 40, 39) := by decide +kernel
theorem c173_40 : fx_op 173 40 = some (.iadd, 41, 40) := by decide +kernel
theorem c173_41 : fx_op 173 41 = some (.iaload, 42, 41) := by decide +kernel
theorem c173_42 : fx_op 173 42 = some (.istore 4, 44, 42) := by decide +kernel
theorem c173_44 : fx_op 173 44 = some (.iload 4, 46, 44) := by decide +kernel
theorem c173_46 : fx_op 173 46 = some (.ifCond .ge 12, 49, 58) := by decide +kernel
theorem c173_58 : fx_op 173 58 = some (.aload_n 2, 59, 58) := by decide +kernel
theorem c173_59 : fx_op 173 59 = some (.iload 4, 61, 59) := by decide +kernel
theorem c173_19 : fx_op 173 19 = some (.aload_n 1, 20, 19) := by decide +kernel
theorem c173_20 : fx_gf 173 20 = some (3, 10, 23) := by decide +kernel
theorem c173_23 : fx_op 173 23 = some (.iload_n 3, 24, 23) := by decide +kernel
theorem c173_24 : fx_op 173 24 = some (.iaload, 25, 24) := by decide +kernel
theorem c173_25 : fx_op 173 25 = some (.goto 17, 28, 42) := by decide +kernel
theorem c173_49 : fx_op 173 49 = some (.aload_n 2, 50, 49) := by decide +kernel
theorem c173_50 : fx_ci 173 50 = some (46, 52) := by decide +kernel
theorem c173_70 : fx_op 173 70 = some (.return_, 71, 70) := by decide +kernel
theorem c173_61 : fx_ca 173 61 = some (65, 2, 2, 64) := by decide +kernel
theorem c173_52 : fx_ca 173 52 = some (69, 2, 2, 55) := by decide +kernel
theorem c173_64 : fx_op 173 64 = some (.iinc 3 1, 67, 64) := by decide +kernel
theorem c173_67 : fx_op 173 67 = some (.goto (-65), 70, 2) := by decide +kernel
theorem c173_55 : fx_op 173 55 = some (.goto 9, 58, 64) := by decide +kernel
theorem s173_0 {kc : List va_E} {d : Nat} {p o : Nat} {M : fx_M} {Q : Option fx_V → fx_M → Prop} (Hp : fx_puz p) (Ho : fx_out o) (H : wp kc (d + 1) 173 2 [some (jR 53), some (jR p), some (jR o), some (jI 0), none] [] M Q) : wp kc (d + 1) 173 0 [some (jR 53), some (jR p), some (jR o), none, none] [] M Q :=
  (x_ci c173_0 (x_istn (l' := [some (jR 53), some (jR p), some (jR o), some (jI 0), none]) c173_1 rfl (wp_wk (l' := [some (jR 53), some (jR p), some (jR o), some (jI 0), none]) ⟨rfl, ⟨rfl, ⟨rfl, ⟨rfl, trivial⟩⟩⟩⟩ H)))
theorem s173_2 {kc : List va_E} {d : Nat} {p o : Nat} {v3 : Int} {M : fx_M} {Q : Option fx_V → fx_M → Prop} (Hp : fx_puz p) (Ho : fx_out o) (H : ((fx_in32 v3) ∧ (fx_in32 (M p 2))) ∧ (M p 2 ≤ v3 → Q none M) ∧ (v3 < M p 2 → (((0 : Int) ≤ v3 ∧ v3 < 9)) ∧ ((fx_in32 (M (p + 6) v3))) ∧ (M (p + 6) v3 < 0 → ((((0 : Int) ≤ (9 * (M 53 0)) + v3 ∧ (9 * (M 53 0)) + v3 < 27)))) ∧ (0 ≤ M (p + 6) v3 → ((((0 : Int) ≤ v3 ∧ v3 < 9)))) ∧ ((fx_in32 (if M (p + 6) v3 < 0 then (M 54 ((9 * (M 53 0)) + v3) : Int) else M (p + 6) v3))) ∧ (0 ≤ (if M (p + 6) v3 < 0 then (M 54 ((9 * (M 53 0)) + v3) : Int) else M (p + 6) v3) → wc kc d 65 [jR o, jI (if M (p + 6) v3 < 0 then (M 54 ((9 * (M 53 0)) + v3) : Int) else M (p + 6) v3)] M (fun v M1 => wp kc (d + 1) 173 64 [some (jR 53), some (jR p), some (jR o), some (jI v3), none] (v.toList ++ []) M1 Q)) ∧ ((if M (p + 6) v3 < 0 then (M 54 ((9 * (M 53 0)) + v3) : Int) else M (p + 6) v3) < 0 → wc kc d 69 [jR o, jI 46] M (fun v M1 => wp kc (d + 1) 173 55 [some (jR 53), some (jR p), some (jR o), some (jI v3), none] (v.toList ++ []) M1 Q)))) : wp kc (d + 1) 173 2 [some (jR 53), some (jR p), some (jR o), some (jI v3), none] [] M Q :=
  (x_ildn c173_2 rfl (x_aldn c173_3 rfl (x_gfi c173_4 (kp_2 Hp) (x_cge c173_7 H.1.1 H.1.2 (fun h3 => (x_vr c173_70 r173 (H.2.1 h3))) (fun h4 => (x_aldn c173_10 rfl (x_gfr c173_11 (kp_10 Hp) (x_ildn c173_14 rfl (x_iald c173_15 (ap_6 Hp) (H.2.2 h4).1 (by decide) (have K : wp kc (d + 1) 173 42 [some (jR 53), some (jR p), some (jR o), some (jI v3), none] [jI (if M (p + 6) v3 < 0 then (M 54 ((9 * (M 53 0)) + v3) : Int) else M (p + 6) v3)] M Q := (x_ist (l' := [some (jR 53), some (jR p), some (jR o), some (jI v3), some (jI (if M (p + 6) v3 < 0 then (M 54 ((9 * (M 53 0)) + v3) : Int) else M (p + 6) v3))]) c173_42 rfl (x_ild c173_44 rfl (x_zge c173_46 (H.2.2 h4).2.2.2.2.1 (fun h1 => (x_aldn c173_58 rfl (x_ild c173_59 rfl (wp_wk (l' := [some (jR 53), some (jR p), some (jR o), some (jI v3), none]) ⟨rfl, ⟨rfl, ⟨rfl, ⟨rfl, trivial⟩⟩⟩⟩ (x_cv (As := [jI (if M (p + 6) v3 < 0 then (M 54 ((9 * (M 53 0)) + v3) : Int) else M (p + 6) v3)]) (st := []) c173_61 (clo Ho) kl65 rfl (Nat.le_of_ble_eq_true rfl) mx65 (Nat.le_refl _) ((H.2.2 h4).2.2.2.2.2.1 h1)))))) (fun h2 => (x_aldn c173_49 rfl (x_ci c173_50 (wp_wk (l' := [some (jR 53), some (jR p), some (jR o), some (jI v3), none]) ⟨rfl, ⟨rfl, ⟨rfl, ⟨rfl, trivial⟩⟩⟩⟩ (x_cv (As := [jI 46]) (st := []) c173_52 (clo Ho) kl69 rfl (Nat.le_of_ble_eq_true rfl) mx69 (Nat.le_refl _) ((H.2.2 h4).2.2.2.2.2.2 h2))))))))); (x_zlt c173_16 (H.2.2 h4).2.1 (fun (h5 : M (p + 6) v3 < 0) => (x_aldn c173_28 rfl (x_gfr c173_29 k_53_1 (x_ci c173_32 (x_aldn c173_34 rfl (x_gfi c173_35 k_53_0 (x_imul c173_38 (x_ildn c173_39 rfl (x_iadd c173_40 (x_iald c173_41 a_54 ((H.2.2 h4).2.2.1 h5) (by decide) (wp_wk (l' := [some (jR 53), some (jR p), some (jR o), some (jI v3), none]) ⟨rfl, ⟨rfl, ⟨rfl, ⟨rfl, trivial⟩⟩⟩⟩ (by have K := K; first | (simp only [if_pos h5] at K ⊢; exact K) | (exfalso; omega))))))))))))) (fun (h6 : 0 ≤ M (p + 6) v3) => (x_aldn c173_19 rfl (x_gfr c173_20 (kp_10 Hp) (x_ildn c173_23 rfl (x_iald c173_24 (ap_6 Hp) ((H.2.2 h4).2.2.2.1 h6) (by decide) (x_goto c173_25 (wp_wk (l' := [some (jR 53), some (jR p), some (jR o), some (jI v3), none]) ⟨rfl, ⟨rfl, ⟨rfl, ⟨rfl, trivial⟩⟩⟩⟩ (by have K := K; first | (simp only [if_neg (Int.not_lt.mpr h6)] at K ⊢; exact K) | (exfalso; omega))))))))))))))))))))
theorem s173_55 {kc : List va_E} {d : Nat} {p o : Nat} {v3 : Int} {M : fx_M} {Q : Option fx_V → fx_M → Prop} (Hp : fx_puz p) (Ho : fx_out o) (H : wp kc (d + 1) 173 2 [some (jR 53), some (jR p), some (jR o), some (jI (v3 + 1)), none] [] M Q) : wp kc (d + 1) 173 55 [some (jR 53), some (jR p), some (jR o), some (jI v3), none] [] M Q :=
  (x_goto c173_55 (x_inc (l' := [some (jR 53), some (jR p), some (jR o), some (jI (v3 + 1)), none]) c173_64 rfl rfl (x_goto c173_67 (wp_wk (l' := [some (jR 53), some (jR p), some (jR o), some (jI (v3 + 1)), none]) ⟨rfl, ⟨rfl, ⟨rfl, ⟨rfl, trivial⟩⟩⟩⟩ H))))
theorem s173_64 {kc : List va_E} {d : Nat} {p o : Nat} {v3 : Int} {M : fx_M} {Q : Option fx_V → fx_M → Prop} (Hp : fx_puz p) (Ho : fx_out o) (H : wp kc (d + 1) 173 2 [some (jR 53), some (jR p), some (jR o), some (jI (v3 + 1)), none] [] M Q) : wp kc (d + 1) 173 64 [some (jR 53), some (jR p), some (jR o), some (jI v3), none] [] M Q :=
  (x_inc (l' := [some (jR 53), some (jR p), some (jR o), some (jI (v3 + 1)), none]) c173_64 rfl rfl (x_goto c173_67 (wp_wk (l' := [some (jR 53), some (jR p), some (jR o), some (jI (v3 + 1)), none]) ⟨rfl, ⟨rfl, ⟨rfl, ⟨rfl, trivial⟩⟩⟩⟩ H)))
theorem s173 {kc : List va_E} {d : Nat} {p o : Nat} {M : fx_M} {Q : Option fx_V → fx_M → Prop} (Hp : fx_puz p) (Ho : fx_out o) (H : wp kc (d + 1) 173 2 [some (jR 53), some (jR p), some (jR o), some (jI 0), none] [] M Q) : wc kc (d + 1) 173 [jR 53, jR p, jR o] M Q :=
  wc_of (wp_wk (l' := [some (jR 53), some (jR p), some (jR o), none, none]) ⟨rfl, ⟨rfl, ⟨rfl, trivial⟩⟩⟩ (s173_0 Hp Ho H))

/- PuzzleHouse$Play.mark(LPuzzleHouse$Puzzle;II)Ljava/lang/String; -/
theorem c174_0 : fx_op 174 0 = some (.aload_n 0, 1, 0) := by decide +kernel
theorem c174_1 : fx_op 174 1 = some (.aload_n 1, 2, 1) := by decide +kernel
theorem c174_2 : fx_op 174 2 = some (.iload_n 2, 3, 2) := by decide +kernel
theorem c174_3 : fx_op 174 3 = some (.iload_n 3, 4, 3) := by decide +kernel
theorem c174_4 : fx_ca 174 4 = some (170, 4, 2, 7) := by decide +kernel
theorem c174_7 : fx_op 174 7 = some (.astore 4, 9, 7) := by decide +kernel
theorem c174_9 : fx_op 174 9 = some (.aload 4, 11, 9) := by decide +kernel
theorem c174_11 : fx_ca 174 11 = some (50, 1, 2, 14) := by decide +kernel
theorem c174_14 : fx_op 174 14 = some (.ifCond .ne 6, 17, 20) := by decide +kernel
theorem c174_20 : fx_ci 174 20 = some (9, 22) := by decide +kernel
theorem c174_22 : fx_op 174 22 = some (.aload_n 0, 23, 22) := by decide +kernel
theorem c174_23 : fx_gf 174 23 = some (9, 0, 26) := by decide +kernel
theorem c174_26 : fx_op 174 26 = some (.imul, 27, 26) := by decide +kernel
theorem c174_27 : fx_op 174 27 = some (.iload_n 2, 28, 27) := by decide +kernel
theorem c174_28 : fx_op 174 28 = some (.iadd, 29, 28) := by decide +kernel
theorem c174_29 : fx_op 174 29 = some (.istore 5, 31, 29) := by decide +kernel
theorem c174_31 : fx_op 174 31 = some (.aload_n 0, 32, 31) := by decide +kernel
theorem c174_32 : fx_gf 174 32 = some (9, 2, 35) := by decide +kernel
theorem c174_35 : fx_op 174 35 = some (.iload 5, 37, 35) := by decide +kernel
theorem c174_37 : fx_op 174 37 = some (.dup2, 38, 37) := by decide +kernel
theorem c174_39 : fx_ci 174 39 = some (1, 40) := by decide +kernel
theorem c174_40 : fx_op 174 40 = some (.iload_n 3, 41, 40) := by decide +kernel
theorem c174_41 : fx_op 174 41 = some (.ishl, 42, 41) := by decide +kernel
theorem c174_42 : fx_op 174 42 = some (.ixor, 43, 42) := by decide +kernel
theorem c174_44 : fx_op 174 44 = some (.aload_n 0, 45, 44) := by decide +kernel
theorem c174_45 : fx_gf 174 45 = some (9, 2, 48) := by decide +kernel
theorem c174_48 : fx_op 174 48 = some (.iload 5, 50, 48) := by decide +kernel
theorem c174_51 : fx_op 174 51 = some (.iload_n 3, 52, 51) := by decide +kernel
theorem c174_52 : fx_op 174 52 = some (.ishr, 53, 52) := by decide +kernel
theorem c174_53 : fx_ci 174 53 = some (1, 54) := by decide +kernel
theorem c174_54 : fx_op 174 54 = some (.iand, 55, 54) := by decide +kernel
theorem c174_55 : fx_op 174 55 = some (.ifCond .eq 8, 58, 63) := by decide +kernel
theorem c174_63 : fx_cr 174 63 = some (1000145, 65) := by decide +kernel
theorem c174_58 : fx_cr 174 58 = some (1000143, 60) := by decide +kernel
theorem c174_60 : fx_op 174 60 = some (.goto 5, 63, 65) := by decide +kernel
theorem c174_17 : fx_op 174 17 = some (.aload 4, 19, 17) := by decide +kernel
theorem c174_38 : fx_op 174 38 = some (.iaload, 39, 38) := by decide +kernel
theorem c174_43 : fx_op 174 43 = some (.iastore, 44, 43) := by decide +kernel
theorem c174_50 : fx_op 174 50 = some (.iaload, 51, 50) := by decide +kernel
theorem c174_65 : fx_op 174 65 = some (.areturn, 66, 65) := by decide +kernel
theorem c174_19 : fx_op 174 19 = some (.areturn, 20, 19) := by decide +kernel
theorem s174_0 {kc : List va_E} {d : Nat} {p : Nat} {x2 x3 : Int} {M : fx_M} {Q : Option fx_V → fx_M → Prop} (Hp : fx_puz p) (H : wc kc d 170 [jR 53, jR p, jI x2, jI x3] M (fun v M1 => wp kc (d + 1) 174 7 [some (jR 53), none, some (jI x2), some (jI x3), none, none] (v.toList ++ []) M1 Q)) : wp kc (d + 1) 174 0 [some (jR 53), some (jR p), some (jI x2), some (jI x3), none, none] [] M Q :=
  (x_aldn c174_0 rfl (x_aldn c174_1 rfl (x_ildn c174_2 rfl (x_ildn c174_3 rfl (wp_wk (l' := [some (jR 53), none, some (jI x2), some (jI x3), none, none]) ⟨rfl, ⟨rfl, ⟨rfl, trivial⟩⟩⟩ (x_cv (As := [jR p, jI x2, jI x3]) (st := []) c174_4 cl_53 kl170 rfl (Nat.le_of_ble_eq_true rfl) mx170 (Nat.le_refl _) H))))))
theorem s174_7 {kc : List va_E} {d : Nat} {p u0 : Nat} {v2 v3 : Int} {M : fx_M} {Q : Option fx_V → fx_M → Prop} (Hp : fx_puz p) (H : fx_lit kc u0 ∧ wc kc d 50 [jR u0] M (fun v M1 => wp kc (d + 1) 174 14 [some (jR 53), none, some (jI v2), some (jI v3), some (jR u0), none] (v.toList ++ []) M1 Q)) : wp kc (d + 1) 174 7 [some (jR 53), none, some (jI v2), some (jI v3), none, none] [jR u0] M Q :=
  (x_ast (l' := [some (jR 53), none, some (jI v2), some (jI v3), some (jR u0), none]) c174_7 rfl (x_ald c174_9 rfl (wp_wk (l' := [some (jR 53), none, some (jI v2), some (jI v3), some (jR u0), none]) ⟨rfl, ⟨rfl, ⟨rfl, ⟨rfl, trivial⟩⟩⟩⟩ (x_cl (b := u0) (As := []) (st := []) c174_11 kl50 H.1 rfl (Nat.le_of_ble_eq_true rfl) mx50 (Nat.le_refl _) H.2))))
theorem s174_14 {kc : List va_E} {d : Nat} {p v4 : Nat} {v2 v3 u0 : Int} {M : fx_M} {Q : Option fx_V → fx_M → Prop} (Hp : fx_puz p) (H : ((fx_in32 u0)) ∧ (u0 ≠ 0 → (((0 : Int) ≤ (9 * (M 53 0)) + v2 ∧ (9 * (M 53 0)) + v2 < 27)) ∧ (((0 : Int) ≤ (9 * (M 53 0)) + v2 ∧ (9 * (M 53 0)) + v2 < 27)) ∧ (((0 : Int) ≤ (9 * (M 53 0)) + v2 ∧ (9 * (M 53 0)) + v2 < 27)) ∧ ((fx_in32 (fx_and (fx_shr (fx_xor (M 55 ((9 * (M 53 0)) + v2)) (fx_shl 1 v3)) v3) 1))) ∧ (fx_and (fx_shr (fx_xor (M 55 ((9 * (M 53 0)) + v2)) (fx_shl 1 v3)) v3) 1 = 0 → Q (some (jR 1000145)) (fx_up M 55 ((9 * (M 53 0)) + v2) (fx_xor (M 55 ((9 * (M 53 0)) + v2)) (fx_shl 1 v3)))) ∧ (fx_and (fx_shr (fx_xor (M 55 ((9 * (M 53 0)) + v2)) (fx_shl 1 v3)) v3) 1 ≠ 0 → Q (some (jR 1000143)) (fx_up M 55 ((9 * (M 53 0)) + v2) (fx_xor (M 55 ((9 * (M 53 0)) + v2)) (fx_shl 1 v3))))) ∧ (u0 = 0 → Q (some (jR v4)) M)) : wp kc (d + 1) 174 14 [some (jR 53), none, some (jI v2), some (jI v3), some (jR v4), none] [jI u0] M Q :=
  (x_zne c174_14 H.1 (fun h3 => (x_ci c174_20 (x_aldn c174_22 rfl (x_gfi c174_23 k_53_0 (x_imul c174_26 (x_ildn c174_27 rfl (x_iadd c174_28 (x_ist (l' := [some (jR 53), none, some (jI v2), some (jI v3), some (jR v4), some (jI ((9 * (M 53 0)) + v2))]) c174_29 rfl (x_aldn c174_31 rfl (x_gfr c174_32 k_53_2 (x_ild c174_35 rfl (x_dup2 c174_37 (x_iald c174_38 a_55 (H.2.1 h3).1 (by decide) (x_ci c174_39 (x_ildn c174_40 rfl (x_ishl c174_41 (x_ixor c174_42 (x_iast c174_43 a_55 (H.2.1 h3).2.1 (by decide) (x_aldn c174_44 rfl (x_gfr c174_45 k_53_2 (x_ild c174_48 rfl (x_iald c174_50 a_55 (H.2.1 h3).2.2.1 (by decide) (wp_vI (fx_upS) (x_ildn c174_51 rfl (x_ishr c174_52 (x_ci c174_53 (x_iand c174_54 (x_zeq c174_55 (H.2.1 h3).2.2.2.1 (fun h1 => (x_cr c174_63 (x_art c174_65 r174 ((H.2.1 h3).2.2.2.2.1 h1)))) (fun h2 => (x_cr c174_58 (x_goto c174_60 (x_art c174_65 r174 ((H.2.1 h3).2.2.2.2.2 h2))))))))))))))))))))))))))))))))) (fun h4 => (x_ald c174_17 rfl (x_art c174_19 r174 (H.2.2 h4)))))
theorem s174 {kc : List va_E} {d : Nat} {p : Nat} {x2 x3 : Int} {M : fx_M} {Q : Option fx_V → fx_M → Prop} (Hp : fx_puz p) (H : wc kc d 170 [jR 53, jR p, jI x2, jI x3] M (fun v M1 => wp kc (d + 1) 174 7 [some (jR 53), none, some (jI x2), some (jI x3), none, none] (v.toList ++ []) M1 Q)) : wc kc (d + 1) 174 [jR 53, jR p, jI x2, jI x3] M Q :=
  wc_of (wp_wk (l' := [some (jR 53), some (jR p), some (jI x2), some (jI x3), none, none]) ⟨rfl, ⟨rfl, ⟨rfl, ⟨rfl, trivial⟩⟩⟩⟩ (s174_0 Hp H))

/- PuzzleHouse$Play.writeMarks(LPuzzleHouse$Puzzle;ILPuzzleHouse$Out;)V -/
theorem c175_0 : fx_op 175 0 = some (.iload_n 2, 1, 0) := by decide +kernel
theorem c175_1 : fx_op 175 1 = some (.aload_n 1, 2, 1) := by decide +kernel
theorem c175_2 : fx_gf 175 2 = some (3, 2, 5) := by decide +kernel
theorem c175_5 : fx_op 175 5 = some (.if_icmp .lt 10, 8, 15) := by decide +kernel
theorem c175_15 : fx_ci 175 15 = some (0, 16) := by decide +kernel
theorem c175_16 : fx_op 175 16 = some (.istore 4, 18, 16) := by decide +kernel
theorem c175_8 : fx_op 175 8 = some (.aload_n 3, 9, 8) := by decide +kernel
theorem c175_9 : fx_cr 175 9 = some (1000129, 11) := by decide +kernel
theorem c175_11 : fx_ca 175 11 = some (64, 2, 2, 14) := by decide +kernel
theorem c175_18 : fx_op 175 18 = some (.iload 4, 20, 18) := by decide +kernel
theorem c175_20 : fx_ci 175 20 = some (4, 21) := by decide +kernel
theorem c175_21 : fx_op 175 21 = some (.if_icmp .ge 37, 24, 58) := by decide +kernel
theorem c175_24 : fx_op 175 24 = some (.aload_n 0, 25, 24) := by decide +kernel
theorem c175_25 : fx_gf 175 25 = some (9, 2, 28) := by decide +kernel
theorem c175_28 : fx_ci 175 28 = some (9, 30) := by decide +kernel
theorem c175_30 : fx_op 175 30 = some (.aload_n 0, 31, 30) := by decide +kernel
theorem c175_31 : fx_gf 175 31 = some (9, 0, 34) := by decide +kernel
theorem c175_34 : fx_op 175 34 = some (.imul, 35, 34) := by decide +kernel
theorem c175_35 : fx_op 175 35 = some (.iload_n 2, 36, 35) := by decide +kernel
theorem c175_36 : fx_op 175 36 = some (.iadd, 37, 36) := by decide +kernel
theorem c175_37 : fx_op 175 37 = some (.iaload, 38, 37) := by decide +kernel
theorem c175_38 : fx_op 175 38 = some (.iload 4, 40, 38) := by decide +kernel
theorem c175_40 : fx_op 175 40 = some (.ishr, 41, 40) := by decide +kernel
theorem c175_41 : fx_ci 175 41 = some (1, 42) := by decide +kernel
theorem c175_42 : fx_op 175 42 = some (.iand, 43, 42) := by decide +kernel
theorem c175_43 : fx_op 175 43 = some (.ifCond .eq 9, 46, 52) := by decide +kernel
theorem c175_52 : fx_op 175 52 = some (.iinc 4 1, 55, 52) := by decide +kernel
theorem c175_58 : fx_op 175 58 = some (.aload_n 3, 59, 58) := by decide +kernel
theorem c175_59 : fx_ci 175 59 = some (46, 61) := by decide +kernel
theorem c175_46 : fx_op 175 46 = some (.aload_n 3, 47, 46) := by decide +kernel
theorem c175_47 : fx_op 175 47 = some (.iload 4, 49, 47) := by decide +kernel
theorem c175_61 : fx_ca 175 61 = some (69, 2, 2, 64) := by decide +kernel
theorem c175_55 : fx_op 175 55 = some (.goto (-37), 58, 18) := by decide +kernel
theorem c175_49 : fx_ca 175 49 = some (65, 2, 2, 52) := by decide +kernel
theorem c175_14 : fx_op 175 14 = some (.return_, 15, 14) := by decide +kernel
theorem c175_64 : fx_op 175 64 = some (.return_, 65, 64) := by decide +kernel
theorem s175_0 {kc : List va_E} {d : Nat} {p o : Nat} {x2 : Int} {M : fx_M} {Q : Option fx_V → fx_M → Prop} (Hp : fx_puz p) (Ho : fx_out o) (H : ((fx_in32 x2) ∧ (fx_in32 (M p 2))) ∧ (x2 < M p 2 → wp kc (d + 1) 175 18 [some (jR 53), none, some (jI x2), some (jR o), some (jI 0)] [] M Q) ∧ (M p 2 ≤ x2 → wc kc d 64 [jR o, jR 1000129] M (fun v M1 => wp kc (d + 1) 175 14 [none, none, none, none, none] (v.toList ++ []) M1 Q))) : wp kc (d + 1) 175 0 [some (jR 53), some (jR p), some (jI x2), some (jR o), none] [] M Q :=
  (x_ildn c175_0 rfl (x_aldn c175_1 rfl (x_gfi c175_2 (kp_2 Hp) (x_clt c175_5 H.1.1 H.1.2 (fun h1 => (x_ci c175_15 (x_ist (l' := [some (jR 53), some (jR p), some (jI x2), some (jR o), some (jI 0)]) c175_16 rfl (wp_wk (l' := [some (jR 53), none, some (jI x2), some (jR o), some (jI 0)]) ⟨rfl, ⟨rfl, ⟨rfl, ⟨rfl, trivial⟩⟩⟩⟩ (H.2.1 h1))))) (fun h2 => (x_aldn c175_8 rfl (x_cr c175_9 (wp_wk (l' := [none, none, none, none, none]) trivial (x_cv (As := [jR 1000129]) (st := []) c175_11 (clo Ho) kl64 rfl (Nat.le_of_ble_eq_true rfl) mx64 (Nat.le_refl _) (H.2.2 h2))))))))))
theorem s175_14 {kc : List va_E} {d : Nat} {p o : Nat} {M : fx_M} {Q : Option fx_V → fx_M → Prop} (Hp : fx_puz p) (Ho : fx_out o) (H : Q none M) : wp kc (d + 1) 175 14 [none, none, none, none, none] [] M Q :=
  (x_vr c175_14 r175 H)
theorem s175_18 {kc : List va_E} {d : Nat} {p o : Nat} {v2 v4 : Int} {M : fx_M} {Q : Option fx_V → fx_M → Prop} (Hp : fx_puz p) (Ho : fx_out o) (H : ((fx_in32 v4)) ∧ (4 ≤ v4 → wc kc d 69 [jR o, jI 46] M (fun v M1 => wp kc (d + 1) 175 64 [none, none, none, none, none] (v.toList ++ []) M1 Q)) ∧ (v4 < 4 → (((0 : Int) ≤ (9 * (M 53 0)) + v2 ∧ (9 * (M 53 0)) + v2 < 27)) ∧ ((fx_in32 (fx_and (fx_shr (M 55 ((9 * (M 53 0)) + v2)) v4) 1))) ∧ (fx_and (fx_shr (M 55 ((9 * (M 53 0)) + v2)) v4) 1 = 0 → wp kc (d + 1) 175 18 [some (jR 53), none, some (jI v2), some (jR o), some (jI (v4 + 1))] [] M Q) ∧ (fx_and (fx_shr (M 55 ((9 * (M 53 0)) + v2)) v4) 1 ≠ 0 → wc kc d 65 [jR o, jI v4] M (fun v M1 => wp kc (d + 1) 175 52 [some (jR 53), none, some (jI v2), some (jR o), some (jI v4)] (v.toList ++ []) M1 Q)))) : wp kc (d + 1) 175 18 [some (jR 53), none, some (jI v2), some (jR o), some (jI v4)] [] M Q :=
  (x_ild c175_18 rfl (x_ci c175_20 (x_cge c175_21 H.1 (by decide) (fun h3 => (x_aldn c175_58 rfl (x_ci c175_59 (wp_wk (l' := [none, none, none, none, none]) trivial (x_cv (As := [jI 46]) (st := []) c175_61 (clo Ho) kl69 rfl (Nat.le_of_ble_eq_true rfl) mx69 (Nat.le_refl _) (H.2.1 h3)))))) (fun h4 => (x_aldn c175_24 rfl (x_gfr c175_25 k_53_2 (x_ci c175_28 (x_aldn c175_30 rfl (x_gfi c175_31 k_53_0 (x_imul c175_34 (x_ildn c175_35 rfl (x_iadd c175_36 (x_iald c175_37 a_55 (H.2.2 h4).1 (by decide) (x_ild c175_38 rfl (x_ishr c175_40 (x_ci c175_41 (x_iand c175_42 (x_zeq c175_43 (H.2.2 h4).2.1 (fun h1 => (x_inc (l' := [some (jR 53), none, some (jI v2), some (jR o), some (jI (v4 + 1))]) c175_52 rfl rfl (x_goto c175_55 (wp_wk (l' := [some (jR 53), none, some (jI v2), some (jR o), some (jI (v4 + 1))]) ⟨rfl, ⟨rfl, ⟨rfl, ⟨rfl, trivial⟩⟩⟩⟩ ((H.2.2 h4).2.2.1 h1))))) (fun h2 => (x_aldn c175_46 rfl (x_ild c175_47 rfl (wp_wk (l' := [some (jR 53), none, some (jI v2), some (jR o), some (jI v4)]) ⟨rfl, ⟨rfl, ⟨rfl, ⟨rfl, trivial⟩⟩⟩⟩ (x_cv (As := [jI v4]) (st := []) c175_49 (clo Ho) kl65 rfl (Nat.le_of_ble_eq_true rfl) mx65 (Nat.le_refl _) ((H.2.2 h4).2.2.2 h2))))))))))))))))))))))))
theorem s175_52 {kc : List va_E} {d : Nat} {p o : Nat} {v2 v4 : Int} {M : fx_M} {Q : Option fx_V → fx_M → Prop} (Hp : fx_puz p) (Ho : fx_out o) (H : wp kc (d + 1) 175 18 [some (jR 53), none, some (jI v2), some (jR o), some (jI (v4 + 1))] [] M Q) : wp kc (d + 1) 175 52 [some (jR 53), none, some (jI v2), some (jR o), some (jI v4)] [] M Q :=
  (x_inc (l' := [some (jR 53), none, some (jI v2), some (jR o), some (jI (v4 + 1))]) c175_52 rfl rfl (x_goto c175_55 (wp_wk (l' := [some (jR 53), none, some (jI v2), some (jR o), some (jI (v4 + 1))]) ⟨rfl, ⟨rfl, ⟨rfl, ⟨rfl, trivial⟩⟩⟩⟩ H)))
theorem s175_64 {kc : List va_E} {d : Nat} {p o : Nat} {M : fx_M} {Q : Option fx_V → fx_M → Prop} (Hp : fx_puz p) (Ho : fx_out o) (H : Q none M) : wp kc (d + 1) 175 64 [none, none, none, none, none] [] M Q :=
  (x_vr c175_64 r175 H)
theorem s175 {kc : List va_E} {d : Nat} {p o : Nat} {x2 : Int} {M : fx_M} {Q : Option fx_V → fx_M → Prop} (Hp : fx_puz p) (Ho : fx_out o) (H : ((fx_in32 x2) ∧ (fx_in32 (M p 2))) ∧ (x2 < M p 2 → wp kc (d + 1) 175 18 [some (jR 53), none, some (jI x2), some (jR o), some (jI 0)] [] M Q) ∧ (M p 2 ≤ x2 → wc kc d 64 [jR o, jR 1000129] M (fun v M1 => wp kc (d + 1) 175 14 [none, none, none, none, none] (v.toList ++ []) M1 Q))) : wc kc (d + 1) 175 [jR 53, jR p, jI x2, jR o] M Q :=
  wc_of (wp_wk (l' := [some (jR 53), some (jR p), some (jI x2), some (jR o), none]) ⟨rfl, ⟨rfl, ⟨rfl, ⟨rfl, trivial⟩⟩⟩⟩ (s175_0 Hp Ho H))

/- PuzzleHouse$Play.stepsBack()I -/
theorem c208_0 : fx_op 208 0 = some (.aload_n 0, 1, 0) := by decide +kernel
theorem c208_1 : fx_gf 208 1 = some (9, 3, 4) := by decide +kernel
theorem c208_4 : fx_op 208 4 = some (.aload_n 0, 5, 4) := by decide +kernel
theorem c208_5 : fx_gf 208 5 = some (9, 0, 8) := by decide +kernel
theorem c208_8 : fx_op 208 8 = some (.iaload, 9, 8) := by decide +kernel
theorem c208_9 : fx_op 208 9 = some (.ireturn, 10, 9) := by decide +kernel
theorem s208_0 {kc : List va_E} {d : Nat} {M : fx_M} {Q : Option fx_V → fx_M → Prop} (H : (((0 : Int) ≤ M 53 0 ∧ M 53 0 < 3)) ∧ Q (some (jI (M 56 (M 53 0)))) M) : wp kc (d + 1) 208 0 [some (jR 53)] [] M Q :=
  (x_aldn c208_0 rfl (x_gfr c208_1 k_53_3 (x_aldn c208_4 rfl (x_gfi c208_5 k_53_0 (x_iald c208_8 a_56 H.1 (by decide) (x_irt c208_9 r208 H.2))))))
theorem s208 {kc : List va_E} {d : Nat} {M : fx_M} {Q : Option fx_V → fx_M → Prop} (H : (((0 : Int) ≤ M 53 0 ∧ M 53 0 < 3)) ∧ Q (some (jI (M 56 (M 53 0)))) M) : wc kc (d + 1) 208 [jR 53] M Q :=
  wc_of (wp_wk (l' := [some (jR 53)]) ⟨rfl, trivial⟩ (s208_0 H))
