/-! SEGMENTS of Puzzle (by gen/emit_segs.py) -/
/- PuzzleHouse$Puzzle.hasNumber(I)Z -/
theorem c46_0 : fx_op 46 0 = some (.iload_n 0, 1, 0) := by decide +kernel
theorem c46_1 : fx_ci 46 1 = some (6, 3) := by decide +kernel
theorem c46_3 : fx_op 46 3 = some (.if_icmp .eq 18, 6, 21) := by decide +kernel
theorem c46_21 : fx_ci 46 21 = some (1, 22) := by decide +kernel
theorem c46_22 : fx_op 46 22 = some (.goto 4, 25, 26) := by decide +kernel
theorem c46_6 : fx_op 46 6 = some (.iload_n 0, 7, 6) := by decide +kernel
theorem c46_7 : fx_ci 46 7 = some (2, 8) := by decide +kernel
theorem c46_8 : fx_op 46 8 = some (.if_icmp .eq 13, 11, 21) := by decide +kernel
theorem c46_11 : fx_op 46 11 = some (.iload_n 0, 12, 11) := by decide +kernel
theorem c46_12 : fx_ci 46 12 = some (1, 13) := by decide +kernel
theorem c46_13 : fx_op 46 13 = some (.if_icmp .eq 8, 16, 21) := by decide +kernel
theorem c46_16 : fx_op 46 16 = some (.iload_n 0, 17, 16) := by decide +kernel
theorem c46_17 : fx_ci 46 17 = some (5, 18) := by decide +kernel
theorem c46_18 : fx_op 46 18 = some (.if_icmp .ne 7, 21, 25) := by decide +kernel
theorem c46_25 : fx_ci 46 25 = some (0, 26) := by decide +kernel
theorem c46_26 : fx_op 46 26 = some (.ireturn, 27, 26) := by decide +kernel
theorem s46_0 {kc : List va_E} {d : Nat} {x0 : Int} {M : fx_M} {Q : Option fx_V → fx_M → Prop} (H : ((fx_in32 x0)) ∧ (x0 ≠ 6 → (fx_in32 x0)) ∧ (x0 ≠ 6 → x0 ≠ 2 → (fx_in32 x0)) ∧ (x0 ≠ 6 → x0 ≠ 2 → x0 ≠ 1 → (fx_in32 x0)) ∧ ((0 : Int) ≤ (if x0 = 6 then (1 : Int) else (if x0 = 2 then (1 : Int) else (if x0 = 1 then (1 : Int) else (if x0 = 5 then (1 : Int) else 0)))) ∧ (if x0 = 6 then (1 : Int) else (if x0 = 2 then (1 : Int) else (if x0 = 1 then (1 : Int) else (if x0 = 5 then (1 : Int) else 0)))) ≤ 1) ∧ Q (some (jI (if x0 = 6 then (1 : Int) else (if x0 = 2 then (1 : Int) else (if x0 = 1 then (1 : Int) else (if x0 = 5 then (1 : Int) else 0)))))) M) : wp kc (d + 1) 46 0 [some (jI x0)] [] M Q :=
  (x_ildn c46_0 rfl (x_ci c46_1 (have K : wp kc (d + 1) 46 26 [none] [jI (if x0 = 6 then (1 : Int) else (if x0 = 2 then (1 : Int) else (if x0 = 1 then (1 : Int) else (if x0 = 5 then (1 : Int) else 0))))] M Q := (x_zrt c46_26 r46 H.2.2.2.2.1 H.2.2.2.2.2); (x_ceq c46_3 H.1 (by decide) (fun (h1 : x0 = 6) => (x_ci c46_21 (x_goto c46_22 (wp_wk (l' := [none]) trivial (by have K := K; first | (simp only [if_pos h1] at K ⊢; exact K) | (exfalso; omega)))))) (fun (h2 : x0 ≠ 6) => (x_ildn c46_6 rfl (x_ci c46_7 (x_ceq c46_8 (H.2.1 h2) (by decide) (fun (h3 : x0 = 2) => (x_ci c46_21 (x_goto c46_22 (wp_wk (l' := [none]) trivial (by have K := K; first | (simp only [if_neg h2, if_pos h3] at K ⊢; exact K) | (exfalso; omega)))))) (fun (h4 : x0 ≠ 2) => (x_ildn c46_11 rfl (x_ci c46_12 (x_ceq c46_13 (H.2.2.1 h2 h4) (by decide) (fun (h5 : x0 = 1) => (x_ci c46_21 (x_goto c46_22 (wp_wk (l' := [none]) trivial (by have K := K; first | (simp only [if_neg h2, if_neg h4, if_pos h5] at K ⊢; exact K) | (exfalso; omega)))))) (fun (h6 : x0 ≠ 1) => (x_ildn c46_16 rfl (x_ci c46_17 (x_cne c46_18 (H.2.2.2.1 h2 h4 h6) (by decide) (fun (h7 : x0 ≠ 5) => (x_ci c46_25 (wp_wk (l' := [none]) trivial (by have K := K; first | (simp only [if_neg h2, if_neg h4, if_neg h6, if_neg h7] at K ⊢; exact K) | (exfalso; omega))))) (fun (h8 : x0 = 5) => (x_ci c46_21 (x_goto c46_22 (wp_wk (l' := [none]) trivial (by have K := K; first | (simp only [if_neg h2, if_neg h4, if_neg h6, if_pos h8] at K ⊢; exact K) | (exfalso; omega))))))))))))))))))))))
theorem s46 {kc : List va_E} {d : Nat} {x0 : Int} {M : fx_M} {Q : Option fx_V → fx_M → Prop} (H : ((fx_in32 x0)) ∧ (x0 ≠ 6 → (fx_in32 x0)) ∧ (x0 ≠ 6 → x0 ≠ 2 → (fx_in32 x0)) ∧ (x0 ≠ 6 → x0 ≠ 2 → x0 ≠ 1 → (fx_in32 x0)) ∧ ((0 : Int) ≤ (if x0 = 6 then (1 : Int) else (if x0 = 2 then (1 : Int) else (if x0 = 1 then (1 : Int) else (if x0 = 5 then (1 : Int) else 0)))) ∧ (if x0 = 6 then (1 : Int) else (if x0 = 2 then (1 : Int) else (if x0 = 1 then (1 : Int) else (if x0 = 5 then (1 : Int) else 0)))) ≤ 1) ∧ Q (some (jI (if x0 = 6 then (1 : Int) else (if x0 = 2 then (1 : Int) else (if x0 = 1 then (1 : Int) else (if x0 = 5 then (1 : Int) else 0)))))) M) : wc kc (d + 1) 46 [jI x0] M Q :=
  wc_of (wp_wk (l' := [some (jI x0)]) ⟨rfl, trivial⟩ (s46_0 H))

/- PuzzleHouse$Puzzle.renew(III)Ljava/lang/String; -/
theorem c51_0 : fx_op 51 0 = some (.iload_n 1, 1, 0) := by decide +kernel
theorem c51_1 : fx_ci 51 1 = some (1, 2) := by decide +kernel
theorem c51_2 : fx_op 51 2 = some (.if_icmp .lt 28, 5, 30) := by decide +kernel
theorem c51_30 : fx_cr 51 30 = some (1000011, 32) := by decide +kernel
theorem c51_5 : fx_op 51 5 = some (.iload_n 1, 6, 5) := by decide +kernel
theorem c51_6 : fx_ci 51 6 = some (3, 7) := by decide +kernel
theorem c51_7 : fx_op 51 7 = some (.if_icmp .gt 23, 10, 30) := by decide +kernel
theorem c51_10 : fx_op 51 10 = some (.iload_n 2, 11, 10) := by decide +kernel
theorem c51_11 : fx_ci 51 11 = some (1, 12) := by decide +kernel
theorem c51_12 : fx_op 51 12 = some (.if_icmp .lt 18, 15, 30) := by decide +kernel
theorem c51_15 : fx_op 51 15 = some (.iload_n 2, 16, 15) := by decide +kernel
theorem c51_16 : fx_ci 51 16 = some (3, 17) := by decide +kernel
theorem c51_17 : fx_op 51 17 = some (.if_icmp .gt 13, 20, 30) := by decide +kernel
theorem c51_20 : fx_op 51 20 = some (.iload_n 3, 21, 20) := by decide +kernel
theorem c51_21 : fx_ci 51 21 = some (1, 22) := by decide +kernel
theorem c51_22 : fx_op 51 22 = some (.if_icmp .lt 8, 25, 30) := by decide +kernel
theorem c51_25 : fx_op 51 25 = some (.iload_n 3, 26, 25) := by decide +kernel
theorem c51_26 : fx_ci 51 26 = some (4, 27) := by decide +kernel
theorem c51_27 : fx_op 51 27 = some (.if_icmp .le 6, 30, 33) := by decide +kernel
theorem c51_33 : fx_op 51 33 = some (.aload_n 0, 34, 33) := by decide +kernel
theorem c51_34 : fx_op 51 34 = some (.iload_n 1, 35, 34) := by decide +kernel
theorem c51_35 : fx_pf 51 35 = some (3, 0, 0, 38) := by decide +kernel
theorem c51_38 : fx_op 51 38 = some (.aload_n 0, 39, 38) := by decide +kernel
theorem c51_39 : fx_op 51 39 = some (.iload_n 2, 40, 39) := by decide +kernel
theorem c51_40 : fx_pf 51 40 = some (3, 1, 0, 43) := by decide +kernel
theorem c51_43 : fx_op 51 43 = some (.aload_n 0, 44, 43) := by decide +kernel
theorem c51_44 : fx_op 51 44 = some (.iload_n 1, 45, 44) := by decide +kernel
theorem c51_45 : fx_op 51 45 = some (.iload_n 2, 46, 45) := by decide +kernel
theorem c51_46 : fx_op 51 46 = some (.imul, 47, 46) := by decide +kernel
theorem c51_47 : fx_pf 51 47 = some (3, 2, 0, 50) := by decide +kernel
theorem c51_50 : fx_op 51 50 = some (.aload_n 0, 51, 50) := by decide +kernel
theorem c51_51 : fx_op 51 51 = some (.iload_n 3, 52, 51) := by decide +kernel
theorem c51_52 : fx_pf 51 52 = some (3, 3, 0, 55) := by decide +kernel
theorem c51_55 : fx_op 51 55 = some (.aload_n 0, 56, 55) := by decide +kernel
theorem c51_56 : fx_ci 51 56 = some (0, 57) := by decide +kernel
theorem c51_57 : fx_pf 51 57 = some (3, 4, 0, 60) := by decide +kernel
theorem c51_60 : fx_op 51 60 = some (.aload_n 0, 61, 60) := by decide +kernel
theorem c51_61 : fx_ci 51 61 = some (0, 62) := by decide +kernel
theorem c51_62 : fx_pf 51 62 = some (3, 12, 0, 65) := by decide +kernel
theorem c51_65 : fx_ci 51 65 = some (0, 66) := by decide +kernel
theorem c51_66 : fx_op 51 66 = some (.istore 4, 68, 66) := by decide +kernel
theorem c51_32 : fx_op 51 32 = some (.areturn, 33, 32) := by decide +kernel
theorem c51_68 : fx_op 51 68 = some (.iload 4, 70, 68) := by decide +kernel
theorem c51_70 : fx_ci 51 70 = some (9, 72) := by decide +kernel
theorem c51_72 : fx_op 51 72 = some (.if_icmp .ge 17, 75, 89) := by decide +kernel
theorem c51_75 : fx_op 51 75 = some (.aload_n 0, 76, 75) := by decide +kernel
theorem c51_76 : fx_gf 51 76 = some (3, 10, 79) := by decide +kernel
theorem c51_79 : fx_op 51 79 = some (.iload 4, 81, 79) := by decide +kernel
theorem c51_81 : fx_ci 51 81 = some ((-1), 82) := by decide +kernel
theorem c51_89 : fx_cr 51 89 = some (1000013, 91) := by decide +kernel
theorem c51_83 : fx_op 51 83 = some (.iinc 4 1, 86, 83) := by decide +kernel
theorem c51_91 : fx_op 51 91 = some (.areturn, 92, 91) := by decide +kernel
theorem c51_82 : fx_op 51 82 = some (.iastore, 83, 82) := by decide +kernel
theorem c51_86 : fx_op 51 86 = some (.goto (-18), 89, 68) := by decide +kernel
theorem s51_0 {kc : List va_E} {d : Nat} {p : Nat} {x1 x2 x3 : Int} {M : fx_M} {Q : Option fx_V → fx_M → Prop} (Hp : fx_puz p) (H : ((fx_in32 x1)) ∧ (x1 < 1 → Q (some (jR 1000011)) M) ∧ (1 ≤ x1 → ((fx_in32 x1)) ∧ (3 < x1 → Q (some (jR 1000011)) M) ∧ (x1 ≤ 3 → ((fx_in32 x2)) ∧ (x2 < 1 → Q (some (jR 1000011)) M) ∧ (1 ≤ x2 → ((fx_in32 x2)) ∧ (3 < x2 → Q (some (jR 1000011)) M) ∧ (x2 ≤ 3 → ((fx_in32 x3)) ∧ (x3 < 1 → Q (some (jR 1000011)) M) ∧ (1 ≤ x3 → ((fx_in32 x3)) ∧ (x3 ≤ 4 → wp kc (d + 1) 51 68 [some (jR p), none, none, none, some (jI 0)] [] (fx_up (fx_up (fx_up (fx_up (fx_up (fx_up M p 0 x1) p 1 x2) p 2 (x1 * x2)) p 3 x3) p 4 0) p 12 0) Q) ∧ (4 < x3 → Q (some (jR 1000011)) M))))))) : wp kc (d + 1) 51 0 [some (jR p), some (jI x1), some (jI x2), some (jI x3), none] [] M Q :=
  (x_ildn c51_0 rfl (x_ci c51_1 (x_clt c51_2 H.1 (by decide) (fun h11 => (x_cr c51_30 (x_art c51_32 r51 (H.2.1 h11)))) (fun h12 => (x_ildn c51_5 rfl (x_ci c51_6 (x_cgt c51_7 (H.2.2 h12).1 (by decide) (fun h9 => (x_cr c51_30 (x_art c51_32 r51 ((H.2.2 h12).2.1 h9)))) (fun h10 => (x_ildn c51_10 rfl (x_ci c51_11 (x_clt c51_12 ((H.2.2 h12).2.2 h10).1 (by decide) (fun h7 => (x_cr c51_30 (x_art c51_32 r51 (((H.2.2 h12).2.2 h10).2.1 h7)))) (fun h8 => (x_ildn c51_15 rfl (x_ci c51_16 (x_cgt c51_17 (((H.2.2 h12).2.2 h10).2.2 h8).1 (by decide) (fun h5 => (x_cr c51_30 (x_art c51_32 r51 ((((H.2.2 h12).2.2 h10).2.2 h8).2.1 h5)))) (fun h6 => (x_ildn c51_20 rfl (x_ci c51_21 (x_clt c51_22 ((((H.2.2 h12).2.2 h10).2.2 h8).2.2 h6).1 (by decide) (fun h3 => (x_cr c51_30 (x_art c51_32 r51 (((((H.2.2 h12).2.2 h10).2.2 h8).2.2 h6).2.1 h3)))) (fun h4 => (x_ildn c51_25 rfl (x_ci c51_26 (x_cle c51_27 (((((H.2.2 h12).2.2 h10).2.2 h8).2.2 h6).2.2 h4).1 (by decide) (fun h1 => (x_aldn c51_33 rfl (x_ildn c51_34 rfl (x_pfi c51_35 (kp_0 Hp) (x_aldn c51_38 rfl (x_ildn c51_39 rfl (x_pfi c51_40 (kp_1 Hp) (x_aldn c51_43 rfl (x_ildn c51_44 rfl (x_ildn c51_45 rfl (x_imul c51_46 (x_pfi c51_47 (kp_2 Hp) (x_aldn c51_50 rfl (x_ildn c51_51 rfl (x_pfi c51_52 (kp_3 Hp) (x_aldn c51_55 rfl (x_ci c51_56 (x_pfi c51_57 (kp_4 Hp) (x_aldn c51_60 rfl (x_ci c51_61 (x_pfi c51_62 (kp_12 Hp) (x_ci c51_65 (x_ist (l' := [some (jR p), some (jI x1), some (jI x2), some (jI x3), some (jI 0)]) c51_66 rfl (wp_wk (l' := [some (jR p), none, none, none, some (jI 0)]) ⟨rfl, ⟨rfl, trivial⟩⟩ ((((((H.2.2 h12).2.2 h10).2.2 h8).2.2 h6).2.2 h4).2.1 h1))))))))))))))))))))))))) (fun h2 => (x_cr c51_30 (x_art c51_32 r51 ((((((H.2.2 h12).2.2 h10).2.2 h8).2.2 h6).2.2 h4).2.2 h2)))))))))))))))))))))))))))
theorem s51_68 {kc : List va_E} {d : Nat} {p : Nat} {v4 : Int} {M : fx_M} {Q : Option fx_V → fx_M → Prop} (Hp : fx_puz p) (H : ((fx_in32 v4)) ∧ (9 ≤ v4 → Q (some (jR 1000013)) M) ∧ (v4 < 9 → (((0 : Int) ≤ v4 ∧ v4 < 9)) ∧ wp kc (d + 1) 51 68 [some (jR p), none, none, none, some (jI (v4 + 1))] [] (fx_up M (p + 6) v4 (-1)) Q)) : wp kc (d + 1) 51 68 [some (jR p), none, none, none, some (jI v4)] [] M Q :=
  (x_ild c51_68 rfl (x_ci c51_70 (x_cge c51_72 H.1 (by decide) (fun h1 => (x_cr c51_89 (x_art c51_91 r51 (H.2.1 h1)))) (fun h2 => (x_aldn c51_75 rfl (x_gfr c51_76 (kp_10 Hp) (x_ild c51_79 rfl (x_ci c51_81 (x_iast c51_82 (ap_6 Hp) (H.2.2 h2).1 (by decide) (x_inc (l' := [some (jR p), none, none, none, some (jI (v4 + 1))]) c51_83 rfl rfl (x_goto c51_86 (wp_wk (l' := [some (jR p), none, none, none, some (jI (v4 + 1))]) ⟨rfl, ⟨rfl, trivial⟩⟩ (H.2.2 h2).2))))))))))))
theorem s51 {kc : List va_E} {d : Nat} {p : Nat} {x1 x2 x3 : Int} {M : fx_M} {Q : Option fx_V → fx_M → Prop} (Hp : fx_puz p) (H : ((fx_in32 x1)) ∧ (x1 < 1 → Q (some (jR 1000011)) M) ∧ (1 ≤ x1 → ((fx_in32 x1)) ∧ (3 < x1 → Q (some (jR 1000011)) M) ∧ (x1 ≤ 3 → ((fx_in32 x2)) ∧ (x2 < 1 → Q (some (jR 1000011)) M) ∧ (1 ≤ x2 → ((fx_in32 x2)) ∧ (3 < x2 → Q (some (jR 1000011)) M) ∧ (x2 ≤ 3 → ((fx_in32 x3)) ∧ (x3 < 1 → Q (some (jR 1000011)) M) ∧ (1 ≤ x3 → ((fx_in32 x3)) ∧ (x3 ≤ 4 → wp kc (d + 1) 51 68 [some (jR p), none, none, none, some (jI 0)] [] (fx_up (fx_up (fx_up (fx_up (fx_up (fx_up M p 0 x1) p 1 x2) p 2 (x1 * x2)) p 3 x3) p 4 0) p 12 0) Q) ∧ (4 < x3 → Q (some (jR 1000011)) M))))))) : wc kc (d + 1) 51 [jR p, jI x1, jI x2, jI x3] M Q :=
  wc_of (wp_wk (l' := [some (jR p), some (jI x1), some (jI x2), some (jI x3), none]) ⟨rfl, ⟨rfl, ⟨rfl, ⟨rfl, trivial⟩⟩⟩⟩ (s51_0 Hp H))

/- PuzzleHouse$Puzzle.addRule(II[II)Ljava/lang/String; -/
theorem c52_0 : fx_op 52 0 = some (.aload_n 0, 1, 0) := by decide +kernel
theorem c52_1 : fx_op 52 1 = some (.aload_n 3, 2, 1) := by decide +kernel
theorem c52_2 : fx_op 52 2 = some (.iload 4, 4, 2) := by decide +kernel
theorem c52_4 : fx_ca 52 4 = some (53, 3, 2, 7) := by decide +kernel
theorem c52_7 : fx_op 52 7 = some (.ifCond .ne 6, 10, 13) := by decide +kernel
theorem c52_13 : fx_op 52 13 = some (.iload_n 2, 14, 13) := by decide +kernel
theorem c52_14 : fx_ci 52 14 = some (99, 16) := by decide +kernel
theorem c52_16 : fx_op 52 16 = some (.if_icmp .le 6, 19, 22) := by decide +kernel
theorem c52_22 : fx_op 52 22 = some (.aload_n 0, 23, 22) := by decide +kernel
theorem c52_23 : fx_gf 52 23 = some (3, 4, 26) := by decide +kernel
theorem c52_26 : fx_ci 52 26 = some (12, 28) := by decide +kernel
theorem c52_28 : fx_op 52 28 = some (.if_icmp .lt 6, 31, 34) := by decide +kernel
theorem c52_34 : fx_op 52 34 = some (.aload_n 0, 35, 34) := by decide +kernel
theorem c52_35 : fx_op 52 35 = some (.iload_n 1, 36, 35) := by decide +kernel
theorem c52_36 : fx_op 52 36 = some (.iload_n 2, 37, 36) := by decide +kernel
theorem c52_37 : fx_op 52 37 = some (.aload_n 3, 38, 37) := by decide +kernel
theorem c52_38 : fx_op 52 38 = some (.iload 4, 40, 38) := by decide +kernel
theorem c52_31 : fx_cr 52 31 = some (1000021, 33) := by decide +kernel
theorem c52_19 : fx_cr 52 19 = some (1000019, 21) := by decide +kernel
theorem c52_10 : fx_cr 52 10 = some (1000017, 12) := by decide +kernel
theorem c52_40 : fx_ca 52 40 = some (54, 5, 2, 43) := by decide +kernel
theorem c52_33 : fx_op 52 33 = some (.areturn, 34, 33) := by decide +kernel
theorem c52_21 : fx_op 52 21 = some (.areturn, 22, 21) := by decide +kernel
theorem c52_12 : fx_op 52 12 = some (.areturn, 13, 12) := by decide +kernel
theorem c52_43 : fx_cr 52 43 = some (1000013, 45) := by decide +kernel
theorem c52_45 : fx_op 52 45 = some (.areturn, 46, 45) := by decide +kernel
theorem s52_0 {kc : List va_E} {d : Nat} {p a : Nat} {x1 x2 x4 : Int} {M : fx_M} {Q : Option fx_V → fx_M → Prop} (Hp : fx_puz p) (Ha : fx_a a = some (0, 4)) (H : wc kc d 53 [jR p, jR a, jI x4] M (fun v M1 => wp kc (d + 1) 52 7 [some (jR p), some (jI x1), some (jI x2), some (jR a), some (jI x4)] (v.toList ++ []) M1 Q)) : wp kc (d + 1) 52 0 [some (jR p), some (jI x1), some (jI x2), some (jR a), some (jI x4)] [] M Q :=
  (x_aldn c52_0 rfl (x_aldn c52_1 rfl (x_ild c52_2 rfl (wp_wk (l' := [some (jR p), some (jI x1), some (jI x2), some (jR a), some (jI x4)]) ⟨rfl, ⟨rfl, ⟨rfl, ⟨rfl, ⟨rfl, trivial⟩⟩⟩⟩⟩ (x_cv (As := [jR a, jI x4]) (st := []) c52_4 (clp Hp) kl53 rfl (Nat.le_of_ble_eq_true rfl) mx53 (Nat.le_refl _) H)))))
theorem s52_7 {kc : List va_E} {d : Nat} {p a : Nat} {v1 v2 v4 u0 : Int} {M : fx_M} {Q : Option fx_V → fx_M → Prop} (Hp : fx_puz p) (Ha : fx_a a = some (0, 4)) (H : ((fx_in32 u0)) ∧ (u0 ≠ 0 → ((fx_in32 v2)) ∧ (v2 ≤ 99 → ((fx_in32 (M p 4))) ∧ (M p 4 < 12 → wc kc d 54 [jR p, jI v1, jI v2, jR a, jI v4] M (fun v M1 => wp kc (d + 1) 52 43 [none, none, none, none, none] (v.toList ++ []) M1 Q)) ∧ (12 ≤ M p 4 → Q (some (jR 1000021)) M)) ∧ (99 < v2 → Q (some (jR 1000019)) M)) ∧ (u0 = 0 → Q (some (jR 1000017)) M)) : wp kc (d + 1) 52 7 [some (jR p), some (jI v1), some (jI v2), some (jR a), some (jI v4)] [jI u0] M Q :=
  (x_zne c52_7 H.1 (fun h5 => (x_ildn c52_13 rfl (x_ci c52_14 (x_cle c52_16 (H.2.1 h5).1 (by decide) (fun h3 => (x_aldn c52_22 rfl (x_gfi c52_23 (kp_4 Hp) (x_ci c52_26 (x_clt c52_28 ((H.2.1 h5).2.1 h3).1 (by decide) (fun h1 => (x_aldn c52_34 rfl (x_ildn c52_35 rfl (x_ildn c52_36 rfl (x_aldn c52_37 rfl (x_ild c52_38 rfl (wp_wk (l' := [none, none, none, none, none]) trivial (x_cv (As := [jI v1, jI v2, jR a, jI v4]) (st := []) c52_40 (clp Hp) kl54 rfl (Nat.le_of_ble_eq_true rfl) mx54 (Nat.le_refl _) (((H.2.1 h5).2.1 h3).2.1 h1))))))))) (fun h2 => (x_cr c52_31 (x_art c52_33 r52 (((H.2.1 h5).2.1 h3).2.2 h2))))))))) (fun h4 => (x_cr c52_19 (x_art c52_21 r52 ((H.2.1 h5).2.2 h4)))))))) (fun h6 => (x_cr c52_10 (x_art c52_12 r52 (H.2.2 h6)))))
theorem s52_43 {kc : List va_E} {d : Nat} {p a : Nat} {M : fx_M} {Q : Option fx_V → fx_M → Prop} (Hp : fx_puz p) (Ha : fx_a a = some (0, 4)) (H : Q (some (jR 1000013)) M) : wp kc (d + 1) 52 43 [none, none, none, none, none] [] M Q :=
  (x_cr c52_43 (x_art c52_45 r52 H))
theorem s52 {kc : List va_E} {d : Nat} {p a : Nat} {x1 x2 x4 : Int} {M : fx_M} {Q : Option fx_V → fx_M → Prop} (Hp : fx_puz p) (Ha : fx_a a = some (0, 4)) (H : wc kc d 53 [jR p, jR a, jI x4] M (fun v M1 => wp kc (d + 1) 52 7 [some (jR p), some (jI x1), some (jI x2), some (jR a), some (jI x4)] (v.toList ++ []) M1 Q)) : wc kc (d + 1) 52 [jR p, jI x1, jI x2, jR a, jI x4] M Q :=
  wc_of (wp_wk (l' := [some (jR p), some (jI x1), some (jI x2), some (jR a), some (jI x4)]) ⟨rfl, ⟨rfl, ⟨rfl, ⟨rfl, ⟨rfl, trivial⟩⟩⟩⟩⟩ (s52_0 Hp Ha H))

/- PuzzleHouse$Puzzle.areCells([II)Z -/
theorem c53_0 : fx_op 53 0 = some (.iload_n 2, 1, 0) := by decide +kernel
theorem c53_1 : fx_ci 53 1 = some (1, 2) := by decide +kernel
theorem c53_2 : fx_op 53 2 = some (.if_icmp .lt 14, 5, 16) := by decide +kernel
theorem c53_16 : fx_ci 53 16 = some (0, 17) := by decide +kernel
theorem c53_5 : fx_op 53 5 = some (.iload_n 2, 6, 5) := by decide +kernel
theorem c53_6 : fx_ci 53 6 = some (4, 7) := by decide +kernel
theorem c53_7 : fx_op 53 7 = some (.if_icmp .gt 9, 10, 16) := by decide +kernel
theorem c53_10 : fx_op 53 10 = some (.iload_n 2, 11, 10) := by decide +kernel
theorem c53_11 : fx_op 53 11 = some (.aload_n 1, 12, 11) := by decide +kernel
theorem c53_12 : fx_op 53 12 = some (.arraylength, 13, 12) := by decide +kernel
theorem c53_13 : fx_op 53 13 = some (.if_icmp .le 5, 16, 18) := by decide +kernel
theorem c53_18 : fx_ci 53 18 = some (0, 19) := by decide +kernel
theorem c53_19 : fx_op 53 19 = some (.istore_n 3, 20, 19) := by decide +kernel
theorem c53_20 : fx_ci 53 20 = some (0, 21) := by decide +kernel
theorem c53_21 : fx_op 53 21 = some (.istore 4, 23, 21) := by decide +kernel
theorem c53_17 : fx_op 53 17 = some (.ireturn, 18, 17) := by decide +kernel
theorem c53_23 : fx_op 53 23 = some (.iload 4, 25, 23) := by decide +kernel
theorem c53_25 : fx_op 53 25 = some (.iload_n 2, 26, 25) := by decide +kernel
theorem c53_26 : fx_op 53 26 = some (.if_icmp .ge 47, 29, 73) := by decide +kernel
theorem c53_73 : fx_ci 53 73 = some (1, 74) := by decide +kernel
theorem c53_29 : fx_op 53 29 = some (.aload_n 1, 30, 29) := by decide +kernel
theorem c53_30 : fx_op 53 30 = some (.iload 4, 32, 30) := by decide +kernel
theorem c53_33 : fx_op 53 33 = some (.istore 5, 35, 33) := by decide +kernel
theorem c53_35 : fx_op 53 35 = some (.iload 5, 37, 35) := by decide +kernel
theorem c53_37 : fx_op 53 37 = some (.ifCond .lt 21, 40, 58) := by decide +kernel
theorem c53_58 : fx_ci 53 58 = some (0, 59) := by decide +kernel
theorem c53_40 : fx_op 53 40 = some (.iload 5, 42, 40) := by decide +kernel
theorem c53_42 : fx_op 53 42 = some (.aload_n 0, 43, 42) := by decide +kernel
theorem c53_43 : fx_gf 53 43 = some (3, 2, 46) := by decide +kernel
theorem c53_46 : fx_op 53 46 = some (.if_icmp .ge 12, 49, 58) := by decide +kernel
theorem c53_49 : fx_op 53 49 = some (.iload_n 3, 50, 49) := by decide +kernel
theorem c53_50 : fx_op 53 50 = some (.iload 5, 52, 50) := by decide +kernel
theorem c53_52 : fx_op 53 52 = some (.ishr, 53, 52) := by decide +kernel
theorem c53_53 : fx_ci 53 53 = some (1, 54) := by decide +kernel
theorem c53_54 : fx_op 53 54 = some (.iand, 55, 54) := by decide +kernel
theorem c53_55 : fx_op 53 55 = some (.ifCond .eq 5, 58, 60) := by decide +kernel
theorem c53_60 : fx_op 53 60 = some (.iload_n 3, 61, 60) := by decide +kernel
theorem c53_61 : fx_ci 53 61 = some (1, 62) := by decide +kernel
theorem c53_62 : fx_op 53 62 = some (.iload 5, 64, 62) := by decide +kernel
theorem c53_64 : fx_op 53 64 = some (.ishl, 65, 64) := by decide +kernel
theorem c53_65 : fx_op 53 65 = some (.ior, 66, 65) := by decide +kernel
theorem c53_66 : fx_op 53 66 = some (.istore_n 3, 67, 66) := by decide +kernel
theorem c53_67 : fx_op 53 67 = some (.iinc 4 1, 70, 67) := by decide +kernel
theorem c53_74 : fx_op 53 74 = some (.ireturn, 75, 74) := by decide +kernel
theorem c53_32 : fx_op 53 32 = some (.iaload, 33, 32) := by decide +kernel
theorem c53_59 : fx_op 53 59 = some (.ireturn, 60, 59) := by decide +kernel
theorem c53_70 : fx_op 53 70 = some (.goto (-47), 73, 23) := by decide +kernel
theorem s53_0 {kc : List va_E} {d : Nat} {p a : Nat} {x2 : Int} {M : fx_M} {Q : Option fx_V → fx_M → Prop} (Hp : fx_puz p) (Ha : fx_a a = some (0, 4)) (H : ((fx_in32 x2)) ∧ (x2 < 1 → Q (some (jI 0)) M) ∧ (1 ≤ x2 → ((fx_in32 x2)) ∧ (4 < x2 → Q (some (jI 0)) M) ∧ (x2 ≤ 4 → ((fx_in32 x2)) ∧ (x2 ≤ 4 → wp kc (d + 1) 53 23 [some (jR p), some (jR a), some (jI x2), some (jI 0), some (jI 0), none] [] M Q) ∧ (4 < x2 → Q (some (jI 0)) M)))) : wp kc (d + 1) 53 0 [some (jR p), some (jR a), some (jI x2), none, none, none] [] M Q :=
  (x_ildn c53_0 rfl (x_ci c53_1 (x_clt c53_2 H.1 (by decide) (fun h5 => (x_ci c53_16 (x_zrt c53_17 r53 (by decide) (H.2.1 h5)))) (fun h6 => (x_ildn c53_5 rfl (x_ci c53_6 (x_cgt c53_7 (H.2.2 h6).1 (by decide) (fun h3 => (x_ci c53_16 (x_zrt c53_17 r53 (by decide) ((H.2.2 h6).2.1 h3)))) (fun h4 => (x_ildn c53_10 rfl (x_aldn c53_11 rfl (x_len c53_12 Ha (x_cle c53_13 ((H.2.2 h6).2.2 h4).1 (by decide) (fun h1 => (x_ci c53_18 (x_istn (l' := [some (jR p), some (jR a), some (jI x2), some (jI 0), none, none]) c53_19 rfl (x_ci c53_20 (x_ist (l' := [some (jR p), some (jR a), some (jI x2), some (jI 0), some (jI 0), none]) c53_21 rfl (wp_wk (l' := [some (jR p), some (jR a), some (jI x2), some (jI 0), some (jI 0), none]) ⟨rfl, ⟨rfl, ⟨rfl, ⟨rfl, ⟨rfl, trivial⟩⟩⟩⟩⟩ (((H.2.2 h6).2.2 h4).2.1 h1))))))) (fun h2 => (x_ci c53_16 (x_zrt c53_17 r53 (by decide) (((H.2.2 h6).2.2 h4).2.2 h2))))))))))))))))
theorem s53_23 {kc : List va_E} {d : Nat} {p a : Nat} {v2 v3 v4 : Int} {M : fx_M} {Q : Option fx_V → fx_M → Prop} (Hp : fx_puz p) (Ha : fx_a a = some (0, 4)) (H : ((fx_in32 v4) ∧ (fx_in32 v2)) ∧ (v2 ≤ v4 → Q (some (jI 1)) M) ∧ (v4 < v2 → (((0 : Int) ≤ v4 ∧ v4 < 4)) ∧ ((fx_in32 (M a v4))) ∧ (M a v4 < 0 → Q (some (jI 0)) M) ∧ (0 ≤ M a v4 → ((fx_in32 (M a v4)) ∧ (fx_in32 (M p 2))) ∧ (M p 2 ≤ M a v4 → Q (some (jI 0)) M) ∧ (M a v4 < M p 2 → ((fx_in32 (fx_and (fx_shr v3 (M a v4)) 1))) ∧ (fx_and (fx_shr v3 (M a v4)) 1 = 0 → wp kc (d + 1) 53 23 [some (jR p), some (jR a), some (jI v2), some (jI (fx_or v3 (fx_shl 1 (M a v4)))), some (jI (v4 + 1)), none] [] M Q) ∧ (fx_and (fx_shr v3 (M a v4)) 1 ≠ 0 → Q (some (jI 0)) M))))) : wp kc (d + 1) 53 23 [some (jR p), some (jR a), some (jI v2), some (jI v3), some (jI v4), none] [] M Q :=
  (x_ild c53_23 rfl (x_ildn c53_25 rfl (x_cge c53_26 H.1.1 H.1.2 (fun h7 => (x_ci c53_73 (x_zrt c53_74 r53 (by decide) (H.2.1 h7)))) (fun h8 => (x_aldn c53_29 rfl (x_ild c53_30 rfl (x_iald c53_32 Ha (H.2.2 h8).1 (by decide) (x_ist (l' := [some (jR p), some (jR a), some (jI v2), some (jI v3), some (jI v4), some (jI (M a v4))]) c53_33 rfl (x_ild c53_35 rfl (x_zlt c53_37 (H.2.2 h8).2.1 (fun h5 => (x_ci c53_58 (x_zrt c53_59 r53 (by decide) ((H.2.2 h8).2.2.1 h5)))) (fun h6 => (x_ild c53_40 rfl (x_aldn c53_42 rfl (x_gfi c53_43 (kp_2 Hp) (x_cge c53_46 ((H.2.2 h8).2.2.2 h6).1.1 ((H.2.2 h8).2.2.2 h6).1.2 (fun h3 => (x_ci c53_58 (x_zrt c53_59 r53 (by decide) (((H.2.2 h8).2.2.2 h6).2.1 h3)))) (fun h4 => (x_ildn c53_49 rfl (x_ild c53_50 rfl (x_ishr c53_52 (x_ci c53_53 (x_iand c53_54 (x_zeq c53_55 (((H.2.2 h8).2.2.2 h6).2.2 h4).1 (fun h1 => (x_ildn c53_60 rfl (x_ci c53_61 (x_ild c53_62 rfl (x_ishl c53_64 (x_ior c53_65 (x_istn (l' := [some (jR p), some (jR a), some (jI v2), some (jI (fx_or v3 (fx_shl 1 (M a v4)))), some (jI v4), some (jI (M a v4))]) c53_66 rfl (x_inc (l' := [some (jR p), some (jR a), some (jI v2), some (jI (fx_or v3 (fx_shl 1 (M a v4)))), some (jI (v4 + 1)), some (jI (M a v4))]) c53_67 rfl rfl (x_goto c53_70 (wp_wk (l' := [some (jR p), some (jR a), some (jI v2), some (jI (fx_or v3 (fx_shl 1 (M a v4)))), some (jI (v4 + 1)), none]) ⟨rfl, ⟨rfl, ⟨rfl, ⟨rfl, ⟨rfl, trivial⟩⟩⟩⟩⟩ ((((H.2.2 h8).2.2.2 h6).2.2 h4).2.1 h1))))))))))) (fun h2 => (x_ci c53_58 (x_zrt c53_59 r53 (by decide) ((((H.2.2 h8).2.2.2 h6).2.2 h4).2.2 h2))))))))))))))))))))))))))
theorem s53 {kc : List va_E} {d : Nat} {p a : Nat} {x2 : Int} {M : fx_M} {Q : Option fx_V → fx_M → Prop} (Hp : fx_puz p) (Ha : fx_a a = some (0, 4)) (H : ((fx_in32 x2)) ∧ (x2 < 1 → Q (some (jI 0)) M) ∧ (1 ≤ x2 → ((fx_in32 x2)) ∧ (4 < x2 → Q (some (jI 0)) M) ∧ (x2 ≤ 4 → ((fx_in32 x2)) ∧ (x2 ≤ 4 → wp kc (d + 1) 53 23 [some (jR p), some (jR a), some (jI x2), some (jI 0), some (jI 0), none] [] M Q) ∧ (4 < x2 → Q (some (jI 0)) M)))) : wc kc (d + 1) 53 [jR p, jR a, jI x2] M Q :=
  wc_of (wp_wk (l' := [some (jR p), some (jR a), some (jI x2), none, none, none]) ⟨rfl, ⟨rfl, ⟨rfl, trivial⟩⟩⟩ (s53_0 Hp Ha H))

/- PuzzleHouse$Puzzle.append(II[II)V -/
theorem c54_0 : fx_op 54 0 = some (.aload_n 0, 1, 0) := by decide +kernel
theorem c54_1 : fx_gf 54 1 = some (3, 4, 4) := by decide +kernel
theorem c54_4 : fx_ci 54 4 = some (12, 6) := by decide +kernel
theorem c54_6 : fx_op 54 6 = some (.if_icmp .ge 9, 9, 15) := by decide +kernel
theorem c54_9 : fx_op 54 9 = some (.iload 4, 11, 9) := by decide +kernel
theorem c54_11 : fx_ci 54 11 = some (1, 12) := by decide +kernel
theorem c54_12 : fx_op 54 12 = some (.if_icmp .ge 4, 15, 16) := by decide +kernel
theorem c54_16 : fx_op 54 16 = some (.aload_n 0, 17, 16) := by decide +kernel
theorem c54_17 : fx_gf 54 17 = some (3, 5, 20) := by decide +kernel
theorem c54_20 : fx_op 54 20 = some (.aload_n 0, 21, 20) := by decide +kernel
theorem c54_21 : fx_gf 54 21 = some (3, 4, 24) := by decide +kernel
theorem c54_24 : fx_op 54 24 = some (.iload_n 1, 25, 24) := by decide +kernel
theorem c54_26 : fx_op 54 26 = some (.aload_n 0, 27, 26) := by decide +kernel
theorem c54_27 : fx_gf 54 27 = some (3, 6, 30) := by decide +kernel
theorem c54_30 : fx_op 54 30 = some (.aload_n 0, 31, 30) := by decide +kernel
theorem c54_31 : fx_gf 54 31 = some (3, 4, 34) := by decide +kernel
theorem c54_34 : fx_op 54 34 = some (.iload_n 2, 35, 34) := by decide +kernel
theorem c54_36 : fx_op 54 36 = some (.aload_n 0, 37, 36) := by decide +kernel
theorem c54_37 : fx_gf 54 37 = some (3, 7, 40) := by decide +kernel
theorem c54_40 : fx_op 54 40 = some (.aload_n 0, 41, 40) := by decide +kernel
theorem c54_41 : fx_gf 54 41 = some (3, 4, 44) := by decide +kernel
theorem c54_44 : fx_op 54 44 = some (.iload 4, 46, 44) := by decide +kernel
theorem c54_47 : fx_op 54 47 = some (.aload_n 0, 48, 47) := by decide +kernel
theorem c54_48 : fx_gf 54 48 = some (3, 9, 51) := by decide +kernel
theorem c54_51 : fx_op 54 51 = some (.aload_n 0, 52, 51) := by decide +kernel
theorem c54_52 : fx_gf 54 52 = some (3, 4, 55) := by decide +kernel
theorem c54_55 : fx_ci 54 55 = some (0, 56) := by decide +kernel
theorem c54_57 : fx_ci 54 57 = some (0, 58) := by decide +kernel
theorem c54_58 : fx_op 54 58 = some (.istore 5, 60, 58) := by decide +kernel
theorem c54_15 : fx_op 54 15 = some (.return_, 16, 15) := by decide +kernel
theorem c54_25 : fx_op 54 25 = some (.iastore, 26, 25) := by decide +kernel
theorem c54_35 : fx_op 54 35 = some (.iastore, 36, 35) := by decide +kernel
theorem c54_46 : fx_op 54 46 = some (.iastore, 47, 46) := by decide +kernel
theorem c54_56 : fx_op 54 56 = some (.iastore, 57, 56) := by decide +kernel
theorem c54_60 : fx_op 54 60 = some (.iload 5, 62, 60) := by decide +kernel
theorem c54_62 : fx_ci 54 62 = some (4, 63) := by decide +kernel
theorem c54_63 : fx_op 54 63 = some (.if_icmp .ge 68, 66, 131) := by decide +kernel
theorem c54_66 : fx_op 54 66 = some (.aload_n 0, 67, 66) := by decide +kernel
theorem c54_67 : fx_gf 54 67 = some (3, 8, 70) := by decide +kernel
theorem c54_70 : fx_ci 54 70 = some (4, 71) := by decide +kernel
theorem c54_71 : fx_op 54 71 = some (.aload_n 0, 72, 71) := by decide +kernel
theorem c54_72 : fx_gf 54 72 = some (3, 4, 75) := by decide +kernel
theorem c54_75 : fx_op 54 75 = some (.imul, 76, 75) := by decide +kernel
theorem c54_76 : fx_op 54 76 = some (.iload 5, 78, 76) := by decide +kernel
theorem c54_78 : fx_op 54 78 = some (.iadd, 79, 78) := by decide +kernel
theorem c54_79 : fx_op 54 79 = some (.iload 5, 81, 79) := by decide +kernel
theorem c54_81 : fx_op 54 81 = some (.iload 4, 83, 81) := by decide +kernel
theorem c54_83 : fx_op 54 83 = some (.if_icmp .ge 10, 86, 93) := by decide +kernel
theorem c54_93 : fx_ci 54 93 = some (9, 95) := by decide +kernel
theorem c54_131 : fx_op 54 131 = some (.aload_n 0, 132, 131) := by decide +kernel
theorem c54_132 : fx_op 54 132 = some (.dup, 133, 132) := by decide +kernel
theorem c54_133 : fx_gf 54 133 = some (3, 4, 136) := by decide +kernel
theorem c54_136 : fx_ci 54 136 = some (1, 137) := by decide +kernel
theorem c54_137 : fx_op 54 137 = some (.iadd, 138, 137) := by decide +kernel
theorem c54_138 : fx_pf 54 138 = some (3, 4, 0, 141) := by decide +kernel
theorem c54_86 : fx_op 54 86 = some (.aload_n 3, 87, 86) := by decide +kernel
theorem c54_87 : fx_op 54 87 = some (.iload 5, 89, 87) := by decide +kernel
theorem c54_89 : fx_op 54 89 = some (.iaload, 90, 89) := by decide +kernel
theorem c54_90 : fx_op 54 90 = some (.goto 5, 93, 95) := by decide +kernel
theorem c54_96 : fx_op 54 96 = some (.aload_n 0, 97, 96) := by decide +kernel
theorem c54_97 : fx_gf 54 97 = some (3, 9, 100) := by decide +kernel
theorem c54_100 : fx_op 54 100 = some (.aload_n 0, 101, 100) := by decide +kernel
theorem c54_101 : fx_gf 54 101 = some (3, 4, 104) := by decide +kernel
theorem c54_104 : fx_op 54 104 = some (.dup2, 105, 104) := by decide +kernel
theorem c54_106 : fx_op 54 106 = some (.iload 5, 108, 106) := by decide +kernel
theorem c54_108 : fx_op 54 108 = some (.iload 4, 110, 108) := by decide +kernel
theorem c54_110 : fx_op 54 110 = some (.if_icmp .ge 12, 113, 122) := by decide +kernel
theorem c54_122 : fx_ci 54 122 = some (0, 123) := by decide +kernel
theorem c54_113 : fx_ci 54 113 = some (1, 114) := by decide +kernel
theorem c54_114 : fx_op 54 114 = some (.aload_n 3, 115, 114) := by decide +kernel
theorem c54_115 : fx_op 54 115 = some (.iload 5, 117, 115) := by decide +kernel
theorem c54_117 : fx_op 54 117 = some (.iaload, 118, 117) := by decide +kernel
theorem c54_118 : fx_op 54 118 = some (.ishl, 119, 118) := by decide +kernel
theorem c54_119 : fx_op 54 119 = some (.goto 4, 122, 123) := by decide +kernel
theorem c54_123 : fx_op 54 123 = some (.ior, 124, 123) := by decide +kernel
theorem c54_125 : fx_op 54 125 = some (.iinc 5 1, 128, 125) := by decide +kernel
theorem c54_141 : fx_op 54 141 = some (.return_, 142, 141) := by decide +kernel
theorem c54_95 : fx_op 54 95 = some (.iastore, 96, 95) := by decide +kernel
theorem c54_105 : fx_op 54 105 = some (.iaload, 106, 105) := by decide +kernel
theorem c54_124 : fx_op 54 124 = some (.iastore, 125, 124) := by decide +kernel
theorem c54_128 : fx_op 54 128 = some (.goto (-68), 131, 60) := by decide +kernel
theorem s54_0 {kc : List va_E} {d : Nat} {p a : Nat} {x1 x2 x4 : Int} {M : fx_M} {Q : Option fx_V → fx_M → Prop} (Hp : fx_puz p) (Ha : fx_a a = some (0, 4)) (H : ((fx_in32 (M p 4))) ∧ (12 ≤ M p 4 → Q none M) ∧ (M p 4 < 12 → ((fx_in32 x4)) ∧ (1 ≤ x4 → (((0 : Int) ≤ M p 4 ∧ M p 4 < 12)) ∧ (((0 : Int) ≤ M p 4 ∧ M p 4 < 12)) ∧ (((0 : Int) ≤ M p 4 ∧ M p 4 < 12)) ∧ (((0 : Int) ≤ M p 4 ∧ M p 4 < 12)) ∧ wp kc (d + 1) 54 60 [some (jR p), none, none, some (jR a), some (jI x4), some (jI 0)] [] (fx_up (fx_up (fx_up (fx_up M (p + 1) (M p 4) x1) (p + 2) (M p 4) x2) (p + 3) (M p 4) x4) (p + 5) (M p 4) 0) Q) ∧ (x4 < 1 → Q none M))) : wp kc (d + 1) 54 0 [some (jR p), some (jI x1), some (jI x2), some (jR a), some (jI x4), none] [] M Q :=
  (x_aldn c54_0 rfl (x_gfi c54_1 (kp_4 Hp) (x_ci c54_4 (x_cge c54_6 H.1 (by decide) (fun h3 => (x_vr c54_15 r54 (H.2.1 h3))) (fun h4 => (x_ild c54_9 rfl (x_ci c54_11 (x_cge c54_12 (H.2.2 h4).1 (by decide) (fun h1 => (x_aldn c54_16 rfl (x_gfr c54_17 (kp_5 Hp) (x_aldn c54_20 rfl (x_gfi c54_21 (kp_4 Hp) (x_ildn c54_24 rfl (x_iast c54_25 (ap_1 Hp) ((H.2.2 h4).2.1 h1).1 (by decide) (x_aldn c54_26 rfl (x_gfr c54_27 (kp_6 Hp) (x_aldn c54_30 rfl (x_gfi c54_31 (kp_4 Hp) (wp_vI (fx_upA (by omega)) (x_ildn c54_34 rfl (x_iast c54_35 (ap_2 Hp) ((H.2.2 h4).2.1 h1).2.1 (by decide) (x_aldn c54_36 rfl (x_gfr c54_37 (kp_7 Hp) (x_aldn c54_40 rfl (x_gfi c54_41 (kp_4 Hp) (wp_vI (((fx_upA (by omega)).trans (fx_upA (by omega)))) (x_ild c54_44 rfl (x_iast c54_46 (ap_3 Hp) ((H.2.2 h4).2.1 h1).2.2.1 (by decide) (x_aldn c54_47 rfl (x_gfr c54_48 (kp_9 Hp) (x_aldn c54_51 rfl (x_gfi c54_52 (kp_4 Hp) (wp_vI (((fx_upA (by omega)).trans ((fx_upA (by omega)).trans (fx_upA (by omega))))) (x_ci c54_55 (x_iast c54_56 (ap_5 Hp) ((H.2.2 h4).2.1 h1).2.2.2.1 (by decide) (x_ci c54_57 (x_ist (l' := [some (jR p), some (jI x1), some (jI x2), some (jR a), some (jI x4), some (jI 0)]) c54_58 rfl (wp_wk (l' := [some (jR p), none, none, some (jR a), some (jI x4), some (jI 0)]) ⟨rfl, ⟨rfl, ⟨rfl, ⟨rfl, trivial⟩⟩⟩⟩ ((H.2.2 h4).2.1 h1).2.2.2.2))))))))))))))))))))))))))))))) (fun h2 => (x_vr c54_15 r54 ((H.2.2 h4).2.2 h2)))))))))))
theorem s54_60 {kc : List va_E} {d : Nat} {p a : Nat} {v4 v5 : Int} {M : fx_M} {Q : Option fx_V → fx_M → Prop} (Hp : fx_puz p) (Ha : fx_a a = some (0, 4)) (H : ((fx_in32 v5)) ∧ (4 ≤ v5 → Q none (fx_up M p 4 ((M p 4) + 1))) ∧ (v5 < 4 → ((fx_in32 v5)) ∧ ((fx_in32 v4)) ∧ (v5 < v4 → ((((0 : Int) ≤ v5 ∧ v5 < 4)))) ∧ (((0 : Int) ≤ (4 * (M p 4)) + v5 ∧ (4 * (M p 4)) + v5 < 48)) ∧ (((0 : Int) ≤ M p 4 ∧ M p 4 < 12)) ∧ ((fx_in32 v5)) ∧ ((fx_in32 v4)) ∧ (v5 < v4 → ((((0 : Int) ≤ v5 ∧ v5 < 4)))) ∧ (((0 : Int) ≤ M p 4 ∧ M p 4 < 12)) ∧ wp kc (d + 1) 54 60 [some (jR p), none, none, some (jR a), some (jI v4), some (jI (v5 + 1))] [] (fx_up (fx_up M (p + 4) ((4 * (M p 4)) + v5) (if v5 < v4 then (M a v5 : Int) else 9)) (p + 5) (M p 4) (fx_or (M (p + 5) (M p 4)) (if v5 < v4 then (fx_shl 1 ((fx_up M (p + 4) ((4 * (M p 4)) + v5) (if v5 < v4 then (M a v5 : Int) else 9)) a v5) : Int) else 0))) Q)) : wp kc (d + 1) 54 60 [some (jR p), none, none, some (jR a), some (jI v4), some (jI v5)] [] M Q :=
  (x_ild c54_60 rfl (x_ci c54_62 (x_cge c54_63 H.1 (by decide) (fun h1 => (x_aldn c54_131 rfl (x_dupr c54_132 (x_gfi c54_133 (kp_4 Hp) (x_ci c54_136 (x_iadd c54_137 (x_pfi c54_138 (kp_4 Hp) (x_vr c54_141 r54 (H.2.1 h1))))))))) (fun h2 => (x_aldn c54_66 rfl (x_gfr c54_67 (kp_8 Hp) (x_ci c54_70 (x_aldn c54_71 rfl (x_gfi c54_72 (kp_4 Hp) (x_imul c54_75 (x_ild c54_76 rfl (x_iadd c54_78 (x_ild c54_79 rfl (x_ild c54_81 rfl (have K : wp kc (d + 1) 54 95 [some (jR p), none, none, some (jR a), some (jI v4), some (jI v5)] [jI (if v5 < v4 then (M a v5 : Int) else 9), jI ((4 * (M p 4)) + v5), jR (p + 4)] M Q := (x_iast c54_95 (ap_4 Hp) (H.2.2 h2).2.2.2.1 (by decide) (x_aldn c54_96 rfl (x_gfr c54_97 (kp_9 Hp) (x_aldn c54_100 rfl (x_gfi c54_101 (kp_4 Hp) (wp_vI (fx_upA (by omega)) (x_dup2 c54_104 (x_iald c54_105 (ap_5 Hp) (H.2.2 h2).2.2.2.2.1 (by decide) (wp_vI (fx_upA (by omega)) (x_ild c54_106 rfl (x_ild c54_108 rfl (have K : wp kc (d + 1) 54 123 [some (jR p), none, none, some (jR a), some (jI v4), some (jI v5)] [jI (if v5 < v4 then (fx_shl 1 ((fx_up M (p + 4) ((4 * (M p 4)) + v5) (if v5 < v4 then (M a v5 : Int) else 9)) a v5) : Int) else 0), jI (M (p + 5) (M p 4)), jI (M p 4), jR (p + 5)] (fx_up M (p + 4) ((4 * (M p 4)) + v5) (if v5 < v4 then (M a v5 : Int) else 9)) Q := (x_ior c54_123 (x_iast c54_124 (ap_5 Hp) (H.2.2 h2).2.2.2.2.2.2.2.2.1 (by decide) (x_inc (l' := [some (jR p), none, none, some (jR a), some (jI v4), some (jI (v5 + 1))]) c54_125 rfl rfl (x_goto c54_128 (wp_wk (l' := [some (jR p), none, none, some (jR a), some (jI v4), some (jI (v5 + 1))]) ⟨rfl, ⟨rfl, ⟨rfl, ⟨rfl, trivial⟩⟩⟩⟩ (H.2.2 h2).2.2.2.2.2.2.2.2.2))))); (x_cge c54_110 (H.2.2 h2).2.2.2.2.2.1 (H.2.2 h2).2.2.2.2.2.2.1 (fun (h5 : v4 ≤ v5) => (x_ci c54_122 (wp_wk (l' := [some (jR p), none, none, some (jR a), some (jI v4), some (jI v5)]) ⟨rfl, ⟨rfl, ⟨rfl, ⟨rfl, trivial⟩⟩⟩⟩ (by have K := K; first | (simp only [if_neg (Int.not_lt.mpr h5)] at K ⊢; exact K) | (exfalso; omega))))) (fun (h6 : v5 < v4) => (x_ci c54_113 (x_aldn c54_114 rfl (x_ild c54_115 rfl (x_iald c54_117 Ha ((H.2.2 h2).2.2.2.2.2.2.2.1 h6) (by decide) (x_ishl c54_118 (x_goto c54_119 (wp_wk (l' := [some (jR p), none, none, some (jR a), some (jI v4), some (jI v5)]) ⟨rfl, ⟨rfl, ⟨rfl, ⟨rfl, trivial⟩⟩⟩⟩ (by have K := K; first | (simp only [if_pos h6] at K ⊢; exact K) | (exfalso; omega))))))))))))))))))))))); (x_cge c54_83 (H.2.2 h2).1 (H.2.2 h2).2.1 (fun (h3 : v4 ≤ v5) => (x_ci c54_93 (wp_wk (l' := [some (jR p), none, none, some (jR a), some (jI v4), some (jI v5)]) ⟨rfl, ⟨rfl, ⟨rfl, ⟨rfl, trivial⟩⟩⟩⟩ (by have K := K; first | (simp only [if_neg (Int.not_lt.mpr h3)] at K ⊢; exact K) | (exfalso; omega))))) (fun (h4 : v5 < v4) => (x_aldn c54_86 rfl (x_ild c54_87 rfl (x_iald c54_89 Ha ((H.2.2 h2).2.2.1 h4) (by decide) (x_goto c54_90 (wp_wk (l' := [some (jR p), none, none, some (jR a), some (jI v4), some (jI v5)]) ⟨rfl, ⟨rfl, ⟨rfl, ⟨rfl, trivial⟩⟩⟩⟩ (by have K := K; first | (simp only [if_pos h4] at K ⊢; exact K) | (exfalso; omega))))))))))))))))))))))))
theorem s54 {kc : List va_E} {d : Nat} {p a : Nat} {x1 x2 x4 : Int} {M : fx_M} {Q : Option fx_V → fx_M → Prop} (Hp : fx_puz p) (Ha : fx_a a = some (0, 4)) (H : ((fx_in32 (M p 4))) ∧ (12 ≤ M p 4 → Q none M) ∧ (M p 4 < 12 → ((fx_in32 x4)) ∧ (1 ≤ x4 → (((0 : Int) ≤ M p 4 ∧ M p 4 < 12)) ∧ (((0 : Int) ≤ M p 4 ∧ M p 4 < 12)) ∧ (((0 : Int) ≤ M p 4 ∧ M p 4 < 12)) ∧ (((0 : Int) ≤ M p 4 ∧ M p 4 < 12)) ∧ wp kc (d + 1) 54 60 [some (jR p), none, none, some (jR a), some (jI x4), some (jI 0)] [] (fx_up (fx_up (fx_up (fx_up M (p + 1) (M p 4) x1) (p + 2) (M p 4) x2) (p + 3) (M p 4) x4) (p + 5) (M p 4) 0) Q) ∧ (x4 < 1 → Q none M))) : wc kc (d + 1) 54 [jR p, jI x1, jI x2, jR a, jI x4] M Q :=
  wc_of (wp_wk (l' := [some (jR p), some (jI x1), some (jI x2), some (jR a), some (jI x4), none]) ⟨rfl, ⟨rfl, ⟨rfl, ⟨rfl, ⟨rfl, trivial⟩⟩⟩⟩⟩ (s54_0 Hp Ha H))

/- PuzzleHouse$Puzzle.addEach(III)Ljava/lang/String; -/
theorem c55_0 : fx_op 55 0 = some (.iload_n 3, 1, 0) := by decide +kernel
theorem c55_1 : fx_ci 55 1 = some (99, 3) := by decide +kernel
theorem c55_3 : fx_op 55 3 = some (.if_icmp .le 6, 6, 9) := by decide +kernel
theorem c55_9 : fx_op 55 9 = some (.aload_n 0, 10, 9) := by decide +kernel
theorem c55_10 : fx_gf 55 10 = some (3, 0, 13) := by decide +kernel
theorem c55_13 : fx_ci 55 13 = some (1, 14) := by decide +kernel
theorem c55_14 : fx_op 55 14 = some (.isub, 15, 14) := by decide +kernel
theorem c55_15 : fx_op 55 15 = some (.aload_n 0, 16, 15) := by decide +kernel
theorem c55_16 : fx_gf 55 16 = some (3, 1, 19) := by decide +kernel
theorem c55_19 : fx_op 55 19 = some (.imul, 20, 19) := by decide +kernel
theorem c55_20 : fx_op 55 20 = some (.aload_n 0, 21, 20) := by decide +kernel
theorem c55_21 : fx_gf 55 21 = some (3, 0, 24) := by decide +kernel
theorem c55_24 : fx_op 55 24 = some (.aload_n 0, 25, 24) := by decide +kernel
theorem c55_25 : fx_gf 55 25 = some (3, 1, 28) := by decide +kernel
theorem c55_28 : fx_ci 55 28 = some (1, 29) := by decide +kernel
theorem c55_29 : fx_op 55 29 = some (.isub, 30, 29) := by decide +kernel
theorem c55_30 : fx_op 55 30 = some (.imul, 31, 30) := by decide +kernel
theorem c55_31 : fx_op 55 31 = some (.iadd, 32, 31) := by decide +kernel
theorem c55_32 : fx_op 55 32 = some (.istore 4, 34, 32) := by decide +kernel
theorem c55_34 : fx_op 55 34 = some (.iload_n 1, 35, 34) := by decide +kernel
theorem c55_35 : fx_op 55 35 = some (.ifCond .ne 10, 38, 45) := by decide +kernel
theorem c55_45 : fx_op 55 45 = some (.iload_n 1, 46, 45) := by decide +kernel
theorem c55_46 : fx_ci 55 46 = some (1, 47) := by decide +kernel
theorem c55_47 : fx_op 55 47 = some (.if_icmp .ne 10, 50, 57) := by decide +kernel
theorem c55_57 : fx_op 55 57 = some (.iload 4, 59, 57) := by decide +kernel
theorem c55_50 : fx_op 55 50 = some (.aload_n 0, 51, 50) := by decide +kernel
theorem c55_51 : fx_gf 55 51 = some (3, 0, 54) := by decide +kernel
theorem c55_54 : fx_op 55 54 = some (.goto 5, 57, 59) := by decide +kernel
theorem c55_38 : fx_op 55 38 = some (.aload_n 0, 39, 38) := by decide +kernel
theorem c55_39 : fx_gf 55 39 = some (3, 1, 42) := by decide +kernel
theorem c55_42 : fx_op 55 42 = some (.goto 17, 45, 59) := by decide +kernel
theorem c55_59 : fx_op 55 59 = some (.istore 5, 61, 59) := by decide +kernel
theorem c55_61 : fx_op 55 61 = some (.aload_n 0, 62, 61) := by decide +kernel
theorem c55_62 : fx_gf 55 62 = some (3, 4, 65) := by decide +kernel
theorem c55_65 : fx_op 55 65 = some (.iload 5, 67, 65) := by decide +kernel
theorem c55_67 : fx_op 55 67 = some (.iadd, 68, 67) := by decide +kernel
theorem c55_68 : fx_ci 55 68 = some (12, 70) := by decide +kernel
theorem c55_70 : fx_op 55 70 = some (.if_icmp .le 6, 73, 76) := by decide +kernel
theorem c55_76 : fx_ci 55 76 = some (0, 77) := by decide +kernel
theorem c55_77 : fx_op 55 77 = some (.istore 6, 79, 77) := by decide +kernel
theorem c55_73 : fx_cr 55 73 = some (1000021, 75) := by decide +kernel
theorem c55_6 : fx_cr 55 6 = some (1000019, 8) := by decide +kernel
theorem c55_75 : fx_op 55 75 = some (.areturn, 76, 75) := by decide +kernel
theorem c55_8 : fx_op 55 8 = some (.areturn, 9, 8) := by decide +kernel
theorem c55_79 : fx_op 55 79 = some (.iload 6, 81, 79) := by decide +kernel
theorem c55_81 : fx_op 55 81 = some (.aload_n 0, 82, 81) := by decide +kernel
theorem c55_82 : fx_gf 55 82 = some (3, 2, 85) := by decide +kernel
theorem c55_85 : fx_op 55 85 = some (.if_icmp .ge 108, 88, 193) := by decide +kernel
theorem c55_88 : fx_ci 55 88 = some (0, 89) := by decide +kernel
theorem c55_89 : fx_op 55 89 = some (.istore 7, 91, 89) := by decide +kernel
theorem c55_193 : fx_cr 55 193 = some (1000013, 195) := by decide +kernel
theorem c55_195 : fx_op 55 195 = some (.areturn, 196, 195) := by decide +kernel
theorem c55_91 : fx_op 55 91 = some (.iload 7, 93, 91) := by decide +kernel
theorem c55_93 : fx_ci 55 93 = some (2, 94) := by decide +kernel
theorem c55_94 : fx_op 55 94 = some (.if_icmp .ge 93, 97, 187) := by decide +kernel
theorem c55_97 : fx_op 55 97 = some (.aload_n 0, 98, 97) := by decide +kernel
theorem c55_98 : fx_op 55 98 = some (.iload_n 1, 99, 98) := by decide +kernel
theorem c55_99 : fx_op 55 99 = some (.aload_n 0, 100, 99) := by decide +kernel
theorem c55_100 : fx_op 55 100 = some (.iload 6, 102, 100) := by decide +kernel
theorem c55_187 : fx_op 55 187 = some (.iinc 6 1, 190, 187) := by decide +kernel
theorem c55_190 : fx_op 55 190 = some (.goto (-111), 193, 79) := by decide +kernel
theorem c55_102 : fx_ca 55 102 = some (426, 2, 2, 105) := by decide +kernel
theorem c55_105 : fx_op 55 105 = some (.aload_n 0, 106, 105) := by decide +kernel
theorem c55_106 : fx_op 55 106 = some (.iload 6, 108, 106) := by decide +kernel
theorem c55_108 : fx_ca 55 108 = some (427, 2, 2, 111) := by decide +kernel
theorem c55_111 : fx_op 55 111 = some (.iload 7, 113, 111) := by decide +kernel
theorem c55_113 : fx_op 55 113 = some (.ifCond .ne 7, 116, 120) := by decide +kernel
theorem c55_120 : fx_ci 55 120 = some (0, 121) := by decide +kernel
theorem c55_116 : fx_ci 55 116 = some (1, 117) := by decide +kernel
theorem c55_117 : fx_op 55 117 = some (.goto 4, 120, 121) := by decide +kernel
theorem c55_121 : fx_ca 55 121 = some (56, 5, 2, 124) := by decide +kernel
theorem c55_124 : fx_op 55 124 = some (.istore 8, 126, 124) := by decide +kernel
theorem c55_126 : fx_ci 55 126 = some (0, 127) := by decide +kernel
theorem c55_127 : fx_op 55 127 = some (.istore 9, 129, 127) := by decide +kernel
theorem c55_129 : fx_op 55 129 = some (.iload 9, 131, 129) := by decide +kernel
theorem c55_131 : fx_op 55 131 = some (.iload 8, 133, 131) := by decide +kernel
theorem c55_133 : fx_op 55 133 = some (.if_icmp .ge 36, 136, 169) := by decide +kernel
theorem c55_136 : fx_op 55 136 = some (.aload_n 0, 137, 136) := by decide +kernel
theorem c55_137 : fx_gf 55 137 = some (3, 13, 140) := by decide +kernel
theorem c55_140 : fx_op 55 140 = some (.iload 9, 142, 140) := by decide +kernel
theorem c55_142 : fx_op 55 142 = some (.iload 6, 144, 142) := by decide +kernel
theorem c55_144 : fx_op 55 144 = some (.iload 7, 146, 144) := by decide +kernel
theorem c55_146 : fx_op 55 146 = some (.ifCond .ne 8, 149, 154) := by decide +kernel
theorem c55_154 : fx_op 55 154 = some (.aload_n 0, 155, 154) := by decide +kernel
theorem c55_155 : fx_gf 55 155 = some (3, 0, 158) := by decide +kernel
theorem c55_158 : fx_op 55 158 = some (.iload 9, 160, 158) := by decide +kernel
theorem c55_160 : fx_op 55 160 = some (.imul, 161, 160) := by decide +kernel
theorem c55_161 : fx_op 55 161 = some (.iadd, 162, 161) := by decide +kernel
theorem c55_169 : fx_op 55 169 = some (.aload_n 0, 170, 169) := by decide +kernel
theorem c55_170 : fx_op 55 170 = some (.iload_n 2, 171, 170) := by decide +kernel
theorem c55_171 : fx_op 55 171 = some (.iload_n 3, 172, 171) := by decide +kernel
theorem c55_172 : fx_op 55 172 = some (.aload_n 0, 173, 172) := by decide +kernel
theorem c55_173 : fx_gf 55 173 = some (3, 13, 176) := by decide +kernel
theorem c55_176 : fx_op 55 176 = some (.iload 8, 178, 176) := by decide +kernel
theorem c55_149 : fx_op 55 149 = some (.iload 9, 151, 149) := by decide +kernel
theorem c55_151 : fx_op 55 151 = some (.goto 10, 154, 161) := by decide +kernel
theorem c55_163 : fx_op 55 163 = some (.iinc 9 1, 166, 163) := by decide +kernel
theorem c55_178 : fx_ca 55 178 = some (54, 5, 2, 181) := by decide +kernel
theorem c55_162 : fx_op 55 162 = some (.iastore, 163, 162) := by decide +kernel
theorem c55_166 : fx_op 55 166 = some (.goto (-37), 169, 129) := by decide +kernel
theorem c55_181 : fx_op 55 181 = some (.iinc 7 1, 184, 181) := by decide +kernel
theorem c55_184 : fx_op 55 184 = some (.goto (-93), 187, 91) := by decide +kernel
theorem s55_0 {kc : List va_E} {d : Nat} {p : Nat} {x1 x2 x3 : Int} {M : fx_M} {Q : Option fx_V → fx_M → Prop} (Hp : fx_puz p) (H : ((fx_in32 x3)) ∧ (x3 ≤ 99 → ((fx_in32 x1)) ∧ (x1 ≠ 0 → (fx_in32 x1)) ∧ ((fx_in32 ((M p 4) + (if x1 = 0 then (M p 1 : Int) else (if x1 = 1 then (M p 0 : Int) else (((M p 0) - 1) * (M p 1)) + ((M p 0) * ((M p 1) - 1))))))) ∧ ((M p 4) + (if x1 = 0 then (M p 1 : Int) else (if x1 = 1 then (M p 0 : Int) else (((M p 0) - 1) * (M p 1)) + ((M p 0) * ((M p 1) - 1)))) ≤ 12 → wp kc (d + 1) 55 79 [some (jR p), some (jI x1), some (jI x2), some (jI x3), none, none, some (jI 0), none, none, none] [] M Q) ∧ (12 < (M p 4) + (if x1 = 0 then (M p 1 : Int) else (if x1 = 1 then (M p 0 : Int) else (((M p 0) - 1) * (M p 1)) + ((M p 0) * ((M p 1) - 1)))) → Q (some (jR 1000021)) M)) ∧ (99 < x3 → Q (some (jR 1000019)) M)) : wp kc (d + 1) 55 0 [some (jR p), some (jI x1), some (jI x2), some (jI x3), none, none, none, none, none, none] [] M Q :=
  (x_ildn c55_0 rfl (x_ci c55_1 (x_cle c55_3 H.1 (by decide) (fun h3 => (x_aldn c55_9 rfl (x_gfi c55_10 (kp_0 Hp) (x_ci c55_13 (x_isub c55_14 (x_aldn c55_15 rfl (x_gfi c55_16 (kp_1 Hp) (x_imul c55_19 (x_aldn c55_20 rfl (x_gfi c55_21 (kp_0 Hp) (x_aldn c55_24 rfl (x_gfi c55_25 (kp_1 Hp) (x_ci c55_28 (x_isub c55_29 (x_imul c55_30 (x_iadd c55_31 (x_ist (l' := [some (jR p), some (jI x1), some (jI x2), some (jI x3), some (jI ((((M p 0) - 1) * (M p 1)) + ((M p 0) * ((M p 1) - 1)))), none, none, none, none, none]) c55_32 rfl (x_ildn c55_34 rfl (have K : wp kc (d + 1) 55 59 [some (jR p), some (jI x1), some (jI x2), some (jI x3), none, none, none, none, none, none] [jI (if x1 = 0 then (M p 1 : Int) else (if x1 = 1 then (M p 0 : Int) else (((M p 0) - 1) * (M p 1)) + ((M p 0) * ((M p 1) - 1))))] M Q := (x_ist (l' := [some (jR p), some (jI x1), some (jI x2), some (jI x3), none, some (jI (if x1 = 0 then (M p 1 : Int) else (if x1 = 1 then (M p 0 : Int) else (((M p 0) - 1) * (M p 1)) + ((M p 0) * ((M p 1) - 1))))), none, none, none, none]) c55_59 rfl (x_aldn c55_61 rfl (x_gfi c55_62 (kp_4 Hp) (x_ild c55_65 rfl (x_iadd c55_67 (x_ci c55_68 (x_cle c55_70 (H.2.1 h3).2.2.1 (by decide) (fun h1 => (x_ci c55_76 (x_ist (l' := [some (jR p), some (jI x1), some (jI x2), some (jI x3), none, some (jI (if x1 = 0 then (M p 1 : Int) else (if x1 = 1 then (M p 0 : Int) else (((M p 0) - 1) * (M p 1)) + ((M p 0) * ((M p 1) - 1))))), some (jI 0), none, none, none]) c55_77 rfl (wp_wk (l' := [some (jR p), some (jI x1), some (jI x2), some (jI x3), none, none, some (jI 0), none, none, none]) ⟨rfl, ⟨rfl, ⟨rfl, ⟨rfl, ⟨rfl, trivial⟩⟩⟩⟩⟩ ((H.2.1 h3).2.2.2.1 h1))))) (fun h2 => (x_cr c55_73 (x_art c55_75 r55 ((H.2.1 h3).2.2.2.2 h2))))))))))); (x_zne c55_35 (H.2.1 h3).1 (fun (h5 : x1 ≠ 0) => (x_ildn c55_45 rfl (x_ci c55_46 (x_cne c55_47 ((H.2.1 h3).2.1 h5) (by decide) (fun (h7 : x1 ≠ 1) => (x_ild c55_57 rfl (wp_wk (l' := [some (jR p), some (jI x1), some (jI x2), some (jI x3), none, none, none, none, none, none]) ⟨rfl, ⟨rfl, ⟨rfl, ⟨rfl, trivial⟩⟩⟩⟩ (by have K := K; first | (simp only [if_neg h5, if_neg h7] at K ⊢; exact K) | (exfalso; omega))))) (fun (h8 : x1 = 1) => (x_aldn c55_50 rfl (x_gfi c55_51 (kp_0 Hp) (x_goto c55_54 (wp_wk (l' := [some (jR p), some (jI x1), some (jI x2), some (jI x3), none, none, none, none, none, none]) ⟨rfl, ⟨rfl, ⟨rfl, ⟨rfl, trivial⟩⟩⟩⟩ (by have K := K; first | (simp only [if_neg h5, if_pos h8] at K ⊢; exact K) | (exfalso; omega))))))))))) (fun (h6 : x1 = 0) => (x_aldn c55_38 rfl (x_gfi c55_39 (kp_1 Hp) (x_goto c55_42 (wp_wk (l' := [some (jR p), some (jI x1), some (jI x2), some (jI x3), none, none, none, none, none, none]) ⟨rfl, ⟨rfl, ⟨rfl, ⟨rfl, trivial⟩⟩⟩⟩ (by have K := K; first | (simp only [if_pos h6] at K ⊢; exact K) | (exfalso; omega))))))))))))))))))))))))))) (fun h4 => (x_cr c55_6 (x_art c55_8 r55 (H.2.2 h4)))))))
theorem s55_79 {kc : List va_E} {d : Nat} {p : Nat} {v1 v2 v3 v6 : Int} {M : fx_M} {Q : Option fx_V → fx_M → Prop} (Hp : fx_puz p) (H : ((fx_in32 v6) ∧ (fx_in32 (M p 2))) ∧ (M p 2 ≤ v6 → Q (some (jR 1000013)) M) ∧ (v6 < M p 2 → wp kc (d + 1) 55 91 [some (jR p), some (jI v1), some (jI v2), some (jI v3), none, none, some (jI v6), some (jI 0), none, none] [] M Q)) : wp kc (d + 1) 55 79 [some (jR p), some (jI v1), some (jI v2), some (jI v3), none, none, some (jI v6), none, none, none] [] M Q :=
  (x_ild c55_79 rfl (x_aldn c55_81 rfl (x_gfi c55_82 (kp_2 Hp) (x_cge c55_85 H.1.1 H.1.2 (fun h1 => (x_cr c55_193 (x_art c55_195 r55 (H.2.1 h1)))) (fun h2 => (x_ci c55_88 (x_ist (l' := [some (jR p), some (jI v1), some (jI v2), some (jI v3), none, none, some (jI v6), some (jI 0), none, none]) c55_89 rfl (wp_wk (l' := [some (jR p), some (jI v1), some (jI v2), some (jI v3), none, none, some (jI v6), some (jI 0), none, none]) ⟨rfl, ⟨rfl, ⟨rfl, ⟨rfl, ⟨rfl, ⟨rfl, trivial⟩⟩⟩⟩⟩⟩ (H.2.2 h2)))))))))
theorem s55_91 {kc : List va_E} {d : Nat} {p : Nat} {v1 v2 v3 v6 v7 : Int} {M : fx_M} {Q : Option fx_V → fx_M → Prop} (Hp : fx_puz p) (H : ((fx_in32 v7)) ∧ (2 ≤ v7 → wp kc (d + 1) 55 79 [some (jR p), some (jI v1), some (jI v2), some (jI v3), none, none, some (jI (v6 + 1)), none, none, none] [] M Q) ∧ (v7 < 2 → wc kc d 426 [jR p, jI v6] M (fun v M1 => wp kc (d + 1) 55 105 [some (jR p), some (jI v1), some (jI v2), some (jI v3), none, none, some (jI v6), some (jI v7), none, none] (v.toList ++ [jI v1, jR p]) M1 Q))) : wp kc (d + 1) 55 91 [some (jR p), some (jI v1), some (jI v2), some (jI v3), none, none, some (jI v6), some (jI v7), none, none] [] M Q :=
  (x_ild c55_91 rfl (x_ci c55_93 (x_cge c55_94 H.1 (by decide) (fun h1 => (x_inc (l' := [some (jR p), some (jI v1), some (jI v2), some (jI v3), none, none, some (jI (v6 + 1)), some (jI v7), none, none]) c55_187 rfl rfl (x_goto c55_190 (wp_wk (l' := [some (jR p), some (jI v1), some (jI v2), some (jI v3), none, none, some (jI (v6 + 1)), none, none, none]) ⟨rfl, ⟨rfl, ⟨rfl, ⟨rfl, ⟨rfl, trivial⟩⟩⟩⟩⟩ (H.2.1 h1))))) (fun h2 => (x_aldn c55_97 rfl (x_ildn c55_98 rfl (x_aldn c55_99 rfl (x_ild c55_100 rfl (wp_wk (l' := [some (jR p), some (jI v1), some (jI v2), some (jI v3), none, none, some (jI v6), some (jI v7), none, none]) ⟨rfl, ⟨rfl, ⟨rfl, ⟨rfl, ⟨rfl, ⟨rfl, trivial⟩⟩⟩⟩⟩⟩ (x_cv (As := [jI v6]) (st := [jI v1, jR p]) c55_102 (clp Hp) kl426 rfl (Nat.le_of_ble_eq_true rfl) mx426 (Nat.le_refl _) (H.2.2 h2)))))))))))
theorem s55_105 {kc : List va_E} {d : Nat} {p : Nat} {v1 v2 v3 v6 v7 u0 u1 : Int} {M : fx_M} {Q : Option fx_V → fx_M → Prop} (Hp : fx_puz p) (H : wc kc d 427 [jR p, jI v6] M (fun v M1 => wp kc (d + 1) 55 111 [some (jR p), some (jI v1), some (jI v2), some (jI v3), none, none, some (jI v6), some (jI v7), none, none] (v.toList ++ [jI u0, jI u1, jR p]) M1 Q)) : wp kc (d + 1) 55 105 [some (jR p), some (jI v1), some (jI v2), some (jI v3), none, none, some (jI v6), some (jI v7), none, none] [jI u0, jI u1, jR p] M Q :=
  (x_aldn c55_105 rfl (x_ild c55_106 rfl (wp_wk (l' := [some (jR p), some (jI v1), some (jI v2), some (jI v3), none, none, some (jI v6), some (jI v7), none, none]) ⟨rfl, ⟨rfl, ⟨rfl, ⟨rfl, ⟨rfl, ⟨rfl, trivial⟩⟩⟩⟩⟩⟩ (x_cv (As := [jI v6]) (st := [jI u0, jI u1, jR p]) c55_108 (clp Hp) kl427 rfl (Nat.le_of_ble_eq_true rfl) mx427 (Nat.le_refl _) H))))
theorem s55_111 {kc : List va_E} {d : Nat} {p : Nat} {v1 v2 v3 v6 v7 u0 u1 u2 : Int} {M : fx_M} {Q : Option fx_V → fx_M → Prop} (Hp : fx_puz p) (H : ((fx_in32 v7)) ∧ wc kc d 56 [jR p, jI u2, jI u1, jI u0, jI (if v7 = 0 then (1 : Int) else 0)] M (fun v M1 => wp kc (d + 1) 55 124 [some (jR p), some (jI v1), some (jI v2), some (jI v3), none, none, some (jI v6), some (jI v7), none, none] (v.toList ++ []) M1 Q)) : wp kc (d + 1) 55 111 [some (jR p), some (jI v1), some (jI v2), some (jI v3), none, none, some (jI v6), some (jI v7), none, none] [jI u0, jI u1, jI u2, jR p] M Q :=
  (x_ild c55_111 rfl (have K : wp kc (d + 1) 55 121 [some (jR p), some (jI v1), some (jI v2), some (jI v3), none, none, some (jI v6), some (jI v7), none, none] [jI (if v7 = 0 then (1 : Int) else 0), jI u0, jI u1, jI u2, jR p] M Q := (wp_wk (l' := [some (jR p), some (jI v1), some (jI v2), some (jI v3), none, none, some (jI v6), some (jI v7), none, none]) ⟨rfl, ⟨rfl, ⟨rfl, ⟨rfl, ⟨rfl, ⟨rfl, trivial⟩⟩⟩⟩⟩⟩ (x_cv (As := [jI u2, jI u1, jI u0, jI (if v7 = 0 then (1 : Int) else 0)]) (st := []) c55_121 (clp Hp) kl56 rfl (Nat.le_of_ble_eq_true rfl) mx56 (Nat.le_refl _) H.2)); (x_zne c55_113 H.1 (fun (h1 : v7 ≠ 0) => (x_ci c55_120 (wp_wk (l' := [some (jR p), some (jI v1), some (jI v2), some (jI v3), none, none, some (jI v6), some (jI v7), none, none]) ⟨rfl, ⟨rfl, ⟨rfl, ⟨rfl, ⟨rfl, ⟨rfl, trivial⟩⟩⟩⟩⟩⟩ (by have K := K; first | (simp only [if_neg h1] at K ⊢; exact K) | (exfalso; omega))))) (fun (h2 : v7 = 0) => (x_ci c55_116 (x_goto c55_117 (wp_wk (l' := [some (jR p), some (jI v1), some (jI v2), some (jI v3), none, none, some (jI v6), some (jI v7), none, none]) ⟨rfl, ⟨rfl, ⟨rfl, ⟨rfl, ⟨rfl, ⟨rfl, trivial⟩⟩⟩⟩⟩⟩ (by have K := K; first | (simp only [if_pos h2] at K ⊢; exact K) | (exfalso; omega)))))))))
theorem s55_124 {kc : List va_E} {d : Nat} {p : Nat} {v1 v2 v3 v6 v7 u0 : Int} {M : fx_M} {Q : Option fx_V → fx_M → Prop} (Hp : fx_puz p) (H : wp kc (d + 1) 55 129 [some (jR p), some (jI v1), some (jI v2), some (jI v3), none, none, some (jI v6), some (jI v7), some (jI u0), some (jI 0)] [] M Q) : wp kc (d + 1) 55 124 [some (jR p), some (jI v1), some (jI v2), some (jI v3), none, none, some (jI v6), some (jI v7), none, none] [jI u0] M Q :=
  (x_ist (l' := [some (jR p), some (jI v1), some (jI v2), some (jI v3), none, none, some (jI v6), some (jI v7), some (jI u0), none]) c55_124 rfl (x_ci c55_126 (x_ist (l' := [some (jR p), some (jI v1), some (jI v2), some (jI v3), none, none, some (jI v6), some (jI v7), some (jI u0), some (jI 0)]) c55_127 rfl (wp_wk (l' := [some (jR p), some (jI v1), some (jI v2), some (jI v3), none, none, some (jI v6), some (jI v7), some (jI u0), some (jI 0)]) ⟨rfl, ⟨rfl, ⟨rfl, ⟨rfl, ⟨rfl, ⟨rfl, ⟨rfl, ⟨rfl, trivial⟩⟩⟩⟩⟩⟩⟩⟩ H))))
theorem s55_129 {kc : List va_E} {d : Nat} {p : Nat} {v1 v2 v3 v6 v7 v8 v9 : Int} {M : fx_M} {Q : Option fx_V → fx_M → Prop} (Hp : fx_puz p) (H : ((fx_in32 v9) ∧ (fx_in32 v8)) ∧ (v8 ≤ v9 → wc kc d 54 [jR p, jI v2, jI v3, jR (p + 8), jI v8] M (fun v M1 => wp kc (d + 1) 55 181 [some (jR p), some (jI v1), some (jI v2), some (jI v3), none, none, some (jI v6), some (jI v7), none, none] (v.toList ++ []) M1 Q)) ∧ (v9 < v8 → ((fx_in32 v7)) ∧ (((0 : Int) ≤ v9 ∧ v9 < 4)) ∧ wp kc (d + 1) 55 129 [some (jR p), some (jI v1), some (jI v2), some (jI v3), none, none, some (jI v6), some (jI v7), some (jI v8), some (jI (v9 + 1))] [] (fx_up M (p + 8) v9 (v6 + (if v7 = 0 then (v9 : Int) else (M p 0) * v9))) Q)) : wp kc (d + 1) 55 129 [some (jR p), some (jI v1), some (jI v2), some (jI v3), none, none, some (jI v6), some (jI v7), some (jI v8), some (jI v9)] [] M Q :=
  (x_ild c55_129 rfl (x_ild c55_131 rfl (x_cge c55_133 H.1.1 H.1.2 (fun h1 => (x_aldn c55_169 rfl (x_ildn c55_170 rfl (x_ildn c55_171 rfl (x_aldn c55_172 rfl (x_gfr c55_173 (kp_13 Hp) (x_ild c55_176 rfl (wp_wk (l' := [some (jR p), some (jI v1), some (jI v2), some (jI v3), none, none, some (jI v6), some (jI v7), none, none]) ⟨rfl, ⟨rfl, ⟨rfl, ⟨rfl, ⟨rfl, ⟨rfl, trivial⟩⟩⟩⟩⟩⟩ (x_cv (As := [jI v2, jI v3, jR (p + 8), jI v8]) (st := []) c55_178 (clp Hp) kl54 rfl (Nat.le_of_ble_eq_true rfl) mx54 (Nat.le_refl _) (H.2.1 h1)))))))))) (fun h2 => (x_aldn c55_136 rfl (x_gfr c55_137 (kp_13 Hp) (x_ild c55_140 rfl (x_ild c55_142 rfl (x_ild c55_144 rfl (have K : wp kc (d + 1) 55 161 [some (jR p), some (jI v1), some (jI v2), some (jI v3), none, none, some (jI v6), some (jI v7), some (jI v8), some (jI v9)] [jI (if v7 = 0 then (v9 : Int) else (M p 0) * v9), jI v6, jI v9, jR (p + 8)] M Q := (x_iadd c55_161 (x_iast c55_162 (ap_8 Hp) (H.2.2 h2).2.1 (by decide) (x_inc (l' := [some (jR p), some (jI v1), some (jI v2), some (jI v3), none, none, some (jI v6), some (jI v7), some (jI v8), some (jI (v9 + 1))]) c55_163 rfl rfl (x_goto c55_166 (wp_wk (l' := [some (jR p), some (jI v1), some (jI v2), some (jI v3), none, none, some (jI v6), some (jI v7), some (jI v8), some (jI (v9 + 1))]) ⟨rfl, ⟨rfl, ⟨rfl, ⟨rfl, ⟨rfl, ⟨rfl, ⟨rfl, ⟨rfl, trivial⟩⟩⟩⟩⟩⟩⟩⟩ (H.2.2 h2).2.2))))); (x_zne c55_146 (H.2.2 h2).1 (fun (h3 : v7 ≠ 0) => (x_aldn c55_154 rfl (x_gfi c55_155 (kp_0 Hp) (x_ild c55_158 rfl (x_imul c55_160 (wp_wk (l' := [some (jR p), some (jI v1), some (jI v2), some (jI v3), none, none, some (jI v6), some (jI v7), some (jI v8), some (jI v9)]) ⟨rfl, ⟨rfl, ⟨rfl, ⟨rfl, ⟨rfl, ⟨rfl, ⟨rfl, ⟨rfl, trivial⟩⟩⟩⟩⟩⟩⟩⟩ (by have K := K; first | (simp only [if_neg h3] at K ⊢; exact K) | (exfalso; omega)))))))) (fun (h4 : v7 = 0) => (x_ild c55_149 rfl (x_goto c55_151 (wp_wk (l' := [some (jR p), some (jI v1), some (jI v2), some (jI v3), none, none, some (jI v6), some (jI v7), some (jI v8), some (jI v9)]) ⟨rfl, ⟨rfl, ⟨rfl, ⟨rfl, ⟨rfl, ⟨rfl, ⟨rfl, ⟨rfl, trivial⟩⟩⟩⟩⟩⟩⟩⟩ (by have K := K; first | (simp only [if_pos h4] at K ⊢; exact K) | (exfalso; omega)))))))))))))))))
theorem s55_181 {kc : List va_E} {d : Nat} {p : Nat} {v1 v2 v3 v6 v7 : Int} {M : fx_M} {Q : Option fx_V → fx_M → Prop} (Hp : fx_puz p) (H : wp kc (d + 1) 55 91 [some (jR p), some (jI v1), some (jI v2), some (jI v3), none, none, some (jI v6), some (jI (v7 + 1)), none, none] [] M Q) : wp kc (d + 1) 55 181 [some (jR p), some (jI v1), some (jI v2), some (jI v3), none, none, some (jI v6), some (jI v7), none, none] [] M Q :=
  (x_inc (l' := [some (jR p), some (jI v1), some (jI v2), some (jI v3), none, none, some (jI v6), some (jI (v7 + 1)), none, none]) c55_181 rfl rfl (x_goto c55_184 (wp_wk (l' := [some (jR p), some (jI v1), some (jI v2), some (jI v3), none, none, some (jI v6), some (jI (v7 + 1)), none, none]) ⟨rfl, ⟨rfl, ⟨rfl, ⟨rfl, ⟨rfl, ⟨rfl, trivial⟩⟩⟩⟩⟩⟩ H)))
theorem s55 {kc : List va_E} {d : Nat} {p : Nat} {x1 x2 x3 : Int} {M : fx_M} {Q : Option fx_V → fx_M → Prop} (Hp : fx_puz p) (H : ((fx_in32 x3)) ∧ (x3 ≤ 99 → ((fx_in32 x1)) ∧ (x1 ≠ 0 → (fx_in32 x1)) ∧ ((fx_in32 ((M p 4) + (if x1 = 0 then (M p 1 : Int) else (if x1 = 1 then (M p 0 : Int) else (((M p 0) - 1) * (M p 1)) + ((M p 0) * ((M p 1) - 1))))))) ∧ ((M p 4) + (if x1 = 0 then (M p 1 : Int) else (if x1 = 1 then (M p 0 : Int) else (((M p 0) - 1) * (M p 1)) + ((M p 0) * ((M p 1) - 1)))) ≤ 12 → wp kc (d + 1) 55 79 [some (jR p), some (jI x1), some (jI x2), some (jI x3), none, none, some (jI 0), none, none, none] [] M Q) ∧ (12 < (M p 4) + (if x1 = 0 then (M p 1 : Int) else (if x1 = 1 then (M p 0 : Int) else (((M p 0) - 1) * (M p 1)) + ((M p 0) * ((M p 1) - 1)))) → Q (some (jR 1000021)) M)) ∧ (99 < x3 → Q (some (jR 1000019)) M)) : wc kc (d + 1) 55 [jR p, jI x1, jI x2, jI x3] M Q :=
  wc_of (wp_wk (l' := [some (jR p), some (jI x1), some (jI x2), some (jI x3), none, none, none, none, none, none]) ⟨rfl, ⟨rfl, ⟨rfl, ⟨rfl, trivial⟩⟩⟩⟩ (s55_0 Hp H))

/- PuzzleHouse$Puzzle.lineFrom(IIIZ)I -/
theorem c56_0 : fx_op 56 0 = some (.iload_n 1, 1, 0) := by decide +kernel
theorem c56_1 : fx_op 56 1 = some (.ifCond .ne 21, 4, 22) := by decide +kernel
theorem c56_22 : fx_op 56 22 = some (.iload_n 1, 23, 22) := by decide +kernel
theorem c56_23 : fx_ci 56 23 = some (1, 24) := by decide +kernel
theorem c56_24 : fx_op 56 24 = some (.if_icmp .ne 21, 27, 45) := by decide +kernel
theorem c56_45 : fx_op 56 45 = some (.iload 4, 47, 45) := by decide +kernel
theorem c56_47 : fx_op 56 47 = some (.ifCond .eq 13, 50, 60) := by decide +kernel
theorem c56_60 : fx_op 56 60 = some (.iload 4, 62, 60) := by decide +kernel
theorem c56_62 : fx_op 56 62 = some (.ifCond .ne 17, 65, 79) := by decide +kernel
theorem c56_79 : fx_ci 56 79 = some (0, 80) := by decide +kernel
theorem c56_65 : fx_op 56 65 = some (.iload_n 3, 66, 65) := by decide +kernel
theorem c56_66 : fx_ci 56 66 = some (1, 67) := by decide +kernel
theorem c56_67 : fx_op 56 67 = some (.iadd, 68, 67) := by decide +kernel
theorem c56_68 : fx_op 56 68 = some (.aload_n 0, 69, 68) := by decide +kernel
theorem c56_69 : fx_gf 56 69 = some (3, 1, 72) := by decide +kernel
theorem c56_72 : fx_op 56 72 = some (.if_icmp .ge 7, 75, 79) := by decide +kernel
theorem c56_75 : fx_ci 56 75 = some (2, 76) := by decide +kernel
theorem c56_76 : fx_op 56 76 = some (.goto 4, 79, 80) := by decide +kernel
theorem c56_50 : fx_op 56 50 = some (.iload_n 2, 51, 50) := by decide +kernel
theorem c56_51 : fx_ci 56 51 = some (1, 52) := by decide +kernel
theorem c56_52 : fx_op 56 52 = some (.iadd, 53, 52) := by decide +kernel
theorem c56_53 : fx_op 56 53 = some (.aload_n 0, 54, 53) := by decide +kernel
theorem c56_54 : fx_gf 56 54 = some (3, 0, 57) := by decide +kernel
theorem c56_57 : fx_op 56 57 = some (.if_icmp .lt 18, 60, 75) := by decide +kernel
theorem c56_27 : fx_op 56 27 = some (.iload 4, 29, 27) := by decide +kernel
theorem c56_29 : fx_op 56 29 = some (.ifCond .ne 14, 32, 43) := by decide +kernel
theorem c56_43 : fx_ci 56 43 = some (0, 44) := by decide +kernel
theorem c56_32 : fx_op 56 32 = some (.iload_n 3, 33, 32) := by decide +kernel
theorem c56_33 : fx_op 56 33 = some (.ifCond .ne 10, 36, 43) := by decide +kernel
theorem c56_36 : fx_op 56 36 = some (.aload_n 0, 37, 36) := by decide +kernel
theorem c56_37 : fx_gf 56 37 = some (3, 1, 40) := by decide +kernel
theorem c56_40 : fx_op 56 40 = some (.goto 4, 43, 44) := by decide +kernel
theorem c56_4 : fx_op 56 4 = some (.iload 4, 6, 4) := by decide +kernel
theorem c56_6 : fx_op 56 6 = some (.ifCond .eq 14, 9, 20) := by decide +kernel
theorem c56_20 : fx_ci 56 20 = some (0, 21) := by decide +kernel
theorem c56_9 : fx_op 56 9 = some (.iload_n 2, 10, 9) := by decide +kernel
theorem c56_10 : fx_op 56 10 = some (.ifCond .ne 10, 13, 20) := by decide +kernel
theorem c56_13 : fx_op 56 13 = some (.aload_n 0, 14, 13) := by decide +kernel
theorem c56_14 : fx_gf 56 14 = some (3, 0, 17) := by decide +kernel
theorem c56_17 : fx_op 56 17 = some (.goto 4, 20, 21) := by decide +kernel
theorem c56_80 : fx_op 56 80 = some (.ireturn, 81, 80) := by decide +kernel
theorem c56_44 : fx_op 56 44 = some (.ireturn, 45, 44) := by decide +kernel
theorem c56_21 : fx_op 56 21 = some (.ireturn, 22, 21) := by decide +kernel
theorem s56_0 {kc : List va_E} {d : Nat} {p : Nat} {x1 x2 x3 x4 : Int} {M : fx_M} {Q : Option fx_V → fx_M → Prop} (Hp : fx_puz p) (H : ((fx_in32 x1)) ∧ (x1 ≠ 0 → ((fx_in32 x1)) ∧ (x1 ≠ 1 → ((fx_in32 x4)) ∧ (x4 = 0 → (fx_in32 x4)) ∧ (x4 = 0 → x4 = 0 → (fx_in32 (x3 + 1))) ∧ (x4 = 0 → x4 = 0 → (fx_in32 (M p 1))) ∧ (x4 ≠ 0 → (fx_in32 (x2 + 1))) ∧ (x4 ≠ 0 → (fx_in32 (M p 0))) ∧ (x4 ≠ 0 → M p 0 ≤ x2 + 1 → (fx_in32 x4)) ∧ (x4 ≠ 0 → M p 0 ≤ x2 + 1 → x4 = 0 → (fx_in32 (x3 + 1))) ∧ (x4 ≠ 0 → M p 0 ≤ x2 + 1 → x4 = 0 → (fx_in32 (M p 1))) ∧ Q (some (jI (if x4 = 0 then ((if x4 = 0 then ((if x3 + 1 < M p 1 then (2 : Int) else 0) : Int) else 0) : Int) else (if x2 + 1 < M p 0 then (2 : Int) else (if x4 = 0 then ((if x3 + 1 < M p 1 then (2 : Int) else 0) : Int) else 0))))) M) ∧ (x1 = 1 → ((fx_in32 x4)) ∧ (x4 = 0 → (fx_in32 x3)) ∧ Q (some (jI (if x4 = 0 then ((if x3 = 0 then (M p 1 : Int) else 0) : Int) else 0))) M)) ∧ (x1 = 0 → ((fx_in32 x4)) ∧ (x4 ≠ 0 → (fx_in32 x2)) ∧ Q (some (jI (if x4 = 0 then (0 : Int) else (if x2 = 0 then (M p 0 : Int) else 0)))) M)) : wp kc (d + 1) 56 0 [some (jR p), some (jI x1), some (jI x2), some (jI x3), some (jI x4)] [] M Q :=
  (x_ildn c56_0 rfl (x_zne c56_1 H.1 (fun h3 => (x_ildn c56_22 rfl (x_ci c56_23 (x_cne c56_24 (H.2.1 h3).1 (by decide) (fun h1 => (x_ild c56_45 rfl (have K : wp kc (d + 1) 56 80 [none, none, none, none, none] [jI (if x4 = 0 then ((if x4 = 0 then ((if x3 + 1 < M p 1 then (2 : Int) else 0) : Int) else 0) : Int) else (if x2 + 1 < M p 0 then (2 : Int) else (if x4 = 0 then ((if x3 + 1 < M p 1 then (2 : Int) else 0) : Int) else 0)))] M Q := (x_irt c56_80 r56 ((H.2.1 h3).2.1 h1).2.2.2.2.2.2.2.2.2); (x_zeq c56_47 ((H.2.1 h3).2.1 h1).1 (fun (h5 : x4 = 0) => (x_ild c56_60 rfl (x_zne c56_62 (((H.2.1 h3).2.1 h1).2.1 h5) (fun (h7 : x4 ≠ 0) => (x_ci c56_79 (wp_wk (l' := [none, none, none, none, none]) trivial (by have K := K; first | (simp only [if_pos h5, if_neg h7] at K ⊢; exact K) | (exfalso; omega))))) (fun (h8 : x4 = 0) => (x_ildn c56_65 rfl (x_ci c56_66 (x_iadd c56_67 (x_aldn c56_68 rfl (x_gfi c56_69 (kp_1 Hp) (x_cge c56_72 (((H.2.1 h3).2.1 h1).2.2.1 h5 h8) (((H.2.1 h3).2.1 h1).2.2.2.1 h5 h8) (fun (h9 : M p 1 ≤ x3 + 1) => (x_ci c56_79 (wp_wk (l' := [none, none, none, none, none]) trivial (by have K := K; first | (simp only [if_pos h5, if_pos h8, if_neg (Int.not_lt.mpr h9)] at K ⊢; exact K) | (exfalso; omega))))) (fun (h10 : x3 + 1 < M p 1) => (x_ci c56_75 (x_goto c56_76 (wp_wk (l' := [none, none, none, none, none]) trivial (by have K := K; first | (simp only [if_pos h5, if_pos h8, if_pos h10] at K ⊢; exact K) | (exfalso; omega)))))))))))))))) (fun (h6 : x4 ≠ 0) => (x_ildn c56_50 rfl (x_ci c56_51 (x_iadd c56_52 (x_aldn c56_53 rfl (x_gfi c56_54 (kp_0 Hp) (x_clt c56_57 (((H.2.1 h3).2.1 h1).2.2.2.2.1 h6) (((H.2.1 h3).2.1 h1).2.2.2.2.2.1 h6) (fun (h11 : x2 + 1 < M p 0) => (x_ci c56_75 (x_goto c56_76 (wp_wk (l' := [none, none, none, none, none]) trivial (by have K := K; first | (simp only [if_neg h6, if_pos h11] at K ⊢; exact K) | (exfalso; omega)))))) (fun (h12 : M p 0 ≤ x2 + 1) => (x_ild c56_60 rfl (x_zne c56_62 (((H.2.1 h3).2.1 h1).2.2.2.2.2.2.1 h6 h12) (fun (h13 : x4 ≠ 0) => (x_ci c56_79 (wp_wk (l' := [none, none, none, none, none]) trivial (by have K := K; first | (simp only [if_neg h6, if_neg (Int.not_lt.mpr h12), if_neg h13] at K ⊢; exact K) | (exfalso; omega))))) (fun (h14 : x4 = 0) => (x_ildn c56_65 rfl (x_ci c56_66 (x_iadd c56_67 (x_aldn c56_68 rfl (x_gfi c56_69 (kp_1 Hp) (x_cge c56_72 (((H.2.1 h3).2.1 h1).2.2.2.2.2.2.2.1 h6 h12 h14) (((H.2.1 h3).2.1 h1).2.2.2.2.2.2.2.2.1 h6 h12 h14) (fun (h15 : M p 1 ≤ x3 + 1) => (x_ci c56_79 (wp_wk (l' := [none, none, none, none, none]) trivial (by have K := K; first | (simp only [if_neg h6, if_neg (Int.not_lt.mpr h12), if_pos h14, if_neg (Int.not_lt.mpr h15)] at K ⊢; exact K) | (exfalso; omega))))) (fun (h16 : x3 + 1 < M p 1) => (x_ci c56_75 (x_goto c56_76 (wp_wk (l' := [none, none, none, none, none]) trivial (by have K := K; first | (simp only [if_neg h6, if_neg (Int.not_lt.mpr h12), if_pos h14, if_pos h16] at K ⊢; exact K) | (exfalso; omega))))))))))))))))))))))))))) (fun h2 => (x_ild c56_27 rfl (have K : wp kc (d + 1) 56 44 [none, none, none, none, none] [jI (if x4 = 0 then ((if x3 = 0 then (M p 1 : Int) else 0) : Int) else 0)] M Q := (x_irt c56_44 r56 ((H.2.1 h3).2.2 h2).2.2); (x_zne c56_29 ((H.2.1 h3).2.2 h2).1 (fun (h17 : x4 ≠ 0) => (x_ci c56_43 (wp_wk (l' := [none, none, none, none, none]) trivial (by have K := K; first | (simp only [if_neg h17] at K ⊢; exact K) | (exfalso; omega))))) (fun (h18 : x4 = 0) => (x_ildn c56_32 rfl (x_zne c56_33 (((H.2.1 h3).2.2 h2).2.1 h18) (fun (h19 : x3 ≠ 0) => (x_ci c56_43 (wp_wk (l' := [none, none, none, none, none]) trivial (by have K := K; first | (simp only [if_pos h18, if_neg h19] at K ⊢; exact K) | (exfalso; omega))))) (fun (h20 : x3 = 0) => (x_aldn c56_36 rfl (x_gfi c56_37 (kp_1 Hp) (x_goto c56_40 (wp_wk (l' := [none, none, none, none, none]) trivial (by have K := K; first | (simp only [if_pos h18, if_pos h20] at K ⊢; exact K) | (exfalso; omega)))))))))))))))))) (fun h4 => (x_ild c56_4 rfl (have K : wp kc (d + 1) 56 21 [none, none, none, none, none] [jI (if x4 = 0 then (0 : Int) else (if x2 = 0 then (M p 0 : Int) else 0))] M Q := (x_irt c56_21 r56 (H.2.2 h4).2.2); (x_zeq c56_6 (H.2.2 h4).1 (fun (h21 : x4 = 0) => (x_ci c56_20 (wp_wk (l' := [none, none, none, none, none]) trivial (by have K := K; first | (simp only [if_pos h21] at K ⊢; exact K) | (exfalso; omega))))) (fun (h22 : x4 ≠ 0) => (x_ildn c56_9 rfl (x_zne c56_10 ((H.2.2 h4).2.1 h22) (fun (h23 : x2 ≠ 0) => (x_ci c56_20 (wp_wk (l' := [none, none, none, none, none]) trivial (by have K := K; first | (simp only [if_neg h22, if_neg h23] at K ⊢; exact K) | (exfalso; omega))))) (fun (h24 : x2 = 0) => (x_aldn c56_13 rfl (x_gfi c56_14 (kp_0 Hp) (x_goto c56_17 (wp_wk (l' := [none, none, none, none, none]) trivial (by have K := K; first | (simp only [if_neg h22, if_pos h24] at K ⊢; exact K) | (exfalso; omega))))))))))))))))
theorem s56 {kc : List va_E} {d : Nat} {p : Nat} {x1 x2 x3 x4 : Int} {M : fx_M} {Q : Option fx_V → fx_M → Prop} (Hp : fx_puz p) (H : ((fx_in32 x1)) ∧ (x1 ≠ 0 → ((fx_in32 x1)) ∧ (x1 ≠ 1 → ((fx_in32 x4)) ∧ (x4 = 0 → (fx_in32 x4)) ∧ (x4 = 0 → x4 = 0 → (fx_in32 (x3 + 1))) ∧ (x4 = 0 → x4 = 0 → (fx_in32 (M p 1))) ∧ (x4 ≠ 0 → (fx_in32 (x2 + 1))) ∧ (x4 ≠ 0 → (fx_in32 (M p 0))) ∧ (x4 ≠ 0 → M p 0 ≤ x2 + 1 → (fx_in32 x4)) ∧ (x4 ≠ 0 → M p 0 ≤ x2 + 1 → x4 = 0 → (fx_in32 (x3 + 1))) ∧ (x4 ≠ 0 → M p 0 ≤ x2 + 1 → x4 = 0 → (fx_in32 (M p 1))) ∧ Q (some (jI (if x4 = 0 then ((if x4 = 0 then ((if x3 + 1 < M p 1 then (2 : Int) else 0) : Int) else 0) : Int) else (if x2 + 1 < M p 0 then (2 : Int) else (if x4 = 0 then ((if x3 + 1 < M p 1 then (2 : Int) else 0) : Int) else 0))))) M) ∧ (x1 = 1 → ((fx_in32 x4)) ∧ (x4 = 0 → (fx_in32 x3)) ∧ Q (some (jI (if x4 = 0 then ((if x3 = 0 then (M p 1 : Int) else 0) : Int) else 0))) M)) ∧ (x1 = 0 → ((fx_in32 x4)) ∧ (x4 ≠ 0 → (fx_in32 x2)) ∧ Q (some (jI (if x4 = 0 then (0 : Int) else (if x2 = 0 then (M p 0 : Int) else 0)))) M)) : wc kc (d + 1) 56 [jR p, jI x1, jI x2, jI x3, jI x4] M Q :=
  wc_of (wp_wk (l' := [some (jR p), some (jI x1), some (jI x2), some (jI x3), some (jI x4)]) ⟨rfl, ⟨rfl, ⟨rfl, ⟨rfl, ⟨rfl, trivial⟩⟩⟩⟩⟩ (s56_0 Hp H))

/- PuzzleHouse$Puzzle.give(II)Ljava/lang/String; -/
theorem c57_0 : fx_op 57 0 = some (.iload_n 1, 1, 0) := by decide +kernel
theorem c57_1 : fx_op 57 1 = some (.ifCond .lt 11, 4, 12) := by decide +kernel
theorem c57_12 : fx_cr 57 12 = some (1000017, 14) := by decide +kernel
theorem c57_4 : fx_op 57 4 = some (.iload_n 1, 5, 4) := by decide +kernel
theorem c57_5 : fx_op 57 5 = some (.aload_n 0, 6, 5) := by decide +kernel
theorem c57_6 : fx_gf 57 6 = some (3, 2, 9) := by decide +kernel
theorem c57_9 : fx_op 57 9 = some (.if_icmp .lt 6, 12, 15) := by decide +kernel
theorem c57_15 : fx_op 57 15 = some (.iload_n 2, 16, 15) := by decide +kernel
theorem c57_16 : fx_op 57 16 = some (.aload_n 0, 17, 16) := by decide +kernel
theorem c57_17 : fx_gf 57 17 = some (3, 3, 20) := by decide +kernel
theorem c57_20 : fx_op 57 20 = some (.if_icmp .lt 6, 23, 26) := by decide +kernel
theorem c57_26 : fx_op 57 26 = some (.aload_n 0, 27, 26) := by decide +kernel
theorem c57_27 : fx_gf 57 27 = some (3, 10, 30) := by decide +kernel
theorem c57_30 : fx_op 57 30 = some (.iload_n 1, 31, 30) := by decide +kernel
theorem c57_31 : fx_op 57 31 = some (.iload_n 2, 32, 31) := by decide +kernel
theorem c57_33 : fx_cr 57 33 = some (1000013, 35) := by decide +kernel
theorem c57_23 : fx_cr 57 23 = some (1000023, 25) := by decide +kernel
theorem c57_14 : fx_op 57 14 = some (.areturn, 15, 14) := by decide +kernel
theorem c57_32 : fx_op 57 32 = some (.iastore, 33, 32) := by decide +kernel
theorem c57_35 : fx_op 57 35 = some (.areturn, 36, 35) := by decide +kernel
theorem c57_25 : fx_op 57 25 = some (.areturn, 26, 25) := by decide +kernel
theorem s57_0 {kc : List va_E} {d : Nat} {p : Nat} {x1 x2 : Int} {M : fx_M} {Q : Option fx_V → fx_M → Prop} (Hp : fx_puz p) (H : ((fx_in32 x1)) ∧ (x1 < 0 → Q (some (jR 1000017)) M) ∧ (0 ≤ x1 → ((fx_in32 x1) ∧ (fx_in32 (M p 2))) ∧ (x1 < M p 2 → ((fx_in32 x2) ∧ (fx_in32 (M p 3))) ∧ (x2 < M p 3 → (((0 : Int) ≤ x1 ∧ x1 < 9)) ∧ Q (some (jR 1000013)) (fx_up M (p + 6) x1 x2)) ∧ (M p 3 ≤ x2 → Q (some (jR 1000023)) M)) ∧ (M p 2 ≤ x1 → Q (some (jR 1000017)) M))) : wp kc (d + 1) 57 0 [some (jR p), some (jI x1), some (jI x2)] [] M Q :=
  (x_ildn c57_0 rfl (x_zlt c57_1 H.1 (fun h5 => (x_cr c57_12 (x_art c57_14 r57 (H.2.1 h5)))) (fun h6 => (x_ildn c57_4 rfl (x_aldn c57_5 rfl (x_gfi c57_6 (kp_2 Hp) (x_clt c57_9 (H.2.2 h6).1.1 (H.2.2 h6).1.2 (fun h3 => (x_ildn c57_15 rfl (x_aldn c57_16 rfl (x_gfi c57_17 (kp_3 Hp) (x_clt c57_20 ((H.2.2 h6).2.1 h3).1.1 ((H.2.2 h6).2.1 h3).1.2 (fun h1 => (x_aldn c57_26 rfl (x_gfr c57_27 (kp_10 Hp) (x_ildn c57_30 rfl (x_ildn c57_31 rfl (x_iast c57_32 (ap_6 Hp) (((H.2.2 h6).2.1 h3).2.1 h1).1 (by decide) (x_cr c57_33 (x_art c57_35 r57 (((H.2.2 h6).2.1 h3).2.1 h1).2)))))))) (fun h2 => (x_cr c57_23 (x_art c57_25 r57 (((H.2.2 h6).2.1 h3).2.2 h2))))))))) (fun h4 => (x_cr c57_12 (x_art c57_14 r57 ((H.2.2 h6).2.2 h4)))))))))))
theorem s57 {kc : List va_E} {d : Nat} {p : Nat} {x1 x2 : Int} {M : fx_M} {Q : Option fx_V → fx_M → Prop} (Hp : fx_puz p) (H : ((fx_in32 x1)) ∧ (x1 < 0 → Q (some (jR 1000017)) M) ∧ (0 ≤ x1 → ((fx_in32 x1) ∧ (fx_in32 (M p 2))) ∧ (x1 < M p 2 → ((fx_in32 x2) ∧ (fx_in32 (M p 3))) ∧ (x2 < M p 3 → (((0 : Int) ≤ x1 ∧ x1 < 9)) ∧ Q (some (jR 1000013)) (fx_up M (p + 6) x1 x2)) ∧ (M p 3 ≤ x2 → Q (some (jR 1000023)) M)) ∧ (M p 2 ≤ x1 → Q (some (jR 1000017)) M))) : wc kc (d + 1) 57 [jR p, jI x1, jI x2] M Q :=
  wc_of (wp_wk (l' := [some (jR p), some (jI x1), some (jI x2)]) ⟨rfl, ⟨rfl, ⟨rfl, trivial⟩⟩⟩ (s57_0 Hp H))

/- PuzzleHouse$Puzzle.drop()Ljava/lang/String; -/
theorem c67_0 : fx_op 67 0 = some (.aload_n 0, 1, 0) := by decide +kernel
theorem c67_1 : fx_gf 67 1 = some (3, 4, 4) := by decide +kernel
theorem c67_4 : fx_op 67 4 = some (.ifCond .ne 6, 7, 10) := by decide +kernel
theorem c67_10 : fx_op 67 10 = some (.aload_n 0, 11, 10) := by decide +kernel
theorem c67_11 : fx_op 67 11 = some (.dup, 12, 11) := by decide +kernel
theorem c67_12 : fx_gf 67 12 = some (3, 4, 15) := by decide +kernel
theorem c67_15 : fx_ci 67 15 = some (1, 16) := by decide +kernel
theorem c67_16 : fx_op 67 16 = some (.isub, 17, 16) := by decide +kernel
theorem c67_17 : fx_pf 67 17 = some (3, 4, 0, 20) := by decide +kernel
theorem c67_20 : fx_op 67 20 = some (.aload_n 0, 21, 20) := by decide +kernel
theorem c67_21 : fx_op 67 21 = some (.aload_n 0, 22, 21) := by decide +kernel
theorem c67_22 : fx_gf 67 22 = some (3, 12, 25) := by decide +kernel
theorem c67_25 : fx_op 67 25 = some (.aload_n 0, 26, 25) := by decide +kernel
theorem c67_26 : fx_gf 67 26 = some (3, 4, 29) := by decide +kernel
theorem c67_32 : fx_pf 67 32 = some (3, 12, 0, 35) := by decide +kernel
theorem c67_35 : fx_cr 67 35 = some (1000013, 37) := by decide +kernel
theorem c67_7 : fx_cr 67 7 = some (1000035, 9) := by decide +kernel
theorem c67_29 : fx_nt 67 29 = some (2, 32) := by decide +kernel
theorem c67_37 : fx_op 67 37 = some (.areturn, 38, 37) := by decide +kernel
theorem c67_9 : fx_op 67 9 = some (.areturn, 10, 9) := by decide +kernel
theorem n67_29 : xS 67 ((xI 67 29).getD .nop) = none := by decide +kernel
theorem s67_0 {kc : List va_E} {d : Nat} {p : Nat} {M : fx_M} {Q : Option fx_V → fx_M → Prop} (Hp : fx_puz p) (H : ((fx_in32 (M p 4))) ∧ (M p 4 ≠ 0 → ((fx_in32 (M p 12)) ∧ (fx_in32 ((M p 4) - 1))) ∧ Q (some (jR 1000013)) (fx_up (fx_up M p 4 ((M p 4) - 1)) p 12 (if (M p 4) - 1 < M p 12 then ((M p 4) - 1 : Int) else M p 12))) ∧ (M p 4 = 0 → Q (some (jR 1000035)) M)) : wp kc (d + 1) 67 0 [some (jR p)] [] M Q :=
  (x_aldn c67_0 rfl (x_gfi c67_1 (kp_4 Hp) (x_zne c67_4 H.1 (fun h1 => (x_aldn c67_10 rfl (x_dupr c67_11 (x_gfi c67_12 (kp_4 Hp) (x_ci c67_15 (x_isub c67_16 (x_pfi c67_17 (kp_4 Hp) (x_aldn c67_20 rfl (x_aldn c67_21 rfl (x_gfi c67_22 (kp_12 Hp) (wp_vI (fx_upK (by decide)) (x_aldn c67_25 rfl (x_gfi c67_26 (kp_4 Hp) (wp_vI (fx_upS) (x_min c67_29 n67_29 (H.2.1 h1).1.1 (H.2.1 h1).1.2 (Nat.le_of_ble_eq_true rfl) (x_pfi c67_32 (kp_12 Hp) (x_cr c67_35 (x_art c67_37 r67 (H.2.1 h1).2)))))))))))))))))) (fun h2 => (x_cr c67_7 (x_art c67_9 r67 (H.2.2 h2)))))))
theorem s67 {kc : List va_E} {d : Nat} {p : Nat} {M : fx_M} {Q : Option fx_V → fx_M → Prop} (Hp : fx_puz p) (H : ((fx_in32 (M p 4))) ∧ (M p 4 ≠ 0 → ((fx_in32 (M p 12)) ∧ (fx_in32 ((M p 4) - 1))) ∧ Q (some (jR 1000013)) (fx_up (fx_up M p 4 ((M p 4) - 1)) p 12 (if (M p 4) - 1 < M p 12 then ((M p 4) - 1 : Int) else M p 12))) ∧ (M p 4 = 0 → Q (some (jR 1000035)) M)) : wc kc (d + 1) 67 [jR p] M Q :=
  wc_of (wp_wk (l' := [some (jR p)]) ⟨rfl, trivial⟩ (s67_0 Hp H))

/- PuzzleHouse$Puzzle.write(LPuzzleHouse$Out;)V -/
theorem c68_0 : fx_op 68 0 = some (.aload_n 1, 1, 0) := by decide +kernel
theorem c68_1 : fx_cr 68 1 = some (1000037, 3) := by decide +kernel
theorem c68_3 : fx_ca 68 3 = some (64, 2, 2, 6) := by decide +kernel
theorem c68_6 : fx_op 68 6 = some (.aload_n 1, 7, 6) := by decide +kernel
theorem c68_7 : fx_op 68 7 = some (.aload_n 0, 8, 7) := by decide +kernel
theorem c68_8 : fx_gf 68 8 = some (3, 0, 11) := by decide +kernel
theorem c68_11 : fx_ca 68 11 = some (65, 2, 2, 14) := by decide +kernel
theorem c68_14 : fx_op 68 14 = some (.aload_n 1, 15, 14) := by decide +kernel
theorem c68_15 : fx_ci 68 15 = some (32, 17) := by decide +kernel
theorem c68_17 : fx_ca 68 17 = some (69, 2, 2, 20) := by decide +kernel
theorem c68_20 : fx_op 68 20 = some (.aload_n 1, 21, 20) := by decide +kernel
theorem c68_21 : fx_op 68 21 = some (.aload_n 0, 22, 21) := by decide +kernel
theorem c68_22 : fx_gf 68 22 = some (3, 1, 25) := by decide +kernel
theorem c68_25 : fx_ca 68 25 = some (65, 2, 2, 28) := by decide +kernel
theorem c68_28 : fx_op 68 28 = some (.aload_n 1, 29, 28) := by decide +kernel
theorem c68_29 : fx_ci 68 29 = some (32, 31) := by decide +kernel
theorem c68_31 : fx_ca 68 31 = some (69, 2, 2, 34) := by decide +kernel
theorem c68_34 : fx_op 68 34 = some (.aload_n 1, 35, 34) := by decide +kernel
theorem c68_35 : fx_op 68 35 = some (.aload_n 0, 36, 35) := by decide +kernel
theorem c68_36 : fx_gf 68 36 = some (3, 3, 39) := by decide +kernel
theorem c68_39 : fx_ca 68 39 = some (65, 2, 2, 42) := by decide +kernel
theorem c68_42 : fx_ci 68 42 = some (0, 43) := by decide +kernel
theorem c68_43 : fx_op 68 43 = some (.istore_n 2, 44, 43) := by decide +kernel
theorem c68_44 : fx_op 68 44 = some (.iload_n 2, 45, 44) := by decide +kernel
theorem c68_45 : fx_op 68 45 = some (.aload_n 0, 46, 45) := by decide +kernel
theorem c68_46 : fx_gf 68 46 = some (3, 4, 49) := by decide +kernel
theorem c68_49 : fx_op 68 49 = some (.if_icmp .ge 15, 52, 64) := by decide +kernel
theorem c68_52 : fx_op 68 52 = some (.aload_n 0, 53, 52) := by decide +kernel
theorem c68_53 : fx_op 68 53 = some (.iload_n 2, 54, 53) := by decide +kernel
theorem c68_54 : fx_op 68 54 = some (.aload_n 1, 55, 54) := by decide +kernel
theorem c68_64 : fx_ci 68 64 = some (0, 65) := by decide +kernel
theorem c68_65 : fx_op 68 65 = some (.istore_n 2, 66, 65) := by decide +kernel
theorem c68_55 : fx_ca 68 55 = some (70, 3, 2, 58) := by decide +kernel
theorem c68_66 : fx_op 68 66 = some (.iload_n 2, 67, 66) := by decide +kernel
theorem c68_67 : fx_op 68 67 = some (.aload_n 0, 68, 67) := by decide +kernel
theorem c68_68 : fx_gf 68 68 = some (3, 2, 71) := by decide +kernel
theorem c68_71 : fx_op 68 71 = some (.if_icmp .ge 45, 74, 116) := by decide +kernel
theorem c68_74 : fx_op 68 74 = some (.aload_n 0, 75, 74) := by decide +kernel
theorem c68_75 : fx_gf 68 75 = some (3, 10, 78) := by decide +kernel
theorem c68_78 : fx_op 68 78 = some (.iload_n 2, 79, 78) := by decide +kernel
theorem c68_79 : fx_op 68 79 = some (.iaload, 80, 79) := by decide +kernel
theorem c68_80 : fx_op 68 80 = some (.ifCond .lt 30, 83, 110) := by decide +kernel
theorem c68_110 : fx_op 68 110 = some (.iinc 2 1, 113, 110) := by decide +kernel
theorem c68_83 : fx_op 68 83 = some (.aload_n 1, 84, 83) := by decide +kernel
theorem c68_84 : fx_cr 68 84 = some (1000057, 86) := by decide +kernel
theorem c68_116 : fx_op 68 116 = some (.return_, 117, 116) := by decide +kernel
theorem c68_113 : fx_op 68 113 = some (.goto (-47), 116, 66) := by decide +kernel
theorem c68_86 : fx_ca 68 86 = some (64, 2, 2, 89) := by decide +kernel
theorem c68_58 : fx_op 68 58 = some (.iinc 2 1, 61, 58) := by decide +kernel
theorem c68_61 : fx_op 68 61 = some (.goto (-17), 64, 44) := by decide +kernel
theorem c68_89 : fx_op 68 89 = some (.aload_n 1, 90, 89) := by decide +kernel
theorem c68_90 : fx_op 68 90 = some (.iload_n 2, 91, 90) := by decide +kernel
theorem c68_91 : fx_ca 68 91 = some (65, 2, 2, 94) := by decide +kernel
theorem c68_94 : fx_op 68 94 = some (.aload_n 1, 95, 94) := by decide +kernel
theorem c68_95 : fx_ci 68 95 = some (32, 97) := by decide +kernel
theorem c68_97 : fx_ca 68 97 = some (69, 2, 2, 100) := by decide +kernel
theorem c68_100 : fx_op 68 100 = some (.aload_n 1, 101, 100) := by decide +kernel
theorem c68_101 : fx_op 68 101 = some (.aload_n 0, 102, 101) := by decide +kernel
theorem c68_102 : fx_gf 68 102 = some (3, 10, 105) := by decide +kernel
theorem c68_105 : fx_op 68 105 = some (.iload_n 2, 106, 105) := by decide +kernel
theorem c68_106 : fx_op 68 106 = some (.iaload, 107, 106) := by decide +kernel
theorem c68_107 : fx_ca 68 107 = some (65, 2, 2, 110) := by decide +kernel
theorem s68_0 {kc : List va_E} {d : Nat} {p o : Nat} {M : fx_M} {Q : Option fx_V → fx_M → Prop} (Hp : fx_puz p) (Ho : fx_out o) (H : wc kc d 64 [jR o, jR 1000037] M (fun v M1 => wp kc (d + 1) 68 6 [some (jR p), some (jR o), none] (v.toList ++ []) M1 Q)) : wp kc (d + 1) 68 0 [some (jR p), some (jR o), none] [] M Q :=
  (x_aldn c68_0 rfl (x_cr c68_1 (wp_wk (l' := [some (jR p), some (jR o), none]) ⟨rfl, ⟨rfl, trivial⟩⟩ (x_cv (As := [jR 1000037]) (st := []) c68_3 (clo Ho) kl64 rfl (Nat.le_of_ble_eq_true rfl) mx64 (Nat.le_refl _) H))))
theorem s68_6 {kc : List va_E} {d : Nat} {p o : Nat} {M : fx_M} {Q : Option fx_V → fx_M → Prop} (Hp : fx_puz p) (Ho : fx_out o) (H : wc kc d 65 [jR o, jI (M p 0)] M (fun v M1 => wp kc (d + 1) 68 14 [some (jR p), some (jR o), none] (v.toList ++ []) M1 Q)) : wp kc (d + 1) 68 6 [some (jR p), some (jR o), none] [] M Q :=
  (x_aldn c68_6 rfl (x_aldn c68_7 rfl (x_gfi c68_8 (kp_0 Hp) (wp_wk (l' := [some (jR p), some (jR o), none]) ⟨rfl, ⟨rfl, trivial⟩⟩ (x_cv (As := [jI (M p 0)]) (st := []) c68_11 (clo Ho) kl65 rfl (Nat.le_of_ble_eq_true rfl) mx65 (Nat.le_refl _) H)))))
theorem s68_14 {kc : List va_E} {d : Nat} {p o : Nat} {M : fx_M} {Q : Option fx_V → fx_M → Prop} (Hp : fx_puz p) (Ho : fx_out o) (H : wc kc d 69 [jR o, jI 32] M (fun v M1 => wp kc (d + 1) 68 20 [some (jR p), some (jR o), none] (v.toList ++ []) M1 Q)) : wp kc (d + 1) 68 14 [some (jR p), some (jR o), none] [] M Q :=
  (x_aldn c68_14 rfl (x_ci c68_15 (wp_wk (l' := [some (jR p), some (jR o), none]) ⟨rfl, ⟨rfl, trivial⟩⟩ (x_cv (As := [jI 32]) (st := []) c68_17 (clo Ho) kl69 rfl (Nat.le_of_ble_eq_true rfl) mx69 (Nat.le_refl _) H))))
theorem s68_20 {kc : List va_E} {d : Nat} {p o : Nat} {M : fx_M} {Q : Option fx_V → fx_M → Prop} (Hp : fx_puz p) (Ho : fx_out o) (H : wc kc d 65 [jR o, jI (M p 1)] M (fun v M1 => wp kc (d + 1) 68 28 [some (jR p), some (jR o), none] (v.toList ++ []) M1 Q)) : wp kc (d + 1) 68 20 [some (jR p), some (jR o), none] [] M Q :=
  (x_aldn c68_20 rfl (x_aldn c68_21 rfl (x_gfi c68_22 (kp_1 Hp) (wp_wk (l' := [some (jR p), some (jR o), none]) ⟨rfl, ⟨rfl, trivial⟩⟩ (x_cv (As := [jI (M p 1)]) (st := []) c68_25 (clo Ho) kl65 rfl (Nat.le_of_ble_eq_true rfl) mx65 (Nat.le_refl _) H)))))
theorem s68_28 {kc : List va_E} {d : Nat} {p o : Nat} {M : fx_M} {Q : Option fx_V → fx_M → Prop} (Hp : fx_puz p) (Ho : fx_out o) (H : wc kc d 69 [jR o, jI 32] M (fun v M1 => wp kc (d + 1) 68 34 [some (jR p), some (jR o), none] (v.toList ++ []) M1 Q)) : wp kc (d + 1) 68 28 [some (jR p), some (jR o), none] [] M Q :=
  (x_aldn c68_28 rfl (x_ci c68_29 (wp_wk (l' := [some (jR p), some (jR o), none]) ⟨rfl, ⟨rfl, trivial⟩⟩ (x_cv (As := [jI 32]) (st := []) c68_31 (clo Ho) kl69 rfl (Nat.le_of_ble_eq_true rfl) mx69 (Nat.le_refl _) H))))
theorem s68_34 {kc : List va_E} {d : Nat} {p o : Nat} {M : fx_M} {Q : Option fx_V → fx_M → Prop} (Hp : fx_puz p) (Ho : fx_out o) (H : wc kc d 65 [jR o, jI (M p 3)] M (fun v M1 => wp kc (d + 1) 68 42 [some (jR p), some (jR o), none] (v.toList ++ []) M1 Q)) : wp kc (d + 1) 68 34 [some (jR p), some (jR o), none] [] M Q :=
  (x_aldn c68_34 rfl (x_aldn c68_35 rfl (x_gfi c68_36 (kp_3 Hp) (wp_wk (l' := [some (jR p), some (jR o), none]) ⟨rfl, ⟨rfl, trivial⟩⟩ (x_cv (As := [jI (M p 3)]) (st := []) c68_39 (clo Ho) kl65 rfl (Nat.le_of_ble_eq_true rfl) mx65 (Nat.le_refl _) H)))))
theorem s68_42 {kc : List va_E} {d : Nat} {p o : Nat} {M : fx_M} {Q : Option fx_V → fx_M → Prop} (Hp : fx_puz p) (Ho : fx_out o) (H : wp kc (d + 1) 68 44 [some (jR p), some (jR o), some (jI 0)] [] M Q) : wp kc (d + 1) 68 42 [some (jR p), some (jR o), none] [] M Q :=
  (x_ci c68_42 (x_istn (l' := [some (jR p), some (jR o), some (jI 0)]) c68_43 rfl (wp_wk (l' := [some (jR p), some (jR o), some (jI 0)]) ⟨rfl, ⟨rfl, ⟨rfl, trivial⟩⟩⟩ H)))
theorem s68_44 {kc : List va_E} {d : Nat} {p o : Nat} {v2 : Int} {M : fx_M} {Q : Option fx_V → fx_M → Prop} (Hp : fx_puz p) (Ho : fx_out o) (H : ((fx_in32 v2) ∧ (fx_in32 (M p 4))) ∧ (M p 4 ≤ v2 → wp kc (d + 1) 68 66 [some (jR p), some (jR o), some (jI 0)] [] M Q) ∧ (v2 < M p 4 → wc kc d 70 [jR p, jI v2, jR o] M (fun v M1 => wp kc (d + 1) 68 58 [some (jR p), some (jR o), some (jI v2)] (v.toList ++ []) M1 Q))) : wp kc (d + 1) 68 44 [some (jR p), some (jR o), some (jI v2)] [] M Q :=
  (x_ildn c68_44 rfl (x_aldn c68_45 rfl (x_gfi c68_46 (kp_4 Hp) (x_cge c68_49 H.1.1 H.1.2 (fun h1 => (x_ci c68_64 (x_istn (l' := [some (jR p), some (jR o), some (jI 0)]) c68_65 rfl (wp_wk (l' := [some (jR p), some (jR o), some (jI 0)]) ⟨rfl, ⟨rfl, ⟨rfl, trivial⟩⟩⟩ (H.2.1 h1))))) (fun h2 => (x_aldn c68_52 rfl (x_ildn c68_53 rfl (x_aldn c68_54 rfl (wp_wk (l' := [some (jR p), some (jR o), some (jI v2)]) ⟨rfl, ⟨rfl, ⟨rfl, trivial⟩⟩⟩ (x_cv (As := [jI v2, jR o]) (st := []) c68_55 (clp Hp) kl70 rfl (Nat.le_of_ble_eq_true rfl) mx70 (Nat.le_refl _) (H.2.2 h2)))))))))))
theorem s68_58 {kc : List va_E} {d : Nat} {p o : Nat} {v2 : Int} {M : fx_M} {Q : Option fx_V → fx_M → Prop} (Hp : fx_puz p) (Ho : fx_out o) (H : wp kc (d + 1) 68 44 [some (jR p), some (jR o), some (jI (v2 + 1))] [] M Q) : wp kc (d + 1) 68 58 [some (jR p), some (jR o), some (jI v2)] [] M Q :=
  (x_inc (l' := [some (jR p), some (jR o), some (jI (v2 + 1))]) c68_58 rfl rfl (x_goto c68_61 (wp_wk (l' := [some (jR p), some (jR o), some (jI (v2 + 1))]) ⟨rfl, ⟨rfl, ⟨rfl, trivial⟩⟩⟩ H)))
theorem s68_66 {kc : List va_E} {d : Nat} {p o : Nat} {v2 : Int} {M : fx_M} {Q : Option fx_V → fx_M → Prop} (Hp : fx_puz p) (Ho : fx_out o) (H : ((fx_in32 v2) ∧ (fx_in32 (M p 2))) ∧ (M p 2 ≤ v2 → Q none M) ∧ (v2 < M p 2 → (((0 : Int) ≤ v2 ∧ v2 < 9)) ∧ ((fx_in32 (M (p + 6) v2))) ∧ (M (p + 6) v2 < 0 → wp kc (d + 1) 68 66 [some (jR p), some (jR o), some (jI (v2 + 1))] [] M Q) ∧ (0 ≤ M (p + 6) v2 → wc kc d 64 [jR o, jR 1000057] M (fun v M1 => wp kc (d + 1) 68 89 [some (jR p), some (jR o), some (jI v2)] (v.toList ++ []) M1 Q)))) : wp kc (d + 1) 68 66 [some (jR p), some (jR o), some (jI v2)] [] M Q :=
  (x_ildn c68_66 rfl (x_aldn c68_67 rfl (x_gfi c68_68 (kp_2 Hp) (x_cge c68_71 H.1.1 H.1.2 (fun h3 => (x_vr c68_116 r68 (H.2.1 h3))) (fun h4 => (x_aldn c68_74 rfl (x_gfr c68_75 (kp_10 Hp) (x_ildn c68_78 rfl (x_iald c68_79 (ap_6 Hp) (H.2.2 h4).1 (by decide) (x_zlt c68_80 (H.2.2 h4).2.1 (fun h1 => (x_inc (l' := [some (jR p), some (jR o), some (jI (v2 + 1))]) c68_110 rfl rfl (x_goto c68_113 (wp_wk (l' := [some (jR p), some (jR o), some (jI (v2 + 1))]) ⟨rfl, ⟨rfl, ⟨rfl, trivial⟩⟩⟩ ((H.2.2 h4).2.2.1 h1))))) (fun h2 => (x_aldn c68_83 rfl (x_cr c68_84 (wp_wk (l' := [some (jR p), some (jR o), some (jI v2)]) ⟨rfl, ⟨rfl, ⟨rfl, trivial⟩⟩⟩ (x_cv (As := [jR 1000057]) (st := []) c68_86 (clo Ho) kl64 rfl (Nat.le_of_ble_eq_true rfl) mx64 (Nat.le_refl _) ((H.2.2 h4).2.2.2 h2))))))))))))))))
theorem s68_89 {kc : List va_E} {d : Nat} {p o : Nat} {v2 : Int} {M : fx_M} {Q : Option fx_V → fx_M → Prop} (Hp : fx_puz p) (Ho : fx_out o) (H : wc kc d 65 [jR o, jI v2] M (fun v M1 => wp kc (d + 1) 68 94 [some (jR p), some (jR o), some (jI v2)] (v.toList ++ []) M1 Q)) : wp kc (d + 1) 68 89 [some (jR p), some (jR o), some (jI v2)] [] M Q :=
  (x_aldn c68_89 rfl (x_ildn c68_90 rfl (wp_wk (l' := [some (jR p), some (jR o), some (jI v2)]) ⟨rfl, ⟨rfl, ⟨rfl, trivial⟩⟩⟩ (x_cv (As := [jI v2]) (st := []) c68_91 (clo Ho) kl65 rfl (Nat.le_of_ble_eq_true rfl) mx65 (Nat.le_refl _) H))))
theorem s68_94 {kc : List va_E} {d : Nat} {p o : Nat} {v2 : Int} {M : fx_M} {Q : Option fx_V → fx_M → Prop} (Hp : fx_puz p) (Ho : fx_out o) (H : wc kc d 69 [jR o, jI 32] M (fun v M1 => wp kc (d + 1) 68 100 [some (jR p), some (jR o), some (jI v2)] (v.toList ++ []) M1 Q)) : wp kc (d + 1) 68 94 [some (jR p), some (jR o), some (jI v2)] [] M Q :=
  (x_aldn c68_94 rfl (x_ci c68_95 (wp_wk (l' := [some (jR p), some (jR o), some (jI v2)]) ⟨rfl, ⟨rfl, ⟨rfl, trivial⟩⟩⟩ (x_cv (As := [jI 32]) (st := []) c68_97 (clo Ho) kl69 rfl (Nat.le_of_ble_eq_true rfl) mx69 (Nat.le_refl _) H))))
theorem s68_100 {kc : List va_E} {d : Nat} {p o : Nat} {v2 : Int} {M : fx_M} {Q : Option fx_V → fx_M → Prop} (Hp : fx_puz p) (Ho : fx_out o) (H : (((0 : Int) ≤ v2 ∧ v2 < 9)) ∧ wc kc d 65 [jR o, jI (M (p + 6) v2)] M (fun v M1 => wp kc (d + 1) 68 110 [some (jR p), some (jR o), some (jI v2)] (v.toList ++ []) M1 Q)) : wp kc (d + 1) 68 100 [some (jR p), some (jR o), some (jI v2)] [] M Q :=
  (x_aldn c68_100 rfl (x_aldn c68_101 rfl (x_gfr c68_102 (kp_10 Hp) (x_ildn c68_105 rfl (x_iald c68_106 (ap_6 Hp) H.1 (by decide) (wp_wk (l' := [some (jR p), some (jR o), some (jI v2)]) ⟨rfl, ⟨rfl, ⟨rfl, trivial⟩⟩⟩ (x_cv (As := [jI (M (p + 6) v2)]) (st := []) c68_107 (clo Ho) kl65 rfl (Nat.le_of_ble_eq_true rfl) mx65 (Nat.le_refl _) H.2)))))))
theorem s68_110 {kc : List va_E} {d : Nat} {p o : Nat} {v2 : Int} {M : fx_M} {Q : Option fx_V → fx_M → Prop} (Hp : fx_puz p) (Ho : fx_out o) (H : wp kc (d + 1) 68 66 [some (jR p), some (jR o), some (jI (v2 + 1))] [] M Q) : wp kc (d + 1) 68 110 [some (jR p), some (jR o), some (jI v2)] [] M Q :=
  (x_inc (l' := [some (jR p), some (jR o), some (jI (v2 + 1))]) c68_110 rfl rfl (x_goto c68_113 (wp_wk (l' := [some (jR p), some (jR o), some (jI (v2 + 1))]) ⟨rfl, ⟨rfl, ⟨rfl, trivial⟩⟩⟩ H)))
theorem s68 {kc : List va_E} {d : Nat} {p o : Nat} {M : fx_M} {Q : Option fx_V → fx_M → Prop} (Hp : fx_puz p) (Ho : fx_out o) (H : wc kc d 64 [jR o, jR 1000037] M (fun v M1 => wp kc (d + 1) 68 6 [some (jR p), some (jR o), none] (v.toList ++ []) M1 Q)) : wc kc (d + 1) 68 [jR p, jR o] M Q :=
  wc_of (wp_wk (l' := [some (jR p), some (jR o), none]) ⟨rfl, ⟨rfl, trivial⟩⟩ (s68_0 Hp Ho H))

/- PuzzleHouse$Puzzle.writeRule(ILPuzzleHouse$Out;)V -/
theorem c70_0 : fx_op 70 0 = some (.aload_n 2, 1, 0) := by decide +kernel
theorem c70_1 : fx_cr 70 1 = some (1000039, 3) := by decide +kernel
theorem c70_3 : fx_ca 70 3 = some (64, 2, 2, 6) := by decide +kernel
theorem c70_6 : fx_op 70 6 = some (.aload_n 2, 7, 6) := by decide +kernel
theorem c70_7 : fx_op 70 7 = some (.aload_n 0, 8, 7) := by decide +kernel
theorem c70_8 : fx_gf 70 8 = some (3, 5, 11) := by decide +kernel
theorem c70_11 : fx_op 70 11 = some (.iload_n 1, 12, 11) := by decide +kernel
theorem c70_12 : fx_op 70 12 = some (.iaload, 13, 12) := by decide +kernel
theorem c70_13 : fx_ca 70 13 = some (71, 1, 0, 16) := by decide +kernel
theorem c70_16 : fx_ca 70 16 = some (64, 2, 2, 19) := by decide +kernel
theorem c70_19 : fx_op 70 19 = some (.aload_n 0, 20, 19) := by decide +kernel
theorem c70_20 : fx_gf 70 20 = some (3, 5, 23) := by decide +kernel
theorem c70_23 : fx_op 70 23 = some (.iload_n 1, 24, 23) := by decide +kernel
theorem c70_24 : fx_op 70 24 = some (.iaload, 25, 24) := by decide +kernel
theorem c70_25 : fx_ca 70 25 = some (46, 1, 0, 28) := by decide +kernel
theorem c70_28 : fx_op 70 28 = some (.ifCond .eq 19, 31, 47) := by decide +kernel
theorem c70_31 : fx_op 70 31 = some (.aload_n 2, 32, 31) := by decide +kernel
theorem c70_32 : fx_ci 70 32 = some (32, 34) := by decide +kernel
theorem c70_47 : fx_ci 70 47 = some (0, 48) := by decide +kernel
theorem c70_48 : fx_op 70 48 = some (.istore_n 3, 49, 48) := by decide +kernel
theorem c70_34 : fx_ca 70 34 = some (69, 2, 2, 37) := by decide +kernel
theorem c70_49 : fx_op 70 49 = some (.iload_n 3, 50, 49) := by decide +kernel
theorem c70_50 : fx_op 70 50 = some (.aload_n 0, 51, 50) := by decide +kernel
theorem c70_51 : fx_gf 70 51 = some (3, 7, 54) := by decide +kernel
theorem c70_54 : fx_op 70 54 = some (.iload_n 1, 55, 54) := by decide +kernel
theorem c70_56 : fx_op 70 56 = some (.if_icmp .ge 29, 59, 85) := by decide +kernel
theorem c70_59 : fx_op 70 59 = some (.aload_n 2, 60, 59) := by decide +kernel
theorem c70_60 : fx_ci 70 60 = some (32, 62) := by decide +kernel
theorem c70_55 : fx_op 70 55 = some (.iaload, 56, 55) := by decide +kernel
theorem c70_85 : fx_op 70 85 = some (.return_, 86, 85) := by decide +kernel
theorem c70_62 : fx_ca 70 62 = some (69, 2, 2, 65) := by decide +kernel
theorem c70_37 : fx_op 70 37 = some (.aload_n 2, 38, 37) := by decide +kernel
theorem c70_38 : fx_op 70 38 = some (.aload_n 0, 39, 38) := by decide +kernel
theorem c70_39 : fx_gf 70 39 = some (3, 6, 42) := by decide +kernel
theorem c70_42 : fx_op 70 42 = some (.iload_n 1, 43, 42) := by decide +kernel
theorem c70_43 : fx_op 70 43 = some (.iaload, 44, 43) := by decide +kernel
theorem c70_44 : fx_ca 70 44 = some (65, 2, 2, 47) := by decide +kernel
theorem c70_65 : fx_op 70 65 = some (.aload_n 2, 66, 65) := by decide +kernel
theorem c70_66 : fx_op 70 66 = some (.aload_n 0, 67, 66) := by decide +kernel
theorem c70_67 : fx_gf 70 67 = some (3, 8, 70) := by decide +kernel
theorem c70_70 : fx_ci 70 70 = some (4, 71) := by decide +kernel
theorem c70_71 : fx_op 70 71 = some (.iload_n 1, 72, 71) := by decide +kernel
theorem c70_72 : fx_op 70 72 = some (.imul, 73, 72) := by decide +kernel
theorem c70_73 : fx_op 70 73 = some (.iload_n 3, 74, 73) := by decide +kernel
theorem c70_74 : fx_op 70 74 = some (.iadd, 75, 74) := by decide +kernel
theorem c70_75 : fx_op 70 75 = some (.iaload, 76, 75) := by decide +kernel
theorem c70_76 : fx_ca 70 76 = some (65, 2, 2, 79) := by decide +kernel
theorem c70_79 : fx_op 70 79 = some (.iinc 3 1, 82, 79) := by decide +kernel
theorem c70_82 : fx_op 70 82 = some (.goto (-33), 85, 49) := by decide +kernel
theorem s70_0 {kc : List va_E} {d : Nat} {p o : Nat} {x1 : Int} {M : fx_M} {Q : Option fx_V → fx_M → Prop} (Hp : fx_puz p) (Ho : fx_out o) (H : wc kc d 64 [jR o, jR 1000039] M (fun v M1 => wp kc (d + 1) 70 6 [some (jR p), some (jI x1), some (jR o), none] (v.toList ++ []) M1 Q)) : wp kc (d + 1) 70 0 [some (jR p), some (jI x1), some (jR o), none] [] M Q :=
  (x_aldn c70_0 rfl (x_cr c70_1 (wp_wk (l' := [some (jR p), some (jI x1), some (jR o), none]) ⟨rfl, ⟨rfl, ⟨rfl, trivial⟩⟩⟩ (x_cv (As := [jR 1000039]) (st := []) c70_3 (clo Ho) kl64 rfl (Nat.le_of_ble_eq_true rfl) mx64 (Nat.le_refl _) H))))
theorem s70_6 {kc : List va_E} {d : Nat} {p o : Nat} {v1 : Int} {M : fx_M} {Q : Option fx_V → fx_M → Prop} (Hp : fx_puz p) (Ho : fx_out o) (H : (((0 : Int) ≤ v1 ∧ v1 < 12)) ∧ wc kc d 71 [jI (M (p + 1) v1)] M (fun v M1 => wp kc (d + 1) 70 16 [some (jR p), some (jI v1), some (jR o), none] (v.toList ++ [jR o]) M1 Q)) : wp kc (d + 1) 70 6 [some (jR p), some (jI v1), some (jR o), none] [] M Q :=
  (x_aldn c70_6 rfl (x_aldn c70_7 rfl (x_gfr c70_8 (kp_5 Hp) (x_ildn c70_11 rfl (x_iald c70_12 (ap_1 Hp) H.1 (by decide) (wp_wk (l' := [some (jR p), some (jI v1), some (jR o), none]) ⟨rfl, ⟨rfl, ⟨rfl, trivial⟩⟩⟩ (x_cs (As := [jI (M (p + 1) v1)]) (st := [jR o]) c70_13 (by decide) rfl (Nat.le_of_ble_eq_true rfl) mx71 (Nat.le_refl _) H.2)))))))
theorem s70_16 {kc : List va_E} {d : Nat} {p o u0 : Nat} {v1 : Int} {M : fx_M} {Q : Option fx_V → fx_M → Prop} (Hp : fx_puz p) (Ho : fx_out o) (H : wc kc d 64 [jR o, jR u0] M (fun v M1 => wp kc (d + 1) 70 19 [some (jR p), some (jI v1), some (jR o), none] (v.toList ++ []) M1 Q)) : wp kc (d + 1) 70 16 [some (jR p), some (jI v1), some (jR o), none] [jR u0, jR o] M Q :=
  (wp_wk (l' := [some (jR p), some (jI v1), some (jR o), none]) ⟨rfl, ⟨rfl, ⟨rfl, trivial⟩⟩⟩ (x_cv (As := [jR u0]) (st := []) c70_16 (clo Ho) kl64 rfl (Nat.le_of_ble_eq_true rfl) mx64 (Nat.le_refl _) H))
theorem s70_19 {kc : List va_E} {d : Nat} {p o : Nat} {v1 : Int} {M : fx_M} {Q : Option fx_V → fx_M → Prop} (Hp : fx_puz p) (Ho : fx_out o) (H : (((0 : Int) ≤ v1 ∧ v1 < 12)) ∧ wc kc d 46 [jI (M (p + 1) v1)] M (fun v M1 => wp kc (d + 1) 70 28 [some (jR p), some (jI v1), some (jR o), none] (v.toList ++ []) M1 Q)) : wp kc (d + 1) 70 19 [some (jR p), some (jI v1), some (jR o), none] [] M Q :=
  (x_aldn c70_19 rfl (x_gfr c70_20 (kp_5 Hp) (x_ildn c70_23 rfl (x_iald c70_24 (ap_1 Hp) H.1 (by decide) (wp_wk (l' := [some (jR p), some (jI v1), some (jR o), none]) ⟨rfl, ⟨rfl, ⟨rfl, trivial⟩⟩⟩ (x_cs (As := [jI (M (p + 1) v1)]) (st := []) c70_25 (by decide) rfl (Nat.le_of_ble_eq_true rfl) mx46 (Nat.le_refl _) H.2))))))
theorem s70_28 {kc : List va_E} {d : Nat} {p o : Nat} {v1 u0 : Int} {M : fx_M} {Q : Option fx_V → fx_M → Prop} (Hp : fx_puz p) (Ho : fx_out o) (H : ((fx_in32 u0)) ∧ (u0 = 0 → wp kc (d + 1) 70 49 [some (jR p), some (jI v1), some (jR o), some (jI 0)] [] M Q) ∧ (u0 ≠ 0 → wc kc d 69 [jR o, jI 32] M (fun v M1 => wp kc (d + 1) 70 37 [some (jR p), some (jI v1), some (jR o), none] (v.toList ++ []) M1 Q))) : wp kc (d + 1) 70 28 [some (jR p), some (jI v1), some (jR o), none] [jI u0] M Q :=
  (x_zeq c70_28 H.1 (fun h1 => (x_ci c70_47 (x_istn (l' := [some (jR p), some (jI v1), some (jR o), some (jI 0)]) c70_48 rfl (wp_wk (l' := [some (jR p), some (jI v1), some (jR o), some (jI 0)]) ⟨rfl, ⟨rfl, ⟨rfl, ⟨rfl, trivial⟩⟩⟩⟩ (H.2.1 h1))))) (fun h2 => (x_aldn c70_31 rfl (x_ci c70_32 (wp_wk (l' := [some (jR p), some (jI v1), some (jR o), none]) ⟨rfl, ⟨rfl, ⟨rfl, trivial⟩⟩⟩ (x_cv (As := [jI 32]) (st := []) c70_34 (clo Ho) kl69 rfl (Nat.le_of_ble_eq_true rfl) mx69 (Nat.le_refl _) (H.2.2 h2)))))))
theorem s70_37 {kc : List va_E} {d : Nat} {p o : Nat} {v1 : Int} {M : fx_M} {Q : Option fx_V → fx_M → Prop} (Hp : fx_puz p) (Ho : fx_out o) (H : (((0 : Int) ≤ v1 ∧ v1 < 12)) ∧ wc kc d 65 [jR o, jI (M (p + 2) v1)] M (fun v M1 => wp kc (d + 1) 70 47 [some (jR p), some (jI v1), some (jR o), none] (v.toList ++ []) M1 Q)) : wp kc (d + 1) 70 37 [some (jR p), some (jI v1), some (jR o), none] [] M Q :=
  (x_aldn c70_37 rfl (x_aldn c70_38 rfl (x_gfr c70_39 (kp_6 Hp) (x_ildn c70_42 rfl (x_iald c70_43 (ap_2 Hp) H.1 (by decide) (wp_wk (l' := [some (jR p), some (jI v1), some (jR o), none]) ⟨rfl, ⟨rfl, ⟨rfl, trivial⟩⟩⟩ (x_cv (As := [jI (M (p + 2) v1)]) (st := []) c70_44 (clo Ho) kl65 rfl (Nat.le_of_ble_eq_true rfl) mx65 (Nat.le_refl _) H.2)))))))
theorem s70_47 {kc : List va_E} {d : Nat} {p o : Nat} {v1 : Int} {M : fx_M} {Q : Option fx_V → fx_M → Prop} (Hp : fx_puz p) (Ho : fx_out o) (H : wp kc (d + 1) 70 49 [some (jR p), some (jI v1), some (jR o), some (jI 0)] [] M Q) : wp kc (d + 1) 70 47 [some (jR p), some (jI v1), some (jR o), none] [] M Q :=
  (x_ci c70_47 (x_istn (l' := [some (jR p), some (jI v1), some (jR o), some (jI 0)]) c70_48 rfl (wp_wk (l' := [some (jR p), some (jI v1), some (jR o), some (jI 0)]) ⟨rfl, ⟨rfl, ⟨rfl, ⟨rfl, trivial⟩⟩⟩⟩ H)))
theorem s70_49 {kc : List va_E} {d : Nat} {p o : Nat} {v1 v3 : Int} {M : fx_M} {Q : Option fx_V → fx_M → Prop} (Hp : fx_puz p) (Ho : fx_out o) (H : (((0 : Int) ≤ v1 ∧ v1 < 12)) ∧ ((fx_in32 v3) ∧ (fx_in32 (M (p + 3) v1))) ∧ (M (p + 3) v1 ≤ v3 → Q none M) ∧ (v3 < M (p + 3) v1 → wc kc d 69 [jR o, jI 32] M (fun v M1 => wp kc (d + 1) 70 65 [some (jR p), some (jI v1), some (jR o), some (jI v3)] (v.toList ++ []) M1 Q))) : wp kc (d + 1) 70 49 [some (jR p), some (jI v1), some (jR o), some (jI v3)] [] M Q :=
  (x_ildn c70_49 rfl (x_aldn c70_50 rfl (x_gfr c70_51 (kp_7 Hp) (x_ildn c70_54 rfl (x_iald c70_55 (ap_3 Hp) H.1 (by decide) (x_cge c70_56 H.2.1.1 H.2.1.2 (fun h1 => (x_vr c70_85 r70 (H.2.2.1 h1))) (fun h2 => (x_aldn c70_59 rfl (x_ci c70_60 (wp_wk (l' := [some (jR p), some (jI v1), some (jR o), some (jI v3)]) ⟨rfl, ⟨rfl, ⟨rfl, ⟨rfl, trivial⟩⟩⟩⟩ (x_cv (As := [jI 32]) (st := []) c70_62 (clo Ho) kl69 rfl (Nat.le_of_ble_eq_true rfl) mx69 (Nat.le_refl _) (H.2.2.2 h2))))))))))))
theorem s70_65 {kc : List va_E} {d : Nat} {p o : Nat} {v1 v3 : Int} {M : fx_M} {Q : Option fx_V → fx_M → Prop} (Hp : fx_puz p) (Ho : fx_out o) (H : (((0 : Int) ≤ (4 * v1) + v3 ∧ (4 * v1) + v3 < 48)) ∧ wc kc d 65 [jR o, jI (M (p + 4) ((4 * v1) + v3))] M (fun v M1 => wp kc (d + 1) 70 79 [some (jR p), some (jI v1), some (jR o), some (jI v3)] (v.toList ++ []) M1 Q)) : wp kc (d + 1) 70 65 [some (jR p), some (jI v1), some (jR o), some (jI v3)] [] M Q :=
  (x_aldn c70_65 rfl (x_aldn c70_66 rfl (x_gfr c70_67 (kp_8 Hp) (x_ci c70_70 (x_ildn c70_71 rfl (x_imul c70_72 (x_ildn c70_73 rfl (x_iadd c70_74 (x_iald c70_75 (ap_4 Hp) H.1 (by decide) (wp_wk (l' := [some (jR p), some (jI v1), some (jR o), some (jI v3)]) ⟨rfl, ⟨rfl, ⟨rfl, ⟨rfl, trivial⟩⟩⟩⟩ (x_cv (As := [jI (M (p + 4) ((4 * v1) + v3))]) (st := []) c70_76 (clo Ho) kl65 rfl (Nat.le_of_ble_eq_true rfl) mx65 (Nat.le_refl _) H.2)))))))))))
theorem s70_79 {kc : List va_E} {d : Nat} {p o : Nat} {v1 v3 : Int} {M : fx_M} {Q : Option fx_V → fx_M → Prop} (Hp : fx_puz p) (Ho : fx_out o) (H : wp kc (d + 1) 70 49 [some (jR p), some (jI v1), some (jR o), some (jI (v3 + 1))] [] M Q) : wp kc (d + 1) 70 79 [some (jR p), some (jI v1), some (jR o), some (jI v3)] [] M Q :=
  (x_inc (l' := [some (jR p), some (jI v1), some (jR o), some (jI (v3 + 1))]) c70_79 rfl rfl (x_goto c70_82 (wp_wk (l' := [some (jR p), some (jI v1), some (jR o), some (jI (v3 + 1))]) ⟨rfl, ⟨rfl, ⟨rfl, ⟨rfl, trivial⟩⟩⟩⟩ H)))
theorem s70 {kc : List va_E} {d : Nat} {p o : Nat} {x1 : Int} {M : fx_M} {Q : Option fx_V → fx_M → Prop} (Hp : fx_puz p) (Ho : fx_out o) (H : wc kc d 64 [jR o, jR 1000039] M (fun v M1 => wp kc (d + 1) 70 6 [some (jR p), some (jI x1), some (jR o), none] (v.toList ++ []) M1 Q)) : wc kc (d + 1) 70 [jR p, jI x1, jR o] M Q :=
  wc_of (wp_wk (l' := [some (jR p), some (jI x1), some (jR o), none]) ⟨rfl, ⟨rfl, ⟨rfl, trivial⟩⟩⟩ (s70_0 Hp Ho H))

/- PuzzleHouse$Puzzle.kindName(I)Ljava/lang/String; -/
theorem c71_0 : fx_op 71 0 = some (.iload_n 0, 1, 0) := by decide +kernel
theorem c71_44 : fx_cr 71 44 = some (1000041, 46) := by decide +kernel
theorem c71_47 : fx_cr 71 47 = some (1000043, 49) := by decide +kernel
theorem c71_50 : fx_cr 71 50 = some (1000045, 52) := by decide +kernel
theorem c71_53 : fx_cr 71 53 = some (1000047, 55) := by decide +kernel
theorem c71_56 : fx_cr 71 56 = some (1000049, 58) := by decide +kernel
theorem c71_59 : fx_cr 71 59 = some (1000051, 61) := by decide +kernel
theorem c71_62 : fx_cr 71 62 = some (1000053, 64) := by decide +kernel
theorem c71_65 : fx_cr 71 65 = some (1000055, 67) := by decide +kernel
theorem c71_46 : fx_op 71 46 = some (.areturn, 47, 46) := by decide +kernel
theorem c71_49 : fx_op 71 49 = some (.areturn, 50, 49) := by decide +kernel
theorem c71_52 : fx_op 71 52 = some (.areturn, 53, 52) := by decide +kernel
theorem c71_55 : fx_op 71 55 = some (.areturn, 56, 55) := by decide +kernel
theorem c71_58 : fx_op 71 58 = some (.areturn, 59, 58) := by decide +kernel
theorem c71_61 : fx_op 71 61 = some (.areturn, 62, 61) := by decide +kernel
theorem c71_64 : fx_op 71 64 = some (.areturn, 65, 64) := by decide +kernel
theorem c71_1 : fx_ts 71 1 = some (0, [44, 47, 50, 53, 56, 59, 62], 65) := by decide +kernel
theorem c71_67 : fx_op 71 67 = some (.areturn, 68, 67) := by decide +kernel
theorem s71_0 {kc : List va_E} {d : Nat} {x0 : Int} {M : fx_M} {Q : Option fx_V → fx_M → Prop} (H : fx_in32 x0 ∧ (x0 = 0 → Q (some (jR 1000041)) M) ∧ (x0 = 1 → Q (some (jR 1000043)) M) ∧ (x0 = 2 → Q (some (jR 1000045)) M) ∧ (x0 = 3 → Q (some (jR 1000047)) M) ∧ (x0 = 4 → Q (some (jR 1000049)) M) ∧ (x0 = 5 → Q (some (jR 1000051)) M) ∧ (x0 = 6 → Q (some (jR 1000053)) M) ∧ ((x0 < 0 ∨ 7 ≤ x0) → Q (some (jR 1000055)) M)) : wp kc (d + 1) 71 0 [some (jI x0)] [] M Q :=
  (x_ildn c71_0 rfl (x_sw c71_1 H.1 ⟨fun h1 => (x_cr c71_44 (x_art c71_46 r71 (H.2.1 h1))), ⟨fun h2 => (x_cr c71_47 (x_art c71_49 r71 (H.2.2.1 h2))), ⟨fun h3 => (x_cr c71_50 (x_art c71_52 r71 (H.2.2.2.1 h3))), ⟨fun h4 => (x_cr c71_53 (x_art c71_55 r71 (H.2.2.2.2.1 h4))), ⟨fun h5 => (x_cr c71_56 (x_art c71_58 r71 (H.2.2.2.2.2.1 h5))), ⟨fun h6 => (x_cr c71_59 (x_art c71_61 r71 (H.2.2.2.2.2.2.1 h6))), ⟨fun h7 => (x_cr c71_62 (x_art c71_64 r71 (H.2.2.2.2.2.2.2.1 h7))), trivial⟩⟩⟩⟩⟩⟩⟩ (fun h8 => (x_cr c71_65 (x_art c71_67 r71 (H.2.2.2.2.2.2.2.2 h8))))))
theorem s71 {kc : List va_E} {d : Nat} {x0 : Int} {M : fx_M} {Q : Option fx_V → fx_M → Prop} (H : fx_in32 x0 ∧ (x0 = 0 → Q (some (jR 1000041)) M) ∧ (x0 = 1 → Q (some (jR 1000043)) M) ∧ (x0 = 2 → Q (some (jR 1000045)) M) ∧ (x0 = 3 → Q (some (jR 1000047)) M) ∧ (x0 = 4 → Q (some (jR 1000049)) M) ∧ (x0 = 5 → Q (some (jR 1000051)) M) ∧ (x0 = 6 → Q (some (jR 1000053)) M) ∧ ((x0 < 0 ∨ 7 ≤ x0) → Q (some (jR 1000055)) M)) : wc kc (d + 1) 71 [jI x0] M Q :=
  wc_of (wp_wk (l' := [some (jI x0)]) ⟨rfl, trivial⟩ (s71_0 H))

/- PuzzleHouse$Puzzle.copy(LPuzzleHouse$Puzzle;)V -/
theorem c72_0 : fx_op 72 0 = some (.aload_n 0, 1, 0) := by decide +kernel
theorem c72_1 : fx_op 72 1 = some (.aload_n 1, 2, 1) := by decide +kernel
theorem c72_2 : fx_gf 72 2 = some (3, 0, 5) := by decide +kernel
theorem c72_5 : fx_pf 72 5 = some (3, 0, 0, 8) := by decide +kernel
theorem c72_8 : fx_op 72 8 = some (.aload_n 0, 9, 8) := by decide +kernel
theorem c72_9 : fx_op 72 9 = some (.aload_n 1, 10, 9) := by decide +kernel
theorem c72_10 : fx_gf 72 10 = some (3, 1, 13) := by decide +kernel
theorem c72_13 : fx_pf 72 13 = some (3, 1, 0, 16) := by decide +kernel
theorem c72_16 : fx_op 72 16 = some (.aload_n 0, 17, 16) := by decide +kernel
theorem c72_17 : fx_op 72 17 = some (.aload_n 1, 18, 17) := by decide +kernel
theorem c72_18 : fx_gf 72 18 = some (3, 2, 21) := by decide +kernel
theorem c72_21 : fx_pf 72 21 = some (3, 2, 0, 24) := by decide +kernel
theorem c72_24 : fx_op 72 24 = some (.aload_n 0, 25, 24) := by decide +kernel
theorem c72_25 : fx_op 72 25 = some (.aload_n 1, 26, 25) := by decide +kernel
theorem c72_26 : fx_gf 72 26 = some (3, 3, 29) := by decide +kernel
theorem c72_29 : fx_pf 72 29 = some (3, 3, 0, 32) := by decide +kernel
theorem c72_32 : fx_op 72 32 = some (.aload_n 0, 33, 32) := by decide +kernel
theorem c72_33 : fx_op 72 33 = some (.aload_n 1, 34, 33) := by decide +kernel
theorem c72_34 : fx_gf 72 34 = some (3, 4, 37) := by decide +kernel
theorem c72_37 : fx_pf 72 37 = some (3, 4, 0, 40) := by decide +kernel
theorem c72_40 : fx_op 72 40 = some (.aload_n 0, 41, 40) := by decide +kernel
theorem c72_41 : fx_ci 72 41 = some (0, 42) := by decide +kernel
theorem c72_42 : fx_pf 72 42 = some (3, 12, 0, 45) := by decide +kernel
theorem c72_45 : fx_op 72 45 = some (.aload_n 1, 46, 45) := by decide +kernel
theorem c72_46 : fx_gf 72 46 = some (3, 5, 49) := by decide +kernel
theorem c72_49 : fx_ci 72 49 = some (0, 50) := by decide +kernel
theorem c72_50 : fx_op 72 50 = some (.aload_n 0, 51, 50) := by decide +kernel
theorem c72_51 : fx_gf 72 51 = some (3, 5, 54) := by decide +kernel
theorem c72_54 : fx_ci 72 54 = some (0, 55) := by decide +kernel
theorem c72_55 : fx_ci 72 55 = some (12, 57) := by decide +kernel
theorem c72_60 : fx_op 72 60 = some (.aload_n 1, 61, 60) := by decide +kernel
theorem c72_61 : fx_gf 72 61 = some (3, 6, 64) := by decide +kernel
theorem c72_64 : fx_ci 72 64 = some (0, 65) := by decide +kernel
theorem c72_65 : fx_op 72 65 = some (.aload_n 0, 66, 65) := by decide +kernel
theorem c72_66 : fx_gf 72 66 = some (3, 6, 69) := by decide +kernel
theorem c72_69 : fx_ci 72 69 = some (0, 70) := by decide +kernel
theorem c72_70 : fx_ci 72 70 = some (12, 72) := by decide +kernel
theorem c72_75 : fx_op 72 75 = some (.aload_n 1, 76, 75) := by decide +kernel
theorem c72_76 : fx_gf 72 76 = some (3, 7, 79) := by decide +kernel
theorem c72_79 : fx_ci 72 79 = some (0, 80) := by decide +kernel
theorem c72_80 : fx_op 72 80 = some (.aload_n 0, 81, 80) := by decide +kernel
theorem c72_81 : fx_gf 72 81 = some (3, 7, 84) := by decide +kernel
theorem c72_84 : fx_ci 72 84 = some (0, 85) := by decide +kernel
theorem c72_85 : fx_ci 72 85 = some (12, 87) := by decide +kernel
theorem c72_90 : fx_op 72 90 = some (.aload_n 1, 91, 90) := by decide +kernel
theorem c72_91 : fx_gf 72 91 = some (3, 8, 94) := by decide +kernel
theorem c72_94 : fx_ci 72 94 = some (0, 95) := by decide +kernel
theorem c72_95 : fx_op 72 95 = some (.aload_n 0, 96, 95) := by decide +kernel
theorem c72_96 : fx_gf 72 96 = some (3, 8, 99) := by decide +kernel
theorem c72_99 : fx_ci 72 99 = some (0, 100) := by decide +kernel
theorem c72_100 : fx_ci 72 100 = some (48, 102) := by decide +kernel
theorem c72_105 : fx_op 72 105 = some (.aload_n 1, 106, 105) := by decide +kernel
theorem c72_106 : fx_gf 72 106 = some (3, 9, 109) := by decide +kernel
theorem c72_109 : fx_ci 72 109 = some (0, 110) := by decide +kernel
theorem c72_110 : fx_op 72 110 = some (.aload_n 0, 111, 110) := by decide +kernel
theorem c72_111 : fx_gf 72 111 = some (3, 9, 114) := by decide +kernel
theorem c72_114 : fx_ci 72 114 = some (0, 115) := by decide +kernel
theorem c72_115 : fx_ci 72 115 = some (12, 117) := by decide +kernel
theorem c72_120 : fx_op 72 120 = some (.aload_n 1, 121, 120) := by decide +kernel
theorem c72_121 : fx_gf 72 121 = some (3, 10, 124) := by decide +kernel
theorem c72_124 : fx_ci 72 124 = some (0, 125) := by decide +kernel
theorem c72_125 : fx_op 72 125 = some (.aload_n 0, 126, 125) := by decide +kernel
theorem c72_126 : fx_gf 72 126 = some (3, 10, 129) := by decide +kernel
theorem c72_129 : fx_ci 72 129 = some (0, 130) := by decide +kernel
theorem c72_130 : fx_ci 72 130 = some (9, 132) := by decide +kernel
theorem c72_57 : fx_nt 72 57 = some (0, 60) := by decide +kernel
theorem c72_72 : fx_nt 72 72 = some (0, 75) := by decide +kernel
theorem c72_87 : fx_nt 72 87 = some (0, 90) := by decide +kernel
theorem c72_102 : fx_nt 72 102 = some (0, 105) := by decide +kernel
theorem c72_117 : fx_nt 72 117 = some (0, 120) := by decide +kernel
theorem c72_132 : fx_nt 72 132 = some (0, 135) := by decide +kernel
theorem c72_135 : fx_op 72 135 = some (.return_, 136, 135) := by decide +kernel
theorem n72_57 : xS 72 ((xI 72 57).getD .nop) = none := by decide +kernel
theorem n72_72 : xS 72 ((xI 72 72).getD .nop) = none := by decide +kernel
theorem n72_87 : xS 72 ((xI 72 87).getD .nop) = none := by decide +kernel
theorem n72_102 : xS 72 ((xI 72 102).getD .nop) = none := by decide +kernel
theorem n72_117 : xS 72 ((xI 72 117).getD .nop) = none := by decide +kernel
theorem n72_132 : xS 72 ((xI 72 132).getD .nop) = none := by decide +kernel
theorem s72_0 {kc : List va_E} {d : Nat} {p q : Nat} {M : fx_M} {Q : Option fx_V → fx_M → Prop} (Hp : fx_puz p) (Hq : fx_puz q) (H : (((0 : Int) ≤ 12 ∧ (0 : Int) ≤ 0 ∧ (0 : Int) ≤ 0 ∧ (0 : Int) + 12 ≤ 12 ∧ (0 : Int) + 12 ≤ 12)) ∧ (((0 : Int) ≤ 12 ∧ (0 : Int) ≤ 0 ∧ (0 : Int) ≤ 0 ∧ (0 : Int) + 12 ≤ 12 ∧ (0 : Int) + 12 ≤ 12)) ∧ (((0 : Int) ≤ 12 ∧ (0 : Int) ≤ 0 ∧ (0 : Int) ≤ 0 ∧ (0 : Int) + 12 ≤ 12 ∧ (0 : Int) + 12 ≤ 12)) ∧ (((0 : Int) ≤ 48 ∧ (0 : Int) ≤ 0 ∧ (0 : Int) ≤ 0 ∧ (0 : Int) + 48 ≤ 48 ∧ (0 : Int) + 48 ≤ 48)) ∧ (((0 : Int) ≤ 12 ∧ (0 : Int) ≤ 0 ∧ (0 : Int) ≤ 0 ∧ (0 : Int) + 12 ≤ 12 ∧ (0 : Int) + 12 ≤ 12)) ∧ (((0 : Int) ≤ 9 ∧ (0 : Int) ≤ 0 ∧ (0 : Int) ≤ 0 ∧ (0 : Int) + 9 ≤ 9 ∧ (0 : Int) + 9 ≤ 9)) ∧ Q none (fx_cpy (fx_cpy (fx_cpy (fx_cpy (fx_cpy (fx_cpy (fx_up (fx_up (fx_up (fx_up (fx_up (fx_up M p 0 (M q 0)) p 1 (M q 1)) p 2 (M q 2)) p 3 (M q 3)) p 4 (M q 4)) p 12 0) (q + 1) 0 (p + 1) 0 12) (q + 2) 0 (p + 2) 0 12) (q + 3) 0 (p + 3) 0 12) (q + 4) 0 (p + 4) 0 48) (q + 5) 0 (p + 5) 0 12) (q + 6) 0 (p + 6) 0 9)) : wp kc (d + 1) 72 0 [some (jR p), some (jR q)] [] M Q :=
  (x_aldn c72_0 rfl (x_aldn c72_1 rfl (x_gfi c72_2 (kp_0 Hq) (x_pfi c72_5 (kp_0 Hp) (x_aldn c72_8 rfl (x_aldn c72_9 rfl (x_gfi c72_10 (kp_1 Hq) (wp_vI (fx_upK (by decide)) (x_pfi c72_13 (kp_1 Hp) (x_aldn c72_16 rfl (x_aldn c72_17 rfl (x_gfi c72_18 (kp_2 Hq) (wp_vI (((fx_upK (by decide)).trans (fx_upK (by decide)))) (x_pfi c72_21 (kp_2 Hp) (x_aldn c72_24 rfl (x_aldn c72_25 rfl (x_gfi c72_26 (kp_3 Hq) (wp_vI (((fx_upK (by decide)).trans ((fx_upK (by decide)).trans (fx_upK (by decide))))) (x_pfi c72_29 (kp_3 Hp) (x_aldn c72_32 rfl (x_aldn c72_33 rfl (x_gfi c72_34 (kp_4 Hq) (wp_vI (((fx_upK (by decide)).trans ((fx_upK (by decide)).trans ((fx_upK (by decide)).trans (fx_upK (by decide)))))) (x_pfi c72_37 (kp_4 Hp) (x_aldn c72_40 rfl (x_ci c72_41 (x_pfi c72_42 (kp_12 Hp) (x_aldn c72_45 rfl (x_gfr c72_46 (kp_5 Hq) (x_ci c72_49 (x_aldn c72_50 rfl (x_gfr c72_51 (kp_5 Hp) (x_ci c72_54 (x_ci c72_55 (x_cpy c72_57 n72_57 (ap_1 Hq) (ap_1 Hp) (by decide) H.1 ⟨(by decide), (by decide)⟩ (Nat.le_of_ble_eq_true rfl) (x_aldn c72_60 rfl (x_gfr c72_61 (kp_6 Hq) (x_ci c72_64 (x_aldn c72_65 rfl (x_gfr c72_66 (kp_6 Hp) (x_ci c72_69 (x_ci c72_70 (x_cpy c72_72 n72_72 (ap_2 Hq) (ap_2 Hp) (by decide) H.2.1 ⟨(by decide), (by decide)⟩ (Nat.le_of_ble_eq_true rfl) (x_aldn c72_75 rfl (x_gfr c72_76 (kp_7 Hq) (x_ci c72_79 (x_aldn c72_80 rfl (x_gfr c72_81 (kp_7 Hp) (x_ci c72_84 (x_ci c72_85 (x_cpy c72_87 n72_87 (ap_3 Hq) (ap_3 Hp) (by decide) H.2.2.1 ⟨(by decide), (by decide)⟩ (Nat.le_of_ble_eq_true rfl) (x_aldn c72_90 rfl (x_gfr c72_91 (kp_8 Hq) (x_ci c72_94 (x_aldn c72_95 rfl (x_gfr c72_96 (kp_8 Hp) (x_ci c72_99 (x_ci c72_100 (x_cpy c72_102 n72_102 (ap_4 Hq) (ap_4 Hp) (by decide) H.2.2.2.1 ⟨(by decide), (by decide)⟩ (Nat.le_of_ble_eq_true rfl) (x_aldn c72_105 rfl (x_gfr c72_106 (kp_9 Hq) (x_ci c72_109 (x_aldn c72_110 rfl (x_gfr c72_111 (kp_9 Hp) (x_ci c72_114 (x_ci c72_115 (x_cpy c72_117 n72_117 (ap_5 Hq) (ap_5 Hp) (by decide) H.2.2.2.2.1 ⟨(by decide), (by decide)⟩ (Nat.le_of_ble_eq_true rfl) (x_aldn c72_120 rfl (x_gfr c72_121 (kp_10 Hq) (x_ci c72_124 (x_aldn c72_125 rfl (x_gfr c72_126 (kp_10 Hp) (x_ci c72_129 (x_ci c72_130 (x_cpy c72_132 n72_132 (ap_6 Hq) (ap_6 Hp) (by decide) H.2.2.2.2.2.1 ⟨(by decide), (by decide)⟩ (Nat.le_of_ble_eq_true rfl) (x_vr c72_135 r72 H.2.2.2.2.2.2))))))))))))))))))))))))))))))))))))))))))))))))))))))))))))))))))))))))))))
theorem s72 {kc : List va_E} {d : Nat} {p q : Nat} {M : fx_M} {Q : Option fx_V → fx_M → Prop} (Hp : fx_puz p) (Hq : fx_puz q) (H : (((0 : Int) ≤ 12 ∧ (0 : Int) ≤ 0 ∧ (0 : Int) ≤ 0 ∧ (0 : Int) + 12 ≤ 12 ∧ (0 : Int) + 12 ≤ 12)) ∧ (((0 : Int) ≤ 12 ∧ (0 : Int) ≤ 0 ∧ (0 : Int) ≤ 0 ∧ (0 : Int) + 12 ≤ 12 ∧ (0 : Int) + 12 ≤ 12)) ∧ (((0 : Int) ≤ 12 ∧ (0 : Int) ≤ 0 ∧ (0 : Int) ≤ 0 ∧ (0 : Int) + 12 ≤ 12 ∧ (0 : Int) + 12 ≤ 12)) ∧ (((0 : Int) ≤ 48 ∧ (0 : Int) ≤ 0 ∧ (0 : Int) ≤ 0 ∧ (0 : Int) + 48 ≤ 48 ∧ (0 : Int) + 48 ≤ 48)) ∧ (((0 : Int) ≤ 12 ∧ (0 : Int) ≤ 0 ∧ (0 : Int) ≤ 0 ∧ (0 : Int) + 12 ≤ 12 ∧ (0 : Int) + 12 ≤ 12)) ∧ (((0 : Int) ≤ 9 ∧ (0 : Int) ≤ 0 ∧ (0 : Int) ≤ 0 ∧ (0 : Int) + 9 ≤ 9 ∧ (0 : Int) + 9 ≤ 9)) ∧ Q none (fx_cpy (fx_cpy (fx_cpy (fx_cpy (fx_cpy (fx_cpy (fx_up (fx_up (fx_up (fx_up (fx_up (fx_up M p 0 (M q 0)) p 1 (M q 1)) p 2 (M q 2)) p 3 (M q 3)) p 4 (M q 4)) p 12 0) (q + 1) 0 (p + 1) 0 12) (q + 2) 0 (p + 2) 0 12) (q + 3) 0 (p + 3) 0 12) (q + 4) 0 (p + 4) 0 48) (q + 5) 0 (p + 5) 0 12) (q + 6) 0 (p + 6) 0 9)) : wc kc (d + 1) 72 [jR p, jR q] M Q :=
  wc_of (wp_wk (l' := [some (jR p), some (jR q)]) ⟨rfl, ⟨rfl, trivial⟩⟩ (s72_0 Hp Hq H))

/- PuzzleHouse$Puzzle.learn()V -/
theorem c75_0 : fx_op 75 0 = some (.aload_n 0, 1, 0) := by decide +kernel
theorem c75_1 : fx_gf 75 1 = some (3, 12, 4) := by decide +kernel
theorem c75_4 : fx_op 75 4 = some (.istore_n 1, 5, 4) := by decide +kernel
theorem c75_5 : fx_op 75 5 = some (.iload_n 1, 6, 5) := by decide +kernel
theorem c75_6 : fx_op 75 6 = some (.aload_n 0, 7, 6) := by decide +kernel
theorem c75_7 : fx_gf 75 7 = some (3, 4, 10) := by decide +kernel
theorem c75_10 : fx_op 75 10 = some (.if_icmp .ge 107, 13, 117) := by decide +kernel
theorem c75_13 : fx_op 75 13 = some (.aload_n 0, 14, 13) := by decide +kernel
theorem c75_14 : fx_gf 75 14 = some (3, 5, 17) := by decide +kernel
theorem c75_17 : fx_op 75 17 = some (.iload_n 1, 18, 17) := by decide +kernel
theorem c75_18 : fx_op 75 18 = some (.iaload, 19, 18) := by decide +kernel
theorem c75_19 : fx_ci 75 19 = some (3, 20) := by decide +kernel
theorem c75_20 : fx_op 75 20 = some (.if_icmp .ne 11, 23, 31) := by decide +kernel
theorem c75_31 : fx_ci 75 31 = some (0, 32) := by decide +kernel
theorem c75_32 : fx_op 75 32 = some (.istore_n 2, 33, 32) := by decide +kernel
theorem c75_33 : fx_ci 75 33 = some (0, 34) := by decide +kernel
theorem c75_34 : fx_op 75 34 = some (.istore_n 3, 35, 34) := by decide +kernel
theorem c75_117 : fx_op 75 117 = some (.aload_n 0, 118, 117) := by decide +kernel
theorem c75_118 : fx_op 75 118 = some (.aload_n 0, 119, 118) := by decide +kernel
theorem c75_119 : fx_gf 75 119 = some (3, 4, 122) := by decide +kernel
theorem c75_122 : fx_pf 75 122 = some (3, 12, 0, 125) := by decide +kernel
theorem c75_23 : fx_op 75 23 = some (.aload_n 0, 24, 23) := by decide +kernel
theorem c75_24 : fx_op 75 24 = some (.iload_n 1, 25, 24) := by decide +kernel
theorem c75_125 : fx_op 75 125 = some (.return_, 126, 125) := by decide +kernel
theorem c75_25 : fx_ca 75 25 = some (76, 2, 2, 28) := by decide +kernel
theorem c75_35 : fx_op 75 35 = some (.iload_n 3, 36, 35) := by decide +kernel
theorem c75_36 : fx_ci 75 36 = some (4, 37) := by decide +kernel
theorem c75_37 : fx_op 75 37 = some (.if_icmp .ge 20, 40, 57) := by decide +kernel
theorem c75_40 : fx_op 75 40 = some (.aload_n 0, 41, 40) := by decide +kernel
theorem c75_41 : fx_gf 75 41 = some (3, 11, 44) := by decide +kernel
theorem c75_44 : fx_ci 75 44 = some (4, 45) := by decide +kernel
theorem c75_45 : fx_op 75 45 = some (.iload_n 1, 46, 45) := by decide +kernel
theorem c75_46 : fx_op 75 46 = some (.imul, 47, 46) := by decide +kernel
theorem c75_47 : fx_op 75 47 = some (.iload_n 3, 48, 47) := by decide +kernel
theorem c75_48 : fx_op 75 48 = some (.iadd, 49, 48) := by decide +kernel
theorem c75_49 : fx_cj 75 49 = some (0, 50) := by decide +kernel
theorem c75_57 : fx_ci 75 57 = some (0, 58) := by decide +kernel
theorem c75_58 : fx_op 75 58 = some (.istore_n 3, 59, 58) := by decide +kernel
theorem c75_51 : fx_op 75 51 = some (.iinc 3 1, 54, 51) := by decide +kernel
theorem c75_50 : fx_op 75 50 = some (.lastore, 51, 50) := by decide +kernel
theorem c75_54 : fx_op 75 54 = some (.goto (-19), 57, 35) := by decide +kernel
theorem c75_28 : fx_op 75 28 = some (.goto 4, 31, 32) := by decide +kernel
theorem c75_59 : fx_op 75 59 = some (.iload_n 3, 60, 59) := by decide +kernel
theorem c75_60 : fx_ci 75 60 = some (1, 61) := by decide +kernel
theorem c75_61 : fx_ci 75 61 = some (2, 62) := by decide +kernel
theorem c75_62 : fx_op 75 62 = some (.aload_n 0, 63, 62) := by decide +kernel
theorem c75_63 : fx_gf 75 63 = some (3, 7, 66) := by decide +kernel
theorem c75_66 : fx_op 75 66 = some (.iload_n 1, 67, 66) := by decide +kernel
theorem c75_68 : fx_op 75 68 = some (.imul, 69, 68) := by decide +kernel
theorem c75_69 : fx_op 75 69 = some (.ishl, 70, 69) := by decide +kernel
theorem c75_70 : fx_op 75 70 = some (.if_icmp .ge 41, 73, 111) := by decide +kernel
theorem c75_73 : fx_op 75 73 = some (.aload_n 0, 74, 73) := by decide +kernel
theorem c75_74 : fx_op 75 74 = some (.iload_n 1, 75, 74) := by decide +kernel
theorem c75_75 : fx_op 75 75 = some (.iload_n 3, 76, 75) := by decide +kernel
theorem c75_76 : fx_op 75 76 = some (.iload_n 2, 77, 76) := by decide +kernel
theorem c75_111 : fx_op 75 111 = some (.iinc 1 1, 114, 111) := by decide +kernel
theorem c75_67 : fx_op 75 67 = some (.iaload, 68, 67) := by decide +kernel
theorem c75_114 : fx_op 75 114 = some (.goto (-109), 117, 5) := by decide +kernel
theorem c75_77 : fx_ca 75 77 = some (78, 4, 2, 80) := by decide +kernel
theorem c75_80 : fx_op 75 80 = some (.ifCond .eq 25, 83, 105) := by decide +kernel
theorem c75_83 : fx_op 75 83 = some (.aload_n 0, 84, 83) := by decide +kernel
theorem c75_84 : fx_gf 75 84 = some (3, 11, 87) := by decide +kernel
theorem c75_87 : fx_ci 75 87 = some (4, 88) := by decide +kernel
theorem c75_88 : fx_op 75 88 = some (.iload_n 1, 89, 88) := by decide +kernel
theorem c75_89 : fx_op 75 89 = some (.imul, 90, 89) := by decide +kernel
theorem c75_90 : fx_op 75 90 = some (.iload_n 3, 91, 90) := by decide +kernel
theorem c75_91 : fx_ci 75 91 = some (6, 93) := by decide +kernel
theorem c75_93 : fx_op 75 93 = some (.ishr, 94, 93) := by decide +kernel
theorem c75_94 : fx_op 75 94 = some (.iadd, 95, 94) := by decide +kernel
theorem c75_95 : fx_op 75 95 = some (.dup2, 96, 95) := by decide +kernel
theorem c75_96 : fx_op 75 96 = some (.laload, 97, 96) := by decide +kernel
theorem c75_97 : fx_cj 75 97 = some (1, 98) := by decide +kernel
theorem c75_98 : fx_op 75 98 = some (.iload_n 3, 99, 98) := by decide +kernel
theorem c75_99 : fx_ci 75 99 = some (63, 101) := by decide +kernel
theorem c75_101 : fx_op 75 101 = some (.iand, 102, 101) := by decide +kernel
theorem c75_102 : fx_op 75 102 = some (.lshl, 103, 102) := by decide +kernel
theorem c75_103 : fx_op 75 103 = some (.lor, 104, 103) := by decide +kernel
theorem c75_105 : fx_op 75 105 = some (.iinc 3 1, 108, 105) := by decide +kernel
theorem c75_108 : fx_op 75 108 = some (.goto (-49), 111, 59) := by decide +kernel
theorem c75_104 : fx_op 75 104 = some (.lastore, 105, 104) := by decide +kernel
theorem s75_0 {kc : List va_E} {d : Nat} {p : Nat} {M : fx_M} {Q : Option fx_V → fx_M → Prop} (Hp : fx_puz p) (H : wp kc (d + 1) 75 5 [some (jR p), some (jI (M p 12)), none, none] [] M Q) : wp kc (d + 1) 75 0 [some (jR p), none, none, none] [] M Q :=
  (x_aldn c75_0 rfl (x_gfi c75_1 (kp_12 Hp) (x_istn (l' := [some (jR p), some (jI (M p 12)), none, none]) c75_4 rfl (wp_wk (l' := [some (jR p), some (jI (M p 12)), none, none]) ⟨rfl, ⟨rfl, trivial⟩⟩ H))))
theorem s75_5 {kc : List va_E} {d : Nat} {p : Nat} {v1 : Int} {M : fx_M} {Q : Option fx_V → fx_M → Prop} (Hp : fx_puz p) (H : ((fx_in32 v1) ∧ (fx_in32 (M p 4))) ∧ (M p 4 ≤ v1 → Q none (fx_up M p 12 (M p 4))) ∧ (v1 < M p 4 → (((0 : Int) ≤ v1 ∧ v1 < 12)) ∧ ((fx_in32 (M (p + 1) v1))) ∧ (M (p + 1) v1 ≠ 3 → wp kc (d + 1) 75 35 [some (jR p), some (jI v1), some (jI 0), some (jI 0)] [] M Q) ∧ (M (p + 1) v1 = 3 → wc kc d 76 [jR p, jI v1] M (fun v M1 => wp kc (d + 1) 75 28 [some (jR p), some (jI v1), none, none] (v.toList ++ []) M1 Q)))) : wp kc (d + 1) 75 5 [some (jR p), some (jI v1), none, none] [] M Q :=
  (x_ildn c75_5 rfl (x_aldn c75_6 rfl (x_gfi c75_7 (kp_4 Hp) (x_cge c75_10 H.1.1 H.1.2 (fun h3 => (x_aldn c75_117 rfl (x_aldn c75_118 rfl (x_gfi c75_119 (kp_4 Hp) (x_pfi c75_122 (kp_12 Hp) (x_vr c75_125 r75 (H.2.1 h3))))))) (fun h4 => (x_aldn c75_13 rfl (x_gfr c75_14 (kp_5 Hp) (x_ildn c75_17 rfl (x_iald c75_18 (ap_1 Hp) (H.2.2 h4).1 (by decide) (x_ci c75_19 (x_cne c75_20 (H.2.2 h4).2.1 (by decide) (fun h1 => (x_ci c75_31 (x_istn (l' := [some (jR p), some (jI v1), some (jI 0), none]) c75_32 rfl (x_ci c75_33 (x_istn (l' := [some (jR p), some (jI v1), some (jI 0), some (jI 0)]) c75_34 rfl (wp_wk (l' := [some (jR p), some (jI v1), some (jI 0), some (jI 0)]) ⟨rfl, ⟨rfl, ⟨rfl, ⟨rfl, trivial⟩⟩⟩⟩ ((H.2.2 h4).2.2.1 h1))))))) (fun h2 => (x_aldn c75_23 rfl (x_ildn c75_24 rfl (wp_wk (l' := [some (jR p), some (jI v1), none, none]) ⟨rfl, ⟨rfl, trivial⟩⟩ (x_cv (As := [jI v1]) (st := []) c75_25 (clp Hp) kl76 rfl (Nat.le_of_ble_eq_true rfl) mx76 (Nat.le_refl _) ((H.2.2 h4).2.2.2 h2)))))))))))))))))
theorem s75_28 {kc : List va_E} {d : Nat} {p : Nat} {v1 u0 : Int} {M : fx_M} {Q : Option fx_V → fx_M → Prop} (Hp : fx_puz p) (H : wp kc (d + 1) 75 35 [some (jR p), some (jI v1), some (jI u0), some (jI 0)] [] M Q) : wp kc (d + 1) 75 28 [some (jR p), some (jI v1), none, none] [jI u0] M Q :=
  (x_goto c75_28 (x_istn (l' := [some (jR p), some (jI v1), some (jI u0), none]) c75_32 rfl (x_ci c75_33 (x_istn (l' := [some (jR p), some (jI v1), some (jI u0), some (jI 0)]) c75_34 rfl (wp_wk (l' := [some (jR p), some (jI v1), some (jI u0), some (jI 0)]) ⟨rfl, ⟨rfl, ⟨rfl, ⟨rfl, trivial⟩⟩⟩⟩ H)))))
theorem s75_35 {kc : List va_E} {d : Nat} {p : Nat} {v1 v2 v3 : Int} {M : fx_M} {Q : Option fx_V → fx_M → Prop} (Hp : fx_puz p) (H : ((fx_in32 v3)) ∧ (4 ≤ v3 → wp kc (d + 1) 75 59 [some (jR p), some (jI v1), some (jI v2), some (jI 0)] [] M Q) ∧ (v3 < 4 → (((0 : Int) ≤ (4 * v1) + v3 ∧ (4 * v1) + v3 < 48)) ∧ wp kc (d + 1) 75 35 [some (jR p), some (jI v1), some (jI v2), some (jI (v3 + 1))] [] (fx_up M (p + 7) ((4 * v1) + v3) 0) Q)) : wp kc (d + 1) 75 35 [some (jR p), some (jI v1), some (jI v2), some (jI v3)] [] M Q :=
  (x_ildn c75_35 rfl (x_ci c75_36 (x_cge c75_37 H.1 (by decide) (fun h1 => (x_ci c75_57 (x_istn (l' := [some (jR p), some (jI v1), some (jI v2), some (jI 0)]) c75_58 rfl (wp_wk (l' := [some (jR p), some (jI v1), some (jI v2), some (jI 0)]) ⟨rfl, ⟨rfl, ⟨rfl, ⟨rfl, trivial⟩⟩⟩⟩ (H.2.1 h1))))) (fun h2 => (x_aldn c75_40 rfl (x_gfr c75_41 (kp_11 Hp) (x_ci c75_44 (x_ildn c75_45 rfl (x_imul c75_46 (x_ildn c75_47 rfl (x_iadd c75_48 (x_cj c75_49 (x_last c75_50 (ap_7 Hp) (H.2.2 h2).1 (by decide) (x_inc (l' := [some (jR p), some (jI v1), some (jI v2), some (jI (v3 + 1))]) c75_51 rfl rfl (x_goto c75_54 (wp_wk (l' := [some (jR p), some (jI v1), some (jI v2), some (jI (v3 + 1))]) ⟨rfl, ⟨rfl, ⟨rfl, ⟨rfl, trivial⟩⟩⟩⟩ (H.2.2 h2).2))))))))))))))))
theorem s75_59 {kc : List va_E} {d : Nat} {p : Nat} {v1 v2 v3 : Int} {M : fx_M} {Q : Option fx_V → fx_M → Prop} (Hp : fx_puz p) (H : (((0 : Int) ≤ v1 ∧ v1 < 12)) ∧ ((fx_in32 v3) ∧ (fx_in32 (fx_shl 1 (2 * (M (p + 3) v1))))) ∧ (fx_shl 1 (2 * (M (p + 3) v1)) ≤ v3 → wp kc (d + 1) 75 5 [some (jR p), some (jI (v1 + 1)), none, none] [] M Q) ∧ (v3 < fx_shl 1 (2 * (M (p + 3) v1)) → wc kc d 78 [jR p, jI v1, jI v3, jI v2] M (fun v M1 => wp kc (d + 1) 75 80 [some (jR p), some (jI v1), some (jI v2), some (jI v3)] (v.toList ++ []) M1 Q))) : wp kc (d + 1) 75 59 [some (jR p), some (jI v1), some (jI v2), some (jI v3)] [] M Q :=
  (x_ildn c75_59 rfl (x_ci c75_60 (x_ci c75_61 (x_aldn c75_62 rfl (x_gfr c75_63 (kp_7 Hp) (x_ildn c75_66 rfl (x_iald c75_67 (ap_3 Hp) H.1 (by decide) (x_imul c75_68 (x_ishl c75_69 (x_cge c75_70 H.2.1.1 H.2.1.2 (fun h1 => (x_inc (l' := [some (jR p), some (jI (v1 + 1)), some (jI v2), some (jI v3)]) c75_111 rfl rfl (x_goto c75_114 (wp_wk (l' := [some (jR p), some (jI (v1 + 1)), none, none]) ⟨rfl, ⟨rfl, trivial⟩⟩ (H.2.2.1 h1))))) (fun h2 => (x_aldn c75_73 rfl (x_ildn c75_74 rfl (x_ildn c75_75 rfl (x_ildn c75_76 rfl (wp_wk (l' := [some (jR p), some (jI v1), some (jI v2), some (jI v3)]) ⟨rfl, ⟨rfl, ⟨rfl, ⟨rfl, trivial⟩⟩⟩⟩ (x_cv (As := [jI v1, jI v3, jI v2]) (st := []) c75_77 (clp Hp) kl78 rfl (Nat.le_of_ble_eq_true rfl) mx78 (Nat.le_refl _) (H.2.2.2 h2))))))))))))))))))
theorem s75_80 {kc : List va_E} {d : Nat} {p : Nat} {v1 v2 v3 u0 : Int} {M : fx_M} {Q : Option fx_V → fx_M → Prop} (Hp : fx_puz p) (H : ((fx_in32 u0)) ∧ (u0 = 0 → wp kc (d + 1) 75 59 [some (jR p), some (jI v1), some (jI v2), some (jI (v3 + 1))] [] M Q) ∧ (u0 ≠ 0 → (((0 : Int) ≤ (4 * v1) + (fx_shr v3 6) ∧ (4 * v1) + (fx_shr v3 6) < 48)) ∧ (((0 : Int) ≤ (4 * v1) + (fx_shr v3 6) ∧ (4 * v1) + (fx_shr v3 6) < 48)) ∧ wp kc (d + 1) 75 59 [some (jR p), some (jI v1), some (jI v2), some (jI (v3 + 1))] [] (fx_up M (p + 7) ((4 * v1) + (fx_shr v3 6)) (fx_lor (M (p + 7) ((4 * v1) + (fx_shr v3 6))) (fx_lshl 1 (fx_and v3 63)))) Q)) : wp kc (d + 1) 75 80 [some (jR p), some (jI v1), some (jI v2), some (jI v3)] [jI u0] M Q :=
  (x_zeq c75_80 H.1 (fun h1 => (x_inc (l' := [some (jR p), some (jI v1), some (jI v2), some (jI (v3 + 1))]) c75_105 rfl rfl (x_goto c75_108 (wp_wk (l' := [some (jR p), some (jI v1), some (jI v2), some (jI (v3 + 1))]) ⟨rfl, ⟨rfl, ⟨rfl, ⟨rfl, trivial⟩⟩⟩⟩ (H.2.1 h1))))) (fun h2 => (x_aldn c75_83 rfl (x_gfr c75_84 (kp_11 Hp) (x_ci c75_87 (x_ildn c75_88 rfl (x_imul c75_89 (x_ildn c75_90 rfl (x_ci c75_91 (x_ishr c75_93 (x_iadd c75_94 (x_dup2 c75_95 (x_lald c75_96 (ap_7 Hp) (H.2.2 h2).1 (by decide) (x_cj c75_97 (x_ildn c75_98 rfl (x_ci c75_99 (x_iand c75_101 (x_lshl c75_102 (x_lor c75_103 (x_last c75_104 (ap_7 Hp) (H.2.2 h2).2.1 (by decide) (x_inc (l' := [some (jR p), some (jI v1), some (jI v2), some (jI (v3 + 1))]) c75_105 rfl rfl (x_goto c75_108 (wp_wk (l' := [some (jR p), some (jI v1), some (jI v2), some (jI (v3 + 1))]) ⟨rfl, ⟨rfl, ⟨rfl, ⟨rfl, trivial⟩⟩⟩⟩ (H.2.2 h2).2.2)))))))))))))))))))))))
theorem s75 {kc : List va_E} {d : Nat} {p : Nat} {M : fx_M} {Q : Option fx_V → fx_M → Prop} (Hp : fx_puz p) (H : wp kc (d + 1) 75 5 [some (jR p), some (jI (M p 12)), none, none] [] M Q) : wc kc (d + 1) 75 [jR p] M Q :=
  wc_of (wp_wk (l' := [some (jR p), none, none, none]) ⟨rfl, trivial⟩ (s75_0 Hp H))

/- PuzzleHouse$Puzzle.hanging(I)I -/
theorem c76_0 : fx_ci 76 0 = some (0, 1) := by decide +kernel
theorem c76_1 : fx_op 76 1 = some (.istore_n 2, 2, 1) := by decide +kernel
theorem c76_2 : fx_op 76 2 = some (.iload_n 2, 3, 2) := by decide +kernel
theorem c76_3 : fx_ci 76 3 = some (4, 4) := by decide +kernel
theorem c76_4 : fx_op 76 4 = some (.if_icmp .ge 125, 7, 129) := by decide +kernel
theorem c76_7 : fx_op 76 7 = some (.aload_n 0, 8, 7) := by decide +kernel
theorem c76_8 : fx_gf 76 8 = some (3, 13, 11) := by decide +kernel
theorem c76_11 : fx_op 76 11 = some (.iload_n 2, 12, 11) := by decide +kernel
theorem c76_12 : fx_ci 76 12 = some (0, 13) := by decide +kernel
theorem c76_129 : fx_ci 76 129 = some (0, 130) := by decide +kernel
theorem c76_130 : fx_op 76 130 = some (.istore_n 2, 131, 130) := by decide +kernel
theorem c76_131 : fx_ci 76 131 = some (0, 132) := by decide +kernel
theorem c76_132 : fx_op 76 132 = some (.istore_n 3, 133, 132) := by decide +kernel
theorem c76_14 : fx_ci 76 14 = some (0, 15) := by decide +kernel
theorem c76_15 : fx_op 76 15 = some (.istore_n 3, 16, 15) := by decide +kernel
theorem c76_13 : fx_op 76 13 = some (.iastore, 14, 13) := by decide +kernel
theorem c76_133 : fx_op 76 133 = some (.iload_n 3, 134, 133) := by decide +kernel
theorem c76_134 : fx_ci 76 134 = some (16, 136) := by decide +kernel
theorem c76_136 : fx_op 76 136 = some (.if_icmp .ge 89, 139, 225) := by decide +kernel
theorem c76_139 : fx_op 76 139 = some (.iload_n 3, 140, 139) := by decide +kernel
theorem c76_140 : fx_op 76 140 = some (.iload_n 3, 141, 140) := by decide +kernel
theorem c76_141 : fx_op 76 141 = some (.ineg, 142, 141) := by decide +kernel
theorem c76_142 : fx_op 76 142 = some (.iand, 143, 142) := by decide +kernel
theorem c76_143 : fx_op 76 143 = some (.istore 4, 145, 143) := by decide +kernel
theorem c76_145 : fx_ci 76 145 = some (0, 146) := by decide +kernel
theorem c76_146 : fx_op 76 146 = some (.istore 5, 148, 146) := by decide +kernel
theorem c76_225 : fx_op 76 225 = some (.iload_n 2, 226, 225) := by decide +kernel
theorem c76_226 : fx_op 76 226 = some (.ireturn, 227, 226) := by decide +kernel
theorem c76_16 : fx_op 76 16 = some (.iload_n 3, 17, 16) := by decide +kernel
theorem c76_17 : fx_op 76 17 = some (.aload_n 0, 18, 17) := by decide +kernel
theorem c76_18 : fx_gf 76 18 = some (3, 7, 21) := by decide +kernel
theorem c76_21 : fx_op 76 21 = some (.iload_n 1, 22, 21) := by decide +kernel
theorem c76_23 : fx_op 76 23 = some (.if_icmp .ge 100, 26, 123) := by decide +kernel
theorem c76_26 : fx_op 76 26 = some (.iload_n 2, 27, 26) := by decide +kernel
theorem c76_27 : fx_op 76 27 = some (.aload_n 0, 28, 27) := by decide +kernel
theorem c76_28 : fx_gf 76 28 = some (3, 7, 31) := by decide +kernel
theorem c76_31 : fx_op 76 31 = some (.iload_n 1, 32, 31) := by decide +kernel
theorem c76_32 : fx_op 76 32 = some (.iaload, 33, 32) := by decide +kernel
theorem c76_33 : fx_op 76 33 = some (.if_icmp .ge 90, 36, 123) := by decide +kernel
theorem c76_36 : fx_op 76 36 = some (.aload_n 0, 37, 36) := by decide +kernel
theorem c76_37 : fx_gf 76 37 = some (3, 8, 40) := by decide +kernel
theorem c76_40 : fx_ci 76 40 = some (4, 41) := by decide +kernel
theorem c76_41 : fx_op 76 41 = some (.iload_n 1, 42, 41) := by decide +kernel
theorem c76_42 : fx_op 76 42 = some (.imul, 43, 42) := by decide +kernel
theorem c76_43 : fx_op 76 43 = some (.iload_n 2, 44, 43) := by decide +kernel
theorem c76_44 : fx_op 76 44 = some (.iadd, 45, 44) := by decide +kernel
theorem c76_45 : fx_op 76 45 = some (.iaload, 46, 45) := by decide +kernel
theorem c76_46 : fx_op 76 46 = some (.istore 4, 48, 46) := by decide +kernel
theorem c76_48 : fx_op 76 48 = some (.aload_n 0, 49, 48) := by decide +kernel
theorem c76_49 : fx_gf 76 49 = some (3, 8, 52) := by decide +kernel
theorem c76_52 : fx_ci 76 52 = some (4, 53) := by decide +kernel
theorem c76_53 : fx_op 76 53 = some (.iload_n 1, 54, 53) := by decide +kernel
theorem c76_54 : fx_op 76 54 = some (.imul, 55, 54) := by decide +kernel
theorem c76_55 : fx_op 76 55 = some (.iload_n 3, 56, 55) := by decide +kernel
theorem c76_56 : fx_op 76 56 = some (.iadd, 57, 56) := by decide +kernel
theorem c76_57 : fx_op 76 57 = some (.iaload, 58, 57) := by decide +kernel
theorem c76_58 : fx_op 76 58 = some (.istore 5, 60, 58) := by decide +kernel
theorem c76_60 : fx_op 76 60 = some (.aload_n 0, 61, 60) := by decide +kernel
theorem c76_61 : fx_op 76 61 = some (.iload 4, 63, 61) := by decide +kernel
theorem c76_123 : fx_op 76 123 = some (.iinc 2 1, 126, 123) := by decide +kernel
theorem c76_22 : fx_op 76 22 = some (.iaload, 23, 22) := by decide +kernel
theorem c76_126 : fx_op 76 126 = some (.goto (-124), 129, 2) := by decide +kernel
theorem c76_63 : fx_ca 76 63 = some (426, 2, 2, 66) := by decide +kernel
theorem c76_148 : fx_op 76 148 = some (.iload 5, 150, 148) := by decide +kernel
theorem c76_150 : fx_ci 76 150 = some (3, 151) := by decide +kernel
theorem c76_151 : fx_op 76 151 = some (.if_icmp .ge 52, 154, 203) := by decide +kernel
theorem c76_154 : fx_ci 76 154 = some (0, 155) := by decide +kernel
theorem c76_155 : fx_op 76 155 = some (.istore 6, 157, 155) := by decide +kernel
theorem c76_203 : fx_op 76 203 = some (.iload_n 2, 204, 203) := by decide +kernel
theorem c76_204 : fx_op 76 204 = some (.iload 4, 206, 204) := by decide +kernel
theorem c76_206 : fx_op 76 206 = some (.iload_n 3, 207, 206) := by decide +kernel
theorem c76_207 : fx_op 76 207 = some (.if_icmp .ne 9, 210, 216) := by decide +kernel
theorem c76_216 : fx_ci 76 216 = some (0, 217) := by decide +kernel
theorem c76_210 : fx_ci 76 210 = some (1, 211) := by decide +kernel
theorem c76_211 : fx_op 76 211 = some (.iload_n 3, 212, 211) := by decide +kernel
theorem c76_212 : fx_op 76 212 = some (.ishl, 213, 212) := by decide +kernel
theorem c76_213 : fx_op 76 213 = some (.goto 4, 216, 217) := by decide +kernel
theorem c76_217 : fx_op 76 217 = some (.ior, 218, 217) := by decide +kernel
theorem c76_218 : fx_op 76 218 = some (.istore_n 2, 219, 218) := by decide +kernel
theorem c76_219 : fx_op 76 219 = some (.iinc 3 1, 222, 219) := by decide +kernel
theorem c76_222 : fx_op 76 222 = some (.goto (-89), 225, 133) := by decide +kernel
theorem c76_66 : fx_op 76 66 = some (.aload_n 0, 67, 66) := by decide +kernel
theorem c76_67 : fx_op 76 67 = some (.iload 5, 69, 67) := by decide +kernel
theorem c76_69 : fx_ca 76 69 = some (426, 2, 2, 72) := by decide +kernel
theorem c76_157 : fx_op 76 157 = some (.iload 6, 159, 157) := by decide +kernel
theorem c76_159 : fx_ci 76 159 = some (4, 160) := by decide +kernel
theorem c76_160 : fx_op 76 160 = some (.if_icmp .ge 37, 163, 197) := by decide +kernel
theorem c76_163 : fx_op 76 163 = some (.iload 4, 165, 163) := by decide +kernel
theorem c76_165 : fx_op 76 165 = some (.iload 4, 167, 165) := by decide +kernel
theorem c76_167 : fx_op 76 167 = some (.iload 6, 169, 167) := by decide +kernel
theorem c76_169 : fx_op 76 169 = some (.ishr, 170, 169) := by decide +kernel
theorem c76_170 : fx_ci 76 170 = some (1, 171) := by decide +kernel
theorem c76_171 : fx_op 76 171 = some (.iand, 172, 171) := by decide +kernel
theorem c76_172 : fx_op 76 172 = some (.ifCond .eq 15, 175, 187) := by decide +kernel
theorem c76_187 : fx_ci 76 187 = some (0, 188) := by decide +kernel
theorem c76_188 : fx_op 76 188 = some (.ior, 189, 188) := by decide +kernel
theorem c76_189 : fx_op 76 189 = some (.istore 4, 191, 189) := by decide +kernel
theorem c76_191 : fx_op 76 191 = some (.iinc 6 1, 194, 191) := by decide +kernel
theorem c76_197 : fx_op 76 197 = some (.iinc 5 1, 200, 197) := by decide +kernel
theorem c76_175 : fx_op 76 175 = some (.aload_n 0, 176, 175) := by decide +kernel
theorem c76_176 : fx_gf 76 176 = some (3, 13, 179) := by decide +kernel
theorem c76_179 : fx_op 76 179 = some (.iload 6, 181, 179) := by decide +kernel
theorem c76_181 : fx_op 76 181 = some (.iaload, 182, 181) := by decide +kernel
theorem c76_182 : fx_op 76 182 = some (.iload_n 3, 183, 182) := by decide +kernel
theorem c76_183 : fx_op 76 183 = some (.iand, 184, 183) := by decide +kernel
theorem c76_184 : fx_op 76 184 = some (.goto 4, 187, 188) := by decide +kernel
theorem c76_200 : fx_op 76 200 = some (.goto (-52), 203, 148) := by decide +kernel
theorem c76_194 : fx_op 76 194 = some (.goto (-37), 197, 157) := by decide +kernel
theorem c76_72 : fx_op 76 72 = some (.isub, 73, 72) := by decide +kernel
theorem c76_76 : fx_op 76 76 = some (.aload_n 0, 77, 76) := by decide +kernel
theorem c76_77 : fx_op 76 77 = some (.iload 4, 79, 77) := by decide +kernel
theorem c76_73 : fx_nt 76 73 = some (3, 76) := by decide +kernel
theorem c76_79 : fx_ca 76 79 = some (427, 2, 2, 82) := by decide +kernel
theorem c76_82 : fx_op 76 82 = some (.aload_n 0, 83, 82) := by decide +kernel
theorem c76_83 : fx_op 76 83 = some (.iload 5, 85, 83) := by decide +kernel
theorem c76_85 : fx_ca 76 85 = some (427, 2, 2, 88) := by decide +kernel
theorem c76_88 : fx_op 76 88 = some (.isub, 89, 88) := by decide +kernel
theorem c76_92 : fx_op 76 92 = some (.iadd, 93, 92) := by decide +kernel
theorem c76_93 : fx_op 76 93 = some (.istore 6, 95, 93) := by decide +kernel
theorem c76_95 : fx_op 76 95 = some (.aload_n 0, 96, 95) := by decide +kernel
theorem c76_96 : fx_gf 76 96 = some (3, 13, 99) := by decide +kernel
theorem c76_99 : fx_op 76 99 = some (.iload_n 2, 100, 99) := by decide +kernel
theorem c76_100 : fx_op 76 100 = some (.dup2, 101, 100) := by decide +kernel
theorem c76_102 : fx_op 76 102 = some (.iload 6, 104, 102) := by decide +kernel
theorem c76_104 : fx_ci 76 104 = some (1, 105) := by decide +kernel
theorem c76_105 : fx_op 76 105 = some (.if_icmp .ne 9, 108, 114) := by decide +kernel
theorem c76_114 : fx_ci 76 114 = some (0, 115) := by decide +kernel
theorem c76_108 : fx_ci 76 108 = some (1, 109) := by decide +kernel
theorem c76_109 : fx_op 76 109 = some (.iload_n 3, 110, 109) := by decide +kernel
theorem c76_110 : fx_op 76 110 = some (.ishl, 111, 110) := by decide +kernel
theorem c76_111 : fx_op 76 111 = some (.goto 4, 114, 115) := by decide +kernel
theorem c76_115 : fx_op 76 115 = some (.ior, 116, 115) := by decide +kernel
theorem c76_117 : fx_op 76 117 = some (.iinc 3 1, 120, 117) := by decide +kernel
theorem c76_89 : fx_nt 76 89 = some (3, 92) := by decide +kernel
theorem c76_101 : fx_op 76 101 = some (.iaload, 102, 101) := by decide +kernel
theorem c76_116 : fx_op 76 116 = some (.iastore, 117, 116) := by decide +kernel
theorem c76_120 : fx_op 76 120 = some (.goto (-104), 123, 16) := by decide +kernel
theorem n76_73 : xS 76 ((xI 76 73).getD .nop) = none := by decide +kernel
theorem n76_89 : xS 76 ((xI 76 89).getD .nop) = none := by decide +kernel
theorem s76_0 {kc : List va_E} {d : Nat} {p : Nat} {x1 : Int} {M : fx_M} {Q : Option fx_V → fx_M → Prop} (Hp : fx_puz p) (H : wp kc (d + 1) 76 2 [some (jR p), some (jI x1), some (jI 0), none, none, none, none] [] M Q) : wp kc (d + 1) 76 0 [some (jR p), some (jI x1), none, none, none, none, none] [] M Q :=
  (x_ci c76_0 (x_istn (l' := [some (jR p), some (jI x1), some (jI 0), none, none, none, none]) c76_1 rfl (wp_wk (l' := [some (jR p), some (jI x1), some (jI 0), none, none, none, none]) ⟨rfl, ⟨rfl, ⟨rfl, trivial⟩⟩⟩ H)))
theorem s76_2 {kc : List va_E} {d : Nat} {p : Nat} {v1 v2 : Int} {M : fx_M} {Q : Option fx_V → fx_M → Prop} (Hp : fx_puz p) (H : ((fx_in32 v2)) ∧ (4 ≤ v2 → wp kc (d + 1) 76 133 [some (jR p), none, some (jI 0), some (jI 0), none, none, none] [] M Q) ∧ (v2 < 4 → (((0 : Int) ≤ v2 ∧ v2 < 4)) ∧ wp kc (d + 1) 76 16 [some (jR p), some (jI v1), some (jI v2), some (jI 0), none, none, none] [] (fx_up M (p + 8) v2 0) Q)) : wp kc (d + 1) 76 2 [some (jR p), some (jI v1), some (jI v2), none, none, none, none] [] M Q :=
  (x_ildn c76_2 rfl (x_ci c76_3 (x_cge c76_4 H.1 (by decide) (fun h1 => (x_ci c76_129 (x_istn (l' := [some (jR p), some (jI v1), some (jI 0), none, none, none, none]) c76_130 rfl (x_ci c76_131 (x_istn (l' := [some (jR p), some (jI v1), some (jI 0), some (jI 0), none, none, none]) c76_132 rfl (wp_wk (l' := [some (jR p), none, some (jI 0), some (jI 0), none, none, none]) ⟨rfl, ⟨rfl, ⟨rfl, trivial⟩⟩⟩ (H.2.1 h1))))))) (fun h2 => (x_aldn c76_7 rfl (x_gfr c76_8 (kp_13 Hp) (x_ildn c76_11 rfl (x_ci c76_12 (x_iast c76_13 (ap_8 Hp) (H.2.2 h2).1 (by decide) (x_ci c76_14 (x_istn (l' := [some (jR p), some (jI v1), some (jI v2), some (jI 0), none, none, none]) c76_15 rfl (wp_wk (l' := [some (jR p), some (jI v1), some (jI v2), some (jI 0), none, none, none]) ⟨rfl, ⟨rfl, ⟨rfl, ⟨rfl, trivial⟩⟩⟩⟩ (H.2.2 h2).2))))))))))))
theorem s76_16 {kc : List va_E} {d : Nat} {p : Nat} {v1 v2 v3 : Int} {M : fx_M} {Q : Option fx_V → fx_M → Prop} (Hp : fx_puz p) (H : (((0 : Int) ≤ v1 ∧ v1 < 12)) ∧ ((fx_in32 v3) ∧ (fx_in32 (M (p + 3) v1))) ∧ (M (p + 3) v1 ≤ v3 → wp kc (d + 1) 76 2 [some (jR p), some (jI v1), some (jI (v2 + 1)), none, none, none, none] [] M Q) ∧ (v3 < M (p + 3) v1 → (((0 : Int) ≤ v1 ∧ v1 < 12)) ∧ ((fx_in32 v2) ∧ (fx_in32 (M (p + 3) v1))) ∧ (M (p + 3) v1 ≤ v2 → wp kc (d + 1) 76 2 [some (jR p), some (jI v1), some (jI (v2 + 1)), none, none, none, none] [] M Q) ∧ (v2 < M (p + 3) v1 → (((0 : Int) ≤ (4 * v1) + v2 ∧ (4 * v1) + v2 < 48)) ∧ (((0 : Int) ≤ (4 * v1) + v3 ∧ (4 * v1) + v3 < 48)) ∧ wc kc d 426 [jR p, jI (M (p + 4) ((4 * v1) + v2))] M (fun v M1 => wp kc (d + 1) 76 66 [some (jR p), some (jI v1), some (jI v2), some (jI v3), some (jI (M (p + 4) ((4 * v1) + v2))), some (jI (M (p + 4) ((4 * v1) + v3))), none] (v.toList ++ []) M1 Q)))) : wp kc (d + 1) 76 16 [some (jR p), some (jI v1), some (jI v2), some (jI v3), none, none, none] [] M Q :=
  (x_ildn c76_16 rfl (x_aldn c76_17 rfl (x_gfr c76_18 (kp_7 Hp) (x_ildn c76_21 rfl (x_iald c76_22 (ap_3 Hp) H.1 (by decide) (x_cge c76_23 H.2.1.1 H.2.1.2 (fun h3 => (x_inc (l' := [some (jR p), some (jI v1), some (jI (v2 + 1)), some (jI v3), none, none, none]) c76_123 rfl rfl (x_goto c76_126 (wp_wk (l' := [some (jR p), some (jI v1), some (jI (v2 + 1)), none, none, none, none]) ⟨rfl, ⟨rfl, ⟨rfl, trivial⟩⟩⟩ (H.2.2.1 h3))))) (fun h4 => (x_ildn c76_26 rfl (x_aldn c76_27 rfl (x_gfr c76_28 (kp_7 Hp) (x_ildn c76_31 rfl (x_iald c76_32 (ap_3 Hp) (H.2.2.2 h4).1 (by decide) (x_cge c76_33 (H.2.2.2 h4).2.1.1 (H.2.2.2 h4).2.1.2 (fun h1 => (x_inc (l' := [some (jR p), some (jI v1), some (jI (v2 + 1)), some (jI v3), none, none, none]) c76_123 rfl rfl (x_goto c76_126 (wp_wk (l' := [some (jR p), some (jI v1), some (jI (v2 + 1)), none, none, none, none]) ⟨rfl, ⟨rfl, ⟨rfl, trivial⟩⟩⟩ ((H.2.2.2 h4).2.2.1 h1))))) (fun h2 => (x_aldn c76_36 rfl (x_gfr c76_37 (kp_8 Hp) (x_ci c76_40 (x_ildn c76_41 rfl (x_imul c76_42 (x_ildn c76_43 rfl (x_iadd c76_44 (x_iald c76_45 (ap_4 Hp) ((H.2.2.2 h4).2.2.2 h2).1 (by decide) (x_ist (l' := [some (jR p), some (jI v1), some (jI v2), some (jI v3), some (jI (M (p + 4) ((4 * v1) + v2))), none, none]) c76_46 rfl (x_aldn c76_48 rfl (x_gfr c76_49 (kp_8 Hp) (x_ci c76_52 (x_ildn c76_53 rfl (x_imul c76_54 (x_ildn c76_55 rfl (x_iadd c76_56 (x_iald c76_57 (ap_4 Hp) ((H.2.2.2 h4).2.2.2 h2).2.1 (by decide) (x_ist (l' := [some (jR p), some (jI v1), some (jI v2), some (jI v3), some (jI (M (p + 4) ((4 * v1) + v2))), some (jI (M (p + 4) ((4 * v1) + v3))), none]) c76_58 rfl (x_aldn c76_60 rfl (x_ild c76_61 rfl (wp_wk (l' := [some (jR p), some (jI v1), some (jI v2), some (jI v3), some (jI (M (p + 4) ((4 * v1) + v2))), some (jI (M (p + 4) ((4 * v1) + v3))), none]) ⟨rfl, ⟨rfl, ⟨rfl, ⟨rfl, ⟨rfl, ⟨rfl, trivial⟩⟩⟩⟩⟩⟩ (x_cv (As := [jI (M (p + 4) ((4 * v1) + v2))]) (st := []) c76_63 (clp Hp) kl426 rfl (Nat.le_of_ble_eq_true rfl) mx426 (Nat.le_refl _) ((H.2.2.2 h4).2.2.2 h2).2.2))))))))))))))))))))))))))))))))))))
theorem s76_66 {kc : List va_E} {d : Nat} {p : Nat} {v1 v2 v3 v4 v5 u0 : Int} {M : fx_M} {Q : Option fx_V → fx_M → Prop} (Hp : fx_puz p) (H : wc kc d 426 [jR p, jI v5] M (fun v M1 => wp kc (d + 1) 76 72 [some (jR p), some (jI v1), some (jI v2), some (jI v3), some (jI v4), some (jI v5), none] (v.toList ++ [jI u0]) M1 Q)) : wp kc (d + 1) 76 66 [some (jR p), some (jI v1), some (jI v2), some (jI v3), some (jI v4), some (jI v5), none] [jI u0] M Q :=
  (x_aldn c76_66 rfl (x_ild c76_67 rfl (wp_wk (l' := [some (jR p), some (jI v1), some (jI v2), some (jI v3), some (jI v4), some (jI v5), none]) ⟨rfl, ⟨rfl, ⟨rfl, ⟨rfl, ⟨rfl, ⟨rfl, trivial⟩⟩⟩⟩⟩⟩ (x_cv (As := [jI v5]) (st := [jI u0]) c76_69 (clp Hp) kl426 rfl (Nat.le_of_ble_eq_true rfl) mx426 (Nat.le_refl _) H))))
theorem s76_72 {kc : List va_E} {d : Nat} {p : Nat} {v1 v2 v3 v4 v5 u0 u1 : Int} {M : fx_M} {Q : Option fx_V → fx_M → Prop} (Hp : fx_puz p) (H : ((fx_in32 (u1 - u0))) ∧ wc kc d 427 [jR p, jI v4] M (fun v M1 => wp kc (d + 1) 76 82 [some (jR p), some (jI v1), some (jI v2), some (jI v3), none, some (jI v5), none] (v.toList ++ [jI (if (0 : Int) ≤ u1 - u0 then (u1 - u0 : Int) else 0 - (u1 - u0))]) M1 Q)) : wp kc (d + 1) 76 72 [some (jR p), some (jI v1), some (jI v2), some (jI v3), some (jI v4), some (jI v5), none] [jI u0, jI u1] M Q :=
  (x_isub c76_72 (x_abs c76_73 n76_73 H.1 (Nat.le_of_ble_eq_true rfl) (x_aldn c76_76 rfl (x_ild c76_77 rfl (wp_wk (l' := [some (jR p), some (jI v1), some (jI v2), some (jI v3), none, some (jI v5), none]) ⟨rfl, ⟨rfl, ⟨rfl, ⟨rfl, ⟨rfl, trivial⟩⟩⟩⟩⟩ (x_cv (As := [jI v4]) (st := [jI (if (0 : Int) ≤ u1 - u0 then (u1 - u0 : Int) else 0 - (u1 - u0))]) c76_79 (clp Hp) kl427 rfl (Nat.le_of_ble_eq_true rfl) mx427 (Nat.le_refl _) H.2))))))
theorem s76_82 {kc : List va_E} {d : Nat} {p : Nat} {v1 v2 v3 v5 u0 u1 : Int} {M : fx_M} {Q : Option fx_V → fx_M → Prop} (Hp : fx_puz p) (H : wc kc d 427 [jR p, jI v5] M (fun v M1 => wp kc (d + 1) 76 88 [some (jR p), some (jI v1), some (jI v2), some (jI v3), none, none, none] (v.toList ++ [jI u0, jI u1]) M1 Q)) : wp kc (d + 1) 76 82 [some (jR p), some (jI v1), some (jI v2), some (jI v3), none, some (jI v5), none] [jI u0, jI u1] M Q :=
  (x_aldn c76_82 rfl (x_ild c76_83 rfl (wp_wk (l' := [some (jR p), some (jI v1), some (jI v2), some (jI v3), none, none, none]) ⟨rfl, ⟨rfl, ⟨rfl, ⟨rfl, trivial⟩⟩⟩⟩ (x_cv (As := [jI v5]) (st := [jI u0, jI u1]) c76_85 (clp Hp) kl427 rfl (Nat.le_of_ble_eq_true rfl) mx427 (Nat.le_refl _) H))))
theorem s76_88 {kc : List va_E} {d : Nat} {p : Nat} {v1 v2 v3 u0 u1 u2 : Int} {M : fx_M} {Q : Option fx_V → fx_M → Prop} (Hp : fx_puz p) (H : ((fx_in32 (u1 - u0))) ∧ (((0 : Int) ≤ v2 ∧ v2 < 4)) ∧ ((fx_in32 (u2 + (if (0 : Int) ≤ u1 - u0 then (u1 - u0 : Int) else 0 - (u1 - u0))))) ∧ (((0 : Int) ≤ v2 ∧ v2 < 4)) ∧ wp kc (d + 1) 76 16 [some (jR p), some (jI v1), some (jI v2), some (jI (v3 + 1)), none, none, none] [] (fx_up M (p + 8) v2 (fx_or (M (p + 8) v2) (if u2 + (if (0 : Int) ≤ u1 - u0 then (u1 - u0 : Int) else 0 - (u1 - u0)) = 1 then (fx_shl 1 v3 : Int) else 0))) Q) : wp kc (d + 1) 76 88 [some (jR p), some (jI v1), some (jI v2), some (jI v3), none, none, none] [jI u0, jI u1, jI u2] M Q :=
  (x_isub c76_88 (x_abs c76_89 n76_89 H.1 (Nat.le_of_ble_eq_true rfl) (x_iadd c76_92 (x_ist (l' := [some (jR p), some (jI v1), some (jI v2), some (jI v3), none, none, some (jI (u2 + (if (0 : Int) ≤ u1 - u0 then (u1 - u0 : Int) else 0 - (u1 - u0))))]) c76_93 rfl (x_aldn c76_95 rfl (x_gfr c76_96 (kp_13 Hp) (x_ildn c76_99 rfl (x_dup2 c76_100 (x_iald c76_101 (ap_8 Hp) H.2.1 (by decide) (x_ild c76_102 rfl (x_ci c76_104 (have K : wp kc (d + 1) 76 115 [some (jR p), some (jI v1), some (jI v2), some (jI v3), none, none, none] [jI (if u2 + (if (0 : Int) ≤ u1 - u0 then (u1 - u0 : Int) else 0 - (u1 - u0)) = 1 then (fx_shl 1 v3 : Int) else 0), jI (M (p + 8) v2), jI v2, jR (p + 8)] M Q := (x_ior c76_115 (x_iast c76_116 (ap_8 Hp) H.2.2.2.1 (by decide) (x_inc (l' := [some (jR p), some (jI v1), some (jI v2), some (jI (v3 + 1)), none, none, none]) c76_117 rfl rfl (x_goto c76_120 (wp_wk (l' := [some (jR p), some (jI v1), some (jI v2), some (jI (v3 + 1)), none, none, none]) ⟨rfl, ⟨rfl, ⟨rfl, ⟨rfl, trivial⟩⟩⟩⟩ H.2.2.2.2))))); (x_cne c76_105 H.2.2.1 (by decide) (fun (h1 : u2 + (if (0 : Int) ≤ u1 - u0 then (u1 - u0 : Int) else 0 - (u1 - u0)) ≠ 1) => (x_ci c76_114 (wp_wk (l' := [some (jR p), some (jI v1), some (jI v2), some (jI v3), none, none, none]) ⟨rfl, ⟨rfl, ⟨rfl, ⟨rfl, trivial⟩⟩⟩⟩ (by have K := K; first | (simp only [if_neg h1] at K ⊢; exact K) | (exfalso; omega))))) (fun (h2 : u2 + (if (0 : Int) ≤ u1 - u0 then (u1 - u0 : Int) else 0 - (u1 - u0)) = 1) => (x_ci c76_108 (x_ildn c76_109 rfl (x_ishl c76_110 (x_goto c76_111 (wp_wk (l' := [some (jR p), some (jI v1), some (jI v2), some (jI v3), none, none, none]) ⟨rfl, ⟨rfl, ⟨rfl, ⟨rfl, trivial⟩⟩⟩⟩ (by have K := K; first | (simp only [if_pos h2] at K ⊢; exact K) | (exfalso; omega)))))))))))))))))))))
theorem s76_133 {kc : List va_E} {d : Nat} {p : Nat} {v2 v3 : Int} {M : fx_M} {Q : Option fx_V → fx_M → Prop} (Hp : fx_puz p) (H : ((fx_in32 v3)) ∧ (16 ≤ v3 → Q (some (jI v2)) M) ∧ (v3 < 16 → wp kc (d + 1) 76 148 [some (jR p), none, some (jI v2), some (jI v3), some (jI (fx_and v3 (-v3))), some (jI 0), none] [] M Q)) : wp kc (d + 1) 76 133 [some (jR p), none, some (jI v2), some (jI v3), none, none, none] [] M Q :=
  (x_ildn c76_133 rfl (x_ci c76_134 (x_cge c76_136 H.1 (by decide) (fun h1 => (x_ildn c76_225 rfl (x_irt c76_226 r76 (H.2.1 h1)))) (fun h2 => (x_ildn c76_139 rfl (x_ildn c76_140 rfl (x_ineg c76_141 (x_iand c76_142 (x_ist (l' := [some (jR p), none, some (jI v2), some (jI v3), some (jI (fx_and v3 (-v3))), none, none]) c76_143 rfl (x_ci c76_145 (x_ist (l' := [some (jR p), none, some (jI v2), some (jI v3), some (jI (fx_and v3 (-v3))), some (jI 0), none]) c76_146 rfl (wp_wk (l' := [some (jR p), none, some (jI v2), some (jI v3), some (jI (fx_and v3 (-v3))), some (jI 0), none]) ⟨rfl, ⟨rfl, ⟨rfl, ⟨rfl, ⟨rfl, trivial⟩⟩⟩⟩⟩ (H.2.2 h2)))))))))))))
theorem s76_148 {kc : List va_E} {d : Nat} {p : Nat} {v2 v3 v4 v5 : Int} {M : fx_M} {Q : Option fx_V → fx_M → Prop} (Hp : fx_puz p) (H : ((fx_in32 v5)) ∧ (3 ≤ v5 → ((fx_in32 v4)) ∧ ((fx_in32 v3)) ∧ wp kc (d + 1) 76 133 [some (jR p), none, some (jI (fx_or v2 (if v4 = v3 then (fx_shl 1 v3 : Int) else 0))), some (jI (v3 + 1)), none, none, none] [] M Q) ∧ (v5 < 3 → wp kc (d + 1) 76 157 [some (jR p), none, some (jI v2), some (jI v3), some (jI v4), some (jI v5), some (jI 0)] [] M Q)) : wp kc (d + 1) 76 148 [some (jR p), none, some (jI v2), some (jI v3), some (jI v4), some (jI v5), none] [] M Q :=
  (x_ild c76_148 rfl (x_ci c76_150 (x_cge c76_151 H.1 (by decide) (fun h1 => (x_ildn c76_203 rfl (x_ild c76_204 rfl (x_ildn c76_206 rfl (have K : wp kc (d + 1) 76 217 [some (jR p), none, none, some (jI v3), none, none, none] [jI (if v4 = v3 then (fx_shl 1 v3 : Int) else 0), jI v2] M Q := (x_ior c76_217 (x_istn (l' := [some (jR p), none, some (jI (fx_or v2 (if v4 = v3 then (fx_shl 1 v3 : Int) else 0))), some (jI v3), none, none, none]) c76_218 rfl (x_inc (l' := [some (jR p), none, some (jI (fx_or v2 (if v4 = v3 then (fx_shl 1 v3 : Int) else 0))), some (jI (v3 + 1)), none, none, none]) c76_219 rfl rfl (x_goto c76_222 (wp_wk (l' := [some (jR p), none, some (jI (fx_or v2 (if v4 = v3 then (fx_shl 1 v3 : Int) else 0))), some (jI (v3 + 1)), none, none, none]) ⟨rfl, ⟨rfl, ⟨rfl, trivial⟩⟩⟩ (H.2.1 h1).2.2))))); (x_cne c76_207 (H.2.1 h1).1 (H.2.1 h1).2.1 (fun (h3 : v4 ≠ v3) => (x_ci c76_216 (wp_wk (l' := [some (jR p), none, none, some (jI v3), none, none, none]) ⟨rfl, ⟨rfl, trivial⟩⟩ (by have K := K; first | (simp only [if_neg h3] at K ⊢; exact K) | (exfalso; omega))))) (fun (h4 : v4 = v3) => (x_ci c76_210 (x_ildn c76_211 rfl (x_ishl c76_212 (x_goto c76_213 (wp_wk (l' := [some (jR p), none, none, some (jI v3), none, none, none]) ⟨rfl, ⟨rfl, trivial⟩⟩ (by have K := K; first | (simp only [if_pos h4] at K ⊢; exact K) | (exfalso; omega)))))))))))))) (fun h2 => (x_ci c76_154 (x_ist (l' := [some (jR p), none, some (jI v2), some (jI v3), some (jI v4), some (jI v5), some (jI 0)]) c76_155 rfl (wp_wk (l' := [some (jR p), none, some (jI v2), some (jI v3), some (jI v4), some (jI v5), some (jI 0)]) ⟨rfl, ⟨rfl, ⟨rfl, ⟨rfl, ⟨rfl, ⟨rfl, trivial⟩⟩⟩⟩⟩⟩ (H.2.2 h2))))))))
theorem s76_157 {kc : List va_E} {d : Nat} {p : Nat} {v2 v3 v4 v5 v6 : Int} {M : fx_M} {Q : Option fx_V → fx_M → Prop} (Hp : fx_puz p) (H : ((fx_in32 v6)) ∧ (4 ≤ v6 → wp kc (d + 1) 76 148 [some (jR p), none, some (jI v2), some (jI v3), some (jI v4), some (jI (v5 + 1)), none] [] M Q) ∧ (v6 < 4 → ((fx_in32 (fx_and (fx_shr v4 v6) 1))) ∧ (fx_and (fx_shr v4 v6) 1 ≠ 0 → ((((0 : Int) ≤ v6 ∧ v6 < 4)))) ∧ wp kc (d + 1) 76 157 [some (jR p), none, some (jI v2), some (jI v3), some (jI (fx_or v4 (if fx_and (fx_shr v4 v6) 1 = 0 then (0 : Int) else fx_and (M (p + 8) v6) v3))), some (jI v5), some (jI (v6 + 1))] [] M Q)) : wp kc (d + 1) 76 157 [some (jR p), none, some (jI v2), some (jI v3), some (jI v4), some (jI v5), some (jI v6)] [] M Q :=
  (x_ild c76_157 rfl (x_ci c76_159 (x_cge c76_160 H.1 (by decide) (fun h1 => (x_inc (l' := [some (jR p), none, some (jI v2), some (jI v3), some (jI v4), some (jI (v5 + 1)), some (jI v6)]) c76_197 rfl rfl (x_goto c76_200 (wp_wk (l' := [some (jR p), none, some (jI v2), some (jI v3), some (jI v4), some (jI (v5 + 1)), none]) ⟨rfl, ⟨rfl, ⟨rfl, ⟨rfl, ⟨rfl, trivial⟩⟩⟩⟩⟩ (H.2.1 h1))))) (fun h2 => (x_ild c76_163 rfl (x_ild c76_165 rfl (x_ild c76_167 rfl (x_ishr c76_169 (x_ci c76_170 (x_iand c76_171 (have K : wp kc (d + 1) 76 188 [some (jR p), none, some (jI v2), some (jI v3), none, some (jI v5), some (jI v6)] [jI (if fx_and (fx_shr v4 v6) 1 = 0 then (0 : Int) else fx_and (M (p + 8) v6) v3), jI v4] M Q := (x_ior c76_188 (x_ist (l' := [some (jR p), none, some (jI v2), some (jI v3), some (jI (fx_or v4 (if fx_and (fx_shr v4 v6) 1 = 0 then (0 : Int) else fx_and (M (p + 8) v6) v3))), some (jI v5), some (jI v6)]) c76_189 rfl (x_inc (l' := [some (jR p), none, some (jI v2), some (jI v3), some (jI (fx_or v4 (if fx_and (fx_shr v4 v6) 1 = 0 then (0 : Int) else fx_and (M (p + 8) v6) v3))), some (jI v5), some (jI (v6 + 1))]) c76_191 rfl rfl (x_goto c76_194 (wp_wk (l' := [some (jR p), none, some (jI v2), some (jI v3), some (jI (fx_or v4 (if fx_and (fx_shr v4 v6) 1 = 0 then (0 : Int) else fx_and (M (p + 8) v6) v3))), some (jI v5), some (jI (v6 + 1))]) ⟨rfl, ⟨rfl, ⟨rfl, ⟨rfl, ⟨rfl, ⟨rfl, trivial⟩⟩⟩⟩⟩⟩ (H.2.2 h2).2.2))))); (x_zeq c76_172 (H.2.2 h2).1 (fun (h3 : fx_and (fx_shr v4 v6) 1 = 0) => (x_ci c76_187 (wp_wk (l' := [some (jR p), none, some (jI v2), some (jI v3), none, some (jI v5), some (jI v6)]) ⟨rfl, ⟨rfl, ⟨rfl, ⟨rfl, ⟨rfl, trivial⟩⟩⟩⟩⟩ (by have K := K; first | (simp only [if_pos h3] at K ⊢; exact K) | (exfalso; omega))))) (fun (h4 : fx_and (fx_shr v4 v6) 1 ≠ 0) => (x_aldn c76_175 rfl (x_gfr c76_176 (kp_13 Hp) (x_ild c76_179 rfl (x_iald c76_181 (ap_8 Hp) ((H.2.2 h2).2.1 h4) (by decide) (x_ildn c76_182 rfl (x_iand c76_183 (x_goto c76_184 (wp_wk (l' := [some (jR p), none, some (jI v2), some (jI v3), none, some (jI v5), some (jI v6)]) ⟨rfl, ⟨rfl, ⟨rfl, ⟨rfl, ⟨rfl, trivial⟩⟩⟩⟩⟩ (by have K := K; first | (simp only [if_neg h4] at K ⊢; exact K) | (exfalso; omega)))))))))))))))))))))))
theorem s76 {kc : List va_E} {d : Nat} {p : Nat} {x1 : Int} {M : fx_M} {Q : Option fx_V → fx_M → Prop} (Hp : fx_puz p) (H : wp kc (d + 1) 76 2 [some (jR p), some (jI x1), some (jI 0), none, none, none, none] [] M Q) : wc kc (d + 1) 76 [jR p, jI x1] M Q :=
  wc_of (wp_wk (l' := [some (jR p), some (jI x1), none, none, none, none, none]) ⟨rfl, ⟨rfl, trivial⟩⟩ (s76_0 Hp H))

/- PuzzleHouse$Puzzle.isMet(III)Z -/
theorem c78_0 : fx_ci 78 0 = some (0, 1) := by decide +kernel
theorem c78_1 : fx_op 78 1 = some (.istore 4, 3, 1) := by decide +kernel
theorem c78_3 : fx_ci 78 3 = some (0, 4) := by decide +kernel
theorem c78_4 : fx_op 78 4 = some (.istore 5, 6, 4) := by decide +kernel
theorem c78_6 : fx_ci 78 6 = some (0, 7) := by decide +kernel
theorem c78_7 : fx_op 78 7 = some (.istore 6, 9, 7) := by decide +kernel
theorem c78_9 : fx_ci 78 9 = some ((-1), 10) := by decide +kernel
theorem c78_10 : fx_op 78 10 = some (.istore 7, 12, 10) := by decide +kernel
theorem c78_12 : fx_ci 78 12 = some (0, 13) := by decide +kernel
theorem c78_13 : fx_op 78 13 = some (.istore 8, 15, 13) := by decide +kernel
theorem c78_15 : fx_ci 78 15 = some (0, 16) := by decide +kernel
theorem c78_16 : fx_op 78 16 = some (.istore 9, 18, 16) := by decide +kernel
theorem c78_18 : fx_ci 78 18 = some (1, 19) := by decide +kernel
theorem c78_19 : fx_op 78 19 = some (.istore 10, 21, 19) := by decide +kernel
theorem c78_21 : fx_ci 78 21 = some (99, 23) := by decide +kernel
theorem c78_23 : fx_op 78 23 = some (.istore 11, 25, 23) := by decide +kernel
theorem c78_25 : fx_op 78 25 = some (.iload_n 2, 26, 25) := by decide +kernel
theorem c78_26 : fx_ci 78 26 = some (3, 27) := by decide +kernel
theorem c78_27 : fx_op 78 27 = some (.iand, 28, 27) := by decide +kernel
theorem c78_28 : fx_op 78 28 = some (.istore 12, 30, 28) := by decide +kernel
theorem c78_30 : fx_ci 78 30 = some (0, 31) := by decide +kernel
theorem c78_31 : fx_op 78 31 = some (.istore 13, 33, 31) := by decide +kernel
theorem c78_33 : fx_op 78 33 = some (.iload 13, 35, 33) := by decide +kernel
theorem c78_35 : fx_op 78 35 = some (.aload_n 0, 36, 35) := by decide +kernel
theorem c78_36 : fx_gf 78 36 = some (3, 7, 39) := by decide +kernel
theorem c78_39 : fx_op 78 39 = some (.iload_n 1, 40, 39) := by decide +kernel
theorem c78_41 : fx_op 78 41 = some (.if_icmp .ge 129, 44, 170) := by decide +kernel
theorem c78_44 : fx_op 78 44 = some (.iload_n 2, 45, 44) := by decide +kernel
theorem c78_45 : fx_ci 78 45 = some (2, 46) := by decide +kernel
theorem c78_46 : fx_op 78 46 = some (.iload 13, 48, 46) := by decide +kernel
theorem c78_48 : fx_op 78 48 = some (.imul, 49, 48) := by decide +kernel
theorem c78_49 : fx_op 78 49 = some (.ishr, 50, 49) := by decide +kernel
theorem c78_50 : fx_ci 78 50 = some (3, 51) := by decide +kernel
theorem c78_51 : fx_op 78 51 = some (.iand, 52, 51) := by decide +kernel
theorem c78_52 : fx_op 78 52 = some (.istore 14, 54, 52) := by decide +kernel
theorem c78_54 : fx_op 78 54 = some (.iload 4, 56, 54) := by decide +kernel
theorem c78_56 : fx_op 78 56 = some (.iload 14, 58, 56) := by decide +kernel
theorem c78_58 : fx_op 78 58 = some (.iadd, 59, 58) := by decide +kernel
theorem c78_59 : fx_op 78 59 = some (.istore 4, 61, 59) := by decide +kernel
theorem c78_61 : fx_op 78 61 = some (.iload 5, 63, 61) := by decide +kernel
theorem c78_63 : fx_op 78 63 = some (.iload 14, 65, 63) := by decide +kernel
theorem c78_65 : fx_op 78 65 = some (.iload_n 2, 66, 65) := by decide +kernel
theorem c78_66 : fx_ci 78 66 = some (3, 67) := by decide +kernel
theorem c78_67 : fx_op 78 67 = some (.iand, 68, 67) := by decide +kernel
theorem c78_68 : fx_op 78 68 = some (.if_icmp .ne 7, 71, 75) := by decide +kernel
theorem c78_75 : fx_ci 78 75 = some (0, 76) := by decide +kernel
theorem c78_76 : fx_op 78 76 = some (.iadd, 77, 76) := by decide +kernel
theorem c78_77 : fx_op 78 77 = some (.istore 5, 79, 77) := by decide +kernel
theorem c78_79 : fx_op 78 79 = some (.iload 8, 81, 79) := by decide +kernel
theorem c78_81 : fx_op 78 81 = some (.iload 14, 83, 81) := by decide +kernel
theorem c78_83 : fx_ci 78 83 = some (1, 84) := by decide +kernel
theorem c78_84 : fx_op 78 84 = some (.if_icmp .ne 10, 87, 94) := by decide +kernel
theorem c78_94 : fx_ci 78 94 = some (0, 95) := by decide +kernel
theorem c78_95 : fx_op 78 95 = some (.ior, 96, 95) := by decide +kernel
theorem c78_96 : fx_op 78 96 = some (.istore 8, 98, 96) := by decide +kernel
theorem c78_98 : fx_op 78 98 = some (.iload 9, 100, 98) := by decide +kernel
theorem c78_100 : fx_ci 78 100 = some (1, 101) := by decide +kernel
theorem c78_101 : fx_op 78 101 = some (.iload 14, 103, 101) := by decide +kernel
theorem c78_103 : fx_op 78 103 = some (.ishl, 104, 103) := by decide +kernel
theorem c78_104 : fx_op 78 104 = some (.ior, 105, 104) := by decide +kernel
theorem c78_105 : fx_op 78 105 = some (.istore 9, 107, 105) := by decide +kernel
theorem c78_107 : fx_op 78 107 = some (.iload 14, 109, 107) := by decide +kernel
theorem c78_109 : fx_op 78 109 = some (.iload 7, 111, 109) := by decide +kernel
theorem c78_111 : fx_op 78 111 = some (.if_icmp .le 10, 114, 121) := by decide +kernel
theorem c78_121 : fx_op 78 121 = some (.iload 13, 123, 121) := by decide +kernel
theorem c78_123 : fx_op 78 123 = some (.ifCond .le 37, 126, 160) := by decide +kernel
theorem c78_160 : fx_op 78 160 = some (.iload 14, 162, 160) := by decide +kernel
theorem c78_162 : fx_op 78 162 = some (.istore 12, 164, 162) := by decide +kernel
theorem c78_164 : fx_op 78 164 = some (.iinc 13 1, 167, 164) := by decide +kernel
theorem c78_170 : fx_op 78 170 = some (.iload 7, 172, 170) := by decide +kernel
theorem c78_172 : fx_op 78 172 = some (.aload_n 0, 173, 172) := by decide +kernel
theorem c78_173 : fx_gf 78 173 = some (3, 3, 176) := by decide +kernel
theorem c78_176 : fx_op 78 176 = some (.if_icmp .lt 5, 179, 181) := by decide +kernel
theorem c78_181 : fx_op 78 181 = some (.aload_n 0, 182, 181) := by decide +kernel
theorem c78_182 : fx_gf 78 182 = some (3, 5, 185) := by decide +kernel
theorem c78_185 : fx_op 78 185 = some (.iload_n 1, 186, 185) := by decide +kernel
theorem c78_228 : fx_op 78 228 = some (.iload 5, 230, 228) := by decide +kernel
theorem c78_230 : fx_op 78 230 = some (.aload_n 0, 231, 230) := by decide +kernel
theorem c78_231 : fx_gf 78 231 = some (3, 7, 234) := by decide +kernel
theorem c78_234 : fx_op 78 234 = some (.iload_n 1, 235, 234) := by decide +kernel
theorem c78_236 : fx_op 78 236 = some (.if_icmp .ne 7, 239, 243) := by decide +kernel
theorem c78_243 : fx_ci 78 243 = some (0, 244) := by decide +kernel
theorem c78_239 : fx_ci 78 239 = some (1, 240) := by decide +kernel
theorem c78_240 : fx_op 78 240 = some (.goto 4, 243, 244) := by decide +kernel
theorem c78_245 : fx_op 78 245 = some (.iload 11, 247, 245) := by decide +kernel
theorem c78_247 : fx_op 78 247 = some (.aload_n 0, 248, 247) := by decide +kernel
theorem c78_248 : fx_gf 78 248 = some (3, 6, 251) := by decide +kernel
theorem c78_251 : fx_op 78 251 = some (.iload_n 1, 252, 251) := by decide +kernel
theorem c78_253 : fx_op 78 253 = some (.if_icmp .lt 7, 256, 260) := by decide +kernel
theorem c78_260 : fx_ci 78 260 = some (0, 261) := by decide +kernel
theorem c78_256 : fx_ci 78 256 = some (1, 257) := by decide +kernel
theorem c78_257 : fx_op 78 257 = some (.goto 4, 260, 261) := by decide +kernel
theorem c78_262 : fx_op 78 262 = some (.iload 5, 264, 262) := by decide +kernel
theorem c78_264 : fx_op 78 264 = some (.aload_n 0, 265, 264) := by decide +kernel
theorem c78_265 : fx_gf 78 265 = some (3, 6, 268) := by decide +kernel
theorem c78_268 : fx_op 78 268 = some (.iload_n 1, 269, 268) := by decide +kernel
theorem c78_270 : fx_op 78 270 = some (.if_icmp .ne 7, 273, 277) := by decide +kernel
theorem c78_277 : fx_ci 78 277 = some (0, 278) := by decide +kernel
theorem c78_273 : fx_ci 78 273 = some (1, 274) := by decide +kernel
theorem c78_274 : fx_op 78 274 = some (.goto 4, 277, 278) := by decide +kernel
theorem c78_279 : fx_op 78 279 = some (.iload_n 3, 280, 279) := by decide +kernel
theorem c78_280 : fx_op 78 280 = some (.iload 8, 282, 280) := by decide +kernel
theorem c78_282 : fx_op 78 282 = some (.ishr, 283, 282) := by decide +kernel
theorem c78_283 : fx_ci 78 283 = some (1, 284) := by decide +kernel
theorem c78_284 : fx_op 78 284 = some (.iand, 285, 284) := by decide +kernel
theorem c78_285 : fx_op 78 285 = some (.ifCond .eq 7, 288, 292) := by decide +kernel
theorem c78_292 : fx_ci 78 292 = some (0, 293) := by decide +kernel
theorem c78_288 : fx_ci 78 288 = some (1, 289) := by decide +kernel
theorem c78_289 : fx_op 78 289 = some (.goto 4, 292, 293) := by decide +kernel
theorem c78_294 : fx_op 78 294 = some (.iload 10, 296, 294) := by decide +kernel
theorem c78_297 : fx_op 78 297 = some (.iload 6, 299, 297) := by decide +kernel
theorem c78_299 : fx_op 78 299 = some (.aload_n 0, 300, 299) := by decide +kernel
theorem c78_300 : fx_gf 78 300 = some (3, 6, 303) := by decide +kernel
theorem c78_303 : fx_op 78 303 = some (.iload_n 1, 304, 303) := by decide +kernel
theorem c78_305 : fx_op 78 305 = some (.if_icmp .ne 7, 308, 312) := by decide +kernel
theorem c78_312 : fx_ci 78 312 = some (0, 313) := by decide +kernel
theorem c78_308 : fx_ci 78 308 = some (1, 309) := by decide +kernel
theorem c78_309 : fx_op 78 309 = some (.goto 4, 312, 313) := by decide +kernel
theorem c78_314 : fx_op 78 314 = some (.iload 4, 316, 314) := by decide +kernel
theorem c78_316 : fx_op 78 316 = some (.aload_n 0, 317, 316) := by decide +kernel
theorem c78_317 : fx_gf 78 317 = some (3, 6, 320) := by decide +kernel
theorem c78_320 : fx_op 78 320 = some (.iload_n 1, 321, 320) := by decide +kernel
theorem c78_322 : fx_op 78 322 = some (.if_icmp .ne 7, 325, 329) := by decide +kernel
theorem c78_329 : fx_ci 78 329 = some (0, 330) := by decide +kernel
theorem c78_325 : fx_ci 78 325 = some (1, 326) := by decide +kernel
theorem c78_326 : fx_op 78 326 = some (.goto 4, 329, 330) := by decide +kernel
theorem c78_331 : fx_op 78 331 = some (.iload 9, 333, 331) := by decide +kernel
theorem c78_179 : fx_ci 78 179 = some (0, 180) := by decide +kernel
theorem c78_71 : fx_ci 78 71 = some (1, 72) := by decide +kernel
theorem c78_72 : fx_op 78 72 = some (.goto 4, 75, 76) := by decide +kernel
theorem c78_87 : fx_ci 78 87 = some (1, 88) := by decide +kernel
theorem c78_88 : fx_op 78 88 = some (.iload 13, 90, 88) := by decide +kernel
theorem c78_90 : fx_op 78 90 = some (.ishl, 91, 90) := by decide +kernel
theorem c78_91 : fx_op 78 91 = some (.goto 4, 94, 95) := by decide +kernel
theorem c78_114 : fx_op 78 114 = some (.iinc 6 1, 117, 114) := by decide +kernel
theorem c78_117 : fx_op 78 117 = some (.iload 14, 119, 117) := by decide +kernel
theorem c78_119 : fx_op 78 119 = some (.istore 7, 121, 119) := by decide +kernel
theorem c78_126 : fx_op 78 126 = some (.iload 10, 128, 126) := by decide +kernel
theorem c78_128 : fx_op 78 128 = some (.ifCond .eq 14, 131, 142) := by decide +kernel
theorem c78_142 : fx_ci 78 142 = some (0, 143) := by decide +kernel
theorem c78_143 : fx_op 78 143 = some (.istore 10, 145, 143) := by decide +kernel
theorem c78_145 : fx_op 78 145 = some (.iload 11, 147, 145) := by decide +kernel
theorem c78_147 : fx_op 78 147 = some (.iload 14, 149, 147) := by decide +kernel
theorem c78_149 : fx_op 78 149 = some (.iload 12, 151, 149) := by decide +kernel
theorem c78_151 : fx_op 78 151 = some (.isub, 152, 151) := by decide +kernel
theorem c78_152 : fx_nt 78 152 = some (3, 155) := by decide +kernel
theorem c78_155 : fx_nt 78 155 = some (2, 158) := by decide +kernel
theorem c78_158 : fx_op 78 158 = some (.istore 11, 160, 158) := by decide +kernel
theorem c78_131 : fx_op 78 131 = some (.iload 14, 133, 131) := by decide +kernel
theorem c78_133 : fx_op 78 133 = some (.iload 12, 135, 133) := by decide +kernel
theorem c78_135 : fx_op 78 135 = some (.if_icmp .le 7, 138, 142) := by decide +kernel
theorem c78_138 : fx_ci 78 138 = some (1, 139) := by decide +kernel
theorem c78_139 : fx_op 78 139 = some (.goto 4, 142, 143) := by decide +kernel
theorem c78_40 : fx_op 78 40 = some (.iaload, 41, 40) := by decide +kernel
theorem c78_186 : fx_op 78 186 = some (.iaload, 187, 186) := by decide +kernel
theorem c78_235 : fx_op 78 235 = some (.iaload, 236, 235) := by decide +kernel
theorem c78_244 : fx_op 78 244 = some (.ireturn, 245, 244) := by decide +kernel
theorem c78_252 : fx_op 78 252 = some (.iaload, 253, 252) := by decide +kernel
theorem c78_261 : fx_op 78 261 = some (.ireturn, 262, 261) := by decide +kernel
theorem c78_269 : fx_op 78 269 = some (.iaload, 270, 269) := by decide +kernel
theorem c78_278 : fx_op 78 278 = some (.ireturn, 279, 278) := by decide +kernel
theorem c78_293 : fx_op 78 293 = some (.ireturn, 294, 293) := by decide +kernel
theorem c78_296 : fx_op 78 296 = some (.ireturn, 297, 296) := by decide +kernel
theorem c78_304 : fx_op 78 304 = some (.iaload, 305, 304) := by decide +kernel
theorem c78_313 : fx_op 78 313 = some (.ireturn, 314, 313) := by decide +kernel
theorem c78_321 : fx_op 78 321 = some (.iaload, 322, 321) := by decide +kernel
theorem c78_330 : fx_op 78 330 = some (.ireturn, 331, 330) := by decide +kernel
theorem c78_187 : fx_ts 78 187 = some (0, [228, 245, 262, 279, 294, 297, 314], 331) := by decide +kernel
theorem c78_333 : fx_ca 78 333 = some (79, 1, 0, 336) := by decide +kernel
theorem c78_180 : fx_op 78 180 = some (.ireturn, 181, 180) := by decide +kernel
theorem c78_167 : fx_op 78 167 = some (.goto (-134), 170, 33) := by decide +kernel
theorem c78_336 : fx_op 78 336 = some (.aload_n 0, 337, 336) := by decide +kernel
theorem c78_337 : fx_gf 78 337 = some (3, 7, 340) := by decide +kernel
theorem c78_340 : fx_op 78 340 = some (.iload_n 1, 341, 340) := by decide +kernel
theorem c78_342 : fx_op 78 342 = some (.if_icmp .ne 7, 345, 349) := by decide +kernel
theorem c78_349 : fx_ci 78 349 = some (0, 350) := by decide +kernel
theorem c78_345 : fx_ci 78 345 = some (1, 346) := by decide +kernel
theorem c78_346 : fx_op 78 346 = some (.goto 4, 349, 350) := by decide +kernel
theorem c78_341 : fx_op 78 341 = some (.iaload, 342, 341) := by decide +kernel
theorem c78_350 : fx_op 78 350 = some (.ireturn, 351, 350) := by decide +kernel
theorem n78_152 : xS 78 ((xI 78 152).getD .nop) = none := by decide +kernel
theorem n78_155 : xS 78 ((xI 78 155).getD .nop) = none := by decide +kernel
theorem s78_0 {kc : List va_E} {d : Nat} {p : Nat} {x1 x2 x3 : Int} {M : fx_M} {Q : Option fx_V → fx_M → Prop} (Hp : fx_puz p) (H : wp kc (d + 1) 78 33 [some (jR p), some (jI x1), some (jI x2), some (jI x3), some (jI 0), some (jI 0), some (jI 0), some (jI (-1)), some (jI 0), some (jI 0), some (jI 1), some (jI 99), some (jI (fx_and x2 3)), some (jI 0), none] [] M Q) : wp kc (d + 1) 78 0 [some (jR p), some (jI x1), some (jI x2), some (jI x3), none, none, none, none, none, none, none, none, none, none, none] [] M Q :=
  (x_ci c78_0 (x_ist (l' := [some (jR p), some (jI x1), some (jI x2), some (jI x3), some (jI 0), none, none, none, none, none, none, none, none, none, none]) c78_1 rfl (x_ci c78_3 (x_ist (l' := [some (jR p), some (jI x1), some (jI x2), some (jI x3), some (jI 0), some (jI 0), none, none, none, none, none, none, none, none, none]) c78_4 rfl (x_ci c78_6 (x_ist (l' := [some (jR p), some (jI x1), some (jI x2), some (jI x3), some (jI 0), some (jI 0), some (jI 0), none, none, none, none, none, none, none, none]) c78_7 rfl (x_ci c78_9 (x_ist (l' := [some (jR p), some (jI x1), some (jI x2), some (jI x3), some (jI 0), some (jI 0), some (jI 0), some (jI (-1)), none, none, none, none, none, none, none]) c78_10 rfl (x_ci c78_12 (x_ist (l' := [some (jR p), some (jI x1), some (jI x2), some (jI x3), some (jI 0), some (jI 0), some (jI 0), some (jI (-1)), some (jI 0), none, none, none, none, none, none]) c78_13 rfl (x_ci c78_15 (x_ist (l' := [some (jR p), some (jI x1), some (jI x2), some (jI x3), some (jI 0), some (jI 0), some (jI 0), some (jI (-1)), some (jI 0), some (jI 0), none, none, none, none, none]) c78_16 rfl (x_ci c78_18 (x_ist (l' := [some (jR p), some (jI x1), some (jI x2), some (jI x3), some (jI 0), some (jI 0), some (jI 0), some (jI (-1)), some (jI 0), some (jI 0), some (jI 1), none, none, none, none]) c78_19 rfl (x_ci c78_21 (x_ist (l' := [some (jR p), some (jI x1), some (jI x2), some (jI x3), some (jI 0), some (jI 0), some (jI 0), some (jI (-1)), some (jI 0), some (jI 0), some (jI 1), some (jI 99), none, none, none]) c78_23 rfl (x_ildn c78_25 rfl (x_ci c78_26 (x_iand c78_27 (x_ist (l' := [some (jR p), some (jI x1), some (jI x2), some (jI x3), some (jI 0), some (jI 0), some (jI 0), some (jI (-1)), some (jI 0), some (jI 0), some (jI 1), some (jI 99), some (jI (fx_and x2 3)), none, none]) c78_28 rfl (x_ci c78_30 (x_ist (l' := [some (jR p), some (jI x1), some (jI x2), some (jI x3), some (jI 0), some (jI 0), some (jI 0), some (jI (-1)), some (jI 0), some (jI 0), some (jI 1), some (jI 99), some (jI (fx_and x2 3)), some (jI 0), none]) c78_31 rfl (wp_wk (l' := [some (jR p), some (jI x1), some (jI x2), some (jI x3), some (jI 0), some (jI 0), some (jI 0), some (jI (-1)), some (jI 0), some (jI 0), some (jI 1), some (jI 99), some (jI (fx_and x2 3)), some (jI 0), none]) ⟨rfl, ⟨rfl, ⟨rfl, ⟨rfl, ⟨rfl, ⟨rfl, ⟨rfl, ⟨rfl, ⟨rfl, ⟨rfl, ⟨rfl, ⟨rfl, ⟨rfl, ⟨rfl, trivial⟩⟩⟩⟩⟩⟩⟩⟩⟩⟩⟩⟩⟩⟩ H)))))))))))))))))))))))
theorem s78_33 {kc : List va_E} {d : Nat} {p : Nat} {v1 v2 v3 v4 v5 v6 v7 v8 v9 v10 v11 v12 v13 : Int} {M : fx_M} {Q : Option fx_V → fx_M → Prop} (Hp : fx_puz p) (H : (((0 : Int) ≤ v1 ∧ v1 < 12)) ∧ ((fx_in32 v13) ∧ (fx_in32 (M (p + 3) v1))) ∧ (M (p + 3) v1 ≤ v13 → ((fx_in32 v7) ∧ (fx_in32 (M p 3))) ∧ (v7 < M p 3 → (((0 : Int) ≤ v1 ∧ v1 < 12)) ∧ (fx_in32 (M (p + 1) v1) ∧ (M (p + 1) v1 = 0 → (((0 : Int) ≤ v1 ∧ v1 < 12)) ∧ ((fx_in32 v5)) ∧ ((fx_in32 (M (p + 3) v1))) ∧ ((0 : Int) ≤ (if v5 = M (p + 3) v1 then (1 : Int) else 0) ∧ (if v5 = M (p + 3) v1 then (1 : Int) else 0) ≤ 1) ∧ Q (some (jI (if v5 = M (p + 3) v1 then (1 : Int) else 0))) M) ∧ (M (p + 1) v1 = 1 → (((0 : Int) ≤ v1 ∧ v1 < 12)) ∧ ((fx_in32 v11)) ∧ ((fx_in32 (M (p + 2) v1))) ∧ ((0 : Int) ≤ (if v11 < M (p + 2) v1 then (0 : Int) else 1) ∧ (if v11 < M (p + 2) v1 then (0 : Int) else 1) ≤ 1) ∧ Q (some (jI (if v11 < M (p + 2) v1 then (0 : Int) else 1))) M) ∧ (M (p + 1) v1 = 2 → (((0 : Int) ≤ v1 ∧ v1 < 12)) ∧ ((fx_in32 v5)) ∧ ((fx_in32 (M (p + 2) v1))) ∧ ((0 : Int) ≤ (if v5 = M (p + 2) v1 then (1 : Int) else 0) ∧ (if v5 = M (p + 2) v1 then (1 : Int) else 0) ≤ 1) ∧ Q (some (jI (if v5 = M (p + 2) v1 then (1 : Int) else 0))) M) ∧ (M (p + 1) v1 = 3 → ((fx_in32 (fx_and (fx_shr v3 v8) 1))) ∧ ((0 : Int) ≤ (if fx_and (fx_shr v3 v8) 1 = 0 then (0 : Int) else 1) ∧ (if fx_and (fx_shr v3 v8) 1 = 0 then (0 : Int) else 1) ≤ 1) ∧ Q (some (jI (if fx_and (fx_shr v3 v8) 1 = 0 then (0 : Int) else 1))) M) ∧ (M (p + 1) v1 = 4 → ((0 : Int) ≤ v10 ∧ v10 ≤ 1) ∧ Q (some (jI v10)) M) ∧ (M (p + 1) v1 = 5 → (((0 : Int) ≤ v1 ∧ v1 < 12)) ∧ ((fx_in32 v6)) ∧ ((fx_in32 (M (p + 2) v1))) ∧ ((0 : Int) ≤ (if v6 = M (p + 2) v1 then (1 : Int) else 0) ∧ (if v6 = M (p + 2) v1 then (1 : Int) else 0) ≤ 1) ∧ Q (some (jI (if v6 = M (p + 2) v1 then (1 : Int) else 0))) M) ∧ (M (p + 1) v1 = 6 → (((0 : Int) ≤ v1 ∧ v1 < 12)) ∧ ((fx_in32 v4)) ∧ ((fx_in32 (M (p + 2) v1))) ∧ ((0 : Int) ≤ (if v4 = M (p + 2) v1 then (1 : Int) else 0) ∧ (if v4 = M (p + 2) v1 then (1 : Int) else 0) ≤ 1) ∧ Q (some (jI (if v4 = M (p + 2) v1 then (1 : Int) else 0))) M) ∧ ((M (p + 1) v1 < 0 ∨ 7 ≤ M (p + 1) v1) → wc kc d 79 [jI v9] M (fun v M1 => wp kc (d + 1) 78 336 [some (jR p), some (jI v1), none, none, none, none, none, none, none, none, none, none, none, none, none] (v.toList ++ []) M1 Q)))) ∧ (M p 3 ≤ v7 → Q (some (jI 0)) M)) ∧ (v13 < M (p + 3) v1 → ((fx_in32 (fx_and (fx_shr v2 (2 * v13)) 3))) ∧ ((fx_in32 (fx_and v2 3))) ∧ ((fx_in32 (fx_and (fx_shr v2 (2 * v13)) 3))) ∧ ((fx_in32 (fx_and (fx_shr v2 (2 * v13)) 3))) ∧ ((fx_in32 v7)) ∧ ((fx_in32 v13)) ∧ (0 < v13 → (fx_in32 v10)) ∧ (0 < v13 → v10 = 0 → (((fx_in32 ((fx_and (fx_shr v2 (2 * v13)) 3) - v12))))) ∧ (0 < v13 → v10 = 0 → (((fx_in32 v11) ∧ (fx_in32 (if (0 : Int) ≤ (fx_and (fx_shr v2 (2 * v13)) 3) - v12 then ((fx_and (fx_shr v2 (2 * v13)) 3) - v12 : Int) else 0 - ((fx_and (fx_shr v2 (2 * v13)) 3) - v12)))))) ∧ (0 < v13 → v10 ≠ 0 → (fx_in32 (fx_and (fx_shr v2 (2 * v13)) 3))) ∧ (0 < v13 → v10 ≠ 0 → (fx_in32 v12)) ∧ (0 < v13 → v10 ≠ 0 → fx_and (fx_shr v2 (2 * v13)) 3 ≤ v12 → (((fx_in32 ((fx_and (fx_shr v2 (2 * v13)) 3) - v12))))) ∧ (0 < v13 → v10 ≠ 0 → fx_and (fx_shr v2 (2 * v13)) 3 ≤ v12 → (((fx_in32 v11) ∧ (fx_in32 (if (0 : Int) ≤ (fx_and (fx_shr v2 (2 * v13)) 3) - v12 then ((fx_and (fx_shr v2 (2 * v13)) 3) - v12 : Int) else 0 - ((fx_and (fx_shr v2 (2 * v13)) 3) - v12)))))) ∧ (0 < v13 → v10 ≠ 0 → v12 < fx_and (fx_shr v2 (2 * v13)) 3 → (((fx_in32 ((fx_and (fx_shr v2 (2 * v13)) 3) - v12))))) ∧ (0 < v13 → v10 ≠ 0 → v12 < fx_and (fx_shr v2 (2 * v13)) 3 → (((fx_in32 v11) ∧ (fx_in32 (if (0 : Int) ≤ (fx_and (fx_shr v2 (2 * v13)) 3) - v12 then ((fx_and (fx_shr v2 (2 * v13)) 3) - v12 : Int) else 0 - ((fx_and (fx_shr v2 (2 * v13)) 3) - v12)))))) ∧ wp kc (d + 1) 78 33 [some (jR p), some (jI v1), some (jI v2), some (jI v3), some (jI (v4 + (fx_and (fx_shr v2 (2 * v13)) 3))), some (jI (v5 + (if fx_and (fx_shr v2 (2 * v13)) 3 = fx_and v2 3 then (1 : Int) else 0))), some (jI (if v7 < fx_and (fx_shr v2 (2 * v13)) 3 then (v6 + 1 : Int) else v6)), some (jI (if v7 < fx_and (fx_shr v2 (2 * v13)) 3 then (fx_and (fx_shr v2 (2 * v13)) 3 : Int) else v7)), some (jI (fx_or v8 (if fx_and (fx_shr v2 (2 * v13)) 3 = 1 then (fx_shl 1 v13 : Int) else 0))), some (jI (fx_or v9 (fx_shl 1 (fx_and (fx_shr v2 (2 * v13)) 3)))), some (jI (if 0 < v13 then ((if v10 = 0 then (0 : Int) else (if v12 < fx_and (fx_shr v2 (2 * v13)) 3 then (1 : Int) else 0)) : Int) else v10)), some (jI (if 0 < v13 then ((if (if (0 : Int) ≤ (fx_and (fx_shr v2 (2 * v13)) 3) - v12 then ((fx_and (fx_shr v2 (2 * v13)) 3) - v12 : Int) else 0 - ((fx_and (fx_shr v2 (2 * v13)) 3) - v12)) < v11 then ((if (0 : Int) ≤ (fx_and (fx_shr v2 (2 * v13)) 3) - v12 then ((fx_and (fx_shr v2 (2 * v13)) 3) - v12 : Int) else 0 - ((fx_and (fx_shr v2 (2 * v13)) 3) - v12)) : Int) else v11) : Int) else v11)), some (jI (fx_and (fx_shr v2 (2 * v13)) 3)), some (jI (v13 + 1)), none] [] M Q)) : wp kc (d + 1) 78 33 [some (jR p), some (jI v1), some (jI v2), some (jI v3), some (jI v4), some (jI v5), some (jI v6), some (jI v7), some (jI v8), some (jI v9), some (jI v10), some (jI v11), some (jI v12), some (jI v13), none] [] M Q :=
  (x_ild c78_33 rfl (x_aldn c78_35 rfl (x_gfr c78_36 (kp_7 Hp) (x_ildn c78_39 rfl (x_iald c78_40 (ap_3 Hp) H.1 (by decide) (x_cge c78_41 H.2.1.1 H.2.1.2 (fun h3 => (x_ild c78_170 rfl (x_aldn c78_172 rfl (x_gfi c78_173 (kp_3 Hp) (x_clt c78_176 (H.2.2.1 h3).1.1 (H.2.2.1 h3).1.2 (fun h1 => (x_aldn c78_181 rfl (x_gfr c78_182 (kp_5 Hp) (x_ildn c78_185 rfl (x_iald c78_186 (ap_1 Hp) ((H.2.2.1 h3).2.1 h1).1 (by decide) (x_sw c78_187 ((H.2.2.1 h3).2.1 h1).2.1 ⟨fun h5 => (x_ild c78_228 rfl (x_aldn c78_230 rfl (x_gfr c78_231 (kp_7 Hp) (x_ildn c78_234 rfl (x_iald c78_235 (ap_3 Hp) (((H.2.2.1 h3).2.1 h1).2.2.1 h5).1 (by decide) (have K : wp kc (d + 1) 78 244 [none, none, none, none, none, none, none, none, none, none, none, none, none, none, none] [jI (if v5 = M (p + 3) v1 then (1 : Int) else 0)] M Q := (x_zrt c78_244 r78 (((H.2.2.1 h3).2.1 h1).2.2.1 h5).2.2.2.1 (((H.2.2.1 h3).2.1 h1).2.2.1 h5).2.2.2.2); (x_cne c78_236 (((H.2.2.1 h3).2.1 h1).2.2.1 h5).2.1 (((H.2.2.1 h3).2.1 h1).2.2.1 h5).2.2.1 (fun (h6 : v5 ≠ M (p + 3) v1) => (x_ci c78_243 (wp_wk (l' := [none, none, none, none, none, none, none, none, none, none, none, none, none, none, none]) trivial (by have K := K; first | (simp only [if_neg h6] at K ⊢; exact K) | (exfalso; omega))))) (fun (h7 : v5 = M (p + 3) v1) => (x_ci c78_239 (x_goto c78_240 (wp_wk (l' := [none, none, none, none, none, none, none, none, none, none, none, none, none, none, none]) trivial (by have K := K; first | (simp only [if_pos h7] at K ⊢; exact K) | (exfalso; omega))))))))))))), ⟨fun h8 => (x_ild c78_245 rfl (x_aldn c78_247 rfl (x_gfr c78_248 (kp_6 Hp) (x_ildn c78_251 rfl (x_iald c78_252 (ap_2 Hp) (((H.2.2.1 h3).2.1 h1).2.2.2.1 h8).1 (by decide) (have K : wp kc (d + 1) 78 261 [none, none, none, none, none, none, none, none, none, none, none, none, none, none, none] [jI (if v11 < M (p + 2) v1 then (0 : Int) else 1)] M Q := (x_zrt c78_261 r78 (((H.2.2.1 h3).2.1 h1).2.2.2.1 h8).2.2.2.1 (((H.2.2.1 h3).2.1 h1).2.2.2.1 h8).2.2.2.2); (x_clt c78_253 (((H.2.2.1 h3).2.1 h1).2.2.2.1 h8).2.1 (((H.2.2.1 h3).2.1 h1).2.2.2.1 h8).2.2.1 (fun (h9 : v11 < M (p + 2) v1) => (x_ci c78_260 (wp_wk (l' := [none, none, none, none, none, none, none, none, none, none, none, none, none, none, none]) trivial (by have K := K; first | (simp only [if_pos h9] at K ⊢; exact K) | (exfalso; omega))))) (fun (h10 : M (p + 2) v1 ≤ v11) => (x_ci c78_256 (x_goto c78_257 (wp_wk (l' := [none, none, none, none, none, none, none, none, none, none, none, none, none, none, none]) trivial (by have K := K; first | (simp only [if_neg (Int.not_lt.mpr h10)] at K ⊢; exact K) | (exfalso; omega))))))))))))), ⟨fun h11 => (x_ild c78_262 rfl (x_aldn c78_264 rfl (x_gfr c78_265 (kp_6 Hp) (x_ildn c78_268 rfl (x_iald c78_269 (ap_2 Hp) (((H.2.2.1 h3).2.1 h1).2.2.2.2.1 h11).1 (by decide) (have K : wp kc (d + 1) 78 278 [none, none, none, none, none, none, none, none, none, none, none, none, none, none, none] [jI (if v5 = M (p + 2) v1 then (1 : Int) else 0)] M Q := (x_zrt c78_278 r78 (((H.2.2.1 h3).2.1 h1).2.2.2.2.1 h11).2.2.2.1 (((H.2.2.1 h3).2.1 h1).2.2.2.2.1 h11).2.2.2.2); (x_cne c78_270 (((H.2.2.1 h3).2.1 h1).2.2.2.2.1 h11).2.1 (((H.2.2.1 h3).2.1 h1).2.2.2.2.1 h11).2.2.1 (fun (h12 : v5 ≠ M (p + 2) v1) => (x_ci c78_277 (wp_wk (l' := [none, none, none, none, none, none, none, none, none, none, none, none, none, none, none]) trivial (by have K := K; first | (simp only [if_neg h12] at K ⊢; exact K) | (exfalso; omega))))) (fun (h13 : v5 = M (p + 2) v1) => (x_ci c78_273 (x_goto c78_274 (wp_wk (l' := [none, none, none, none, none, none, none, none, none, none, none, none, none, none, none]) trivial (by have K := K; first | (simp only [if_pos h13] at K ⊢; exact K) | (exfalso; omega))))))))))))), ⟨fun h14 => (x_ildn c78_279 rfl (x_ild c78_280 rfl (x_ishr c78_282 (x_ci c78_283 (x_iand c78_284 (have K : wp kc (d + 1) 78 293 [none, none, none, none, none, none, none, none, none, none, none, none, none, none, none] [jI (if fx_and (fx_shr v3 v8) 1 = 0 then (0 : Int) else 1)] M Q := (x_zrt c78_293 r78 (((H.2.2.1 h3).2.1 h1).2.2.2.2.2.1 h14).2.1 (((H.2.2.1 h3).2.1 h1).2.2.2.2.2.1 h14).2.2); (x_zeq c78_285 (((H.2.2.1 h3).2.1 h1).2.2.2.2.2.1 h14).1 (fun (h15 : fx_and (fx_shr v3 v8) 1 = 0) => (x_ci c78_292 (wp_wk (l' := [none, none, none, none, none, none, none, none, none, none, none, none, none, none, none]) trivial (by have K := K; first | (simp only [if_pos h15] at K ⊢; exact K) | (exfalso; omega))))) (fun (h16 : fx_and (fx_shr v3 v8) 1 ≠ 0) => (x_ci c78_288 (x_goto c78_289 (wp_wk (l' := [none, none, none, none, none, none, none, none, none, none, none, none, none, none, none]) trivial (by have K := K; first | (simp only [if_neg h16] at K ⊢; exact K) | (exfalso; omega))))))))))))), ⟨fun h17 => (x_ild c78_294 rfl (x_zrt c78_296 r78 (((H.2.2.1 h3).2.1 h1).2.2.2.2.2.2.1 h17).1 (((H.2.2.1 h3).2.1 h1).2.2.2.2.2.2.1 h17).2)), ⟨fun h18 => (x_ild c78_297 rfl (x_aldn c78_299 rfl (x_gfr c78_300 (kp_6 Hp) (x_ildn c78_303 rfl (x_iald c78_304 (ap_2 Hp) (((H.2.2.1 h3).2.1 h1).2.2.2.2.2.2.2.1 h18).1 (by decide) (have K : wp kc (d + 1) 78 313 [none, none, none, none, none, none, none, none, none, none, none, none, none, none, none] [jI (if v6 = M (p + 2) v1 then (1 : Int) else 0)] M Q := (x_zrt c78_313 r78 (((H.2.2.1 h3).2.1 h1).2.2.2.2.2.2.2.1 h18).2.2.2.1 (((H.2.2.1 h3).2.1 h1).2.2.2.2.2.2.2.1 h18).2.2.2.2); (x_cne c78_305 (((H.2.2.1 h3).2.1 h1).2.2.2.2.2.2.2.1 h18).2.1 (((H.2.2.1 h3).2.1 h1).2.2.2.2.2.2.2.1 h18).2.2.1 (fun (h19 : v6 ≠ M (p + 2) v1) => (x_ci c78_312 (wp_wk (l' := [none, none, none, none, none, none, none, none, none, none, none, none, none, none, none]) trivial (by have K := K; first | (simp only [if_neg h19] at K ⊢; exact K) | (exfalso; omega))))) (fun (h20 : v6 = M (p + 2) v1) => (x_ci c78_308 (x_goto c78_309 (wp_wk (l' := [none, none, none, none, none, none, none, none, none, none, none, none, none, none, none]) trivial (by have K := K; first | (simp only [if_pos h20] at K ⊢; exact K) | (exfalso; omega))))))))))))), ⟨fun h21 => (x_ild c78_314 rfl (x_aldn c78_316 rfl (x_gfr c78_317 (kp_6 Hp) (x_ildn c78_320 rfl (x_iald c78_321 (ap_2 Hp) (((H.2.2.1 h3).2.1 h1).2.2.2.2.2.2.2.2.1 h21).1 (by decide) (have K : wp kc (d + 1) 78 330 [none, none, none, none, none, none, none, none, none, none, none, none, none, none, none] [jI (if v4 = M (p + 2) v1 then (1 : Int) else 0)] M Q := (x_zrt c78_330 r78 (((H.2.2.1 h3).2.1 h1).2.2.2.2.2.2.2.2.1 h21).2.2.2.1 (((H.2.2.1 h3).2.1 h1).2.2.2.2.2.2.2.2.1 h21).2.2.2.2); (x_cne c78_322 (((H.2.2.1 h3).2.1 h1).2.2.2.2.2.2.2.2.1 h21).2.1 (((H.2.2.1 h3).2.1 h1).2.2.2.2.2.2.2.2.1 h21).2.2.1 (fun (h22 : v4 ≠ M (p + 2) v1) => (x_ci c78_329 (wp_wk (l' := [none, none, none, none, none, none, none, none, none, none, none, none, none, none, none]) trivial (by have K := K; first | (simp only [if_neg h22] at K ⊢; exact K) | (exfalso; omega))))) (fun (h23 : v4 = M (p + 2) v1) => (x_ci c78_325 (x_goto c78_326 (wp_wk (l' := [none, none, none, none, none, none, none, none, none, none, none, none, none, none, none]) trivial (by have K := K; first | (simp only [if_pos h23] at K ⊢; exact K) | (exfalso; omega))))))))))))), trivial⟩⟩⟩⟩⟩⟩⟩ (fun h24 => (x_ild c78_331 rfl (wp_wk (l' := [some (jR p), some (jI v1), none, none, none, none, none, none, none, none, none, none, none, none, none]) ⟨rfl, ⟨rfl, trivial⟩⟩ (x_cs (As := [jI v9]) (st := []) c78_333 (by decide) rfl (Nat.le_of_ble_eq_true rfl) mx79 (Nat.le_refl _) (((H.2.2.1 h3).2.1 h1).2.2.2.2.2.2.2.2.2 h24))))))))))) (fun h2 => (x_ci c78_179 (x_zrt c78_180 r78 (by decide) ((H.2.2.1 h3).2.2 h2))))))))) (fun h4 => (x_ildn c78_44 rfl (x_ci c78_45 (x_ild c78_46 rfl (x_imul c78_48 (x_ishr c78_49 (x_ci c78_50 (x_iand c78_51 (x_ist (l' := [some (jR p), some (jI v1), some (jI v2), some (jI v3), some (jI v4), some (jI v5), some (jI v6), some (jI v7), some (jI v8), some (jI v9), some (jI v10), some (jI v11), some (jI v12), some (jI v13), some (jI (fx_and (fx_shr v2 (2 * v13)) 3))]) c78_52 rfl (x_ild c78_54 rfl (x_ild c78_56 rfl (x_iadd c78_58 (x_ist (l' := [some (jR p), some (jI v1), some (jI v2), some (jI v3), some (jI (v4 + (fx_and (fx_shr v2 (2 * v13)) 3))), some (jI v5), some (jI v6), some (jI v7), some (jI v8), some (jI v9), some (jI v10), some (jI v11), some (jI v12), some (jI v13), some (jI (fx_and (fx_shr v2 (2 * v13)) 3))]) c78_59 rfl (x_ild c78_61 rfl (x_ild c78_63 rfl (x_ildn c78_65 rfl (x_ci c78_66 (x_iand c78_67 (have K : wp kc (d + 1) 78 76 [some (jR p), some (jI v1), some (jI v2), some (jI v3), some (jI (v4 + (fx_and (fx_shr v2 (2 * v13)) 3))), none, some (jI v6), some (jI v7), some (jI v8), some (jI v9), some (jI v10), some (jI v11), some (jI v12), some (jI v13), some (jI (fx_and (fx_shr v2 (2 * v13)) 3))] [jI (if fx_and (fx_shr v2 (2 * v13)) 3 = fx_and v2 3 then (1 : Int) else 0), jI v5] M Q := (x_iadd c78_76 (x_ist (l' := [some (jR p), some (jI v1), some (jI v2), some (jI v3), some (jI (v4 + (fx_and (fx_shr v2 (2 * v13)) 3))), some (jI (v5 + (if fx_and (fx_shr v2 (2 * v13)) 3 = fx_and v2 3 then (1 : Int) else 0))), some (jI v6), some (jI v7), some (jI v8), some (jI v9), some (jI v10), some (jI v11), some (jI v12), some (jI v13), some (jI (fx_and (fx_shr v2 (2 * v13)) 3))]) c78_77 rfl (x_ild c78_79 rfl (x_ild c78_81 rfl (x_ci c78_83 (have K : wp kc (d + 1) 78 95 [some (jR p), some (jI v1), some (jI v2), some (jI v3), some (jI (v4 + (fx_and (fx_shr v2 (2 * v13)) 3))), some (jI (v5 + (if fx_and (fx_shr v2 (2 * v13)) 3 = fx_and v2 3 then (1 : Int) else 0))), some (jI v6), some (jI v7), none, some (jI v9), some (jI v10), some (jI v11), some (jI v12), some (jI v13), some (jI (fx_and (fx_shr v2 (2 * v13)) 3))] [jI (if fx_and (fx_shr v2 (2 * v13)) 3 = 1 then (fx_shl 1 v13 : Int) else 0), jI v8] M Q := (x_ior c78_95 (x_ist (l' := [some (jR p), some (jI v1), some (jI v2), some (jI v3), some (jI (v4 + (fx_and (fx_shr v2 (2 * v13)) 3))), some (jI (v5 + (if fx_and (fx_shr v2 (2 * v13)) 3 = fx_and v2 3 then (1 : Int) else 0))), some (jI v6), some (jI v7), some (jI (fx_or v8 (if fx_and (fx_shr v2 (2 * v13)) 3 = 1 then (fx_shl 1 v13 : Int) else 0))), some (jI v9), some (jI v10), some (jI v11), some (jI v12), some (jI v13), some (jI (fx_and (fx_shr v2 (2 * v13)) 3))]) c78_96 rfl (x_ild c78_98 rfl (x_ci c78_100 (x_ild c78_101 rfl (x_ishl c78_103 (x_ior c78_104 (x_ist (l' := [some (jR p), some (jI v1), some (jI v2), some (jI v3), some (jI (v4 + (fx_and (fx_shr v2 (2 * v13)) 3))), some (jI (v5 + (if fx_and (fx_shr v2 (2 * v13)) 3 = fx_and v2 3 then (1 : Int) else 0))), some (jI v6), some (jI v7), some (jI (fx_or v8 (if fx_and (fx_shr v2 (2 * v13)) 3 = 1 then (fx_shl 1 v13 : Int) else 0))), some (jI (fx_or v9 (fx_shl 1 (fx_and (fx_shr v2 (2 * v13)) 3)))), some (jI v10), some (jI v11), some (jI v12), some (jI v13), some (jI (fx_and (fx_shr v2 (2 * v13)) 3))]) c78_105 rfl (x_ild c78_107 rfl (x_ild c78_109 rfl (have K : wp kc (d + 1) 78 121 [some (jR p), some (jI v1), some (jI v2), some (jI v3), some (jI (v4 + (fx_and (fx_shr v2 (2 * v13)) 3))), some (jI (v5 + (if fx_and (fx_shr v2 (2 * v13)) 3 = fx_and v2 3 then (1 : Int) else 0))), some (jI (if v7 < fx_and (fx_shr v2 (2 * v13)) 3 then (v6 + 1 : Int) else v6)), some (jI (if v7 < fx_and (fx_shr v2 (2 * v13)) 3 then (fx_and (fx_shr v2 (2 * v13)) 3 : Int) else v7)), some (jI (fx_or v8 (if fx_and (fx_shr v2 (2 * v13)) 3 = 1 then (fx_shl 1 v13 : Int) else 0))), some (jI (fx_or v9 (fx_shl 1 (fx_and (fx_shr v2 (2 * v13)) 3)))), some (jI v10), some (jI v11), some (jI v12), some (jI v13), some (jI (fx_and (fx_shr v2 (2 * v13)) 3))] [] M Q := (x_ild c78_121 rfl (have K : wp kc (d + 1) 78 160 [some (jR p), some (jI v1), some (jI v2), some (jI v3), some (jI (v4 + (fx_and (fx_shr v2 (2 * v13)) 3))), some (jI (v5 + (if fx_and (fx_shr v2 (2 * v13)) 3 = fx_and v2 3 then (1 : Int) else 0))), some (jI (if v7 < fx_and (fx_shr v2 (2 * v13)) 3 then (v6 + 1 : Int) else v6)), some (jI (if v7 < fx_and (fx_shr v2 (2 * v13)) 3 then (fx_and (fx_shr v2 (2 * v13)) 3 : Int) else v7)), some (jI (fx_or v8 (if fx_and (fx_shr v2 (2 * v13)) 3 = 1 then (fx_shl 1 v13 : Int) else 0))), some (jI (fx_or v9 (fx_shl 1 (fx_and (fx_shr v2 (2 * v13)) 3)))), some (jI (if 0 < v13 then ((if v10 = 0 then (0 : Int) else (if v12 < fx_and (fx_shr v2 (2 * v13)) 3 then (1 : Int) else 0)) : Int) else v10)), some (jI (if 0 < v13 then ((if (if (0 : Int) ≤ (fx_and (fx_shr v2 (2 * v13)) 3) - v12 then ((fx_and (fx_shr v2 (2 * v13)) 3) - v12 : Int) else 0 - ((fx_and (fx_shr v2 (2 * v13)) 3) - v12)) < v11 then ((if (0 : Int) ≤ (fx_and (fx_shr v2 (2 * v13)) 3) - v12 then ((fx_and (fx_shr v2 (2 * v13)) 3) - v12 : Int) else 0 - ((fx_and (fx_shr v2 (2 * v13)) 3) - v12)) : Int) else v11) : Int) else v11)), none, some (jI v13), some (jI (fx_and (fx_shr v2 (2 * v13)) 3))] [] M Q := (x_ild c78_160 rfl (x_ist (l' := [some (jR p), some (jI v1), some (jI v2), some (jI v3), some (jI (v4 + (fx_and (fx_shr v2 (2 * v13)) 3))), some (jI (v5 + (if fx_and (fx_shr v2 (2 * v13)) 3 = fx_and v2 3 then (1 : Int) else 0))), some (jI (if v7 < fx_and (fx_shr v2 (2 * v13)) 3 then (v6 + 1 : Int) else v6)), some (jI (if v7 < fx_and (fx_shr v2 (2 * v13)) 3 then (fx_and (fx_shr v2 (2 * v13)) 3 : Int) else v7)), some (jI (fx_or v8 (if fx_and (fx_shr v2 (2 * v13)) 3 = 1 then (fx_shl 1 v13 : Int) else 0))), some (jI (fx_or v9 (fx_shl 1 (fx_and (fx_shr v2 (2 * v13)) 3)))), some (jI (if 0 < v13 then ((if v10 = 0 then (0 : Int) else (if v12 < fx_and (fx_shr v2 (2 * v13)) 3 then (1 : Int) else 0)) : Int) else v10)), some (jI (if 0 < v13 then ((if (if (0 : Int) ≤ (fx_and (fx_shr v2 (2 * v13)) 3) - v12 then ((fx_and (fx_shr v2 (2 * v13)) 3) - v12 : Int) else 0 - ((fx_and (fx_shr v2 (2 * v13)) 3) - v12)) < v11 then ((if (0 : Int) ≤ (fx_and (fx_shr v2 (2 * v13)) 3) - v12 then ((fx_and (fx_shr v2 (2 * v13)) 3) - v12 : Int) else 0 - ((fx_and (fx_shr v2 (2 * v13)) 3) - v12)) : Int) else v11) : Int) else v11)), some (jI (fx_and (fx_shr v2 (2 * v13)) 3)), some (jI v13), some (jI (fx_and (fx_shr v2 (2 * v13)) 3))]) c78_162 rfl (x_inc (l' := [some (jR p), some (jI v1), some (jI v2), some (jI v3), some (jI (v4 + (fx_and (fx_shr v2 (2 * v13)) 3))), some (jI (v5 + (if fx_and (fx_shr v2 (2 * v13)) 3 = fx_and v2 3 then (1 : Int) else 0))), some (jI (if v7 < fx_and (fx_shr v2 (2 * v13)) 3 then (v6 + 1 : Int) else v6)), some (jI (if v7 < fx_and (fx_shr v2 (2 * v13)) 3 then (fx_and (fx_shr v2 (2 * v13)) 3 : Int) else v7)), some (jI (fx_or v8 (if fx_and (fx_shr v2 (2 * v13)) 3 = 1 then (fx_shl 1 v13 : Int) else 0))), some (jI (fx_or v9 (fx_shl 1 (fx_and (fx_shr v2 (2 * v13)) 3)))), some (jI (if 0 < v13 then ((if v10 = 0 then (0 : Int) else (if v12 < fx_and (fx_shr v2 (2 * v13)) 3 then (1 : Int) else 0)) : Int) else v10)), some (jI (if 0 < v13 then ((if (if (0 : Int) ≤ (fx_and (fx_shr v2 (2 * v13)) 3) - v12 then ((fx_and (fx_shr v2 (2 * v13)) 3) - v12 : Int) else 0 - ((fx_and (fx_shr v2 (2 * v13)) 3) - v12)) < v11 then ((if (0 : Int) ≤ (fx_and (fx_shr v2 (2 * v13)) 3) - v12 then ((fx_and (fx_shr v2 (2 * v13)) 3) - v12 : Int) else 0 - ((fx_and (fx_shr v2 (2 * v13)) 3) - v12)) : Int) else v11) : Int) else v11)), some (jI (fx_and (fx_shr v2 (2 * v13)) 3)), some (jI (v13 + 1)), some (jI (fx_and (fx_shr v2 (2 * v13)) 3))]) c78_164 rfl rfl (x_goto c78_167 (wp_wk (l' := [some (jR p), some (jI v1), some (jI v2), some (jI v3), some (jI (v4 + (fx_and (fx_shr v2 (2 * v13)) 3))), some (jI (v5 + (if fx_and (fx_shr v2 (2 * v13)) 3 = fx_and v2 3 then (1 : Int) else 0))), some (jI (if v7 < fx_and (fx_shr v2 (2 * v13)) 3 then (v6 + 1 : Int) else v6)), some (jI (if v7 < fx_and (fx_shr v2 (2 * v13)) 3 then (fx_and (fx_shr v2 (2 * v13)) 3 : Int) else v7)), some (jI (fx_or v8 (if fx_and (fx_shr v2 (2 * v13)) 3 = 1 then (fx_shl 1 v13 : Int) else 0))), some (jI (fx_or v9 (fx_shl 1 (fx_and (fx_shr v2 (2 * v13)) 3)))), some (jI (if 0 < v13 then ((if v10 = 0 then (0 : Int) else (if v12 < fx_and (fx_shr v2 (2 * v13)) 3 then (1 : Int) else 0)) : Int) else v10)), some (jI (if 0 < v13 then ((if (if (0 : Int) ≤ (fx_and (fx_shr v2 (2 * v13)) 3) - v12 then ((fx_and (fx_shr v2 (2 * v13)) 3) - v12 : Int) else 0 - ((fx_and (fx_shr v2 (2 * v13)) 3) - v12)) < v11 then ((if (0 : Int) ≤ (fx_and (fx_shr v2 (2 * v13)) 3) - v12 then ((fx_and (fx_shr v2 (2 * v13)) 3) - v12 : Int) else 0 - ((fx_and (fx_shr v2 (2 * v13)) 3) - v12)) : Int) else v11) : Int) else v11)), some (jI (fx_and (fx_shr v2 (2 * v13)) 3)), some (jI (v13 + 1)), none]) ⟨rfl, ⟨rfl, ⟨rfl, ⟨rfl, ⟨rfl, ⟨rfl, ⟨rfl, ⟨rfl, ⟨rfl, ⟨rfl, ⟨rfl, ⟨rfl, ⟨rfl, ⟨rfl, trivial⟩⟩⟩⟩⟩⟩⟩⟩⟩⟩⟩⟩⟩⟩ (H.2.2.2 h4).2.2.2.2.2.2.2.2.2.2.2.2.2.2.2))))); (x_zle c78_123 (H.2.2.2 h4).2.2.2.2.2.1 (fun (h31 : v13 ≤ 0) => (wp_wk (l' := [some (jR p), some (jI v1), some (jI v2), some (jI v3), some (jI (v4 + (fx_and (fx_shr v2 (2 * v13)) 3))), some (jI (v5 + (if fx_and (fx_shr v2 (2 * v13)) 3 = fx_and v2 3 then (1 : Int) else 0))), some (jI (if v7 < fx_and (fx_shr v2 (2 * v13)) 3 then (v6 + 1 : Int) else v6)), some (jI (if v7 < fx_and (fx_shr v2 (2 * v13)) 3 then (fx_and (fx_shr v2 (2 * v13)) 3 : Int) else v7)), some (jI (fx_or v8 (if fx_and (fx_shr v2 (2 * v13)) 3 = 1 then (fx_shl 1 v13 : Int) else 0))), some (jI (fx_or v9 (fx_shl 1 (fx_and (fx_shr v2 (2 * v13)) 3)))), some (jI v10), some (jI v11), none, some (jI v13), some (jI (fx_and (fx_shr v2 (2 * v13)) 3))]) ⟨rfl, ⟨rfl, ⟨rfl, ⟨rfl, ⟨rfl, ⟨rfl, ⟨rfl, ⟨rfl, ⟨rfl, ⟨rfl, ⟨rfl, ⟨rfl, ⟨rfl, ⟨rfl, trivial⟩⟩⟩⟩⟩⟩⟩⟩⟩⟩⟩⟩⟩⟩ (by have K := K; first | (simp only [if_neg (Int.not_lt.mpr h31)] at K ⊢; exact K) | (exfalso; omega)))) (fun (h32 : 0 < v13) => (x_ild c78_126 rfl (x_zeq c78_128 ((H.2.2.2 h4).2.2.2.2.2.2.1 h32) (fun (h33 : v10 = 0) => (x_ci c78_142 (x_ist (l' := [some (jR p), some (jI v1), some (jI v2), some (jI v3), some (jI (v4 + (fx_and (fx_shr v2 (2 * v13)) 3))), some (jI (v5 + (if fx_and (fx_shr v2 (2 * v13)) 3 = fx_and v2 3 then (1 : Int) else 0))), some (jI (if v7 < fx_and (fx_shr v2 (2 * v13)) 3 then (v6 + 1 : Int) else v6)), some (jI (if v7 < fx_and (fx_shr v2 (2 * v13)) 3 then (fx_and (fx_shr v2 (2 * v13)) 3 : Int) else v7)), some (jI (fx_or v8 (if fx_and (fx_shr v2 (2 * v13)) 3 = 1 then (fx_shl 1 v13 : Int) else 0))), some (jI (fx_or v9 (fx_shl 1 (fx_and (fx_shr v2 (2 * v13)) 3)))), some (jI 0), some (jI v11), some (jI v12), some (jI v13), some (jI (fx_and (fx_shr v2 (2 * v13)) 3))]) c78_143 rfl (x_ild c78_145 rfl (x_ild c78_147 rfl (x_ild c78_149 rfl (x_isub c78_151 (x_abs c78_152 n78_152 ((H.2.2.2 h4).2.2.2.2.2.2.2.1 h32 h33) (Nat.le_of_ble_eq_true rfl) (x_min c78_155 n78_155 ((H.2.2.2 h4).2.2.2.2.2.2.2.2.1 h32 h33).1 ((H.2.2.2 h4).2.2.2.2.2.2.2.2.1 h32 h33).2 (Nat.le_of_ble_eq_true rfl) (x_ist (l' := [some (jR p), some (jI v1), some (jI v2), some (jI v3), some (jI (v4 + (fx_and (fx_shr v2 (2 * v13)) 3))), some (jI (v5 + (if fx_and (fx_shr v2 (2 * v13)) 3 = fx_and v2 3 then (1 : Int) else 0))), some (jI (if v7 < fx_and (fx_shr v2 (2 * v13)) 3 then (v6 + 1 : Int) else v6)), some (jI (if v7 < fx_and (fx_shr v2 (2 * v13)) 3 then (fx_and (fx_shr v2 (2 * v13)) 3 : Int) else v7)), some (jI (fx_or v8 (if fx_and (fx_shr v2 (2 * v13)) 3 = 1 then (fx_shl 1 v13 : Int) else 0))), some (jI (fx_or v9 (fx_shl 1 (fx_and (fx_shr v2 (2 * v13)) 3)))), some (jI 0), some (jI (if (if (0 : Int) ≤ (fx_and (fx_shr v2 (2 * v13)) 3) - v12 then ((fx_and (fx_shr v2 (2 * v13)) 3) - v12 : Int) else 0 - ((fx_and (fx_shr v2 (2 * v13)) 3) - v12)) < v11 then ((if (0 : Int) ≤ (fx_and (fx_shr v2 (2 * v13)) 3) - v12 then ((fx_and (fx_shr v2 (2 * v13)) 3) - v12 : Int) else 0 - ((fx_and (fx_shr v2 (2 * v13)) 3) - v12)) : Int) else v11)), some (jI v12), some (jI v13), some (jI (fx_and (fx_shr v2 (2 * v13)) 3))]) c78_158 rfl (wp_wk (l' := [some (jR p), some (jI v1), some (jI v2), some (jI v3), some (jI (v4 + (fx_and (fx_shr v2 (2 * v13)) 3))), some (jI (v5 + (if fx_and (fx_shr v2 (2 * v13)) 3 = fx_and v2 3 then (1 : Int) else 0))), some (jI (if v7 < fx_and (fx_shr v2 (2 * v13)) 3 then (v6 + 1 : Int) else v6)), some (jI (if v7 < fx_and (fx_shr v2 (2 * v13)) 3 then (fx_and (fx_shr v2 (2 * v13)) 3 : Int) else v7)), some (jI (fx_or v8 (if fx_and (fx_shr v2 (2 * v13)) 3 = 1 then (fx_shl 1 v13 : Int) else 0))), some (jI (fx_or v9 (fx_shl 1 (fx_and (fx_shr v2 (2 * v13)) 3)))), some (jI 0), some (jI (if (if (0 : Int) ≤ (fx_and (fx_shr v2 (2 * v13)) 3) - v12 then ((fx_and (fx_shr v2 (2 * v13)) 3) - v12 : Int) else 0 - ((fx_and (fx_shr v2 (2 * v13)) 3) - v12)) < v11 then ((if (0 : Int) ≤ (fx_and (fx_shr v2 (2 * v13)) 3) - v12 then ((fx_and (fx_shr v2 (2 * v13)) 3) - v12 : Int) else 0 - ((fx_and (fx_shr v2 (2 * v13)) 3) - v12)) : Int) else v11)), none, some (jI v13), some (jI (fx_and (fx_shr v2 (2 * v13)) 3))]) ⟨rfl, ⟨rfl, ⟨rfl, ⟨rfl, ⟨rfl, ⟨rfl, ⟨rfl, ⟨rfl, ⟨rfl, ⟨rfl, ⟨rfl, ⟨rfl, ⟨rfl, ⟨rfl, trivial⟩⟩⟩⟩⟩⟩⟩⟩⟩⟩⟩⟩⟩⟩ (by have K := K; first | (simp only [if_pos h32, if_pos h33] at K ⊢; exact K) | (exfalso; omega))))))))))))) (fun (h34 : v10 ≠ 0) => (x_ild c78_131 rfl (x_ild c78_133 rfl (x_cle c78_135 ((H.2.2.2 h4).2.2.2.2.2.2.2.2.2.1 h32 h34) ((H.2.2.2 h4).2.2.2.2.2.2.2.2.2.2.1 h32 h34) (fun (h35 : fx_and (fx_shr v2 (2 * v13)) 3 ≤ v12) => (x_ci c78_142 (x_ist (l' := [some (jR p), some (jI v1), some (jI v2), some (jI v3), some (jI (v4 + (fx_and (fx_shr v2 (2 * v13)) 3))), some (jI (v5 + (if fx_and (fx_shr v2 (2 * v13)) 3 = fx_and v2 3 then (1 : Int) else 0))), some (jI (if v7 < fx_and (fx_shr v2 (2 * v13)) 3 then (v6 + 1 : Int) else v6)), some (jI (if v7 < fx_and (fx_shr v2 (2 * v13)) 3 then (fx_and (fx_shr v2 (2 * v13)) 3 : Int) else v7)), some (jI (fx_or v8 (if fx_and (fx_shr v2 (2 * v13)) 3 = 1 then (fx_shl 1 v13 : Int) else 0))), some (jI (fx_or v9 (fx_shl 1 (fx_and (fx_shr v2 (2 * v13)) 3)))), some (jI 0), some (jI v11), some (jI v12), some (jI v13), some (jI (fx_and (fx_shr v2 (2 * v13)) 3))]) c78_143 rfl (x_ild c78_145 rfl (x_ild c78_147 rfl (x_ild c78_149 rfl (x_isub c78_151 (x_abs c78_152 n78_152 ((H.2.2.2 h4).2.2.2.2.2.2.2.2.2.2.2.1 h32 h34 h35) (Nat.le_of_ble_eq_true rfl) (x_min c78_155 n78_155 ((H.2.2.2 h4).2.2.2.2.2.2.2.2.2.2.2.2.1 h32 h34 h35).1 ((H.2.2.2 h4).2.2.2.2.2.2.2.2.2.2.2.2.1 h32 h34 h35).2 (Nat.le_of_ble_eq_true rfl) (x_ist (l' := [some (jR p), some (jI v1), some (jI v2), some (jI v3), some (jI (v4 + (fx_and (fx_shr v2 (2 * v13)) 3))), some (jI (v5 + (if fx_and (fx_shr v2 (2 * v13)) 3 = fx_and v2 3 then (1 : Int) else 0))), some (jI (if v7 < fx_and (fx_shr v2 (2 * v13)) 3 then (v6 + 1 : Int) else v6)), some (jI (if v7 < fx_and (fx_shr v2 (2 * v13)) 3 then (fx_and (fx_shr v2 (2 * v13)) 3 : Int) else v7)), some (jI (fx_or v8 (if fx_and (fx_shr v2 (2 * v13)) 3 = 1 then (fx_shl 1 v13 : Int) else 0))), some (jI (fx_or v9 (fx_shl 1 (fx_and (fx_shr v2 (2 * v13)) 3)))), some (jI 0), some (jI (if (if (0 : Int) ≤ (fx_and (fx_shr v2 (2 * v13)) 3) - v12 then ((fx_and (fx_shr v2 (2 * v13)) 3) - v12 : Int) else 0 - ((fx_and (fx_shr v2 (2 * v13)) 3) - v12)) < v11 then ((if (0 : Int) ≤ (fx_and (fx_shr v2 (2 * v13)) 3) - v12 then ((fx_and (fx_shr v2 (2 * v13)) 3) - v12 : Int) else 0 - ((fx_and (fx_shr v2 (2 * v13)) 3) - v12)) : Int) else v11)), some (jI v12), some (jI v13), some (jI (fx_and (fx_shr v2 (2 * v13)) 3))]) c78_158 rfl (wp_wk (l' := [some (jR p), some (jI v1), some (jI v2), some (jI v3), some (jI (v4 + (fx_and (fx_shr v2 (2 * v13)) 3))), some (jI (v5 + (if fx_and (fx_shr v2 (2 * v13)) 3 = fx_and v2 3 then (1 : Int) else 0))), some (jI (if v7 < fx_and (fx_shr v2 (2 * v13)) 3 then (v6 + 1 : Int) else v6)), some (jI (if v7 < fx_and (fx_shr v2 (2 * v13)) 3 then (fx_and (fx_shr v2 (2 * v13)) 3 : Int) else v7)), some (jI (fx_or v8 (if fx_and (fx_shr v2 (2 * v13)) 3 = 1 then (fx_shl 1 v13 : Int) else 0))), some (jI (fx_or v9 (fx_shl 1 (fx_and (fx_shr v2 (2 * v13)) 3)))), some (jI 0), some (jI (if (if (0 : Int) ≤ (fx_and (fx_shr v2 (2 * v13)) 3) - v12 then ((fx_and (fx_shr v2 (2 * v13)) 3) - v12 : Int) else 0 - ((fx_and (fx_shr v2 (2 * v13)) 3) - v12)) < v11 then ((if (0 : Int) ≤ (fx_and (fx_shr v2 (2 * v13)) 3) - v12 then ((fx_and (fx_shr v2 (2 * v13)) 3) - v12 : Int) else 0 - ((fx_and (fx_shr v2 (2 * v13)) 3) - v12)) : Int) else v11)), none, some (jI v13), some (jI (fx_and (fx_shr v2 (2 * v13)) 3))]) ⟨rfl, ⟨rfl, ⟨rfl, ⟨rfl, ⟨rfl, ⟨rfl, ⟨rfl, ⟨rfl, ⟨rfl, ⟨rfl, ⟨rfl, ⟨rfl, ⟨rfl, ⟨rfl, trivial⟩⟩⟩⟩⟩⟩⟩⟩⟩⟩⟩⟩⟩⟩ (by have K := K; first | (simp only [if_pos h32, if_neg h34, if_neg (Int.not_lt.mpr h35)] at K ⊢; exact K) | (exfalso; omega))))))))))))) (fun (h36 : v12 < fx_and (fx_shr v2 (2 * v13)) 3) => (x_ci c78_138 (x_goto c78_139 (x_ist (l' := [some (jR p), some (jI v1), some (jI v2), some (jI v3), some (jI (v4 + (fx_and (fx_shr v2 (2 * v13)) 3))), some (jI (v5 + (if fx_and (fx_shr v2 (2 * v13)) 3 = fx_and v2 3 then (1 : Int) else 0))), some (jI (if v7 < fx_and (fx_shr v2 (2 * v13)) 3 then (v6 + 1 : Int) else v6)), some (jI (if v7 < fx_and (fx_shr v2 (2 * v13)) 3 then (fx_and (fx_shr v2 (2 * v13)) 3 : Int) else v7)), some (jI (fx_or v8 (if fx_and (fx_shr v2 (2 * v13)) 3 = 1 then (fx_shl 1 v13 : Int) else 0))), some (jI (fx_or v9 (fx_shl 1 (fx_and (fx_shr v2 (2 * v13)) 3)))), some (jI 1), some (jI v11), some (jI v12), some (jI v13), some (jI (fx_and (fx_shr v2 (2 * v13)) 3))]) c78_143 rfl (x_ild c78_145 rfl (x_ild c78_147 rfl (x_ild c78_149 rfl (x_isub c78_151 (x_abs c78_152 n78_152 ((H.2.2.2 h4).2.2.2.2.2.2.2.2.2.2.2.2.2.1 h32 h34 h36) (Nat.le_of_ble_eq_true rfl) (x_min c78_155 n78_155 ((H.2.2.2 h4).2.2.2.2.2.2.2.2.2.2.2.2.2.2.1 h32 h34 h36).1 ((H.2.2.2 h4).2.2.2.2.2.2.2.2.2.2.2.2.2.2.1 h32 h34 h36).2 (Nat.le_of_ble_eq_true rfl) (x_ist (l' := [some (jR p), some (jI v1), some (jI v2), some (jI v3), some (jI (v4 + (fx_and (fx_shr v2 (2 * v13)) 3))), some (jI (v5 + (if fx_and (fx_shr v2 (2 * v13)) 3 = fx_and v2 3 then (1 : Int) else 0))), some (jI (if v7 < fx_and (fx_shr v2 (2 * v13)) 3 then (v6 + 1 : Int) else v6)), some (jI (if v7 < fx_and (fx_shr v2 (2 * v13)) 3 then (fx_and (fx_shr v2 (2 * v13)) 3 : Int) else v7)), some (jI (fx_or v8 (if fx_and (fx_shr v2 (2 * v13)) 3 = 1 then (fx_shl 1 v13 : Int) else 0))), some (jI (fx_or v9 (fx_shl 1 (fx_and (fx_shr v2 (2 * v13)) 3)))), some (jI 1), some (jI (if (if (0 : Int) ≤ (fx_and (fx_shr v2 (2 * v13)) 3) - v12 then ((fx_and (fx_shr v2 (2 * v13)) 3) - v12 : Int) else 0 - ((fx_and (fx_shr v2 (2 * v13)) 3) - v12)) < v11 then ((if (0 : Int) ≤ (fx_and (fx_shr v2 (2 * v13)) 3) - v12 then ((fx_and (fx_shr v2 (2 * v13)) 3) - v12 : Int) else 0 - ((fx_and (fx_shr v2 (2 * v13)) 3) - v12)) : Int) else v11)), some (jI v12), some (jI v13), some (jI (fx_and (fx_shr v2 (2 * v13)) 3))]) c78_158 rfl (wp_wk (l' := [some (jR p), some (jI v1), some (jI v2), some (jI v3), some (jI (v4 + (fx_and (fx_shr v2 (2 * v13)) 3))), some (jI (v5 + (if fx_and (fx_shr v2 (2 * v13)) 3 = fx_and v2 3 then (1 : Int) else 0))), some (jI (if v7 < fx_and (fx_shr v2 (2 * v13)) 3 then (v6 + 1 : Int) else v6)), some (jI (if v7 < fx_and (fx_shr v2 (2 * v13)) 3 then (fx_and (fx_shr v2 (2 * v13)) 3 : Int) else v7)), some (jI (fx_or v8 (if fx_and (fx_shr v2 (2 * v13)) 3 = 1 then (fx_shl 1 v13 : Int) else 0))), some (jI (fx_or v9 (fx_shl 1 (fx_and (fx_shr v2 (2 * v13)) 3)))), some (jI 1), some (jI (if (if (0 : Int) ≤ (fx_and (fx_shr v2 (2 * v13)) 3) - v12 then ((fx_and (fx_shr v2 (2 * v13)) 3) - v12 : Int) else 0 - ((fx_and (fx_shr v2 (2 * v13)) 3) - v12)) < v11 then ((if (0 : Int) ≤ (fx_and (fx_shr v2 (2 * v13)) 3) - v12 then ((fx_and (fx_shr v2 (2 * v13)) 3) - v12 : Int) else 0 - ((fx_and (fx_shr v2 (2 * v13)) 3) - v12)) : Int) else v11)), none, some (jI v13), some (jI (fx_and (fx_shr v2 (2 * v13)) 3))]) ⟨rfl, ⟨rfl, ⟨rfl, ⟨rfl, ⟨rfl, ⟨rfl, ⟨rfl, ⟨rfl, ⟨rfl, ⟨rfl, ⟨rfl, ⟨rfl, ⟨rfl, ⟨rfl, trivial⟩⟩⟩⟩⟩⟩⟩⟩⟩⟩⟩⟩⟩⟩ (by have K := K; first | (simp only [if_pos h32, if_neg h34, if_pos h36] at K ⊢; exact K) | (exfalso; omega)))))))))))))))))))))))); (x_cle c78_111 (H.2.2.2 h4).2.2.2.1 (H.2.2.2 h4).2.2.2.2.1 (fun (h29 : fx_and (fx_shr v2 (2 * v13)) 3 ≤ v7) => (wp_wk (l' := [some (jR p), some (jI v1), some (jI v2), some (jI v3), some (jI (v4 + (fx_and (fx_shr v2 (2 * v13)) 3))), some (jI (v5 + (if fx_and (fx_shr v2 (2 * v13)) 3 = fx_and v2 3 then (1 : Int) else 0))), some (jI v6), some (jI v7), some (jI (fx_or v8 (if fx_and (fx_shr v2 (2 * v13)) 3 = 1 then (fx_shl 1 v13 : Int) else 0))), some (jI (fx_or v9 (fx_shl 1 (fx_and (fx_shr v2 (2 * v13)) 3)))), some (jI v10), some (jI v11), some (jI v12), some (jI v13), some (jI (fx_and (fx_shr v2 (2 * v13)) 3))]) ⟨rfl, ⟨rfl, ⟨rfl, ⟨rfl, ⟨rfl, ⟨rfl, ⟨rfl, ⟨rfl, ⟨rfl, ⟨rfl, ⟨rfl, ⟨rfl, ⟨rfl, ⟨rfl, ⟨rfl, trivial⟩⟩⟩⟩⟩⟩⟩⟩⟩⟩⟩⟩⟩⟩⟩ (by have K := K; first | (simp only [if_neg (Int.not_lt.mpr h29)] at K ⊢; exact K) | (exfalso; omega)))) (fun (h30 : v7 < fx_and (fx_shr v2 (2 * v13)) 3) => (x_inc (l' := [some (jR p), some (jI v1), some (jI v2), some (jI v3), some (jI (v4 + (fx_and (fx_shr v2 (2 * v13)) 3))), some (jI (v5 + (if fx_and (fx_shr v2 (2 * v13)) 3 = fx_and v2 3 then (1 : Int) else 0))), some (jI (v6 + 1)), some (jI v7), some (jI (fx_or v8 (if fx_and (fx_shr v2 (2 * v13)) 3 = 1 then (fx_shl 1 v13 : Int) else 0))), some (jI (fx_or v9 (fx_shl 1 (fx_and (fx_shr v2 (2 * v13)) 3)))), some (jI v10), some (jI v11), some (jI v12), some (jI v13), some (jI (fx_and (fx_shr v2 (2 * v13)) 3))]) c78_114 rfl rfl (x_ild c78_117 rfl (x_ist (l' := [some (jR p), some (jI v1), some (jI v2), some (jI v3), some (jI (v4 + (fx_and (fx_shr v2 (2 * v13)) 3))), some (jI (v5 + (if fx_and (fx_shr v2 (2 * v13)) 3 = fx_and v2 3 then (1 : Int) else 0))), some (jI (v6 + 1)), some (jI (fx_and (fx_shr v2 (2 * v13)) 3)), some (jI (fx_or v8 (if fx_and (fx_shr v2 (2 * v13)) 3 = 1 then (fx_shl 1 v13 : Int) else 0))), some (jI (fx_or v9 (fx_shl 1 (fx_and (fx_shr v2 (2 * v13)) 3)))), some (jI v10), some (jI v11), some (jI v12), some (jI v13), some (jI (fx_and (fx_shr v2 (2 * v13)) 3))]) c78_119 rfl (wp_wk (l' := [some (jR p), some (jI v1), some (jI v2), some (jI v3), some (jI (v4 + (fx_and (fx_shr v2 (2 * v13)) 3))), some (jI (v5 + (if fx_and (fx_shr v2 (2 * v13)) 3 = fx_and v2 3 then (1 : Int) else 0))), some (jI (v6 + 1)), some (jI (fx_and (fx_shr v2 (2 * v13)) 3)), some (jI (fx_or v8 (if fx_and (fx_shr v2 (2 * v13)) 3 = 1 then (fx_shl 1 v13 : Int) else 0))), some (jI (fx_or v9 (fx_shl 1 (fx_and (fx_shr v2 (2 * v13)) 3)))), some (jI v10), some (jI v11), some (jI v12), some (jI v13), some (jI (fx_and (fx_shr v2 (2 * v13)) 3))]) ⟨rfl, ⟨rfl, ⟨rfl, ⟨rfl, ⟨rfl, ⟨rfl, ⟨rfl, ⟨rfl, ⟨rfl, ⟨rfl, ⟨rfl, ⟨rfl, ⟨rfl, ⟨rfl, ⟨rfl, trivial⟩⟩⟩⟩⟩⟩⟩⟩⟩⟩⟩⟩⟩⟩⟩ (by have K := K; first | (simp only [if_pos h30] at K ⊢; exact K) | (exfalso; omega))))))))))))))))))); (x_cne c78_84 (H.2.2.2 h4).2.2.1 (by decide) (fun (h27 : fx_and (fx_shr v2 (2 * v13)) 3 ≠ 1) => (x_ci c78_94 (wp_wk (l' := [some (jR p), some (jI v1), some (jI v2), some (jI v3), some (jI (v4 + (fx_and (fx_shr v2 (2 * v13)) 3))), some (jI (v5 + (if fx_and (fx_shr v2 (2 * v13)) 3 = fx_and v2 3 then (1 : Int) else 0))), some (jI v6), some (jI v7), none, some (jI v9), some (jI v10), some (jI v11), some (jI v12), some (jI v13), some (jI (fx_and (fx_shr v2 (2 * v13)) 3))]) ⟨rfl, ⟨rfl, ⟨rfl, ⟨rfl, ⟨rfl, ⟨rfl, ⟨rfl, ⟨rfl, ⟨rfl, ⟨rfl, ⟨rfl, ⟨rfl, ⟨rfl, ⟨rfl, trivial⟩⟩⟩⟩⟩⟩⟩⟩⟩⟩⟩⟩⟩⟩ (by have K := K; first | (simp only [if_neg h27] at K ⊢; exact K) | (exfalso; omega))))) (fun (h28 : fx_and (fx_shr v2 (2 * v13)) 3 = 1) => (x_ci c78_87 (x_ild c78_88 rfl (x_ishl c78_90 (x_goto c78_91 (wp_wk (l' := [some (jR p), some (jI v1), some (jI v2), some (jI v3), some (jI (v4 + (fx_and (fx_shr v2 (2 * v13)) 3))), some (jI (v5 + (if fx_and (fx_shr v2 (2 * v13)) 3 = fx_and v2 3 then (1 : Int) else 0))), some (jI v6), some (jI v7), none, some (jI v9), some (jI v10), some (jI v11), some (jI v12), some (jI v13), some (jI (fx_and (fx_shr v2 (2 * v13)) 3))]) ⟨rfl, ⟨rfl, ⟨rfl, ⟨rfl, ⟨rfl, ⟨rfl, ⟨rfl, ⟨rfl, ⟨rfl, ⟨rfl, ⟨rfl, ⟨rfl, ⟨rfl, ⟨rfl, trivial⟩⟩⟩⟩⟩⟩⟩⟩⟩⟩⟩⟩⟩⟩ (by have K := K; first | (simp only [if_pos h28] at K ⊢; exact K) | (exfalso; omega))))))))))))))); (x_cne c78_68 (H.2.2.2 h4).1 (H.2.2.2 h4).2.1 (fun (h25 : fx_and (fx_shr v2 (2 * v13)) 3 ≠ fx_and v2 3) => (x_ci c78_75 (wp_wk (l' := [some (jR p), some (jI v1), some (jI v2), some (jI v3), some (jI (v4 + (fx_and (fx_shr v2 (2 * v13)) 3))), none, some (jI v6), some (jI v7), some (jI v8), some (jI v9), some (jI v10), some (jI v11), some (jI v12), some (jI v13), some (jI (fx_and (fx_shr v2 (2 * v13)) 3))]) ⟨rfl, ⟨rfl, ⟨rfl, ⟨rfl, ⟨rfl, ⟨rfl, ⟨rfl, ⟨rfl, ⟨rfl, ⟨rfl, ⟨rfl, ⟨rfl, ⟨rfl, ⟨rfl, trivial⟩⟩⟩⟩⟩⟩⟩⟩⟩⟩⟩⟩⟩⟩ (by have K := K; first | (simp only [if_neg h25] at K ⊢; exact K) | (exfalso; omega))))) (fun (h26 : fx_and (fx_shr v2 (2 * v13)) 3 = fx_and v2 3) => (x_ci c78_71 (x_goto c78_72 (wp_wk (l' := [some (jR p), some (jI v1), some (jI v2), some (jI v3), some (jI (v4 + (fx_and (fx_shr v2 (2 * v13)) 3))), none, some (jI v6), some (jI v7), some (jI v8), some (jI v9), some (jI v10), some (jI v11), some (jI v12), some (jI v13), some (jI (fx_and (fx_shr v2 (2 * v13)) 3))]) ⟨rfl, ⟨rfl, ⟨rfl, ⟨rfl, ⟨rfl, ⟨rfl, ⟨rfl, ⟨rfl, ⟨rfl, ⟨rfl, ⟨rfl, ⟨rfl, ⟨rfl, ⟨rfl, trivial⟩⟩⟩⟩⟩⟩⟩⟩⟩⟩⟩⟩⟩⟩ (by have K := K; first | (simp only [if_pos h26] at K ⊢; exact K) | (exfalso; omega))))))))))))))))))))))))))))))))
theorem s78_336 {kc : List va_E} {d : Nat} {p : Nat} {v1 u0 : Int} {M : fx_M} {Q : Option fx_V → fx_M → Prop} (Hp : fx_puz p) (H : (((0 : Int) ≤ v1 ∧ v1 < 12)) ∧ ((fx_in32 u0)) ∧ ((fx_in32 (M (p + 3) v1))) ∧ ((0 : Int) ≤ (if u0 = M (p + 3) v1 then (1 : Int) else 0) ∧ (if u0 = M (p + 3) v1 then (1 : Int) else 0) ≤ 1) ∧ Q (some (jI (if u0 = M (p + 3) v1 then (1 : Int) else 0))) M) : wp kc (d + 1) 78 336 [some (jR p), some (jI v1), none, none, none, none, none, none, none, none, none, none, none, none, none] [jI u0] M Q :=
  (x_aldn c78_336 rfl (x_gfr c78_337 (kp_7 Hp) (x_ildn c78_340 rfl (x_iald c78_341 (ap_3 Hp) H.1 (by decide) (have K : wp kc (d + 1) 78 350 [none, none, none, none, none, none, none, none, none, none, none, none, none, none, none] [jI (if u0 = M (p + 3) v1 then (1 : Int) else 0)] M Q := (x_zrt c78_350 r78 H.2.2.2.1 H.2.2.2.2); (x_cne c78_342 H.2.1 H.2.2.1 (fun (h1 : u0 ≠ M (p + 3) v1) => (x_ci c78_349 (wp_wk (l' := [none, none, none, none, none, none, none, none, none, none, none, none, none, none, none]) trivial (by have K := K; first | (simp only [if_neg h1] at K ⊢; exact K) | (exfalso; omega))))) (fun (h2 : u0 = M (p + 3) v1) => (x_ci c78_345 (x_goto c78_346 (wp_wk (l' := [none, none, none, none, none, none, none, none, none, none, none, none, none, none, none]) trivial (by have K := K; first | (simp only [if_pos h2] at K ⊢; exact K) | (exfalso; omega))))))))))))
theorem s78 {kc : List va_E} {d : Nat} {p : Nat} {x1 x2 x3 : Int} {M : fx_M} {Q : Option fx_V → fx_M → Prop} (Hp : fx_puz p) (H : wp kc (d + 1) 78 33 [some (jR p), some (jI x1), some (jI x2), some (jI x3), some (jI 0), some (jI 0), some (jI 0), some (jI (-1)), some (jI 0), some (jI 0), some (jI 1), some (jI 99), some (jI (fx_and x2 3)), some (jI 0), none] [] M Q) : wc kc (d + 1) 78 [jR p, jI x1, jI x2, jI x3] M Q :=
  wc_of (wp_wk (l' := [some (jR p), some (jI x1), some (jI x2), some (jI x3), none, none, none, none, none, none, none, none, none, none, none]) ⟨rfl, ⟨rfl, ⟨rfl, ⟨rfl, trivial⟩⟩⟩⟩ (s78_0 Hp H))

/- PuzzleHouse$Puzzle.first()J -/
theorem c81_0 : fx_op 81 0 = some (.aload_n 0, 1, 0) := by decide +kernel
theorem c81_1 : fx_ca 81 1 = some (82, 1, 2, 4) := by decide +kernel
theorem c81_4 : fx_op 81 4 = some (.lstore_n 1, 5, 4) := by decide +kernel
theorem c81_5 : fx_ci 81 5 = some (0, 6) := by decide +kernel
theorem c81_6 : fx_op 81 6 = some (.istore_n 3, 7, 6) := by decide +kernel
theorem c81_7 : fx_op 81 7 = some (.iload_n 3, 8, 7) := by decide +kernel
theorem c81_8 : fx_op 81 8 = some (.aload_n 0, 9, 8) := by decide +kernel
theorem c81_9 : fx_gf 81 9 = some (3, 2, 12) := by decide +kernel
theorem c81_12 : fx_op 81 12 = some (.if_icmp .ge 30, 15, 42) := by decide +kernel
theorem c81_15 : fx_op 81 15 = some (.aload_n 0, 16, 15) := by decide +kernel
theorem c81_16 : fx_gf 81 16 = some (3, 10, 19) := by decide +kernel
theorem c81_19 : fx_op 81 19 = some (.iload_n 3, 20, 19) := by decide +kernel
theorem c81_20 : fx_op 81 20 = some (.iaload, 21, 20) := by decide +kernel
theorem c81_21 : fx_op 81 21 = some (.ifCond .lt 15, 24, 36) := by decide +kernel
theorem c81_36 : fx_op 81 36 = some (.iinc 3 1, 39, 36) := by decide +kernel
theorem c81_42 : fx_op 81 42 = some (.lload_n 1, 43, 42) := by decide +kernel
theorem c81_24 : fx_op 81 24 = some (.lload_n 1, 25, 24) := by decide +kernel
theorem c81_25 : fx_op 81 25 = some (.iload_n 3, 26, 25) := by decide +kernel
theorem c81_26 : fx_op 81 26 = some (.aload_n 0, 27, 26) := by decide +kernel
theorem c81_27 : fx_gf 81 27 = some (3, 10, 30) := by decide +kernel
theorem c81_30 : fx_op 81 30 = some (.iload_n 3, 31, 30) := by decide +kernel
theorem c81_31 : fx_op 81 31 = some (.iaload, 32, 31) := by decide +kernel
theorem c81_43 : fx_op 81 43 = some (.lreturn, 44, 43) := by decide +kernel
theorem c81_39 : fx_op 81 39 = some (.goto (-32), 42, 7) := by decide +kernel
theorem c81_32 : fx_ca 81 32 = some (83, 3, 1, 35) := by decide +kernel
theorem c81_35 : fx_op 81 35 = some (.lstore_n 1, 36, 35) := by decide +kernel
theorem s81_0 {kc : List va_E} {d : Nat} {p : Nat} {M : fx_M} {Q : Option fx_V → fx_M → Prop} (Hp : fx_puz p) (H : wc kc d 82 [jR p] M (fun v M1 => wp kc (d + 1) 81 4 [some (jR p), none, none, none] (v.toList ++ []) M1 Q)) : wp kc (d + 1) 81 0 [some (jR p), none, none, none] [] M Q :=
  (x_aldn c81_0 rfl (wp_wk (l' := [some (jR p), none, none, none]) ⟨rfl, trivial⟩ (x_cv (As := []) (st := []) c81_1 (clp Hp) kl82 rfl (Nat.le_of_ble_eq_true rfl) mx82 (Nat.le_refl _) H)))
theorem s81_4 {kc : List va_E} {d : Nat} {p : Nat} {u0 : Int} {M : fx_M} {Q : Option fx_V → fx_M → Prop} (Hp : fx_puz p) (H : wp kc (d + 1) 81 7 [some (jR p), some (jL u0), none, some (jI 0)] [] M Q) : wp kc (d + 1) 81 4 [some (jR p), none, none, none] [jL u0] M Q :=
  (x_lstn (l' := [some (jR p), some (jL u0), none, none]) c81_4 rfl (x_ci c81_5 (x_istn (l' := [some (jR p), some (jL u0), none, some (jI 0)]) c81_6 rfl (wp_wk (l' := [some (jR p), some (jL u0), none, some (jI 0)]) ⟨rfl, ⟨rfl, ⟨rfl, trivial⟩⟩⟩ H))))
theorem s81_7 {kc : List va_E} {d : Nat} {p : Nat} {v1 v3 : Int} {M : fx_M} {Q : Option fx_V → fx_M → Prop} (Hp : fx_puz p) (H : ((fx_in32 v3) ∧ (fx_in32 (M p 2))) ∧ (M p 2 ≤ v3 → Q (some (jL v1)) M) ∧ (v3 < M p 2 → (((0 : Int) ≤ v3 ∧ v3 < 9)) ∧ ((fx_in32 (M (p + 6) v3))) ∧ (M (p + 6) v3 < 0 → wp kc (d + 1) 81 7 [some (jR p), some (jL v1), none, some (jI (v3 + 1))] [] M Q) ∧ (0 ≤ M (p + 6) v3 → (((0 : Int) ≤ v3 ∧ v3 < 9)) ∧ wc kc d 83 [jL v1, jI v3, jI (M (p + 6) v3)] M (fun v M1 => wp kc (d + 1) 81 35 [some (jR p), none, none, some (jI v3)] (v.toList ++ []) M1 Q)))) : wp kc (d + 1) 81 7 [some (jR p), some (jL v1), none, some (jI v3)] [] M Q :=
  (x_ildn c81_7 rfl (x_aldn c81_8 rfl (x_gfi c81_9 (kp_2 Hp) (x_cge c81_12 H.1.1 H.1.2 (fun h3 => (x_lldn c81_42 rfl (x_lrt c81_43 r81 (H.2.1 h3)))) (fun h4 => (x_aldn c81_15 rfl (x_gfr c81_16 (kp_10 Hp) (x_ildn c81_19 rfl (x_iald c81_20 (ap_6 Hp) (H.2.2 h4).1 (by decide) (x_zlt c81_21 (H.2.2 h4).2.1 (fun h1 => (x_inc (l' := [some (jR p), some (jL v1), none, some (jI (v3 + 1))]) c81_36 rfl rfl (x_goto c81_39 (wp_wk (l' := [some (jR p), some (jL v1), none, some (jI (v3 + 1))]) ⟨rfl, ⟨rfl, ⟨rfl, trivial⟩⟩⟩ ((H.2.2 h4).2.2.1 h1))))) (fun h2 => (x_lldn c81_24 rfl (x_ildn c81_25 rfl (x_aldn c81_26 rfl (x_gfr c81_27 (kp_10 Hp) (x_ildn c81_30 rfl (x_iald c81_31 (ap_6 Hp) ((H.2.2 h4).2.2.2 h2).1 (by decide) (wp_wk (l' := [some (jR p), none, none, some (jI v3)]) ⟨rfl, ⟨rfl, trivial⟩⟩ (x_cs (As := [jL v1, jI v3, jI (M (p + 6) v3)]) (st := []) c81_32 (by decide) rfl (Nat.le_of_ble_eq_true rfl) mx83 (Nat.le_refl _) ((H.2.2 h4).2.2.2 h2).2)))))))))))))))))))
theorem s81_35 {kc : List va_E} {d : Nat} {p : Nat} {v3 u0 : Int} {M : fx_M} {Q : Option fx_V → fx_M → Prop} (Hp : fx_puz p) (H : wp kc (d + 1) 81 7 [some (jR p), some (jL u0), none, some (jI (v3 + 1))] [] M Q) : wp kc (d + 1) 81 35 [some (jR p), none, none, some (jI v3)] [jL u0] M Q :=
  (x_lstn (l' := [some (jR p), some (jL u0), none, some (jI v3)]) c81_35 rfl (x_inc (l' := [some (jR p), some (jL u0), none, some (jI (v3 + 1))]) c81_36 rfl rfl (x_goto c81_39 (wp_wk (l' := [some (jR p), some (jL u0), none, some (jI (v3 + 1))]) ⟨rfl, ⟨rfl, ⟨rfl, trivial⟩⟩⟩ H))))
theorem s81 {kc : List va_E} {d : Nat} {p : Nat} {M : fx_M} {Q : Option fx_V → fx_M → Prop} (Hp : fx_puz p) (H : wc kc d 82 [jR p] M (fun v M1 => wp kc (d + 1) 81 4 [some (jR p), none, none, none] (v.toList ++ []) M1 Q)) : wc kc (d + 1) 81 [jR p] M Q :=
  wc_of (wp_wk (l' := [some (jR p), none, none, none]) ⟨rfl, trivial⟩ (s81_0 Hp H))

/- PuzzleHouse$Puzzle.free()J -/
theorem c82_0 : fx_cj 82 0 = some (73300775185, 3) := by decide +kernel
theorem c82_3 : fx_op 82 3 = some (.lstore_n 1, 4, 3) := by decide +kernel
theorem c82_4 : fx_ci 82 4 = some (0, 5) := by decide +kernel
theorem c82_5 : fx_op 82 5 = some (.istore_n 3, 6, 5) := by decide +kernel
theorem c82_6 : fx_op 82 6 = some (.iload_n 3, 7, 6) := by decide +kernel
theorem c82_7 : fx_op 82 7 = some (.aload_n 0, 8, 7) := by decide +kernel
theorem c82_8 : fx_gf 82 8 = some (3, 2, 11) := by decide +kernel
theorem c82_11 : fx_op 82 11 = some (.if_icmp .ge 24, 14, 35) := by decide +kernel
theorem c82_14 : fx_op 82 14 = some (.lload_n 1, 15, 14) := by decide +kernel
theorem c82_15 : fx_cj 82 15 = some (1, 16) := by decide +kernel
theorem c82_16 : fx_op 82 16 = some (.aload_n 0, 17, 16) := by decide +kernel
theorem c82_17 : fx_gf 82 17 = some (3, 3, 20) := by decide +kernel
theorem c82_20 : fx_op 82 20 = some (.lshl, 21, 20) := by decide +kernel
theorem c82_21 : fx_cj 82 21 = some (1, 22) := by decide +kernel
theorem c82_22 : fx_op 82 22 = some (.lsub, 23, 22) := by decide +kernel
theorem c82_23 : fx_ci 82 23 = some (4, 24) := by decide +kernel
theorem c82_24 : fx_op 82 24 = some (.iload_n 3, 25, 24) := by decide +kernel
theorem c82_25 : fx_op 82 25 = some (.imul, 26, 25) := by decide +kernel
theorem c82_26 : fx_op 82 26 = some (.lshl, 27, 26) := by decide +kernel
theorem c82_27 : fx_op 82 27 = some (.lor, 28, 27) := by decide +kernel
theorem c82_28 : fx_op 82 28 = some (.lstore_n 1, 29, 28) := by decide +kernel
theorem c82_29 : fx_op 82 29 = some (.iinc 3 1, 32, 29) := by decide +kernel
theorem c82_35 : fx_op 82 35 = some (.lload_n 1, 36, 35) := by decide +kernel
theorem c82_36 : fx_op 82 36 = some (.lreturn, 37, 36) := by decide +kernel
theorem c82_32 : fx_op 82 32 = some (.goto (-26), 35, 6) := by decide +kernel
theorem s82_0 {kc : List va_E} {d : Nat} {p : Nat} {M : fx_M} {Q : Option fx_V → fx_M → Prop} (Hp : fx_puz p) (H : wp kc (d + 1) 82 6 [some (jR p), some (jL 73300775185), none, some (jI 0)] [] M Q) : wp kc (d + 1) 82 0 [some (jR p), none, none, none] [] M Q :=
  (x_cj c82_0 (x_lstn (l' := [some (jR p), some (jL 73300775185), none, none]) c82_3 rfl (x_ci c82_4 (x_istn (l' := [some (jR p), some (jL 73300775185), none, some (jI 0)]) c82_5 rfl (wp_wk (l' := [some (jR p), some (jL 73300775185), none, some (jI 0)]) ⟨rfl, ⟨rfl, ⟨rfl, trivial⟩⟩⟩ H)))))
theorem s82_6 {kc : List va_E} {d : Nat} {p : Nat} {v1 v3 : Int} {M : fx_M} {Q : Option fx_V → fx_M → Prop} (Hp : fx_puz p) (H : ((fx_in32 v3) ∧ (fx_in32 (M p 2))) ∧ (M p 2 ≤ v3 → Q (some (jL v1)) M) ∧ (v3 < M p 2 → wp kc (d + 1) 82 6 [some (jR p), some (jL (fx_lor v1 (fx_lshl ((fx_lshl 1 (M p 3)) - 1) (4 * v3)))), none, some (jI (v3 + 1))] [] M Q)) : wp kc (d + 1) 82 6 [some (jR p), some (jL v1), none, some (jI v3)] [] M Q :=
  (x_ildn c82_6 rfl (x_aldn c82_7 rfl (x_gfi c82_8 (kp_2 Hp) (x_cge c82_11 H.1.1 H.1.2 (fun h1 => (x_lldn c82_35 rfl (x_lrt c82_36 r82 (H.2.1 h1)))) (fun h2 => (x_lldn c82_14 rfl (x_cj c82_15 (x_aldn c82_16 rfl (x_gfi c82_17 (kp_3 Hp) (x_lshl c82_20 (x_cj c82_21 (x_lsub c82_22 (x_ci c82_23 (x_ildn c82_24 rfl (x_imul c82_25 (x_lshl c82_26 (x_lor c82_27 (x_lstn (l' := [some (jR p), some (jL (fx_lor v1 (fx_lshl ((fx_lshl 1 (M p 3)) - 1) (4 * v3)))), none, some (jI v3)]) c82_28 rfl (x_inc (l' := [some (jR p), some (jL (fx_lor v1 (fx_lshl ((fx_lshl 1 (M p 3)) - 1) (4 * v3)))), none, some (jI (v3 + 1))]) c82_29 rfl rfl (x_goto c82_32 (wp_wk (l' := [some (jR p), some (jL (fx_lor v1 (fx_lshl ((fx_lshl 1 (M p 3)) - 1) (4 * v3)))), none, some (jI (v3 + 1))]) ⟨rfl, ⟨rfl, ⟨rfl, trivial⟩⟩⟩ (H.2.2 h2))))))))))))))))))))))
theorem s82 {kc : List va_E} {d : Nat} {p : Nat} {M : fx_M} {Q : Option fx_V → fx_M → Prop} (Hp : fx_puz p) (H : wp kc (d + 1) 82 6 [some (jR p), some (jL 73300775185), none, some (jI 0)] [] M Q) : wc kc (d + 1) 82 [jR p] M Q :=
  wc_of (wp_wk (l' := [some (jR p), none, none, none]) ⟨rfl, trivial⟩ (s82_0 Hp H))

/- PuzzleHouse$Puzzle.canMeet(JI)Z -/
theorem c88_0 : fx_ci 88 0 = some (0, 1) := by decide +kernel
theorem c88_1 : fx_op 88 1 = some (.istore 4, 3, 1) := by decide +kernel
theorem c88_3 : fx_op 88 3 = some (.iload 4, 5, 3) := by decide +kernel
theorem c88_5 : fx_op 88 5 = some (.aload_n 0, 6, 5) := by decide +kernel
theorem c88_6 : fx_gf 88 6 = some (3, 4, 9) := by decide +kernel
theorem c88_9 : fx_op 88 9 = some (.if_icmp .ge 174, 12, 183) := by decide +kernel
theorem c88_183 : fx_ci 88 183 = some (1, 184) := by decide +kernel
theorem c88_12 : fx_op 88 12 = some (.aload_n 0, 13, 12) := by decide +kernel
theorem c88_13 : fx_gf 88 13 = some (3, 9, 16) := by decide +kernel
theorem c88_16 : fx_op 88 16 = some (.iload 4, 18, 16) := by decide +kernel
theorem c88_19 : fx_op 88 19 = some (.iload_n 3, 20, 19) := by decide +kernel
theorem c88_20 : fx_op 88 20 = some (.iand, 21, 20) := by decide +kernel
theorem c88_21 : fx_op 88 21 = some (.ifCond .eq 156, 24, 177) := by decide +kernel
theorem c88_177 : fx_op 88 177 = some (.iinc 4 1, 180, 177) := by decide +kernel
theorem c88_24 : fx_ci 88 24 = some (4, 25) := by decide +kernel
theorem c88_25 : fx_op 88 25 = some (.iload 4, 27, 25) := by decide +kernel
theorem c88_27 : fx_op 88 27 = some (.imul, 28, 27) := by decide +kernel
theorem c88_28 : fx_op 88 28 = some (.istore 5, 30, 28) := by decide +kernel
theorem c88_30 : fx_cr 88 30 = some (1000183, 33) := by decide +kernel
theorem c88_33 : fx_op 88 33 = some (.lload_n 1, 34, 33) := by decide +kernel
theorem c88_34 : fx_ci 88 34 = some (4, 35) := by decide +kernel
theorem c88_35 : fx_op 88 35 = some (.aload_n 0, 36, 35) := by decide +kernel
theorem c88_36 : fx_gf 88 36 = some (3, 8, 39) := by decide +kernel
theorem c88_39 : fx_op 88 39 = some (.iload 5, 41, 39) := by decide +kernel
theorem c88_42 : fx_op 88 42 = some (.imul, 43, 42) := by decide +kernel
theorem c88_43 : fx_op 88 43 = some (.lushr, 44, 43) := by decide +kernel
theorem c88_44 : fx_op 88 44 = some (.l2i, 45, 44) := by decide +kernel
theorem c88_45 : fx_ci 88 45 = some (15, 47) := by decide +kernel
theorem c88_47 : fx_op 88 47 = some (.iand, 48, 47) := by decide +kernel
theorem c88_49 : fx_cr 88 49 = some (1000184, 52) := by decide +kernel
theorem c88_52 : fx_op 88 52 = some (.lload_n 1, 53, 52) := by decide +kernel
theorem c88_53 : fx_ci 88 53 = some (4, 54) := by decide +kernel
theorem c88_54 : fx_op 88 54 = some (.aload_n 0, 55, 54) := by decide +kernel
theorem c88_55 : fx_gf 88 55 = some (3, 8, 58) := by decide +kernel
theorem c88_58 : fx_op 88 58 = some (.iload 5, 60, 58) := by decide +kernel
theorem c88_60 : fx_ci 88 60 = some (1, 61) := by decide +kernel
theorem c88_61 : fx_op 88 61 = some (.iadd, 62, 61) := by decide +kernel
theorem c88_63 : fx_op 88 63 = some (.imul, 64, 63) := by decide +kernel
theorem c88_64 : fx_op 88 64 = some (.lushr, 65, 64) := by decide +kernel
theorem c88_65 : fx_op 88 65 = some (.l2i, 66, 65) := by decide +kernel
theorem c88_66 : fx_ci 88 66 = some (15, 68) := by decide +kernel
theorem c88_68 : fx_op 88 68 = some (.iand, 69, 68) := by decide +kernel
theorem c88_70 : fx_op 88 70 = some (.land, 71, 70) := by decide +kernel
theorem c88_71 : fx_cr 88 71 = some (1000185, 74) := by decide +kernel
theorem c88_74 : fx_op 88 74 = some (.lload_n 1, 75, 74) := by decide +kernel
theorem c88_75 : fx_ci 88 75 = some (4, 76) := by decide +kernel
theorem c88_76 : fx_op 88 76 = some (.aload_n 0, 77, 76) := by decide +kernel
theorem c88_77 : fx_gf 88 77 = some (3, 8, 80) := by decide +kernel
theorem c88_80 : fx_op 88 80 = some (.iload 5, 82, 80) := by decide +kernel
theorem c88_82 : fx_ci 88 82 = some (2, 83) := by decide +kernel
theorem c88_83 : fx_op 88 83 = some (.iadd, 84, 83) := by decide +kernel
theorem c88_85 : fx_op 88 85 = some (.imul, 86, 85) := by decide +kernel
theorem c88_86 : fx_op 88 86 = some (.lushr, 87, 86) := by decide +kernel
theorem c88_87 : fx_op 88 87 = some (.l2i, 88, 87) := by decide +kernel
theorem c88_88 : fx_ci 88 88 = some (15, 90) := by decide +kernel
theorem c88_90 : fx_op 88 90 = some (.iand, 91, 90) := by decide +kernel
theorem c88_92 : fx_op 88 92 = some (.land, 93, 92) := by decide +kernel
theorem c88_93 : fx_op 88 93 = some (.lstore 6, 95, 93) := by decide +kernel
theorem c88_95 : fx_op 88 95 = some (.lload_n 1, 96, 95) := by decide +kernel
theorem c88_96 : fx_ci 88 96 = some (4, 97) := by decide +kernel
theorem c88_97 : fx_op 88 97 = some (.aload_n 0, 98, 97) := by decide +kernel
theorem c88_98 : fx_gf 88 98 = some (3, 8, 101) := by decide +kernel
theorem c88_101 : fx_op 88 101 = some (.iload 5, 103, 101) := by decide +kernel
theorem c88_103 : fx_ci 88 103 = some (3, 104) := by decide +kernel
theorem c88_104 : fx_op 88 104 = some (.iadd, 105, 104) := by decide +kernel
theorem c88_106 : fx_op 88 106 = some (.imul, 107, 106) := by decide +kernel
theorem c88_107 : fx_op 88 107 = some (.lushr, 108, 107) := by decide +kernel
theorem c88_108 : fx_op 88 108 = some (.l2i, 109, 108) := by decide +kernel
theorem c88_109 : fx_ci 88 109 = some (15, 111) := by decide +kernel
theorem c88_111 : fx_op 88 111 = some (.iand, 112, 111) := by decide +kernel
theorem c88_112 : fx_op 88 112 = some (.istore 8, 114, 112) := by decide +kernel
theorem c88_114 : fx_cj 88 114 = some (0, 115) := by decide +kernel
theorem c88_115 : fx_op 88 115 = some (.lstore 9, 117, 115) := by decide +kernel
theorem c88_117 : fx_ci 88 117 = some (0, 118) := by decide +kernel
theorem c88_118 : fx_op 88 118 = some (.istore 11, 120, 118) := by decide +kernel
theorem c88_184 : fx_op 88 184 = some (.ireturn, 185, 184) := by decide +kernel
theorem c88_18 : fx_op 88 18 = some (.iaload, 19, 18) := by decide +kernel
theorem c88_180 : fx_op 88 180 = some (.goto (-177), 183, 3) := by decide +kernel
theorem c88_41 : fx_op 88 41 = some (.iaload, 42, 41) := by decide +kernel
theorem c88_48 : fx_op 88 48 = some (.laload, 49, 48) := by decide +kernel
theorem c88_62 : fx_op 88 62 = some (.iaload, 63, 62) := by decide +kernel
theorem c88_69 : fx_op 88 69 = some (.laload, 70, 69) := by decide +kernel
theorem c88_84 : fx_op 88 84 = some (.iaload, 85, 84) := by decide +kernel
theorem c88_91 : fx_op 88 91 = some (.laload, 92, 91) := by decide +kernel
theorem c88_105 : fx_op 88 105 = some (.iaload, 106, 105) := by decide +kernel
theorem c88_120 : fx_op 88 120 = some (.iload 11, 122, 120) := by decide +kernel
theorem c88_122 : fx_ci 88 122 = some (4, 123) := by decide +kernel
theorem c88_123 : fx_op 88 123 = some (.if_icmp .ge 45, 126, 168) := by decide +kernel
theorem c88_126 : fx_op 88 126 = some (.lload 9, 128, 126) := by decide +kernel
theorem c88_128 : fx_cj 88 128 = some (0, 129) := by decide +kernel
theorem c88_129 : fx_op 88 129 = some (.lcmp, 130, 129) := by decide +kernel
theorem c88_130 : fx_op 88 130 = some (.ifCond .ne 38, 133, 168) := by decide +kernel
theorem c88_133 : fx_op 88 133 = some (.iload 8, 135, 133) := by decide +kernel
theorem c88_135 : fx_op 88 135 = some (.iload 11, 137, 135) := by decide +kernel
theorem c88_137 : fx_op 88 137 = some (.ishr, 138, 137) := by decide +kernel
theorem c88_138 : fx_ci 88 138 = some (1, 139) := by decide +kernel
theorem c88_139 : fx_op 88 139 = some (.iand, 140, 139) := by decide +kernel
theorem c88_140 : fx_op 88 140 = some (.ifCond .eq 19, 143, 159) := by decide +kernel
theorem c88_159 : fx_cj 88 159 = some (0, 160) := by decide +kernel
theorem c88_160 : fx_op 88 160 = some (.lstore 9, 162, 160) := by decide +kernel
theorem c88_162 : fx_op 88 162 = some (.iinc 11 1, 165, 162) := by decide +kernel
theorem c88_168 : fx_op 88 168 = some (.lload 9, 170, 168) := by decide +kernel
theorem c88_170 : fx_cj 88 170 = some (0, 171) := by decide +kernel
theorem c88_172 : fx_op 88 172 = some (.ifCond .ne 5, 175, 177) := by decide +kernel
theorem c88_175 : fx_ci 88 175 = some (0, 176) := by decide +kernel
theorem c88_143 : fx_op 88 143 = some (.aload_n 0, 144, 143) := by decide +kernel
theorem c88_144 : fx_gf 88 144 = some (3, 11, 147) := by decide +kernel
theorem c88_147 : fx_op 88 147 = some (.iload 5, 149, 147) := by decide +kernel
theorem c88_149 : fx_op 88 149 = some (.iload 11, 151, 149) := by decide +kernel
theorem c88_151 : fx_op 88 151 = some (.iadd, 152, 151) := by decide +kernel
theorem c88_152 : fx_op 88 152 = some (.laload, 153, 152) := by decide +kernel
theorem c88_153 : fx_op 88 153 = some (.lload 6, 155, 153) := by decide +kernel
theorem c88_155 : fx_op 88 155 = some (.land, 156, 155) := by decide +kernel
theorem c88_156 : fx_op 88 156 = some (.goto 4, 159, 160) := by decide +kernel
theorem c88_171 : fx_op 88 171 = some (.lcmp, 172, 171) := by decide +kernel
theorem c88_176 : fx_op 88 176 = some (.ireturn, 177, 176) := by decide +kernel
theorem c88_165 : fx_op 88 165 = some (.goto (-45), 168, 120) := by decide +kernel
theorem s88_0 {kc : List va_E} {d : Nat} {p : Nat} {x1 x3 : Int} {M : fx_M} {Q : Option fx_V → fx_M → Prop} (Hp : fx_puz p) (H : wp kc (d + 1) 88 3 [some (jR p), some (jL x1), none, some (jI x3), some (jI 0), none, none, none, none, none, none, none] [] M Q) : wp kc (d + 1) 88 0 [some (jR p), some (jL x1), none, some (jI x3), none, none, none, none, none, none, none, none] [] M Q :=
  (x_ci c88_0 (x_ist (l' := [some (jR p), some (jL x1), none, some (jI x3), some (jI 0), none, none, none, none, none, none, none]) c88_1 rfl (wp_wk (l' := [some (jR p), some (jL x1), none, some (jI x3), some (jI 0), none, none, none, none, none, none, none]) ⟨rfl, ⟨rfl, ⟨rfl, ⟨rfl, trivial⟩⟩⟩⟩ H)))
theorem s88_3 {kc : List va_E} {d : Nat} {p : Nat} {v1 v3 v4 : Int} {M : fx_M} {Q : Option fx_V → fx_M → Prop} (Hp : fx_puz p) (H : ((fx_in32 v4) ∧ (fx_in32 (M p 4))) ∧ (M p 4 ≤ v4 → Q (some (jI 1)) M) ∧ (v4 < M p 4 → (((0 : Int) ≤ v4 ∧ v4 < 12)) ∧ ((fx_in32 (fx_and (M (p + 5) v4) v3))) ∧ (fx_and (M (p + 5) v4) v3 = 0 → wp kc (d + 1) 88 3 [some (jR p), some (jL v1), none, some (jI v3), some (jI (v4 + 1)), none, none, none, none, none, none, none] [] M Q) ∧ (fx_and (M (p + 5) v4) v3 ≠ 0 → (((0 : Int) ≤ 4 * v4 ∧ 4 * v4 < 48)) ∧ (((0 : Int) ≤ fx_and (fx_lushr v1 (4 * (M (p + 4) (4 * v4)))) 15 ∧ fx_and (fx_lushr v1 (4 * (M (p + 4) (4 * v4)))) 15 < 16) ∧ (kc[1000183 - lx_K]? = some (.inl (2, 16, .inr (.inl (fun i => xA0.getD i 0)))))) ∧ (((0 : Int) ≤ (4 * v4) + 1 ∧ (4 * v4) + 1 < 48)) ∧ (((0 : Int) ≤ fx_and (fx_lushr v1 (4 * (M (p + 4) ((4 * v4) + 1)))) 15 ∧ fx_and (fx_lushr v1 (4 * (M (p + 4) ((4 * v4) + 1)))) 15 < 16) ∧ (kc[1000184 - lx_K]? = some (.inl (2, 16, .inr (.inl (fun i => xA1.getD i 0)))))) ∧ (((0 : Int) ≤ (4 * v4) + 2 ∧ (4 * v4) + 2 < 48)) ∧ (((0 : Int) ≤ fx_and (fx_lushr v1 (4 * (M (p + 4) ((4 * v4) + 2)))) 15 ∧ fx_and (fx_lushr v1 (4 * (M (p + 4) ((4 * v4) + 2)))) 15 < 16) ∧ (kc[1000185 - lx_K]? = some (.inl (2, 16, .inr (.inl (fun i => xA2.getD i 0)))))) ∧ (((0 : Int) ≤ (4 * v4) + 3 ∧ (4 * v4) + 3 < 48)) ∧ wp kc (d + 1) 88 120 [some (jR p), some (jL v1), none, some (jI v3), some (jI v4), some (jI (4 * v4)), some (jL (fx_land (fx_land ((xA0.getD (fx_and (fx_lushr v1 (4 * (M (p + 4) (4 * v4)))) 15).toNat 0).toInt) ((xA1.getD (fx_and (fx_lushr v1 (4 * (M (p + 4) ((4 * v4) + 1)))) 15).toNat 0).toInt)) ((xA2.getD (fx_and (fx_lushr v1 (4 * (M (p + 4) ((4 * v4) + 2)))) 15).toNat 0).toInt))), none, some (jI (fx_and (fx_lushr v1 (4 * (M (p + 4) ((4 * v4) + 3)))) 15)), some (jL 0), none, some (jI 0)] [] M Q))) : wp kc (d + 1) 88 3 [some (jR p), some (jL v1), none, some (jI v3), some (jI v4), none, none, none, none, none, none, none] [] M Q :=
  (x_ild c88_3 rfl (x_aldn c88_5 rfl (x_gfi c88_6 (kp_4 Hp) (x_cge c88_9 H.1.1 H.1.2 (fun h3 => (x_ci c88_183 (x_zrt c88_184 r88 (by decide) (H.2.1 h3)))) (fun h4 => (x_aldn c88_12 rfl (x_gfr c88_13 (kp_9 Hp) (x_ild c88_16 rfl (x_iald c88_18 (ap_5 Hp) (H.2.2 h4).1 (by decide) (x_ildn c88_19 rfl (x_iand c88_20 (x_zeq c88_21 (H.2.2 h4).2.1 (fun h1 => (x_inc (l' := [some (jR p), some (jL v1), none, some (jI v3), some (jI (v4 + 1)), none, none, none, none, none, none, none]) c88_177 rfl rfl (x_goto c88_180 (wp_wk (l' := [some (jR p), some (jL v1), none, some (jI v3), some (jI (v4 + 1)), none, none, none, none, none, none, none]) ⟨rfl, ⟨rfl, ⟨rfl, ⟨rfl, trivial⟩⟩⟩⟩ ((H.2.2 h4).2.2.1 h1))))) (fun h2 => (x_ci c88_24 (x_ild c88_25 rfl (x_imul c88_27 (x_ist (l' := [some (jR p), some (jL v1), none, some (jI v3), some (jI v4), some (jI (4 * v4)), none, none, none, none, none, none]) c88_28 rfl (x_cr c88_30 (x_lldn c88_33 rfl (x_ci c88_34 (x_aldn c88_35 rfl (x_gfr c88_36 (kp_8 Hp) (x_ild c88_39 rfl (x_iald c88_41 (ap_4 Hp) ((H.2.2 h4).2.2.2 h2).1 (by decide) (x_imul c88_42 (x_lushr c88_43 (x_l2i c88_44 (x_ci c88_45 (x_iand c88_47 (x_laldk c88_48 (by decide) ((H.2.2 h4).2.2.2 h2).2.1.2 ((H.2.2 h4).2.2.2 h2).2.1.1 (by decide) (x_cr c88_49 (x_lldn c88_52 rfl (x_ci c88_53 (x_aldn c88_54 rfl (x_gfr c88_55 (kp_8 Hp) (x_ild c88_58 rfl (x_ci c88_60 (x_iadd c88_61 (x_iald c88_62 (ap_4 Hp) ((H.2.2 h4).2.2.2 h2).2.2.1 (by decide) (x_imul c88_63 (x_lushr c88_64 (x_l2i c88_65 (x_ci c88_66 (x_iand c88_68 (x_laldk c88_69 (by decide) ((H.2.2 h4).2.2.2 h2).2.2.2.1.2 ((H.2.2 h4).2.2.2 h2).2.2.2.1.1 (by decide) (x_land c88_70 (x_cr c88_71 (x_lldn c88_74 rfl (x_ci c88_75 (x_aldn c88_76 rfl (x_gfr c88_77 (kp_8 Hp) (x_ild c88_80 rfl (x_ci c88_82 (x_iadd c88_83 (x_iald c88_84 (ap_4 Hp) ((H.2.2 h4).2.2.2 h2).2.2.2.2.1 (by decide) (x_imul c88_85 (x_lushr c88_86 (x_l2i c88_87 (x_ci c88_88 (x_iand c88_90 (x_laldk c88_91 (by decide) ((H.2.2 h4).2.2.2 h2).2.2.2.2.2.1.2 ((H.2.2 h4).2.2.2 h2).2.2.2.2.2.1.1 (by decide) (x_land c88_92 (x_lst (l' := [some (jR p), some (jL v1), none, some (jI v3), some (jI v4), some (jI (4 * v4)), some (jL (fx_land (fx_land ((xA0.getD (fx_and (fx_lushr v1 (4 * (M (p + 4) (4 * v4)))) 15).toNat 0).toInt) ((xA1.getD (fx_and (fx_lushr v1 (4 * (M (p + 4) ((4 * v4) + 1)))) 15).toNat 0).toInt)) ((xA2.getD (fx_and (fx_lushr v1 (4 * (M (p + 4) ((4 * v4) + 2)))) 15).toNat 0).toInt))), none, none, none, none, none]) c88_93 rfl (x_lldn c88_95 rfl (x_ci c88_96 (x_aldn c88_97 rfl (x_gfr c88_98 (kp_8 Hp) (x_ild c88_101 rfl (x_ci c88_103 (x_iadd c88_104 (x_iald c88_105 (ap_4 Hp) ((H.2.2 h4).2.2.2 h2).2.2.2.2.2.2.1 (by decide) (x_imul c88_106 (x_lushr c88_107 (x_l2i c88_108 (x_ci c88_109 (x_iand c88_111 (x_ist (l' := [some (jR p), some (jL v1), none, some (jI v3), some (jI v4), some (jI (4 * v4)), some (jL (fx_land (fx_land ((xA0.getD (fx_and (fx_lushr v1 (4 * (M (p + 4) (4 * v4)))) 15).toNat 0).toInt) ((xA1.getD (fx_and (fx_lushr v1 (4 * (M (p + 4) ((4 * v4) + 1)))) 15).toNat 0).toInt)) ((xA2.getD (fx_and (fx_lushr v1 (4 * (M (p + 4) ((4 * v4) + 2)))) 15).toNat 0).toInt))), none, some (jI (fx_and (fx_lushr v1 (4 * (M (p + 4) ((4 * v4) + 3)))) 15)), none, none, none]) c88_112 rfl (x_cj c88_114 (x_lst (l' := [some (jR p), some (jL v1), none, some (jI v3), some (jI v4), some (jI (4 * v4)), some (jL (fx_land (fx_land ((xA0.getD (fx_and (fx_lushr v1 (4 * (M (p + 4) (4 * v4)))) 15).toNat 0).toInt) ((xA1.getD (fx_and (fx_lushr v1 (4 * (M (p + 4) ((4 * v4) + 1)))) 15).toNat 0).toInt)) ((xA2.getD (fx_and (fx_lushr v1 (4 * (M (p + 4) ((4 * v4) + 2)))) 15).toNat 0).toInt))), none, some (jI (fx_and (fx_lushr v1 (4 * (M (p + 4) ((4 * v4) + 3)))) 15)), some (jL 0), none, none]) c88_115 rfl (x_ci c88_117 (x_ist (l' := [some (jR p), some (jL v1), none, some (jI v3), some (jI v4), some (jI (4 * v4)), some (jL (fx_land (fx_land ((xA0.getD (fx_and (fx_lushr v1 (4 * (M (p + 4) (4 * v4)))) 15).toNat 0).toInt) ((xA1.getD (fx_and (fx_lushr v1 (4 * (M (p + 4) ((4 * v4) + 1)))) 15).toNat 0).toInt)) ((xA2.getD (fx_and (fx_lushr v1 (4 * (M (p + 4) ((4 * v4) + 2)))) 15).toNat 0).toInt))), none, some (jI (fx_and (fx_lushr v1 (4 * (M (p + 4) ((4 * v4) + 3)))) 15)), some (jL 0), none, some (jI 0)]) c88_118 rfl (wp_wk (l' := [some (jR p), some (jL v1), none, some (jI v3), some (jI v4), some (jI (4 * v4)), some (jL (fx_land (fx_land ((xA0.getD (fx_and (fx_lushr v1 (4 * (M (p + 4) (4 * v4)))) 15).toNat 0).toInt) ((xA1.getD (fx_and (fx_lushr v1 (4 * (M (p + 4) ((4 * v4) + 1)))) 15).toNat 0).toInt)) ((xA2.getD (fx_and (fx_lushr v1 (4 * (M (p + 4) ((4 * v4) + 2)))) 15).toNat 0).toInt))), none, some (jI (fx_and (fx_lushr v1 (4 * (M (p + 4) ((4 * v4) + 3)))) 15)), some (jL 0), none, some (jI 0)]) ⟨rfl, ⟨rfl, ⟨rfl, ⟨rfl, ⟨rfl, ⟨rfl, ⟨rfl, ⟨rfl, ⟨rfl, trivial⟩⟩⟩⟩⟩⟩⟩⟩⟩ ((H.2.2 h4).2.2.2 h2).2.2.2.2.2.2.2))))))))))))))))))))))))))))))))))))))))))))))))))))))))))))))))))))))))))))))))))
theorem s88_120 {kc : List va_E} {d : Nat} {p : Nat} {v1 v3 v4 v5 v6 v8 v9 v11 : Int} {M : fx_M} {Q : Option fx_V → fx_M → Prop} (Hp : fx_puz p) (H : ((fx_in32 v11)) ∧ (4 ≤ v11 → ((fx_in64 v9)) ∧ (fx_cmp v9 0 ≠ 0 → wp kc (d + 1) 88 3 [some (jR p), some (jL v1), none, some (jI v3), some (jI (v4 + 1)), none, none, none, none, none, none, none] [] M Q) ∧ (fx_cmp v9 0 = 0 → Q (some (jI 0)) M)) ∧ (v11 < 4 → ((fx_in64 v9)) ∧ (fx_cmp v9 0 ≠ 0 → ((fx_in64 v9)) ∧ (fx_cmp v9 0 ≠ 0 → wp kc (d + 1) 88 3 [some (jR p), some (jL v1), none, some (jI v3), some (jI (v4 + 1)), none, none, none, none, none, none, none] [] M Q) ∧ (fx_cmp v9 0 = 0 → Q (some (jI 0)) M)) ∧ (fx_cmp v9 0 = 0 → ((fx_in32 (fx_and (fx_shr v8 v11) 1))) ∧ (fx_and (fx_shr v8 v11) 1 ≠ 0 → ((((0 : Int) ≤ v5 + v11 ∧ v5 + v11 < 48)))) ∧ wp kc (d + 1) 88 120 [some (jR p), some (jL v1), none, some (jI v3), some (jI v4), some (jI v5), some (jL v6), none, some (jI v8), some (jL (if fx_and (fx_shr v8 v11) 1 = 0 then (0 : Int) else fx_land (M (p + 7) (v5 + v11)) v6)), none, some (jI (v11 + 1))] [] M Q))) : wp kc (d + 1) 88 120 [some (jR p), some (jL v1), none, some (jI v3), some (jI v4), some (jI v5), some (jL v6), none, some (jI v8), some (jL v9), none, some (jI v11)] [] M Q :=
  (x_ild c88_120 rfl (x_ci c88_122 (x_cge c88_123 H.1 (by decide) (fun h7 => (x_lld c88_168 rfl (x_cj c88_170 (x_lcmp c88_171 (H.2.1 h7).1 (by decide) (x_zne c88_172 (fx_cmp_in _ _) (fun h1 => (x_inc (l' := [some (jR p), some (jL v1), none, some (jI v3), some (jI (v4 + 1)), some (jI v5), some (jL v6), none, some (jI v8), some (jL v9), none, some (jI v11)]) c88_177 rfl rfl (x_goto c88_180 (wp_wk (l' := [some (jR p), some (jL v1), none, some (jI v3), some (jI (v4 + 1)), none, none, none, none, none, none, none]) ⟨rfl, ⟨rfl, ⟨rfl, ⟨rfl, trivial⟩⟩⟩⟩ ((H.2.1 h7).2.1 h1))))) (fun h2 => (x_ci c88_175 (x_zrt c88_176 r88 (by decide) ((H.2.1 h7).2.2 h2))))))))) (fun h8 => (x_lld c88_126 rfl (x_cj c88_128 (x_lcmp c88_129 (H.2.2 h8).1 (by decide) (x_zne c88_130 (fx_cmp_in _ _) (fun h5 => (x_lld c88_168 rfl (x_cj c88_170 (x_lcmp c88_171 ((H.2.2 h8).2.1 h5).1 (by decide) (x_zne c88_172 (fx_cmp_in _ _) (fun h3 => (x_inc (l' := [some (jR p), some (jL v1), none, some (jI v3), some (jI (v4 + 1)), some (jI v5), some (jL v6), none, some (jI v8), some (jL v9), none, some (jI v11)]) c88_177 rfl rfl (x_goto c88_180 (wp_wk (l' := [some (jR p), some (jL v1), none, some (jI v3), some (jI (v4 + 1)), none, none, none, none, none, none, none]) ⟨rfl, ⟨rfl, ⟨rfl, ⟨rfl, trivial⟩⟩⟩⟩ (((H.2.2 h8).2.1 h5).2.1 h3))))) (fun h4 => (x_ci c88_175 (x_zrt c88_176 r88 (by decide) (((H.2.2 h8).2.1 h5).2.2 h4))))))))) (fun h6 => (x_ild c88_133 rfl (x_ild c88_135 rfl (x_ishr c88_137 (x_ci c88_138 (x_iand c88_139 (have K : wp kc (d + 1) 88 160 [some (jR p), some (jL v1), none, some (jI v3), some (jI v4), some (jI v5), some (jL v6), none, some (jI v8), none, none, some (jI v11)] [jL (if fx_and (fx_shr v8 v11) 1 = 0 then (0 : Int) else fx_land (M (p + 7) (v5 + v11)) v6)] M Q := (x_lst (l' := [some (jR p), some (jL v1), none, some (jI v3), some (jI v4), some (jI v5), some (jL v6), none, some (jI v8), some (jL (if fx_and (fx_shr v8 v11) 1 = 0 then (0 : Int) else fx_land (M (p + 7) (v5 + v11)) v6)), none, some (jI v11)]) c88_160 rfl (x_inc (l' := [some (jR p), some (jL v1), none, some (jI v3), some (jI v4), some (jI v5), some (jL v6), none, some (jI v8), some (jL (if fx_and (fx_shr v8 v11) 1 = 0 then (0 : Int) else fx_land (M (p + 7) (v5 + v11)) v6)), none, some (jI (v11 + 1))]) c88_162 rfl rfl (x_goto c88_165 (wp_wk (l' := [some (jR p), some (jL v1), none, some (jI v3), some (jI v4), some (jI v5), some (jL v6), none, some (jI v8), some (jL (if fx_and (fx_shr v8 v11) 1 = 0 then (0 : Int) else fx_land (M (p + 7) (v5 + v11)) v6)), none, some (jI (v11 + 1))]) ⟨rfl, ⟨rfl, ⟨rfl, ⟨rfl, ⟨rfl, ⟨rfl, ⟨rfl, ⟨rfl, ⟨rfl, trivial⟩⟩⟩⟩⟩⟩⟩⟩⟩ ((H.2.2 h8).2.2 h6).2.2)))); (x_zeq c88_140 ((H.2.2 h8).2.2 h6).1 (fun (h9 : fx_and (fx_shr v8 v11) 1 = 0) => (x_cj c88_159 (wp_wk (l' := [some (jR p), some (jL v1), none, some (jI v3), some (jI v4), some (jI v5), some (jL v6), none, some (jI v8), none, none, some (jI v11)]) ⟨rfl, ⟨rfl, ⟨rfl, ⟨rfl, ⟨rfl, ⟨rfl, ⟨rfl, ⟨rfl, trivial⟩⟩⟩⟩⟩⟩⟩⟩ (by have K := K; first | (simp only [if_pos h9] at K ⊢; exact K) | (exfalso; omega))))) (fun (h10 : fx_and (fx_shr v8 v11) 1 ≠ 0) => (x_aldn c88_143 rfl (x_gfr c88_144 (kp_11 Hp) (x_ild c88_147 rfl (x_ild c88_149 rfl (x_iadd c88_151 (x_lald c88_152 (ap_7 Hp) (((H.2.2 h8).2.2 h6).2.1 h10) (by decide) (x_lld c88_153 rfl (x_land c88_155 (x_goto c88_156 (wp_wk (l' := [some (jR p), some (jL v1), none, some (jI v3), some (jI v4), some (jI v5), some (jL v6), none, some (jI v8), none, none, some (jI v11)]) ⟨rfl, ⟨rfl, ⟨rfl, ⟨rfl, ⟨rfl, ⟨rfl, ⟨rfl, ⟨rfl, trivial⟩⟩⟩⟩⟩⟩⟩⟩ (by have K := K; first | (simp only [if_neg h10] at K ⊢; exact K) | (exfalso; omega)))))))))))))))))))))))))))))
theorem s88 {kc : List va_E} {d : Nat} {p : Nat} {x1 x3 : Int} {M : fx_M} {Q : Option fx_V → fx_M → Prop} (Hp : fx_puz p) (H : wp kc (d + 1) 88 3 [some (jR p), some (jL x1), none, some (jI x3), some (jI 0), none, none, none, none, none, none, none] [] M Q) : wc kc (d + 1) 88 [jR p, jL x1, jI x3] M Q :=
  wc_of (wp_wk (l' := [some (jR p), some (jL x1), none, some (jI x3), none, none, none, none, none, none, none, none]) ⟨rfl, ⟨rfl, ⟨rfl, trivial⟩⟩⟩ (s88_0 Hp H))

/- PuzzleHouse$Puzzle.givens()I -/
theorem c97_0 : fx_ci 97 0 = some (0, 1) := by decide +kernel
theorem c97_1 : fx_op 97 1 = some (.istore_n 1, 2, 1) := by decide +kernel
theorem c97_2 : fx_ci 97 2 = some (0, 3) := by decide +kernel
theorem c97_3 : fx_op 97 3 = some (.istore_n 2, 4, 3) := by decide +kernel
theorem c97_4 : fx_op 97 4 = some (.iload_n 2, 5, 4) := by decide +kernel
theorem c97_5 : fx_ci 97 5 = some (9, 7) := by decide +kernel
theorem c97_7 : fx_op 97 7 = some (.if_icmp .ge 26, 10, 33) := by decide +kernel
theorem c97_10 : fx_op 97 10 = some (.iload_n 1, 11, 10) := by decide +kernel
theorem c97_11 : fx_op 97 11 = some (.aload_n 0, 12, 11) := by decide +kernel
theorem c97_12 : fx_gf 97 12 = some (3, 10, 15) := by decide +kernel
theorem c97_15 : fx_op 97 15 = some (.iload_n 2, 16, 15) := by decide +kernel
theorem c97_16 : fx_op 97 16 = some (.iaload, 17, 16) := by decide +kernel
theorem c97_17 : fx_op 97 17 = some (.ifCond .lt 7, 20, 24) := by decide +kernel
theorem c97_24 : fx_ci 97 24 = some (0, 25) := by decide +kernel
theorem c97_25 : fx_op 97 25 = some (.iadd, 26, 25) := by decide +kernel
theorem c97_26 : fx_op 97 26 = some (.istore_n 1, 27, 26) := by decide +kernel
theorem c97_27 : fx_op 97 27 = some (.iinc 2 1, 30, 27) := by decide +kernel
theorem c97_33 : fx_op 97 33 = some (.iload_n 1, 34, 33) := by decide +kernel
theorem c97_20 : fx_ci 97 20 = some (1, 21) := by decide +kernel
theorem c97_21 : fx_op 97 21 = some (.goto 4, 24, 25) := by decide +kernel
theorem c97_34 : fx_op 97 34 = some (.ireturn, 35, 34) := by decide +kernel
theorem c97_30 : fx_op 97 30 = some (.goto (-26), 33, 4) := by decide +kernel
theorem s97_0 {kc : List va_E} {d : Nat} {p : Nat} {M : fx_M} {Q : Option fx_V → fx_M → Prop} (Hp : fx_puz p) (H : wp kc (d + 1) 97 4 [some (jR p), some (jI 0), some (jI 0)] [] M Q) : wp kc (d + 1) 97 0 [some (jR p), none, none] [] M Q :=
  (x_ci c97_0 (x_istn (l' := [some (jR p), some (jI 0), none]) c97_1 rfl (x_ci c97_2 (x_istn (l' := [some (jR p), some (jI 0), some (jI 0)]) c97_3 rfl (wp_wk (l' := [some (jR p), some (jI 0), some (jI 0)]) ⟨rfl, ⟨rfl, ⟨rfl, trivial⟩⟩⟩ H)))))
theorem s97_4 {kc : List va_E} {d : Nat} {p : Nat} {v1 v2 : Int} {M : fx_M} {Q : Option fx_V → fx_M → Prop} (Hp : fx_puz p) (H : ((fx_in32 v2)) ∧ (9 ≤ v2 → Q (some (jI v1)) M) ∧ (v2 < 9 → (((0 : Int) ≤ v2 ∧ v2 < 9)) ∧ ((fx_in32 (M (p + 6) v2))) ∧ wp kc (d + 1) 97 4 [some (jR p), some (jI (v1 + (if M (p + 6) v2 < 0 then (0 : Int) else 1))), some (jI (v2 + 1))] [] M Q)) : wp kc (d + 1) 97 4 [some (jR p), some (jI v1), some (jI v2)] [] M Q :=
  (x_ildn c97_4 rfl (x_ci c97_5 (x_cge c97_7 H.1 (by decide) (fun h1 => (x_ildn c97_33 rfl (x_irt c97_34 r97 (H.2.1 h1)))) (fun h2 => (x_ildn c97_10 rfl (x_aldn c97_11 rfl (x_gfr c97_12 (kp_10 Hp) (x_ildn c97_15 rfl (x_iald c97_16 (ap_6 Hp) (H.2.2 h2).1 (by decide) (have K : wp kc (d + 1) 97 25 [some (jR p), none, some (jI v2)] [jI (if M (p + 6) v2 < 0 then (0 : Int) else 1), jI v1] M Q := (x_iadd c97_25 (x_istn (l' := [some (jR p), some (jI (v1 + (if M (p + 6) v2 < 0 then (0 : Int) else 1))), some (jI v2)]) c97_26 rfl (x_inc (l' := [some (jR p), some (jI (v1 + (if M (p + 6) v2 < 0 then (0 : Int) else 1))), some (jI (v2 + 1))]) c97_27 rfl rfl (x_goto c97_30 (wp_wk (l' := [some (jR p), some (jI (v1 + (if M (p + 6) v2 < 0 then (0 : Int) else 1))), some (jI (v2 + 1))]) ⟨rfl, ⟨rfl, ⟨rfl, trivial⟩⟩⟩ (H.2.2 h2).2.2))))); (x_zlt c97_17 (H.2.2 h2).2.1 (fun (h3 : M (p + 6) v2 < 0) => (x_ci c97_24 (wp_wk (l' := [some (jR p), none, some (jI v2)]) ⟨rfl, ⟨rfl, trivial⟩⟩ (by have K := K; first | (simp only [if_pos h3] at K ⊢; exact K) | (exfalso; omega))))) (fun (h4 : 0 ≤ M (p + 6) v2) => (x_ci c97_20 (x_goto c97_21 (wp_wk (l' := [some (jR p), none, some (jI v2)]) ⟨rfl, ⟨rfl, trivial⟩⟩ (by have K := K; first | (simp only [if_neg (Int.not_lt.mpr h4)] at K ⊢; exact K) | (exfalso; omega)))))))))))))))))
theorem s97 {kc : List va_E} {d : Nat} {p : Nat} {M : fx_M} {Q : Option fx_V → fx_M → Prop} (Hp : fx_puz p) (H : wp kc (d + 1) 97 4 [some (jR p), some (jI 0), some (jI 0)] [] M Q) : wc kc (d + 1) 97 [jR p] M Q :=
  wc_of (wp_wk (l' := [some (jR p), none, none]) ⟨rfl, trivial⟩ (s97_0 Hp H))

/- PuzzleHouse$Puzzle.supports(IJ)I -/
theorem c111_0 : fx_ci 111 0 = some (4, 1) := by decide +kernel
theorem c111_1 : fx_op 111 1 = some (.iload_n 1, 2, 1) := by decide +kernel
theorem c111_2 : fx_op 111 2 = some (.imul, 3, 2) := by decide +kernel
theorem c111_3 : fx_op 111 3 = some (.istore 4, 5, 3) := by decide +kernel
theorem c111_5 : fx_cr 111 5 = some (1000183, 8) := by decide +kernel
theorem c111_8 : fx_op 111 8 = some (.lload_n 2, 9, 8) := by decide +kernel
theorem c111_9 : fx_ci 111 9 = some (4, 10) := by decide +kernel
theorem c111_10 : fx_op 111 10 = some (.aload_n 0, 11, 10) := by decide +kernel
theorem c111_11 : fx_gf 111 11 = some (3, 8, 14) := by decide +kernel
theorem c111_14 : fx_op 111 14 = some (.iload 4, 16, 14) := by decide +kernel
theorem c111_17 : fx_op 111 17 = some (.imul, 18, 17) := by decide +kernel
theorem c111_18 : fx_op 111 18 = some (.lushr, 19, 18) := by decide +kernel
theorem c111_19 : fx_op 111 19 = some (.l2i, 20, 19) := by decide +kernel
theorem c111_20 : fx_ci 111 20 = some (15, 22) := by decide +kernel
theorem c111_22 : fx_op 111 22 = some (.iand, 23, 22) := by decide +kernel
theorem c111_24 : fx_cr 111 24 = some (1000184, 27) := by decide +kernel
theorem c111_27 : fx_op 111 27 = some (.lload_n 2, 28, 27) := by decide +kernel
theorem c111_28 : fx_ci 111 28 = some (4, 29) := by decide +kernel
theorem c111_29 : fx_op 111 29 = some (.aload_n 0, 30, 29) := by decide +kernel
theorem c111_30 : fx_gf 111 30 = some (3, 8, 33) := by decide +kernel
theorem c111_33 : fx_op 111 33 = some (.iload 4, 35, 33) := by decide +kernel
theorem c111_35 : fx_ci 111 35 = some (1, 36) := by decide +kernel
theorem c111_36 : fx_op 111 36 = some (.iadd, 37, 36) := by decide +kernel
theorem c111_38 : fx_op 111 38 = some (.imul, 39, 38) := by decide +kernel
theorem c111_39 : fx_op 111 39 = some (.lushr, 40, 39) := by decide +kernel
theorem c111_40 : fx_op 111 40 = some (.l2i, 41, 40) := by decide +kernel
theorem c111_41 : fx_ci 111 41 = some (15, 43) := by decide +kernel
theorem c111_43 : fx_op 111 43 = some (.iand, 44, 43) := by decide +kernel
theorem c111_45 : fx_op 111 45 = some (.land, 46, 45) := by decide +kernel
theorem c111_46 : fx_cr 111 46 = some (1000185, 49) := by decide +kernel
theorem c111_49 : fx_op 111 49 = some (.lload_n 2, 50, 49) := by decide +kernel
theorem c111_50 : fx_ci 111 50 = some (4, 51) := by decide +kernel
theorem c111_51 : fx_op 111 51 = some (.aload_n 0, 52, 51) := by decide +kernel
theorem c111_52 : fx_gf 111 52 = some (3, 8, 55) := by decide +kernel
theorem c111_55 : fx_op 111 55 = some (.iload 4, 57, 55) := by decide +kernel
theorem c111_57 : fx_ci 111 57 = some (2, 58) := by decide +kernel
theorem c111_58 : fx_op 111 58 = some (.iadd, 59, 58) := by decide +kernel
theorem c111_60 : fx_op 111 60 = some (.imul, 61, 60) := by decide +kernel
theorem c111_61 : fx_op 111 61 = some (.lushr, 62, 61) := by decide +kernel
theorem c111_62 : fx_op 111 62 = some (.l2i, 63, 62) := by decide +kernel
theorem c111_63 : fx_ci 111 63 = some (15, 65) := by decide +kernel
theorem c111_65 : fx_op 111 65 = some (.iand, 66, 65) := by decide +kernel
theorem c111_67 : fx_op 111 67 = some (.land, 68, 67) := by decide +kernel
theorem c111_68 : fx_op 111 68 = some (.lstore 5, 70, 68) := by decide +kernel
theorem c111_70 : fx_op 111 70 = some (.lload_n 2, 71, 70) := by decide +kernel
theorem c111_71 : fx_ci 111 71 = some (4, 72) := by decide +kernel
theorem c111_72 : fx_op 111 72 = some (.aload_n 0, 73, 72) := by decide +kernel
theorem c111_73 : fx_gf 111 73 = some (3, 8, 76) := by decide +kernel
theorem c111_76 : fx_op 111 76 = some (.iload 4, 78, 76) := by decide +kernel
theorem c111_78 : fx_ci 111 78 = some (3, 79) := by decide +kernel
theorem c111_79 : fx_op 111 79 = some (.iadd, 80, 79) := by decide +kernel
theorem c111_81 : fx_op 111 81 = some (.imul, 82, 81) := by decide +kernel
theorem c111_82 : fx_op 111 82 = some (.lushr, 83, 82) := by decide +kernel
theorem c111_83 : fx_op 111 83 = some (.l2i, 84, 83) := by decide +kernel
theorem c111_84 : fx_ci 111 84 = some (15, 86) := by decide +kernel
theorem c111_86 : fx_op 111 86 = some (.iand, 87, 86) := by decide +kernel
theorem c111_87 : fx_op 111 87 = some (.istore 7, 89, 87) := by decide +kernel
theorem c111_89 : fx_cj 111 89 = some (0, 90) := by decide +kernel
theorem c111_90 : fx_op 111 90 = some (.lstore 8, 92, 90) := by decide +kernel
theorem c111_92 : fx_ci 111 92 = some (0, 93) := by decide +kernel
theorem c111_93 : fx_op 111 93 = some (.istore 10, 95, 93) := by decide +kernel
theorem c111_95 : fx_ci 111 95 = some (0, 96) := by decide +kernel
theorem c111_96 : fx_op 111 96 = some (.istore 11, 98, 96) := by decide +kernel
theorem c111_16 : fx_op 111 16 = some (.iaload, 17, 16) := by decide +kernel
theorem c111_23 : fx_op 111 23 = some (.laload, 24, 23) := by decide +kernel
theorem c111_37 : fx_op 111 37 = some (.iaload, 38, 37) := by decide +kernel
theorem c111_44 : fx_op 111 44 = some (.laload, 45, 44) := by decide +kernel
theorem c111_59 : fx_op 111 59 = some (.iaload, 60, 59) := by decide +kernel
theorem c111_66 : fx_op 111 66 = some (.laload, 67, 66) := by decide +kernel
theorem c111_80 : fx_op 111 80 = some (.iaload, 81, 80) := by decide +kernel
theorem c111_98 : fx_op 111 98 = some (.iload 11, 100, 98) := by decide +kernel
theorem c111_100 : fx_ci 111 100 = some (4, 101) := by decide +kernel
theorem c111_101 : fx_op 111 101 = some (.if_icmp .ge 67, 104, 168) := by decide +kernel
theorem c111_104 : fx_op 111 104 = some (.iload 7, 106, 104) := by decide +kernel
theorem c111_106 : fx_op 111 106 = some (.iload 11, 108, 106) := by decide +kernel
theorem c111_108 : fx_op 111 108 = some (.ishr, 109, 108) := by decide +kernel
theorem c111_109 : fx_ci 111 109 = some (1, 110) := by decide +kernel
theorem c111_110 : fx_op 111 110 = some (.iand, 111, 110) := by decide +kernel
theorem c111_111 : fx_op 111 111 = some (.ifCond .eq 19, 114, 130) := by decide +kernel
theorem c111_130 : fx_cj 111 130 = some (0, 131) := by decide +kernel
theorem c111_131 : fx_op 111 131 = some (.lstore 12, 133, 131) := by decide +kernel
theorem c111_133 : fx_op 111 133 = some (.lload 8, 135, 133) := by decide +kernel
theorem c111_135 : fx_op 111 135 = some (.lload 12, 137, 135) := by decide +kernel
theorem c111_137 : fx_op 111 137 = some (.lor, 138, 137) := by decide +kernel
theorem c111_138 : fx_op 111 138 = some (.lstore 8, 140, 138) := by decide +kernel
theorem c111_140 : fx_op 111 140 = some (.iload 10, 142, 140) := by decide +kernel
theorem c111_142 : fx_op 111 142 = some (.lload 12, 144, 142) := by decide +kernel
theorem c111_144 : fx_cj 111 144 = some (0, 145) := by decide +kernel
theorem c111_145 : fx_op 111 145 = some (.lcmp, 146, 145) := by decide +kernel
theorem c111_146 : fx_op 111 146 = some (.ifCond .eq 12, 149, 158) := by decide +kernel
theorem c111_158 : fx_ci 111 158 = some (0, 159) := by decide +kernel
theorem c111_159 : fx_op 111 159 = some (.ior, 160, 159) := by decide +kernel
theorem c111_160 : fx_op 111 160 = some (.istore 10, 162, 160) := by decide +kernel
theorem c111_162 : fx_op 111 162 = some (.iinc 11 1, 165, 162) := by decide +kernel
theorem c111_168 : fx_ci 111 168 = some (0, 169) := by decide +kernel
theorem c111_169 : fx_op 111 169 = some (.istore 11, 171, 169) := by decide +kernel
theorem c111_114 : fx_op 111 114 = some (.aload_n 0, 115, 114) := by decide +kernel
theorem c111_115 : fx_gf 111 115 = some (3, 11, 118) := by decide +kernel
theorem c111_118 : fx_op 111 118 = some (.iload 4, 120, 118) := by decide +kernel
theorem c111_120 : fx_op 111 120 = some (.iload 11, 122, 120) := by decide +kernel
theorem c111_122 : fx_op 111 122 = some (.iadd, 123, 122) := by decide +kernel
theorem c111_123 : fx_op 111 123 = some (.laload, 124, 123) := by decide +kernel
theorem c111_124 : fx_op 111 124 = some (.lload 5, 126, 124) := by decide +kernel
theorem c111_126 : fx_op 111 126 = some (.land, 127, 126) := by decide +kernel
theorem c111_127 : fx_op 111 127 = some (.goto 4, 130, 131) := by decide +kernel
theorem c111_149 : fx_ci 111 149 = some (4096, 152) := by decide +kernel
theorem c111_152 : fx_op 111 152 = some (.iload 11, 154, 152) := by decide +kernel
theorem c111_154 : fx_op 111 154 = some (.ishl, 155, 154) := by decide +kernel
theorem c111_155 : fx_op 111 155 = some (.goto 4, 158, 159) := by decide +kernel
theorem c111_165 : fx_op 111 165 = some (.goto (-67), 168, 98) := by decide +kernel
theorem c111_171 : fx_op 111 171 = some (.iload 11, 173, 171) := by decide +kernel
theorem c111_173 : fx_ci 111 173 = some (4, 174) := by decide +kernel
theorem c111_174 : fx_op 111 174 = some (.if_icmp .ge 106, 177, 280) := by decide +kernel
theorem c111_177 : fx_op 111 177 = some (.lload 8, 179, 177) := by decide +kernel
theorem c111_179 : fx_cj 111 179 = some (0, 180) := by decide +kernel
theorem c111_180 : fx_op 111 180 = some (.lcmp, 181, 180) := by decide +kernel
theorem c111_181 : fx_op 111 181 = some (.ifCond .eq 99, 184, 280) := by decide +kernel
theorem c111_184 : fx_op 111 184 = some (.iload 10, 186, 184) := by decide +kernel
theorem c111_186 : fx_op 111 186 = some (.lload 8, 188, 186) := by decide +kernel
theorem c111_188 : fx_cr 111 188 = some (1000183, 191) := by decide +kernel
theorem c111_191 : fx_ci 111 191 = some (1, 192) := by decide +kernel
theorem c111_192 : fx_op 111 192 = some (.iload 11, 194, 192) := by decide +kernel
theorem c111_194 : fx_op 111 194 = some (.ishl, 195, 194) := by decide +kernel
theorem c111_195 : fx_op 111 195 = some (.laload, 196, 195) := by decide +kernel
theorem c111_196 : fx_op 111 196 = some (.land, 197, 196) := by decide +kernel
theorem c111_197 : fx_cj 111 197 = some (0, 198) := by decide +kernel
theorem c111_198 : fx_op 111 198 = some (.lcmp, 199, 198) := by decide +kernel
theorem c111_199 : fx_op 111 199 = some (.ifCond .eq 10, 202, 209) := by decide +kernel
theorem c111_209 : fx_ci 111 209 = some (0, 210) := by decide +kernel
theorem c111_210 : fx_op 111 210 = some (.ior, 211, 210) := by decide +kernel
theorem c111_211 : fx_op 111 211 = some (.istore 10, 213, 211) := by decide +kernel
theorem c111_213 : fx_op 111 213 = some (.iload 10, 215, 213) := by decide +kernel
theorem c111_215 : fx_op 111 215 = some (.lload 8, 217, 215) := by decide +kernel
theorem c111_217 : fx_cr 111 217 = some (1000184, 220) := by decide +kernel
theorem c111_220 : fx_ci 111 220 = some (1, 221) := by decide +kernel
theorem c111_221 : fx_op 111 221 = some (.iload 11, 223, 221) := by decide +kernel
theorem c111_223 : fx_op 111 223 = some (.ishl, 224, 223) := by decide +kernel
theorem c111_224 : fx_op 111 224 = some (.laload, 225, 224) := by decide +kernel
theorem c111_225 : fx_op 111 225 = some (.land, 226, 225) := by decide +kernel
theorem c111_226 : fx_cj 111 226 = some (0, 227) := by decide +kernel
theorem c111_227 : fx_op 111 227 = some (.lcmp, 228, 227) := by decide +kernel
theorem c111_228 : fx_op 111 228 = some (.ifCond .eq 11, 231, 239) := by decide +kernel
theorem c111_239 : fx_ci 111 239 = some (0, 240) := by decide +kernel
theorem c111_240 : fx_op 111 240 = some (.ior, 241, 240) := by decide +kernel
theorem c111_241 : fx_op 111 241 = some (.istore 10, 243, 241) := by decide +kernel
theorem c111_243 : fx_op 111 243 = some (.iload 10, 245, 243) := by decide +kernel
theorem c111_245 : fx_op 111 245 = some (.lload 8, 247, 245) := by decide +kernel
theorem c111_247 : fx_cr 111 247 = some (1000185, 250) := by decide +kernel
theorem c111_250 : fx_ci 111 250 = some (1, 251) := by decide +kernel
theorem c111_251 : fx_op 111 251 = some (.iload 11, 253, 251) := by decide +kernel
theorem c111_253 : fx_op 111 253 = some (.ishl, 254, 253) := by decide +kernel
theorem c111_254 : fx_op 111 254 = some (.laload, 255, 254) := by decide +kernel
theorem c111_255 : fx_op 111 255 = some (.land, 256, 255) := by decide +kernel
theorem c111_256 : fx_cj 111 256 = some (0, 257) := by decide +kernel
theorem c111_257 : fx_op 111 257 = some (.lcmp, 258, 257) := by decide +kernel
theorem c111_258 : fx_op 111 258 = some (.ifCond .eq 12, 261, 270) := by decide +kernel
theorem c111_270 : fx_ci 111 270 = some (0, 271) := by decide +kernel
theorem c111_271 : fx_op 111 271 = some (.ior, 272, 271) := by decide +kernel
theorem c111_272 : fx_op 111 272 = some (.istore 10, 274, 272) := by decide +kernel
theorem c111_274 : fx_op 111 274 = some (.iinc 11 1, 277, 274) := by decide +kernel
theorem c111_280 : fx_op 111 280 = some (.iload 10, 282, 280) := by decide +kernel
theorem c111_202 : fx_ci 111 202 = some (1, 203) := by decide +kernel
theorem c111_203 : fx_op 111 203 = some (.iload 11, 205, 203) := by decide +kernel
theorem c111_205 : fx_op 111 205 = some (.ishl, 206, 205) := by decide +kernel
theorem c111_206 : fx_op 111 206 = some (.goto 4, 209, 210) := by decide +kernel
theorem c111_231 : fx_ci 111 231 = some (16, 233) := by decide +kernel
theorem c111_233 : fx_op 111 233 = some (.iload 11, 235, 233) := by decide +kernel
theorem c111_235 : fx_op 111 235 = some (.ishl, 236, 235) := by decide +kernel
theorem c111_236 : fx_op 111 236 = some (.goto 4, 239, 240) := by decide +kernel
theorem c111_261 : fx_ci 111 261 = some (256, 264) := by decide +kernel
theorem c111_264 : fx_op 111 264 = some (.iload 11, 266, 264) := by decide +kernel
theorem c111_266 : fx_op 111 266 = some (.ishl, 267, 266) := by decide +kernel
theorem c111_267 : fx_op 111 267 = some (.goto 4, 270, 271) := by decide +kernel
theorem c111_282 : fx_op 111 282 = some (.ireturn, 283, 282) := by decide +kernel
theorem c111_277 : fx_op 111 277 = some (.goto (-106), 280, 171) := by decide +kernel
theorem s111_0 {kc : List va_E} {d : Nat} {p : Nat} {x1 x2 : Int} {M : fx_M} {Q : Option fx_V → fx_M → Prop} (Hp : fx_puz p) (H : (((0 : Int) ≤ 4 * x1 ∧ 4 * x1 < 48)) ∧ (((0 : Int) ≤ fx_and (fx_lushr x2 (4 * (M (p + 4) (4 * x1)))) 15 ∧ fx_and (fx_lushr x2 (4 * (M (p + 4) (4 * x1)))) 15 < 16) ∧ (kc[1000183 - lx_K]? = some (.inl (2, 16, .inr (.inl (fun i => xA0.getD i 0)))))) ∧ (((0 : Int) ≤ (4 * x1) + 1 ∧ (4 * x1) + 1 < 48)) ∧ (((0 : Int) ≤ fx_and (fx_lushr x2 (4 * (M (p + 4) ((4 * x1) + 1)))) 15 ∧ fx_and (fx_lushr x2 (4 * (M (p + 4) ((4 * x1) + 1)))) 15 < 16) ∧ (kc[1000184 - lx_K]? = some (.inl (2, 16, .inr (.inl (fun i => xA1.getD i 0)))))) ∧ (((0 : Int) ≤ (4 * x1) + 2 ∧ (4 * x1) + 2 < 48)) ∧ (((0 : Int) ≤ fx_and (fx_lushr x2 (4 * (M (p + 4) ((4 * x1) + 2)))) 15 ∧ fx_and (fx_lushr x2 (4 * (M (p + 4) ((4 * x1) + 2)))) 15 < 16) ∧ (kc[1000185 - lx_K]? = some (.inl (2, 16, .inr (.inl (fun i => xA2.getD i 0)))))) ∧ (((0 : Int) ≤ (4 * x1) + 3 ∧ (4 * x1) + 3 < 48)) ∧ wp kc (d + 1) 111 98 [some (jR p), none, none, none, some (jI (4 * x1)), some (jL (fx_land (fx_land ((xA0.getD (fx_and (fx_lushr x2 (4 * (M (p + 4) (4 * x1)))) 15).toNat 0).toInt) ((xA1.getD (fx_and (fx_lushr x2 (4 * (M (p + 4) ((4 * x1) + 1)))) 15).toNat 0).toInt)) ((xA2.getD (fx_and (fx_lushr x2 (4 * (M (p + 4) ((4 * x1) + 2)))) 15).toNat 0).toInt))), none, some (jI (fx_and (fx_lushr x2 (4 * (M (p + 4) ((4 * x1) + 3)))) 15)), some (jL 0), none, some (jI 0), some (jI 0), none, none] [] M Q) : wp kc (d + 1) 111 0 [some (jR p), some (jI x1), some (jL x2), none, none, none, none, none, none, none, none, none, none, none] [] M Q :=
  (x_ci c111_0 (x_ildn c111_1 rfl (x_imul c111_2 (x_ist (l' := [some (jR p), some (jI x1), some (jL x2), none, some (jI (4 * x1)), none, none, none, none, none, none, none, none, none]) c111_3 rfl (x_cr c111_5 (x_lldn c111_8 rfl (x_ci c111_9 (x_aldn c111_10 rfl (x_gfr c111_11 (kp_8 Hp) (x_ild c111_14 rfl (x_iald c111_16 (ap_4 Hp) H.1 (by decide) (x_imul c111_17 (x_lushr c111_18 (x_l2i c111_19 (x_ci c111_20 (x_iand c111_22 (x_laldk c111_23 (by decide) H.2.1.2 H.2.1.1 (by decide) (x_cr c111_24 (x_lldn c111_27 rfl (x_ci c111_28 (x_aldn c111_29 rfl (x_gfr c111_30 (kp_8 Hp) (x_ild c111_33 rfl (x_ci c111_35 (x_iadd c111_36 (x_iald c111_37 (ap_4 Hp) H.2.2.1 (by decide) (x_imul c111_38 (x_lushr c111_39 (x_l2i c111_40 (x_ci c111_41 (x_iand c111_43 (x_laldk c111_44 (by decide) H.2.2.2.1.2 H.2.2.2.1.1 (by decide) (x_land c111_45 (x_cr c111_46 (x_lldn c111_49 rfl (x_ci c111_50 (x_aldn c111_51 rfl (x_gfr c111_52 (kp_8 Hp) (x_ild c111_55 rfl (x_ci c111_57 (x_iadd c111_58 (x_iald c111_59 (ap_4 Hp) H.2.2.2.2.1 (by decide) (x_imul c111_60 (x_lushr c111_61 (x_l2i c111_62 (x_ci c111_63 (x_iand c111_65 (x_laldk c111_66 (by decide) H.2.2.2.2.2.1.2 H.2.2.2.2.2.1.1 (by decide) (x_land c111_67 (x_lst (l' := [some (jR p), some (jI x1), some (jL x2), none, some (jI (4 * x1)), some (jL (fx_land (fx_land ((xA0.getD (fx_and (fx_lushr x2 (4 * (M (p + 4) (4 * x1)))) 15).toNat 0).toInt) ((xA1.getD (fx_and (fx_lushr x2 (4 * (M (p + 4) ((4 * x1) + 1)))) 15).toNat 0).toInt)) ((xA2.getD (fx_and (fx_lushr x2 (4 * (M (p + 4) ((4 * x1) + 2)))) 15).toNat 0).toInt))), none, none, none, none, none, none, none, none]) c111_68 rfl (x_lldn c111_70 rfl (x_ci c111_71 (x_aldn c111_72 rfl (x_gfr c111_73 (kp_8 Hp) (x_ild c111_76 rfl (x_ci c111_78 (x_iadd c111_79 (x_iald c111_80 (ap_4 Hp) H.2.2.2.2.2.2.1 (by decide) (x_imul c111_81 (x_lushr c111_82 (x_l2i c111_83 (x_ci c111_84 (x_iand c111_86 (x_ist (l' := [some (jR p), some (jI x1), some (jL x2), none, some (jI (4 * x1)), some (jL (fx_land (fx_land ((xA0.getD (fx_and (fx_lushr x2 (4 * (M (p + 4) (4 * x1)))) 15).toNat 0).toInt) ((xA1.getD (fx_and (fx_lushr x2 (4 * (M (p + 4) ((4 * x1) + 1)))) 15).toNat 0).toInt)) ((xA2.getD (fx_and (fx_lushr x2 (4 * (M (p + 4) ((4 * x1) + 2)))) 15).toNat 0).toInt))), none, some (jI (fx_and (fx_lushr x2 (4 * (M (p + 4) ((4 * x1) + 3)))) 15)), none, none, none, none, none, none]) c111_87 rfl (x_cj c111_89 (x_lst (l' := [some (jR p), some (jI x1), some (jL x2), none, some (jI (4 * x1)), some (jL (fx_land (fx_land ((xA0.getD (fx_and (fx_lushr x2 (4 * (M (p + 4) (4 * x1)))) 15).toNat 0).toInt) ((xA1.getD (fx_and (fx_lushr x2 (4 * (M (p + 4) ((4 * x1) + 1)))) 15).toNat 0).toInt)) ((xA2.getD (fx_and (fx_lushr x2 (4 * (M (p + 4) ((4 * x1) + 2)))) 15).toNat 0).toInt))), none, some (jI (fx_and (fx_lushr x2 (4 * (M (p + 4) ((4 * x1) + 3)))) 15)), some (jL 0), none, none, none, none, none]) c111_90 rfl (x_ci c111_92 (x_ist (l' := [some (jR p), some (jI x1), some (jL x2), none, some (jI (4 * x1)), some (jL (fx_land (fx_land ((xA0.getD (fx_and (fx_lushr x2 (4 * (M (p + 4) (4 * x1)))) 15).toNat 0).toInt) ((xA1.getD (fx_and (fx_lushr x2 (4 * (M (p + 4) ((4 * x1) + 1)))) 15).toNat 0).toInt)) ((xA2.getD (fx_and (fx_lushr x2 (4 * (M (p + 4) ((4 * x1) + 2)))) 15).toNat 0).toInt))), none, some (jI (fx_and (fx_lushr x2 (4 * (M (p + 4) ((4 * x1) + 3)))) 15)), some (jL 0), none, some (jI 0), none, none, none]) c111_93 rfl (x_ci c111_95 (x_ist (l' := [some (jR p), some (jI x1), some (jL x2), none, some (jI (4 * x1)), some (jL (fx_land (fx_land ((xA0.getD (fx_and (fx_lushr x2 (4 * (M (p + 4) (4 * x1)))) 15).toNat 0).toInt) ((xA1.getD (fx_and (fx_lushr x2 (4 * (M (p + 4) ((4 * x1) + 1)))) 15).toNat 0).toInt)) ((xA2.getD (fx_and (fx_lushr x2 (4 * (M (p + 4) ((4 * x1) + 2)))) 15).toNat 0).toInt))), none, some (jI (fx_and (fx_lushr x2 (4 * (M (p + 4) ((4 * x1) + 3)))) 15)), some (jL 0), none, some (jI 0), some (jI 0), none, none]) c111_96 rfl (wp_wk (l' := [some (jR p), none, none, none, some (jI (4 * x1)), some (jL (fx_land (fx_land ((xA0.getD (fx_and (fx_lushr x2 (4 * (M (p + 4) (4 * x1)))) 15).toNat 0).toInt) ((xA1.getD (fx_and (fx_lushr x2 (4 * (M (p + 4) ((4 * x1) + 1)))) 15).toNat 0).toInt)) ((xA2.getD (fx_and (fx_lushr x2 (4 * (M (p + 4) ((4 * x1) + 2)))) 15).toNat 0).toInt))), none, some (jI (fx_and (fx_lushr x2 (4 * (M (p + 4) ((4 * x1) + 3)))) 15)), some (jL 0), none, some (jI 0), some (jI 0), none, none]) ⟨rfl, ⟨rfl, ⟨rfl, ⟨rfl, ⟨rfl, ⟨rfl, ⟨rfl, trivial⟩⟩⟩⟩⟩⟩⟩ H.2.2.2.2.2.2.2)))))))))))))))))))))))))))))))))))))))))))))))))))))))))))))))))))))))
theorem s111_98 {kc : List va_E} {d : Nat} {p : Nat} {v4 v5 v7 v8 v10 v11 : Int} {M : fx_M} {Q : Option fx_V → fx_M → Prop} (Hp : fx_puz p) (H : ((fx_in32 v11)) ∧ (4 ≤ v11 → wp kc (d + 1) 111 171 [none, none, none, none, none, none, none, none, some (jL v8), none, some (jI v10), some (jI 0), none, none] [] M Q) ∧ (v11 < 4 → ((fx_in32 (fx_and (fx_shr v7 v11) 1))) ∧ (fx_and (fx_shr v7 v11) 1 ≠ 0 → ((((0 : Int) ≤ v4 + v11 ∧ v4 + v11 < 48)))) ∧ ((fx_in64 (if fx_and (fx_shr v7 v11) 1 = 0 then (0 : Int) else fx_land (M (p + 7) (v4 + v11)) v5))) ∧ wp kc (d + 1) 111 98 [some (jR p), none, none, none, some (jI v4), some (jL v5), none, some (jI v7), some (jL (fx_lor v8 (if fx_and (fx_shr v7 v11) 1 = 0 then (0 : Int) else fx_land (M (p + 7) (v4 + v11)) v5))), none, some (jI (fx_or v10 (if fx_cmp (if fx_and (fx_shr v7 v11) 1 = 0 then (0 : Int) else fx_land (M (p + 7) (v4 + v11)) v5) 0 = 0 then (0 : Int) else fx_shl 4096 v11))), some (jI (v11 + 1)), none, none] [] M Q)) : wp kc (d + 1) 111 98 [some (jR p), none, none, none, some (jI v4), some (jL v5), none, some (jI v7), some (jL v8), none, some (jI v10), some (jI v11), none, none] [] M Q :=
  (x_ild c111_98 rfl (x_ci c111_100 (x_cge c111_101 H.1 (by decide) (fun h1 => (x_ci c111_168 (x_ist (l' := [some (jR p), none, none, none, some (jI v4), some (jL v5), none, some (jI v7), some (jL v8), none, some (jI v10), some (jI 0), none, none]) c111_169 rfl (wp_wk (l' := [none, none, none, none, none, none, none, none, some (jL v8), none, some (jI v10), some (jI 0), none, none]) ⟨rfl, ⟨rfl, ⟨rfl, trivial⟩⟩⟩ (H.2.1 h1))))) (fun h2 => (x_ild c111_104 rfl (x_ild c111_106 rfl (x_ishr c111_108 (x_ci c111_109 (x_iand c111_110 (have K : wp kc (d + 1) 111 131 [some (jR p), none, none, none, some (jI v4), some (jL v5), none, some (jI v7), some (jL v8), none, some (jI v10), some (jI v11), none, none] [jL (if fx_and (fx_shr v7 v11) 1 = 0 then (0 : Int) else fx_land (M (p + 7) (v4 + v11)) v5)] M Q := (x_lst (l' := [some (jR p), none, none, none, some (jI v4), some (jL v5), none, some (jI v7), some (jL v8), none, some (jI v10), some (jI v11), some (jL (if fx_and (fx_shr v7 v11) 1 = 0 then (0 : Int) else fx_land (M (p + 7) (v4 + v11)) v5)), none]) c111_131 rfl (x_lld c111_133 rfl (x_lld c111_135 rfl (x_lor c111_137 (x_lst (l' := [some (jR p), none, none, none, some (jI v4), some (jL v5), none, some (jI v7), some (jL (fx_lor v8 (if fx_and (fx_shr v7 v11) 1 = 0 then (0 : Int) else fx_land (M (p + 7) (v4 + v11)) v5))), none, some (jI v10), some (jI v11), some (jL (if fx_and (fx_shr v7 v11) 1 = 0 then (0 : Int) else fx_land (M (p + 7) (v4 + v11)) v5)), none]) c111_138 rfl (x_ild c111_140 rfl (x_lld c111_142 rfl (x_cj c111_144 (x_lcmp c111_145 (H.2.2 h2).2.2.1 (by decide) (have K : wp kc (d + 1) 111 159 [some (jR p), none, none, none, some (jI v4), some (jL v5), none, some (jI v7), some (jL (fx_lor v8 (if fx_and (fx_shr v7 v11) 1 = 0 then (0 : Int) else fx_land (M (p + 7) (v4 + v11)) v5))), none, none, some (jI v11), none, none] [jI (if fx_cmp (if fx_and (fx_shr v7 v11) 1 = 0 then (0 : Int) else fx_land (M (p + 7) (v4 + v11)) v5) 0 = 0 then (0 : Int) else fx_shl 4096 v11), jI v10] M Q := (x_ior c111_159 (x_ist (l' := [some (jR p), none, none, none, some (jI v4), some (jL v5), none, some (jI v7), some (jL (fx_lor v8 (if fx_and (fx_shr v7 v11) 1 = 0 then (0 : Int) else fx_land (M (p + 7) (v4 + v11)) v5))), none, some (jI (fx_or v10 (if fx_cmp (if fx_and (fx_shr v7 v11) 1 = 0 then (0 : Int) else fx_land (M (p + 7) (v4 + v11)) v5) 0 = 0 then (0 : Int) else fx_shl 4096 v11))), some (jI v11), none, none]) c111_160 rfl (x_inc (l' := [some (jR p), none, none, none, some (jI v4), some (jL v5), none, some (jI v7), some (jL (fx_lor v8 (if fx_and (fx_shr v7 v11) 1 = 0 then (0 : Int) else fx_land (M (p + 7) (v4 + v11)) v5))), none, some (jI (fx_or v10 (if fx_cmp (if fx_and (fx_shr v7 v11) 1 = 0 then (0 : Int) else fx_land (M (p + 7) (v4 + v11)) v5) 0 = 0 then (0 : Int) else fx_shl 4096 v11))), some (jI (v11 + 1)), none, none]) c111_162 rfl rfl (x_goto c111_165 (wp_wk (l' := [some (jR p), none, none, none, some (jI v4), some (jL v5), none, some (jI v7), some (jL (fx_lor v8 (if fx_and (fx_shr v7 v11) 1 = 0 then (0 : Int) else fx_land (M (p + 7) (v4 + v11)) v5))), none, some (jI (fx_or v10 (if fx_cmp (if fx_and (fx_shr v7 v11) 1 = 0 then (0 : Int) else fx_land (M (p + 7) (v4 + v11)) v5) 0 = 0 then (0 : Int) else fx_shl 4096 v11))), some (jI (v11 + 1)), none, none]) ⟨rfl, ⟨rfl, ⟨rfl, ⟨rfl, ⟨rfl, ⟨rfl, ⟨rfl, trivial⟩⟩⟩⟩⟩⟩⟩ (H.2.2 h2).2.2.2))))); (x_zeq c111_146 (fx_cmp_in _ _) (fun (h5 : fx_cmp (if fx_and (fx_shr v7 v11) 1 = 0 then (0 : Int) else fx_land (M (p + 7) (v4 + v11)) v5) 0 = 0) => (x_ci c111_158 (wp_wk (l' := [some (jR p), none, none, none, some (jI v4), some (jL v5), none, some (jI v7), some (jL (fx_lor v8 (if fx_and (fx_shr v7 v11) 1 = 0 then (0 : Int) else fx_land (M (p + 7) (v4 + v11)) v5))), none, none, some (jI v11), none, none]) ⟨rfl, ⟨rfl, ⟨rfl, ⟨rfl, ⟨rfl, ⟨rfl, trivial⟩⟩⟩⟩⟩⟩ (by have K := K; first | (simp only [if_pos h5] at K ⊢; exact K) | (exfalso; omega))))) (fun (h6 : fx_cmp (if fx_and (fx_shr v7 v11) 1 = 0 then (0 : Int) else fx_land (M (p + 7) (v4 + v11)) v5) 0 ≠ 0) => (x_ci c111_149 (x_ild c111_152 rfl (x_ishl c111_154 (x_goto c111_155 (wp_wk (l' := [some (jR p), none, none, none, some (jI v4), some (jL v5), none, some (jI v7), some (jL (fx_lor v8 (if fx_and (fx_shr v7 v11) 1 = 0 then (0 : Int) else fx_land (M (p + 7) (v4 + v11)) v5))), none, none, some (jI v11), none, none]) ⟨rfl, ⟨rfl, ⟨rfl, ⟨rfl, ⟨rfl, ⟨rfl, trivial⟩⟩⟩⟩⟩⟩ (by have K := K; first | (simp only [if_neg h6] at K ⊢; exact K) | (exfalso; omega))))))))))))))))))); (x_zeq c111_111 (H.2.2 h2).1 (fun (h3 : fx_and (fx_shr v7 v11) 1 = 0) => (x_cj c111_130 (wp_wk (l' := [some (jR p), none, none, none, some (jI v4), some (jL v5), none, some (jI v7), some (jL v8), none, some (jI v10), some (jI v11), none, none]) ⟨rfl, ⟨rfl, ⟨rfl, ⟨rfl, ⟨rfl, ⟨rfl, ⟨rfl, trivial⟩⟩⟩⟩⟩⟩⟩ (by have K := K; first | (simp only [if_pos h3] at K ⊢; exact K) | (exfalso; omega))))) (fun (h4 : fx_and (fx_shr v7 v11) 1 ≠ 0) => (x_aldn c111_114 rfl (x_gfr c111_115 (kp_11 Hp) (x_ild c111_118 rfl (x_ild c111_120 rfl (x_iadd c111_122 (x_lald c111_123 (ap_7 Hp) ((H.2.2 h2).2.1 h4) (by decide) (x_lld c111_124 rfl (x_land c111_126 (x_goto c111_127 (wp_wk (l' := [some (jR p), none, none, none, some (jI v4), some (jL v5), none, some (jI v7), some (jL v8), none, some (jI v10), some (jI v11), none, none]) ⟨rfl, ⟨rfl, ⟨rfl, ⟨rfl, ⟨rfl, ⟨rfl, ⟨rfl, trivial⟩⟩⟩⟩⟩⟩⟩ (by have K := K; first | (simp only [if_neg h4] at K ⊢; exact K) | (exfalso; omega))))))))))))))))))))))))
theorem s111_171 {kc : List va_E} {d : Nat} {p : Nat} {v8 v10 v11 : Int} {M : fx_M} {Q : Option fx_V → fx_M → Prop} (Hp : fx_puz p) (H : ((fx_in32 v11)) ∧ (4 ≤ v11 → Q (some (jI v10)) M) ∧ (v11 < 4 → ((fx_in64 v8)) ∧ (fx_cmp v8 0 = 0 → Q (some (jI v10)) M) ∧ (fx_cmp v8 0 ≠ 0 → (((0 : Int) ≤ fx_shl 1 v11 ∧ fx_shl 1 v11 < 16) ∧ (kc[1000183 - lx_K]? = some (.inl (2, 16, .inr (.inl (fun i => xA0.getD i 0)))))) ∧ ((fx_in64 (fx_land v8 ((xA0.getD (fx_shl 1 v11).toNat 0).toInt)))) ∧ (((0 : Int) ≤ fx_shl 1 v11 ∧ fx_shl 1 v11 < 16) ∧ (kc[1000184 - lx_K]? = some (.inl (2, 16, .inr (.inl (fun i => xA1.getD i 0)))))) ∧ ((fx_in64 (fx_land v8 ((xA1.getD (fx_shl 1 v11).toNat 0).toInt)))) ∧ (((0 : Int) ≤ fx_shl 1 v11 ∧ fx_shl 1 v11 < 16) ∧ (kc[1000185 - lx_K]? = some (.inl (2, 16, .inr (.inl (fun i => xA2.getD i 0)))))) ∧ ((fx_in64 (fx_land v8 ((xA2.getD (fx_shl 1 v11).toNat 0).toInt)))) ∧ wp kc (d + 1) 111 171 [none, none, none, none, none, none, none, none, some (jL v8), none, some (jI (fx_or (fx_or (fx_or v10 (if fx_cmp (fx_land v8 ((xA0.getD (fx_shl 1 v11).toNat 0).toInt)) 0 = 0 then (0 : Int) else fx_shl 1 v11)) (if fx_cmp (fx_land v8 ((xA1.getD (fx_shl 1 v11).toNat 0).toInt)) 0 = 0 then (0 : Int) else fx_shl 16 v11)) (if fx_cmp (fx_land v8 ((xA2.getD (fx_shl 1 v11).toNat 0).toInt)) 0 = 0 then (0 : Int) else fx_shl 256 v11))), some (jI (v11 + 1)), none, none] [] M Q))) : wp kc (d + 1) 111 171 [none, none, none, none, none, none, none, none, some (jL v8), none, some (jI v10), some (jI v11), none, none] [] M Q :=
  (x_ild c111_171 rfl (x_ci c111_173 (x_cge c111_174 H.1 (by decide) (fun h3 => (x_ild c111_280 rfl (x_irt c111_282 r111 (H.2.1 h3)))) (fun h4 => (x_lld c111_177 rfl (x_cj c111_179 (x_lcmp c111_180 (H.2.2 h4).1 (by decide) (x_zeq c111_181 (fx_cmp_in _ _) (fun h1 => (x_ild c111_280 rfl (x_irt c111_282 r111 ((H.2.2 h4).2.1 h1)))) (fun h2 => (x_ild c111_184 rfl (x_lld c111_186 rfl (x_cr c111_188 (x_ci c111_191 (x_ild c111_192 rfl (x_ishl c111_194 (x_laldk c111_195 (by decide) ((H.2.2 h4).2.2 h2).1.2 ((H.2.2 h4).2.2 h2).1.1 (by decide) (x_land c111_196 (x_cj c111_197 (x_lcmp c111_198 ((H.2.2 h4).2.2 h2).2.1 (by decide) (have K : wp kc (d + 1) 111 210 [none, none, none, none, none, none, none, none, some (jL v8), none, none, some (jI v11), none, none] [jI (if fx_cmp (fx_land v8 ((xA0.getD (fx_shl 1 v11).toNat 0).toInt)) 0 = 0 then (0 : Int) else fx_shl 1 v11), jI v10] M Q := (x_ior c111_210 (x_ist (l' := [none, none, none, none, none, none, none, none, some (jL v8), none, some (jI (fx_or v10 (if fx_cmp (fx_land v8 ((xA0.getD (fx_shl 1 v11).toNat 0).toInt)) 0 = 0 then (0 : Int) else fx_shl 1 v11))), some (jI v11), none, none]) c111_211 rfl (x_ild c111_213 rfl (x_lld c111_215 rfl (x_cr c111_217 (x_ci c111_220 (x_ild c111_221 rfl (x_ishl c111_223 (x_laldk c111_224 (by decide) ((H.2.2 h4).2.2 h2).2.2.1.2 ((H.2.2 h4).2.2 h2).2.2.1.1 (by decide) (x_land c111_225 (x_cj c111_226 (x_lcmp c111_227 ((H.2.2 h4).2.2 h2).2.2.2.1 (by decide) (have K : wp kc (d + 1) 111 240 [none, none, none, none, none, none, none, none, some (jL v8), none, none, some (jI v11), none, none] [jI (if fx_cmp (fx_land v8 ((xA1.getD (fx_shl 1 v11).toNat 0).toInt)) 0 = 0 then (0 : Int) else fx_shl 16 v11), jI (fx_or v10 (if fx_cmp (fx_land v8 ((xA0.getD (fx_shl 1 v11).toNat 0).toInt)) 0 = 0 then (0 : Int) else fx_shl 1 v11))] M Q := (x_ior c111_240 (x_ist (l' := [none, none, none, none, none, none, none, none, some (jL v8), none, some (jI (fx_or (fx_or v10 (if fx_cmp (fx_land v8 ((xA0.getD (fx_shl 1 v11).toNat 0).toInt)) 0 = 0 then (0 : Int) else fx_shl 1 v11)) (if fx_cmp (fx_land v8 ((xA1.getD (fx_shl 1 v11).toNat 0).toInt)) 0 = 0 then (0 : Int) else fx_shl 16 v11))), some (jI v11), none, none]) c111_241 rfl (x_ild c111_243 rfl (x_lld c111_245 rfl (x_cr c111_247 (x_ci c111_250 (x_ild c111_251 rfl (x_ishl c111_253 (x_laldk c111_254 (by decide) ((H.2.2 h4).2.2 h2).2.2.2.2.1.2 ((H.2.2 h4).2.2 h2).2.2.2.2.1.1 (by decide) (x_land c111_255 (x_cj c111_256 (x_lcmp c111_257 ((H.2.2 h4).2.2 h2).2.2.2.2.2.1 (by decide) (have K : wp kc (d + 1) 111 271 [none, none, none, none, none, none, none, none, some (jL v8), none, none, some (jI v11), none, none] [jI (if fx_cmp (fx_land v8 ((xA2.getD (fx_shl 1 v11).toNat 0).toInt)) 0 = 0 then (0 : Int) else fx_shl 256 v11), jI (fx_or (fx_or v10 (if fx_cmp (fx_land v8 ((xA0.getD (fx_shl 1 v11).toNat 0).toInt)) 0 = 0 then (0 : Int) else fx_shl 1 v11)) (if fx_cmp (fx_land v8 ((xA1.getD (fx_shl 1 v11).toNat 0).toInt)) 0 = 0 then (0 : Int) else fx_shl 16 v11))] M Q := (x_ior c111_271 (x_ist (l' := [none, none, none, none, none, none, none, none, some (jL v8), none, some (jI (fx_or (fx_or (fx_or v10 (if fx_cmp (fx_land v8 ((xA0.getD (fx_shl 1 v11).toNat 0).toInt)) 0 = 0 then (0 : Int) else fx_shl 1 v11)) (if fx_cmp (fx_land v8 ((xA1.getD (fx_shl 1 v11).toNat 0).toInt)) 0 = 0 then (0 : Int) else fx_shl 16 v11)) (if fx_cmp (fx_land v8 ((xA2.getD (fx_shl 1 v11).toNat 0).toInt)) 0 = 0 then (0 : Int) else fx_shl 256 v11))), some (jI v11), none, none]) c111_272 rfl (x_inc (l' := [none, none, none, none, none, none, none, none, some (jL v8), none, some (jI (fx_or (fx_or (fx_or v10 (if fx_cmp (fx_land v8 ((xA0.getD (fx_shl 1 v11).toNat 0).toInt)) 0 = 0 then (0 : Int) else fx_shl 1 v11)) (if fx_cmp (fx_land v8 ((xA1.getD (fx_shl 1 v11).toNat 0).toInt)) 0 = 0 then (0 : Int) else fx_shl 16 v11)) (if fx_cmp (fx_land v8 ((xA2.getD (fx_shl 1 v11).toNat 0).toInt)) 0 = 0 then (0 : Int) else fx_shl 256 v11))), some (jI (v11 + 1)), none, none]) c111_274 rfl rfl (x_goto c111_277 (wp_wk (l' := [none, none, none, none, none, none, none, none, some (jL v8), none, some (jI (fx_or (fx_or (fx_or v10 (if fx_cmp (fx_land v8 ((xA0.getD (fx_shl 1 v11).toNat 0).toInt)) 0 = 0 then (0 : Int) else fx_shl 1 v11)) (if fx_cmp (fx_land v8 ((xA1.getD (fx_shl 1 v11).toNat 0).toInt)) 0 = 0 then (0 : Int) else fx_shl 16 v11)) (if fx_cmp (fx_land v8 ((xA2.getD (fx_shl 1 v11).toNat 0).toInt)) 0 = 0 then (0 : Int) else fx_shl 256 v11))), some (jI (v11 + 1)), none, none]) ⟨rfl, ⟨rfl, ⟨rfl, trivial⟩⟩⟩ ((H.2.2 h4).2.2 h2).2.2.2.2.2.2))))); (x_zeq c111_258 (fx_cmp_in _ _) (fun (h9 : fx_cmp (fx_land v8 ((xA2.getD (fx_shl 1 v11).toNat 0).toInt)) 0 = 0) => (x_ci c111_270 (wp_wk (l' := [none, none, none, none, none, none, none, none, some (jL v8), none, none, some (jI v11), none, none]) ⟨rfl, ⟨rfl, trivial⟩⟩ (by have K := K; first | (simp only [if_pos h9] at K ⊢; exact K) | (exfalso; omega))))) (fun (h10 : fx_cmp (fx_land v8 ((xA2.getD (fx_shl 1 v11).toNat 0).toInt)) 0 ≠ 0) => (x_ci c111_261 (x_ild c111_264 rfl (x_ishl c111_266 (x_goto c111_267 (wp_wk (l' := [none, none, none, none, none, none, none, none, some (jL v8), none, none, some (jI v11), none, none]) ⟨rfl, ⟨rfl, trivial⟩⟩ (by have K := K; first | (simp only [if_neg h10] at K ⊢; exact K) | (exfalso; omega)))))))))))))))))))))); (x_zeq c111_228 (fx_cmp_in _ _) (fun (h7 : fx_cmp (fx_land v8 ((xA1.getD (fx_shl 1 v11).toNat 0).toInt)) 0 = 0) => (x_ci c111_239 (wp_wk (l' := [none, none, none, none, none, none, none, none, some (jL v8), none, none, some (jI v11), none, none]) ⟨rfl, ⟨rfl, trivial⟩⟩ (by have K := K; first | (simp only [if_pos h7] at K ⊢; exact K) | (exfalso; omega))))) (fun (h8 : fx_cmp (fx_land v8 ((xA1.getD (fx_shl 1 v11).toNat 0).toInt)) 0 ≠ 0) => (x_ci c111_231 (x_ild c111_233 rfl (x_ishl c111_235 (x_goto c111_236 (wp_wk (l' := [none, none, none, none, none, none, none, none, some (jL v8), none, none, some (jI v11), none, none]) ⟨rfl, ⟨rfl, trivial⟩⟩ (by have K := K; first | (simp only [if_neg h8] at K ⊢; exact K) | (exfalso; omega)))))))))))))))))))))); (x_zeq c111_199 (fx_cmp_in _ _) (fun (h5 : fx_cmp (fx_land v8 ((xA0.getD (fx_shl 1 v11).toNat 0).toInt)) 0 = 0) => (x_ci c111_209 (wp_wk (l' := [none, none, none, none, none, none, none, none, some (jL v8), none, none, some (jI v11), none, none]) ⟨rfl, ⟨rfl, trivial⟩⟩ (by have K := K; first | (simp only [if_pos h5] at K ⊢; exact K) | (exfalso; omega))))) (fun (h6 : fx_cmp (fx_land v8 ((xA0.getD (fx_shl 1 v11).toNat 0).toInt)) 0 ≠ 0) => (x_ci c111_202 (x_ild c111_203 rfl (x_ishl c111_205 (x_goto c111_206 (wp_wk (l' := [none, none, none, none, none, none, none, none, some (jL v8), none, none, some (jI v11), none, none]) ⟨rfl, ⟨rfl, trivial⟩⟩ (by have K := K; first | (simp only [if_neg h6] at K ⊢; exact K) | (exfalso; omega)))))))))))))))))))))))))))))
theorem s111 {kc : List va_E} {d : Nat} {p : Nat} {x1 x2 : Int} {M : fx_M} {Q : Option fx_V → fx_M → Prop} (Hp : fx_puz p) (H : (((0 : Int) ≤ 4 * x1 ∧ 4 * x1 < 48)) ∧ (((0 : Int) ≤ fx_and (fx_lushr x2 (4 * (M (p + 4) (4 * x1)))) 15 ∧ fx_and (fx_lushr x2 (4 * (M (p + 4) (4 * x1)))) 15 < 16) ∧ (kc[1000183 - lx_K]? = some (.inl (2, 16, .inr (.inl (fun i => xA0.getD i 0)))))) ∧ (((0 : Int) ≤ (4 * x1) + 1 ∧ (4 * x1) + 1 < 48)) ∧ (((0 : Int) ≤ fx_and (fx_lushr x2 (4 * (M (p + 4) ((4 * x1) + 1)))) 15 ∧ fx_and (fx_lushr x2 (4 * (M (p + 4) ((4 * x1) + 1)))) 15 < 16) ∧ (kc[1000184 - lx_K]? = some (.inl (2, 16, .inr (.inl (fun i => xA1.getD i 0)))))) ∧ (((0 : Int) ≤ (4 * x1) + 2 ∧ (4 * x1) + 2 < 48)) ∧ (((0 : Int) ≤ fx_and (fx_lushr x2 (4 * (M (p + 4) ((4 * x1) + 2)))) 15 ∧ fx_and (fx_lushr x2 (4 * (M (p + 4) ((4 * x1) + 2)))) 15 < 16) ∧ (kc[1000185 - lx_K]? = some (.inl (2, 16, .inr (.inl (fun i => xA2.getD i 0)))))) ∧ (((0 : Int) ≤ (4 * x1) + 3 ∧ (4 * x1) + 3 < 48)) ∧ wp kc (d + 1) 111 98 [some (jR p), none, none, none, some (jI (4 * x1)), some (jL (fx_land (fx_land ((xA0.getD (fx_and (fx_lushr x2 (4 * (M (p + 4) (4 * x1)))) 15).toNat 0).toInt) ((xA1.getD (fx_and (fx_lushr x2 (4 * (M (p + 4) ((4 * x1) + 1)))) 15).toNat 0).toInt)) ((xA2.getD (fx_and (fx_lushr x2 (4 * (M (p + 4) ((4 * x1) + 2)))) 15).toNat 0).toInt))), none, some (jI (fx_and (fx_lushr x2 (4 * (M (p + 4) ((4 * x1) + 3)))) 15)), some (jL 0), none, some (jI 0), some (jI 0), none, none] [] M Q) : wc kc (d + 1) 111 [jR p, jI x1, jL x2] M Q :=
  wc_of (wp_wk (l' := [some (jR p), some (jI x1), some (jL x2), none, none, none, none, none, none, none, none, none, none, none]) ⟨rfl, ⟨rfl, ⟨rfl, trivial⟩⟩⟩ (s111_0 Hp H))

/- PuzzleHouse$Puzzle.jointly(IIJI)J -/
theorem c125_0 : fx_op 125 0 = some (.aload_n 0, 1, 0) := by decide +kernel
theorem c125_1 : fx_op 125 1 = some (.iload_n 1, 2, 1) := by decide +kernel
theorem c125_2 : fx_op 125 2 = some (.lload_n 3, 3, 2) := by decide +kernel
theorem c125_3 : fx_ca 125 3 = some (111, 3, 2, 6) := by decide +kernel
theorem c125_6 : fx_op 125 6 = some (.istore 6, 8, 6) := by decide +kernel
theorem c125_8 : fx_op 125 8 = some (.aload_n 0, 9, 8) := by decide +kernel
theorem c125_9 : fx_op 125 9 = some (.iload_n 2, 10, 9) := by decide +kernel
theorem c125_10 : fx_op 125 10 = some (.lload_n 3, 11, 10) := by decide +kernel
theorem c125_11 : fx_ca 125 11 = some (111, 3, 2, 14) := by decide +kernel
theorem c125_14 : fx_op 125 14 = some (.istore 7, 16, 14) := by decide +kernel
theorem c125_16 : fx_cj 125 16 = some (0, 17) := by decide +kernel
theorem c125_17 : fx_op 125 17 = some (.lstore 8, 19, 17) := by decide +kernel
theorem c125_19 : fx_op 125 19 = some (.iload 6, 21, 19) := by decide +kernel
theorem c125_21 : fx_op 125 21 = some (.ifCond .eq 8, 24, 29) := by decide +kernel
theorem c125_29 : fx_op 125 29 = some (.lload 8, 31, 29) := by decide +kernel
theorem c125_24 : fx_op 125 24 = some (.iload 7, 26, 24) := by decide +kernel
theorem c125_26 : fx_op 125 26 = some (.ifCond .ne 6, 29, 32) := by decide +kernel
theorem c125_32 : fx_op 125 32 = some (.iload 5, 34, 32) := by decide +kernel
theorem c125_34 : fx_op 125 34 = some (.ifCond .ne 81, 37, 115) := by decide +kernel
theorem c125_115 : fx_op 125 115 = some (.iload 5, 117, 115) := by decide +kernel
theorem c125_37 : fx_ci 125 37 = some (0, 38) := by decide +kernel
theorem c125_38 : fx_op 125 38 = some (.istore 10, 40, 38) := by decide +kernel
theorem c125_31 : fx_op 125 31 = some (.lreturn, 32, 31) := by decide +kernel
theorem c125_117 : fx_ca 125 117 = some (87, 1, 1, 120) := by decide +kernel
theorem c125_40 : fx_op 125 40 = some (.iload 10, 42, 40) := by decide +kernel
theorem c125_42 : fx_ci 125 42 = some (4, 43) := by decide +kernel
theorem c125_43 : fx_op 125 43 = some (.if_icmp .ge 69, 46, 112) := by decide +kernel
theorem c125_46 : fx_op 125 46 = some (.lload 8, 48, 46) := by decide +kernel
theorem c125_48 : fx_op 125 48 = some (.iload 6, 50, 48) := by decide +kernel
theorem c125_50 : fx_ci 125 50 = some (4, 51) := by decide +kernel
theorem c125_51 : fx_op 125 51 = some (.iload 10, 53, 51) := by decide +kernel
theorem c125_53 : fx_op 125 53 = some (.imul, 54, 53) := by decide +kernel
theorem c125_54 : fx_op 125 54 = some (.ishr, 55, 54) := by decide +kernel
theorem c125_55 : fx_ci 125 55 = some (15, 57) := by decide +kernel
theorem c125_57 : fx_op 125 57 = some (.iand, 58, 57) := by decide +kernel
theorem c125_58 : fx_op 125 58 = some (.i2l, 59, 58) := by decide +kernel
theorem c125_59 : fx_ci 125 59 = some (4, 60) := by decide +kernel
theorem c125_60 : fx_op 125 60 = some (.aload_n 0, 61, 60) := by decide +kernel
theorem c125_61 : fx_gf 125 61 = some (3, 8, 64) := by decide +kernel
theorem c125_64 : fx_ci 125 64 = some (4, 65) := by decide +kernel
theorem c125_65 : fx_op 125 65 = some (.iload_n 1, 66, 65) := by decide +kernel
theorem c125_66 : fx_op 125 66 = some (.imul, 67, 66) := by decide +kernel
theorem c125_67 : fx_op 125 67 = some (.iload 10, 69, 67) := by decide +kernel
theorem c125_69 : fx_op 125 69 = some (.iadd, 70, 69) := by decide +kernel
theorem c125_70 : fx_op 125 70 = some (.iaload, 71, 70) := by decide +kernel
theorem c125_71 : fx_op 125 71 = some (.imul, 72, 71) := by decide +kernel
theorem c125_72 : fx_op 125 72 = some (.lshl, 73, 72) := by decide +kernel
theorem c125_73 : fx_op 125 73 = some (.lor, 74, 73) := by decide +kernel
theorem c125_74 : fx_op 125 74 = some (.lstore 8, 76, 74) := by decide +kernel
theorem c125_76 : fx_op 125 76 = some (.lload 8, 78, 76) := by decide +kernel
theorem c125_78 : fx_op 125 78 = some (.iload 7, 80, 78) := by decide +kernel
theorem c125_80 : fx_ci 125 80 = some (4, 81) := by decide +kernel
theorem c125_81 : fx_op 125 81 = some (.iload 10, 83, 81) := by decide +kernel
theorem c125_83 : fx_op 125 83 = some (.imul, 84, 83) := by decide +kernel
theorem c125_84 : fx_op 125 84 = some (.ishr, 85, 84) := by decide +kernel
theorem c125_85 : fx_ci 125 85 = some (15, 87) := by decide +kernel
theorem c125_87 : fx_op 125 87 = some (.iand, 88, 87) := by decide +kernel
theorem c125_88 : fx_op 125 88 = some (.i2l, 89, 88) := by decide +kernel
theorem c125_89 : fx_ci 125 89 = some (4, 90) := by decide +kernel
theorem c125_90 : fx_op 125 90 = some (.aload_n 0, 91, 90) := by decide +kernel
theorem c125_91 : fx_gf 125 91 = some (3, 8, 94) := by decide +kernel
theorem c125_94 : fx_ci 125 94 = some (4, 95) := by decide +kernel
theorem c125_95 : fx_op 125 95 = some (.iload_n 2, 96, 95) := by decide +kernel
theorem c125_96 : fx_op 125 96 = some (.imul, 97, 96) := by decide +kernel
theorem c125_97 : fx_op 125 97 = some (.iload 10, 99, 97) := by decide +kernel
theorem c125_99 : fx_op 125 99 = some (.iadd, 100, 99) := by decide +kernel
theorem c125_100 : fx_op 125 100 = some (.iaload, 101, 100) := by decide +kernel
theorem c125_101 : fx_op 125 101 = some (.imul, 102, 101) := by decide +kernel
theorem c125_102 : fx_op 125 102 = some (.lshl, 103, 102) := by decide +kernel
theorem c125_103 : fx_op 125 103 = some (.lor, 104, 103) := by decide +kernel
theorem c125_104 : fx_op 125 104 = some (.lstore 8, 106, 104) := by decide +kernel
theorem c125_106 : fx_op 125 106 = some (.iinc 10 1, 109, 106) := by decide +kernel
theorem c125_112 : fx_op 125 112 = some (.lload 8, 114, 112) := by decide +kernel
theorem c125_114 : fx_op 125 114 = some (.lreturn, 115, 114) := by decide +kernel
theorem c125_109 : fx_op 125 109 = some (.goto (-69), 112, 40) := by decide +kernel
theorem c125_120 : fx_op 125 120 = some (.istore 10, 122, 120) := by decide +kernel
theorem c125_122 : fx_ci 125 122 = some (0, 123) := by decide +kernel
theorem c125_123 : fx_op 125 123 = some (.istore 11, 125, 123) := by decide +kernel
theorem c125_125 : fx_op 125 125 = some (.iload 11, 127, 125) := by decide +kernel
theorem c125_127 : fx_ci 125 127 = some (4, 128) := by decide +kernel
theorem c125_128 : fx_op 125 128 = some (.if_icmp .ge 49, 131, 177) := by decide +kernel
theorem c125_131 : fx_op 125 131 = some (.lload_n 3, 132, 131) := by decide +kernel
theorem c125_132 : fx_op 125 132 = some (.iload 10, 134, 132) := by decide +kernel
theorem c125_177 : fx_op 125 177 = some (.lload 8, 179, 177) := by decide +kernel
theorem c125_179 : fx_op 125 179 = some (.lreturn, 180, 179) := by decide +kernel
theorem c125_134 : fx_ca 125 134 = some (86, 2, 1, 137) := by decide +kernel
theorem c125_137 : fx_op 125 137 = some (.iload 11, 139, 137) := by decide +kernel
theorem c125_139 : fx_op 125 139 = some (.ishr, 140, 139) := by decide +kernel
theorem c125_140 : fx_ci 125 140 = some (1, 141) := by decide +kernel
theorem c125_141 : fx_op 125 141 = some (.iand, 142, 141) := by decide +kernel
theorem c125_142 : fx_op 125 142 = some (.ifCond .eq 29, 145, 171) := by decide +kernel
theorem c125_145 : fx_op 125 145 = some (.lload 8, 147, 145) := by decide +kernel
theorem c125_147 : fx_op 125 147 = some (.aload_n 0, 148, 147) := by decide +kernel
theorem c125_148 : fx_op 125 148 = some (.iload_n 1, 149, 148) := by decide +kernel
theorem c125_149 : fx_op 125 149 = some (.iload_n 2, 150, 149) := by decide +kernel
theorem c125_150 : fx_op 125 150 = some (.lload_n 3, 151, 150) := by decide +kernel
theorem c125_151 : fx_op 125 151 = some (.iload 10, 153, 151) := by decide +kernel
theorem c125_153 : fx_op 125 153 = some (.iload 11, 155, 153) := by decide +kernel
theorem c125_171 : fx_op 125 171 = some (.iinc 11 1, 174, 171) := by decide +kernel
theorem c125_174 : fx_op 125 174 = some (.goto (-49), 177, 125) := by decide +kernel
theorem c125_155 : fx_ca 125 155 = some (83, 3, 1, 158) := by decide +kernel
theorem c125_158 : fx_op 125 158 = some (.iload 5, 160, 158) := by decide +kernel
theorem c125_160 : fx_op 125 160 = some (.iload 5, 162, 160) := by decide +kernel
theorem c125_162 : fx_ci 125 162 = some (1, 163) := by decide +kernel
theorem c125_163 : fx_op 125 163 = some (.isub, 164, 163) := by decide +kernel
theorem c125_164 : fx_op 125 164 = some (.iand, 165, 164) := by decide +kernel
theorem c125_165 : fx_ca 125 165 = some (125, 5, 2, 168) := by decide +kernel
theorem c125_168 : fx_op 125 168 = some (.lor, 169, 168) := by decide +kernel
theorem c125_169 : fx_op 125 169 = some (.lstore 8, 171, 169) := by decide +kernel
theorem s125_0 {kc : List va_E} {d : Nat} {p : Nat} {x1 x2 x3 x5 : Int} {M : fx_M} {Q : Option fx_V → fx_M → Prop} (Hp : fx_puz p) (H : wc kc d 111 [jR p, jI x1, jL x3] M (fun v M1 => wp kc (d + 1) 125 6 [some (jR p), some (jI x1), some (jI x2), some (jL x3), none, some (jI x5), none, none, none, none, none, none] (v.toList ++ []) M1 Q)) : wp kc (d + 1) 125 0 [some (jR p), some (jI x1), some (jI x2), some (jL x3), none, some (jI x5), none, none, none, none, none, none] [] M Q :=
  (x_aldn c125_0 rfl (x_ildn c125_1 rfl (x_lldn c125_2 rfl (wp_wk (l' := [some (jR p), some (jI x1), some (jI x2), some (jL x3), none, some (jI x5), none, none, none, none, none, none]) ⟨rfl, ⟨rfl, ⟨rfl, ⟨rfl, ⟨rfl, trivial⟩⟩⟩⟩⟩ (x_cv (As := [jI x1, jL x3]) (st := []) c125_3 (clp Hp) kl111 rfl (Nat.le_of_ble_eq_true rfl) mx111 (Nat.le_refl _) H)))))
theorem s125_6 {kc : List va_E} {d : Nat} {p : Nat} {v1 v2 v3 v5 u0 : Int} {M : fx_M} {Q : Option fx_V → fx_M → Prop} (Hp : fx_puz p) (H : wc kc d 111 [jR p, jI v2, jL v3] M (fun v M1 => wp kc (d + 1) 125 14 [some (jR p), some (jI v1), some (jI v2), some (jL v3), none, some (jI v5), some (jI u0), none, none, none, none, none] (v.toList ++ []) M1 Q)) : wp kc (d + 1) 125 6 [some (jR p), some (jI v1), some (jI v2), some (jL v3), none, some (jI v5), none, none, none, none, none, none] [jI u0] M Q :=
  (x_ist (l' := [some (jR p), some (jI v1), some (jI v2), some (jL v3), none, some (jI v5), some (jI u0), none, none, none, none, none]) c125_6 rfl (x_aldn c125_8 rfl (x_ildn c125_9 rfl (x_lldn c125_10 rfl (wp_wk (l' := [some (jR p), some (jI v1), some (jI v2), some (jL v3), none, some (jI v5), some (jI u0), none, none, none, none, none]) ⟨rfl, ⟨rfl, ⟨rfl, ⟨rfl, ⟨rfl, ⟨rfl, trivial⟩⟩⟩⟩⟩⟩ (x_cv (As := [jI v2, jL v3]) (st := []) c125_11 (clp Hp) kl111 rfl (Nat.le_of_ble_eq_true rfl) mx111 (Nat.le_refl _) H))))))
theorem s125_14 {kc : List va_E} {d : Nat} {p : Nat} {v1 v2 v3 v5 v6 u0 : Int} {M : fx_M} {Q : Option fx_V → fx_M → Prop} (Hp : fx_puz p) (H : ((fx_in32 v6)) ∧ (v6 = 0 → Q (some (jL 0)) M) ∧ (v6 ≠ 0 → ((fx_in32 u0)) ∧ (u0 ≠ 0 → ((fx_in32 v5)) ∧ (v5 ≠ 0 → wc kc d 87 [jI v5] M (fun v M1 => wp kc (d + 1) 125 120 [some (jR p), some (jI v1), some (jI v2), some (jL v3), none, some (jI v5), none, none, some (jL 0), none, none, none] (v.toList ++ []) M1 Q)) ∧ (v5 = 0 → wp kc (d + 1) 125 40 [some (jR p), some (jI v1), some (jI v2), none, none, none, some (jI v6), some (jI u0), some (jL 0), none, some (jI 0), none] [] M Q)) ∧ (u0 = 0 → Q (some (jL 0)) M))) : wp kc (d + 1) 125 14 [some (jR p), some (jI v1), some (jI v2), some (jL v3), none, some (jI v5), some (jI v6), none, none, none, none, none] [jI u0] M Q :=
  (x_ist (l' := [some (jR p), some (jI v1), some (jI v2), some (jL v3), none, some (jI v5), some (jI v6), some (jI u0), none, none, none, none]) c125_14 rfl (x_cj c125_16 (x_lst (l' := [some (jR p), some (jI v1), some (jI v2), some (jL v3), none, some (jI v5), some (jI v6), some (jI u0), some (jL 0), none, none, none]) c125_17 rfl (x_ild c125_19 rfl (x_zeq c125_21 H.1 (fun h5 => (x_lld c125_29 rfl (x_lrt c125_31 r125 (H.2.1 h5)))) (fun h6 => (x_ild c125_24 rfl (x_zne c125_26 (H.2.2 h6).1 (fun h3 => (x_ild c125_32 rfl (x_zne c125_34 ((H.2.2 h6).2.1 h3).1 (fun h1 => (x_ild c125_115 rfl (wp_wk (l' := [some (jR p), some (jI v1), some (jI v2), some (jL v3), none, some (jI v5), none, none, some (jL 0), none, none, none]) ⟨rfl, ⟨rfl, ⟨rfl, ⟨rfl, ⟨rfl, ⟨rfl, trivial⟩⟩⟩⟩⟩⟩ (x_cs (As := [jI v5]) (st := []) c125_117 (by decide) rfl (Nat.le_of_ble_eq_true rfl) mx87 (Nat.le_refl _) (((H.2.2 h6).2.1 h3).2.1 h1))))) (fun h2 => (x_ci c125_37 (x_ist (l' := [some (jR p), some (jI v1), some (jI v2), some (jL v3), none, some (jI v5), some (jI v6), some (jI u0), some (jL 0), none, some (jI 0), none]) c125_38 rfl (wp_wk (l' := [some (jR p), some (jI v1), some (jI v2), none, none, none, some (jI v6), some (jI u0), some (jL 0), none, some (jI 0), none]) ⟨rfl, ⟨rfl, ⟨rfl, ⟨rfl, ⟨rfl, ⟨rfl, ⟨rfl, trivial⟩⟩⟩⟩⟩⟩⟩ (((H.2.2 h6).2.1 h3).2.2 h2)))))))) (fun h4 => (x_lld c125_29 rfl (x_lrt c125_31 r125 ((H.2.2 h6).2.2 h4))))))))))))
theorem s125_40 {kc : List va_E} {d : Nat} {p : Nat} {v1 v2 v6 v7 v8 v10 : Int} {M : fx_M} {Q : Option fx_V → fx_M → Prop} (Hp : fx_puz p) (H : ((fx_in32 v10)) ∧ (4 ≤ v10 → Q (some (jL v8)) M) ∧ (v10 < 4 → ((fx_in32 (fx_and (fx_shr v6 (4 * v10)) 15))) ∧ (((0 : Int) ≤ (4 * v1) + v10 ∧ (4 * v1) + v10 < 48)) ∧ ((fx_in32 (fx_and (fx_shr v7 (4 * v10)) 15))) ∧ (((0 : Int) ≤ (4 * v2) + v10 ∧ (4 * v2) + v10 < 48)) ∧ wp kc (d + 1) 125 40 [some (jR p), some (jI v1), some (jI v2), none, none, none, some (jI v6), some (jI v7), some (jL (fx_lor (fx_lor v8 (fx_lshl (fx_and (fx_shr v6 (4 * v10)) 15) (4 * (M (p + 4) ((4 * v1) + v10))))) (fx_lshl (fx_and (fx_shr v7 (4 * v10)) 15) (4 * (M (p + 4) ((4 * v2) + v10)))))), none, some (jI (v10 + 1)), none] [] M Q)) : wp kc (d + 1) 125 40 [some (jR p), some (jI v1), some (jI v2), none, none, none, some (jI v6), some (jI v7), some (jL v8), none, some (jI v10), none] [] M Q :=
  (x_ild c125_40 rfl (x_ci c125_42 (x_cge c125_43 H.1 (by decide) (fun h1 => (x_lld c125_112 rfl (x_lrt c125_114 r125 (H.2.1 h1)))) (fun h2 => (x_lld c125_46 rfl (x_ild c125_48 rfl (x_ci c125_50 (x_ild c125_51 rfl (x_imul c125_53 (x_ishr c125_54 (x_ci c125_55 (x_iand c125_57 (x_i2l c125_58 (H.2.2 h2).1 (x_ci c125_59 (x_aldn c125_60 rfl (x_gfr c125_61 (kp_8 Hp) (x_ci c125_64 (x_ildn c125_65 rfl (x_imul c125_66 (x_ild c125_67 rfl (x_iadd c125_69 (x_iald c125_70 (ap_4 Hp) (H.2.2 h2).2.1 (by decide) (x_imul c125_71 (x_lshl c125_72 (x_lor c125_73 (x_lst (l' := [some (jR p), some (jI v1), some (jI v2), none, none, none, some (jI v6), some (jI v7), some (jL (fx_lor v8 (fx_lshl (fx_and (fx_shr v6 (4 * v10)) 15) (4 * (M (p + 4) ((4 * v1) + v10)))))), none, some (jI v10), none]) c125_74 rfl (x_lld c125_76 rfl (x_ild c125_78 rfl (x_ci c125_80 (x_ild c125_81 rfl (x_imul c125_83 (x_ishr c125_84 (x_ci c125_85 (x_iand c125_87 (x_i2l c125_88 (H.2.2 h2).2.2.1 (x_ci c125_89 (x_aldn c125_90 rfl (x_gfr c125_91 (kp_8 Hp) (x_ci c125_94 (x_ildn c125_95 rfl (x_imul c125_96 (x_ild c125_97 rfl (x_iadd c125_99 (x_iald c125_100 (ap_4 Hp) (H.2.2 h2).2.2.2.1 (by decide) (x_imul c125_101 (x_lshl c125_102 (x_lor c125_103 (x_lst (l' := [some (jR p), some (jI v1), some (jI v2), none, none, none, some (jI v6), some (jI v7), some (jL (fx_lor (fx_lor v8 (fx_lshl (fx_and (fx_shr v6 (4 * v10)) 15) (4 * (M (p + 4) ((4 * v1) + v10))))) (fx_lshl (fx_and (fx_shr v7 (4 * v10)) 15) (4 * (M (p + 4) ((4 * v2) + v10)))))), none, some (jI v10), none]) c125_104 rfl (x_inc (l' := [some (jR p), some (jI v1), some (jI v2), none, none, none, some (jI v6), some (jI v7), some (jL (fx_lor (fx_lor v8 (fx_lshl (fx_and (fx_shr v6 (4 * v10)) 15) (4 * (M (p + 4) ((4 * v1) + v10))))) (fx_lshl (fx_and (fx_shr v7 (4 * v10)) 15) (4 * (M (p + 4) ((4 * v2) + v10)))))), none, some (jI (v10 + 1)), none]) c125_106 rfl rfl (x_goto c125_109 (wp_wk (l' := [some (jR p), some (jI v1), some (jI v2), none, none, none, some (jI v6), some (jI v7), some (jL (fx_lor (fx_lor v8 (fx_lshl (fx_and (fx_shr v6 (4 * v10)) 15) (4 * (M (p + 4) ((4 * v1) + v10))))) (fx_lshl (fx_and (fx_shr v7 (4 * v10)) 15) (4 * (M (p + 4) ((4 * v2) + v10)))))), none, some (jI (v10 + 1)), none]) ⟨rfl, ⟨rfl, ⟨rfl, ⟨rfl, ⟨rfl, ⟨rfl, ⟨rfl, trivial⟩⟩⟩⟩⟩⟩⟩ (H.2.2 h2).2.2.2.2)))))))))))))))))))))))))))))))))))))))))))))))))))
theorem s125_120 {kc : List va_E} {d : Nat} {p : Nat} {v1 v2 v3 v5 v8 u0 : Int} {M : fx_M} {Q : Option fx_V → fx_M → Prop} (Hp : fx_puz p) (H : wp kc (d + 1) 125 125 [some (jR p), some (jI v1), some (jI v2), some (jL v3), none, some (jI v5), none, none, some (jL v8), none, some (jI u0), some (jI 0)] [] M Q) : wp kc (d + 1) 125 120 [some (jR p), some (jI v1), some (jI v2), some (jL v3), none, some (jI v5), none, none, some (jL v8), none, none, none] [jI u0] M Q :=
  (x_ist (l' := [some (jR p), some (jI v1), some (jI v2), some (jL v3), none, some (jI v5), none, none, some (jL v8), none, some (jI u0), none]) c125_120 rfl (x_ci c125_122 (x_ist (l' := [some (jR p), some (jI v1), some (jI v2), some (jL v3), none, some (jI v5), none, none, some (jL v8), none, some (jI u0), some (jI 0)]) c125_123 rfl (wp_wk (l' := [some (jR p), some (jI v1), some (jI v2), some (jL v3), none, some (jI v5), none, none, some (jL v8), none, some (jI u0), some (jI 0)]) ⟨rfl, ⟨rfl, ⟨rfl, ⟨rfl, ⟨rfl, ⟨rfl, ⟨rfl, ⟨rfl, trivial⟩⟩⟩⟩⟩⟩⟩⟩ H))))
theorem s125_125 {kc : List va_E} {d : Nat} {p : Nat} {v1 v2 v3 v5 v8 v10 v11 : Int} {M : fx_M} {Q : Option fx_V → fx_M → Prop} (Hp : fx_puz p) (H : ((fx_in32 v11)) ∧ (4 ≤ v11 → Q (some (jL v8)) M) ∧ (v11 < 4 → wc kc d 86 [jL v3, jI v10] M (fun v M1 => wp kc (d + 1) 125 137 [some (jR p), some (jI v1), some (jI v2), some (jL v3), none, some (jI v5), none, none, some (jL v8), none, some (jI v10), some (jI v11)] (v.toList ++ []) M1 Q))) : wp kc (d + 1) 125 125 [some (jR p), some (jI v1), some (jI v2), some (jL v3), none, some (jI v5), none, none, some (jL v8), none, some (jI v10), some (jI v11)] [] M Q :=
  (x_ild c125_125 rfl (x_ci c125_127 (x_cge c125_128 H.1 (by decide) (fun h1 => (x_lld c125_177 rfl (x_lrt c125_179 r125 (H.2.1 h1)))) (fun h2 => (x_lldn c125_131 rfl (x_ild c125_132 rfl (wp_wk (l' := [some (jR p), some (jI v1), some (jI v2), some (jL v3), none, some (jI v5), none, none, some (jL v8), none, some (jI v10), some (jI v11)]) ⟨rfl, ⟨rfl, ⟨rfl, ⟨rfl, ⟨rfl, ⟨rfl, ⟨rfl, ⟨rfl, trivial⟩⟩⟩⟩⟩⟩⟩⟩ (x_cs (As := [jL v3, jI v10]) (st := []) c125_134 (by decide) rfl (Nat.le_of_ble_eq_true rfl) mx86 (Nat.le_refl _) (H.2.2 h2)))))))))
theorem s125_137 {kc : List va_E} {d : Nat} {p : Nat} {v1 v2 v3 v5 v8 v10 v11 u0 : Int} {M : fx_M} {Q : Option fx_V → fx_M → Prop} (Hp : fx_puz p) (H : ((fx_in32 (fx_and (fx_shr u0 v11) 1))) ∧ (fx_and (fx_shr u0 v11) 1 = 0 → wp kc (d + 1) 125 125 [some (jR p), some (jI v1), some (jI v2), some (jL v3), none, some (jI v5), none, none, some (jL v8), none, some (jI v10), some (jI (v11 + 1))] [] M Q) ∧ (fx_and (fx_shr u0 v11) 1 ≠ 0 → wc kc d 83 [jL v3, jI v10, jI v11] M (fun v M1 => wp kc (d + 1) 125 158 [some (jR p), some (jI v1), some (jI v2), some (jL v3), none, some (jI v5), none, none, none, none, some (jI v10), some (jI v11)] (v.toList ++ [jI v2, jI v1, jR p, jL v8]) M1 Q))) : wp kc (d + 1) 125 137 [some (jR p), some (jI v1), some (jI v2), some (jL v3), none, some (jI v5), none, none, some (jL v8), none, some (jI v10), some (jI v11)] [jI u0] M Q :=
  (x_ild c125_137 rfl (x_ishr c125_139 (x_ci c125_140 (x_iand c125_141 (x_zeq c125_142 H.1 (fun h1 => (x_inc (l' := [some (jR p), some (jI v1), some (jI v2), some (jL v3), none, some (jI v5), none, none, some (jL v8), none, some (jI v10), some (jI (v11 + 1))]) c125_171 rfl rfl (x_goto c125_174 (wp_wk (l' := [some (jR p), some (jI v1), some (jI v2), some (jL v3), none, some (jI v5), none, none, some (jL v8), none, some (jI v10), some (jI (v11 + 1))]) ⟨rfl, ⟨rfl, ⟨rfl, ⟨rfl, ⟨rfl, ⟨rfl, ⟨rfl, ⟨rfl, trivial⟩⟩⟩⟩⟩⟩⟩⟩ (H.2.1 h1))))) (fun h2 => (x_lld c125_145 rfl (x_aldn c125_147 rfl (x_ildn c125_148 rfl (x_ildn c125_149 rfl (x_lldn c125_150 rfl (x_ild c125_151 rfl (x_ild c125_153 rfl (wp_wk (l' := [some (jR p), some (jI v1), some (jI v2), some (jL v3), none, some (jI v5), none, none, none, none, some (jI v10), some (jI v11)]) ⟨rfl, ⟨rfl, ⟨rfl, ⟨rfl, ⟨rfl, ⟨rfl, ⟨rfl, trivial⟩⟩⟩⟩⟩⟩⟩ (x_cs (As := [jL v3, jI v10, jI v11]) (st := [jI v2, jI v1, jR p, jL v8]) c125_155 (by decide) rfl (Nat.le_of_ble_eq_true rfl) mx83 (Nat.le_refl _) (H.2.2 h2))))))))))))))))
theorem s125_158 {kc : List va_E} {d : Nat} {p : Nat} {v1 v2 v3 v5 v10 v11 u0 u1 u2 u4 : Int} {M : fx_M} {Q : Option fx_V → fx_M → Prop} (Hp : fx_puz p) (H : wc kc d 125 [jR p, jI u2, jI u1, jL u0, jI (fx_and v5 (v5 - 1))] M (fun v M1 => wp kc (d + 1) 125 168 [some (jR p), some (jI v1), some (jI v2), some (jL v3), none, some (jI v5), none, none, none, none, some (jI v10), some (jI v11)] (v.toList ++ [jL u4]) M1 Q)) : wp kc (d + 1) 125 158 [some (jR p), some (jI v1), some (jI v2), some (jL v3), none, some (jI v5), none, none, none, none, some (jI v10), some (jI v11)] [jL u0, jI u1, jI u2, jR p, jL u4] M Q :=
  (x_ild c125_158 rfl (x_ild c125_160 rfl (x_ci c125_162 (x_isub c125_163 (x_iand c125_164 (wp_wk (l' := [some (jR p), some (jI v1), some (jI v2), some (jL v3), none, some (jI v5), none, none, none, none, some (jI v10), some (jI v11)]) ⟨rfl, ⟨rfl, ⟨rfl, ⟨rfl, ⟨rfl, ⟨rfl, ⟨rfl, trivial⟩⟩⟩⟩⟩⟩⟩ (x_cv (As := [jI u2, jI u1, jL u0, jI (fx_and v5 (v5 - 1))]) (st := [jL u4]) c125_165 (clp Hp) kl125 rfl (Nat.le_of_ble_eq_true rfl) mx125 (Nat.le_refl _) H)))))))
theorem s125_168 {kc : List va_E} {d : Nat} {p : Nat} {v1 v2 v3 v5 v10 v11 u0 u1 : Int} {M : fx_M} {Q : Option fx_V → fx_M → Prop} (Hp : fx_puz p) (H : wp kc (d + 1) 125 125 [some (jR p), some (jI v1), some (jI v2), some (jL v3), none, some (jI v5), none, none, some (jL (fx_lor u1 u0)), none, some (jI v10), some (jI (v11 + 1))] [] M Q) : wp kc (d + 1) 125 168 [some (jR p), some (jI v1), some (jI v2), some (jL v3), none, some (jI v5), none, none, none, none, some (jI v10), some (jI v11)] [jL u0, jL u1] M Q :=
  (x_lor c125_168 (x_lst (l' := [some (jR p), some (jI v1), some (jI v2), some (jL v3), none, some (jI v5), none, none, some (jL (fx_lor u1 u0)), none, some (jI v10), some (jI v11)]) c125_169 rfl (x_inc (l' := [some (jR p), some (jI v1), some (jI v2), some (jL v3), none, some (jI v5), none, none, some (jL (fx_lor u1 u0)), none, some (jI v10), some (jI (v11 + 1))]) c125_171 rfl rfl (x_goto c125_174 (wp_wk (l' := [some (jR p), some (jI v1), some (jI v2), some (jL v3), none, some (jI v5), none, none, some (jL (fx_lor u1 u0)), none, some (jI v10), some (jI (v11 + 1))]) ⟨rfl, ⟨rfl, ⟨rfl, ⟨rfl, ⟨rfl, ⟨rfl, ⟨rfl, ⟨rfl, trivial⟩⟩⟩⟩⟩⟩⟩⟩ H)))))
theorem s125 {kc : List va_E} {d : Nat} {p : Nat} {x1 x2 x3 x5 : Int} {M : fx_M} {Q : Option fx_V → fx_M → Prop} (Hp : fx_puz p) (H : wc kc d 111 [jR p, jI x1, jL x3] M (fun v M1 => wp kc (d + 1) 125 6 [some (jR p), some (jI x1), some (jI x2), some (jL x3), none, some (jI x5), none, none, none, none, none, none] (v.toList ++ []) M1 Q)) : wc kc (d + 1) 125 [jR p, jI x1, jI x2, jL x3, jI x5] M Q :=
  wc_of (wp_wk (l' := [some (jR p), some (jI x1), some (jI x2), some (jL x3), none, some (jI x5), none, none, none, none, none, none]) ⟨rfl, ⟨rfl, ⟨rfl, ⟨rfl, ⟨rfl, trivial⟩⟩⟩⟩⟩ (s125_0 Hp H))

/- PuzzleHouse$Puzzle.isAnswer(J)Z -/
theorem c131_0 : fx_ci 131 0 = some (0, 1) := by decide +kernel
theorem c131_1 : fx_op 131 1 = some (.istore_n 3, 2, 1) := by decide +kernel
theorem c131_2 : fx_op 131 2 = some (.iload_n 3, 3, 2) := by decide +kernel
theorem c131_3 : fx_op 131 3 = some (.aload_n 0, 4, 3) := by decide +kernel
theorem c131_4 : fx_gf 131 4 = some (3, 2, 7) := by decide +kernel
theorem c131_7 : fx_op 131 7 = some (.if_icmp .ge 36, 10, 43) := by decide +kernel
theorem c131_43 : fx_op 131 43 = some (.aload_n 0, 44, 43) := by decide +kernel
theorem c131_44 : fx_op 131 44 = some (.lload_n 1, 45, 44) := by decide +kernel
theorem c131_45 : fx_ci 131 45 = some (1, 46) := by decide +kernel
theorem c131_46 : fx_op 131 46 = some (.aload_n 0, 47, 46) := by decide +kernel
theorem c131_47 : fx_gf 131 47 = some (3, 2, 50) := by decide +kernel
theorem c131_50 : fx_op 131 50 = some (.ishl, 51, 50) := by decide +kernel
theorem c131_51 : fx_ci 131 51 = some (1, 52) := by decide +kernel
theorem c131_52 : fx_op 131 52 = some (.isub, 53, 52) := by decide +kernel
theorem c131_10 : fx_op 131 10 = some (.aload_n 0, 11, 10) := by decide +kernel
theorem c131_11 : fx_gf 131 11 = some (3, 10, 14) := by decide +kernel
theorem c131_14 : fx_op 131 14 = some (.iload_n 3, 15, 14) := by decide +kernel
theorem c131_16 : fx_op 131 16 = some (.ifCond .lt 21, 19, 37) := by decide +kernel
theorem c131_37 : fx_op 131 37 = some (.iinc 3 1, 40, 37) := by decide +kernel
theorem c131_19 : fx_op 131 19 = some (.lload_n 1, 20, 19) := by decide +kernel
theorem c131_20 : fx_op 131 20 = some (.iload_n 3, 21, 20) := by decide +kernel
theorem c131_53 : fx_ca 131 53 = some (88, 3, 2, 56) := by decide +kernel
theorem c131_15 : fx_op 131 15 = some (.iaload, 16, 15) := by decide +kernel
theorem c131_40 : fx_op 131 40 = some (.goto (-38), 43, 2) := by decide +kernel
theorem c131_21 : fx_ca 131 21 = some (86, 2, 1, 24) := by decide +kernel
theorem c131_56 : fx_op 131 56 = some (.ireturn, 57, 56) := by decide +kernel
theorem c131_24 : fx_ci 131 24 = some (1, 25) := by decide +kernel
theorem c131_25 : fx_op 131 25 = some (.aload_n 0, 26, 25) := by decide +kernel
theorem c131_26 : fx_gf 131 26 = some (3, 10, 29) := by decide +kernel
theorem c131_29 : fx_op 131 29 = some (.iload_n 3, 30, 29) := by decide +kernel
theorem c131_31 : fx_op 131 31 = some (.ishl, 32, 31) := by decide +kernel
theorem c131_32 : fx_op 131 32 = some (.if_icmp .eq 5, 35, 37) := by decide +kernel
theorem c131_35 : fx_ci 131 35 = some (0, 36) := by decide +kernel
theorem c131_30 : fx_op 131 30 = some (.iaload, 31, 30) := by decide +kernel
theorem c131_36 : fx_op 131 36 = some (.ireturn, 37, 36) := by decide +kernel
theorem s131_0 {kc : List va_E} {d : Nat} {p : Nat} {x1 : Int} {M : fx_M} {Q : Option fx_V → fx_M → Prop} (Hp : fx_puz p) (H : wp kc (d + 1) 131 2 [some (jR p), some (jL x1), none, some (jI 0)] [] M Q) : wp kc (d + 1) 131 0 [some (jR p), some (jL x1), none, none] [] M Q :=
  (x_ci c131_0 (x_istn (l' := [some (jR p), some (jL x1), none, some (jI 0)]) c131_1 rfl (wp_wk (l' := [some (jR p), some (jL x1), none, some (jI 0)]) ⟨rfl, ⟨rfl, ⟨rfl, trivial⟩⟩⟩ H)))
theorem s131_2 {kc : List va_E} {d : Nat} {p : Nat} {v1 v3 : Int} {M : fx_M} {Q : Option fx_V → fx_M → Prop} (Hp : fx_puz p) (H : ((fx_in32 v3) ∧ (fx_in32 (M p 2))) ∧ (M p 2 ≤ v3 → wc kc d 88 [jR p, jL v1, jI ((fx_shl 1 (M p 2)) - 1)] M (fun v M1 => wp kc (d + 1) 131 56 [none, none, none, none] (v.toList ++ []) M1 Q)) ∧ (v3 < M p 2 → (((0 : Int) ≤ v3 ∧ v3 < 9)) ∧ ((fx_in32 (M (p + 6) v3))) ∧ (M (p + 6) v3 < 0 → wp kc (d + 1) 131 2 [some (jR p), some (jL v1), none, some (jI (v3 + 1))] [] M Q) ∧ (0 ≤ M (p + 6) v3 → wc kc d 86 [jL v1, jI v3] M (fun v M1 => wp kc (d + 1) 131 24 [some (jR p), some (jL v1), none, some (jI v3)] (v.toList ++ []) M1 Q)))) : wp kc (d + 1) 131 2 [some (jR p), some (jL v1), none, some (jI v3)] [] M Q :=
  (x_ildn c131_2 rfl (x_aldn c131_3 rfl (x_gfi c131_4 (kp_2 Hp) (x_cge c131_7 H.1.1 H.1.2 (fun h3 => (x_aldn c131_43 rfl (x_lldn c131_44 rfl (x_ci c131_45 (x_aldn c131_46 rfl (x_gfi c131_47 (kp_2 Hp) (x_ishl c131_50 (x_ci c131_51 (x_isub c131_52 (wp_wk (l' := [none, none, none, none]) trivial (x_cv (As := [jL v1, jI ((fx_shl 1 (M p 2)) - 1)]) (st := []) c131_53 (clp Hp) kl88 rfl (Nat.le_of_ble_eq_true rfl) mx88 (Nat.le_refl _) (H.2.1 h3)))))))))))) (fun h4 => (x_aldn c131_10 rfl (x_gfr c131_11 (kp_10 Hp) (x_ildn c131_14 rfl (x_iald c131_15 (ap_6 Hp) (H.2.2 h4).1 (by decide) (x_zlt c131_16 (H.2.2 h4).2.1 (fun h1 => (x_inc (l' := [some (jR p), some (jL v1), none, some (jI (v3 + 1))]) c131_37 rfl rfl (x_goto c131_40 (wp_wk (l' := [some (jR p), some (jL v1), none, some (jI (v3 + 1))]) ⟨rfl, ⟨rfl, ⟨rfl, trivial⟩⟩⟩ ((H.2.2 h4).2.2.1 h1))))) (fun h2 => (x_lldn c131_19 rfl (x_ildn c131_20 rfl (wp_wk (l' := [some (jR p), some (jL v1), none, some (jI v3)]) ⟨rfl, ⟨rfl, ⟨rfl, trivial⟩⟩⟩ (x_cs (As := [jL v1, jI v3]) (st := []) c131_21 (by decide) rfl (Nat.le_of_ble_eq_true rfl) mx86 (Nat.le_refl _) ((H.2.2 h4).2.2.2 h2))))))))))))))))
theorem s131_24 {kc : List va_E} {d : Nat} {p : Nat} {v1 v3 u0 : Int} {M : fx_M} {Q : Option fx_V → fx_M → Prop} (Hp : fx_puz p) (H : (((0 : Int) ≤ v3 ∧ v3 < 9)) ∧ ((fx_in32 u0) ∧ (fx_in32 (fx_shl 1 (M (p + 6) v3)))) ∧ (u0 = fx_shl 1 (M (p + 6) v3) → wp kc (d + 1) 131 2 [some (jR p), some (jL v1), none, some (jI (v3 + 1))] [] M Q) ∧ (u0 ≠ fx_shl 1 (M (p + 6) v3) → Q (some (jI 0)) M)) : wp kc (d + 1) 131 24 [some (jR p), some (jL v1), none, some (jI v3)] [jI u0] M Q :=
  (x_ci c131_24 (x_aldn c131_25 rfl (x_gfr c131_26 (kp_10 Hp) (x_ildn c131_29 rfl (x_iald c131_30 (ap_6 Hp) H.1 (by decide) (x_ishl c131_31 (x_ceq c131_32 H.2.1.1 H.2.1.2 (fun h1 => (x_inc (l' := [some (jR p), some (jL v1), none, some (jI (v3 + 1))]) c131_37 rfl rfl (x_goto c131_40 (wp_wk (l' := [some (jR p), some (jL v1), none, some (jI (v3 + 1))]) ⟨rfl, ⟨rfl, ⟨rfl, trivial⟩⟩⟩ (H.2.2.1 h1))))) (fun h2 => (x_ci c131_35 (x_zrt c131_36 r131 (by decide) (H.2.2.2 h2)))))))))))
theorem s131_56 {kc : List va_E} {d : Nat} {p : Nat} {u0 : Int} {M : fx_M} {Q : Option fx_V → fx_M → Prop} (Hp : fx_puz p) (H : ((0 : Int) ≤ u0 ∧ u0 ≤ 1) ∧ Q (some (jI u0)) M) : wp kc (d + 1) 131 56 [none, none, none, none] [jI u0] M Q :=
  (x_zrt c131_56 r131 H.1 H.2)
theorem s131 {kc : List va_E} {d : Nat} {p : Nat} {x1 : Int} {M : fx_M} {Q : Option fx_V → fx_M → Prop} (Hp : fx_puz p) (H : wp kc (d + 1) 131 2 [some (jR p), some (jL x1), none, some (jI 0)] [] M Q) : wc kc (d + 1) 131 [jR p, jL x1] M Q :=
  wc_of (wp_wk (l' := [some (jR p), some (jL x1), none, none]) ⟨rfl, ⟨rfl, trivial⟩⟩ (s131_0 Hp H))

/- PuzzleHouse$Puzzle.across(I)I -/
theorem c426_0 : fx_op 426 0 = some (.iload_n 1, 1, 0) := by decide +kernel
theorem c426_1 : fx_op 426 1 = some (.aload_n 0, 2, 1) := by decide +kernel
theorem c426_2 : fx_gf 426 2 = some (3, 0, 5) := by decide +kernel
theorem c426_5 : fx_ci 426 5 = some (1, 6) := by decide +kernel
theorem c426_6 : fx_nt 426 6 = some (1, 9) := by decide +kernel
theorem c426_9 : fx_op 426 9 = some (.irem, 10, 9) := by decide +kernel
theorem c426_10 : fx_op 426 10 = some (.ireturn, 11, 10) := by decide +kernel
theorem n426_6 : xS 426 ((xI 426 6).getD .nop) = none := by decide +kernel
theorem s426_0 {kc : List va_E} {d : Nat} {p : Nat} {x1 : Int} {M : fx_M} {Q : Option fx_V → fx_M → Prop} (Hp : fx_puz p) (H : ((fx_in32 (M p 0))) ∧ (((0 : Int) ≤ x1 ∧ x1 ≤ 2147483647) ∧ ((0 : Int) < (if M p 0 < 1 then (1 : Int) else M p 0) ∧ (if M p 0 < 1 then (1 : Int) else M p 0) ≤ 2147483647)) ∧ Q (some (jI (x1 % (if M p 0 < 1 then (1 : Int) else M p 0)))) M) : wp kc (d + 1) 426 0 [some (jR p), some (jI x1)] [] M Q :=
  (x_ildn c426_0 rfl (x_aldn c426_1 rfl (x_gfi c426_2 (kp_0 Hp) (x_ci c426_5 (x_max c426_6 n426_6 H.1 (by decide) (Nat.le_of_ble_eq_true rfl) (x_irem c426_9 H.2.1.1 H.2.1.2 (x_irt c426_10 r426 H.2.2)))))))
theorem s426 {kc : List va_E} {d : Nat} {p : Nat} {x1 : Int} {M : fx_M} {Q : Option fx_V → fx_M → Prop} (Hp : fx_puz p) (H : ((fx_in32 (M p 0))) ∧ (((0 : Int) ≤ x1 ∧ x1 ≤ 2147483647) ∧ ((0 : Int) < (if M p 0 < 1 then (1 : Int) else M p 0) ∧ (if M p 0 < 1 then (1 : Int) else M p 0) ≤ 2147483647)) ∧ Q (some (jI (x1 % (if M p 0 < 1 then (1 : Int) else M p 0)))) M) : wc kc (d + 1) 426 [jR p, jI x1] M Q :=
  wc_of (wp_wk (l' := [some (jR p), some (jI x1)]) ⟨rfl, ⟨rfl, trivial⟩⟩ (s426_0 Hp H))

/- PuzzleHouse$Puzzle.down(I)I -/
theorem c427_0 : fx_op 427 0 = some (.iload_n 1, 1, 0) := by decide +kernel
theorem c427_1 : fx_op 427 1 = some (.aload_n 0, 2, 1) := by decide +kernel
theorem c427_2 : fx_gf 427 2 = some (3, 0, 5) := by decide +kernel
theorem c427_5 : fx_ci 427 5 = some (1, 6) := by decide +kernel
theorem c427_6 : fx_nt 427 6 = some (1, 9) := by decide +kernel
theorem c427_9 : fx_op 427 9 = some (.idiv, 10, 9) := by decide +kernel
theorem c427_10 : fx_op 427 10 = some (.ireturn, 11, 10) := by decide +kernel
theorem n427_6 : xS 427 ((xI 427 6).getD .nop) = none := by decide +kernel
theorem s427_0 {kc : List va_E} {d : Nat} {p : Nat} {x1 : Int} {M : fx_M} {Q : Option fx_V → fx_M → Prop} (Hp : fx_puz p) (H : ((fx_in32 (M p 0))) ∧ (((0 : Int) ≤ x1 ∧ x1 ≤ 2147483647) ∧ ((0 : Int) < (if M p 0 < 1 then (1 : Int) else M p 0) ∧ (if M p 0 < 1 then (1 : Int) else M p 0) ≤ 2147483647)) ∧ Q (some (jI (x1 / (if M p 0 < 1 then (1 : Int) else M p 0)))) M) : wp kc (d + 1) 427 0 [some (jR p), some (jI x1)] [] M Q :=
  (x_ildn c427_0 rfl (x_aldn c427_1 rfl (x_gfi c427_2 (kp_0 Hp) (x_ci c427_5 (x_max c427_6 n427_6 H.1 (by decide) (Nat.le_of_ble_eq_true rfl) (x_idiv c427_9 H.2.1.1 H.2.1.2 (x_irt c427_10 r427 H.2.2)))))))
theorem s427 {kc : List va_E} {d : Nat} {p : Nat} {x1 : Int} {M : fx_M} {Q : Option fx_V → fx_M → Prop} (Hp : fx_puz p) (H : ((fx_in32 (M p 0))) ∧ (((0 : Int) ≤ x1 ∧ x1 ≤ 2147483647) ∧ ((0 : Int) < (if M p 0 < 1 then (1 : Int) else M p 0) ∧ (if M p 0 < 1 then (1 : Int) else M p 0) ≤ 2147483647)) ∧ Q (some (jI (x1 / (if M p 0 < 1 then (1 : Int) else M p 0)))) M) : wc kc (d + 1) 427 [jR p, jI x1] M Q :=
  wc_of (wp_wk (l' := [some (jR p), some (jI x1)]) ⟨rfl, ⟨rfl, trivial⟩⟩ (s427_0 Hp H))
