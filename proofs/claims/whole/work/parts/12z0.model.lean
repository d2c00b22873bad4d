/-! SEGMENTS of the model, 0 (by gen/emit_segs.py) -/
/- PuzzleHouseModel.begin(IIII)I -/
theorem c214_0 : fx_op 214 0 = some (.iload_n 2, 1, 0) := by decide +kernel
theorem c214_1 : fx_ci 214 1 = some (1, 2) := by decide +kernel
theorem c214_2 : fx_op 214 2 = some (.if_icmp .lt 30, 5, 32) := by decide +kernel
theorem c214_32 : fx_ci 214 32 = some (1, 33) := by decide +kernel
theorem c214_5 : fx_op 214 5 = some (.iload_n 2, 6, 5) := by decide +kernel
theorem c214_6 : fx_ci 214 6 = some (3, 7) := by decide +kernel
theorem c214_7 : fx_op 214 7 = some (.if_icmp .gt 25, 10, 32) := by decide +kernel
theorem c214_10 : fx_op 214 10 = some (.iload_n 3, 11, 10) := by decide +kernel
theorem c214_11 : fx_ci 214 11 = some (1, 12) := by decide +kernel
theorem c214_12 : fx_op 214 12 = some (.if_icmp .lt 20, 15, 32) := by decide +kernel
theorem c214_15 : fx_op 214 15 = some (.iload_n 3, 16, 15) := by decide +kernel
theorem c214_16 : fx_ci 214 16 = some (3, 17) := by decide +kernel
theorem c214_17 : fx_op 214 17 = some (.if_icmp .gt 15, 20, 32) := by decide +kernel
theorem c214_20 : fx_op 214 20 = some (.iload 4, 22, 20) := by decide +kernel
theorem c214_22 : fx_ci 214 22 = some (1, 23) := by decide +kernel
theorem c214_23 : fx_op 214 23 = some (.if_icmp .lt 9, 26, 32) := by decide +kernel
theorem c214_26 : fx_op 214 26 = some (.iload 4, 28, 26) := by decide +kernel
theorem c214_28 : fx_ci 214 28 = some (4, 29) := by decide +kernel
theorem c214_29 : fx_op 214 29 = some (.if_icmp .le 5, 32, 34) := by decide +kernel
theorem c214_34 : fx_op 214 34 = some (.aload_n 0, 35, 34) := by decide +kernel
theorem c214_35 : fx_gf 214 35 = some (12, 37, 38) := by decide +kernel
theorem c214_38 : fx_op 214 38 = some (.iload_n 1, 39, 38) := by decide +kernel
theorem c214_39 : fx_op 214 39 = some (.iload_n 2, 40, 39) := by decide +kernel
theorem c214_41 : fx_op 214 41 = some (.aload_n 0, 42, 41) := by decide +kernel
theorem c214_42 : fx_gf 214 42 = some (12, 38, 45) := by decide +kernel
theorem c214_45 : fx_op 214 45 = some (.iload_n 1, 46, 45) := by decide +kernel
theorem c214_46 : fx_op 214 46 = some (.iload_n 3, 47, 46) := by decide +kernel
theorem c214_48 : fx_op 214 48 = some (.aload_n 0, 49, 48) := by decide +kernel
theorem c214_49 : fx_gf 214 49 = some (12, 39, 52) := by decide +kernel
theorem c214_52 : fx_op 214 52 = some (.iload_n 1, 53, 52) := by decide +kernel
theorem c214_53 : fx_op 214 53 = some (.iload 4, 55, 53) := by decide +kernel
theorem c214_56 : fx_op 214 56 = some (.aload_n 0, 57, 56) := by decide +kernel
theorem c214_57 : fx_gf 214 57 = some (12, 40, 60) := by decide +kernel
theorem c214_60 : fx_op 214 60 = some (.iload_n 1, 61, 60) := by decide +kernel
theorem c214_61 : fx_ci 214 61 = some (0, 62) := by decide +kernel
theorem c214_63 : fx_ci 214 63 = some (0, 64) := by decide +kernel
theorem c214_64 : fx_op 214 64 = some (.istore 5, 66, 64) := by decide +kernel
theorem c214_33 : fx_op 214 33 = some (.ireturn, 34, 33) := by decide +kernel
theorem c214_40 : fx_op 214 40 = some (.iastore, 41, 40) := by decide +kernel
theorem c214_47 : fx_op 214 47 = some (.iastore, 48, 47) := by decide +kernel
theorem c214_55 : fx_op 214 55 = some (.iastore, 56, 55) := by decide +kernel
theorem c214_62 : fx_op 214 62 = some (.iastore, 63, 62) := by decide +kernel
theorem c214_66 : fx_op 214 66 = some (.iload 5, 68, 66) := by decide +kernel
theorem c214_68 : fx_ci 214 68 = some (9, 70) := by decide +kernel
theorem c214_70 : fx_op 214 70 = some (.if_icmp .ge 22, 73, 92) := by decide +kernel
theorem c214_73 : fx_op 214 73 = some (.aload_n 0, 74, 73) := by decide +kernel
theorem c214_74 : fx_gf 214 74 = some (12, 45, 77) := by decide +kernel
theorem c214_77 : fx_ci 214 77 = some (9, 79) := by decide +kernel
theorem c214_79 : fx_op 214 79 = some (.iload_n 1, 80, 79) := by decide +kernel
theorem c214_80 : fx_op 214 80 = some (.imul, 81, 80) := by decide +kernel
theorem c214_81 : fx_op 214 81 = some (.iload 5, 83, 81) := by decide +kernel
theorem c214_83 : fx_op 214 83 = some (.iadd, 84, 83) := by decide +kernel
theorem c214_84 : fx_ci 214 84 = some ((-1), 85) := by decide +kernel
theorem c214_92 : fx_ci 214 92 = some (0, 93) := by decide +kernel
theorem c214_86 : fx_op 214 86 = some (.iinc 5 1, 89, 86) := by decide +kernel
theorem c214_93 : fx_op 214 93 = some (.ireturn, 94, 93) := by decide +kernel
theorem c214_85 : fx_op 214 85 = some (.iastore, 86, 85) := by decide +kernel
theorem c214_89 : fx_op 214 89 = some (.goto (-23), 92, 66) := by decide +kernel
theorem s214_0 {kc : List va_E} {d : Nat} {x1 x2 x3 x4 : Int} {M : fx_M} {Q : Option fx_V → fx_M → Prop} (H : ((fx_in32 x2)) ∧ (x2 < 1 → Q (some (jI 1)) M) ∧ (1 ≤ x2 → ((fx_in32 x2)) ∧ (3 < x2 → Q (some (jI 1)) M) ∧ (x2 ≤ 3 → ((fx_in32 x3)) ∧ (x3 < 1 → Q (some (jI 1)) M) ∧ (1 ≤ x3 → ((fx_in32 x3)) ∧ (3 < x3 → Q (some (jI 1)) M) ∧ (x3 ≤ 3 → ((fx_in32 x4)) ∧ (x4 < 1 → Q (some (jI 1)) M) ∧ (1 ≤ x4 → ((fx_in32 x4)) ∧ (x4 ≤ 4 → (((0 : Int) ≤ x1 ∧ x1 < 10)) ∧ (((0 : Int) ≤ x1 ∧ x1 < 10)) ∧ (((0 : Int) ≤ x1 ∧ x1 < 10)) ∧ (((0 : Int) ≤ x1 ∧ x1 < 10)) ∧ wp kc (d + 1) 214 66 [some (jR 133), some (jI x1), none, none, none, some (jI 0)] [] (fx_up (fx_up (fx_up (fx_up M 146 x1 x2) 147 x1 x3) 148 x1 x4) 149 x1 0) Q) ∧ (4 < x4 → Q (some (jI 1)) M))))))) : wp kc (d + 1) 214 0 [some (jR 133), some (jI x1), some (jI x2), some (jI x3), some (jI x4), none] [] M Q :=
  (x_ildn c214_0 rfl (x_ci c214_1 (x_clt c214_2 H.1 (by decide) (fun h11 => (x_ci c214_32 (x_irt c214_33 r214 (H.2.1 h11)))) (fun h12 => (x_ildn c214_5 rfl (x_ci c214_6 (x_cgt c214_7 (H.2.2 h12).1 (by decide) (fun h9 => (x_ci c214_32 (x_irt c214_33 r214 ((H.2.2 h12).2.1 h9)))) (fun h10 => (x_ildn c214_10 rfl (x_ci c214_11 (x_clt c214_12 ((H.2.2 h12).2.2 h10).1 (by decide) (fun h7 => (x_ci c214_32 (x_irt c214_33 r214 (((H.2.2 h12).2.2 h10).2.1 h7)))) (fun h8 => (x_ildn c214_15 rfl (x_ci c214_16 (x_cgt c214_17 (((H.2.2 h12).2.2 h10).2.2 h8).1 (by decide) (fun h5 => (x_ci c214_32 (x_irt c214_33 r214 ((((H.2.2 h12).2.2 h10).2.2 h8).2.1 h5)))) (fun h6 => (x_ild c214_20 rfl (x_ci c214_22 (x_clt c214_23 ((((H.2.2 h12).2.2 h10).2.2 h8).2.2 h6).1 (by decide) (fun h3 => (x_ci c214_32 (x_irt c214_33 r214 (((((H.2.2 h12).2.2 h10).2.2 h8).2.2 h6).2.1 h3)))) (fun h4 => (x_ild c214_26 rfl (x_ci c214_28 (x_cle c214_29 (((((H.2.2 h12).2.2 h10).2.2 h8).2.2 h6).2.2 h4).1 (by decide) (fun h1 => (x_aldn c214_34 rfl (x_gfr c214_35 k_133_37 (x_ildn c214_38 rfl (x_ildn c214_39 rfl (x_iast c214_40 a_146 ((((((H.2.2 h12).2.2 h10).2.2 h8).2.2 h6).2.2 h4).2.1 h1).1 (by decide) (x_aldn c214_41 rfl (x_gfr c214_42 k_133_38 (x_ildn c214_45 rfl (x_ildn c214_46 rfl (x_iast c214_47 a_147 ((((((H.2.2 h12).2.2 h10).2.2 h8).2.2 h6).2.2 h4).2.1 h1).2.1 (by decide) (x_aldn c214_48 rfl (x_gfr c214_49 k_133_39 (x_ildn c214_52 rfl (x_ild c214_53 rfl (x_iast c214_55 a_148 ((((((H.2.2 h12).2.2 h10).2.2 h8).2.2 h6).2.2 h4).2.1 h1).2.2.1 (by decide) (x_aldn c214_56 rfl (x_gfr c214_57 k_133_40 (x_ildn c214_60 rfl (x_ci c214_61 (x_iast c214_62 a_149 ((((((H.2.2 h12).2.2 h10).2.2 h8).2.2 h6).2.2 h4).2.1 h1).2.2.2.1 (by decide) (x_ci c214_63 (x_ist (l' := [some (jR 133), some (jI x1), some (jI x2), some (jI x3), some (jI x4), some (jI 0)]) c214_64 rfl (wp_wk (l' := [some (jR 133), some (jI x1), none, none, none, some (jI 0)]) ⟨rfl, ⟨rfl, ⟨rfl, trivial⟩⟩⟩ ((((((H.2.2 h12).2.2 h10).2.2 h8).2.2 h6).2.2 h4).2.1 h1).2.2.2.2)))))))))))))))))))))))) (fun h2 => (x_ci c214_32 (x_irt c214_33 r214 ((((((H.2.2 h12).2.2 h10).2.2 h8).2.2 h6).2.2 h4).2.2 h2)))))))))))))))))))))))))))
theorem s214_66 {kc : List va_E} {d : Nat} {v1 v5 : Int} {M : fx_M} {Q : Option fx_V → fx_M → Prop} (H : ((fx_in32 v5)) ∧ (9 ≤ v5 → Q (some (jI 0)) M) ∧ (v5 < 9 → (((0 : Int) ≤ (9 * v1) + v5 ∧ (9 * v1) + v5 < 90)) ∧ wp kc (d + 1) 214 66 [some (jR 133), some (jI v1), none, none, none, some (jI (v5 + 1))] [] (fx_up M 154 ((9 * v1) + v5) (-1)) Q)) : wp kc (d + 1) 214 66 [some (jR 133), some (jI v1), none, none, none, some (jI v5)] [] M Q :=
  (x_ild c214_66 rfl (x_ci c214_68 (x_cge c214_70 H.1 (by decide) (fun h1 => (x_ci c214_92 (x_irt c214_93 r214 (H.2.1 h1)))) (fun h2 => (x_aldn c214_73 rfl (x_gfr c214_74 k_133_45 (x_ci c214_77 (x_ildn c214_79 rfl (x_imul c214_80 (x_ild c214_81 rfl (x_iadd c214_83 (x_ci c214_84 (x_iast c214_85 a_154 (H.2.2 h2).1 (by decide) (x_inc (l' := [some (jR 133), some (jI v1), none, none, none, some (jI (v5 + 1))]) c214_86 rfl rfl (x_goto c214_89 (wp_wk (l' := [some (jR 133), some (jI v1), none, none, none, some (jI (v5 + 1))]) ⟨rfl, ⟨rfl, ⟨rfl, trivial⟩⟩⟩ (H.2.2 h2).2))))))))))))))))
theorem s214 {kc : List va_E} {d : Nat} {x1 x2 x3 x4 : Int} {M : fx_M} {Q : Option fx_V → fx_M → Prop} (H : ((fx_in32 x2)) ∧ (x2 < 1 → Q (some (jI 1)) M) ∧ (1 ≤ x2 → ((fx_in32 x2)) ∧ (3 < x2 → Q (some (jI 1)) M) ∧ (x2 ≤ 3 → ((fx_in32 x3)) ∧ (x3 < 1 → Q (some (jI 1)) M) ∧ (1 ≤ x3 → ((fx_in32 x3)) ∧ (3 < x3 → Q (some (jI 1)) M) ∧ (x3 ≤ 3 → ((fx_in32 x4)) ∧ (x4 < 1 → Q (some (jI 1)) M) ∧ (1 ≤ x4 → ((fx_in32 x4)) ∧ (x4 ≤ 4 → (((0 : Int) ≤ x1 ∧ x1 < 10)) ∧ (((0 : Int) ≤ x1 ∧ x1 < 10)) ∧ (((0 : Int) ≤ x1 ∧ x1 < 10)) ∧ (((0 : Int) ≤ x1 ∧ x1 < 10)) ∧ wp kc (d + 1) 214 66 [some (jR 133), some (jI x1), none, none, none, some (jI 0)] [] (fx_up (fx_up (fx_up (fx_up M 146 x1 x2) 147 x1 x3) 148 x1 x4) 149 x1 0) Q) ∧ (4 < x4 → Q (some (jI 1)) M))))))) : wc kc (d + 1) 214 [jR 133, jI x1, jI x2, jI x3, jI x4] M Q :=
  wc_of (wp_wk (l' := [some (jR 133), some (jI x1), some (jI x2), some (jI x3), some (jI x4), none]) ⟨rfl, ⟨rfl, ⟨rfl, ⟨rfl, ⟨rfl, trivial⟩⟩⟩⟩⟩ (s214_0 H))

/- PuzzleHouseModel.playAnew()V -/
theorem c215_0 : fx_ci 215 0 = some (0, 1) := by decide +kernel
theorem c215_1 : fx_op 215 1 = some (.istore_n 1, 2, 1) := by decide +kernel
theorem c215_2 : fx_op 215 2 = some (.iload_n 1, 3, 2) := by decide +kernel
theorem c215_3 : fx_ci 215 3 = some (3, 4) := by decide +kernel
theorem c215_4 : fx_op 215 4 = some (.if_icmp .ge 23, 7, 27) := by decide +kernel
theorem c215_7 : fx_op 215 7 = some (.aload_n 0, 8, 7) := by decide +kernel
theorem c215_8 : fx_gf 215 8 = some (12, 83, 11) := by decide +kernel
theorem c215_11 : fx_op 215 11 = some (.iload_n 1, 12, 11) := by decide +kernel
theorem c215_12 : fx_ci 215 12 = some (0, 13) := by decide +kernel
theorem c215_27 : fx_ci 215 27 = some (0, 28) := by decide +kernel
theorem c215_28 : fx_op 215 28 = some (.istore_n 1, 29, 28) := by decide +kernel
theorem c215_14 : fx_op 215 14 = some (.aload_n 0, 15, 14) := by decide +kernel
theorem c215_15 : fx_gf 215 15 = some (12, 84, 18) := by decide +kernel
theorem c215_18 : fx_op 215 18 = some (.iload_n 1, 19, 18) := by decide +kernel
theorem c215_19 : fx_ci 215 19 = some ((-1), 20) := by decide +kernel
theorem c215_21 : fx_op 215 21 = some (.iinc 1 1, 24, 21) := by decide +kernel
theorem c215_13 : fx_op 215 13 = some (.iastore, 14, 13) := by decide +kernel
theorem c215_20 : fx_op 215 20 = some (.iastore, 21, 20) := by decide +kernel
theorem c215_24 : fx_op 215 24 = some (.goto (-22), 27, 2) := by decide +kernel
theorem c215_29 : fx_op 215 29 = some (.iload_n 1, 30, 29) := by decide +kernel
theorem c215_30 : fx_ci 215 30 = some (27, 32) := by decide +kernel
theorem c215_32 : fx_op 215 32 = some (.if_icmp .ge 23, 35, 55) := by decide +kernel
theorem c215_35 : fx_op 215 35 = some (.aload_n 0, 36, 35) := by decide +kernel
theorem c215_36 : fx_gf 215 36 = some (12, 81, 39) := by decide +kernel
theorem c215_39 : fx_op 215 39 = some (.iload_n 1, 40, 39) := by decide +kernel
theorem c215_40 : fx_ci 215 40 = some ((-1), 41) := by decide +kernel
theorem c215_42 : fx_op 215 42 = some (.aload_n 0, 43, 42) := by decide +kernel
theorem c215_43 : fx_gf 215 43 = some (12, 82, 46) := by decide +kernel
theorem c215_46 : fx_op 215 46 = some (.iload_n 1, 47, 46) := by decide +kernel
theorem c215_47 : fx_ci 215 47 = some (0, 48) := by decide +kernel
theorem c215_49 : fx_op 215 49 = some (.iinc 1 1, 52, 49) := by decide +kernel
theorem c215_55 : fx_op 215 55 = some (.return_, 56, 55) := by decide +kernel
theorem c215_41 : fx_op 215 41 = some (.iastore, 42, 41) := by decide +kernel
theorem c215_48 : fx_op 215 48 = some (.iastore, 49, 48) := by decide +kernel
theorem c215_52 : fx_op 215 52 = some (.goto (-23), 55, 29) := by decide +kernel
theorem s215_0 {kc : List va_E} {d : Nat} {M : fx_M} {Q : Option fx_V → fx_M → Prop} (H : wp kc (d + 1) 215 2 [some (jR 133), some (jI 0)] [] M Q) : wp kc (d + 1) 215 0 [some (jR 133), none] [] M Q :=
  (x_ci c215_0 (x_istn (l' := [some (jR 133), some (jI 0)]) c215_1 rfl (wp_wk (l' := [some (jR 133), some (jI 0)]) ⟨rfl, ⟨rfl, trivial⟩⟩ H)))
theorem s215_2 {kc : List va_E} {d : Nat} {v1 : Int} {M : fx_M} {Q : Option fx_V → fx_M → Prop} (H : ((fx_in32 v1)) ∧ (3 ≤ v1 → wp kc (d + 1) 215 29 [some (jR 133), some (jI 0)] [] M Q) ∧ (v1 < 3 → (((0 : Int) ≤ v1 ∧ v1 < 3)) ∧ (((0 : Int) ≤ v1 ∧ v1 < 3)) ∧ wp kc (d + 1) 215 2 [some (jR 133), some (jI (v1 + 1))] [] (fx_up (fx_up M 176 v1 0) 177 v1 (-1)) Q)) : wp kc (d + 1) 215 2 [some (jR 133), some (jI v1)] [] M Q :=
  (x_ildn c215_2 rfl (x_ci c215_3 (x_cge c215_4 H.1 (by decide) (fun h1 => (x_ci c215_27 (x_istn (l' := [some (jR 133), some (jI 0)]) c215_28 rfl (wp_wk (l' := [some (jR 133), some (jI 0)]) ⟨rfl, ⟨rfl, trivial⟩⟩ (H.2.1 h1))))) (fun h2 => (x_aldn c215_7 rfl (x_gfr c215_8 k_133_83 (x_ildn c215_11 rfl (x_ci c215_12 (x_iast c215_13 a_176 (H.2.2 h2).1 (by decide) (x_aldn c215_14 rfl (x_gfr c215_15 k_133_84 (x_ildn c215_18 rfl (x_ci c215_19 (x_iast c215_20 a_177 (H.2.2 h2).2.1 (by decide) (x_inc (l' := [some (jR 133), some (jI (v1 + 1))]) c215_21 rfl rfl (x_goto c215_24 (wp_wk (l' := [some (jR 133), some (jI (v1 + 1))]) ⟨rfl, ⟨rfl, trivial⟩⟩ (H.2.2 h2).2.2)))))))))))))))))
theorem s215_29 {kc : List va_E} {d : Nat} {v1 : Int} {M : fx_M} {Q : Option fx_V → fx_M → Prop} (H : ((fx_in32 v1)) ∧ (27 ≤ v1 → Q none M) ∧ (v1 < 27 → (((0 : Int) ≤ v1 ∧ v1 < 27)) ∧ (((0 : Int) ≤ v1 ∧ v1 < 27)) ∧ wp kc (d + 1) 215 29 [some (jR 133), some (jI (v1 + 1))] [] (fx_up (fx_up M 174 v1 (-1)) 175 v1 0) Q)) : wp kc (d + 1) 215 29 [some (jR 133), some (jI v1)] [] M Q :=
  (x_ildn c215_29 rfl (x_ci c215_30 (x_cge c215_32 H.1 (by decide) (fun h1 => (x_vr c215_55 r215 (H.2.1 h1))) (fun h2 => (x_aldn c215_35 rfl (x_gfr c215_36 k_133_81 (x_ildn c215_39 rfl (x_ci c215_40 (x_iast c215_41 a_174 (H.2.2 h2).1 (by decide) (x_aldn c215_42 rfl (x_gfr c215_43 k_133_82 (x_ildn c215_46 rfl (x_ci c215_47 (x_iast c215_48 a_175 (H.2.2 h2).2.1 (by decide) (x_inc (l' := [some (jR 133), some (jI (v1 + 1))]) c215_49 rfl rfl (x_goto c215_52 (wp_wk (l' := [some (jR 133), some (jI (v1 + 1))]) ⟨rfl, ⟨rfl, trivial⟩⟩ (H.2.2 h2).2.2)))))))))))))))))
theorem s215 {kc : List va_E} {d : Nat} {M : fx_M} {Q : Option fx_V → fx_M → Prop} (H : wp kc (d + 1) 215 2 [some (jR 133), some (jI 0)] [] M Q) : wc kc (d + 1) 215 [jR 133] M Q :=
  wc_of (wp_wk (l' := [some (jR 133), none]) ⟨rfl, trivial⟩ (s215_0 H))

/- PuzzleHouseModel.feed(IIIII)I -/
theorem c216_0 : fx_op 216 0 = some (.aload_n 0, 1, 0) := by decide +kernel
theorem c216_1 : fx_ci 216 1 = some (0, 2) := by decide +kernel
theorem c216_2 : fx_pf 216 2 = some (12, 0, 0, 5) := by decide +kernel
theorem c216_5 : fx_op 216 5 = some (.aload_n 0, 6, 5) := by decide +kernel
theorem c216_6 : fx_gf 216 6 = some (12, 1, 9) := by decide +kernel
theorem c216_9 : fx_ci 216 9 = some (20, 11) := by decide +kernel
theorem c216_11 : fx_op 216 11 = some (.iadd, 12, 11) := by decide +kernel
theorem c216_12 : fx_ci 216 12 = some (3200, 15) := by decide +kernel
theorem c216_15 : fx_op 216 15 = some (.if_icmp .le 5, 18, 20) := by decide +kernel
theorem c216_20 : fx_op 216 20 = some (.aload_n 0, 21, 20) := by decide +kernel
theorem c216_21 : fx_op 216 21 = some (.iload_n 1, 22, 21) := by decide +kernel
theorem c216_18 : fx_ci 216 18 = some ((-1), 19) := by decide +kernel
theorem c216_22 : fx_ca 216 22 = some (217, 2, 2, 25) := by decide +kernel
theorem c216_19 : fx_op 216 19 = some (.ireturn, 20, 19) := by decide +kernel
theorem c216_25 : fx_op 216 25 = some (.aload_n 0, 26, 25) := by decide +kernel
theorem c216_26 : fx_op 216 26 = some (.iload_n 2, 27, 26) := by decide +kernel
theorem c216_27 : fx_ca 216 27 = some (217, 2, 2, 30) := by decide +kernel
theorem c216_30 : fx_op 216 30 = some (.aload_n 0, 31, 30) := by decide +kernel
theorem c216_31 : fx_op 216 31 = some (.iload_n 3, 32, 31) := by decide +kernel
theorem c216_32 : fx_ca 216 32 = some (217, 2, 2, 35) := by decide +kernel
theorem c216_35 : fx_op 216 35 = some (.aload_n 0, 36, 35) := by decide +kernel
theorem c216_36 : fx_op 216 36 = some (.iload 4, 38, 36) := by decide +kernel
theorem c216_38 : fx_ca 216 38 = some (217, 2, 2, 41) := by decide +kernel
theorem c216_41 : fx_op 216 41 = some (.aload_n 0, 42, 41) := by decide +kernel
theorem c216_42 : fx_op 216 42 = some (.iload 5, 44, 42) := by decide +kernel
theorem c216_44 : fx_ca 216 44 = some (217, 2, 2, 47) := by decide +kernel
theorem c216_47 : fx_op 216 47 = some (.aload_n 0, 48, 47) := by decide +kernel
theorem c216_48 : fx_gf 216 48 = some (12, 1, 51) := by decide +kernel
theorem c216_51 : fx_op 216 51 = some (.ireturn, 52, 51) := by decide +kernel
theorem s216_0 {kc : List va_E} {d : Nat} {x1 x2 x3 x4 x5 : Int} {M : fx_M} {Q : Option fx_V → fx_M → Prop} (H : ((fx_in32 ((M 133 1) + 20))) ∧ ((M 133 1) + 20 ≤ 3200 → wc kc d 217 [jR 133, jI x1] (fx_up M 133 0 0) (fun v M1 => wp kc (d + 1) 216 25 [some (jR 133), none, some (jI x2), some (jI x3), some (jI x4), some (jI x5)] (v.toList ++ []) M1 Q)) ∧ (3200 < (M 133 1) + 20 → Q (some (jI (-1))) (fx_up M 133 0 0))) : wp kc (d + 1) 216 0 [some (jR 133), some (jI x1), some (jI x2), some (jI x3), some (jI x4), some (jI x5)] [] M Q :=
  (x_aldn c216_0 rfl (x_ci c216_1 (x_pfi c216_2 k_133_0 (x_aldn c216_5 rfl (x_gfi c216_6 k_133_1 (wp_vI (fx_upK (by decide)) (x_ci c216_9 (x_iadd c216_11 (x_ci c216_12 (x_cle c216_15 H.1 (by decide) (fun h1 => (x_aldn c216_20 rfl (x_ildn c216_21 rfl (wp_wk (l' := [some (jR 133), none, some (jI x2), some (jI x3), some (jI x4), some (jI x5)]) ⟨rfl, ⟨rfl, ⟨rfl, ⟨rfl, ⟨rfl, trivial⟩⟩⟩⟩⟩ (x_cv (As := [jI x1]) (st := []) c216_22 cl_133 kl217 rfl (Nat.le_of_ble_eq_true rfl) mx217 (Nat.le_refl _) (H.2.1 h1)))))) (fun h2 => (x_ci c216_18 (x_irt c216_19 r216 (H.2.2 h2))))))))))))))
theorem s216_25 {kc : List va_E} {d : Nat} {v2 v3 v4 v5 : Int} {M : fx_M} {Q : Option fx_V → fx_M → Prop} (H : wc kc d 217 [jR 133, jI v2] M (fun v M1 => wp kc (d + 1) 216 30 [some (jR 133), none, none, some (jI v3), some (jI v4), some (jI v5)] (v.toList ++ []) M1 Q)) : wp kc (d + 1) 216 25 [some (jR 133), none, some (jI v2), some (jI v3), some (jI v4), some (jI v5)] [] M Q :=
  (x_aldn c216_25 rfl (x_ildn c216_26 rfl (wp_wk (l' := [some (jR 133), none, none, some (jI v3), some (jI v4), some (jI v5)]) ⟨rfl, ⟨rfl, ⟨rfl, ⟨rfl, trivial⟩⟩⟩⟩ (x_cv (As := [jI v2]) (st := []) c216_27 cl_133 kl217 rfl (Nat.le_of_ble_eq_true rfl) mx217 (Nat.le_refl _) H))))
theorem s216_30 {kc : List va_E} {d : Nat} {v3 v4 v5 : Int} {M : fx_M} {Q : Option fx_V → fx_M → Prop} (H : wc kc d 217 [jR 133, jI v3] M (fun v M1 => wp kc (d + 1) 216 35 [some (jR 133), none, none, none, some (jI v4), some (jI v5)] (v.toList ++ []) M1 Q)) : wp kc (d + 1) 216 30 [some (jR 133), none, none, some (jI v3), some (jI v4), some (jI v5)] [] M Q :=
  (x_aldn c216_30 rfl (x_ildn c216_31 rfl (wp_wk (l' := [some (jR 133), none, none, none, some (jI v4), some (jI v5)]) ⟨rfl, ⟨rfl, ⟨rfl, trivial⟩⟩⟩ (x_cv (As := [jI v3]) (st := []) c216_32 cl_133 kl217 rfl (Nat.le_of_ble_eq_true rfl) mx217 (Nat.le_refl _) H))))
theorem s216_35 {kc : List va_E} {d : Nat} {v4 v5 : Int} {M : fx_M} {Q : Option fx_V → fx_M → Prop} (H : wc kc d 217 [jR 133, jI v4] M (fun v M1 => wp kc (d + 1) 216 41 [some (jR 133), none, none, none, none, some (jI v5)] (v.toList ++ []) M1 Q)) : wp kc (d + 1) 216 35 [some (jR 133), none, none, none, some (jI v4), some (jI v5)] [] M Q :=
  (x_aldn c216_35 rfl (x_ild c216_36 rfl (wp_wk (l' := [some (jR 133), none, none, none, none, some (jI v5)]) ⟨rfl, ⟨rfl, trivial⟩⟩ (x_cv (As := [jI v4]) (st := []) c216_38 cl_133 kl217 rfl (Nat.le_of_ble_eq_true rfl) mx217 (Nat.le_refl _) H))))
theorem s216_41 {kc : List va_E} {d : Nat} {v5 : Int} {M : fx_M} {Q : Option fx_V → fx_M → Prop} (H : wc kc d 217 [jR 133, jI v5] M (fun v M1 => wp kc (d + 1) 216 47 [some (jR 133), none, none, none, none, none] (v.toList ++ []) M1 Q)) : wp kc (d + 1) 216 41 [some (jR 133), none, none, none, none, some (jI v5)] [] M Q :=
  (x_aldn c216_41 rfl (x_ild c216_42 rfl (wp_wk (l' := [some (jR 133), none, none, none, none, none]) ⟨rfl, trivial⟩ (x_cv (As := [jI v5]) (st := []) c216_44 cl_133 kl217 rfl (Nat.le_of_ble_eq_true rfl) mx217 (Nat.le_refl _) H))))
theorem s216_47 {kc : List va_E} {d : Nat} {M : fx_M} {Q : Option fx_V → fx_M → Prop} (H : Q (some (jI (M 133 1))) M) : wp kc (d + 1) 216 47 [some (jR 133), none, none, none, none, none] [] M Q :=
  (x_aldn c216_47 rfl (x_gfi c216_48 k_133_1 (x_irt c216_51 r216 H)))
theorem s216 {kc : List va_E} {d : Nat} {x1 x2 x3 x4 x5 : Int} {M : fx_M} {Q : Option fx_V → fx_M → Prop} (H : ((fx_in32 ((M 133 1) + 20))) ∧ ((M 133 1) + 20 ≤ 3200 → wc kc d 217 [jR 133, jI x1] (fx_up M 133 0 0) (fun v M1 => wp kc (d + 1) 216 25 [some (jR 133), none, some (jI x2), some (jI x3), some (jI x4), some (jI x5)] (v.toList ++ []) M1 Q)) ∧ (3200 < (M 133 1) + 20 → Q (some (jI (-1))) (fx_up M 133 0 0))) : wc kc (d + 1) 216 [jR 133, jI x1, jI x2, jI x3, jI x4, jI x5] M Q :=
  wc_of (wp_wk (l' := [some (jR 133), some (jI x1), some (jI x2), some (jI x3), some (jI x4), some (jI x5)]) ⟨rfl, ⟨rfl, ⟨rfl, ⟨rfl, ⟨rfl, ⟨rfl, trivial⟩⟩⟩⟩⟩⟩ (s216_0 H))

/- PuzzleHouseModel.feedNumber(I)V -/
theorem c217_0 : fx_ci 217 0 = some (3, 1) := by decide +kernel
theorem c217_1 : fx_op 217 1 = some (.istore_n 2, 2, 1) := by decide +kernel
theorem c217_2 : fx_op 217 2 = some (.iload_n 2, 3, 2) := by decide +kernel
theorem c217_3 : fx_op 217 3 = some (.ifCond .lt 38, 6, 41) := by decide +kernel
theorem c217_6 : fx_op 217 6 = some (.aload_n 0, 7, 6) := by decide +kernel
theorem c217_7 : fx_gf 217 7 = some (12, 2, 10) := by decide +kernel
theorem c217_10 : fx_op 217 10 = some (.aload_n 0, 11, 10) := by decide +kernel
theorem c217_11 : fx_gf 217 11 = some (12, 1, 14) := by decide +kernel
theorem c217_14 : fx_op 217 14 = some (.iload_n 1, 15, 14) := by decide +kernel
theorem c217_15 : fx_ci 217 15 = some (8, 17) := by decide +kernel
theorem c217_17 : fx_op 217 17 = some (.iload_n 2, 18, 17) := by decide +kernel
theorem c217_18 : fx_op 217 18 = some (.imul, 19, 18) := by decide +kernel
theorem c217_19 : fx_op 217 19 = some (.ishr, 20, 19) := by decide +kernel
theorem c217_20 : fx_ci 217 20 = some (255, 23) := by decide +kernel
theorem c217_23 : fx_op 217 23 = some (.iand, 24, 23) := by decide +kernel
theorem c217_25 : fx_op 217 25 = some (.aload_n 0, 26, 25) := by decide +kernel
theorem c217_26 : fx_op 217 26 = some (.dup, 27, 26) := by decide +kernel
theorem c217_27 : fx_gf 217 27 = some (12, 1, 30) := by decide +kernel
theorem c217_30 : fx_ci 217 30 = some (1, 31) := by decide +kernel
theorem c217_31 : fx_op 217 31 = some (.iadd, 32, 31) := by decide +kernel
theorem c217_32 : fx_pf 217 32 = some (12, 1, 0, 35) := by decide +kernel
theorem c217_35 : fx_op 217 35 = some (.iinc 2 (-1), 38, 35) := by decide +kernel
theorem c217_41 : fx_op 217 41 = some (.return_, 42, 41) := by decide +kernel
theorem c217_24 : fx_op 217 24 = some (.iastore, 25, 24) := by decide +kernel
theorem c217_38 : fx_op 217 38 = some (.goto (-36), 41, 2) := by decide +kernel
theorem s217_0 {kc : List va_E} {d : Nat} {x1 : Int} {M : fx_M} {Q : Option fx_V → fx_M → Prop} (H : wp kc (d + 1) 217 2 [some (jR 133), some (jI x1), some (jI 3)] [] M Q) : wp kc (d + 1) 217 0 [some (jR 133), some (jI x1), none] [] M Q :=
  (x_ci c217_0 (x_istn (l' := [some (jR 133), some (jI x1), some (jI 3)]) c217_1 rfl (wp_wk (l' := [some (jR 133), some (jI x1), some (jI 3)]) ⟨rfl, ⟨rfl, ⟨rfl, trivial⟩⟩⟩ H)))
theorem s217_2 {kc : List va_E} {d : Nat} {v1 v2 : Int} {M : fx_M} {Q : Option fx_V → fx_M → Prop} (H : ((fx_in32 v2)) ∧ (v2 < 0 → Q none M) ∧ (0 ≤ v2 → (((0 : Int) ≤ M 133 1 ∧ M 133 1 < 3200)) ∧ wp kc (d + 1) 217 2 [some (jR 133), some (jI v1), some (jI (v2 + (-1)))] [] (fx_up (fx_up M 134 (M 133 1) (fx_and (fx_shr v1 (8 * v2)) 255)) 133 1 ((M 133 1) + 1)) Q)) : wp kc (d + 1) 217 2 [some (jR 133), some (jI v1), some (jI v2)] [] M Q :=
  (x_ildn c217_2 rfl (x_zlt c217_3 H.1 (fun h1 => (x_vr c217_41 r217 (H.2.1 h1))) (fun h2 => (x_aldn c217_6 rfl (x_gfr c217_7 k_133_2 (x_aldn c217_10 rfl (x_gfi c217_11 k_133_1 (x_ildn c217_14 rfl (x_ci c217_15 (x_ildn c217_17 rfl (x_imul c217_18 (x_ishr c217_19 (x_ci c217_20 (x_iand c217_23 (x_iast c217_24 a_134 (H.2.2 h2).1 (by decide) (x_aldn c217_25 rfl (x_dupr c217_26 (x_gfi c217_27 k_133_1 (wp_vI (fx_upA (by decide)) (x_ci c217_30 (x_iadd c217_31 (x_pfi c217_32 k_133_1 (x_inc (l' := [some (jR 133), some (jI v1), some (jI (v2 + (-1)))]) c217_35 rfl rfl (x_goto c217_38 (wp_wk (l' := [some (jR 133), some (jI v1), some (jI (v2 + (-1)))]) ⟨rfl, ⟨rfl, ⟨rfl, trivial⟩⟩⟩ (H.2.2 h2).2)))))))))))))))))))))))))
theorem s217 {kc : List va_E} {d : Nat} {x1 : Int} {M : fx_M} {Q : Option fx_V → fx_M → Prop} (H : wp kc (d + 1) 217 2 [some (jR 133), some (jI x1), some (jI 3)] [] M Q) : wc kc (d + 1) 217 [jR 133, jI x1] M Q :=
  wc_of (wp_wk (l' := [some (jR 133), some (jI x1), none]) ⟨rfl, ⟨rfl, trivial⟩⟩ (s217_0 H))

/- PuzzleHouseModel.ask(I)I -/
theorem c218_0 : fx_op 218 0 = some (.aload_n 0, 1, 0) := by decide +kernel
theorem c218_1 : fx_ci 218 1 = some (0, 2) := by decide +kernel
theorem c218_2 : fx_pf 218 2 = some (12, 0, 0, 5) := by decide +kernel
theorem c218_5 : fx_op 218 5 = some (.iload_n 1, 6, 5) := by decide +kernel
theorem c218_6 : fx_op 218 6 = some (.ifCond .lt 11, 9, 17) := by decide +kernel
theorem c218_17 : fx_ci 218 17 = some ((-1), 18) := by decide +kernel
theorem c218_9 : fx_op 218 9 = some (.iload_n 1, 10, 9) := by decide +kernel
theorem c218_10 : fx_op 218 10 = some (.aload_n 0, 11, 10) := by decide +kernel
theorem c218_11 : fx_gf 218 11 = some (12, 1, 14) := by decide +kernel
theorem c218_14 : fx_op 218 14 = some (.if_icmp .le 5, 17, 19) := by decide +kernel
theorem c218_19 : fx_ci 218 19 = some (0, 20) := by decide +kernel
theorem c218_20 : fx_op 218 20 = some (.istore_n 2, 21, 20) := by decide +kernel
theorem c218_18 : fx_op 218 18 = some (.ireturn, 19, 18) := by decide +kernel
theorem c218_21 : fx_op 218 21 = some (.iload_n 2, 22, 21) := by decide +kernel
theorem c218_22 : fx_op 218 22 = some (.iload_n 1, 23, 22) := by decide +kernel
theorem c218_23 : fx_op 218 23 = some (.if_icmp .ge 21, 26, 44) := by decide +kernel
theorem c218_26 : fx_op 218 26 = some (.aload_n 0, 27, 26) := by decide +kernel
theorem c218_27 : fx_gf 218 27 = some (12, 4, 30) := by decide +kernel
theorem c218_30 : fx_op 218 30 = some (.iload_n 2, 31, 30) := by decide +kernel
theorem c218_31 : fx_op 218 31 = some (.aload_n 0, 32, 31) := by decide +kernel
theorem c218_32 : fx_gf 218 32 = some (12, 2, 35) := by decide +kernel
theorem c218_35 : fx_op 218 35 = some (.iload_n 2, 36, 35) := by decide +kernel
theorem c218_36 : fx_op 218 36 = some (.iaload, 37, 36) := by decide +kernel
theorem c218_44 : fx_op 218 44 = some (.aload_n 0, 45, 44) := by decide +kernel
theorem c218_45 : fx_op 218 45 = some (.iload_n 1, 46, 45) := by decide +kernel
theorem c218_46 : fx_pf 218 46 = some (12, 3, 0, 49) := by decide +kernel
theorem c218_49 : fx_op 218 49 = some (.aload_n 0, 50, 49) := by decide +kernel
theorem c218_50 : fx_ci 218 50 = some (0, 51) := by decide +kernel
theorem c218_51 : fx_pf 218 51 = some (12, 1, 0, 54) := by decide +kernel
theorem c218_54 : fx_op 218 54 = some (.aload_n 0, 55, 54) := by decide +kernel
theorem c218_38 : fx_op 218 38 = some (.iinc 2 1, 41, 38) := by decide +kernel
theorem c218_55 : fx_ca 218 55 = some (219, 1, 2, 58) := by decide +kernel
theorem c218_37 : fx_op 218 37 = some (.iastore, 38, 37) := by decide +kernel
theorem c218_41 : fx_op 218 41 = some (.goto (-20), 44, 21) := by decide +kernel
theorem c218_58 : fx_op 218 58 = some (.ireturn, 59, 58) := by decide +kernel
theorem s218_0 {kc : List va_E} {d : Nat} {x1 : Int} {M : fx_M} {Q : Option fx_V → fx_M → Prop} (H : ((fx_in32 x1)) ∧ (x1 < 0 → Q (some (jI (-1))) (fx_up M 133 0 0)) ∧ (0 ≤ x1 → ((fx_in32 x1) ∧ (fx_in32 (M 133 1))) ∧ (x1 ≤ M 133 1 → wp kc (d + 1) 218 21 [some (jR 133), some (jI x1), some (jI 0)] [] (fx_up M 133 0 0) Q) ∧ (M 133 1 < x1 → Q (some (jI (-1))) (fx_up M 133 0 0)))) : wp kc (d + 1) 218 0 [some (jR 133), some (jI x1), none] [] M Q :=
  (x_aldn c218_0 rfl (x_ci c218_1 (x_pfi c218_2 k_133_0 (x_ildn c218_5 rfl (x_zlt c218_6 H.1 (fun h3 => (x_ci c218_17 (x_irt c218_18 r218 (H.2.1 h3)))) (fun h4 => (x_ildn c218_9 rfl (x_aldn c218_10 rfl (x_gfi c218_11 k_133_1 (wp_vI (fx_upK (by decide)) (x_cle c218_14 (H.2.2 h4).1.1 (H.2.2 h4).1.2 (fun h1 => (x_ci c218_19 (x_istn (l' := [some (jR 133), some (jI x1), some (jI 0)]) c218_20 rfl (wp_wk (l' := [some (jR 133), some (jI x1), some (jI 0)]) ⟨rfl, ⟨rfl, ⟨rfl, trivial⟩⟩⟩ ((H.2.2 h4).2.1 h1))))) (fun h2 => (x_ci c218_17 (x_irt c218_18 r218 ((H.2.2 h4).2.2 h2)))))))))))))))
theorem s218_21 {kc : List va_E} {d : Nat} {v1 v2 : Int} {M : fx_M} {Q : Option fx_V → fx_M → Prop} (H : ((fx_in32 v2) ∧ (fx_in32 v1)) ∧ (v1 ≤ v2 → wc kc d 219 [jR 133] (fx_up (fx_up M 133 3 v1) 133 1 0) (fun v M1 => wp kc (d + 1) 218 58 [none, none, none] (v.toList ++ []) M1 Q)) ∧ (v2 < v1 → (((0 : Int) ≤ v2 ∧ v2 < 3200)) ∧ (((0 : Int) ≤ v2 ∧ v2 < 6100)) ∧ wp kc (d + 1) 218 21 [some (jR 133), some (jI v1), some (jI (v2 + 1))] [] (fx_up M 135 v2 (M 134 v2)) Q)) : wp kc (d + 1) 218 21 [some (jR 133), some (jI v1), some (jI v2)] [] M Q :=
  (x_ildn c218_21 rfl (x_ildn c218_22 rfl (x_cge c218_23 H.1.1 H.1.2 (fun h1 => (x_aldn c218_44 rfl (x_ildn c218_45 rfl (x_pfi c218_46 k_133_3 (x_aldn c218_49 rfl (x_ci c218_50 (x_pfi c218_51 k_133_1 (x_aldn c218_54 rfl (wp_wk (l' := [none, none, none]) trivial (x_cv (As := []) (st := []) c218_55 cl_133 kl219 rfl (Nat.le_of_ble_eq_true rfl) mx219 (Nat.le_refl _) (H.2.1 h1))))))))))) (fun h2 => (x_aldn c218_26 rfl (x_gfr c218_27 k_133_4 (x_ildn c218_30 rfl (x_aldn c218_31 rfl (x_gfr c218_32 k_133_2 (x_ildn c218_35 rfl (x_iald c218_36 a_134 (H.2.2 h2).1 (by decide) (x_iast c218_37 a_135 (H.2.2 h2).2.1 (by decide) (x_inc (l' := [some (jR 133), some (jI v1), some (jI (v2 + 1))]) c218_38 rfl rfl (x_goto c218_41 (wp_wk (l' := [some (jR 133), some (jI v1), some (jI (v2 + 1))]) ⟨rfl, ⟨rfl, ⟨rfl, trivial⟩⟩⟩ (H.2.2 h2).2.2)))))))))))))))
theorem s218_58 {kc : List va_E} {d : Nat} {u0 : Int} {M : fx_M} {Q : Option fx_V → fx_M → Prop} (H : Q (some (jI u0)) M) : wp kc (d + 1) 218 58 [none, none, none] [jI u0] M Q :=
  (x_irt c218_58 r218 H)
theorem s218 {kc : List va_E} {d : Nat} {x1 : Int} {M : fx_M} {Q : Option fx_V → fx_M → Prop} (H : ((fx_in32 x1)) ∧ (x1 < 0 → Q (some (jI (-1))) (fx_up M 133 0 0)) ∧ (0 ≤ x1 → ((fx_in32 x1) ∧ (fx_in32 (M 133 1))) ∧ (x1 ≤ M 133 1 → wp kc (d + 1) 218 21 [some (jR 133), some (jI x1), some (jI 0)] [] (fx_up M 133 0 0) Q) ∧ (M 133 1 < x1 → Q (some (jI (-1))) (fx_up M 133 0 0)))) : wc kc (d + 1) 218 [jR 133, jI x1] M Q :=
  wc_of (wp_wk (l' := [some (jR 133), some (jI x1), none]) ⟨rfl, ⟨rfl, trivial⟩⟩ (s218_0 H))

/- PuzzleHouseModel.reply()I -/
theorem c219_0 : fx_op 219 0 = some (.aload_n 0, 1, 0) := by decide +kernel
theorem c219_1 : fx_ci 219 1 = some (0, 2) := by decide +kernel
theorem c219_2 : fx_pf 219 2 = some (12, 5, 0, 5) := by decide +kernel
theorem c219_5 : fx_op 219 5 = some (.aload_n 0, 6, 5) := by decide +kernel
theorem c219_6 : fx_ci 219 6 = some (0, 7) := by decide +kernel
theorem c219_7 : fx_pf 219 7 = some (12, 7, 0, 10) := by decide +kernel
theorem c219_10 : fx_op 219 10 = some (.aload_n 0, 11, 10) := by decide +kernel
theorem c219_11 : fx_ci 219 11 = some (0, 12) := by decide +kernel
theorem c219_12 : fx_ci 219 12 = some (44, 14) := by decide +kernel
theorem c219_14 : fx_ca 219 14 = some (220, 3, 2, 17) := by decide +kernel
theorem c219_17 : fx_op 219 17 = some (.istore_n 1, 18, 17) := by decide +kernel
theorem c219_18 : fx_op 219 18 = some (.iload_n 1, 19, 18) := by decide +kernel
theorem c219_19 : fx_op 219 19 = some (.ifCond .lt 22, 22, 41) := by decide +kernel
theorem c219_41 : fx_op 219 41 = some (.aload_n 0, 42, 41) := by decide +kernel
theorem c219_42 : fx_cj 219 42 = some (6447460, 45) := by decide +kernel
theorem c219_45 : fx_op 219 45 = some (.aload_n 0, 46, 45) := by decide +kernel
theorem c219_46 : fx_gf 219 46 = some (12, 7, 49) := by decide +kernel
theorem c219_22 : fx_op 219 22 = some (.aload_n 0, 23, 22) := by decide +kernel
theorem c219_23 : fx_op 219 23 = some (.iload_n 1, 24, 23) := by decide +kernel
theorem c219_49 : fx_ca 219 49 = some (252, 3, 2, 52) := by decide +kernel
theorem c219_24 : fx_ca 219 24 = some (225, 2, 2, 27) := by decide +kernel
theorem c219_60 : fx_op 219 60 = some (.aload_n 0, 61, 60) := by decide +kernel
theorem c219_61 : fx_gf 219 61 = some (12, 5, 64) := by decide +kernel
theorem c219_52 : fx_op 219 52 = some (.goto 8, 55, 60) := by decide +kernel
theorem c219_64 : fx_op 219 64 = some (.ireturn, 65, 64) := by decide +kernel
theorem c219_27 : fx_op 219 27 = some (.ifCond .eq 14, 30, 41) := by decide +kernel
theorem c219_30 : fx_op 219 30 = some (.aload_n 0, 31, 30) := by decide +kernel
theorem c219_31 : fx_gf 219 31 = some (12, 7, 34) := by decide +kernel
theorem c219_34 : fx_op 219 34 = some (.aload_n 0, 35, 34) := by decide +kernel
theorem c219_35 : fx_gf 219 35 = some (12, 3, 38) := by decide +kernel
theorem c219_38 : fx_op 219 38 = some (.if_icmp .ge 17, 41, 55) := by decide +kernel
theorem c219_55 : fx_op 219 55 = some (.aload_n 0, 56, 55) := by decide +kernel
theorem c219_56 : fx_op 219 56 = some (.iload_n 1, 57, 56) := by decide +kernel
theorem c219_57 : fx_ca 219 57 = some (257, 2, 2, 60) := by decide +kernel
theorem s219_0 {kc : List va_E} {d : Nat} {M : fx_M} {Q : Option fx_V → fx_M → Prop} (H : wc kc d 220 [jR 133, jI 0, jI 44] (fx_up (fx_up M 133 5 0) 133 7 0) (fun v M1 => wp kc (d + 1) 219 17 [some (jR 133), none] (v.toList ++ []) M1 Q)) : wp kc (d + 1) 219 0 [some (jR 133), none] [] M Q :=
  (x_aldn c219_0 rfl (x_ci c219_1 (x_pfi c219_2 k_133_5 (x_aldn c219_5 rfl (x_ci c219_6 (x_pfi c219_7 k_133_7 (x_aldn c219_10 rfl (x_ci c219_11 (x_ci c219_12 (wp_wk (l' := [some (jR 133), none]) ⟨rfl, trivial⟩ (x_cv (As := [jI 0, jI 44]) (st := []) c219_14 cl_133 kl220 rfl (Nat.le_of_ble_eq_true rfl) mx220 (Nat.le_refl _) H)))))))))))
theorem s219_17 {kc : List va_E} {d : Nat} {u0 : Int} {M : fx_M} {Q : Option fx_V → fx_M → Prop} (H : ((fx_in32 u0)) ∧ (u0 < 0 → wc kc d 252 [jR 133, jL 6447460, jI (M 133 7)] M (fun v M1 => wp kc (d + 1) 219 52 [some (jR 133), none] (v.toList ++ []) M1 Q)) ∧ (0 ≤ u0 → wc kc d 225 [jR 133, jI u0] M (fun v M1 => wp kc (d + 1) 219 27 [some (jR 133), some (jI u0)] (v.toList ++ []) M1 Q))) : wp kc (d + 1) 219 17 [some (jR 133), none] [jI u0] M Q :=
  (x_istn (l' := [some (jR 133), some (jI u0)]) c219_17 rfl (x_ildn c219_18 rfl (x_zlt c219_19 H.1 (fun h1 => (x_aldn c219_41 rfl (x_cj c219_42 (x_aldn c219_45 rfl (x_gfi c219_46 k_133_7 (wp_wk (l' := [some (jR 133), none]) ⟨rfl, trivial⟩ (x_cv (As := [jL 6447460, jI (M 133 7)]) (st := []) c219_49 cl_133 kl252 rfl (Nat.le_of_ble_eq_true rfl) mx252 (Nat.le_refl _) (H.2.1 h1)))))))) (fun h2 => (x_aldn c219_22 rfl (x_ildn c219_23 rfl (wp_wk (l' := [some (jR 133), some (jI u0)]) ⟨rfl, ⟨rfl, trivial⟩⟩ (x_cv (As := [jI u0]) (st := []) c219_24 cl_133 kl225 rfl (Nat.le_of_ble_eq_true rfl) mx225 (Nat.le_refl _) (H.2.2 h2)))))))))
theorem s219_27 {kc : List va_E} {d : Nat} {v1 u0 : Int} {M : fx_M} {Q : Option fx_V → fx_M → Prop} (H : ((fx_in32 u0)) ∧ (u0 = 0 → wc kc d 252 [jR 133, jL 6447460, jI (M 133 7)] M (fun v M1 => wp kc (d + 1) 219 52 [some (jR 133), none] (v.toList ++ []) M1 Q)) ∧ (u0 ≠ 0 → ((fx_in32 (M 133 7)) ∧ (fx_in32 (M 133 3))) ∧ (M 133 3 ≤ M 133 7 → wc kc d 257 [jR 133, jI v1] M (fun v M1 => wp kc (d + 1) 219 60 [some (jR 133), none] (v.toList ++ []) M1 Q)) ∧ (M 133 7 < M 133 3 → wc kc d 252 [jR 133, jL 6447460, jI (M 133 7)] M (fun v M1 => wp kc (d + 1) 219 52 [some (jR 133), none] (v.toList ++ []) M1 Q)))) : wp kc (d + 1) 219 27 [some (jR 133), some (jI v1)] [jI u0] M Q :=
  (x_zeq c219_27 H.1 (fun h3 => (x_aldn c219_41 rfl (x_cj c219_42 (x_aldn c219_45 rfl (x_gfi c219_46 k_133_7 (wp_wk (l' := [some (jR 133), none]) ⟨rfl, trivial⟩ (x_cv (As := [jL 6447460, jI (M 133 7)]) (st := []) c219_49 cl_133 kl252 rfl (Nat.le_of_ble_eq_true rfl) mx252 (Nat.le_refl _) (H.2.1 h3)))))))) (fun h4 => (x_aldn c219_30 rfl (x_gfi c219_31 k_133_7 (x_aldn c219_34 rfl (x_gfi c219_35 k_133_3 (x_cge c219_38 (H.2.2 h4).1.1 (H.2.2 h4).1.2 (fun h1 => (x_aldn c219_55 rfl (x_ildn c219_56 rfl (wp_wk (l' := [some (jR 133), none]) ⟨rfl, trivial⟩ (x_cv (As := [jI v1]) (st := []) c219_57 cl_133 kl257 rfl (Nat.le_of_ble_eq_true rfl) mx257 (Nat.le_refl _) ((H.2.2 h4).2.1 h1)))))) (fun h2 => (x_aldn c219_41 rfl (x_cj c219_42 (x_aldn c219_45 rfl (x_gfi c219_46 k_133_7 (wp_wk (l' := [some (jR 133), none]) ⟨rfl, trivial⟩ (x_cv (As := [jL 6447460, jI (M 133 7)]) (st := []) c219_49 cl_133 kl252 rfl (Nat.le_of_ble_eq_true rfl) mx252 (Nat.le_refl _) ((H.2.2 h4).2.2 h2)))))))))))))))
theorem s219_52 {kc : List va_E} {d : Nat} {M : fx_M} {Q : Option fx_V → fx_M → Prop} (H : Q (some (jI (M 133 5))) M) : wp kc (d + 1) 219 52 [some (jR 133), none] [] M Q :=
  (x_goto c219_52 (x_aldn c219_60 rfl (x_gfi c219_61 k_133_5 (x_irt c219_64 r219 H))))
theorem s219_60 {kc : List va_E} {d : Nat} {M : fx_M} {Q : Option fx_V → fx_M → Prop} (H : Q (some (jI (M 133 5))) M) : wp kc (d + 1) 219 60 [some (jR 133), none] [] M Q :=
  (x_aldn c219_60 rfl (x_gfi c219_61 k_133_5 (x_irt c219_64 r219 H)))
theorem s219 {kc : List va_E} {d : Nat} {M : fx_M} {Q : Option fx_V → fx_M → Prop} (H : wc kc d 220 [jR 133, jI 0, jI 44] (fx_up (fx_up M 133 5 0) 133 7 0) (fun v M1 => wp kc (d + 1) 219 17 [some (jR 133), none] (v.toList ++ []) M1 Q)) : wc kc (d + 1) 219 [jR 133] M Q :=
  wc_of (wp_wk (l' := [some (jR 133), none]) ⟨rfl, trivial⟩ (s219_0 H))

/- PuzzleHouseModel.scanWord(II)I -/
theorem c220_0 : fx_ci 220 0 = some (0, 1) := by decide +kernel
theorem c220_1 : fx_op 220 1 = some (.istore_n 3, 2, 1) := by decide +kernel
theorem c220_2 : fx_ci 220 2 = some ((-1), 3) := by decide +kernel
theorem c220_3 : fx_op 220 3 = some (.istore 4, 5, 3) := by decide +kernel
theorem c220_5 : fx_op 220 5 = some (.iload_n 1, 6, 5) := by decide +kernel
theorem c220_6 : fx_op 220 6 = some (.istore 5, 8, 6) := by decide +kernel
theorem c220_8 : fx_op 220 8 = some (.iload 5, 10, 8) := by decide +kernel
theorem c220_10 : fx_op 220 10 = some (.iload_n 2, 11, 10) := by decide +kernel
theorem c220_11 : fx_op 220 11 = some (.if_icmp .gt 68, 14, 79) := by decide +kernel
theorem c220_14 : fx_op 220 14 = some (.aload_n 0, 15, 14) := by decide +kernel
theorem c220_15 : fx_op 220 15 = some (.iload 5, 17, 15) := by decide +kernel
theorem c220_79 : fx_op 220 79 = some (.aload_n 0, 80, 79) := by decide +kernel
theorem c220_80 : fx_op 220 80 = some (.dup, 81, 80) := by decide +kernel
theorem c220_81 : fx_gf 220 81 = some (12, 7, 84) := by decide +kernel
theorem c220_84 : fx_op 220 84 = some (.iload 4, 86, 84) := by decide +kernel
theorem c220_86 : fx_op 220 86 = some (.ifCond .ge 7, 89, 93) := by decide +kernel
theorem c220_93 : fx_op 220 93 = some (.iload 4, 95, 93) := by decide +kernel
theorem c220_89 : fx_op 220 89 = some (.iload_n 3, 90, 89) := by decide +kernel
theorem c220_101 : fx_op 220 101 = some (.iadd, 102, 101) := by decide +kernel
theorem c220_102 : fx_pf 220 102 = some (12, 7, 0, 105) := by decide +kernel
theorem c220_105 : fx_op 220 105 = some (.iload 4, 107, 105) := by decide +kernel
theorem c220_95 : fx_ca 220 95 = some (221, 1, 0, 98) := by decide +kernel
theorem c220_90 : fx_op 220 90 = some (.goto 11, 93, 101) := by decide +kernel
theorem c220_107 : fx_op 220 107 = some (.ireturn, 108, 107) := by decide +kernel
theorem c220_17 : fx_ca 220 17 = some (221, 1, 0, 20) := by decide +kernel
theorem c220_98 : fx_ca 220 98 = some (223, 1, 0, 101) := by decide +kernel
theorem c220_20 : fx_ca 220 20 = some (222, 2, 2, 23) := by decide +kernel
theorem c220_23 : fx_op 220 23 = some (.istore 6, 25, 23) := by decide +kernel
theorem c220_25 : fx_op 220 25 = some (.iload 6, 27, 25) := by decide +kernel
theorem c220_27 : fx_op 220 27 = some (.iload 5, 29, 27) := by decide +kernel
theorem c220_29 : fx_ca 220 29 = some (221, 1, 0, 32) := by decide +kernel
theorem c220_32 : fx_ca 220 32 = some (223, 1, 0, 35) := by decide +kernel
theorem c220_35 : fx_op 220 35 = some (.if_icmp .ne 25, 38, 60) := by decide +kernel
theorem c220_38 : fx_op 220 38 = some (.iload 4, 40, 38) := by decide +kernel
theorem c220_40 : fx_op 220 40 = some (.ifCond .lt 16, 43, 56) := by decide +kernel
theorem c220_56 : fx_op 220 56 = some (.iload 5, 58, 56) := by decide +kernel
theorem c220_58 : fx_op 220 58 = some (.istore 4, 60, 58) := by decide +kernel
theorem c220_43 : fx_op 220 43 = some (.iload 6, 45, 43) := by decide +kernel
theorem c220_45 : fx_op 220 45 = some (.iload 4, 47, 45) := by decide +kernel
theorem c220_60 : fx_op 220 60 = some (.iload 6, 62, 60) := by decide +kernel
theorem c220_62 : fx_op 220 62 = some (.iload_n 3, 63, 62) := by decide +kernel
theorem c220_63 : fx_op 220 63 = some (.if_icmp .le 8, 66, 71) := by decide +kernel
theorem c220_71 : fx_op 220 71 = some (.iload_n 3, 72, 71) := by decide +kernel
theorem c220_66 : fx_op 220 66 = some (.iload 6, 68, 66) := by decide +kernel
theorem c220_68 : fx_op 220 68 = some (.goto 4, 71, 72) := by decide +kernel
theorem c220_72 : fx_op 220 72 = some (.istore_n 3, 73, 72) := by decide +kernel
theorem c220_73 : fx_op 220 73 = some (.iinc 5 1, 76, 73) := by decide +kernel
theorem c220_76 : fx_op 220 76 = some (.goto (-68), 79, 8) := by decide +kernel
theorem c220_47 : fx_ca 220 47 = some (221, 1, 0, 50) := by decide +kernel
theorem c220_50 : fx_ca 220 50 = some (223, 1, 0, 53) := by decide +kernel
theorem c220_53 : fx_op 220 53 = some (.if_icmp .le 7, 56, 60) := by decide +kernel
theorem s220_0 {kc : List va_E} {d : Nat} {x1 x2 : Int} {M : fx_M} {Q : Option fx_V → fx_M → Prop} (H : wp kc (d + 1) 220 8 [some (jR 133), none, some (jI x2), some (jI 0), some (jI (-1)), some (jI x1), none] [] M Q) : wp kc (d + 1) 220 0 [some (jR 133), some (jI x1), some (jI x2), none, none, none, none] [] M Q :=
  (x_ci c220_0 (x_istn (l' := [some (jR 133), some (jI x1), some (jI x2), some (jI 0), none, none, none]) c220_1 rfl (x_ci c220_2 (x_ist (l' := [some (jR 133), some (jI x1), some (jI x2), some (jI 0), some (jI (-1)), none, none]) c220_3 rfl (x_ildn c220_5 rfl (x_ist (l' := [some (jR 133), some (jI x1), some (jI x2), some (jI 0), some (jI (-1)), some (jI x1), none]) c220_6 rfl (wp_wk (l' := [some (jR 133), none, some (jI x2), some (jI 0), some (jI (-1)), some (jI x1), none]) ⟨rfl, ⟨rfl, ⟨rfl, ⟨rfl, ⟨rfl, trivial⟩⟩⟩⟩⟩ H)))))))
theorem s220_8 {kc : List va_E} {d : Nat} {v2 v3 v4 v5 : Int} {M : fx_M} {Q : Option fx_V → fx_M → Prop} (H : ((fx_in32 v5) ∧ (fx_in32 v2)) ∧ (v2 < v5 → ((fx_in32 v4)) ∧ (0 ≤ v4 → wc kc d 221 [jI v4] M (fun v M1 => wp kc (d + 1) 220 98 [none, none, none, none, some (jI v4), none, none] (v.toList ++ [jI (M 133 7), jR 133]) M1 Q)) ∧ (v4 < 0 → Q (some (jI v4)) (fx_up M 133 7 ((M 133 7) + v3)))) ∧ (v5 ≤ v2 → wc kc d 221 [jI v5] M (fun v M1 => wp kc (d + 1) 220 20 [some (jR 133), none, some (jI v2), some (jI v3), some (jI v4), some (jI v5), none] (v.toList ++ [jR 133]) M1 Q))) : wp kc (d + 1) 220 8 [some (jR 133), none, some (jI v2), some (jI v3), some (jI v4), some (jI v5), none] [] M Q :=
  (x_ild c220_8 rfl (x_ildn c220_10 rfl (x_cgt c220_11 H.1.1 H.1.2 (fun h3 => (x_aldn c220_79 rfl (x_dupr c220_80 (x_gfi c220_81 k_133_7 (x_ild c220_84 rfl (x_zge c220_86 (H.2.1 h3).1 (fun h1 => (x_ild c220_93 rfl (wp_wk (l' := [none, none, none, none, some (jI v4), none, none]) ⟨rfl, trivial⟩ (x_cs (As := [jI v4]) (st := [jI (M 133 7), jR 133]) c220_95 (by decide) rfl (Nat.le_of_ble_eq_true rfl) mx221 (Nat.le_refl _) ((H.2.1 h3).2.1 h1))))) (fun h2 => (x_ildn c220_89 rfl (x_goto c220_90 (x_iadd c220_101 (x_pfi c220_102 k_133_7 (x_ild c220_105 rfl (x_irt c220_107 r220 ((H.2.1 h3).2.2 h2)))))))))))))) (fun h4 => (x_aldn c220_14 rfl (x_ild c220_15 rfl (wp_wk (l' := [some (jR 133), none, some (jI v2), some (jI v3), some (jI v4), some (jI v5), none]) ⟨rfl, ⟨rfl, ⟨rfl, ⟨rfl, ⟨rfl, trivial⟩⟩⟩⟩⟩ (x_cs (As := [jI v5]) (st := [jR 133]) c220_17 (by decide) rfl (Nat.le_of_ble_eq_true rfl) mx221 (Nat.le_refl _) (H.2.2 h4)))))))))
theorem s220_20 {kc : List va_E} {d : Nat} {v2 v3 v4 v5 u0 : Int} {M : fx_M} {Q : Option fx_V → fx_M → Prop} (H : wc kc d 222 [jR 133, jL u0] M (fun v M1 => wp kc (d + 1) 220 23 [some (jR 133), none, some (jI v2), some (jI v3), some (jI v4), some (jI v5), none] (v.toList ++ []) M1 Q)) : wp kc (d + 1) 220 20 [some (jR 133), none, some (jI v2), some (jI v3), some (jI v4), some (jI v5), none] [jL u0, jR 133] M Q :=
  (wp_wk (l' := [some (jR 133), none, some (jI v2), some (jI v3), some (jI v4), some (jI v5), none]) ⟨rfl, ⟨rfl, ⟨rfl, ⟨rfl, ⟨rfl, trivial⟩⟩⟩⟩⟩ (x_cv (As := [jL u0]) (st := []) c220_20 cl_133 kl222 rfl (Nat.le_of_ble_eq_true rfl) mx222 (Nat.le_refl _) H))
theorem s220_23 {kc : List va_E} {d : Nat} {v2 v3 v4 v5 u0 : Int} {M : fx_M} {Q : Option fx_V → fx_M → Prop} (H : wc kc d 221 [jI v5] M (fun v M1 => wp kc (d + 1) 220 32 [some (jR 133), none, some (jI v2), some (jI v3), some (jI v4), some (jI v5), some (jI u0)] (v.toList ++ [jI u0]) M1 Q)) : wp kc (d + 1) 220 23 [some (jR 133), none, some (jI v2), some (jI v3), some (jI v4), some (jI v5), none] [jI u0] M Q :=
  (x_ist (l' := [some (jR 133), none, some (jI v2), some (jI v3), some (jI v4), some (jI v5), some (jI u0)]) c220_23 rfl (x_ild c220_25 rfl (x_ild c220_27 rfl (wp_wk (l' := [some (jR 133), none, some (jI v2), some (jI v3), some (jI v4), some (jI v5), some (jI u0)]) ⟨rfl, ⟨rfl, ⟨rfl, ⟨rfl, ⟨rfl, ⟨rfl, trivial⟩⟩⟩⟩⟩⟩ (x_cs (As := [jI v5]) (st := [jI u0]) c220_29 (by decide) rfl (Nat.le_of_ble_eq_true rfl) mx221 (Nat.le_refl _) H)))))
theorem s220_32 {kc : List va_E} {d : Nat} {v2 v3 v4 v5 v6 u0 u1 : Int} {M : fx_M} {Q : Option fx_V → fx_M → Prop} (H : wc kc d 223 [jL u0] M (fun v M1 => wp kc (d + 1) 220 35 [some (jR 133), none, some (jI v2), some (jI v3), some (jI v4), some (jI v5), some (jI v6)] (v.toList ++ [jI u1]) M1 Q)) : wp kc (d + 1) 220 32 [some (jR 133), none, some (jI v2), some (jI v3), some (jI v4), some (jI v5), some (jI v6)] [jL u0, jI u1] M Q :=
  (wp_wk (l' := [some (jR 133), none, some (jI v2), some (jI v3), some (jI v4), some (jI v5), some (jI v6)]) ⟨rfl, ⟨rfl, ⟨rfl, ⟨rfl, ⟨rfl, ⟨rfl, trivial⟩⟩⟩⟩⟩⟩ (x_cs (As := [jL u0]) (st := [jI u1]) c220_32 (by decide) rfl (Nat.le_of_ble_eq_true rfl) mx223 (Nat.le_refl _) H))
theorem s220_35 {kc : List va_E} {d : Nat} {v2 v3 v4 v5 v6 u0 u1 : Int} {M : fx_M} {Q : Option fx_V → fx_M → Prop} (H : ((fx_in32 u1) ∧ (fx_in32 u0)) ∧ (u1 ≠ u0 → ((fx_in32 v6)) ∧ ((fx_in32 v3)) ∧ wp kc (d + 1) 220 8 [some (jR 133), none, some (jI v2), some (jI (if v3 < v6 then (v6 : Int) else v3)), some (jI v4), some (jI (v5 + 1)), none] [] M Q) ∧ (u1 = u0 → ((fx_in32 v4)) ∧ (v4 < 0 → ((fx_in32 v6)) ∧ ((fx_in32 v3)) ∧ wp kc (d + 1) 220 8 [some (jR 133), none, some (jI v2), some (jI (if v3 < v6 then (v6 : Int) else v3)), some (jI v5), some (jI (v5 + 1)), none] [] M Q) ∧ (0 ≤ v4 → wc kc d 221 [jI v4] M (fun v M1 => wp kc (d + 1) 220 50 [some (jR 133), none, some (jI v2), some (jI v3), some (jI v4), some (jI v5), some (jI v6)] (v.toList ++ [jI v6]) M1 Q)))) : wp kc (d + 1) 220 35 [some (jR 133), none, some (jI v2), some (jI v3), some (jI v4), some (jI v5), some (jI v6)] [jI u0, jI u1] M Q :=
  (x_cne c220_35 H.1.1 H.1.2 (fun h3 => (x_ild c220_60 rfl (x_ildn c220_62 rfl (have K : wp kc (d + 1) 220 72 [some (jR 133), none, some (jI v2), none, some (jI v4), some (jI v5), none] [jI (if v3 < v6 then (v6 : Int) else v3)] M Q := (x_istn (l' := [some (jR 133), none, some (jI v2), some (jI (if v3 < v6 then (v6 : Int) else v3)), some (jI v4), some (jI v5), none]) c220_72 rfl (x_inc (l' := [some (jR 133), none, some (jI v2), some (jI (if v3 < v6 then (v6 : Int) else v3)), some (jI v4), some (jI (v5 + 1)), none]) c220_73 rfl rfl (x_goto c220_76 (wp_wk (l' := [some (jR 133), none, some (jI v2), some (jI (if v3 < v6 then (v6 : Int) else v3)), some (jI v4), some (jI (v5 + 1)), none]) ⟨rfl, ⟨rfl, ⟨rfl, ⟨rfl, ⟨rfl, trivial⟩⟩⟩⟩⟩ (H.2.1 h3).2.2)))); (x_cle c220_63 (H.2.1 h3).1 (H.2.1 h3).2.1 (fun (h5 : v6 ≤ v3) => (x_ildn c220_71 rfl (wp_wk (l' := [some (jR 133), none, some (jI v2), none, some (jI v4), some (jI v5), none]) ⟨rfl, ⟨rfl, ⟨rfl, ⟨rfl, trivial⟩⟩⟩⟩ (by have K := K; first | (simp only [if_neg (Int.not_lt.mpr h5)] at K ⊢; exact K) | (exfalso; omega))))) (fun (h6 : v3 < v6) => (x_ild c220_66 rfl (x_goto c220_68 (wp_wk (l' := [some (jR 133), none, some (jI v2), none, some (jI v4), some (jI v5), none]) ⟨rfl, ⟨rfl, ⟨rfl, ⟨rfl, trivial⟩⟩⟩⟩ (by have K := K; first | (simp only [if_pos h6] at K ⊢; exact K) | (exfalso; omega))))))))))) (fun h4 => (x_ild c220_38 rfl (x_zlt c220_40 (H.2.2 h4).1 (fun h1 => (x_ild c220_56 rfl (x_ist (l' := [some (jR 133), none, some (jI v2), some (jI v3), some (jI v5), some (jI v5), some (jI v6)]) c220_58 rfl (x_ild c220_60 rfl (x_ildn c220_62 rfl (have K : wp kc (d + 1) 220 72 [some (jR 133), none, some (jI v2), none, some (jI v5), some (jI v5), none] [jI (if v3 < v6 then (v6 : Int) else v3)] M Q := (x_istn (l' := [some (jR 133), none, some (jI v2), some (jI (if v3 < v6 then (v6 : Int) else v3)), some (jI v5), some (jI v5), none]) c220_72 rfl (x_inc (l' := [some (jR 133), none, some (jI v2), some (jI (if v3 < v6 then (v6 : Int) else v3)), some (jI v5), some (jI (v5 + 1)), none]) c220_73 rfl rfl (x_goto c220_76 (wp_wk (l' := [some (jR 133), none, some (jI v2), some (jI (if v3 < v6 then (v6 : Int) else v3)), some (jI v5), some (jI (v5 + 1)), none]) ⟨rfl, ⟨rfl, ⟨rfl, ⟨rfl, ⟨rfl, trivial⟩⟩⟩⟩⟩ ((H.2.2 h4).2.1 h1).2.2)))); (x_cle c220_63 ((H.2.2 h4).2.1 h1).1 ((H.2.2 h4).2.1 h1).2.1 (fun (h7 : v6 ≤ v3) => (x_ildn c220_71 rfl (wp_wk (l' := [some (jR 133), none, some (jI v2), none, some (jI v5), some (jI v5), none]) ⟨rfl, ⟨rfl, ⟨rfl, ⟨rfl, trivial⟩⟩⟩⟩ (by have K := K; first | (simp only [if_neg (Int.not_lt.mpr h7)] at K ⊢; exact K) | (exfalso; omega))))) (fun (h8 : v3 < v6) => (x_ild c220_66 rfl (x_goto c220_68 (wp_wk (l' := [some (jR 133), none, some (jI v2), none, some (jI v5), some (jI v5), none]) ⟨rfl, ⟨rfl, ⟨rfl, ⟨rfl, trivial⟩⟩⟩⟩ (by have K := K; first | (simp only [if_pos h8] at K ⊢; exact K) | (exfalso; omega))))))))))))) (fun h2 => (x_ild c220_43 rfl (x_ild c220_45 rfl (wp_wk (l' := [some (jR 133), none, some (jI v2), some (jI v3), some (jI v4), some (jI v5), some (jI v6)]) ⟨rfl, ⟨rfl, ⟨rfl, ⟨rfl, ⟨rfl, ⟨rfl, trivial⟩⟩⟩⟩⟩⟩ (x_cs (As := [jI v4]) (st := [jI v6]) c220_47 (by decide) rfl (Nat.le_of_ble_eq_true rfl) mx221 (Nat.le_refl _) ((H.2.2 h4).2.2 h2))))))))))
theorem s220_50 {kc : List va_E} {d : Nat} {v2 v3 v4 v5 v6 u0 u1 : Int} {M : fx_M} {Q : Option fx_V → fx_M → Prop} (H : wc kc d 223 [jL u0] M (fun v M1 => wp kc (d + 1) 220 53 [some (jR 133), none, some (jI v2), some (jI v3), some (jI v4), some (jI v5), some (jI v6)] (v.toList ++ [jI u1]) M1 Q)) : wp kc (d + 1) 220 50 [some (jR 133), none, some (jI v2), some (jI v3), some (jI v4), some (jI v5), some (jI v6)] [jL u0, jI u1] M Q :=
  (wp_wk (l' := [some (jR 133), none, some (jI v2), some (jI v3), some (jI v4), some (jI v5), some (jI v6)]) ⟨rfl, ⟨rfl, ⟨rfl, ⟨rfl, ⟨rfl, ⟨rfl, trivial⟩⟩⟩⟩⟩⟩ (x_cs (As := [jL u0]) (st := [jI u1]) c220_50 (by decide) rfl (Nat.le_of_ble_eq_true rfl) mx223 (Nat.le_refl _) H))
theorem s220_53 {kc : List va_E} {d : Nat} {v2 v3 v4 v5 v6 u0 u1 : Int} {M : fx_M} {Q : Option fx_V → fx_M → Prop} (H : ((fx_in32 u1)) ∧ ((fx_in32 u0)) ∧ ((fx_in32 v6)) ∧ ((fx_in32 v3)) ∧ wp kc (d + 1) 220 8 [some (jR 133), none, some (jI v2), some (jI (if v3 < v6 then (v6 : Int) else v3)), some (jI (if u0 < u1 then (v5 : Int) else v4)), some (jI (v5 + 1)), none] [] M Q) : wp kc (d + 1) 220 53 [some (jR 133), none, some (jI v2), some (jI v3), some (jI v4), some (jI v5), some (jI v6)] [jI u0, jI u1] M Q :=
  (have K : wp kc (d + 1) 220 60 [some (jR 133), none, some (jI v2), some (jI v3), some (jI (if u0 < u1 then (v5 : Int) else v4)), some (jI v5), some (jI v6)] [] M Q := (x_ild c220_60 rfl (x_ildn c220_62 rfl (have K : wp kc (d + 1) 220 72 [some (jR 133), none, some (jI v2), none, some (jI (if u0 < u1 then (v5 : Int) else v4)), some (jI v5), none] [jI (if v3 < v6 then (v6 : Int) else v3)] M Q := (x_istn (l' := [some (jR 133), none, some (jI v2), some (jI (if v3 < v6 then (v6 : Int) else v3)), some (jI (if u0 < u1 then (v5 : Int) else v4)), some (jI v5), none]) c220_72 rfl (x_inc (l' := [some (jR 133), none, some (jI v2), some (jI (if v3 < v6 then (v6 : Int) else v3)), some (jI (if u0 < u1 then (v5 : Int) else v4)), some (jI (v5 + 1)), none]) c220_73 rfl rfl (x_goto c220_76 (wp_wk (l' := [some (jR 133), none, some (jI v2), some (jI (if v3 < v6 then (v6 : Int) else v3)), some (jI (if u0 < u1 then (v5 : Int) else v4)), some (jI (v5 + 1)), none]) ⟨rfl, ⟨rfl, ⟨rfl, ⟨rfl, ⟨rfl, trivial⟩⟩⟩⟩⟩ H.2.2.2.2)))); (x_cle c220_63 H.2.2.1 H.2.2.2.1 (fun (h3 : v6 ≤ v3) => (x_ildn c220_71 rfl (wp_wk (l' := [some (jR 133), none, some (jI v2), none, some (jI (if u0 < u1 then (v5 : Int) else v4)), some (jI v5), none]) ⟨rfl, ⟨rfl, ⟨rfl, ⟨rfl, trivial⟩⟩⟩⟩ (by have K := K; first | (simp only [if_neg (Int.not_lt.mpr h3)] at K ⊢; exact K) | (exfalso; omega))))) (fun (h4 : v3 < v6) => (x_ild c220_66 rfl (x_goto c220_68 (wp_wk (l' := [some (jR 133), none, some (jI v2), none, some (jI (if u0 < u1 then (v5 : Int) else v4)), some (jI v5), none]) ⟨rfl, ⟨rfl, ⟨rfl, ⟨rfl, trivial⟩⟩⟩⟩ (by have K := K; first | (simp only [if_pos h4] at K ⊢; exact K) | (exfalso; omega)))))))))); (x_cle c220_53 H.1 H.2.1 (fun (h1 : u1 ≤ u0) => (wp_wk (l' := [some (jR 133), none, some (jI v2), some (jI v3), some (jI v4), some (jI v5), some (jI v6)]) ⟨rfl, ⟨rfl, ⟨rfl, ⟨rfl, ⟨rfl, ⟨rfl, trivial⟩⟩⟩⟩⟩⟩ (by have K := K; first | (simp only [if_neg (Int.not_lt.mpr h1)] at K ⊢; exact K) | (exfalso; omega)))) (fun (h2 : u0 < u1) => (x_ild c220_56 rfl (x_ist (l' := [some (jR 133), none, some (jI v2), some (jI v3), some (jI v5), some (jI v5), some (jI v6)]) c220_58 rfl (wp_wk (l' := [some (jR 133), none, some (jI v2), some (jI v3), some (jI v5), some (jI v5), some (jI v6)]) ⟨rfl, ⟨rfl, ⟨rfl, ⟨rfl, ⟨rfl, ⟨rfl, trivial⟩⟩⟩⟩⟩⟩ (by have K := K; first | (simp only [if_pos h2] at K ⊢; exact K) | (exfalso; omega))))))))
theorem s220_98 {kc : List va_E} {d : Nat} {v4 u0 u1 : Int} {M : fx_M} {Q : Option fx_V → fx_M → Prop} (H : wc kc d 223 [jL u0] M (fun v M1 => wp kc (d + 1) 220 101 [none, none, none, none, some (jI v4), none, none] (v.toList ++ [jI u1, jR 133]) M1 Q)) : wp kc (d + 1) 220 98 [none, none, none, none, some (jI v4), none, none] [jL u0, jI u1, jR 133] M Q :=
  (wp_wk (l' := [none, none, none, none, some (jI v4), none, none]) ⟨rfl, trivial⟩ (x_cs (As := [jL u0]) (st := [jI u1, jR 133]) c220_98 (by decide) rfl (Nat.le_of_ble_eq_true rfl) mx223 (Nat.le_refl _) H))
theorem s220_101 {kc : List va_E} {d : Nat} {v4 u0 u1 : Int} {M : fx_M} {Q : Option fx_V → fx_M → Prop} (H : Q (some (jI v4)) (fx_up M 133 7 (u1 + u0))) : wp kc (d + 1) 220 101 [none, none, none, none, some (jI v4), none, none] [jI u0, jI u1, jR 133] M Q :=
  (x_iadd c220_101 (x_pfi c220_102 k_133_7 (x_ild c220_105 rfl (x_irt c220_107 r220 H))))
theorem s220 {kc : List va_E} {d : Nat} {x1 x2 : Int} {M : fx_M} {Q : Option fx_V → fx_M → Prop} (H : wp kc (d + 1) 220 8 [some (jR 133), none, some (jI x2), some (jI 0), some (jI (-1)), some (jI x1), none] [] M Q) : wc kc (d + 1) 220 [jR 133, jI x1, jI x2] M Q :=
  wc_of (wp_wk (l' := [some (jR 133), some (jI x1), some (jI x2), none, none, none, none]) ⟨rfl, ⟨rfl, ⟨rfl, trivial⟩⟩⟩ (s220_0 H))

/- PuzzleHouseModel.word(I)J -/
theorem c221_0 : fx_op 221 0 = some (.iload_n 0, 1, 0) := by decide +kernel
theorem c221_240 : fx_cj 221 240 = some (7234935, 243) := by decide +kernel
theorem c221_244 : fx_cj 221 244 = some (1920298085, 247) := by decide +kernel
theorem c221_248 : fx_cj 221 248 = some (1700881256, 251) := by decide +kernel
theorem c221_252 : fx_cj 221 252 = some (1734964837, 255) := by decide +kernel
theorem c221_256 : fx_cj 221 256 = some (1685221232, 259) := by decide +kernel
theorem c221_260 : fx_cj 221 260 = some (1952807028, 263) := by decide +kernel
theorem c221_264 : fx_cj 221 264 = some (1819238756, 267) := by decide +kernel
theorem c221_268 : fx_cj 221 268 = some (27424514944365171, 271) := by decide +kernel
theorem c221_272 : fx_cj 221 272 = some (1835101817, 275) := by decide +kernel
theorem c221_276 : fx_cj 221 276 = some (1885954923, 279) := by decide +kernel
theorem c221_280 : fx_cj 221 280 = some (482956244581, 283) := by decide +kernel
theorem c221_284 : fx_cj 221 284 = some (426953237355, 287) := by decide +kernel
theorem c221_288 : fx_cj 221 288 = some (444300616805, 291) := by decide +kernel
theorem c221_292 : fx_cj 221 292 = some (1751740020, 295) := by decide +kernel
theorem c221_296 : fx_cj 221 296 = some (1937007984, 299) := by decide +kernel
theorem c221_300 : fx_cj 221 300 = some (495790618213, 303) := by decide +kernel
theorem c221_304 : fx_cj 221 304 = some (499917087592, 307) := by decide +kernel
theorem c221_308 : fx_cj 221 308 = some (427020088168, 311) := by decide +kernel
theorem c221_312 : fx_cj 221 312 = some (465557353332, 315) := by decide +kernel
theorem c221_316 : fx_cj 221 316 = some (1835101029, 319) := by decide +kernel
theorem c221_320 : fx_cj 221 320 = some (1718579821, 323) := by decide +kernel
theorem c221_324 : fx_cj 221 324 = some (1986097785, 327) := by decide +kernel
theorem c221_328 : fx_cj 221 328 = some (1718185572, 331) := by decide +kernel
theorem c221_332 : fx_cj 221 332 = some (427071792498, 335) := by decide +kernel
theorem c221_336 : fx_cj 221 336 = some (108170671449444, 339) := by decide +kernel
theorem c221_340 : fx_cj 221 340 = some (123581014175598, 343) := by decide +kernel
theorem c221_344 : fx_cj 221 344 = some (7370100, 347) := by decide +kernel
theorem c221_348 : fx_cj 221 348 = some (1970168943, 351) := by decide +kernel
theorem c221_352 : fx_cj 221 352 = some (1919247471, 355) := by decide +kernel
theorem c221_356 : fx_cj 221 356 = some (495873782885, 359) := by decide +kernel
theorem c221_360 : fx_cj 221 360 = some (1835102827, 363) := by decide +kernel
theorem c221_364 : fx_cj 221 364 = some (469786323827, 367) := by decide +kernel
theorem c221_368 : fx_cj 221 368 = some (513021013607, 371) := by decide +kernel
theorem c221_372 : fx_cj 221 372 = some (27988542884246388, 375) := by decide +kernel
theorem c221_376 : fx_cj 221 376 = some (7562612, 379) := by decide +kernel
theorem c221_380 : fx_cj 221 380 = some (126947999705460, 383) := by decide +kernel
theorem c221_384 : fx_cj 221 384 = some (499850046565, 387) := by decide +kernel
theorem c221_388 : fx_cj 221 388 = some (1801807216, 391) := by decide +kernel
theorem c221_392 : fx_cj 221 392 = some (1869636974, 395) := by decide +kernel
theorem c221_396 : fx_cj 221 396 = some (125779953284709, 399) := by decide +kernel
theorem c221_400 : fx_cj 221 400 = some (1818850164, 403) := by decide +kernel
theorem c221_404 : fx_cj 221 404 = some (6518132, 407) := by decide +kernel
theorem c221_408 : fx_cj 221 408 = some (1835363940, 411) := by decide +kernel
theorem c221_412 : fx_cj 221 412 = some (111567956832884, 415) := by decide +kernel
theorem c221_416 : fx_cj 221 416 = some (115918758703732, 419) := by decide +kernel
theorem c221_420 : fx_cj 221 420 = some (129117125700453, 423) := by decide +kernel
theorem c221_424 : fx_cj 221 424 = some (418430675813, 427) := by decide +kernel
theorem c221_428 : fx_cj 221 428 = some (117026742756708, 431) := by decide +kernel
theorem c221_432 : fx_cj 221 432 = some (1919513445, 435) := by decide +kernel
theorem c221_436 : fx_cj 221 436 = some (7566701, 439) := by decide +kernel
theorem c221_440 : fx_cj 221 440 = some (427071729268, 443) := by decide +kernel
theorem c221_444 : fx_cj 221 444 = some (418497262196, 447) := by decide +kernel
theorem c221_448 : fx_cj 221 448 = some (1936024942, 451) := by decide +kernel
theorem c221_452 : fx_cj 221 452 = some (7499639, 455) := by decide +kernel
theorem c221_456 : fx_cj 221 456 = some (109330212154734, 459) := by decide +kernel
theorem c221_460 : fx_cj 221 460 = some (1885432178, 463) := by decide +kernel
theorem c221_464 : fx_cj 221 464 = some (1651470187, 467) := by decide +kernel
theorem c221_243 : fx_op 221 243 = some (.lreturn, 244, 243) := by decide +kernel
theorem c221_247 : fx_op 221 247 = some (.lreturn, 248, 247) := by decide +kernel
theorem c221_251 : fx_op 221 251 = some (.lreturn, 252, 251) := by decide +kernel
theorem c221_255 : fx_op 221 255 = some (.lreturn, 256, 255) := by decide +kernel
theorem c221_259 : fx_op 221 259 = some (.lreturn, 260, 259) := by decide +kernel
theorem c221_263 : fx_op 221 263 = some (.lreturn, 264, 263) := by decide +kernel
theorem c221_267 : fx_op 221 267 = some (.lreturn, 268, 267) := by decide +kernel
theorem c221_271 : fx_op 221 271 = some (.lreturn, 272, 271) := by decide +kernel
theorem c221_275 : fx_op 221 275 = some (.lreturn, 276, 275) := by decide +kernel
theorem c221_279 : fx_op 221 279 = some (.lreturn, 280, 279) := by decide +kernel
theorem c221_283 : fx_op 221 283 = some (.lreturn, 284, 283) := by decide +kernel
theorem c221_287 : fx_op 221 287 = some (.lreturn, 288, 287) := by decide +kernel
theorem c221_291 : fx_op 221 291 = some (.lreturn, 292, 291) := by decide +kernel
theorem c221_295 : fx_op 221 295 = some (.lreturn, 296, 295) := by decide +kernel
theorem c221_299 : fx_op 221 299 = some (.lreturn, 300, 299) := by decide +kernel
theorem c221_303 : fx_op 221 303 = some (.lreturn, 304, 303) := by decide +kernel
theorem c221_307 : fx_op 221 307 = some (.lreturn, 308, 307) := by decide +kernel
theorem c221_311 : fx_op 221 311 = some (.lreturn, 312, 311) := by decide +kernel
theorem c221_315 : fx_op 221 315 = some (.lreturn, 316, 315) := by decide +kernel
theorem c221_319 : fx_op 221 319 = some (.lreturn, 320, 319) := by decide +kernel
theorem c221_323 : fx_op 221 323 = some (.lreturn, 324, 323) := by decide +kernel
theorem c221_327 : fx_op 221 327 = some (.lreturn, 328, 327) := by decide +kernel
theorem c221_331 : fx_op 221 331 = some (.lreturn, 332, 331) := by decide +kernel
theorem c221_335 : fx_op 221 335 = some (.lreturn, 336, 335) := by decide +kernel
theorem c221_339 : fx_op 221 339 = some (.lreturn, 340, 339) := by decide +kernel
theorem c221_343 : fx_op 221 343 = some (.lreturn, 344, 343) := by decide +kernel
theorem c221_347 : fx_op 221 347 = some (.lreturn, 348, 347) := by decide +kernel
theorem c221_351 : fx_op 221 351 = some (.lreturn, 352, 351) := by decide +kernel
theorem c221_355 : fx_op 221 355 = some (.lreturn, 356, 355) := by decide +kernel
theorem c221_359 : fx_op 221 359 = some (.lreturn, 360, 359) := by decide +kernel
theorem c221_363 : fx_op 221 363 = some (.lreturn, 364, 363) := by decide +kernel
theorem c221_367 : fx_op 221 367 = some (.lreturn, 368, 367) := by decide +kernel
theorem c221_371 : fx_op 221 371 = some (.lreturn, 372, 371) := by decide +kernel
theorem c221_375 : fx_op 221 375 = some (.lreturn, 376, 375) := by decide +kernel
theorem c221_379 : fx_op 221 379 = some (.lreturn, 380, 379) := by decide +kernel
theorem c221_383 : fx_op 221 383 = some (.lreturn, 384, 383) := by decide +kernel
theorem c221_387 : fx_op 221 387 = some (.lreturn, 388, 387) := by decide +kernel
theorem c221_391 : fx_op 221 391 = some (.lreturn, 392, 391) := by decide +kernel
theorem c221_395 : fx_op 221 395 = some (.lreturn, 396, 395) := by decide +kernel
theorem c221_399 : fx_op 221 399 = some (.lreturn, 400, 399) := by decide +kernel
theorem c221_403 : fx_op 221 403 = some (.lreturn, 404, 403) := by decide +kernel
theorem c221_407 : fx_op 221 407 = some (.lreturn, 408, 407) := by decide +kernel
theorem c221_411 : fx_op 221 411 = some (.lreturn, 412, 411) := by decide +kernel
theorem c221_415 : fx_op 221 415 = some (.lreturn, 416, 415) := by decide +kernel
theorem c221_419 : fx_op 221 419 = some (.lreturn, 420, 419) := by decide +kernel
theorem c221_423 : fx_op 221 423 = some (.lreturn, 424, 423) := by decide +kernel
theorem c221_427 : fx_op 221 427 = some (.lreturn, 428, 427) := by decide +kernel
theorem c221_431 : fx_op 221 431 = some (.lreturn, 432, 431) := by decide +kernel
theorem c221_435 : fx_op 221 435 = some (.lreturn, 436, 435) := by decide +kernel
theorem c221_439 : fx_op 221 439 = some (.lreturn, 440, 439) := by decide +kernel
theorem c221_443 : fx_op 221 443 = some (.lreturn, 444, 443) := by decide +kernel
theorem c221_447 : fx_op 221 447 = some (.lreturn, 448, 447) := by decide +kernel
theorem c221_451 : fx_op 221 451 = some (.lreturn, 452, 451) := by decide +kernel
theorem c221_455 : fx_op 221 455 = some (.lreturn, 456, 455) := by decide +kernel
theorem c221_459 : fx_op 221 459 = some (.lreturn, 460, 459) := by decide +kernel
theorem c221_463 : fx_op 221 463 = some (.lreturn, 464, 463) := by decide +kernel
theorem c221_1 : fx_ts 221 1 = some (0, [240, 244, 248, 252, 256, 260, 264, 268, 272, 276, 280, 284, 288, 292, 296, 300, 304, 308, 312, 316, 320, 324, 328, 332, 336, 340, 344, 348, 352, 356, 360, 364, 368, 372, 376, 380, 384, 388, 392, 396, 400, 404, 408, 412, 416, 420, 424, 428, 432, 436, 440, 444, 448, 452, 456, 460], 464) := by decide +kernel
theorem c221_467 : fx_op 221 467 = some (.lreturn, 468, 467) := by decide +kernel
theorem s221_0 {kc : List va_E} {d : Nat} {x0 : Int} {M : fx_M} {Q : Option fx_V → fx_M → Prop} (H : fx_in32 x0 ∧ (x0 = 0 → Q (some (jL 7234935)) M) ∧ (x0 = 1 → Q (some (jL 1920298085)) M) ∧ (x0 = 2 → Q (some (jL 1700881256)) M) ∧ (x0 = 3 → Q (some (jL 1734964837)) M) ∧ (x0 = 4 → Q (some (jL 1685221232)) M) ∧ (x0 = 5 → Q (some (jL 1952807028)) M) ∧ (x0 = 6 → Q (some (jL 1819238756)) M) ∧ (x0 = 7 → Q (some (jL 27424514944365171)) M) ∧ (x0 = 8 → Q (some (jL 1835101817)) M) ∧ (x0 = 9 → Q (some (jL 1885954923)) M) ∧ (x0 = 10 → Q (some (jL 482956244581)) M) ∧ (x0 = 11 → Q (some (jL 426953237355)) M) ∧ (x0 = 12 → Q (some (jL 444300616805)) M) ∧ (x0 = 13 → Q (some (jL 1751740020)) M) ∧ (x0 = 14 → Q (some (jL 1937007984)) M) ∧ (x0 = 15 → Q (some (jL 495790618213)) M) ∧ (x0 = 16 → Q (some (jL 499917087592)) M) ∧ (x0 = 17 → Q (some (jL 427020088168)) M) ∧ (x0 = 18 → Q (some (jL 465557353332)) M) ∧ (x0 = 19 → Q (some (jL 1835101029)) M) ∧ (x0 = 20 → Q (some (jL 1718579821)) M) ∧ (x0 = 21 → Q (some (jL 1986097785)) M) ∧ (x0 = 22 → Q (some (jL 1718185572)) M) ∧ (x0 = 23 → Q (some (jL 427071792498)) M) ∧ (x0 = 24 → Q (some (jL 108170671449444)) M) ∧ (x0 = 25 → Q (some (jL 123581014175598)) M) ∧ (x0 = 26 → Q (some (jL 7370100)) M) ∧ (x0 = 27 → Q (some (jL 1970168943)) M) ∧ (x0 = 28 → Q (some (jL 1919247471)) M) ∧ (x0 = 29 → Q (some (jL 495873782885)) M) ∧ (x0 = 30 → Q (some (jL 1835102827)) M) ∧ (x0 = 31 → Q (some (jL 469786323827)) M) ∧ (x0 = 32 → Q (some (jL 513021013607)) M) ∧ (x0 = 33 → Q (some (jL 27988542884246388)) M) ∧ (x0 = 34 → Q (some (jL 7562612)) M) ∧ (x0 = 35 → Q (some (jL 126947999705460)) M) ∧ (x0 = 36 → Q (some (jL 499850046565)) M) ∧ (x0 = 37 → Q (some (jL 1801807216)) M) ∧ (x0 = 38 → Q (some (jL 1869636974)) M) ∧ (x0 = 39 → Q (some (jL 125779953284709)) M) ∧ (x0 = 40 → Q (some (jL 1818850164)) M) ∧ (x0 = 41 → Q (some (jL 6518132)) M) ∧ (x0 = 42 → Q (some (jL 1835363940)) M) ∧ (x0 = 43 → Q (some (jL 111567956832884)) M) ∧ (x0 = 44 → Q (some (jL 115918758703732)) M) ∧ (x0 = 45 → Q (some (jL 129117125700453)) M) ∧ (x0 = 46 → Q (some (jL 418430675813)) M) ∧ (x0 = 47 → Q (some (jL 117026742756708)) M) ∧ (x0 = 48 → Q (some (jL 1919513445)) M) ∧ (x0 = 49 → Q (some (jL 7566701)) M) ∧ (x0 = 50 → Q (some (jL 427071729268)) M) ∧ (x0 = 51 → Q (some (jL 418497262196)) M) ∧ (x0 = 52 → Q (some (jL 1936024942)) M) ∧ (x0 = 53 → Q (some (jL 7499639)) M) ∧ (x0 = 54 → Q (some (jL 109330212154734)) M) ∧ (x0 = 55 → Q (some (jL 1885432178)) M) ∧ ((x0 < 0 ∨ 56 ≤ x0) → Q (some (jL 1651470187)) M)) : wp kc (d + 1) 221 0 [some (jI x0)] [] M Q :=
  (x_ildn c221_0 rfl (x_sw c221_1 H.1 ⟨fun h1 => (x_cj c221_240 (x_lrt c221_243 r221 (H.2.1 h1))), ⟨fun h2 => (x_cj c221_244 (x_lrt c221_247 r221 (H.2.2.1 h2))), ⟨fun h3 => (x_cj c221_248 (x_lrt c221_251 r221 (H.2.2.2.1 h3))), ⟨fun h4 => (x_cj c221_252 (x_lrt c221_255 r221 (H.2.2.2.2.1 h4))), ⟨fun h5 => (x_cj c221_256 (x_lrt c221_259 r221 (H.2.2.2.2.2.1 h5))), ⟨fun h6 => (x_cj c221_260 (x_lrt c221_263 r221 (H.2.2.2.2.2.2.1 h6))), ⟨fun h7 => (x_cj c221_264 (x_lrt c221_267 r221 (H.2.2.2.2.2.2.2.1 h7))), ⟨fun h8 => (x_cj c221_268 (x_lrt c221_271 r221 (H.2.2.2.2.2.2.2.2.1 h8))), ⟨fun h9 => (x_cj c221_272 (x_lrt c221_275 r221 (H.2.2.2.2.2.2.2.2.2.1 h9))), ⟨fun h10 => (x_cj c221_276 (x_lrt c221_279 r221 (H.2.2.2.2.2.2.2.2.2.2.1 h10))), ⟨fun h11 => (x_cj c221_280 (x_lrt c221_283 r221 (H.2.2.2.2.2.2.2.2.2.2.2.1 h11))), ⟨fun h12 => (x_cj c221_284 (x_lrt c221_287 r221 (H.2.2.2.2.2.2.2.2.2.2.2.2.1 h12))), ⟨fun h13 => (x_cj c221_288 (x_lrt c221_291 r221 (H.2.2.2.2.2.2.2.2.2.2.2.2.2.1 h13))), ⟨fun h14 => (x_cj c221_292 (x_lrt c221_295 r221 (H.2.2.2.2.2.2.2.2.2.2.2.2.2.2.1 h14))), ⟨fun h15 => (x_cj c221_296 (x_lrt c221_299 r221 (H.2.2.2.2.2.2.2.2.2.2.2.2.2.2.2.1 h15))), ⟨fun h16 => (x_cj c221_300 (x_lrt c221_303 r221 (H.2.2.2.2.2.2.2.2.2.2.2.2.2.2.2.2.1 h16))), ⟨fun h17 => (x_cj c221_304 (x_lrt c221_307 r221 (H.2.2.2.2.2.2.2.2.2.2.2.2.2.2.2.2.2.1 h17))), ⟨fun h18 => (x_cj c221_308 (x_lrt c221_311 r221 (H.2.2.2.2.2.2.2.2.2.2.2.2.2.2.2.2.2.2.1 h18))), ⟨fun h19 => (x_cj c221_312 (x_lrt c221_315 r221 (H.2.2.2.2.2.2.2.2.2.2.2.2.2.2.2.2.2.2.2.1 h19))), ⟨fun h20 => (x_cj c221_316 (x_lrt c221_319 r221 (H.2.2.2.2.2.2.2.2.2.2.2.2.2.2.2.2.2.2.2.2.1 h20))), ⟨fun h21 => (x_cj c221_320 (x_lrt c221_323 r221 (H.2.2.2.2.2.2.2.2.2.2.2.2.2.2.2.2.2.2.2.2.2.1 h21))), ⟨fun h22 => (x_cj c221_324 (x_lrt c221_327 r221 (H.2.2.2.2.2.2.2.2.2.2.2.2.2.2.2.2.2.2.2.2.2.2.1 h22))), ⟨fun h23 => (x_cj c221_328 (x_lrt c221_331 r221 (H.2.2.2.2.2.2.2.2.2.2.2.2.2.2.2.2.2.2.2.2.2.2.2.1 h23))), ⟨fun h24 => (x_cj c221_332 (x_lrt c221_335 r221 (H.2.2.2.2.2.2.2.2.2.2.2.2.2.2.2.2.2.2.2.2.2.2.2.2.1 h24))), ⟨fun h25 => (x_cj c221_336 (x_lrt c221_339 r221 (H.2.2.2.2.2.2.2.2.2.2.2.2.2.2.2.2.2.2.2.2.2.2.2.2.2.1 h25))), ⟨fun h26 => (x_cj c221_340 (x_lrt c221_343 r221 (H.2.2.2.2.2.2.2.2.2.2.2.2.2.2.2.2.2.2.2.2.2.2.2.2.2.2.1 h26))), ⟨fun h27 => (x_cj c221_344 (x_lrt c221_347 r221 (H.2.2.2.2.2.2.2.2.2.2.2.2.2.2.2.2.2.2.2.2.2.2.2.2.2.2.2.1 h27))), ⟨fun h28 => (x_cj c221_348 (x_lrt c221_351 r221 (H.2.2.2.2.2.2.2.2.2.2.2.2.2.2.2.2.2.2.2.2.2.2.2.2.2.2.2.2.1 h28))), ⟨fun h29 => (x_cj c221_352 (x_lrt c221_355 r221 (H.2.2.2.2.2.2.2.2.2.2.2.2.2.2.2.2.2.2.2.2.2.2.2.2.2.2.2.2.2.1 h29))), ⟨fun h30 => (x_cj c221_356 (x_lrt c221_359 r221 (H.2.2.2.2.2.2.2.2.2.2.2.2.2.2.2.2.2.2.2.2.2.2.2.2.2.2.2.2.2.2.1 h30))), ⟨fun h31 => (x_cj c221_360 (x_lrt c221_363 r221 (H.2.2.2.2.2.2.2.2.2.2.2.2.2.2.2.2.2.2.2.2.2.2.2.2.2.2.2.2.2.2.2.1 h31))), ⟨fun h32 => (x_cj c221_364 (x_lrt c221_367 r221 (H.2.2.2.2.2.2.2.2.2.2.2.2.2.2.2.2.2.2.2.2.2.2.2.2.2.2.2.2.2.2.2.2.1 h32))), ⟨fun h33 => (x_cj c221_368 (x_lrt c221_371 r221 (H.2.2.2.2.2.2.2.2.2.2.2.2.2.2.2.2.2.2.2.2.2.2.2.2.2.2.2.2.2.2.2.2.2.1 h33))), ⟨fun h34 => (x_cj c221_372 (x_lrt c221_375 r221 (H.2.2.2.2.2.2.2.2.2.2.2.2.2.2.2.2.2.2.2.2.2.2.2.2.2.2.2.2.2.2.2.2.2.2.1 h34))), ⟨fun h35 => (x_cj c221_376 (x_lrt c221_379 r221 (H.2.2.2.2.2.2.2.2.2.2.2.2.2.2.2.2.2.2.2.2.2.2.2.2.2.2.2.2.2.2.2.2.2.2.2.1 h35))), ⟨fun h36 => (x_cj c221_380 (x_lrt c221_383 r221 (H.2.2.2.2.2.2.2.2.2.2.2.2.2.2.2.2.2.2.2.2.2.2.2.2.2.2.2.2.2.2.2.2.2.2.2.2.1 h36))), ⟨fun h37 => (x_cj c221_384 (x_lrt c221_387 r221 (H.2.2.2.2.2.2.2.2.2.2.2.2.2.2.2.2.2.2.2.2.2.2.2.2.2.2.2.2.2.2.2.2.2.2.2.2.2.1 h37))), ⟨fun h38 => (x_cj c221_388 (x_lrt c221_391 r221 (H.2.2.2.2.2.2.2.2.2.2.2.2.2.2.2.2.2.2.2.2.2.2.2.2.2.2.2.2.2.2.2.2.2.2.2.2.2.2.1 h38))), ⟨fun h39 => (x_cj c221_392 (x_lrt c221_395 r221 (H.2.2.2.2.2.2.2.2.2.2.2.2.2.2.2.2.2.2.2.2.2.2.2.2.2.2.2.2.2.2.2.2.2.2.2.2.2.2.2.1 h39))), ⟨fun h40 => (x_cj c221_396 (x_lrt c221_399 r221 (H.2.2.2.2.2.2.2.2.2.2.2.2.2.2.2.2.2.2.2.2.2.2.2.2.2.2.2.2.2.2.2.2.2.2.2.2.2.2.2.2.1 h40))), ⟨fun h41 => (x_cj c221_400 (x_lrt c221_403 r221 (H.2.2.2.2.2.2.2.2.2.2.2.2.2.2.2.2.2.2.2.2.2.2.2.2.2.2.2.2.2.2.2.2.2.2.2.2.2.2.2.2.2.1 h41))), ⟨fun h42 => (x_cj c221_404 (x_lrt c221_407 r221 (H.2.2.2.2.2.2.2.2.2.2.2.2.2.2.2.2.2.2.2.2.2.2.2.2.2.2.2.2.2.2.2.2.2.2.2.2.2.2.2.2.2.2.1 h42))), ⟨fun h43 => (x_cj c221_408 (x_lrt c221_411 r221 (H.2.2.2.2.2.2.2.2.2.2.2.2.2.2.2.2.2.2.2.2.2.2.2.2.2.2.2.2.2.2.2.2.2.2.2.2.2.2.2.2.2.2.2.1 h43))), ⟨fun h44 => (x_cj c221_412 (x_lrt c221_415 r221 (H.2.2.2.2.2.2.2.2.2.2.2.2.2.2.2.2.2.2.2.2.2.2.2.2.2.2.2.2.2.2.2.2.2.2.2.2.2.2.2.2.2.2.2.2.1 h44))), ⟨fun h45 => (x_cj c221_416 (x_lrt c221_419 r221 (H.2.2.2.2.2.2.2.2.2.2.2.2.2.2.2.2.2.2.2.2.2.2.2.2.2.2.2.2.2.2.2.2.2.2.2.2.2.2.2.2.2.2.2.2.2.1 h45))), ⟨fun h46 => (x_cj c221_420 (x_lrt c221_423 r221 (H.2.2.2.2.2.2.2.2.2.2.2.2.2.2.2.2.2.2.2.2.2.2.2.2.2.2.2.2.2.2.2.2.2.2.2.2.2.2.2.2.2.2.2.2.2.2.1 h46))), ⟨fun h47 => (x_cj c221_424 (x_lrt c221_427 r221 (H.2.2.2.2.2.2.2.2.2.2.2.2.2.2.2.2.2.2.2.2.2.2.2.2.2.2.2.2.2.2.2.2.2.2.2.2.2.2.2.2.2.2.2.2.2.2.2.1 h47))), ⟨fun h48 => (x_cj c221_428 (x_lrt c221_431 r221 (H.2.2.2.2.2.2.2.2.2.2.2.2.2.2.2.2.2.2.2.2.2.2.2.2.2.2.2.2.2.2.2.2.2.2.2.2.2.2.2.2.2.2.2.2.2.2.2.2.1 h48))), ⟨fun h49 => (x_cj c221_432 (x_lrt c221_435 r221 (H.2.2.2.2.2.2.2.2.2.2.2.2.2.2.2.2.2.2.2.2.2.2.2.2.2.2.2.2.2.2.2.2.2.2.2.2.2.2.2.2.2.2.2.2.2.2.2.2.2.1 h49))), ⟨fun h50 => (x_cj c221_436 (x_lrt c221_439 r221 (H.2.2.2.2.2.2.2.2.2.2.2.2.2.2.2.2.2.2.2.2.2.2.2.2.2.2.2.2.2.2.2.2.2.2.2.2.2.2.2.2.2.2.2.2.2.2.2.2.2.2.1 h50))), ⟨fun h51 => (x_cj c221_440 (x_lrt c221_443 r221 (H.2.2.2.2.2.2.2.2.2.2.2.2.2.2.2.2.2.2.2.2.2.2.2.2.2.2.2.2.2.2.2.2.2.2.2.2.2.2.2.2.2.2.2.2.2.2.2.2.2.2.2.1 h51))), ⟨fun h52 => (x_cj c221_444 (x_lrt c221_447 r221 (H.2.2.2.2.2.2.2.2.2.2.2.2.2.2.2.2.2.2.2.2.2.2.2.2.2.2.2.2.2.2.2.2.2.2.2.2.2.2.2.2.2.2.2.2.2.2.2.2.2.2.2.2.1 h52))), ⟨fun h53 => (x_cj c221_448 (x_lrt c221_451 r221 (H.2.2.2.2.2.2.2.2.2.2.2.2.2.2.2.2.2.2.2.2.2.2.2.2.2.2.2.2.2.2.2.2.2.2.2.2.2.2.2.2.2.2.2.2.2.2.2.2.2.2.2.2.2.1 h53))), ⟨fun h54 => (x_cj c221_452 (x_lrt c221_455 r221 (H.2.2.2.2.2.2.2.2.2.2.2.2.2.2.2.2.2.2.2.2.2.2.2.2.2.2.2.2.2.2.2.2.2.2.2.2.2.2.2.2.2.2.2.2.2.2.2.2.2.2.2.2.2.2.1 h54))), ⟨fun h55 => (x_cj c221_456 (x_lrt c221_459 r221 (H.2.2.2.2.2.2.2.2.2.2.2.2.2.2.2.2.2.2.2.2.2.2.2.2.2.2.2.2.2.2.2.2.2.2.2.2.2.2.2.2.2.2.2.2.2.2.2.2.2.2.2.2.2.2.2.1 h55))), ⟨fun h56 => (x_cj c221_460 (x_lrt c221_463 r221 (H.2.2.2.2.2.2.2.2.2.2.2.2.2.2.2.2.2.2.2.2.2.2.2.2.2.2.2.2.2.2.2.2.2.2.2.2.2.2.2.2.2.2.2.2.2.2.2.2.2.2.2.2.2.2.2.2.1 h56))), trivial⟩⟩⟩⟩⟩⟩⟩⟩⟩⟩⟩⟩⟩⟩⟩⟩⟩⟩⟩⟩⟩⟩⟩⟩⟩⟩⟩⟩⟩⟩⟩⟩⟩⟩⟩⟩⟩⟩⟩⟩⟩⟩⟩⟩⟩⟩⟩⟩⟩⟩⟩⟩⟩⟩⟩⟩ (fun h57 => (x_cj c221_464 (x_lrt c221_467 r221 (H.2.2.2.2.2.2.2.2.2.2.2.2.2.2.2.2.2.2.2.2.2.2.2.2.2.2.2.2.2.2.2.2.2.2.2.2.2.2.2.2.2.2.2.2.2.2.2.2.2.2.2.2.2.2.2.2.2 h57))))))
theorem s221 {kc : List va_E} {d : Nat} {x0 : Int} {M : fx_M} {Q : Option fx_V → fx_M → Prop} (H : fx_in32 x0 ∧ (x0 = 0 → Q (some (jL 7234935)) M) ∧ (x0 = 1 → Q (some (jL 1920298085)) M) ∧ (x0 = 2 → Q (some (jL 1700881256)) M) ∧ (x0 = 3 → Q (some (jL 1734964837)) M) ∧ (x0 = 4 → Q (some (jL 1685221232)) M) ∧ (x0 = 5 → Q (some (jL 1952807028)) M) ∧ (x0 = 6 → Q (some (jL 1819238756)) M) ∧ (x0 = 7 → Q (some (jL 27424514944365171)) M) ∧ (x0 = 8 → Q (some (jL 1835101817)) M) ∧ (x0 = 9 → Q (some (jL 1885954923)) M) ∧ (x0 = 10 → Q (some (jL 482956244581)) M) ∧ (x0 = 11 → Q (some (jL 426953237355)) M) ∧ (x0 = 12 → Q (some (jL 444300616805)) M) ∧ (x0 = 13 → Q (some (jL 1751740020)) M) ∧ (x0 = 14 → Q (some (jL 1937007984)) M) ∧ (x0 = 15 → Q (some (jL 495790618213)) M) ∧ (x0 = 16 → Q (some (jL 499917087592)) M) ∧ (x0 = 17 → Q (some (jL 427020088168)) M) ∧ (x0 = 18 → Q (some (jL 465557353332)) M) ∧ (x0 = 19 → Q (some (jL 1835101029)) M) ∧ (x0 = 20 → Q (some (jL 1718579821)) M) ∧ (x0 = 21 → Q (some (jL 1986097785)) M) ∧ (x0 = 22 → Q (some (jL 1718185572)) M) ∧ (x0 = 23 → Q (some (jL 427071792498)) M) ∧ (x0 = 24 → Q (some (jL 108170671449444)) M) ∧ (x0 = 25 → Q (some (jL 123581014175598)) M) ∧ (x0 = 26 → Q (some (jL 7370100)) M) ∧ (x0 = 27 → Q (some (jL 1970168943)) M) ∧ (x0 = 28 → Q (some (jL 1919247471)) M) ∧ (x0 = 29 → Q (some (jL 495873782885)) M) ∧ (x0 = 30 → Q (some (jL 1835102827)) M) ∧ (x0 = 31 → Q (some (jL 469786323827)) M) ∧ (x0 = 32 → Q (some (jL 513021013607)) M) ∧ (x0 = 33 → Q (some (jL 27988542884246388)) M) ∧ (x0 = 34 → Q (some (jL 7562612)) M) ∧ (x0 = 35 → Q (some (jL 126947999705460)) M) ∧ (x0 = 36 → Q (some (jL 499850046565)) M) ∧ (x0 = 37 → Q (some (jL 1801807216)) M) ∧ (x0 = 38 → Q (some (jL 1869636974)) M) ∧ (x0 = 39 → Q (some (jL 125779953284709)) M) ∧ (x0 = 40 → Q (some (jL 1818850164)) M) ∧ (x0 = 41 → Q (some (jL 6518132)) M) ∧ (x0 = 42 → Q (some (jL 1835363940)) M) ∧ (x0 = 43 → Q (some (jL 111567956832884)) M) ∧ (x0 = 44 → Q (some (jL 115918758703732)) M) ∧ (x0 = 45 → Q (some (jL 129117125700453)) M) ∧ (x0 = 46 → Q (some (jL 418430675813)) M) ∧ (x0 = 47 → Q (some (jL 117026742756708)) M) ∧ (x0 = 48 → Q (some (jL 1919513445)) M) ∧ (x0 = 49 → Q (some (jL 7566701)) M) ∧ (x0 = 50 → Q (some (jL 427071729268)) M) ∧ (x0 = 51 → Q (some (jL 418497262196)) M) ∧ (x0 = 52 → Q (some (jL 1936024942)) M) ∧ (x0 = 53 → Q (some (jL 7499639)) M) ∧ (x0 = 54 → Q (some (jL 109330212154734)) M) ∧ (x0 = 55 → Q (some (jL 1885432178)) M) ∧ ((x0 < 0 ∨ 56 ≤ x0) → Q (some (jL 1651470187)) M)) : wc kc (d + 1) 221 [jI x0] M Q :=
  wc_of (wp_wk (l' := [some (jI x0)]) ⟨rfl, trivial⟩ (s221_0 H))

/- PuzzleHouseModel.lettersHere(J)I -/
theorem c222_0 : fx_ci 222 0 = some (0, 1) := by decide +kernel
theorem c222_1 : fx_op 222 1 = some (.istore_n 3, 2, 1) := by decide +kernel
theorem c222_2 : fx_op 222 2 = some (.iload_n 3, 3, 2) := by decide +kernel
theorem c222_3 : fx_op 222 3 = some (.lload_n 1, 4, 3) := by decide +kernel
theorem c222_4 : fx_ca 222 4 = some (223, 1, 0, 7) := by decide +kernel
theorem c222_7 : fx_op 222 7 = some (.if_icmp .ge 41, 10, 48) := by decide +kernel
theorem c222_10 : fx_op 222 10 = some (.aload_n 0, 11, 10) := by decide +kernel
theorem c222_11 : fx_gf 222 11 = some (12, 7, 14) := by decide +kernel
theorem c222_14 : fx_op 222 14 = some (.iload_n 3, 15, 14) := by decide +kernel
theorem c222_15 : fx_op 222 15 = some (.iadd, 16, 15) := by decide +kernel
theorem c222_16 : fx_op 222 16 = some (.aload_n 0, 17, 16) := by decide +kernel
theorem c222_17 : fx_gf 222 17 = some (12, 3, 20) := by decide +kernel
theorem c222_20 : fx_op 222 20 = some (.if_icmp .ge 28, 23, 48) := by decide +kernel
theorem c222_23 : fx_op 222 23 = some (.aload_n 0, 24, 23) := by decide +kernel
theorem c222_24 : fx_gf 222 24 = some (12, 4, 27) := by decide +kernel
theorem c222_27 : fx_op 222 27 = some (.aload_n 0, 28, 27) := by decide +kernel
theorem c222_28 : fx_gf 222 28 = some (12, 7, 31) := by decide +kernel
theorem c222_31 : fx_op 222 31 = some (.iload_n 3, 32, 31) := by decide +kernel
theorem c222_32 : fx_op 222 32 = some (.iadd, 33, 32) := by decide +kernel
theorem c222_33 : fx_op 222 33 = some (.iaload, 34, 33) := by decide +kernel
theorem c222_34 : fx_op 222 34 = some (.lload_n 1, 35, 34) := by decide +kernel
theorem c222_35 : fx_op 222 35 = some (.iload_n 3, 36, 35) := by decide +kernel
theorem c222_48 : fx_op 222 48 = some (.iload_n 3, 49, 48) := by decide +kernel
theorem c222_49 : fx_op 222 49 = some (.ireturn, 50, 49) := by decide +kernel
theorem c222_36 : fx_ca 222 36 = some (224, 2, 0, 39) := by decide +kernel
theorem c222_39 : fx_op 222 39 = some (.if_icmp .ne 9, 42, 48) := by decide +kernel
theorem c222_42 : fx_op 222 42 = some (.iinc 3 1, 45, 42) := by decide +kernel
theorem c222_45 : fx_op 222 45 = some (.goto (-43), 48, 2) := by decide +kernel
theorem s222_0 {kc : List va_E} {d : Nat} {x1 : Int} {M : fx_M} {Q : Option fx_V → fx_M → Prop} (H : wp kc (d + 1) 222 2 [some (jR 133), some (jL x1), none, some (jI 0)] [] M Q) : wp kc (d + 1) 222 0 [some (jR 133), some (jL x1), none, none] [] M Q :=
  (x_ci c222_0 (x_istn (l' := [some (jR 133), some (jL x1), none, some (jI 0)]) c222_1 rfl (wp_wk (l' := [some (jR 133), some (jL x1), none, some (jI 0)]) ⟨rfl, ⟨rfl, ⟨rfl, trivial⟩⟩⟩ H)))
theorem s222_2 {kc : List va_E} {d : Nat} {v1 v3 : Int} {M : fx_M} {Q : Option fx_V → fx_M → Prop} (H : wc kc d 223 [jL v1] M (fun v M1 => wp kc (d + 1) 222 7 [some (jR 133), some (jL v1), none, some (jI v3)] (v.toList ++ [jI v3]) M1 Q)) : wp kc (d + 1) 222 2 [some (jR 133), some (jL v1), none, some (jI v3)] [] M Q :=
  (x_ildn c222_2 rfl (x_lldn c222_3 rfl (wp_wk (l' := [some (jR 133), some (jL v1), none, some (jI v3)]) ⟨rfl, ⟨rfl, ⟨rfl, trivial⟩⟩⟩ (x_cs (As := [jL v1]) (st := [jI v3]) c222_4 (by decide) rfl (Nat.le_of_ble_eq_true rfl) mx223 (Nat.le_refl _) H))))
theorem s222_7 {kc : List va_E} {d : Nat} {v1 v3 u0 u1 : Int} {M : fx_M} {Q : Option fx_V → fx_M → Prop} (H : ((fx_in32 u1) ∧ (fx_in32 u0)) ∧ (u0 ≤ u1 → Q (some (jI v3)) M) ∧ (u1 < u0 → ((fx_in32 ((M 133 7) + v3)) ∧ (fx_in32 (M 133 3))) ∧ (M 133 3 ≤ (M 133 7) + v3 → Q (some (jI v3)) M) ∧ ((M 133 7) + v3 < M 133 3 → (((0 : Int) ≤ (M 133 7) + v3 ∧ (M 133 7) + v3 < 6100)) ∧ wc kc d 224 [jL v1, jI v3] M (fun v M1 => wp kc (d + 1) 222 39 [some (jR 133), some (jL v1), none, some (jI v3)] (v.toList ++ [jI (M 135 ((M 133 7) + v3))]) M1 Q)))) : wp kc (d + 1) 222 7 [some (jR 133), some (jL v1), none, some (jI v3)] [jI u0, jI u1] M Q :=
  (x_cge c222_7 H.1.1 H.1.2 (fun h3 => (x_ildn c222_48 rfl (x_irt c222_49 r222 (H.2.1 h3)))) (fun h4 => (x_aldn c222_10 rfl (x_gfi c222_11 k_133_7 (x_ildn c222_14 rfl (x_iadd c222_15 (x_aldn c222_16 rfl (x_gfi c222_17 k_133_3 (x_cge c222_20 (H.2.2 h4).1.1 (H.2.2 h4).1.2 (fun h1 => (x_ildn c222_48 rfl (x_irt c222_49 r222 ((H.2.2 h4).2.1 h1)))) (fun h2 => (x_aldn c222_23 rfl (x_gfr c222_24 k_133_4 (x_aldn c222_27 rfl (x_gfi c222_28 k_133_7 (x_ildn c222_31 rfl (x_iadd c222_32 (x_iald c222_33 a_135 ((H.2.2 h4).2.2 h2).1 (by decide) (x_lldn c222_34 rfl (x_ildn c222_35 rfl (wp_wk (l' := [some (jR 133), some (jL v1), none, some (jI v3)]) ⟨rfl, ⟨rfl, ⟨rfl, trivial⟩⟩⟩ (x_cs (As := [jL v1, jI v3]) (st := [jI (M 135 ((M 133 7) + v3))]) c222_36 (by decide) rfl (Nat.le_of_ble_eq_true rfl) mx224 (Nat.le_refl _) ((H.2.2 h4).2.2 h2).2)))))))))))))))))))))
theorem s222_39 {kc : List va_E} {d : Nat} {v1 v3 u0 u1 : Int} {M : fx_M} {Q : Option fx_V → fx_M → Prop} (H : ((fx_in32 u1) ∧ (fx_in32 u0)) ∧ (u1 ≠ u0 → Q (some (jI v3)) M) ∧ (u1 = u0 → wp kc (d + 1) 222 2 [some (jR 133), some (jL v1), none, some (jI (v3 + 1))] [] M Q)) : wp kc (d + 1) 222 39 [some (jR 133), some (jL v1), none, some (jI v3)] [jI u0, jI u1] M Q :=
  (x_cne c222_39 H.1.1 H.1.2 (fun h1 => (x_ildn c222_48 rfl (x_irt c222_49 r222 (H.2.1 h1)))) (fun h2 => (x_inc (l' := [some (jR 133), some (jL v1), none, some (jI (v3 + 1))]) c222_42 rfl rfl (x_goto c222_45 (wp_wk (l' := [some (jR 133), some (jL v1), none, some (jI (v3 + 1))]) ⟨rfl, ⟨rfl, ⟨rfl, trivial⟩⟩⟩ (H.2.2 h2))))))
theorem s222 {kc : List va_E} {d : Nat} {x1 : Int} {M : fx_M} {Q : Option fx_V → fx_M → Prop} (H : wp kc (d + 1) 222 2 [some (jR 133), some (jL x1), none, some (jI 0)] [] M Q) : wc kc (d + 1) 222 [jR 133, jL x1] M Q :=
  wc_of (wp_wk (l' := [some (jR 133), some (jL x1), none, none]) ⟨rfl, ⟨rfl, trivial⟩⟩ (s222_0 H))

/- PuzzleHouseModel.lengthOf(J)I -/
theorem c223_0 : fx_ci 223 0 = some (0, 1) := by decide +kernel
theorem c223_1 : fx_op 223 1 = some (.istore_n 2, 2, 1) := by decide +kernel
theorem c223_2 : fx_op 223 2 = some (.lload_n 0, 3, 2) := by decide +kernel
theorem c223_3 : fx_op 223 3 = some (.lstore_n 3, 4, 3) := by decide +kernel
theorem c223_4 : fx_op 223 4 = some (.lload_n 3, 5, 4) := by decide +kernel
theorem c223_5 : fx_cj 223 5 = some (0, 6) := by decide +kernel
theorem c223_7 : fx_op 223 7 = some (.ifCond .eq 14, 10, 21) := by decide +kernel
theorem c223_10 : fx_op 223 10 = some (.iinc 2 1, 13, 10) := by decide +kernel
theorem c223_13 : fx_op 223 13 = some (.lload_n 3, 14, 13) := by decide +kernel
theorem c223_14 : fx_ci 223 14 = some (8, 16) := by decide +kernel
theorem c223_16 : fx_op 223 16 = some (.lshr, 17, 16) := by decide +kernel
theorem c223_17 : fx_op 223 17 = some (.lstore_n 3, 18, 17) := by decide +kernel
theorem c223_21 : fx_op 223 21 = some (.iload_n 2, 22, 21) := by decide +kernel
theorem c223_6 : fx_op 223 6 = some (.lcmp, 7, 6) := by decide +kernel
theorem c223_22 : fx_op 223 22 = some (.ireturn, 23, 22) := by decide +kernel
theorem c223_18 : fx_op 223 18 = some (.goto (-14), 21, 4) := by decide +kernel
theorem s223_0 {kc : List va_E} {d : Nat} {x0 : Int} {M : fx_M} {Q : Option fx_V → fx_M → Prop} (H : wp kc (d + 1) 223 4 [none, none, some (jI 0), some (jL x0), none] [] M Q) : wp kc (d + 1) 223 0 [some (jL x0), none, none, none, none] [] M Q :=
  (x_ci c223_0 (x_istn (l' := [some (jL x0), none, some (jI 0), none, none]) c223_1 rfl (x_lldn c223_2 rfl (x_lstn (l' := [some (jL x0), none, some (jI 0), some (jL x0), none]) c223_3 rfl (wp_wk (l' := [none, none, some (jI 0), some (jL x0), none]) ⟨rfl, ⟨rfl, trivial⟩⟩ H)))))
theorem s223_4 {kc : List va_E} {d : Nat} {v2 v3 : Int} {M : fx_M} {Q : Option fx_V → fx_M → Prop} (H : ((fx_in64 v3)) ∧ (fx_cmp v3 0 = 0 → Q (some (jI v2)) M) ∧ (fx_cmp v3 0 ≠ 0 → wp kc (d + 1) 223 4 [none, none, some (jI (v2 + 1)), some (jL (fx_lshr v3 8)), none] [] M Q)) : wp kc (d + 1) 223 4 [none, none, some (jI v2), some (jL v3), none] [] M Q :=
  (x_lldn c223_4 rfl (x_cj c223_5 (x_lcmp c223_6 H.1 (by decide) (x_zeq c223_7 (fx_cmp_in _ _) (fun h1 => (x_ildn c223_21 rfl (x_irt c223_22 r223 (H.2.1 h1)))) (fun h2 => (x_inc (l' := [none, none, some (jI (v2 + 1)), some (jL v3), none]) c223_10 rfl rfl (x_lldn c223_13 rfl (x_ci c223_14 (x_lshr c223_16 (x_lstn (l' := [none, none, some (jI (v2 + 1)), some (jL (fx_lshr v3 8)), none]) c223_17 rfl (x_goto c223_18 (wp_wk (l' := [none, none, some (jI (v2 + 1)), some (jL (fx_lshr v3 8)), none]) ⟨rfl, ⟨rfl, trivial⟩⟩ (H.2.2 h2)))))))))))))
theorem s223 {kc : List va_E} {d : Nat} {x0 : Int} {M : fx_M} {Q : Option fx_V → fx_M → Prop} (H : wp kc (d + 1) 223 4 [none, none, some (jI 0), some (jL x0), none] [] M Q) : wc kc (d + 1) 223 [jL x0] M Q :=
  wc_of (wp_wk (l' := [some (jL x0), none, none, none, none]) ⟨rfl, trivial⟩ (s223_0 H))

/- PuzzleHouseModel.letterOf(JI)I -/
theorem c224_0 : fx_op 224 0 = some (.lload_n 0, 1, 0) := by decide +kernel
theorem c224_1 : fx_ci 224 1 = some (8, 3) := by decide +kernel
theorem c224_3 : fx_op 224 3 = some (.lload_n 0, 4, 3) := by decide +kernel
theorem c224_4 : fx_ca 224 4 = some (223, 1, 0, 7) := by decide +kernel
theorem c224_7 : fx_ci 224 7 = some (1, 8) := by decide +kernel
theorem c224_8 : fx_op 224 8 = some (.isub, 9, 8) := by decide +kernel
theorem c224_9 : fx_op 224 9 = some (.iload_n 2, 10, 9) := by decide +kernel
theorem c224_10 : fx_op 224 10 = some (.isub, 11, 10) := by decide +kernel
theorem c224_11 : fx_op 224 11 = some (.imul, 12, 11) := by decide +kernel
theorem c224_12 : fx_op 224 12 = some (.lshr, 13, 12) := by decide +kernel
theorem c224_13 : fx_cj 224 13 = some (255, 16) := by decide +kernel
theorem c224_16 : fx_op 224 16 = some (.land, 17, 16) := by decide +kernel
theorem c224_17 : fx_op 224 17 = some (.l2i, 18, 17) := by decide +kernel
theorem c224_18 : fx_op 224 18 = some (.ireturn, 19, 18) := by decide +kernel
theorem s224_0 {kc : List va_E} {d : Nat} {x0 x2 : Int} {M : fx_M} {Q : Option fx_V → fx_M → Prop} (H : wc kc d 223 [jL x0] M (fun v M1 => wp kc (d + 1) 224 7 [none, none, some (jI x2)] (v.toList ++ [jI 8, jL x0]) M1 Q)) : wp kc (d + 1) 224 0 [some (jL x0), none, some (jI x2)] [] M Q :=
  (x_lldn c224_0 rfl (x_ci c224_1 (x_lldn c224_3 rfl (wp_wk (l' := [none, none, some (jI x2)]) ⟨rfl, trivial⟩ (x_cs (As := [jL x0]) (st := [jI 8, jL x0]) c224_4 (by decide) rfl (Nat.le_of_ble_eq_true rfl) mx223 (Nat.le_refl _) H)))))
theorem s224_7 {kc : List va_E} {d : Nat} {v2 u0 u1 u2 : Int} {M : fx_M} {Q : Option fx_V → fx_M → Prop} (H : Q (some (jI (fx_land (fx_lshr u2 (u1 * ((u0 - 1) - v2))) 255))) M) : wp kc (d + 1) 224 7 [none, none, some (jI v2)] [jI u0, jI u1, jL u2] M Q :=
  (x_ci c224_7 (x_isub c224_8 (x_ildn c224_9 rfl (x_isub c224_10 (x_imul c224_11 (x_lshr c224_12 (x_cj c224_13 (x_land c224_16 (x_l2i c224_17 (x_irt c224_18 r224 H))))))))))
theorem s224 {kc : List va_E} {d : Nat} {x0 x2 : Int} {M : fx_M} {Q : Option fx_V → fx_M → Prop} (H : wc kc d 223 [jL x0] M (fun v M1 => wp kc (d + 1) 224 7 [none, none, some (jI x2)] (v.toList ++ [jI 8, jL x0]) M1 Q)) : wc kc (d + 1) 224 [jL x0, jI x2] M Q :=
  wc_of (wp_wk (l' := [some (jL x0), none, some (jI x2)]) ⟨rfl, ⟨rfl, trivial⟩⟩ (s224_0 H))

/- PuzzleHouseModel.scanRest(I)Z -/
theorem c225_0 : fx_op 225 0 = some (.iload_n 1, 1, 0) := by decide +kernel
theorem c225_196 : fx_op 225 196 = some (.aload_n 0, 197, 196) := by decide +kernel
theorem c225_201 : fx_op 225 201 = some (.aload_n 0, 202, 201) := by decide +kernel
theorem c225_206 : fx_op 225 206 = some (.aload_n 0, 207, 206) := by decide +kernel
theorem c225_211 : fx_op 225 211 = some (.aload_n 0, 212, 211) := by decide +kernel
theorem c225_212 : fx_ci 225 212 = some (1, 213) := by decide +kernel
theorem c225_397 : fx_ci 225 397 = some (1, 398) := by decide +kernel
theorem c225_223 : fx_op 225 223 = some (.aload_n 0, 224, 223) := by decide +kernel
theorem c225_224 : fx_ci 225 224 = some (32, 226) := by decide +kernel
theorem c225_246 : fx_op 225 246 = some (.aload_n 0, 247, 246) := by decide +kernel
theorem c225_251 : fx_op 225 251 = some (.aload_n 0, 252, 251) := by decide +kernel
theorem c225_252 : fx_ci 225 252 = some (32, 254) := by decide +kernel
theorem c225_297 : fx_op 225 297 = some (.aload_n 0, 298, 297) := by decide +kernel
theorem c225_298 : fx_ci 225 298 = some (32, 300) := by decide +kernel
theorem c225_217 : fx_op 225 217 = some (.aload_n 0, 218, 217) := by decide +kernel
theorem c225_218 : fx_ci 225 218 = some (0, 219) := by decide +kernel
theorem c225_275 : fx_op 225 275 = some (.aload_n 0, 276, 275) := by decide +kernel
theorem c225_276 : fx_ci 225 276 = some (32, 278) := by decide +kernel
theorem c225_341 : fx_op 225 341 = some (.aload_n 0, 342, 341) := by decide +kernel
theorem c225_342 : fx_ci 225 342 = some (32, 344) := by decide +kernel
theorem c225_370 : fx_op 225 370 = some (.aload_n 0, 371, 370) := by decide +kernel
theorem c225_319 : fx_op 225 319 = some (.aload_n 0, 320, 319) := by decide +kernel
theorem c225_320 : fx_ci 225 320 = some (32, 322) := by decide +kernel
theorem c225_375 : fx_op 225 375 = some (.aload_n 0, 376, 375) := by decide +kernel
theorem c225_376 : fx_ci 225 376 = some (32, 378) := by decide +kernel
theorem c225_197 : fx_ca 225 197 = some (226, 1, 2, 200) := by decide +kernel
theorem c225_202 : fx_ca 225 202 = some (230, 1, 2, 205) := by decide +kernel
theorem c225_207 : fx_ca 225 207 = some (234, 1, 2, 210) := by decide +kernel
theorem c225_213 : fx_ca 225 213 = some (235, 2, 2, 216) := by decide +kernel
theorem c225_398 : fx_op 225 398 = some (.ireturn, 399, 398) := by decide +kernel
theorem c225_226 : fx_ca 225 226 = some (227, 2, 2, 229) := by decide +kernel
theorem c225_247 : fx_ca 225 247 = some (236, 1, 2, 250) := by decide +kernel
theorem c225_254 : fx_ca 225 254 = some (227, 2, 2, 257) := by decide +kernel
theorem c225_300 : fx_ca 225 300 = some (227, 2, 2, 303) := by decide +kernel
theorem c225_219 : fx_ca 225 219 = some (235, 2, 2, 222) := by decide +kernel
theorem c225_278 : fx_ca 225 278 = some (227, 2, 2, 281) := by decide +kernel
theorem c225_344 : fx_ca 225 344 = some (227, 2, 2, 347) := by decide +kernel
theorem c225_371 : fx_ca 225 371 = some (250, 1, 2, 374) := by decide +kernel
theorem c225_322 : fx_ca 225 322 = some (227, 2, 2, 325) := by decide +kernel
theorem c225_378 : fx_ca 225 378 = some (227, 2, 2, 381) := by decide +kernel
theorem c225_1 : fx_ts 225 1 = some (0, [196, 201, 206, 211, 397, 397, 223, 246, 397, 251, 397, 297, 397, 397, 397, 397, 397, 397, 397, 217, 397, 246, 397, 246, 397, 275, 211, 397, 246, 397, 217, 246, 397, 397, 341, 370, 397, 319, 319, 319, 397, 246, 397, 397, 375], 397) := by decide +kernel
theorem c225_200 : fx_op 225 200 = some (.ireturn, 201, 200) := by decide +kernel
theorem c225_205 : fx_op 225 205 = some (.ireturn, 206, 205) := by decide +kernel
theorem c225_210 : fx_op 225 210 = some (.ireturn, 211, 210) := by decide +kernel
theorem c225_216 : fx_op 225 216 = some (.ireturn, 217, 216) := by decide +kernel
theorem c225_229 : fx_op 225 229 = some (.ifCond .eq 15, 232, 244) := by decide +kernel
theorem c225_244 : fx_ci 225 244 = some (0, 245) := by decide +kernel
theorem c225_232 : fx_op 225 232 = some (.aload_n 0, 233, 232) := by decide +kernel
theorem c225_233 : fx_ci 225 233 = some ((-1), 234) := by decide +kernel
theorem c225_245 : fx_op 225 245 = some (.ireturn, 246, 245) := by decide +kernel
theorem c225_234 : fx_ca 225 234 = some (238, 2, 2, 237) := by decide +kernel
theorem c225_250 : fx_op 225 250 = some (.ireturn, 251, 250) := by decide +kernel
theorem c225_257 : fx_op 225 257 = some (.ifCond .eq 16, 260, 273) := by decide +kernel
theorem c225_273 : fx_ci 225 273 = some (0, 274) := by decide +kernel
theorem c225_260 : fx_op 225 260 = some (.aload_n 0, 261, 260) := by decide +kernel
theorem c225_261 : fx_ci 225 261 = some (6, 263) := by decide +kernel
theorem c225_274 : fx_op 225 274 = some (.ireturn, 275, 274) := by decide +kernel
theorem c225_263 : fx_ca 225 263 = some (233, 2, 2, 266) := by decide +kernel
theorem c225_303 : fx_op 225 303 = some (.ifCond .eq 14, 306, 317) := by decide +kernel
theorem c225_317 : fx_ci 225 317 = some (0, 318) := by decide +kernel
theorem c225_306 : fx_op 225 306 = some (.aload_n 0, 307, 306) := by decide +kernel
theorem c225_318 : fx_op 225 318 = some (.ireturn, 319, 318) := by decide +kernel
theorem c225_307 : fx_ca 225 307 = some (246, 1, 2, 310) := by decide +kernel
theorem c225_222 : fx_op 225 222 = some (.ireturn, 223, 222) := by decide +kernel
theorem c225_281 : fx_op 225 281 = some (.ifCond .eq 14, 284, 295) := by decide +kernel
theorem c225_295 : fx_ci 225 295 = some (0, 296) := by decide +kernel
theorem c225_284 : fx_op 225 284 = some (.aload_n 0, 285, 284) := by decide +kernel
theorem c225_296 : fx_op 225 296 = some (.ireturn, 297, 296) := by decide +kernel
theorem c225_285 : fx_ca 225 285 = some (229, 1, 2, 288) := by decide +kernel
theorem c225_347 : fx_op 225 347 = some (.ifCond .eq 21, 350, 368) := by decide +kernel
theorem c225_368 : fx_ci 225 368 = some (0, 369) := by decide +kernel
theorem c225_350 : fx_op 225 350 = some (.aload_n 0, 351, 350) := by decide +kernel
theorem c225_369 : fx_op 225 369 = some (.ireturn, 370, 369) := by decide +kernel
theorem c225_351 : fx_ca 225 351 = some (249, 1, 2, 354) := by decide +kernel
theorem c225_374 : fx_op 225 374 = some (.ireturn, 375, 374) := by decide +kernel
theorem c225_325 : fx_op 225 325 = some (.ifCond .eq 14, 328, 339) := by decide +kernel
theorem c225_339 : fx_ci 225 339 = some (0, 340) := by decide +kernel
theorem c225_328 : fx_op 225 328 = some (.aload_n 0, 329, 328) := by decide +kernel
theorem c225_340 : fx_op 225 340 = some (.ireturn, 341, 340) := by decide +kernel
theorem c225_329 : fx_ca 225 329 = some (249, 1, 2, 332) := by decide +kernel
theorem c225_381 : fx_op 225 381 = some (.ifCond .eq 14, 384, 395) := by decide +kernel
theorem c225_395 : fx_ci 225 395 = some (0, 396) := by decide +kernel
theorem c225_384 : fx_op 225 384 = some (.aload_n 0, 385, 384) := by decide +kernel
theorem c225_396 : fx_op 225 396 = some (.ireturn, 397, 396) := by decide +kernel
theorem c225_385 : fx_ca 225 385 = some (251, 1, 2, 388) := by decide +kernel
theorem c225_237 : fx_op 225 237 = some (.ifCond .eq 7, 240, 244) := by decide +kernel
theorem c225_240 : fx_ci 225 240 = some (1, 241) := by decide +kernel
theorem c225_241 : fx_op 225 241 = some (.goto 4, 244, 245) := by decide +kernel
theorem c225_266 : fx_op 225 266 = some (.ifCond .eq 7, 269, 273) := by decide +kernel
theorem c225_269 : fx_ci 225 269 = some (1, 270) := by decide +kernel
theorem c225_270 : fx_op 225 270 = some (.goto 4, 273, 274) := by decide +kernel
theorem c225_310 : fx_op 225 310 = some (.ifCond .eq 7, 313, 317) := by decide +kernel
theorem c225_313 : fx_ci 225 313 = some (1, 314) := by decide +kernel
theorem c225_314 : fx_op 225 314 = some (.goto 4, 317, 318) := by decide +kernel
theorem c225_288 : fx_op 225 288 = some (.ifCond .eq 7, 291, 295) := by decide +kernel
theorem c225_291 : fx_ci 225 291 = some (1, 292) := by decide +kernel
theorem c225_292 : fx_op 225 292 = some (.goto 4, 295, 296) := by decide +kernel
theorem c225_354 : fx_op 225 354 = some (.ifCond .eq 14, 357, 368) := by decide +kernel
theorem c225_357 : fx_op 225 357 = some (.aload_n 0, 358, 357) := by decide +kernel
theorem c225_358 : fx_ca 225 358 = some (236, 1, 2, 361) := by decide +kernel
theorem c225_332 : fx_op 225 332 = some (.ifCond .eq 7, 335, 339) := by decide +kernel
theorem c225_335 : fx_ci 225 335 = some (1, 336) := by decide +kernel
theorem c225_336 : fx_op 225 336 = some (.goto 4, 339, 340) := by decide +kernel
theorem c225_388 : fx_op 225 388 = some (.ifCond .eq 7, 391, 395) := by decide +kernel
theorem c225_391 : fx_ci 225 391 = some (1, 392) := by decide +kernel
theorem c225_392 : fx_op 225 392 = some (.goto 4, 395, 396) := by decide +kernel
theorem c225_361 : fx_op 225 361 = some (.ifCond .eq 7, 364, 368) := by decide +kernel
theorem c225_364 : fx_ci 225 364 = some (1, 365) := by decide +kernel
theorem c225_365 : fx_op 225 365 = some (.goto 4, 368, 369) := by decide +kernel
theorem s225_0 {kc : List va_E} {d : Nat} {x1 : Int} {M : fx_M} {Q : Option fx_V → fx_M → Prop} (H : fx_in32 x1 ∧ (x1 = 0 → wc kc d 226 [jR 133] M (fun v M1 => wp kc (d + 1) 225 200 [none, none] (v.toList ++ []) M1 Q)) ∧ (x1 = 1 → wc kc d 230 [jR 133] M (fun v M1 => wp kc (d + 1) 225 205 [none, none] (v.toList ++ []) M1 Q)) ∧ (x1 = 2 → wc kc d 234 [jR 133] M (fun v M1 => wp kc (d + 1) 225 210 [none, none] (v.toList ++ []) M1 Q)) ∧ (x1 = 3 → wc kc d 235 [jR 133, jI 1] M (fun v M1 => wp kc (d + 1) 225 216 [none, none] (v.toList ++ []) M1 Q)) ∧ (x1 = 4 → Q (some (jI 1)) M) ∧ (x1 = 5 → Q (some (jI 1)) M) ∧ (x1 = 6 → wc kc d 227 [jR 133, jI 32] M (fun v M1 => wp kc (d + 1) 225 229 [some (jR 133), none] (v.toList ++ []) M1 Q)) ∧ (x1 = 7 → wc kc d 236 [jR 133] M (fun v M1 => wp kc (d + 1) 225 250 [none, none] (v.toList ++ []) M1 Q)) ∧ (x1 = 8 → Q (some (jI 1)) M) ∧ (x1 = 9 → wc kc d 227 [jR 133, jI 32] M (fun v M1 => wp kc (d + 1) 225 257 [some (jR 133), none] (v.toList ++ []) M1 Q)) ∧ (x1 = 10 → Q (some (jI 1)) M) ∧ (x1 = 11 → wc kc d 227 [jR 133, jI 32] M (fun v M1 => wp kc (d + 1) 225 303 [some (jR 133), none] (v.toList ++ []) M1 Q)) ∧ (x1 = 12 → Q (some (jI 1)) M) ∧ (x1 = 13 → Q (some (jI 1)) M) ∧ (x1 = 14 → Q (some (jI 1)) M) ∧ (x1 = 15 → Q (some (jI 1)) M) ∧ (x1 = 16 → Q (some (jI 1)) M) ∧ (x1 = 17 → Q (some (jI 1)) M) ∧ (x1 = 18 → Q (some (jI 1)) M) ∧ (x1 = 19 → wc kc d 235 [jR 133, jI 0] M (fun v M1 => wp kc (d + 1) 225 222 [none, none] (v.toList ++ []) M1 Q)) ∧ (x1 = 20 → Q (some (jI 1)) M) ∧ (x1 = 21 → wc kc d 236 [jR 133] M (fun v M1 => wp kc (d + 1) 225 250 [none, none] (v.toList ++ []) M1 Q)) ∧ (x1 = 22 → Q (some (jI 1)) M) ∧ (x1 = 23 → wc kc d 236 [jR 133] M (fun v M1 => wp kc (d + 1) 225 250 [none, none] (v.toList ++ []) M1 Q)) ∧ (x1 = 24 → Q (some (jI 1)) M) ∧ (x1 = 25 → wc kc d 227 [jR 133, jI 32] M (fun v M1 => wp kc (d + 1) 225 281 [some (jR 133), none] (v.toList ++ []) M1 Q)) ∧ (x1 = 26 → wc kc d 235 [jR 133, jI 1] M (fun v M1 => wp kc (d + 1) 225 216 [none, none] (v.toList ++ []) M1 Q)) ∧ (x1 = 27 → Q (some (jI 1)) M) ∧ (x1 = 28 → wc kc d 236 [jR 133] M (fun v M1 => wp kc (d + 1) 225 250 [none, none] (v.toList ++ []) M1 Q)) ∧ (x1 = 29 → Q (some (jI 1)) M) ∧ (x1 = 30 → wc kc d 235 [jR 133, jI 0] M (fun v M1 => wp kc (d + 1) 225 222 [none, none] (v.toList ++ []) M1 Q)) ∧ (x1 = 31 → wc kc d 236 [jR 133] M (fun v M1 => wp kc (d + 1) 225 250 [none, none] (v.toList ++ []) M1 Q)) ∧ (x1 = 32 → Q (some (jI 1)) M) ∧ (x1 = 33 → Q (some (jI 1)) M) ∧ (x1 = 34 → wc kc d 227 [jR 133, jI 32] M (fun v M1 => wp kc (d + 1) 225 347 [some (jR 133), none] (v.toList ++ []) M1 Q)) ∧ (x1 = 35 → wc kc d 250 [jR 133] M (fun v M1 => wp kc (d + 1) 225 374 [none, none] (v.toList ++ []) M1 Q)) ∧ (x1 = 36 → Q (some (jI 1)) M) ∧ (x1 = 37 → wc kc d 227 [jR 133, jI 32] M (fun v M1 => wp kc (d + 1) 225 325 [some (jR 133), none] (v.toList ++ []) M1 Q)) ∧ (x1 = 38 → wc kc d 227 [jR 133, jI 32] M (fun v M1 => wp kc (d + 1) 225 325 [some (jR 133), none] (v.toList ++ []) M1 Q)) ∧ (x1 = 39 → wc kc d 227 [jR 133, jI 32] M (fun v M1 => wp kc (d + 1) 225 325 [some (jR 133), none] (v.toList ++ []) M1 Q)) ∧ (x1 = 40 → Q (some (jI 1)) M) ∧ (x1 = 41 → wc kc d 236 [jR 133] M (fun v M1 => wp kc (d + 1) 225 250 [none, none] (v.toList ++ []) M1 Q)) ∧ (x1 = 42 → Q (some (jI 1)) M) ∧ (x1 = 43 → Q (some (jI 1)) M) ∧ (x1 = 44 → wc kc d 227 [jR 133, jI 32] M (fun v M1 => wp kc (d + 1) 225 381 [some (jR 133), none] (v.toList ++ []) M1 Q)) ∧ ((x1 < 0 ∨ 45 ≤ x1) → Q (some (jI 1)) M)) : wp kc (d + 1) 225 0 [some (jR 133), some (jI x1)] [] M Q :=
  (x_ildn c225_0 rfl (x_sw c225_1 H.1 ⟨fun h1 => (x_aldn c225_196 rfl (wp_wk (l' := [none, none]) trivial (x_cv (As := []) (st := []) c225_197 cl_133 kl226 rfl (Nat.le_of_ble_eq_true rfl) mx226 (Nat.le_refl _) (H.2.1 h1)))), ⟨fun h2 => (x_aldn c225_201 rfl (wp_wk (l' := [none, none]) trivial (x_cv (As := []) (st := []) c225_202 cl_133 kl230 rfl (Nat.le_of_ble_eq_true rfl) mx230 (Nat.le_refl _) (H.2.2.1 h2)))), ⟨fun h3 => (x_aldn c225_206 rfl (wp_wk (l' := [none, none]) trivial (x_cv (As := []) (st := []) c225_207 cl_133 kl234 rfl (Nat.le_of_ble_eq_true rfl) mx234 (Nat.le_refl _) (H.2.2.2.1 h3)))), ⟨fun h4 => (x_aldn c225_211 rfl (x_ci c225_212 (wp_wk (l' := [none, none]) trivial (x_cv (As := [jI 1]) (st := []) c225_213 cl_133 kl235 rfl (Nat.le_of_ble_eq_true rfl) mx235 (Nat.le_refl _) (H.2.2.2.2.1 h4))))), ⟨fun h5 => (x_ci c225_397 (x_zrt c225_398 r225 (by decide) (H.2.2.2.2.2.1 h5))), ⟨fun h6 => (x_ci c225_397 (x_zrt c225_398 r225 (by decide) (H.2.2.2.2.2.2.1 h6))), ⟨fun h7 => (x_aldn c225_223 rfl (x_ci c225_224 (wp_wk (l' := [some (jR 133), none]) ⟨rfl, trivial⟩ (x_cv (As := [jI 32]) (st := []) c225_226 cl_133 kl227 rfl (Nat.le_of_ble_eq_true rfl) mx227 (Nat.le_refl _) (H.2.2.2.2.2.2.2.1 h7))))), ⟨fun h8 => (x_aldn c225_246 rfl (wp_wk (l' := [none, none]) trivial (x_cv (As := []) (st := []) c225_247 cl_133 kl236 rfl (Nat.le_of_ble_eq_true rfl) mx236 (Nat.le_refl _) (H.2.2.2.2.2.2.2.2.1 h8)))), ⟨fun h9 => (x_ci c225_397 (x_zrt c225_398 r225 (by decide) (H.2.2.2.2.2.2.2.2.2.1 h9))), ⟨fun h10 => (x_aldn c225_251 rfl (x_ci c225_252 (wp_wk (l' := [some (jR 133), none]) ⟨rfl, trivial⟩ (x_cv (As := [jI 32]) (st := []) c225_254 cl_133 kl227 rfl (Nat.le_of_ble_eq_true rfl) mx227 (Nat.le_refl _) (H.2.2.2.2.2.2.2.2.2.2.1 h10))))), ⟨fun h11 => (x_ci c225_397 (x_zrt c225_398 r225 (by decide) (H.2.2.2.2.2.2.2.2.2.2.2.1 h11))), ⟨fun h12 => (x_aldn c225_297 rfl (x_ci c225_298 (wp_wk (l' := [some (jR 133), none]) ⟨rfl, trivial⟩ (x_cv (As := [jI 32]) (st := []) c225_300 cl_133 kl227 rfl (Nat.le_of_ble_eq_true rfl) mx227 (Nat.le_refl _) (H.2.2.2.2.2.2.2.2.2.2.2.2.1 h12))))), ⟨fun h13 => (x_ci c225_397 (x_zrt c225_398 r225 (by decide) (H.2.2.2.2.2.2.2.2.2.2.2.2.2.1 h13))), ⟨fun h14 => (x_ci c225_397 (x_zrt c225_398 r225 (by decide) (H.2.2.2.2.2.2.2.2.2.2.2.2.2.2.1 h14))), ⟨fun h15 => (x_ci c225_397 (x_zrt c225_398 r225 (by decide) (H.2.2.2.2.2.2.2.2.2.2.2.2.2.2.2.1 h15))), ⟨fun h16 => (x_ci c225_397 (x_zrt c225_398 r225 (by decide) (H.2.2.2.2.2.2.2.2.2.2.2.2.2.2.2.2.1 h16))), ⟨fun h17 => (x_ci c225_397 (x_zrt c225_398 r225 (by decide) (H.2.2.2.2.2.2.2.2.2.2.2.2.2.2.2.2.2.1 h17))), ⟨fun h18 => (x_ci c225_397 (x_zrt c225_398 r225 (by decide) (H.2.2.2.2.2.2.2.2.2.2.2.2.2.2.2.2.2.2.1 h18))), ⟨fun h19 => (x_ci c225_397 (x_zrt c225_398 r225 (by decide) (H.2.2.2.2.2.2.2.2.2.2.2.2.2.2.2.2.2.2.2.1 h19))), ⟨fun h20 => (x_aldn c225_217 rfl (x_ci c225_218 (wp_wk (l' := [none, none]) trivial (x_cv (As := [jI 0]) (st := []) c225_219 cl_133 kl235 rfl (Nat.le_of_ble_eq_true rfl) mx235 (Nat.le_refl _) (H.2.2.2.2.2.2.2.2.2.2.2.2.2.2.2.2.2.2.2.2.1 h20))))), ⟨fun h21 => (x_ci c225_397 (x_zrt c225_398 r225 (by decide) (H.2.2.2.2.2.2.2.2.2.2.2.2.2.2.2.2.2.2.2.2.2.1 h21))), ⟨fun h22 => (x_aldn c225_246 rfl (wp_wk (l' := [none, none]) trivial (x_cv (As := []) (st := []) c225_247 cl_133 kl236 rfl (Nat.le_of_ble_eq_true rfl) mx236 (Nat.le_refl _) (H.2.2.2.2.2.2.2.2.2.2.2.2.2.2.2.2.2.2.2.2.2.2.1 h22)))), ⟨fun h23 => (x_ci c225_397 (x_zrt c225_398 r225 (by decide) (H.2.2.2.2.2.2.2.2.2.2.2.2.2.2.2.2.2.2.2.2.2.2.2.1 h23))), ⟨fun h24 => (x_aldn c225_246 rfl (wp_wk (l' := [none, none]) trivial (x_cv (As := []) (st := []) c225_247 cl_133 kl236 rfl (Nat.le_of_ble_eq_true rfl) mx236 (Nat.le_refl _) (H.2.2.2.2.2.2.2.2.2.2.2.2.2.2.2.2.2.2.2.2.2.2.2.2.1 h24)))), ⟨fun h25 => (x_ci c225_397 (x_zrt c225_398 r225 (by decide) (H.2.2.2.2.2.2.2.2.2.2.2.2.2.2.2.2.2.2.2.2.2.2.2.2.2.1 h25))), ⟨fun h26 => (x_aldn c225_275 rfl (x_ci c225_276 (wp_wk (l' := [some (jR 133), none]) ⟨rfl, trivial⟩ (x_cv (As := [jI 32]) (st := []) c225_278 cl_133 kl227 rfl (Nat.le_of_ble_eq_true rfl) mx227 (Nat.le_refl _) (H.2.2.2.2.2.2.2.2.2.2.2.2.2.2.2.2.2.2.2.2.2.2.2.2.2.2.1 h26))))), ⟨fun h27 => (x_aldn c225_211 rfl (x_ci c225_212 (wp_wk (l' := [none, none]) trivial (x_cv (As := [jI 1]) (st := []) c225_213 cl_133 kl235 rfl (Nat.le_of_ble_eq_true rfl) mx235 (Nat.le_refl _) (H.2.2.2.2.2.2.2.2.2.2.2.2.2.2.2.2.2.2.2.2.2.2.2.2.2.2.2.1 h27))))), ⟨fun h28 => (x_ci c225_397 (x_zrt c225_398 r225 (by decide) (H.2.2.2.2.2.2.2.2.2.2.2.2.2.2.2.2.2.2.2.2.2.2.2.2.2.2.2.2.1 h28))), ⟨fun h29 => (x_aldn c225_246 rfl (wp_wk (l' := [none, none]) trivial (x_cv (As := []) (st := []) c225_247 cl_133 kl236 rfl (Nat.le_of_ble_eq_true rfl) mx236 (Nat.le_refl _) (H.2.2.2.2.2.2.2.2.2.2.2.2.2.2.2.2.2.2.2.2.2.2.2.2.2.2.2.2.2.1 h29)))), ⟨fun h30 => (x_ci c225_397 (x_zrt c225_398 r225 (by decide) (H.2.2.2.2.2.2.2.2.2.2.2.2.2.2.2.2.2.2.2.2.2.2.2.2.2.2.2.2.2.2.1 h30))), ⟨fun h31 => (x_aldn c225_217 rfl (x_ci c225_218 (wp_wk (l' := [none, none]) trivial (x_cv (As := [jI 0]) (st := []) c225_219 cl_133 kl235 rfl (Nat.le_of_ble_eq_true rfl) mx235 (Nat.le_refl _) (H.2.2.2.2.2.2.2.2.2.2.2.2.2.2.2.2.2.2.2.2.2.2.2.2.2.2.2.2.2.2.2.1 h31))))), ⟨fun h32 => (x_aldn c225_246 rfl (wp_wk (l' := [none, none]) trivial (x_cv (As := []) (st := []) c225_247 cl_133 kl236 rfl (Nat.le_of_ble_eq_true rfl) mx236 (Nat.le_refl _) (H.2.2.2.2.2.2.2.2.2.2.2.2.2.2.2.2.2.2.2.2.2.2.2.2.2.2.2.2.2.2.2.2.1 h32)))), ⟨fun h33 => (x_ci c225_397 (x_zrt c225_398 r225 (by decide) (H.2.2.2.2.2.2.2.2.2.2.2.2.2.2.2.2.2.2.2.2.2.2.2.2.2.2.2.2.2.2.2.2.2.1 h33))), ⟨fun h34 => (x_ci c225_397 (x_zrt c225_398 r225 (by decide) (H.2.2.2.2.2.2.2.2.2.2.2.2.2.2.2.2.2.2.2.2.2.2.2.2.2.2.2.2.2.2.2.2.2.2.1 h34))), ⟨fun h35 => (x_aldn c225_341 rfl (x_ci c225_342 (wp_wk (l' := [some (jR 133), none]) ⟨rfl, trivial⟩ (x_cv (As := [jI 32]) (st := []) c225_344 cl_133 kl227 rfl (Nat.le_of_ble_eq_true rfl) mx227 (Nat.le_refl _) (H.2.2.2.2.2.2.2.2.2.2.2.2.2.2.2.2.2.2.2.2.2.2.2.2.2.2.2.2.2.2.2.2.2.2.2.1 h35))))), ⟨fun h36 => (x_aldn c225_370 rfl (wp_wk (l' := [none, none]) trivial (x_cv (As := []) (st := []) c225_371 cl_133 kl250 rfl (Nat.le_of_ble_eq_true rfl) mx250 (Nat.le_refl _) (H.2.2.2.2.2.2.2.2.2.2.2.2.2.2.2.2.2.2.2.2.2.2.2.2.2.2.2.2.2.2.2.2.2.2.2.2.1 h36)))), ⟨fun h37 => (x_ci c225_397 (x_zrt c225_398 r225 (by decide) (H.2.2.2.2.2.2.2.2.2.2.2.2.2.2.2.2.2.2.2.2.2.2.2.2.2.2.2.2.2.2.2.2.2.2.2.2.2.1 h37))), ⟨fun h38 => (x_aldn c225_319 rfl (x_ci c225_320 (wp_wk (l' := [some (jR 133), none]) ⟨rfl, trivial⟩ (x_cv (As := [jI 32]) (st := []) c225_322 cl_133 kl227 rfl (Nat.le_of_ble_eq_true rfl) mx227 (Nat.le_refl _) (H.2.2.2.2.2.2.2.2.2.2.2.2.2.2.2.2.2.2.2.2.2.2.2.2.2.2.2.2.2.2.2.2.2.2.2.2.2.2.1 h38))))), ⟨fun h39 => (x_aldn c225_319 rfl (x_ci c225_320 (wp_wk (l' := [some (jR 133), none]) ⟨rfl, trivial⟩ (x_cv (As := [jI 32]) (st := []) c225_322 cl_133 kl227 rfl (Nat.le_of_ble_eq_true rfl) mx227 (Nat.le_refl _) (H.2.2.2.2.2.2.2.2.2.2.2.2.2.2.2.2.2.2.2.2.2.2.2.2.2.2.2.2.2.2.2.2.2.2.2.2.2.2.2.1 h39))))), ⟨fun h40 => (x_aldn c225_319 rfl (x_ci c225_320 (wp_wk (l' := [some (jR 133), none]) ⟨rfl, trivial⟩ (x_cv (As := [jI 32]) (st := []) c225_322 cl_133 kl227 rfl (Nat.le_of_ble_eq_true rfl) mx227 (Nat.le_refl _) (H.2.2.2.2.2.2.2.2.2.2.2.2.2.2.2.2.2.2.2.2.2.2.2.2.2.2.2.2.2.2.2.2.2.2.2.2.2.2.2.2.1 h40))))), ⟨fun h41 => (x_ci c225_397 (x_zrt c225_398 r225 (by decide) (H.2.2.2.2.2.2.2.2.2.2.2.2.2.2.2.2.2.2.2.2.2.2.2.2.2.2.2.2.2.2.2.2.2.2.2.2.2.2.2.2.2.1 h41))), ⟨fun h42 => (x_aldn c225_246 rfl (wp_wk (l' := [none, none]) trivial (x_cv (As := []) (st := []) c225_247 cl_133 kl236 rfl (Nat.le_of_ble_eq_true rfl) mx236 (Nat.le_refl _) (H.2.2.2.2.2.2.2.2.2.2.2.2.2.2.2.2.2.2.2.2.2.2.2.2.2.2.2.2.2.2.2.2.2.2.2.2.2.2.2.2.2.2.1 h42)))), ⟨fun h43 => (x_ci c225_397 (x_zrt c225_398 r225 (by decide) (H.2.2.2.2.2.2.2.2.2.2.2.2.2.2.2.2.2.2.2.2.2.2.2.2.2.2.2.2.2.2.2.2.2.2.2.2.2.2.2.2.2.2.2.1 h43))), ⟨fun h44 => (x_ci c225_397 (x_zrt c225_398 r225 (by decide) (H.2.2.2.2.2.2.2.2.2.2.2.2.2.2.2.2.2.2.2.2.2.2.2.2.2.2.2.2.2.2.2.2.2.2.2.2.2.2.2.2.2.2.2.2.1 h44))), ⟨fun h45 => (x_aldn c225_375 rfl (x_ci c225_376 (wp_wk (l' := [some (jR 133), none]) ⟨rfl, trivial⟩ (x_cv (As := [jI 32]) (st := []) c225_378 cl_133 kl227 rfl (Nat.le_of_ble_eq_true rfl) mx227 (Nat.le_refl _) (H.2.2.2.2.2.2.2.2.2.2.2.2.2.2.2.2.2.2.2.2.2.2.2.2.2.2.2.2.2.2.2.2.2.2.2.2.2.2.2.2.2.2.2.2.2.1 h45))))), trivial⟩⟩⟩⟩⟩⟩⟩⟩⟩⟩⟩⟩⟩⟩⟩⟩⟩⟩⟩⟩⟩⟩⟩⟩⟩⟩⟩⟩⟩⟩⟩⟩⟩⟩⟩⟩⟩⟩⟩⟩⟩⟩⟩⟩⟩ (fun h46 => (x_ci c225_397 (x_zrt c225_398 r225 (by decide) (H.2.2.2.2.2.2.2.2.2.2.2.2.2.2.2.2.2.2.2.2.2.2.2.2.2.2.2.2.2.2.2.2.2.2.2.2.2.2.2.2.2.2.2.2.2.2 h46))))))
theorem s225_200 {kc : List va_E} {d : Nat} {u0 : Int} {M : fx_M} {Q : Option fx_V → fx_M → Prop} (H : ((0 : Int) ≤ u0 ∧ u0 ≤ 1) ∧ Q (some (jI u0)) M) : wp kc (d + 1) 225 200 [none, none] [jI u0] M Q :=
  (x_zrt c225_200 r225 H.1 H.2)
theorem s225_205 {kc : List va_E} {d : Nat} {u0 : Int} {M : fx_M} {Q : Option fx_V → fx_M → Prop} (H : ((0 : Int) ≤ u0 ∧ u0 ≤ 1) ∧ Q (some (jI u0)) M) : wp kc (d + 1) 225 205 [none, none] [jI u0] M Q :=
  (x_zrt c225_205 r225 H.1 H.2)
theorem s225_210 {kc : List va_E} {d : Nat} {u0 : Int} {M : fx_M} {Q : Option fx_V → fx_M → Prop} (H : ((0 : Int) ≤ u0 ∧ u0 ≤ 1) ∧ Q (some (jI u0)) M) : wp kc (d + 1) 225 210 [none, none] [jI u0] M Q :=
  (x_zrt c225_210 r225 H.1 H.2)
theorem s225_216 {kc : List va_E} {d : Nat} {u0 : Int} {M : fx_M} {Q : Option fx_V → fx_M → Prop} (H : ((0 : Int) ≤ u0 ∧ u0 ≤ 1) ∧ Q (some (jI u0)) M) : wp kc (d + 1) 225 216 [none, none] [jI u0] M Q :=
  (x_zrt c225_216 r225 H.1 H.2)
theorem s225_222 {kc : List va_E} {d : Nat} {u0 : Int} {M : fx_M} {Q : Option fx_V → fx_M → Prop} (H : ((0 : Int) ≤ u0 ∧ u0 ≤ 1) ∧ Q (some (jI u0)) M) : wp kc (d + 1) 225 222 [none, none] [jI u0] M Q :=
  (x_zrt c225_222 r225 H.1 H.2)
theorem s225_229 {kc : List va_E} {d : Nat} {u0 : Int} {M : fx_M} {Q : Option fx_V → fx_M → Prop} (H : ((fx_in32 u0)) ∧ (u0 = 0 → Q (some (jI 0)) M) ∧ (u0 ≠ 0 → wc kc d 238 [jR 133, jI (-1)] M (fun v M1 => wp kc (d + 1) 225 237 [none, none] (v.toList ++ []) M1 Q))) : wp kc (d + 1) 225 229 [some (jR 133), none] [jI u0] M Q :=
  (x_zeq c225_229 H.1 (fun h1 => (x_ci c225_244 (x_zrt c225_245 r225 (by decide) (H.2.1 h1)))) (fun h2 => (x_aldn c225_232 rfl (x_ci c225_233 (wp_wk (l' := [none, none]) trivial (x_cv (As := [jI (-1)]) (st := []) c225_234 cl_133 kl238 rfl (Nat.le_of_ble_eq_true rfl) mx238 (Nat.le_refl _) (H.2.2 h2)))))))
theorem s225_237 {kc : List va_E} {d : Nat} {u0 : Int} {M : fx_M} {Q : Option fx_V → fx_M → Prop} (H : ((fx_in32 u0)) ∧ ((0 : Int) ≤ (if u0 = 0 then (0 : Int) else 1) ∧ (if u0 = 0 then (0 : Int) else 1) ≤ 1) ∧ Q (some (jI (if u0 = 0 then (0 : Int) else 1))) M) : wp kc (d + 1) 225 237 [none, none] [jI u0] M Q :=
  (have K : wp kc (d + 1) 225 245 [none, none] [jI (if u0 = 0 then (0 : Int) else 1)] M Q := (x_zrt c225_245 r225 H.2.1 H.2.2); (x_zeq c225_237 H.1 (fun (h1 : u0 = 0) => (x_ci c225_244 (wp_wk (l' := [none, none]) trivial (by have K := K; first | (simp only [if_pos h1] at K ⊢; exact K) | (exfalso; omega))))) (fun (h2 : u0 ≠ 0) => (x_ci c225_240 (x_goto c225_241 (wp_wk (l' := [none, none]) trivial (by have K := K; first | (simp only [if_neg h2] at K ⊢; exact K) | (exfalso; omega))))))))
theorem s225_250 {kc : List va_E} {d : Nat} {u0 : Int} {M : fx_M} {Q : Option fx_V → fx_M → Prop} (H : ((0 : Int) ≤ u0 ∧ u0 ≤ 1) ∧ Q (some (jI u0)) M) : wp kc (d + 1) 225 250 [none, none] [jI u0] M Q :=
  (x_zrt c225_250 r225 H.1 H.2)
theorem s225_257 {kc : List va_E} {d : Nat} {u0 : Int} {M : fx_M} {Q : Option fx_V → fx_M → Prop} (H : ((fx_in32 u0)) ∧ (u0 = 0 → Q (some (jI 0)) M) ∧ (u0 ≠ 0 → wc kc d 233 [jR 133, jI 6] M (fun v M1 => wp kc (d + 1) 225 266 [none, none] (v.toList ++ []) M1 Q))) : wp kc (d + 1) 225 257 [some (jR 133), none] [jI u0] M Q :=
  (x_zeq c225_257 H.1 (fun h1 => (x_ci c225_273 (x_zrt c225_274 r225 (by decide) (H.2.1 h1)))) (fun h2 => (x_aldn c225_260 rfl (x_ci c225_261 (wp_wk (l' := [none, none]) trivial (x_cv (As := [jI 6]) (st := []) c225_263 cl_133 kl233 rfl (Nat.le_of_ble_eq_true rfl) mx233 (Nat.le_refl _) (H.2.2 h2)))))))
theorem s225_266 {kc : List va_E} {d : Nat} {u0 : Int} {M : fx_M} {Q : Option fx_V → fx_M → Prop} (H : ((fx_in32 u0)) ∧ ((0 : Int) ≤ (if u0 = 0 then (0 : Int) else 1) ∧ (if u0 = 0 then (0 : Int) else 1) ≤ 1) ∧ Q (some (jI (if u0 = 0 then (0 : Int) else 1))) M) : wp kc (d + 1) 225 266 [none, none] [jI u0] M Q :=
  (have K : wp kc (d + 1) 225 274 [none, none] [jI (if u0 = 0 then (0 : Int) else 1)] M Q := (x_zrt c225_274 r225 H.2.1 H.2.2); (x_zeq c225_266 H.1 (fun (h1 : u0 = 0) => (x_ci c225_273 (wp_wk (l' := [none, none]) trivial (by have K := K; first | (simp only [if_pos h1] at K ⊢; exact K) | (exfalso; omega))))) (fun (h2 : u0 ≠ 0) => (x_ci c225_269 (x_goto c225_270 (wp_wk (l' := [none, none]) trivial (by have K := K; first | (simp only [if_neg h2] at K ⊢; exact K) | (exfalso; omega))))))))
theorem s225_281 {kc : List va_E} {d : Nat} {u0 : Int} {M : fx_M} {Q : Option fx_V → fx_M → Prop} (H : ((fx_in32 u0)) ∧ (u0 = 0 → Q (some (jI 0)) M) ∧ (u0 ≠ 0 → wc kc d 229 [jR 133] M (fun v M1 => wp kc (d + 1) 225 288 [none, none] (v.toList ++ []) M1 Q))) : wp kc (d + 1) 225 281 [some (jR 133), none] [jI u0] M Q :=
  (x_zeq c225_281 H.1 (fun h1 => (x_ci c225_295 (x_zrt c225_296 r225 (by decide) (H.2.1 h1)))) (fun h2 => (x_aldn c225_284 rfl (wp_wk (l' := [none, none]) trivial (x_cv (As := []) (st := []) c225_285 cl_133 kl229 rfl (Nat.le_of_ble_eq_true rfl) mx229 (Nat.le_refl _) (H.2.2 h2))))))
theorem s225_288 {kc : List va_E} {d : Nat} {u0 : Int} {M : fx_M} {Q : Option fx_V → fx_M → Prop} (H : ((fx_in32 u0)) ∧ ((0 : Int) ≤ (if u0 = 0 then (0 : Int) else 1) ∧ (if u0 = 0 then (0 : Int) else 1) ≤ 1) ∧ Q (some (jI (if u0 = 0 then (0 : Int) else 1))) M) : wp kc (d + 1) 225 288 [none, none] [jI u0] M Q :=
  (have K : wp kc (d + 1) 225 296 [none, none] [jI (if u0 = 0 then (0 : Int) else 1)] M Q := (x_zrt c225_296 r225 H.2.1 H.2.2); (x_zeq c225_288 H.1 (fun (h1 : u0 = 0) => (x_ci c225_295 (wp_wk (l' := [none, none]) trivial (by have K := K; first | (simp only [if_pos h1] at K ⊢; exact K) | (exfalso; omega))))) (fun (h2 : u0 ≠ 0) => (x_ci c225_291 (x_goto c225_292 (wp_wk (l' := [none, none]) trivial (by have K := K; first | (simp only [if_neg h2] at K ⊢; exact K) | (exfalso; omega))))))))
theorem s225_303 {kc : List va_E} {d : Nat} {u0 : Int} {M : fx_M} {Q : Option fx_V → fx_M → Prop} (H : ((fx_in32 u0)) ∧ (u0 = 0 → Q (some (jI 0)) M) ∧ (u0 ≠ 0 → wc kc d 246 [jR 133] M (fun v M1 => wp kc (d + 1) 225 310 [none, none] (v.toList ++ []) M1 Q))) : wp kc (d + 1) 225 303 [some (jR 133), none] [jI u0] M Q :=
  (x_zeq c225_303 H.1 (fun h1 => (x_ci c225_317 (x_zrt c225_318 r225 (by decide) (H.2.1 h1)))) (fun h2 => (x_aldn c225_306 rfl (wp_wk (l' := [none, none]) trivial (x_cv (As := []) (st := []) c225_307 cl_133 kl246 rfl (Nat.le_of_ble_eq_true rfl) mx246 (Nat.le_refl _) (H.2.2 h2))))))
theorem s225_310 {kc : List va_E} {d : Nat} {u0 : Int} {M : fx_M} {Q : Option fx_V → fx_M → Prop} (H : ((fx_in32 u0)) ∧ ((0 : Int) ≤ (if u0 = 0 then (0 : Int) else 1) ∧ (if u0 = 0 then (0 : Int) else 1) ≤ 1) ∧ Q (some (jI (if u0 = 0 then (0 : Int) else 1))) M) : wp kc (d + 1) 225 310 [none, none] [jI u0] M Q :=
  (have K : wp kc (d + 1) 225 318 [none, none] [jI (if u0 = 0 then (0 : Int) else 1)] M Q := (x_zrt c225_318 r225 H.2.1 H.2.2); (x_zeq c225_310 H.1 (fun (h1 : u0 = 0) => (x_ci c225_317 (wp_wk (l' := [none, none]) trivial (by have K := K; first | (simp only [if_pos h1] at K ⊢; exact K) | (exfalso; omega))))) (fun (h2 : u0 ≠ 0) => (x_ci c225_313 (x_goto c225_314 (wp_wk (l' := [none, none]) trivial (by have K := K; first | (simp only [if_neg h2] at K ⊢; exact K) | (exfalso; omega))))))))
theorem s225_325 {kc : List va_E} {d : Nat} {u0 : Int} {M : fx_M} {Q : Option fx_V → fx_M → Prop} (H : ((fx_in32 u0)) ∧ (u0 = 0 → Q (some (jI 0)) M) ∧ (u0 ≠ 0 → wc kc d 249 [jR 133] M (fun v M1 => wp kc (d + 1) 225 332 [none, none] (v.toList ++ []) M1 Q))) : wp kc (d + 1) 225 325 [some (jR 133), none] [jI u0] M Q :=
  (x_zeq c225_325 H.1 (fun h1 => (x_ci c225_339 (x_zrt c225_340 r225 (by decide) (H.2.1 h1)))) (fun h2 => (x_aldn c225_328 rfl (wp_wk (l' := [none, none]) trivial (x_cv (As := []) (st := []) c225_329 cl_133 kl249 rfl (Nat.le_of_ble_eq_true rfl) mx249 (Nat.le_refl _) (H.2.2 h2))))))
theorem s225_332 {kc : List va_E} {d : Nat} {u0 : Int} {M : fx_M} {Q : Option fx_V → fx_M → Prop} (H : ((fx_in32 u0)) ∧ ((0 : Int) ≤ (if u0 = 0 then (0 : Int) else 1) ∧ (if u0 = 0 then (0 : Int) else 1) ≤ 1) ∧ Q (some (jI (if u0 = 0 then (0 : Int) else 1))) M) : wp kc (d + 1) 225 332 [none, none] [jI u0] M Q :=
  (have K : wp kc (d + 1) 225 340 [none, none] [jI (if u0 = 0 then (0 : Int) else 1)] M Q := (x_zrt c225_340 r225 H.2.1 H.2.2); (x_zeq c225_332 H.1 (fun (h1 : u0 = 0) => (x_ci c225_339 (wp_wk (l' := [none, none]) trivial (by have K := K; first | (simp only [if_pos h1] at K ⊢; exact K) | (exfalso; omega))))) (fun (h2 : u0 ≠ 0) => (x_ci c225_335 (x_goto c225_336 (wp_wk (l' := [none, none]) trivial (by have K := K; first | (simp only [if_neg h2] at K ⊢; exact K) | (exfalso; omega))))))))
theorem s225_347 {kc : List va_E} {d : Nat} {u0 : Int} {M : fx_M} {Q : Option fx_V → fx_M → Prop} (H : ((fx_in32 u0)) ∧ (u0 = 0 → Q (some (jI 0)) M) ∧ (u0 ≠ 0 → wc kc d 249 [jR 133] M (fun v M1 => wp kc (d + 1) 225 354 [some (jR 133), none] (v.toList ++ []) M1 Q))) : wp kc (d + 1) 225 347 [some (jR 133), none] [jI u0] M Q :=
  (x_zeq c225_347 H.1 (fun h1 => (x_ci c225_368 (x_zrt c225_369 r225 (by decide) (H.2.1 h1)))) (fun h2 => (x_aldn c225_350 rfl (wp_wk (l' := [some (jR 133), none]) ⟨rfl, trivial⟩ (x_cv (As := []) (st := []) c225_351 cl_133 kl249 rfl (Nat.le_of_ble_eq_true rfl) mx249 (Nat.le_refl _) (H.2.2 h2))))))
theorem s225_354 {kc : List va_E} {d : Nat} {u0 : Int} {M : fx_M} {Q : Option fx_V → fx_M → Prop} (H : ((fx_in32 u0)) ∧ (u0 = 0 → Q (some (jI 0)) M) ∧ (u0 ≠ 0 → wc kc d 236 [jR 133] M (fun v M1 => wp kc (d + 1) 225 361 [none, none] (v.toList ++ []) M1 Q))) : wp kc (d + 1) 225 354 [some (jR 133), none] [jI u0] M Q :=
  (x_zeq c225_354 H.1 (fun h1 => (x_ci c225_368 (x_zrt c225_369 r225 (by decide) (H.2.1 h1)))) (fun h2 => (x_aldn c225_357 rfl (wp_wk (l' := [none, none]) trivial (x_cv (As := []) (st := []) c225_358 cl_133 kl236 rfl (Nat.le_of_ble_eq_true rfl) mx236 (Nat.le_refl _) (H.2.2 h2))))))
theorem s225_361 {kc : List va_E} {d : Nat} {u0 : Int} {M : fx_M} {Q : Option fx_V → fx_M → Prop} (H : ((fx_in32 u0)) ∧ ((0 : Int) ≤ (if u0 = 0 then (0 : Int) else 1) ∧ (if u0 = 0 then (0 : Int) else 1) ≤ 1) ∧ Q (some (jI (if u0 = 0 then (0 : Int) else 1))) M) : wp kc (d + 1) 225 361 [none, none] [jI u0] M Q :=
  (have K : wp kc (d + 1) 225 369 [none, none] [jI (if u0 = 0 then (0 : Int) else 1)] M Q := (x_zrt c225_369 r225 H.2.1 H.2.2); (x_zeq c225_361 H.1 (fun (h1 : u0 = 0) => (x_ci c225_368 (wp_wk (l' := [none, none]) trivial (by have K := K; first | (simp only [if_pos h1] at K ⊢; exact K) | (exfalso; omega))))) (fun (h2 : u0 ≠ 0) => (x_ci c225_364 (x_goto c225_365 (wp_wk (l' := [none, none]) trivial (by have K := K; first | (simp only [if_neg h2] at K ⊢; exact K) | (exfalso; omega))))))))
theorem s225_374 {kc : List va_E} {d : Nat} {u0 : Int} {M : fx_M} {Q : Option fx_V → fx_M → Prop} (H : ((0 : Int) ≤ u0 ∧ u0 ≤ 1) ∧ Q (some (jI u0)) M) : wp kc (d + 1) 225 374 [none, none] [jI u0] M Q :=
  (x_zrt c225_374 r225 H.1 H.2)
theorem s225_381 {kc : List va_E} {d : Nat} {u0 : Int} {M : fx_M} {Q : Option fx_V → fx_M → Prop} (H : ((fx_in32 u0)) ∧ (u0 = 0 → Q (some (jI 0)) M) ∧ (u0 ≠ 0 → wc kc d 251 [jR 133] M (fun v M1 => wp kc (d + 1) 225 388 [none, none] (v.toList ++ []) M1 Q))) : wp kc (d + 1) 225 381 [some (jR 133), none] [jI u0] M Q :=
  (x_zeq c225_381 H.1 (fun h1 => (x_ci c225_395 (x_zrt c225_396 r225 (by decide) (H.2.1 h1)))) (fun h2 => (x_aldn c225_384 rfl (wp_wk (l' := [none, none]) trivial (x_cv (As := []) (st := []) c225_385 cl_133 kl251 rfl (Nat.le_of_ble_eq_true rfl) mx251 (Nat.le_refl _) (H.2.2 h2))))))
theorem s225_388 {kc : List va_E} {d : Nat} {u0 : Int} {M : fx_M} {Q : Option fx_V → fx_M → Prop} (H : ((fx_in32 u0)) ∧ ((0 : Int) ≤ (if u0 = 0 then (0 : Int) else 1) ∧ (if u0 = 0 then (0 : Int) else 1) ≤ 1) ∧ Q (some (jI (if u0 = 0 then (0 : Int) else 1))) M) : wp kc (d + 1) 225 388 [none, none] [jI u0] M Q :=
  (have K : wp kc (d + 1) 225 396 [none, none] [jI (if u0 = 0 then (0 : Int) else 1)] M Q := (x_zrt c225_396 r225 H.2.1 H.2.2); (x_zeq c225_388 H.1 (fun (h1 : u0 = 0) => (x_ci c225_395 (wp_wk (l' := [none, none]) trivial (by have K := K; first | (simp only [if_pos h1] at K ⊢; exact K) | (exfalso; omega))))) (fun (h2 : u0 ≠ 0) => (x_ci c225_391 (x_goto c225_392 (wp_wk (l' := [none, none]) trivial (by have K := K; first | (simp only [if_neg h2] at K ⊢; exact K) | (exfalso; omega))))))))
theorem s225 {kc : List va_E} {d : Nat} {x1 : Int} {M : fx_M} {Q : Option fx_V → fx_M → Prop} (H : fx_in32 x1 ∧ (x1 = 0 → wc kc d 226 [jR 133] M (fun v M1 => wp kc (d + 1) 225 200 [none, none] (v.toList ++ []) M1 Q)) ∧ (x1 = 1 → wc kc d 230 [jR 133] M (fun v M1 => wp kc (d + 1) 225 205 [none, none] (v.toList ++ []) M1 Q)) ∧ (x1 = 2 → wc kc d 234 [jR 133] M (fun v M1 => wp kc (d + 1) 225 210 [none, none] (v.toList ++ []) M1 Q)) ∧ (x1 = 3 → wc kc d 235 [jR 133, jI 1] M (fun v M1 => wp kc (d + 1) 225 216 [none, none] (v.toList ++ []) M1 Q)) ∧ (x1 = 4 → Q (some (jI 1)) M) ∧ (x1 = 5 → Q (some (jI 1)) M) ∧ (x1 = 6 → wc kc d 227 [jR 133, jI 32] M (fun v M1 => wp kc (d + 1) 225 229 [some (jR 133), none] (v.toList ++ []) M1 Q)) ∧ (x1 = 7 → wc kc d 236 [jR 133] M (fun v M1 => wp kc (d + 1) 225 250 [none, none] (v.toList ++ []) M1 Q)) ∧ (x1 = 8 → Q (some (jI 1)) M) ∧ (x1 = 9 → wc kc d 227 [jR 133, jI 32] M (fun v M1 => wp kc (d + 1) 225 257 [some (jR 133), none] (v.toList ++ []) M1 Q)) ∧ (x1 = 10 → Q (some (jI 1)) M) ∧ (x1 = 11 → wc kc d 227 [jR 133, jI 32] M (fun v M1 => wp kc (d + 1) 225 303 [some (jR 133), none] (v.toList ++ []) M1 Q)) ∧ (x1 = 12 → Q (some (jI 1)) M) ∧ (x1 = 13 → Q (some (jI 1)) M) ∧ (x1 = 14 → Q (some (jI 1)) M) ∧ (x1 = 15 → Q (some (jI 1)) M) ∧ (x1 = 16 → Q (some (jI 1)) M) ∧ (x1 = 17 → Q (some (jI 1)) M) ∧ (x1 = 18 → Q (some (jI 1)) M) ∧ (x1 = 19 → wc kc d 235 [jR 133, jI 0] M (fun v M1 => wp kc (d + 1) 225 222 [none, none] (v.toList ++ []) M1 Q)) ∧ (x1 = 20 → Q (some (jI 1)) M) ∧ (x1 = 21 → wc kc d 236 [jR 133] M (fun v M1 => wp kc (d + 1) 225 250 [none, none] (v.toList ++ []) M1 Q)) ∧ (x1 = 22 → Q (some (jI 1)) M) ∧ (x1 = 23 → wc kc d 236 [jR 133] M (fun v M1 => wp kc (d + 1) 225 250 [none, none] (v.toList ++ []) M1 Q)) ∧ (x1 = 24 → Q (some (jI 1)) M) ∧ (x1 = 25 → wc kc d 227 [jR 133, jI 32] M (fun v M1 => wp kc (d + 1) 225 281 [some (jR 133), none] (v.toList ++ []) M1 Q)) ∧ (x1 = 26 → wc kc d 235 [jR 133, jI 1] M (fun v M1 => wp kc (d + 1) 225 216 [none, none] (v.toList ++ []) M1 Q)) ∧ (x1 = 27 → Q (some (jI 1)) M) ∧ (x1 = 28 → wc kc d 236 [jR 133] M (fun v M1 => wp kc (d + 1) 225 250 [none, none] (v.toList ++ []) M1 Q)) ∧ (x1 = 29 → Q (some (jI 1)) M) ∧ (x1 = 30 → wc kc d 235 [jR 133, jI 0] M (fun v M1 => wp kc (d + 1) 225 222 [none, none] (v.toList ++ []) M1 Q)) ∧ (x1 = 31 → wc kc d 236 [jR 133] M (fun v M1 => wp kc (d + 1) 225 250 [none, none] (v.toList ++ []) M1 Q)) ∧ (x1 = 32 → Q (some (jI 1)) M) ∧ (x1 = 33 → Q (some (jI 1)) M) ∧ (x1 = 34 → wc kc d 227 [jR 133, jI 32] M (fun v M1 => wp kc (d + 1) 225 347 [some (jR 133), none] (v.toList ++ []) M1 Q)) ∧ (x1 = 35 → wc kc d 250 [jR 133] M (fun v M1 => wp kc (d + 1) 225 374 [none, none] (v.toList ++ []) M1 Q)) ∧ (x1 = 36 → Q (some (jI 1)) M) ∧ (x1 = 37 → wc kc d 227 [jR 133, jI 32] M (fun v M1 => wp kc (d + 1) 225 325 [some (jR 133), none] (v.toList ++ []) M1 Q)) ∧ (x1 = 38 → wc kc d 227 [jR 133, jI 32] M (fun v M1 => wp kc (d + 1) 225 325 [some (jR 133), none] (v.toList ++ []) M1 Q)) ∧ (x1 = 39 → wc kc d 227 [jR 133, jI 32] M (fun v M1 => wp kc (d + 1) 225 325 [some (jR 133), none] (v.toList ++ []) M1 Q)) ∧ (x1 = 40 → Q (some (jI 1)) M) ∧ (x1 = 41 → wc kc d 236 [jR 133] M (fun v M1 => wp kc (d + 1) 225 250 [none, none] (v.toList ++ []) M1 Q)) ∧ (x1 = 42 → Q (some (jI 1)) M) ∧ (x1 = 43 → Q (some (jI 1)) M) ∧ (x1 = 44 → wc kc d 227 [jR 133, jI 32] M (fun v M1 => wp kc (d + 1) 225 381 [some (jR 133), none] (v.toList ++ []) M1 Q)) ∧ ((x1 < 0 ∨ 45 ≤ x1) → Q (some (jI 1)) M)) : wc kc (d + 1) 225 [jR 133, jI x1] M Q :=
  wc_of (wp_wk (l' := [some (jR 133), some (jI x1)]) ⟨rfl, ⟨rfl, trivial⟩⟩ (s225_0 H))

/- PuzzleHouseModel.scanSizes()Z -/
theorem c226_0 : fx_op 226 0 = some (.aload_n 0, 1, 0) := by decide +kernel
theorem c226_1 : fx_ci 226 1 = some (32, 3) := by decide +kernel
theorem c226_3 : fx_ca 226 3 = some (227, 2, 2, 6) := by decide +kernel
theorem c226_6 : fx_op 226 6 = some (.ifCond .eq 10, 9, 16) := by decide +kernel
theorem c226_16 : fx_ci 226 16 = some (0, 17) := by decide +kernel
theorem c226_9 : fx_op 226 9 = some (.aload_n 0, 10, 9) := by decide +kernel
theorem c226_17 : fx_op 226 17 = some (.ireturn, 18, 17) := by decide +kernel
theorem c226_10 : fx_ca 226 10 = some (229, 1, 2, 13) := by decide +kernel
theorem c226_13 : fx_op 226 13 = some (.ifCond .ne 5, 16, 18) := by decide +kernel
theorem c226_18 : fx_op 226 18 = some (.aload_n 0, 19, 18) := by decide +kernel
theorem c226_19 : fx_op 226 19 = some (.aload_n 0, 20, 19) := by decide +kernel
theorem c226_20 : fx_gf 226 20 = some (12, 8, 23) := by decide +kernel
theorem c226_23 : fx_pf 226 23 = some (12, 17, 0, 26) := by decide +kernel
theorem c226_26 : fx_op 226 26 = some (.aload_n 0, 27, 26) := by decide +kernel
theorem c226_27 : fx_ci 226 27 = some (32, 29) := by decide +kernel
theorem c226_29 : fx_ca 226 29 = some (227, 2, 2, 32) := by decide +kernel
theorem c226_32 : fx_op 226 32 = some (.ifCond .eq 10, 35, 42) := by decide +kernel
theorem c226_42 : fx_ci 226 42 = some (0, 43) := by decide +kernel
theorem c226_35 : fx_op 226 35 = some (.aload_n 0, 36, 35) := by decide +kernel
theorem c226_43 : fx_op 226 43 = some (.ireturn, 44, 43) := by decide +kernel
theorem c226_36 : fx_ca 226 36 = some (229, 1, 2, 39) := by decide +kernel
theorem c226_39 : fx_op 226 39 = some (.ifCond .ne 5, 42, 44) := by decide +kernel
theorem c226_44 : fx_op 226 44 = some (.aload_n 0, 45, 44) := by decide +kernel
theorem c226_45 : fx_op 226 45 = some (.aload_n 0, 46, 45) := by decide +kernel
theorem c226_46 : fx_gf 226 46 = some (12, 8, 49) := by decide +kernel
theorem c226_49 : fx_pf 226 49 = some (12, 18, 0, 52) := by decide +kernel
theorem c226_52 : fx_op 226 52 = some (.aload_n 0, 53, 52) := by decide +kernel
theorem c226_53 : fx_ci 226 53 = some (32, 55) := by decide +kernel
theorem c226_55 : fx_ca 226 55 = some (227, 2, 2, 58) := by decide +kernel
theorem c226_58 : fx_op 226 58 = some (.ifCond .eq 10, 61, 68) := by decide +kernel
theorem c226_68 : fx_ci 226 68 = some (0, 69) := by decide +kernel
theorem c226_61 : fx_op 226 61 = some (.aload_n 0, 62, 61) := by decide +kernel
theorem c226_69 : fx_op 226 69 = some (.ireturn, 70, 69) := by decide +kernel
theorem c226_62 : fx_ca 226 62 = some (229, 1, 2, 65) := by decide +kernel
theorem c226_65 : fx_op 226 65 = some (.ifCond .ne 5, 68, 70) := by decide +kernel
theorem c226_70 : fx_op 226 70 = some (.aload_n 0, 71, 70) := by decide +kernel
theorem c226_71 : fx_op 226 71 = some (.aload_n 0, 72, 71) := by decide +kernel
theorem c226_72 : fx_gf 226 72 = some (12, 8, 75) := by decide +kernel
theorem c226_75 : fx_pf 226 75 = some (12, 19, 0, 78) := by decide +kernel
theorem c226_78 : fx_ci 226 78 = some (1, 79) := by decide +kernel
theorem c226_79 : fx_op 226 79 = some (.ireturn, 80, 79) := by decide +kernel
theorem s226_0 {kc : List va_E} {d : Nat} {M : fx_M} {Q : Option fx_V → fx_M → Prop} (H : wc kc d 227 [jR 133, jI 32] M (fun v M1 => wp kc (d + 1) 226 6 [some (jR 133)] (v.toList ++ []) M1 Q)) : wp kc (d + 1) 226 0 [some (jR 133)] [] M Q :=
  (x_aldn c226_0 rfl (x_ci c226_1 (wp_wk (l' := [some (jR 133)]) ⟨rfl, trivial⟩ (x_cv (As := [jI 32]) (st := []) c226_3 cl_133 kl227 rfl (Nat.le_of_ble_eq_true rfl) mx227 (Nat.le_refl _) H))))
theorem s226_6 {kc : List va_E} {d : Nat} {u0 : Int} {M : fx_M} {Q : Option fx_V → fx_M → Prop} (H : ((fx_in32 u0)) ∧ (u0 = 0 → Q (some (jI 0)) M) ∧ (u0 ≠ 0 → wc kc d 229 [jR 133] M (fun v M1 => wp kc (d + 1) 226 13 [some (jR 133)] (v.toList ++ []) M1 Q))) : wp kc (d + 1) 226 6 [some (jR 133)] [jI u0] M Q :=
  (x_zeq c226_6 H.1 (fun h1 => (x_ci c226_16 (x_zrt c226_17 r226 (by decide) (H.2.1 h1)))) (fun h2 => (x_aldn c226_9 rfl (wp_wk (l' := [some (jR 133)]) ⟨rfl, trivial⟩ (x_cv (As := []) (st := []) c226_10 cl_133 kl229 rfl (Nat.le_of_ble_eq_true rfl) mx229 (Nat.le_refl _) (H.2.2 h2))))))
theorem s226_13 {kc : List va_E} {d : Nat} {u0 : Int} {M : fx_M} {Q : Option fx_V → fx_M → Prop} (H : ((fx_in32 u0)) ∧ (u0 ≠ 0 → wc kc d 227 [jR 133, jI 32] (fx_up M 133 17 (M 133 8)) (fun v M1 => wp kc (d + 1) 226 32 [some (jR 133)] (v.toList ++ []) M1 Q)) ∧ (u0 = 0 → Q (some (jI 0)) M)) : wp kc (d + 1) 226 13 [some (jR 133)] [jI u0] M Q :=
  (x_zne c226_13 H.1 (fun h1 => (x_aldn c226_18 rfl (x_aldn c226_19 rfl (x_gfi c226_20 k_133_8 (x_pfi c226_23 k_133_17 (x_aldn c226_26 rfl (x_ci c226_27 (wp_wk (l' := [some (jR 133)]) ⟨rfl, trivial⟩ (x_cv (As := [jI 32]) (st := []) c226_29 cl_133 kl227 rfl (Nat.le_of_ble_eq_true rfl) mx227 (Nat.le_refl _) (H.2.1 h1)))))))))) (fun h2 => (x_ci c226_16 (x_zrt c226_17 r226 (by decide) (H.2.2 h2)))))
theorem s226_32 {kc : List va_E} {d : Nat} {u0 : Int} {M : fx_M} {Q : Option fx_V → fx_M → Prop} (H : ((fx_in32 u0)) ∧ (u0 = 0 → Q (some (jI 0)) M) ∧ (u0 ≠ 0 → wc kc d 229 [jR 133] M (fun v M1 => wp kc (d + 1) 226 39 [some (jR 133)] (v.toList ++ []) M1 Q))) : wp kc (d + 1) 226 32 [some (jR 133)] [jI u0] M Q :=
  (x_zeq c226_32 H.1 (fun h1 => (x_ci c226_42 (x_zrt c226_43 r226 (by decide) (H.2.1 h1)))) (fun h2 => (x_aldn c226_35 rfl (wp_wk (l' := [some (jR 133)]) ⟨rfl, trivial⟩ (x_cv (As := []) (st := []) c226_36 cl_133 kl229 rfl (Nat.le_of_ble_eq_true rfl) mx229 (Nat.le_refl _) (H.2.2 h2))))))
theorem s226_39 {kc : List va_E} {d : Nat} {u0 : Int} {M : fx_M} {Q : Option fx_V → fx_M → Prop} (H : ((fx_in32 u0)) ∧ (u0 ≠ 0 → wc kc d 227 [jR 133, jI 32] (fx_up M 133 18 (M 133 8)) (fun v M1 => wp kc (d + 1) 226 58 [some (jR 133)] (v.toList ++ []) M1 Q)) ∧ (u0 = 0 → Q (some (jI 0)) M)) : wp kc (d + 1) 226 39 [some (jR 133)] [jI u0] M Q :=
  (x_zne c226_39 H.1 (fun h1 => (x_aldn c226_44 rfl (x_aldn c226_45 rfl (x_gfi c226_46 k_133_8 (x_pfi c226_49 k_133_18 (x_aldn c226_52 rfl (x_ci c226_53 (wp_wk (l' := [some (jR 133)]) ⟨rfl, trivial⟩ (x_cv (As := [jI 32]) (st := []) c226_55 cl_133 kl227 rfl (Nat.le_of_ble_eq_true rfl) mx227 (Nat.le_refl _) (H.2.1 h1)))))))))) (fun h2 => (x_ci c226_42 (x_zrt c226_43 r226 (by decide) (H.2.2 h2)))))
theorem s226_58 {kc : List va_E} {d : Nat} {u0 : Int} {M : fx_M} {Q : Option fx_V → fx_M → Prop} (H : ((fx_in32 u0)) ∧ (u0 = 0 → Q (some (jI 0)) M) ∧ (u0 ≠ 0 → wc kc d 229 [jR 133] M (fun v M1 => wp kc (d + 1) 226 65 [some (jR 133)] (v.toList ++ []) M1 Q))) : wp kc (d + 1) 226 58 [some (jR 133)] [jI u0] M Q :=
  (x_zeq c226_58 H.1 (fun h1 => (x_ci c226_68 (x_zrt c226_69 r226 (by decide) (H.2.1 h1)))) (fun h2 => (x_aldn c226_61 rfl (wp_wk (l' := [some (jR 133)]) ⟨rfl, trivial⟩ (x_cv (As := []) (st := []) c226_62 cl_133 kl229 rfl (Nat.le_of_ble_eq_true rfl) mx229 (Nat.le_refl _) (H.2.2 h2))))))
theorem s226_65 {kc : List va_E} {d : Nat} {u0 : Int} {M : fx_M} {Q : Option fx_V → fx_M → Prop} (H : ((fx_in32 u0)) ∧ (u0 ≠ 0 → Q (some (jI 1)) (fx_up M 133 19 (M 133 8))) ∧ (u0 = 0 → Q (some (jI 0)) M)) : wp kc (d + 1) 226 65 [some (jR 133)] [jI u0] M Q :=
  (x_zne c226_65 H.1 (fun h1 => (x_aldn c226_70 rfl (x_aldn c226_71 rfl (x_gfi c226_72 k_133_8 (x_pfi c226_75 k_133_19 (x_ci c226_78 (x_zrt c226_79 r226 (by decide) (H.2.1 h1)))))))) (fun h2 => (x_ci c226_68 (x_zrt c226_69 r226 (by decide) (H.2.2 h2)))))
theorem s226 {kc : List va_E} {d : Nat} {M : fx_M} {Q : Option fx_V → fx_M → Prop} (H : wc kc d 227 [jR 133, jI 32] M (fun v M1 => wp kc (d + 1) 226 6 [some (jR 133)] (v.toList ++ []) M1 Q)) : wc kc (d + 1) 226 [jR 133] M Q :=
  wc_of (wp_wk (l' := [some (jR 133)]) ⟨rfl, trivial⟩ (s226_0 H))

/- PuzzleHouseModel.isByte(I)Z -/
theorem c227_0 : fx_op 227 0 = some (.aload_n 0, 1, 0) := by decide +kernel
theorem c227_1 : fx_ca 227 1 = some (228, 1, 2, 4) := by decide +kernel
theorem c227_4 : fx_op 227 4 = some (.iload_n 1, 5, 4) := by decide +kernel
theorem c227_5 : fx_op 227 5 = some (.if_icmp .eq 5, 8, 10) := by decide +kernel
theorem c227_10 : fx_op 227 10 = some (.aload_n 0, 11, 10) := by decide +kernel
theorem c227_11 : fx_op 227 11 = some (.dup, 12, 11) := by decide +kernel
theorem c227_12 : fx_gf 227 12 = some (12, 7, 15) := by decide +kernel
theorem c227_15 : fx_ci 227 15 = some (1, 16) := by decide +kernel
theorem c227_16 : fx_op 227 16 = some (.iadd, 17, 16) := by decide +kernel
theorem c227_17 : fx_pf 227 17 = some (12, 7, 0, 20) := by decide +kernel
theorem c227_20 : fx_ci 227 20 = some (1, 21) := by decide +kernel
theorem c227_8 : fx_ci 227 8 = some (0, 9) := by decide +kernel
theorem c227_21 : fx_op 227 21 = some (.ireturn, 22, 21) := by decide +kernel
theorem c227_9 : fx_op 227 9 = some (.ireturn, 10, 9) := by decide +kernel
theorem s227_0 {kc : List va_E} {d : Nat} {x1 : Int} {M : fx_M} {Q : Option fx_V → fx_M → Prop} (H : wc kc d 228 [jR 133] M (fun v M1 => wp kc (d + 1) 227 4 [some (jR 133), some (jI x1)] (v.toList ++ []) M1 Q)) : wp kc (d + 1) 227 0 [some (jR 133), some (jI x1)] [] M Q :=
  (x_aldn c227_0 rfl (wp_wk (l' := [some (jR 133), some (jI x1)]) ⟨rfl, ⟨rfl, trivial⟩⟩ (x_cv (As := []) (st := []) c227_1 cl_133 kl228 rfl (Nat.le_of_ble_eq_true rfl) mx228 (Nat.le_refl _) H)))
theorem s227_4 {kc : List va_E} {d : Nat} {v1 u0 : Int} {M : fx_M} {Q : Option fx_V → fx_M → Prop} (H : ((fx_in32 u0) ∧ (fx_in32 v1)) ∧ (u0 = v1 → Q (some (jI 1)) (fx_up M 133 7 ((M 133 7) + 1))) ∧ (u0 ≠ v1 → Q (some (jI 0)) M)) : wp kc (d + 1) 227 4 [some (jR 133), some (jI v1)] [jI u0] M Q :=
  (x_ildn c227_4 rfl (x_ceq c227_5 H.1.1 H.1.2 (fun h1 => (x_aldn c227_10 rfl (x_dupr c227_11 (x_gfi c227_12 k_133_7 (x_ci c227_15 (x_iadd c227_16 (x_pfi c227_17 k_133_7 (x_ci c227_20 (x_zrt c227_21 r227 (by decide) (H.2.1 h1)))))))))) (fun h2 => (x_ci c227_8 (x_zrt c227_9 r227 (by decide) (H.2.2 h2))))))
theorem s227 {kc : List va_E} {d : Nat} {x1 : Int} {M : fx_M} {Q : Option fx_V → fx_M → Prop} (H : wc kc d 228 [jR 133] M (fun v M1 => wp kc (d + 1) 227 4 [some (jR 133), some (jI x1)] (v.toList ++ []) M1 Q)) : wc kc (d + 1) 227 [jR 133, jI x1] M Q :=
  wc_of (wp_wk (l' := [some (jR 133), some (jI x1)]) ⟨rfl, ⟨rfl, trivial⟩⟩ (s227_0 H))

/- PuzzleHouseModel.here()I -/
theorem c228_0 : fx_op 228 0 = some (.aload_n 0, 1, 0) := by decide +kernel
theorem c228_1 : fx_gf 228 1 = some (12, 7, 4) := by decide +kernel
theorem c228_4 : fx_op 228 4 = some (.aload_n 0, 5, 4) := by decide +kernel
theorem c228_5 : fx_gf 228 5 = some (12, 3, 8) := by decide +kernel
theorem c228_8 : fx_op 228 8 = some (.if_icmp .ge 15, 11, 23) := by decide +kernel
theorem c228_23 : fx_ci 228 23 = some ((-1), 24) := by decide +kernel
theorem c228_11 : fx_op 228 11 = some (.aload_n 0, 12, 11) := by decide +kernel
theorem c228_12 : fx_gf 228 12 = some (12, 4, 15) := by decide +kernel
theorem c228_15 : fx_op 228 15 = some (.aload_n 0, 16, 15) := by decide +kernel
theorem c228_16 : fx_gf 228 16 = some (12, 7, 19) := by decide +kernel
theorem c228_19 : fx_op 228 19 = some (.iaload, 20, 19) := by decide +kernel
theorem c228_20 : fx_op 228 20 = some (.goto 4, 23, 24) := by decide +kernel
theorem c228_24 : fx_op 228 24 = some (.ireturn, 25, 24) := by decide +kernel
theorem s228_0 {kc : List va_E} {d : Nat} {M : fx_M} {Q : Option fx_V → fx_M → Prop} (H : ((fx_in32 (M 133 7))) ∧ ((fx_in32 (M 133 3))) ∧ (M 133 7 < M 133 3 → ((((0 : Int) ≤ M 133 7 ∧ M 133 7 < 6100)))) ∧ Q (some (jI (if M 133 7 < M 133 3 then (M 135 (M 133 7) : Int) else (-1)))) M) : wp kc (d + 1) 228 0 [some (jR 133)] [] M Q :=
  (x_aldn c228_0 rfl (x_gfi c228_1 k_133_7 (x_aldn c228_4 rfl (x_gfi c228_5 k_133_3 (have K : wp kc (d + 1) 228 24 [none] [jI (if M 133 7 < M 133 3 then (M 135 (M 133 7) : Int) else (-1))] M Q := (x_irt c228_24 r228 H.2.2.2); (x_cge c228_8 H.1 H.2.1 (fun (h1 : M 133 3 ≤ M 133 7) => (x_ci c228_23 (wp_wk (l' := [none]) trivial (by have K := K; first | (simp only [if_neg (Int.not_lt.mpr h1)] at K ⊢; exact K) | (exfalso; omega))))) (fun (h2 : M 133 7 < M 133 3) => (x_aldn c228_11 rfl (x_gfr c228_12 k_133_4 (x_aldn c228_15 rfl (x_gfi c228_16 k_133_7 (x_iald c228_19 a_135 (H.2.2.1 h2) (by decide) (x_goto c228_20 (wp_wk (l' := [none]) trivial (by have K := K; first | (simp only [if_pos h2] at K ⊢; exact K) | (exfalso; omega))))))))))))))))
theorem s228 {kc : List va_E} {d : Nat} {M : fx_M} {Q : Option fx_V → fx_M → Prop} (H : ((fx_in32 (M 133 7))) ∧ ((fx_in32 (M 133 3))) ∧ (M 133 7 < M 133 3 → ((((0 : Int) ≤ M 133 7 ∧ M 133 7 < 6100)))) ∧ Q (some (jI (if M 133 7 < M 133 3 then (M 135 (M 133 7) : Int) else (-1)))) M) : wc kc (d + 1) 228 [jR 133] M Q :=
  wc_of (wp_wk (l' := [some (jR 133)]) ⟨rfl, trivial⟩ (s228_0 H))

/- PuzzleHouseModel.scanDigit()Z -/
theorem c229_0 : fx_op 229 0 = some (.aload_n 0, 1, 0) := by decide +kernel
theorem c229_1 : fx_ca 229 1 = some (228, 1, 2, 4) := by decide +kernel
theorem c229_4 : fx_ci 229 4 = some (48, 6) := by decide +kernel
theorem c229_6 : fx_op 229 6 = some (.if_icmp .lt 12, 9, 18) := by decide +kernel
theorem c229_18 : fx_ci 229 18 = some (0, 19) := by decide +kernel
theorem c229_9 : fx_op 229 9 = some (.aload_n 0, 10, 9) := by decide +kernel
theorem c229_19 : fx_op 229 19 = some (.ireturn, 20, 19) := by decide +kernel
theorem c229_10 : fx_ca 229 10 = some (228, 1, 2, 13) := by decide +kernel
theorem c229_13 : fx_ci 229 13 = some (57, 15) := by decide +kernel
theorem c229_15 : fx_op 229 15 = some (.if_icmp .le 5, 18, 20) := by decide +kernel
theorem c229_20 : fx_op 229 20 = some (.aload_n 0, 21, 20) := by decide +kernel
theorem c229_21 : fx_op 229 21 = some (.aload_n 0, 22, 21) := by decide +kernel
theorem c229_22 : fx_ca 229 22 = some (228, 1, 2, 25) := by decide +kernel
theorem c229_25 : fx_ci 229 25 = some (48, 27) := by decide +kernel
theorem c229_27 : fx_op 229 27 = some (.isub, 28, 27) := by decide +kernel
theorem c229_28 : fx_pf 229 28 = some (12, 8, 0, 31) := by decide +kernel
theorem c229_31 : fx_op 229 31 = some (.aload_n 0, 32, 31) := by decide +kernel
theorem c229_32 : fx_op 229 32 = some (.dup, 33, 32) := by decide +kernel
theorem c229_33 : fx_gf 229 33 = some (12, 7, 36) := by decide +kernel
theorem c229_36 : fx_ci 229 36 = some (1, 37) := by decide +kernel
theorem c229_37 : fx_op 229 37 = some (.iadd, 38, 37) := by decide +kernel
theorem c229_38 : fx_pf 229 38 = some (12, 7, 0, 41) := by decide +kernel
theorem c229_41 : fx_ci 229 41 = some (1, 42) := by decide +kernel
theorem c229_42 : fx_op 229 42 = some (.ireturn, 43, 42) := by decide +kernel
theorem s229_0 {kc : List va_E} {d : Nat} {M : fx_M} {Q : Option fx_V → fx_M → Prop} (H : wc kc d 228 [jR 133] M (fun v M1 => wp kc (d + 1) 229 4 [some (jR 133)] (v.toList ++ []) M1 Q)) : wp kc (d + 1) 229 0 [some (jR 133)] [] M Q :=
  (x_aldn c229_0 rfl (wp_wk (l' := [some (jR 133)]) ⟨rfl, trivial⟩ (x_cv (As := []) (st := []) c229_1 cl_133 kl228 rfl (Nat.le_of_ble_eq_true rfl) mx228 (Nat.le_refl _) H)))
theorem s229_4 {kc : List va_E} {d : Nat} {u0 : Int} {M : fx_M} {Q : Option fx_V → fx_M → Prop} (H : ((fx_in32 u0)) ∧ (u0 < 48 → Q (some (jI 0)) M) ∧ (48 ≤ u0 → wc kc d 228 [jR 133] M (fun v M1 => wp kc (d + 1) 229 13 [some (jR 133)] (v.toList ++ []) M1 Q))) : wp kc (d + 1) 229 4 [some (jR 133)] [jI u0] M Q :=
  (x_ci c229_4 (x_clt c229_6 H.1 (by decide) (fun h1 => (x_ci c229_18 (x_zrt c229_19 r229 (by decide) (H.2.1 h1)))) (fun h2 => (x_aldn c229_9 rfl (wp_wk (l' := [some (jR 133)]) ⟨rfl, trivial⟩ (x_cv (As := []) (st := []) c229_10 cl_133 kl228 rfl (Nat.le_of_ble_eq_true rfl) mx228 (Nat.le_refl _) (H.2.2 h2)))))))
theorem s229_13 {kc : List va_E} {d : Nat} {u0 : Int} {M : fx_M} {Q : Option fx_V → fx_M → Prop} (H : ((fx_in32 u0)) ∧ (u0 ≤ 57 → wc kc d 228 [jR 133] M (fun v M1 => wp kc (d + 1) 229 25 [some (jR 133)] (v.toList ++ [jR 133]) M1 Q)) ∧ (57 < u0 → Q (some (jI 0)) M)) : wp kc (d + 1) 229 13 [some (jR 133)] [jI u0] M Q :=
  (x_ci c229_13 (x_cle c229_15 H.1 (by decide) (fun h1 => (x_aldn c229_20 rfl (x_aldn c229_21 rfl (wp_wk (l' := [some (jR 133)]) ⟨rfl, trivial⟩ (x_cv (As := []) (st := [jR 133]) c229_22 cl_133 kl228 rfl (Nat.le_of_ble_eq_true rfl) mx228 (Nat.le_refl _) (H.2.1 h1)))))) (fun h2 => (x_ci c229_18 (x_zrt c229_19 r229 (by decide) (H.2.2 h2))))))
theorem s229_25 {kc : List va_E} {d : Nat} {u0 : Int} {M : fx_M} {Q : Option fx_V → fx_M → Prop} (H : Q (some (jI 1)) (fx_up (fx_up M 133 8 (u0 - 48)) 133 7 ((M 133 7) + 1))) : wp kc (d + 1) 229 25 [some (jR 133)] [jI u0, jR 133] M Q :=
  (x_ci c229_25 (x_isub c229_27 (x_pfi c229_28 k_133_8 (x_aldn c229_31 rfl (x_dupr c229_32 (x_gfi c229_33 k_133_7 (wp_vI (fx_upK (by decide)) (x_ci c229_36 (x_iadd c229_37 (x_pfi c229_38 k_133_7 (x_ci c229_41 (x_zrt c229_42 r229 (by decide) H))))))))))))
theorem s229 {kc : List va_E} {d : Nat} {M : fx_M} {Q : Option fx_V → fx_M → Prop} (H : wc kc d 228 [jR 133] M (fun v M1 => wp kc (d + 1) 229 4 [some (jR 133)] (v.toList ++ []) M1 Q)) : wc kc (d + 1) 229 [jR 133] M Q :=
  wc_of (wp_wk (l' := [some (jR 133)]) ⟨rfl, trivial⟩ (s229_0 H))

/- PuzzleHouseModel.scanRule()Z -/
theorem c230_0 : fx_op 230 0 = some (.aload_n 0, 1, 0) := by decide +kernel
theorem c230_1 : fx_ca 230 1 = some (231, 1, 2, 4) := by decide +kernel
theorem c230_4 : fx_op 230 4 = some (.ifCond .ne 5, 7, 9) := by decide +kernel
theorem c230_9 : fx_op 230 9 = some (.aload_n 0, 10, 9) := by decide +kernel
theorem c230_10 : fx_ci 230 10 = some (0, 11) := by decide +kernel
theorem c230_11 : fx_pf 230 11 = some (12, 12, 0, 14) := by decide +kernel
theorem c230_14 : fx_ci 230 14 = some (1, 15) := by decide +kernel
theorem c230_15 : fx_op 230 15 = some (.istore_n 1, 16, 15) := by decide +kernel
theorem c230_7 : fx_ci 230 7 = some (0, 8) := by decide +kernel
theorem c230_8 : fx_op 230 8 = some (.ireturn, 9, 8) := by decide +kernel
theorem c230_16 : fx_op 230 16 = some (.iload_n 1, 17, 16) := by decide +kernel
theorem c230_17 : fx_op 230 17 = some (.ifCond .eq 70, 20, 87) := by decide +kernel
theorem c230_87 : fx_ci 230 87 = some (1, 88) := by decide +kernel
theorem c230_20 : fx_op 230 20 = some (.aload_n 0, 21, 20) := by decide +kernel
theorem c230_21 : fx_ci 230 21 = some (32, 23) := by decide +kernel
theorem c230_88 : fx_op 230 88 = some (.ireturn, 89, 88) := by decide +kernel
theorem c230_23 : fx_ca 230 23 = some (227, 2, 2, 26) := by decide +kernel
theorem c230_26 : fx_op 230 26 = some (.ifCond .eq 10, 29, 36) := by decide +kernel
theorem c230_36 : fx_ci 230 36 = some (0, 37) := by decide +kernel
theorem c230_29 : fx_op 230 29 = some (.aload_n 0, 30, 29) := by decide +kernel
theorem c230_37 : fx_op 230 37 = some (.ireturn, 38, 37) := by decide +kernel
theorem c230_30 : fx_ca 230 30 = some (232, 1, 2, 33) := by decide +kernel
theorem c230_33 : fx_op 230 33 = some (.ifCond .ne 5, 36, 38) := by decide +kernel
theorem c230_38 : fx_op 230 38 = some (.aload_n 0, 39, 38) := by decide +kernel
theorem c230_39 : fx_gf 230 39 = some (12, 12, 42) := by decide +kernel
theorem c230_42 : fx_ci 230 42 = some (4, 43) := by decide +kernel
theorem c230_43 : fx_op 230 43 = some (.if_icmp .ge 16, 46, 59) := by decide +kernel
theorem c230_46 : fx_op 230 46 = some (.aload_n 0, 47, 46) := by decide +kernel
theorem c230_47 : fx_gf 230 47 = some (12, 13, 50) := by decide +kernel
theorem c230_50 : fx_op 230 50 = some (.aload_n 0, 51, 50) := by decide +kernel
theorem c230_51 : fx_gf 230 51 = some (12, 12, 54) := by decide +kernel
theorem c230_54 : fx_op 230 54 = some (.aload_n 0, 55, 54) := by decide +kernel
theorem c230_55 : fx_gf 230 55 = some (12, 8, 58) := by decide +kernel
theorem c230_59 : fx_op 230 59 = some (.aload_n 0, 60, 59) := by decide +kernel
theorem c230_60 : fx_op 230 60 = some (.dup, 61, 60) := by decide +kernel
theorem c230_61 : fx_gf 230 61 = some (12, 12, 64) := by decide +kernel
theorem c230_64 : fx_ci 230 64 = some (1, 65) := by decide +kernel
theorem c230_65 : fx_op 230 65 = some (.iadd, 66, 65) := by decide +kernel
theorem c230_66 : fx_pf 230 66 = some (12, 12, 0, 69) := by decide +kernel
theorem c230_69 : fx_op 230 69 = some (.aload_n 0, 70, 69) := by decide +kernel
theorem c230_70 : fx_ca 230 70 = some (228, 1, 2, 73) := by decide +kernel
theorem c230_58 : fx_op 230 58 = some (.iastore, 59, 58) := by decide +kernel
theorem c230_73 : fx_ci 230 73 = some (32, 75) := by decide +kernel
theorem c230_75 : fx_op 230 75 = some (.if_icmp .ne 7, 78, 82) := by decide +kernel
theorem c230_82 : fx_ci 230 82 = some (0, 83) := by decide +kernel
theorem c230_78 : fx_ci 230 78 = some (1, 79) := by decide +kernel
theorem c230_79 : fx_op 230 79 = some (.goto 4, 82, 83) := by decide +kernel
theorem c230_83 : fx_op 230 83 = some (.istore_n 1, 84, 83) := by decide +kernel
theorem c230_84 : fx_op 230 84 = some (.goto (-68), 87, 16) := by decide +kernel
theorem s230_0 {kc : List va_E} {d : Nat} {M : fx_M} {Q : Option fx_V → fx_M → Prop} (H : wc kc d 231 [jR 133] M (fun v M1 => wp kc (d + 1) 230 4 [some (jR 133), none] (v.toList ++ []) M1 Q)) : wp kc (d + 1) 230 0 [some (jR 133), none] [] M Q :=
  (x_aldn c230_0 rfl (wp_wk (l' := [some (jR 133), none]) ⟨rfl, trivial⟩ (x_cv (As := []) (st := []) c230_1 cl_133 kl231 rfl (Nat.le_of_ble_eq_true rfl) mx231 (Nat.le_refl _) H)))
theorem s230_4 {kc : List va_E} {d : Nat} {u0 : Int} {M : fx_M} {Q : Option fx_V → fx_M → Prop} (H : ((fx_in32 u0)) ∧ (u0 ≠ 0 → wp kc (d + 1) 230 16 [some (jR 133), some (jI 1)] [] (fx_up M 133 12 0) Q) ∧ (u0 = 0 → Q (some (jI 0)) M)) : wp kc (d + 1) 230 4 [some (jR 133), none] [jI u0] M Q :=
  (x_zne c230_4 H.1 (fun h1 => (x_aldn c230_9 rfl (x_ci c230_10 (x_pfi c230_11 k_133_12 (x_ci c230_14 (x_istn (l' := [some (jR 133), some (jI 1)]) c230_15 rfl (wp_wk (l' := [some (jR 133), some (jI 1)]) ⟨rfl, ⟨rfl, trivial⟩⟩ (H.2.1 h1)))))))) (fun h2 => (x_ci c230_7 (x_zrt c230_8 r230 (by decide) (H.2.2 h2)))))
theorem s230_16 {kc : List va_E} {d : Nat} {v1 : Int} {M : fx_M} {Q : Option fx_V → fx_M → Prop} (H : ((fx_in32 v1)) ∧ (v1 = 0 → Q (some (jI 1)) M) ∧ (v1 ≠ 0 → wc kc d 227 [jR 133, jI 32] M (fun v M1 => wp kc (d + 1) 230 26 [some (jR 133), none] (v.toList ++ []) M1 Q))) : wp kc (d + 1) 230 16 [some (jR 133), some (jI v1)] [] M Q :=
  (x_ildn c230_16 rfl (x_zeq c230_17 H.1 (fun h1 => (x_ci c230_87 (x_zrt c230_88 r230 (by decide) (H.2.1 h1)))) (fun h2 => (x_aldn c230_20 rfl (x_ci c230_21 (wp_wk (l' := [some (jR 133), none]) ⟨rfl, trivial⟩ (x_cv (As := [jI 32]) (st := []) c230_23 cl_133 kl227 rfl (Nat.le_of_ble_eq_true rfl) mx227 (Nat.le_refl _) (H.2.2 h2))))))))
theorem s230_26 {kc : List va_E} {d : Nat} {u0 : Int} {M : fx_M} {Q : Option fx_V → fx_M → Prop} (H : ((fx_in32 u0)) ∧ (u0 = 0 → Q (some (jI 0)) M) ∧ (u0 ≠ 0 → wc kc d 232 [jR 133] M (fun v M1 => wp kc (d + 1) 230 33 [some (jR 133), none] (v.toList ++ []) M1 Q))) : wp kc (d + 1) 230 26 [some (jR 133), none] [jI u0] M Q :=
  (x_zeq c230_26 H.1 (fun h1 => (x_ci c230_36 (x_zrt c230_37 r230 (by decide) (H.2.1 h1)))) (fun h2 => (x_aldn c230_29 rfl (wp_wk (l' := [some (jR 133), none]) ⟨rfl, trivial⟩ (x_cv (As := []) (st := []) c230_30 cl_133 kl232 rfl (Nat.le_of_ble_eq_true rfl) mx232 (Nat.le_refl _) (H.2.2 h2))))))
theorem s230_33 {kc : List va_E} {d : Nat} {u0 : Int} {M : fx_M} {Q : Option fx_V → fx_M → Prop} (H : ((fx_in32 u0)) ∧ (u0 ≠ 0 → ((fx_in32 (M 133 12))) ∧ (4 ≤ M 133 12 → wc kc d 228 [jR 133] (fx_up M 133 12 ((M 133 12) + 1)) (fun v M1 => wp kc (d + 1) 230 73 [some (jR 133), none] (v.toList ++ []) M1 Q)) ∧ (M 133 12 < 4 → (((0 : Int) ≤ M 133 12 ∧ M 133 12 < 4)) ∧ wc kc d 228 [jR 133] (fx_up (fx_up M 137 (M 133 12) (M 133 8)) 133 12 ((M 133 12) + 1)) (fun v M1 => wp kc (d + 1) 230 73 [some (jR 133), none] (v.toList ++ []) M1 Q))) ∧ (u0 = 0 → Q (some (jI 0)) M)) : wp kc (d + 1) 230 33 [some (jR 133), none] [jI u0] M Q :=
  (x_zne c230_33 H.1 (fun h3 => (x_aldn c230_38 rfl (x_gfi c230_39 k_133_12 (x_ci c230_42 (x_cge c230_43 (H.2.1 h3).1 (by decide) (fun h1 => (x_aldn c230_59 rfl (x_dupr c230_60 (x_gfi c230_61 k_133_12 (x_ci c230_64 (x_iadd c230_65 (x_pfi c230_66 k_133_12 (x_aldn c230_69 rfl (wp_wk (l' := [some (jR 133), none]) ⟨rfl, trivial⟩ (x_cv (As := []) (st := []) c230_70 cl_133 kl228 rfl (Nat.le_of_ble_eq_true rfl) mx228 (Nat.le_refl _) ((H.2.1 h3).2.1 h1))))))))))) (fun h2 => (x_aldn c230_46 rfl (x_gfr c230_47 k_133_13 (x_aldn c230_50 rfl (x_gfi c230_51 k_133_12 (x_aldn c230_54 rfl (x_gfi c230_55 k_133_8 (x_iast c230_58 a_137 ((H.2.1 h3).2.2 h2).1 (by decide) (x_aldn c230_59 rfl (x_dupr c230_60 (x_gfi c230_61 k_133_12 (wp_vI (fx_upA (by decide)) (x_ci c230_64 (x_iadd c230_65 (x_pfi c230_66 k_133_12 (x_aldn c230_69 rfl (wp_wk (l' := [some (jR 133), none]) ⟨rfl, trivial⟩ (x_cv (As := []) (st := []) c230_70 cl_133 kl228 rfl (Nat.le_of_ble_eq_true rfl) mx228 (Nat.le_refl _) ((H.2.1 h3).2.2 h2).2))))))))))))))))))))))) (fun h4 => (x_ci c230_36 (x_zrt c230_37 r230 (by decide) (H.2.2 h4)))))
theorem s230_73 {kc : List va_E} {d : Nat} {u0 : Int} {M : fx_M} {Q : Option fx_V → fx_M → Prop} (H : ((fx_in32 u0)) ∧ wp kc (d + 1) 230 16 [some (jR 133), some (jI (if u0 = 32 then (1 : Int) else 0))] [] M Q) : wp kc (d + 1) 230 73 [some (jR 133), none] [jI u0] M Q :=
  (x_ci c230_73 (have K : wp kc (d + 1) 230 83 [some (jR 133), none] [jI (if u0 = 32 then (1 : Int) else 0)] M Q := (x_istn (l' := [some (jR 133), some (jI (if u0 = 32 then (1 : Int) else 0))]) c230_83 rfl (x_goto c230_84 (wp_wk (l' := [some (jR 133), some (jI (if u0 = 32 then (1 : Int) else 0))]) ⟨rfl, ⟨rfl, trivial⟩⟩ H.2))); (x_cne c230_75 H.1 (by decide) (fun (h1 : u0 ≠ 32) => (x_ci c230_82 (wp_wk (l' := [some (jR 133), none]) ⟨rfl, trivial⟩ (by have K := K; first | (simp only [if_neg h1] at K ⊢; exact K) | (exfalso; omega))))) (fun (h2 : u0 = 32) => (x_ci c230_78 (x_goto c230_79 (wp_wk (l' := [some (jR 133), none]) ⟨rfl, trivial⟩ (by have K := K; first | (simp only [if_pos h2] at K ⊢; exact K) | (exfalso; omega)))))))))
theorem s230 {kc : List va_E} {d : Nat} {M : fx_M} {Q : Option fx_V → fx_M → Prop} (H : wc kc d 231 [jR 133] M (fun v M1 => wp kc (d + 1) 230 4 [some (jR 133), none] (v.toList ++ []) M1 Q)) : wc kc (d + 1) 230 [jR 133] M Q :=
  wc_of (wp_wk (l' := [some (jR 133), none]) ⟨rfl, trivial⟩ (s230_0 H))

/- PuzzleHouseModel.scanKind()Z -/
theorem c231_0 : fx_op 231 0 = some (.aload_n 0, 1, 0) := by decide +kernel
theorem c231_1 : fx_ci 231 1 = some (32, 3) := by decide +kernel
theorem c231_3 : fx_ca 231 3 = some (227, 2, 2, 6) := by decide +kernel
theorem c231_6 : fx_op 231 6 = some (.ifCond .ne 5, 9, 11) := by decide +kernel
theorem c231_11 : fx_op 231 11 = some (.aload_n 0, 12, 11) := by decide +kernel
theorem c231_12 : fx_op 231 12 = some (.aload_n 0, 13, 12) := by decide +kernel
theorem c231_13 : fx_ci 231 13 = some (45, 15) := by decide +kernel
theorem c231_15 : fx_ci 231 15 = some (52, 17) := by decide +kernel
theorem c231_9 : fx_ci 231 9 = some (0, 10) := by decide +kernel
theorem c231_17 : fx_ca 231 17 = some (220, 3, 2, 20) := by decide +kernel
theorem c231_10 : fx_op 231 10 = some (.ireturn, 11, 10) := by decide +kernel
theorem c231_20 : fx_pf 231 20 = some (12, 10, 0, 23) := by decide +kernel
theorem c231_23 : fx_op 231 23 = some (.aload_n 0, 24, 23) := by decide +kernel
theorem c231_24 : fx_ci 231 24 = some (0, 25) := by decide +kernel
theorem c231_25 : fx_pf 231 25 = some (12, 11, 0, 28) := by decide +kernel
theorem c231_28 : fx_op 231 28 = some (.aload_n 0, 29, 28) := by decide +kernel
theorem c231_29 : fx_gf 231 29 = some (12, 10, 32) := by decide +kernel
theorem c231_32 : fx_ci 231 32 = some (49, 34) := by decide +kernel
theorem c231_34 : fx_op 231 34 = some (.if_icmp .ge 16, 37, 50) := by decide +kernel
theorem c231_50 : fx_op 231 50 = some (.aload_n 0, 51, 50) := by decide +kernel
theorem c231_51 : fx_ci 231 51 = some (32, 53) := by decide +kernel
theorem c231_37 : fx_op 231 37 = some (.aload_n 0, 38, 37) := by decide +kernel
theorem c231_38 : fx_gf 231 38 = some (12, 10, 41) := by decide +kernel
theorem c231_41 : fx_op 231 41 = some (.ifCond .lt 7, 44, 48) := by decide +kernel
theorem c231_48 : fx_ci 231 48 = some (0, 49) := by decide +kernel
theorem c231_44 : fx_ci 231 44 = some (1, 45) := by decide +kernel
theorem c231_45 : fx_op 231 45 = some (.goto 4, 48, 49) := by decide +kernel
theorem c231_53 : fx_ca 231 53 = some (227, 2, 2, 56) := by decide +kernel
theorem c231_49 : fx_op 231 49 = some (.ireturn, 50, 49) := by decide +kernel
theorem c231_56 : fx_op 231 56 = some (.ifCond .eq 10, 59, 66) := by decide +kernel
theorem c231_66 : fx_ci 231 66 = some (0, 67) := by decide +kernel
theorem c231_59 : fx_op 231 59 = some (.aload_n 0, 60, 59) := by decide +kernel
theorem c231_67 : fx_op 231 67 = some (.ireturn, 68, 67) := by decide +kernel
theorem c231_60 : fx_ca 231 60 = some (232, 1, 2, 63) := by decide +kernel
theorem c231_63 : fx_op 231 63 = some (.ifCond .ne 5, 66, 68) := by decide +kernel
theorem c231_68 : fx_op 231 68 = some (.aload_n 0, 69, 68) := by decide +kernel
theorem c231_69 : fx_op 231 69 = some (.aload_n 0, 70, 69) := by decide +kernel
theorem c231_70 : fx_gf 231 70 = some (12, 8, 73) := by decide +kernel
theorem c231_73 : fx_pf 231 73 = some (12, 11, 0, 76) := by decide +kernel
theorem c231_76 : fx_ci 231 76 = some (1, 77) := by decide +kernel
theorem c231_77 : fx_op 231 77 = some (.ireturn, 78, 77) := by decide +kernel
theorem s231_0 {kc : List va_E} {d : Nat} {M : fx_M} {Q : Option fx_V → fx_M → Prop} (H : wc kc d 227 [jR 133, jI 32] M (fun v M1 => wp kc (d + 1) 231 6 [some (jR 133)] (v.toList ++ []) M1 Q)) : wp kc (d + 1) 231 0 [some (jR 133)] [] M Q :=
  (x_aldn c231_0 rfl (x_ci c231_1 (wp_wk (l' := [some (jR 133)]) ⟨rfl, trivial⟩ (x_cv (As := [jI 32]) (st := []) c231_3 cl_133 kl227 rfl (Nat.le_of_ble_eq_true rfl) mx227 (Nat.le_refl _) H))))
theorem s231_6 {kc : List va_E} {d : Nat} {u0 : Int} {M : fx_M} {Q : Option fx_V → fx_M → Prop} (H : ((fx_in32 u0)) ∧ (u0 ≠ 0 → wc kc d 220 [jR 133, jI 45, jI 52] M (fun v M1 => wp kc (d + 1) 231 20 [some (jR 133)] (v.toList ++ [jR 133]) M1 Q)) ∧ (u0 = 0 → Q (some (jI 0)) M)) : wp kc (d + 1) 231 6 [some (jR 133)] [jI u0] M Q :=
  (x_zne c231_6 H.1 (fun h1 => (x_aldn c231_11 rfl (x_aldn c231_12 rfl (x_ci c231_13 (x_ci c231_15 (wp_wk (l' := [some (jR 133)]) ⟨rfl, trivial⟩ (x_cv (As := [jI 45, jI 52]) (st := [jR 133]) c231_17 cl_133 kl220 rfl (Nat.le_of_ble_eq_true rfl) mx220 (Nat.le_refl _) (H.2.1 h1)))))))) (fun h2 => (x_ci c231_9 (x_zrt c231_10 r231 (by decide) (H.2.2 h2)))))
theorem s231_20 {kc : List va_E} {d : Nat} {u0 : Int} {M : fx_M} {Q : Option fx_V → fx_M → Prop} (H : ((fx_in32 u0)) ∧ (49 ≤ u0 → wc kc d 227 [jR 133, jI 32] (fx_up (fx_up M 133 10 u0) 133 11 0) (fun v M1 => wp kc (d + 1) 231 56 [some (jR 133)] (v.toList ++ []) M1 Q)) ∧ (u0 < 49 → ((fx_in32 u0)) ∧ ((0 : Int) ≤ (if u0 < 0 then (0 : Int) else 1) ∧ (if u0 < 0 then (0 : Int) else 1) ≤ 1) ∧ Q (some (jI (if u0 < 0 then (0 : Int) else 1))) (fx_up (fx_up M 133 10 u0) 133 11 0))) : wp kc (d + 1) 231 20 [some (jR 133)] [jI u0, jR 133] M Q :=
  (x_pfi c231_20 k_133_10 (x_aldn c231_23 rfl (x_ci c231_24 (x_pfi c231_25 k_133_11 (x_aldn c231_28 rfl (x_gfi c231_29 k_133_10 (wp_vI (((fx_upK (by decide)).trans (fx_upS))) (x_ci c231_32 (x_cge c231_34 H.1 (by decide) (fun h1 => (x_aldn c231_50 rfl (x_ci c231_51 (wp_wk (l' := [some (jR 133)]) ⟨rfl, trivial⟩ (x_cv (As := [jI 32]) (st := []) c231_53 cl_133 kl227 rfl (Nat.le_of_ble_eq_true rfl) mx227 (Nat.le_refl _) (H.2.1 h1)))))) (fun h2 => (x_aldn c231_37 rfl (x_gfi c231_38 k_133_10 (wp_vI (((fx_upK (by decide)).trans (fx_upS))) (have K : wp kc (d + 1) 231 49 [none] [jI (if u0 < 0 then (0 : Int) else 1)] (fx_up (fx_up M 133 10 u0) 133 11 0) Q := (x_zrt c231_49 r231 (H.2.2 h2).2.1 (H.2.2 h2).2.2); (x_zlt c231_41 (H.2.2 h2).1 (fun (h3 : u0 < 0) => (x_ci c231_48 (wp_wk (l' := [none]) trivial (by have K := K; first | (simp only [if_pos h3] at K ⊢; exact K) | (exfalso; omega))))) (fun (h4 : 0 ≤ u0) => (x_ci c231_44 (x_goto c231_45 (wp_wk (l' := [none]) trivial (by have K := K; first | (simp only [if_neg (Int.not_lt.mpr h4)] at K ⊢; exact K) | (exfalso; omega)))))))))))))))))))))
theorem s231_56 {kc : List va_E} {d : Nat} {u0 : Int} {M : fx_M} {Q : Option fx_V → fx_M → Prop} (H : ((fx_in32 u0)) ∧ (u0 = 0 → Q (some (jI 0)) M) ∧ (u0 ≠ 0 → wc kc d 232 [jR 133] M (fun v M1 => wp kc (d + 1) 231 63 [some (jR 133)] (v.toList ++ []) M1 Q))) : wp kc (d + 1) 231 56 [some (jR 133)] [jI u0] M Q :=
  (x_zeq c231_56 H.1 (fun h1 => (x_ci c231_66 (x_zrt c231_67 r231 (by decide) (H.2.1 h1)))) (fun h2 => (x_aldn c231_59 rfl (wp_wk (l' := [some (jR 133)]) ⟨rfl, trivial⟩ (x_cv (As := []) (st := []) c231_60 cl_133 kl232 rfl (Nat.le_of_ble_eq_true rfl) mx232 (Nat.le_refl _) (H.2.2 h2))))))
theorem s231_63 {kc : List va_E} {d : Nat} {u0 : Int} {M : fx_M} {Q : Option fx_V → fx_M → Prop} (H : ((fx_in32 u0)) ∧ (u0 ≠ 0 → Q (some (jI 1)) (fx_up M 133 11 (M 133 8))) ∧ (u0 = 0 → Q (some (jI 0)) M)) : wp kc (d + 1) 231 63 [some (jR 133)] [jI u0] M Q :=
  (x_zne c231_63 H.1 (fun h1 => (x_aldn c231_68 rfl (x_aldn c231_69 rfl (x_gfi c231_70 k_133_8 (x_pfi c231_73 k_133_11 (x_ci c231_76 (x_zrt c231_77 r231 (by decide) (H.2.1 h1)))))))) (fun h2 => (x_ci c231_66 (x_zrt c231_67 r231 (by decide) (H.2.2 h2)))))
theorem s231 {kc : List va_E} {d : Nat} {M : fx_M} {Q : Option fx_V → fx_M → Prop} (H : wc kc d 227 [jR 133, jI 32] M (fun v M1 => wp kc (d + 1) 231 6 [some (jR 133)] (v.toList ++ []) M1 Q)) : wc kc (d + 1) 231 [jR 133] M Q :=
  wc_of (wp_wk (l' := [some (jR 133)]) ⟨rfl, trivial⟩ (s231_0 H))

/- PuzzleHouseModel.scanNumber()Z -/
theorem c232_0 : fx_op 232 0 = some (.aload_n 0, 1, 0) := by decide +kernel
theorem c232_1 : fx_ci 232 1 = some (3, 2) := by decide +kernel
theorem c232_2 : fx_ca 232 2 = some (233, 2, 2, 5) := by decide +kernel
theorem c232_5 : fx_op 232 5 = some (.ireturn, 6, 5) := by decide +kernel
theorem s232_0 {kc : List va_E} {d : Nat} {M : fx_M} {Q : Option fx_V → fx_M → Prop} (H : wc kc d 233 [jR 133, jI 3] M (fun v M1 => wp kc (d + 1) 232 5 [none] (v.toList ++ []) M1 Q)) : wp kc (d + 1) 232 0 [some (jR 133)] [] M Q :=
  (x_aldn c232_0 rfl (x_ci c232_1 (wp_wk (l' := [none]) trivial (x_cv (As := [jI 3]) (st := []) c232_2 cl_133 kl233 rfl (Nat.le_of_ble_eq_true rfl) mx233 (Nat.le_refl _) H))))
theorem s232_5 {kc : List va_E} {d : Nat} {u0 : Int} {M : fx_M} {Q : Option fx_V → fx_M → Prop} (H : ((0 : Int) ≤ u0 ∧ u0 ≤ 1) ∧ Q (some (jI u0)) M) : wp kc (d + 1) 232 5 [none] [jI u0] M Q :=
  (x_zrt c232_5 r232 H.1 H.2)
theorem s232 {kc : List va_E} {d : Nat} {M : fx_M} {Q : Option fx_V → fx_M → Prop} (H : wc kc d 233 [jR 133, jI 3] M (fun v M1 => wp kc (d + 1) 232 5 [none] (v.toList ++ []) M1 Q)) : wc kc (d + 1) 232 [jR 133] M Q :=
  wc_of (wp_wk (l' := [some (jR 133)]) ⟨rfl, trivial⟩ (s232_0 H))

/- PuzzleHouseModel.scanDigits(I)Z -/
theorem c233_0 : fx_op 233 0 = some (.aload_n 0, 1, 0) := by decide +kernel
theorem c233_1 : fx_ca 233 1 = some (229, 1, 2, 4) := by decide +kernel
theorem c233_4 : fx_op 233 4 = some (.ifCond .ne 5, 7, 9) := by decide +kernel
theorem c233_9 : fx_op 233 9 = some (.aload_n 0, 10, 9) := by decide +kernel
theorem c233_10 : fx_gf 233 10 = some (12, 8, 13) := by decide +kernel
theorem c233_13 : fx_op 233 13 = some (.istore_n 2, 14, 13) := by decide +kernel
theorem c233_14 : fx_ci 233 14 = some (1, 15) := by decide +kernel
theorem c233_15 : fx_op 233 15 = some (.istore_n 3, 16, 15) := by decide +kernel
theorem c233_7 : fx_ci 233 7 = some (0, 8) := by decide +kernel
theorem c233_8 : fx_op 233 8 = some (.ireturn, 9, 8) := by decide +kernel
theorem c233_16 : fx_op 233 16 = some (.iload_n 3, 17, 16) := by decide +kernel
theorem c233_17 : fx_op 233 17 = some (.iload_n 1, 18, 17) := by decide +kernel
theorem c233_18 : fx_op 233 18 = some (.if_icmp .ge 54, 21, 72) := by decide +kernel
theorem c233_21 : fx_op 233 21 = some (.iload_n 2, 22, 21) := by decide +kernel
theorem c233_22 : fx_op 233 22 = some (.ifCond .le 50, 25, 72) := by decide +kernel
theorem c233_25 : fx_op 233 25 = some (.aload_n 0, 26, 25) := by decide +kernel
theorem c233_72 : fx_op 233 72 = some (.aload_n 0, 73, 72) := by decide +kernel
theorem c233_73 : fx_op 233 73 = some (.iload_n 2, 74, 73) := by decide +kernel
theorem c233_74 : fx_pf 233 74 = some (12, 8, 0, 77) := by decide +kernel
theorem c233_77 : fx_ci 233 77 = some (1, 78) := by decide +kernel
theorem c233_78 : fx_op 233 78 = some (.ireturn, 79, 78) := by decide +kernel
theorem c233_26 : fx_ca 233 26 = some (228, 1, 2, 29) := by decide +kernel
theorem c233_29 : fx_ci 233 29 = some (48, 31) := by decide +kernel
theorem c233_31 : fx_op 233 31 = some (.if_icmp .lt 41, 34, 72) := by decide +kernel
theorem c233_34 : fx_op 233 34 = some (.aload_n 0, 35, 34) := by decide +kernel
theorem c233_35 : fx_ca 233 35 = some (228, 1, 2, 38) := by decide +kernel
theorem c233_38 : fx_ci 233 38 = some (57, 40) := by decide +kernel
theorem c233_40 : fx_op 233 40 = some (.if_icmp .gt 32, 43, 72) := by decide +kernel
theorem c233_43 : fx_ci 233 43 = some (10, 45) := by decide +kernel
theorem c233_45 : fx_op 233 45 = some (.iload_n 2, 46, 45) := by decide +kernel
theorem c233_46 : fx_op 233 46 = some (.imul, 47, 46) := by decide +kernel
theorem c233_47 : fx_op 233 47 = some (.aload_n 0, 48, 47) := by decide +kernel
theorem c233_48 : fx_ca 233 48 = some (228, 1, 2, 51) := by decide +kernel
theorem c233_51 : fx_op 233 51 = some (.iadd, 52, 51) := by decide +kernel
theorem c233_52 : fx_ci 233 52 = some (48, 54) := by decide +kernel
theorem c233_54 : fx_op 233 54 = some (.isub, 55, 54) := by decide +kernel
theorem c233_55 : fx_op 233 55 = some (.istore_n 2, 56, 55) := by decide +kernel
theorem c233_56 : fx_op 233 56 = some (.aload_n 0, 57, 56) := by decide +kernel
theorem c233_57 : fx_op 233 57 = some (.dup, 58, 57) := by decide +kernel
theorem c233_58 : fx_gf 233 58 = some (12, 7, 61) := by decide +kernel
theorem c233_61 : fx_ci 233 61 = some (1, 62) := by decide +kernel
theorem c233_62 : fx_op 233 62 = some (.iadd, 63, 62) := by decide +kernel
theorem c233_63 : fx_pf 233 63 = some (12, 7, 0, 66) := by decide +kernel
theorem c233_66 : fx_op 233 66 = some (.iinc 3 1, 69, 66) := by decide +kernel
theorem c233_69 : fx_op 233 69 = some (.goto (-53), 72, 16) := by decide +kernel
theorem s233_0 {kc : List va_E} {d : Nat} {x1 : Int} {M : fx_M} {Q : Option fx_V → fx_M → Prop} (H : wc kc d 229 [jR 133] M (fun v M1 => wp kc (d + 1) 233 4 [some (jR 133), some (jI x1), none, none] (v.toList ++ []) M1 Q)) : wp kc (d + 1) 233 0 [some (jR 133), some (jI x1), none, none] [] M Q :=
  (x_aldn c233_0 rfl (wp_wk (l' := [some (jR 133), some (jI x1), none, none]) ⟨rfl, ⟨rfl, trivial⟩⟩ (x_cv (As := []) (st := []) c233_1 cl_133 kl229 rfl (Nat.le_of_ble_eq_true rfl) mx229 (Nat.le_refl _) H)))
theorem s233_4 {kc : List va_E} {d : Nat} {v1 u0 : Int} {M : fx_M} {Q : Option fx_V → fx_M → Prop} (H : ((fx_in32 u0)) ∧ (u0 ≠ 0 → wp kc (d + 1) 233 16 [some (jR 133), some (jI v1), some (jI (M 133 8)), some (jI 1)] [] M Q) ∧ (u0 = 0 → Q (some (jI 0)) M)) : wp kc (d + 1) 233 4 [some (jR 133), some (jI v1), none, none] [jI u0] M Q :=
  (x_zne c233_4 H.1 (fun h1 => (x_aldn c233_9 rfl (x_gfi c233_10 k_133_8 (x_istn (l' := [some (jR 133), some (jI v1), some (jI (M 133 8)), none]) c233_13 rfl (x_ci c233_14 (x_istn (l' := [some (jR 133), some (jI v1), some (jI (M 133 8)), some (jI 1)]) c233_15 rfl (wp_wk (l' := [some (jR 133), some (jI v1), some (jI (M 133 8)), some (jI 1)]) ⟨rfl, ⟨rfl, ⟨rfl, ⟨rfl, trivial⟩⟩⟩⟩ (H.2.1 h1)))))))) (fun h2 => (x_ci c233_7 (x_zrt c233_8 r233 (by decide) (H.2.2 h2)))))
theorem s233_16 {kc : List va_E} {d : Nat} {v1 v2 v3 : Int} {M : fx_M} {Q : Option fx_V → fx_M → Prop} (H : ((fx_in32 v3) ∧ (fx_in32 v1)) ∧ (v1 ≤ v3 → Q (some (jI 1)) (fx_up M 133 8 v2)) ∧ (v3 < v1 → ((fx_in32 v2)) ∧ (v2 ≤ 0 → Q (some (jI 1)) (fx_up M 133 8 v2)) ∧ (0 < v2 → wc kc d 228 [jR 133] M (fun v M1 => wp kc (d + 1) 233 29 [some (jR 133), some (jI v1), some (jI v2), some (jI v3)] (v.toList ++ []) M1 Q)))) : wp kc (d + 1) 233 16 [some (jR 133), some (jI v1), some (jI v2), some (jI v3)] [] M Q :=
  (x_ildn c233_16 rfl (x_ildn c233_17 rfl (x_cge c233_18 H.1.1 H.1.2 (fun h3 => (x_aldn c233_72 rfl (x_ildn c233_73 rfl (x_pfi c233_74 k_133_8 (x_ci c233_77 (x_zrt c233_78 r233 (by decide) (H.2.1 h3))))))) (fun h4 => (x_ildn c233_21 rfl (x_zle c233_22 (H.2.2 h4).1 (fun h1 => (x_aldn c233_72 rfl (x_ildn c233_73 rfl (x_pfi c233_74 k_133_8 (x_ci c233_77 (x_zrt c233_78 r233 (by decide) ((H.2.2 h4).2.1 h1))))))) (fun h2 => (x_aldn c233_25 rfl (wp_wk (l' := [some (jR 133), some (jI v1), some (jI v2), some (jI v3)]) ⟨rfl, ⟨rfl, ⟨rfl, ⟨rfl, trivial⟩⟩⟩⟩ (x_cv (As := []) (st := []) c233_26 cl_133 kl228 rfl (Nat.le_of_ble_eq_true rfl) mx228 (Nat.le_refl _) ((H.2.2 h4).2.2 h2)))))))))))
theorem s233_29 {kc : List va_E} {d : Nat} {v1 v2 v3 u0 : Int} {M : fx_M} {Q : Option fx_V → fx_M → Prop} (H : ((fx_in32 u0)) ∧ (u0 < 48 → Q (some (jI 1)) (fx_up M 133 8 v2)) ∧ (48 ≤ u0 → wc kc d 228 [jR 133] M (fun v M1 => wp kc (d + 1) 233 38 [some (jR 133), some (jI v1), some (jI v2), some (jI v3)] (v.toList ++ []) M1 Q))) : wp kc (d + 1) 233 29 [some (jR 133), some (jI v1), some (jI v2), some (jI v3)] [jI u0] M Q :=
  (x_ci c233_29 (x_clt c233_31 H.1 (by decide) (fun h1 => (x_aldn c233_72 rfl (x_ildn c233_73 rfl (x_pfi c233_74 k_133_8 (x_ci c233_77 (x_zrt c233_78 r233 (by decide) (H.2.1 h1))))))) (fun h2 => (x_aldn c233_34 rfl (wp_wk (l' := [some (jR 133), some (jI v1), some (jI v2), some (jI v3)]) ⟨rfl, ⟨rfl, ⟨rfl, ⟨rfl, trivial⟩⟩⟩⟩ (x_cv (As := []) (st := []) c233_35 cl_133 kl228 rfl (Nat.le_of_ble_eq_true rfl) mx228 (Nat.le_refl _) (H.2.2 h2)))))))
theorem s233_38 {kc : List va_E} {d : Nat} {v1 v2 v3 u0 : Int} {M : fx_M} {Q : Option fx_V → fx_M → Prop} (H : ((fx_in32 u0)) ∧ (57 < u0 → Q (some (jI 1)) (fx_up M 133 8 v2)) ∧ (u0 ≤ 57 → wc kc d 228 [jR 133] M (fun v M1 => wp kc (d + 1) 233 51 [some (jR 133), some (jI v1), none, some (jI v3)] (v.toList ++ [jI (10 * v2)]) M1 Q))) : wp kc (d + 1) 233 38 [some (jR 133), some (jI v1), some (jI v2), some (jI v3)] [jI u0] M Q :=
  (x_ci c233_38 (x_cgt c233_40 H.1 (by decide) (fun h1 => (x_aldn c233_72 rfl (x_ildn c233_73 rfl (x_pfi c233_74 k_133_8 (x_ci c233_77 (x_zrt c233_78 r233 (by decide) (H.2.1 h1))))))) (fun h2 => (x_ci c233_43 (x_ildn c233_45 rfl (x_imul c233_46 (x_aldn c233_47 rfl (wp_wk (l' := [some (jR 133), some (jI v1), none, some (jI v3)]) ⟨rfl, ⟨rfl, ⟨rfl, trivial⟩⟩⟩ (x_cv (As := []) (st := [jI (10 * v2)]) c233_48 cl_133 kl228 rfl (Nat.le_of_ble_eq_true rfl) mx228 (Nat.le_refl _) (H.2.2 h2))))))))))
theorem s233_51 {kc : List va_E} {d : Nat} {v1 v3 u0 u1 : Int} {M : fx_M} {Q : Option fx_V → fx_M → Prop} (H : wp kc (d + 1) 233 16 [some (jR 133), some (jI v1), some (jI ((u1 + u0) - 48)), some (jI (v3 + 1))] [] (fx_up M 133 7 ((M 133 7) + 1)) Q) : wp kc (d + 1) 233 51 [some (jR 133), some (jI v1), none, some (jI v3)] [jI u0, jI u1] M Q :=
  (x_iadd c233_51 (x_ci c233_52 (x_isub c233_54 (x_istn (l' := [some (jR 133), some (jI v1), some (jI ((u1 + u0) - 48)), some (jI v3)]) c233_55 rfl (x_aldn c233_56 rfl (x_dupr c233_57 (x_gfi c233_58 k_133_7 (x_ci c233_61 (x_iadd c233_62 (x_pfi c233_63 k_133_7 (x_inc (l' := [some (jR 133), some (jI v1), some (jI ((u1 + u0) - 48)), some (jI (v3 + 1))]) c233_66 rfl rfl (x_goto c233_69 (wp_wk (l' := [some (jR 133), some (jI v1), some (jI ((u1 + u0) - 48)), some (jI (v3 + 1))]) ⟨rfl, ⟨rfl, ⟨rfl, ⟨rfl, trivial⟩⟩⟩⟩ H)))))))))))))
theorem s233 {kc : List va_E} {d : Nat} {x1 : Int} {M : fx_M} {Q : Option fx_V → fx_M → Prop} (H : wc kc d 229 [jR 133] M (fun v M1 => wp kc (d + 1) 233 4 [some (jR 133), some (jI x1), none, none] (v.toList ++ []) M1 Q)) : wc kc (d + 1) 233 [jR 133, jI x1] M Q :=
  wc_of (wp_wk (l' := [some (jR 133), some (jI x1), none, none]) ⟨rfl, ⟨rfl, trivial⟩⟩ (s233_0 H))

/- PuzzleHouseModel.scanEach()Z -/
theorem c234_0 : fx_op 234 0 = some (.aload_n 0, 1, 0) := by decide +kernel
theorem c234_1 : fx_ci 234 1 = some (32, 3) := by decide +kernel
theorem c234_3 : fx_ca 234 3 = some (227, 2, 2, 6) := by decide +kernel
theorem c234_6 : fx_op 234 6 = some (.ifCond .ne 5, 9, 11) := by decide +kernel
theorem c234_11 : fx_op 234 11 = some (.aload_n 0, 12, 11) := by decide +kernel
theorem c234_12 : fx_op 234 12 = some (.aload_n 0, 13, 12) := by decide +kernel
theorem c234_13 : fx_ci 234 13 = some (53, 15) := by decide +kernel
theorem c234_15 : fx_ci 234 15 = some (55, 17) := by decide +kernel
theorem c234_9 : fx_ci 234 9 = some (0, 10) := by decide +kernel
theorem c234_17 : fx_ca 234 17 = some (220, 3, 2, 20) := by decide +kernel
theorem c234_10 : fx_op 234 10 = some (.ireturn, 11, 10) := by decide +kernel
theorem c234_20 : fx_pf 234 20 = some (12, 14, 0, 23) := by decide +kernel
theorem c234_23 : fx_op 234 23 = some (.aload_n 0, 24, 23) := by decide +kernel
theorem c234_24 : fx_gf 234 24 = some (12, 14, 27) := by decide +kernel
theorem c234_27 : fx_op 234 27 = some (.ifCond .lt 14, 30, 41) := by decide +kernel
theorem c234_41 : fx_ci 234 41 = some (0, 42) := by decide +kernel
theorem c234_30 : fx_op 234 30 = some (.aload_n 0, 31, 30) := by decide +kernel
theorem c234_42 : fx_op 234 42 = some (.ireturn, 43, 42) := by decide +kernel
theorem c234_31 : fx_ca 234 31 = some (231, 1, 2, 34) := by decide +kernel
theorem c234_34 : fx_op 234 34 = some (.ifCond .eq 7, 37, 41) := by decide +kernel
theorem c234_37 : fx_ci 234 37 = some (1, 38) := by decide +kernel
theorem c234_38 : fx_op 234 38 = some (.goto 4, 41, 42) := by decide +kernel
theorem s234_0 {kc : List va_E} {d : Nat} {M : fx_M} {Q : Option fx_V → fx_M → Prop} (H : wc kc d 227 [jR 133, jI 32] M (fun v M1 => wp kc (d + 1) 234 6 [some (jR 133)] (v.toList ++ []) M1 Q)) : wp kc (d + 1) 234 0 [some (jR 133)] [] M Q :=
  (x_aldn c234_0 rfl (x_ci c234_1 (wp_wk (l' := [some (jR 133)]) ⟨rfl, trivial⟩ (x_cv (As := [jI 32]) (st := []) c234_3 cl_133 kl227 rfl (Nat.le_of_ble_eq_true rfl) mx227 (Nat.le_refl _) H))))
theorem s234_6 {kc : List va_E} {d : Nat} {u0 : Int} {M : fx_M} {Q : Option fx_V → fx_M → Prop} (H : ((fx_in32 u0)) ∧ (u0 ≠ 0 → wc kc d 220 [jR 133, jI 53, jI 55] M (fun v M1 => wp kc (d + 1) 234 20 [some (jR 133)] (v.toList ++ [jR 133]) M1 Q)) ∧ (u0 = 0 → Q (some (jI 0)) M)) : wp kc (d + 1) 234 6 [some (jR 133)] [jI u0] M Q :=
  (x_zne c234_6 H.1 (fun h1 => (x_aldn c234_11 rfl (x_aldn c234_12 rfl (x_ci c234_13 (x_ci c234_15 (wp_wk (l' := [some (jR 133)]) ⟨rfl, trivial⟩ (x_cv (As := [jI 53, jI 55]) (st := [jR 133]) c234_17 cl_133 kl220 rfl (Nat.le_of_ble_eq_true rfl) mx220 (Nat.le_refl _) (H.2.1 h1)))))))) (fun h2 => (x_ci c234_9 (x_zrt c234_10 r234 (by decide) (H.2.2 h2)))))
theorem s234_20 {kc : List va_E} {d : Nat} {u0 : Int} {M : fx_M} {Q : Option fx_V → fx_M → Prop} (H : ((fx_in32 u0)) ∧ (u0 < 0 → Q (some (jI 0)) (fx_up M 133 14 u0)) ∧ (0 ≤ u0 → wc kc d 231 [jR 133] (fx_up M 133 14 u0) (fun v M1 => wp kc (d + 1) 234 34 [none] (v.toList ++ []) M1 Q))) : wp kc (d + 1) 234 20 [some (jR 133)] [jI u0, jR 133] M Q :=
  (x_pfi c234_20 k_133_14 (x_aldn c234_23 rfl (x_gfi c234_24 k_133_14 (wp_vI (fx_upS) (x_zlt c234_27 H.1 (fun h1 => (x_ci c234_41 (x_zrt c234_42 r234 (by decide) (H.2.1 h1)))) (fun h2 => (x_aldn c234_30 rfl (wp_wk (l' := [none]) trivial (x_cv (As := []) (st := []) c234_31 cl_133 kl231 rfl (Nat.le_of_ble_eq_true rfl) mx231 (Nat.le_refl _) (H.2.2 h2))))))))))
theorem s234_34 {kc : List va_E} {d : Nat} {u0 : Int} {M : fx_M} {Q : Option fx_V → fx_M → Prop} (H : ((fx_in32 u0)) ∧ ((0 : Int) ≤ (if u0 = 0 then (0 : Int) else 1) ∧ (if u0 = 0 then (0 : Int) else 1) ≤ 1) ∧ Q (some (jI (if u0 = 0 then (0 : Int) else 1))) M) : wp kc (d + 1) 234 34 [none] [jI u0] M Q :=
  (have K : wp kc (d + 1) 234 42 [none] [jI (if u0 = 0 then (0 : Int) else 1)] M Q := (x_zrt c234_42 r234 H.2.1 H.2.2); (x_zeq c234_34 H.1 (fun (h1 : u0 = 0) => (x_ci c234_41 (wp_wk (l' := [none]) trivial (by have K := K; first | (simp only [if_pos h1] at K ⊢; exact K) | (exfalso; omega))))) (fun (h2 : u0 ≠ 0) => (x_ci c234_37 (x_goto c234_38 (wp_wk (l' := [none]) trivial (by have K := K; first | (simp only [if_neg h2] at K ⊢; exact K) | (exfalso; omega))))))))
theorem s234 {kc : List va_E} {d : Nat} {M : fx_M} {Q : Option fx_V → fx_M → Prop} (H : wc kc d 227 [jR 133, jI 32] M (fun v M1 => wp kc (d + 1) 234 6 [some (jR 133)] (v.toList ++ []) M1 Q)) : wc kc (d + 1) 234 [jR 133] M Q :=
  wc_of (wp_wk (l' := [some (jR 133)]) ⟨rfl, trivial⟩ (s234_0 H))

/- PuzzleHouseModel.scanCellAnd(Z)Z -/
theorem c235_0 : fx_op 235 0 = some (.aload_n 0, 1, 0) := by decide +kernel
theorem c235_1 : fx_ca 235 1 = some (236, 1, 2, 4) := by decide +kernel
theorem c235_4 : fx_op 235 4 = some (.ifCond .ne 5, 7, 9) := by decide +kernel
theorem c235_9 : fx_op 235 9 = some (.aload_n 0, 10, 9) := by decide +kernel
theorem c235_10 : fx_op 235 10 = some (.aload_n 0, 11, 10) := by decide +kernel
theorem c235_11 : fx_gf 235 11 = some (12, 8, 14) := by decide +kernel
theorem c235_14 : fx_pf 235 14 = some (12, 20, 0, 17) := by decide +kernel
theorem c235_17 : fx_op 235 17 = some (.aload_n 0, 18, 17) := by decide +kernel
theorem c235_18 : fx_ci 235 18 = some (32, 20) := by decide +kernel
theorem c235_7 : fx_ci 235 7 = some (0, 8) := by decide +kernel
theorem c235_20 : fx_ca 235 20 = some (227, 2, 2, 23) := by decide +kernel
theorem c235_8 : fx_op 235 8 = some (.ireturn, 9, 8) := by decide +kernel
theorem c235_23 : fx_op 235 23 = some (.ifCond .eq 28, 26, 51) := by decide +kernel
theorem c235_51 : fx_ci 235 51 = some (0, 52) := by decide +kernel
theorem c235_26 : fx_op 235 26 = some (.iload_n 1, 27, 26) := by decide +kernel
theorem c235_27 : fx_op 235 27 = some (.ifCond .eq 13, 30, 40) := by decide +kernel
theorem c235_40 : fx_op 235 40 = some (.aload_n 0, 41, 40) := by decide +kernel
theorem c235_30 : fx_op 235 30 = some (.aload_n 0, 31, 30) := by decide +kernel
theorem c235_52 : fx_op 235 52 = some (.ireturn, 53, 52) := by decide +kernel
theorem c235_41 : fx_ca 235 41 = some (229, 1, 2, 44) := by decide +kernel
theorem c235_31 : fx_ca 235 31 = some (237, 1, 2, 34) := by decide +kernel
theorem c235_44 : fx_op 235 44 = some (.ifCond .eq 7, 47, 51) := by decide +kernel
theorem c235_47 : fx_ci 235 47 = some (1, 48) := by decide +kernel
theorem c235_48 : fx_op 235 48 = some (.goto 4, 51, 52) := by decide +kernel
theorem c235_34 : fx_op 235 34 = some (.ifCond .eq 17, 37, 51) := by decide +kernel
theorem c235_37 : fx_op 235 37 = some (.goto 10, 40, 47) := by decide +kernel
theorem s235_0 {kc : List va_E} {d : Nat} {x1 : Int} {M : fx_M} {Q : Option fx_V → fx_M → Prop} (H : wc kc d 236 [jR 133] M (fun v M1 => wp kc (d + 1) 235 4 [some (jR 133), some (jI x1)] (v.toList ++ []) M1 Q)) : wp kc (d + 1) 235 0 [some (jR 133), some (jI x1)] [] M Q :=
  (x_aldn c235_0 rfl (wp_wk (l' := [some (jR 133), some (jI x1)]) ⟨rfl, ⟨rfl, trivial⟩⟩ (x_cv (As := []) (st := []) c235_1 cl_133 kl236 rfl (Nat.le_of_ble_eq_true rfl) mx236 (Nat.le_refl _) H)))
theorem s235_4 {kc : List va_E} {d : Nat} {v1 u0 : Int} {M : fx_M} {Q : Option fx_V → fx_M → Prop} (H : ((fx_in32 u0)) ∧ (u0 ≠ 0 → wc kc d 227 [jR 133, jI 32] (fx_up M 133 20 (M 133 8)) (fun v M1 => wp kc (d + 1) 235 23 [some (jR 133), some (jI v1)] (v.toList ++ []) M1 Q)) ∧ (u0 = 0 → Q (some (jI 0)) M)) : wp kc (d + 1) 235 4 [some (jR 133), some (jI v1)] [jI u0] M Q :=
  (x_zne c235_4 H.1 (fun h1 => (x_aldn c235_9 rfl (x_aldn c235_10 rfl (x_gfi c235_11 k_133_8 (x_pfi c235_14 k_133_20 (x_aldn c235_17 rfl (x_ci c235_18 (wp_wk (l' := [some (jR 133), some (jI v1)]) ⟨rfl, ⟨rfl, trivial⟩⟩ (x_cv (As := [jI 32]) (st := []) c235_20 cl_133 kl227 rfl (Nat.le_of_ble_eq_true rfl) mx227 (Nat.le_refl _) (H.2.1 h1)))))))))) (fun h2 => (x_ci c235_7 (x_zrt c235_8 r235 (by decide) (H.2.2 h2)))))
theorem s235_23 {kc : List va_E} {d : Nat} {v1 u0 : Int} {M : fx_M} {Q : Option fx_V → fx_M → Prop} (H : ((fx_in32 u0)) ∧ (u0 = 0 → Q (some (jI 0)) M) ∧ (u0 ≠ 0 → ((fx_in32 v1)) ∧ (v1 = 0 → wc kc d 229 [jR 133] M (fun v M1 => wp kc (d + 1) 235 44 [none, none] (v.toList ++ []) M1 Q)) ∧ (v1 ≠ 0 → wc kc d 237 [jR 133] M (fun v M1 => wp kc (d + 1) 235 34 [none, none] (v.toList ++ []) M1 Q)))) : wp kc (d + 1) 235 23 [some (jR 133), some (jI v1)] [jI u0] M Q :=
  (x_zeq c235_23 H.1 (fun h3 => (x_ci c235_51 (x_zrt c235_52 r235 (by decide) (H.2.1 h3)))) (fun h4 => (x_ildn c235_26 rfl (x_zeq c235_27 (H.2.2 h4).1 (fun h1 => (x_aldn c235_40 rfl (wp_wk (l' := [none, none]) trivial (x_cv (As := []) (st := []) c235_41 cl_133 kl229 rfl (Nat.le_of_ble_eq_true rfl) mx229 (Nat.le_refl _) ((H.2.2 h4).2.1 h1))))) (fun h2 => (x_aldn c235_30 rfl (wp_wk (l' := [none, none]) trivial (x_cv (As := []) (st := []) c235_31 cl_133 kl237 rfl (Nat.le_of_ble_eq_true rfl) mx237 (Nat.le_refl _) ((H.2.2 h4).2.2 h2)))))))))
theorem s235_34 {kc : List va_E} {d : Nat} {u0 : Int} {M : fx_M} {Q : Option fx_V → fx_M → Prop} (H : ((fx_in32 u0)) ∧ ((0 : Int) ≤ (if u0 = 0 then (0 : Int) else 1) ∧ (if u0 = 0 then (0 : Int) else 1) ≤ 1) ∧ Q (some (jI (if u0 = 0 then (0 : Int) else 1))) M) : wp kc (d + 1) 235 34 [none, none] [jI u0] M Q :=
  (have K : wp kc (d + 1) 235 52 [none, none] [jI (if u0 = 0 then (0 : Int) else 1)] M Q := (x_zrt c235_52 r235 H.2.1 H.2.2); (x_zeq c235_34 H.1 (fun (h1 : u0 = 0) => (x_ci c235_51 (wp_wk (l' := [none, none]) trivial (by have K := K; first | (simp only [if_pos h1] at K ⊢; exact K) | (exfalso; omega))))) (fun (h2 : u0 ≠ 0) => (x_goto c235_37 (x_ci c235_47 (x_goto c235_48 (wp_wk (l' := [none, none]) trivial (by have K := K; first | (simp only [if_neg h2] at K ⊢; exact K) | (exfalso; omega)))))))))
theorem s235_44 {kc : List va_E} {d : Nat} {u0 : Int} {M : fx_M} {Q : Option fx_V → fx_M → Prop} (H : ((fx_in32 u0)) ∧ ((0 : Int) ≤ (if u0 = 0 then (0 : Int) else 1) ∧ (if u0 = 0 then (0 : Int) else 1) ≤ 1) ∧ Q (some (jI (if u0 = 0 then (0 : Int) else 1))) M) : wp kc (d + 1) 235 44 [none, none] [jI u0] M Q :=
  (have K : wp kc (d + 1) 235 52 [none, none] [jI (if u0 = 0 then (0 : Int) else 1)] M Q := (x_zrt c235_52 r235 H.2.1 H.2.2); (x_zeq c235_44 H.1 (fun (h1 : u0 = 0) => (x_ci c235_51 (wp_wk (l' := [none, none]) trivial (by have K := K; first | (simp only [if_pos h1] at K ⊢; exact K) | (exfalso; omega))))) (fun (h2 : u0 ≠ 0) => (x_ci c235_47 (x_goto c235_48 (wp_wk (l' := [none, none]) trivial (by have K := K; first | (simp only [if_neg h2] at K ⊢; exact K) | (exfalso; omega))))))))
theorem s235 {kc : List va_E} {d : Nat} {x1 : Int} {M : fx_M} {Q : Option fx_V → fx_M → Prop} (H : wc kc d 236 [jR 133] M (fun v M1 => wp kc (d + 1) 235 4 [some (jR 133), some (jI x1)] (v.toList ++ []) M1 Q)) : wc kc (d + 1) 235 [jR 133, jI x1] M Q :=
  wc_of (wp_wk (l' := [some (jR 133), some (jI x1)]) ⟨rfl, ⟨rfl, trivial⟩⟩ (s235_0 H))

/- PuzzleHouseModel.scanBlankNumber()Z -/
theorem c236_0 : fx_op 236 0 = some (.aload_n 0, 1, 0) := by decide +kernel
theorem c236_1 : fx_ci 236 1 = some (32, 3) := by decide +kernel
theorem c236_3 : fx_ca 236 3 = some (227, 2, 2, 6) := by decide +kernel
theorem c236_6 : fx_op 236 6 = some (.ifCond .eq 14, 9, 20) := by decide +kernel
theorem c236_20 : fx_ci 236 20 = some (0, 21) := by decide +kernel
theorem c236_9 : fx_op 236 9 = some (.aload_n 0, 10, 9) := by decide +kernel
theorem c236_21 : fx_op 236 21 = some (.ireturn, 22, 21) := by decide +kernel
theorem c236_10 : fx_ca 236 10 = some (232, 1, 2, 13) := by decide +kernel
theorem c236_13 : fx_op 236 13 = some (.ifCond .eq 7, 16, 20) := by decide +kernel
theorem c236_16 : fx_ci 236 16 = some (1, 17) := by decide +kernel
theorem c236_17 : fx_op 236 17 = some (.goto 4, 20, 21) := by decide +kernel
theorem s236_0 {kc : List va_E} {d : Nat} {M : fx_M} {Q : Option fx_V → fx_M → Prop} (H : wc kc d 227 [jR 133, jI 32] M (fun v M1 => wp kc (d + 1) 236 6 [some (jR 133)] (v.toList ++ []) M1 Q)) : wp kc (d + 1) 236 0 [some (jR 133)] [] M Q :=
  (x_aldn c236_0 rfl (x_ci c236_1 (wp_wk (l' := [some (jR 133)]) ⟨rfl, trivial⟩ (x_cv (As := [jI 32]) (st := []) c236_3 cl_133 kl227 rfl (Nat.le_of_ble_eq_true rfl) mx227 (Nat.le_refl _) H))))
theorem s236_6 {kc : List va_E} {d : Nat} {u0 : Int} {M : fx_M} {Q : Option fx_V → fx_M → Prop} (H : ((fx_in32 u0)) ∧ (u0 = 0 → Q (some (jI 0)) M) ∧ (u0 ≠ 0 → wc kc d 232 [jR 133] M (fun v M1 => wp kc (d + 1) 236 13 [none] (v.toList ++ []) M1 Q))) : wp kc (d + 1) 236 6 [some (jR 133)] [jI u0] M Q :=
  (x_zeq c236_6 H.1 (fun h1 => (x_ci c236_20 (x_zrt c236_21 r236 (by decide) (H.2.1 h1)))) (fun h2 => (x_aldn c236_9 rfl (wp_wk (l' := [none]) trivial (x_cv (As := []) (st := []) c236_10 cl_133 kl232 rfl (Nat.le_of_ble_eq_true rfl) mx232 (Nat.le_refl _) (H.2.2 h2))))))
theorem s236_13 {kc : List va_E} {d : Nat} {u0 : Int} {M : fx_M} {Q : Option fx_V → fx_M → Prop} (H : ((fx_in32 u0)) ∧ ((0 : Int) ≤ (if u0 = 0 then (0 : Int) else 1) ∧ (if u0 = 0 then (0 : Int) else 1) ≤ 1) ∧ Q (some (jI (if u0 = 0 then (0 : Int) else 1))) M) : wp kc (d + 1) 236 13 [none] [jI u0] M Q :=
  (have K : wp kc (d + 1) 236 21 [none] [jI (if u0 = 0 then (0 : Int) else 1)] M Q := (x_zrt c236_21 r236 H.2.1 H.2.2); (x_zeq c236_13 H.1 (fun (h1 : u0 = 0) => (x_ci c236_20 (wp_wk (l' := [none]) trivial (by have K := K; first | (simp only [if_pos h1] at K ⊢; exact K) | (exfalso; omega))))) (fun (h2 : u0 ≠ 0) => (x_ci c236_16 (x_goto c236_17 (wp_wk (l' := [none]) trivial (by have K := K; first | (simp only [if_neg h2] at K ⊢; exact K) | (exfalso; omega))))))))
theorem s236 {kc : List va_E} {d : Nat} {M : fx_M} {Q : Option fx_V → fx_M → Prop} (H : wc kc d 227 [jR 133, jI 32] M (fun v M1 => wp kc (d + 1) 236 6 [some (jR 133)] (v.toList ++ []) M1 Q)) : wc kc (d + 1) 236 [jR 133] M Q :=
  wc_of (wp_wk (l' := [some (jR 133)]) ⟨rfl, trivial⟩ (s236_0 H))

/- PuzzleHouseModel.scanSymbol()Z -/
theorem c237_0 : fx_op 237 0 = some (.aload_n 0, 1, 0) := by decide +kernel
theorem c237_1 : fx_ci 237 1 = some (45, 3) := by decide +kernel
theorem c237_3 : fx_ca 237 3 = some (227, 2, 2, 6) := by decide +kernel
theorem c237_6 : fx_op 237 6 = some (.ifCond .eq 10, 9, 16) := by decide +kernel
theorem c237_16 : fx_op 237 16 = some (.aload_n 0, 17, 16) := by decide +kernel
theorem c237_9 : fx_op 237 9 = some (.aload_n 0, 10, 9) := by decide +kernel
theorem c237_10 : fx_ci 237 10 = some ((-1), 11) := by decide +kernel
theorem c237_11 : fx_pf 237 11 = some (12, 8, 0, 14) := by decide +kernel
theorem c237_14 : fx_ci 237 14 = some (1, 15) := by decide +kernel
theorem c237_17 : fx_ca 237 17 = some (229, 1, 2, 20) := by decide +kernel
theorem c237_15 : fx_op 237 15 = some (.ireturn, 16, 15) := by decide +kernel
theorem c237_20 : fx_op 237 20 = some (.ireturn, 21, 20) := by decide +kernel
theorem s237_0 {kc : List va_E} {d : Nat} {M : fx_M} {Q : Option fx_V → fx_M → Prop} (H : wc kc d 227 [jR 133, jI 45] M (fun v M1 => wp kc (d + 1) 237 6 [some (jR 133)] (v.toList ++ []) M1 Q)) : wp kc (d + 1) 237 0 [some (jR 133)] [] M Q :=
  (x_aldn c237_0 rfl (x_ci c237_1 (wp_wk (l' := [some (jR 133)]) ⟨rfl, trivial⟩ (x_cv (As := [jI 45]) (st := []) c237_3 cl_133 kl227 rfl (Nat.le_of_ble_eq_true rfl) mx227 (Nat.le_refl _) H))))
theorem s237_6 {kc : List va_E} {d : Nat} {u0 : Int} {M : fx_M} {Q : Option fx_V → fx_M → Prop} (H : ((fx_in32 u0)) ∧ (u0 = 0 → wc kc d 229 [jR 133] M (fun v M1 => wp kc (d + 1) 237 20 [none] (v.toList ++ []) M1 Q)) ∧ (u0 ≠ 0 → Q (some (jI 1)) (fx_up M 133 8 (-1)))) : wp kc (d + 1) 237 6 [some (jR 133)] [jI u0] M Q :=
  (x_zeq c237_6 H.1 (fun h1 => (x_aldn c237_16 rfl (wp_wk (l' := [none]) trivial (x_cv (As := []) (st := []) c237_17 cl_133 kl229 rfl (Nat.le_of_ble_eq_true rfl) mx229 (Nat.le_refl _) (H.2.1 h1))))) (fun h2 => (x_aldn c237_9 rfl (x_ci c237_10 (x_pfi c237_11 k_133_8 (x_ci c237_14 (x_zrt c237_15 r237 (by decide) (H.2.2 h2))))))))
theorem s237_20 {kc : List va_E} {d : Nat} {u0 : Int} {M : fx_M} {Q : Option fx_V → fx_M → Prop} (H : ((0 : Int) ≤ u0 ∧ u0 ≤ 1) ∧ Q (some (jI u0)) M) : wp kc (d + 1) 237 20 [none] [jI u0] M Q :=
  (x_zrt c237_20 r237 H.1 H.2)
theorem s237 {kc : List va_E} {d : Nat} {M : fx_M} {Q : Option fx_V → fx_M → Prop} (H : wc kc d 227 [jR 133, jI 45] M (fun v M1 => wp kc (d + 1) 237 6 [some (jR 133)] (v.toList ++ []) M1 Q)) : wc kc (d + 1) 237 [jR 133] M Q :=
  wc_of (wp_wk (l' := [some (jR 133)]) ⟨rfl, trivial⟩ (s237_0 H))

/- PuzzleHouseModel.scanText(I)Z -/
theorem c238_0 : fx_op 238 0 = some (.aload_n 0, 1, 0) := by decide +kernel
theorem c238_1 : fx_ci 238 1 = some (0, 2) := by decide +kernel
theorem c238_2 : fx_pf 238 2 = some (12, 23, 0, 5) := by decide +kernel
theorem c238_5 : fx_op 238 5 = some (.aload_n 0, 6, 5) := by decide +kernel
theorem c238_6 : fx_ci 238 6 = some (0, 7) := by decide +kernel
theorem c238_7 : fx_ci 238 7 = some (0, 8) := by decide +kernel
theorem c238_8 : fx_ca 238 8 = some (220, 3, 2, 11) := by decide +kernel
theorem c238_11 : fx_op 238 11 = some (.ifCond .lt 10, 14, 21) := by decide +kernel
theorem c238_21 : fx_ci 238 21 = some (0, 22) := by decide +kernel
theorem c238_14 : fx_op 238 14 = some (.aload_n 0, 15, 14) := by decide +kernel
theorem c238_22 : fx_op 238 22 = some (.ireturn, 23, 22) := by decide +kernel
theorem c238_15 : fx_ca 238 15 = some (226, 1, 2, 18) := by decide +kernel
theorem c238_18 : fx_op 238 18 = some (.ifCond .ne 5, 21, 23) := by decide +kernel
theorem c238_23 : fx_op 238 23 = some (.iload_n 1, 24, 23) := by decide +kernel
theorem c238_24 : fx_op 238 24 = some (.ifCond .lt 24, 27, 48) := by decide +kernel
theorem c238_27 : fx_op 238 27 = some (.aload_n 0, 28, 27) := by decide +kernel
theorem c238_28 : fx_op 238 28 = some (.aload_n 0, 29, 28) := by decide +kernel
theorem c238_29 : fx_op 238 29 = some (.iload_n 1, 30, 29) := by decide +kernel
theorem c238_30 : fx_op 238 30 = some (.aload_n 0, 31, 30) := by decide +kernel
theorem c238_31 : fx_gf 238 31 = some (12, 17, 34) := by decide +kernel
theorem c238_34 : fx_op 238 34 = some (.aload_n 0, 35, 34) := by decide +kernel
theorem c238_35 : fx_gf 238 35 = some (12, 18, 38) := by decide +kernel
theorem c238_38 : fx_op 238 38 = some (.aload_n 0, 39, 38) := by decide +kernel
theorem c238_39 : fx_gf 238 39 = some (12, 19, 42) := by decide +kernel
theorem c238_42 : fx_ca 238 42 = some (214, 5, 2, 45) := by decide +kernel
theorem c238_48 : fx_op 238 48 = some (.aload_n 0, 49, 48) := by decide +kernel
theorem c238_49 : fx_ca 238 49 = some (228, 1, 2, 52) := by decide +kernel
theorem c238_45 : fx_pf 238 45 = some (12, 23, 0, 48) := by decide +kernel
theorem c238_52 : fx_ci 238 52 = some (59, 54) := by decide +kernel
theorem c238_54 : fx_op 238 54 = some (.if_icmp .ne 23, 57, 77) := by decide +kernel
theorem c238_77 : fx_ci 238 77 = some (1, 78) := by decide +kernel
theorem c238_57 : fx_op 238 57 = some (.aload_n 0, 58, 57) := by decide +kernel
theorem c238_58 : fx_op 238 58 = some (.dup, 59, 58) := by decide +kernel
theorem c238_59 : fx_gf 238 59 = some (12, 7, 62) := by decide +kernel
theorem c238_62 : fx_ci 238 62 = some (1, 63) := by decide +kernel
theorem c238_63 : fx_op 238 63 = some (.iadd, 64, 63) := by decide +kernel
theorem c238_64 : fx_pf 238 64 = some (12, 7, 0, 67) := by decide +kernel
theorem c238_67 : fx_op 238 67 = some (.aload_n 0, 68, 67) := by decide +kernel
theorem c238_68 : fx_op 238 68 = some (.iload_n 1, 69, 68) := by decide +kernel
theorem c238_78 : fx_op 238 78 = some (.ireturn, 79, 78) := by decide +kernel
theorem c238_69 : fx_ca 238 69 = some (239, 2, 2, 72) := by decide +kernel
theorem c238_72 : fx_op 238 72 = some (.ifCond .ne (-24), 75, 48) := by decide +kernel
theorem c238_75 : fx_ci 238 75 = some (0, 76) := by decide +kernel
theorem c238_76 : fx_op 238 76 = some (.ireturn, 77, 76) := by decide +kernel
theorem s238_0 {kc : List va_E} {d : Nat} {x1 : Int} {M : fx_M} {Q : Option fx_V → fx_M → Prop} (H : wc kc d 220 [jR 133, jI 0, jI 0] (fx_up M 133 23 0) (fun v M1 => wp kc (d + 1) 238 11 [some (jR 133), some (jI x1)] (v.toList ++ []) M1 Q)) : wp kc (d + 1) 238 0 [some (jR 133), some (jI x1)] [] M Q :=
  (x_aldn c238_0 rfl (x_ci c238_1 (x_pfi c238_2 k_133_23 (x_aldn c238_5 rfl (x_ci c238_6 (x_ci c238_7 (wp_wk (l' := [some (jR 133), some (jI x1)]) ⟨rfl, ⟨rfl, trivial⟩⟩ (x_cv (As := [jI 0, jI 0]) (st := []) c238_8 cl_133 kl220 rfl (Nat.le_of_ble_eq_true rfl) mx220 (Nat.le_refl _) H))))))))
theorem s238_11 {kc : List va_E} {d : Nat} {v1 u0 : Int} {M : fx_M} {Q : Option fx_V → fx_M → Prop} (H : ((fx_in32 u0)) ∧ (u0 < 0 → Q (some (jI 0)) M) ∧ (0 ≤ u0 → wc kc d 226 [jR 133] M (fun v M1 => wp kc (d + 1) 238 18 [some (jR 133), some (jI v1)] (v.toList ++ []) M1 Q))) : wp kc (d + 1) 238 11 [some (jR 133), some (jI v1)] [jI u0] M Q :=
  (x_zlt c238_11 H.1 (fun h1 => (x_ci c238_21 (x_zrt c238_22 r238 (by decide) (H.2.1 h1)))) (fun h2 => (x_aldn c238_14 rfl (wp_wk (l' := [some (jR 133), some (jI v1)]) ⟨rfl, ⟨rfl, trivial⟩⟩ (x_cv (As := []) (st := []) c238_15 cl_133 kl226 rfl (Nat.le_of_ble_eq_true rfl) mx226 (Nat.le_refl _) (H.2.2 h2))))))
theorem s238_18 {kc : List va_E} {d : Nat} {v1 u0 : Int} {M : fx_M} {Q : Option fx_V → fx_M → Prop} (H : ((fx_in32 u0)) ∧ (u0 ≠ 0 → ((fx_in32 v1)) ∧ (v1 < 0 → wp kc (d + 1) 238 48 [some (jR 133), some (jI v1)] [] M Q) ∧ (0 ≤ v1 → wc kc d 214 [jR 133, jI v1, jI (M 133 17), jI (M 133 18), jI (M 133 19)] M (fun v M1 => wp kc (d + 1) 238 45 [some (jR 133), some (jI v1)] (v.toList ++ [jR 133]) M1 Q))) ∧ (u0 = 0 → Q (some (jI 0)) M)) : wp kc (d + 1) 238 18 [some (jR 133), some (jI v1)] [jI u0] M Q :=
  (x_zne c238_18 H.1 (fun h3 => (x_ildn c238_23 rfl (x_zlt c238_24 (H.2.1 h3).1 (fun h1 => (wp_wk (l' := [some (jR 133), some (jI v1)]) ⟨rfl, ⟨rfl, trivial⟩⟩ ((H.2.1 h3).2.1 h1))) (fun h2 => (x_aldn c238_27 rfl (x_aldn c238_28 rfl (x_ildn c238_29 rfl (x_aldn c238_30 rfl (x_gfi c238_31 k_133_17 (x_aldn c238_34 rfl (x_gfi c238_35 k_133_18 (x_aldn c238_38 rfl (x_gfi c238_39 k_133_19 (wp_wk (l' := [some (jR 133), some (jI v1)]) ⟨rfl, ⟨rfl, trivial⟩⟩ (x_cv (As := [jI v1, jI (M 133 17), jI (M 133 18), jI (M 133 19)]) (st := [jR 133]) c238_42 cl_133 kl214 rfl (Nat.le_of_ble_eq_true rfl) mx214 (Nat.le_refl _) ((H.2.1 h3).2.2 h2)))))))))))))))) (fun h4 => (x_ci c238_21 (x_zrt c238_22 r238 (by decide) (H.2.2 h4)))))
theorem s238_45 {kc : List va_E} {d : Nat} {v1 u0 : Int} {M : fx_M} {Q : Option fx_V → fx_M → Prop} (H : wp kc (d + 1) 238 48 [some (jR 133), some (jI v1)] [] (fx_up M 133 23 u0) Q) : wp kc (d + 1) 238 45 [some (jR 133), some (jI v1)] [jI u0, jR 133] M Q :=
  (x_pfi c238_45 k_133_23 (wp_wk (l' := [some (jR 133), some (jI v1)]) ⟨rfl, ⟨rfl, trivial⟩⟩ H))
theorem s238_48 {kc : List va_E} {d : Nat} {v1 : Int} {M : fx_M} {Q : Option fx_V → fx_M → Prop} (H : wc kc d 228 [jR 133] M (fun v M1 => wp kc (d + 1) 238 52 [some (jR 133), some (jI v1)] (v.toList ++ []) M1 Q)) : wp kc (d + 1) 238 48 [some (jR 133), some (jI v1)] [] M Q :=
  (x_aldn c238_48 rfl (wp_wk (l' := [some (jR 133), some (jI v1)]) ⟨rfl, ⟨rfl, trivial⟩⟩ (x_cv (As := []) (st := []) c238_49 cl_133 kl228 rfl (Nat.le_of_ble_eq_true rfl) mx228 (Nat.le_refl _) H)))
theorem s238_52 {kc : List va_E} {d : Nat} {v1 u0 : Int} {M : fx_M} {Q : Option fx_V → fx_M → Prop} (H : ((fx_in32 u0)) ∧ (u0 ≠ 59 → Q (some (jI 1)) M) ∧ (u0 = 59 → wc kc d 239 [jR 133, jI v1] (fx_up M 133 7 ((M 133 7) + 1)) (fun v M1 => wp kc (d + 1) 238 72 [some (jR 133), some (jI v1)] (v.toList ++ []) M1 Q))) : wp kc (d + 1) 238 52 [some (jR 133), some (jI v1)] [jI u0] M Q :=
  (x_ci c238_52 (x_cne c238_54 H.1 (by decide) (fun h1 => (x_ci c238_77 (x_zrt c238_78 r238 (by decide) (H.2.1 h1)))) (fun h2 => (x_aldn c238_57 rfl (x_dupr c238_58 (x_gfi c238_59 k_133_7 (x_ci c238_62 (x_iadd c238_63 (x_pfi c238_64 k_133_7 (x_aldn c238_67 rfl (x_ildn c238_68 rfl (wp_wk (l' := [some (jR 133), some (jI v1)]) ⟨rfl, ⟨rfl, trivial⟩⟩ (x_cv (As := [jI v1]) (st := []) c238_69 cl_133 kl239 rfl (Nat.le_of_ble_eq_true rfl) mx239 (Nat.le_refl _) (H.2.2 h2))))))))))))))
theorem s238_72 {kc : List va_E} {d : Nat} {v1 u0 : Int} {M : fx_M} {Q : Option fx_V → fx_M → Prop} (H : ((fx_in32 u0)) ∧ (u0 ≠ 0 → wp kc (d + 1) 238 48 [some (jR 133), some (jI v1)] [] M Q) ∧ (u0 = 0 → Q (some (jI 0)) M)) : wp kc (d + 1) 238 72 [some (jR 133), some (jI v1)] [jI u0] M Q :=
  (x_zne c238_72 H.1 (fun h1 => (wp_wk (l' := [some (jR 133), some (jI v1)]) ⟨rfl, ⟨rfl, trivial⟩⟩ (H.2.1 h1))) (fun h2 => (x_ci c238_75 (x_zrt c238_76 r238 (by decide) (H.2.2 h2)))))
theorem s238 {kc : List va_E} {d : Nat} {x1 : Int} {M : fx_M} {Q : Option fx_V → fx_M → Prop} (H : wc kc d 220 [jR 133, jI 0, jI 0] (fx_up M 133 23 0) (fun v M1 => wp kc (d + 1) 238 11 [some (jR 133), some (jI x1)] (v.toList ++ []) M1 Q)) : wc kc (d + 1) 238 [jR 133, jI x1] M Q :=
  wc_of (wp_wk (l' := [some (jR 133), some (jI x1)]) ⟨rfl, ⟨rfl, trivial⟩⟩ (s238_0 H))

/- PuzzleHouseModel.scanPart(I)Z -/
theorem c239_0 : fx_op 239 0 = some (.aload_n 0, 1, 0) := by decide +kernel
theorem c239_1 : fx_ci 239 1 = some (1, 2) := by decide +kernel
theorem c239_2 : fx_ci 239 2 = some (3, 3) := by decide +kernel
theorem c239_3 : fx_ca 239 3 = some (220, 3, 2, 6) := by decide +kernel
theorem c239_6 : fx_op 239 6 = some (.istore_n 2, 7, 6) := by decide +kernel
theorem c239_7 : fx_op 239 7 = some (.iload_n 1, 8, 7) := by decide +kernel
theorem c239_8 : fx_op 239 8 = some (.ifCond .lt 14, 11, 22) := by decide +kernel
theorem c239_22 : fx_ci 239 22 = some (0, 23) := by decide +kernel
theorem c239_11 : fx_op 239 11 = some (.aload_n 0, 12, 11) := by decide +kernel
theorem c239_12 : fx_gf 239 12 = some (12, 23, 15) := by decide +kernel
theorem c239_15 : fx_op 239 15 = some (.ifCond .ne 7, 18, 22) := by decide +kernel
theorem c239_18 : fx_ci 239 18 = some (1, 19) := by decide +kernel
theorem c239_19 : fx_op 239 19 = some (.goto 4, 22, 23) := by decide +kernel
theorem c239_23 : fx_op 239 23 = some (.istore_n 3, 24, 23) := by decide +kernel
theorem c239_24 : fx_op 239 24 = some (.iload_n 2, 25, 24) := by decide +kernel
theorem c239_25 : fx_ci 239 25 = some (1, 26) := by decide +kernel
theorem c239_26 : fx_op 239 26 = some (.if_icmp .ne 27, 29, 53) := by decide +kernel
theorem c239_53 : fx_op 239 53 = some (.iload_n 2, 54, 53) := by decide +kernel
theorem c239_54 : fx_ci 239 54 = some (2, 55) := by decide +kernel
theorem c239_55 : fx_op 239 55 = some (.if_icmp .ne 27, 58, 82) := by decide +kernel
theorem c239_82 : fx_op 239 82 = some (.iload_n 2, 83, 82) := by decide +kernel
theorem c239_83 : fx_op 239 83 = some (.ifCond .lt 19, 86, 102) := by decide +kernel
theorem c239_102 : fx_ci 239 102 = some (0, 103) := by decide +kernel
theorem c239_86 : fx_op 239 86 = some (.aload_n 0, 87, 86) := by decide +kernel
theorem c239_87 : fx_ci 239 87 = some (32, 89) := by decide +kernel
theorem c239_58 : fx_op 239 58 = some (.aload_n 0, 59, 58) := by decide +kernel
theorem c239_29 : fx_op 239 29 = some (.aload_n 0, 30, 29) := by decide +kernel
theorem c239_103 : fx_op 239 103 = some (.ireturn, 104, 103) := by decide +kernel
theorem c239_89 : fx_ca 239 89 = some (227, 2, 2, 92) := by decide +kernel
theorem c239_59 : fx_ca 239 59 = some (234, 1, 2, 62) := by decide +kernel
theorem c239_30 : fx_ca 239 30 = some (230, 1, 2, 33) := by decide +kernel
theorem c239_92 : fx_op 239 92 = some (.ifCond .eq 10, 95, 102) := by decide +kernel
theorem c239_95 : fx_op 239 95 = some (.aload_n 0, 96, 95) := by decide +kernel
theorem c239_96 : fx_ca 239 96 = some (232, 1, 2, 99) := by decide +kernel
theorem c239_62 : fx_op 239 62 = some (.ifCond .ne 5, 65, 67) := by decide +kernel
theorem c239_67 : fx_op 239 67 = some (.iload_n 3, 68, 67) := by decide +kernel
theorem c239_68 : fx_op 239 68 = some (.ifCond .eq 12, 71, 80) := by decide +kernel
theorem c239_71 : fx_op 239 71 = some (.aload_n 0, 72, 71) := by decide +kernel
theorem c239_72 : fx_op 239 72 = some (.aload_n 0, 73, 72) := by decide +kernel
theorem c239_73 : fx_op 239 73 = some (.iload_n 1, 74, 73) := by decide +kernel
theorem c239_80 : fx_ci 239 80 = some (1, 81) := by decide +kernel
theorem c239_65 : fx_ci 239 65 = some (0, 66) := by decide +kernel
theorem c239_81 : fx_op 239 81 = some (.ireturn, 82, 81) := by decide +kernel
theorem c239_74 : fx_ca 239 74 = some (243, 2, 2, 77) := by decide +kernel
theorem c239_66 : fx_op 239 66 = some (.ireturn, 67, 66) := by decide +kernel
theorem c239_33 : fx_op 239 33 = some (.ifCond .ne 5, 36, 38) := by decide +kernel
theorem c239_38 : fx_op 239 38 = some (.iload_n 3, 39, 38) := by decide +kernel
theorem c239_39 : fx_op 239 39 = some (.ifCond .eq 12, 42, 51) := by decide +kernel
theorem c239_42 : fx_op 239 42 = some (.aload_n 0, 43, 42) := by decide +kernel
theorem c239_43 : fx_op 239 43 = some (.aload_n 0, 44, 43) := by decide +kernel
theorem c239_44 : fx_op 239 44 = some (.iload_n 1, 45, 44) := by decide +kernel
theorem c239_51 : fx_ci 239 51 = some (1, 52) := by decide +kernel
theorem c239_36 : fx_ci 239 36 = some (0, 37) := by decide +kernel
theorem c239_52 : fx_op 239 52 = some (.ireturn, 53, 52) := by decide +kernel
theorem c239_45 : fx_ca 239 45 = some (240, 2, 2, 48) := by decide +kernel
theorem c239_37 : fx_op 239 37 = some (.ireturn, 38, 37) := by decide +kernel
theorem c239_99 : fx_op 239 99 = some (.ifCond .ne 5, 102, 104) := by decide +kernel
theorem c239_104 : fx_op 239 104 = some (.aload_n 0, 105, 104) := by decide +kernel
theorem c239_105 : fx_op 239 105 = some (.aload_n 0, 106, 105) := by decide +kernel
theorem c239_106 : fx_gf 239 106 = some (12, 8, 109) := by decide +kernel
theorem c239_109 : fx_pf 239 109 = some (12, 20, 0, 112) := by decide +kernel
theorem c239_112 : fx_op 239 112 = some (.aload_n 0, 113, 112) := by decide +kernel
theorem c239_113 : fx_ci 239 113 = some (32, 115) := by decide +kernel
theorem c239_115 : fx_ca 239 115 = some (227, 2, 2, 118) := by decide +kernel
theorem c239_77 : fx_pf 239 77 = some (12, 23, 0, 80) := by decide +kernel
theorem c239_48 : fx_pf 239 48 = some (12, 23, 0, 51) := by decide +kernel
theorem c239_118 : fx_op 239 118 = some (.ifCond .eq 10, 121, 128) := by decide +kernel
theorem c239_128 : fx_ci 239 128 = some (0, 129) := by decide +kernel
theorem c239_121 : fx_op 239 121 = some (.aload_n 0, 122, 121) := by decide +kernel
theorem c239_129 : fx_op 239 129 = some (.ireturn, 130, 129) := by decide +kernel
theorem c239_122 : fx_ca 239 122 = some (229, 1, 2, 125) := by decide +kernel
theorem c239_125 : fx_op 239 125 = some (.ifCond .ne 5, 128, 130) := by decide +kernel
theorem c239_130 : fx_op 239 130 = some (.iload_n 3, 131, 130) := by decide +kernel
theorem c239_131 : fx_op 239 131 = some (.ifCond .eq 20, 134, 151) := by decide +kernel
theorem c239_134 : fx_op 239 134 = some (.aload_n 0, 135, 134) := by decide +kernel
theorem c239_135 : fx_op 239 135 = some (.aload_n 0, 136, 135) := by decide +kernel
theorem c239_136 : fx_op 239 136 = some (.iload_n 1, 137, 136) := by decide +kernel
theorem c239_137 : fx_op 239 137 = some (.aload_n 0, 138, 137) := by decide +kernel
theorem c239_138 : fx_gf 239 138 = some (12, 20, 141) := by decide +kernel
theorem c239_141 : fx_op 239 141 = some (.aload_n 0, 142, 141) := by decide +kernel
theorem c239_142 : fx_gf 239 142 = some (12, 8, 145) := by decide +kernel
theorem c239_151 : fx_ci 239 151 = some (1, 152) := by decide +kernel
theorem c239_152 : fx_op 239 152 = some (.ireturn, 153, 152) := by decide +kernel
theorem c239_145 : fx_ca 239 145 = some (245, 4, 2, 148) := by decide +kernel
theorem c239_148 : fx_pf 239 148 = some (12, 23, 0, 151) := by decide +kernel
theorem s239_0 {kc : List va_E} {d : Nat} {x1 : Int} {M : fx_M} {Q : Option fx_V → fx_M → Prop} (H : wc kc d 220 [jR 133, jI 1, jI 3] M (fun v M1 => wp kc (d + 1) 239 6 [some (jR 133), some (jI x1), none, none] (v.toList ++ []) M1 Q)) : wp kc (d + 1) 239 0 [some (jR 133), some (jI x1), none, none] [] M Q :=
  (x_aldn c239_0 rfl (x_ci c239_1 (x_ci c239_2 (wp_wk (l' := [some (jR 133), some (jI x1), none, none]) ⟨rfl, ⟨rfl, trivial⟩⟩ (x_cv (As := [jI 1, jI 3]) (st := []) c239_3 cl_133 kl220 rfl (Nat.le_of_ble_eq_true rfl) mx220 (Nat.le_refl _) H)))))
theorem s239_6 {kc : List va_E} {d : Nat} {v1 u0 : Int} {M : fx_M} {Q : Option fx_V → fx_M → Prop} (H : ((fx_in32 v1)) ∧ (0 ≤ v1 → (fx_in32 (M 133 23))) ∧ ((fx_in32 u0)) ∧ (u0 ≠ 1 → ((fx_in32 u0)) ∧ (u0 ≠ 2 → ((fx_in32 u0)) ∧ (u0 < 0 → Q (some (jI 0)) M) ∧ (0 ≤ u0 → wc kc d 227 [jR 133, jI 32] M (fun v M1 => wp kc (d + 1) 239 92 [some (jR 133), some (jI v1), none, some (jI (if v1 < 0 then (0 : Int) else (if M 133 23 = 0 then (1 : Int) else 0)))] (v.toList ++ []) M1 Q))) ∧ (u0 = 2 → wc kc d 234 [jR 133] M (fun v M1 => wp kc (d + 1) 239 62 [some (jR 133), some (jI v1), none, some (jI (if v1 < 0 then (0 : Int) else (if M 133 23 = 0 then (1 : Int) else 0)))] (v.toList ++ []) M1 Q))) ∧ (u0 = 1 → wc kc d 230 [jR 133] M (fun v M1 => wp kc (d + 1) 239 33 [some (jR 133), some (jI v1), none, some (jI (if v1 < 0 then (0 : Int) else (if M 133 23 = 0 then (1 : Int) else 0)))] (v.toList ++ []) M1 Q))) : wp kc (d + 1) 239 6 [some (jR 133), some (jI v1), none, none] [jI u0] M Q :=
  (x_istn (l' := [some (jR 133), some (jI v1), some (jI u0), none]) c239_6 rfl (x_ildn c239_7 rfl (have K : wp kc (d + 1) 239 23 [some (jR 133), some (jI v1), some (jI u0), none] [jI (if v1 < 0 then (0 : Int) else (if M 133 23 = 0 then (1 : Int) else 0))] M Q := (x_istn (l' := [some (jR 133), some (jI v1), some (jI u0), some (jI (if v1 < 0 then (0 : Int) else (if M 133 23 = 0 then (1 : Int) else 0)))]) c239_23 rfl (x_ildn c239_24 rfl (x_ci c239_25 (x_cne c239_26 H.2.2.1 (by decide) (fun h5 => (x_ildn c239_53 rfl (x_ci c239_54 (x_cne c239_55 (H.2.2.2.1 h5).1 (by decide) (fun h3 => (x_ildn c239_82 rfl (x_zlt c239_83 ((H.2.2.2.1 h5).2.1 h3).1 (fun h1 => (x_ci c239_102 (x_zrt c239_103 r239 (by decide) (((H.2.2.2.1 h5).2.1 h3).2.1 h1)))) (fun h2 => (x_aldn c239_86 rfl (x_ci c239_87 (wp_wk (l' := [some (jR 133), some (jI v1), none, some (jI (if v1 < 0 then (0 : Int) else (if M 133 23 = 0 then (1 : Int) else 0)))]) ⟨rfl, ⟨rfl, ⟨rfl, trivial⟩⟩⟩ (x_cv (As := [jI 32]) (st := []) c239_89 cl_133 kl227 rfl (Nat.le_of_ble_eq_true rfl) mx227 (Nat.le_refl _) (((H.2.2.2.1 h5).2.1 h3).2.2 h2))))))))) (fun h4 => (x_aldn c239_58 rfl (wp_wk (l' := [some (jR 133), some (jI v1), none, some (jI (if v1 < 0 then (0 : Int) else (if M 133 23 = 0 then (1 : Int) else 0)))]) ⟨rfl, ⟨rfl, ⟨rfl, trivial⟩⟩⟩ (x_cv (As := []) (st := []) c239_59 cl_133 kl234 rfl (Nat.le_of_ble_eq_true rfl) mx234 (Nat.le_refl _) ((H.2.2.2.1 h5).2.2 h4))))))))) (fun h6 => (x_aldn c239_29 rfl (wp_wk (l' := [some (jR 133), some (jI v1), none, some (jI (if v1 < 0 then (0 : Int) else (if M 133 23 = 0 then (1 : Int) else 0)))]) ⟨rfl, ⟨rfl, ⟨rfl, trivial⟩⟩⟩ (x_cv (As := []) (st := []) c239_30 cl_133 kl230 rfl (Nat.le_of_ble_eq_true rfl) mx230 (Nat.le_refl _) (H.2.2.2.2 h6))))))))); (x_zlt c239_8 H.1 (fun (h7 : v1 < 0) => (x_ci c239_22 (wp_wk (l' := [some (jR 133), some (jI v1), some (jI u0), none]) ⟨rfl, ⟨rfl, ⟨rfl, trivial⟩⟩⟩ (by have K := K; first | (simp only [if_pos h7] at K ⊢; exact K) | (exfalso; omega))))) (fun (h8 : 0 ≤ v1) => (x_aldn c239_11 rfl (x_gfi c239_12 k_133_23 (x_zne c239_15 (H.2.1 h8) (fun (h9 : M 133 23 ≠ 0) => (x_ci c239_22 (wp_wk (l' := [some (jR 133), some (jI v1), some (jI u0), none]) ⟨rfl, ⟨rfl, ⟨rfl, trivial⟩⟩⟩ (by have K := K; first | (simp only [if_neg (Int.not_lt.mpr h8), if_neg h9] at K ⊢; exact K) | (exfalso; omega))))) (fun (h10 : M 133 23 = 0) => (x_ci c239_18 (x_goto c239_19 (wp_wk (l' := [some (jR 133), some (jI v1), some (jI u0), none]) ⟨rfl, ⟨rfl, ⟨rfl, trivial⟩⟩⟩ (by have K := K; first | (simp only [if_neg (Int.not_lt.mpr h8), if_pos h10] at K ⊢; exact K) | (exfalso; omega))))))))))))))
theorem s239_33 {kc : List va_E} {d : Nat} {v1 v3 u0 : Int} {M : fx_M} {Q : Option fx_V → fx_M → Prop} (H : ((fx_in32 u0)) ∧ (u0 ≠ 0 → ((fx_in32 v3)) ∧ (v3 = 0 → Q (some (jI 1)) M) ∧ (v3 ≠ 0 → wc kc d 240 [jR 133, jI v1] M (fun v M1 => wp kc (d + 1) 239 48 [none, none, none, none] (v.toList ++ [jR 133]) M1 Q))) ∧ (u0 = 0 → Q (some (jI 0)) M)) : wp kc (d + 1) 239 33 [some (jR 133), some (jI v1), none, some (jI v3)] [jI u0] M Q :=
  (x_zne c239_33 H.1 (fun h3 => (x_ildn c239_38 rfl (x_zeq c239_39 (H.2.1 h3).1 (fun h1 => (x_ci c239_51 (x_zrt c239_52 r239 (by decide) ((H.2.1 h3).2.1 h1)))) (fun h2 => (x_aldn c239_42 rfl (x_aldn c239_43 rfl (x_ildn c239_44 rfl (wp_wk (l' := [none, none, none, none]) trivial (x_cv (As := [jI v1]) (st := [jR 133]) c239_45 cl_133 kl240 rfl (Nat.le_of_ble_eq_true rfl) mx240 (Nat.le_refl _) ((H.2.1 h3).2.2 h2)))))))))) (fun h4 => (x_ci c239_36 (x_zrt c239_37 r239 (by decide) (H.2.2 h4)))))
theorem s239_48 {kc : List va_E} {d : Nat} {u0 : Int} {M : fx_M} {Q : Option fx_V → fx_M → Prop} (H : Q (some (jI 1)) (fx_up M 133 23 u0)) : wp kc (d + 1) 239 48 [none, none, none, none] [jI u0, jR 133] M Q :=
  (x_pfi c239_48 k_133_23 (x_ci c239_51 (x_zrt c239_52 r239 (by decide) H)))
theorem s239_62 {kc : List va_E} {d : Nat} {v1 v3 u0 : Int} {M : fx_M} {Q : Option fx_V → fx_M → Prop} (H : ((fx_in32 u0)) ∧ (u0 ≠ 0 → ((fx_in32 v3)) ∧ (v3 = 0 → Q (some (jI 1)) M) ∧ (v3 ≠ 0 → wc kc d 243 [jR 133, jI v1] M (fun v M1 => wp kc (d + 1) 239 77 [none, none, none, none] (v.toList ++ [jR 133]) M1 Q))) ∧ (u0 = 0 → Q (some (jI 0)) M)) : wp kc (d + 1) 239 62 [some (jR 133), some (jI v1), none, some (jI v3)] [jI u0] M Q :=
  (x_zne c239_62 H.1 (fun h3 => (x_ildn c239_67 rfl (x_zeq c239_68 (H.2.1 h3).1 (fun h1 => (x_ci c239_80 (x_zrt c239_81 r239 (by decide) ((H.2.1 h3).2.1 h1)))) (fun h2 => (x_aldn c239_71 rfl (x_aldn c239_72 rfl (x_ildn c239_73 rfl (wp_wk (l' := [none, none, none, none]) trivial (x_cv (As := [jI v1]) (st := [jR 133]) c239_74 cl_133 kl243 rfl (Nat.le_of_ble_eq_true rfl) mx243 (Nat.le_refl _) ((H.2.1 h3).2.2 h2)))))))))) (fun h4 => (x_ci c239_65 (x_zrt c239_66 r239 (by decide) (H.2.2 h4)))))
theorem s239_77 {kc : List va_E} {d : Nat} {u0 : Int} {M : fx_M} {Q : Option fx_V → fx_M → Prop} (H : Q (some (jI 1)) (fx_up M 133 23 u0)) : wp kc (d + 1) 239 77 [none, none, none, none] [jI u0, jR 133] M Q :=
  (x_pfi c239_77 k_133_23 (x_ci c239_80 (x_zrt c239_81 r239 (by decide) H)))
theorem s239_92 {kc : List va_E} {d : Nat} {v1 v3 u0 : Int} {M : fx_M} {Q : Option fx_V → fx_M → Prop} (H : ((fx_in32 u0)) ∧ (u0 = 0 → Q (some (jI 0)) M) ∧ (u0 ≠ 0 → wc kc d 232 [jR 133] M (fun v M1 => wp kc (d + 1) 239 99 [some (jR 133), some (jI v1), none, some (jI v3)] (v.toList ++ []) M1 Q))) : wp kc (d + 1) 239 92 [some (jR 133), some (jI v1), none, some (jI v3)] [jI u0] M Q :=
  (x_zeq c239_92 H.1 (fun h1 => (x_ci c239_102 (x_zrt c239_103 r239 (by decide) (H.2.1 h1)))) (fun h2 => (x_aldn c239_95 rfl (wp_wk (l' := [some (jR 133), some (jI v1), none, some (jI v3)]) ⟨rfl, ⟨rfl, ⟨rfl, trivial⟩⟩⟩ (x_cv (As := []) (st := []) c239_96 cl_133 kl232 rfl (Nat.le_of_ble_eq_true rfl) mx232 (Nat.le_refl _) (H.2.2 h2))))))
theorem s239_99 {kc : List va_E} {d : Nat} {v1 v3 u0 : Int} {M : fx_M} {Q : Option fx_V → fx_M → Prop} (H : ((fx_in32 u0)) ∧ (u0 ≠ 0 → wc kc d 227 [jR 133, jI 32] (fx_up M 133 20 (M 133 8)) (fun v M1 => wp kc (d + 1) 239 118 [some (jR 133), some (jI v1), none, some (jI v3)] (v.toList ++ []) M1 Q)) ∧ (u0 = 0 → Q (some (jI 0)) M)) : wp kc (d + 1) 239 99 [some (jR 133), some (jI v1), none, some (jI v3)] [jI u0] M Q :=
  (x_zne c239_99 H.1 (fun h1 => (x_aldn c239_104 rfl (x_aldn c239_105 rfl (x_gfi c239_106 k_133_8 (x_pfi c239_109 k_133_20 (x_aldn c239_112 rfl (x_ci c239_113 (wp_wk (l' := [some (jR 133), some (jI v1), none, some (jI v3)]) ⟨rfl, ⟨rfl, ⟨rfl, trivial⟩⟩⟩ (x_cv (As := [jI 32]) (st := []) c239_115 cl_133 kl227 rfl (Nat.le_of_ble_eq_true rfl) mx227 (Nat.le_refl _) (H.2.1 h1)))))))))) (fun h2 => (x_ci c239_102 (x_zrt c239_103 r239 (by decide) (H.2.2 h2)))))
theorem s239_118 {kc : List va_E} {d : Nat} {v1 v3 u0 : Int} {M : fx_M} {Q : Option fx_V → fx_M → Prop} (H : ((fx_in32 u0)) ∧ (u0 = 0 → Q (some (jI 0)) M) ∧ (u0 ≠ 0 → wc kc d 229 [jR 133] M (fun v M1 => wp kc (d + 1) 239 125 [some (jR 133), some (jI v1), none, some (jI v3)] (v.toList ++ []) M1 Q))) : wp kc (d + 1) 239 118 [some (jR 133), some (jI v1), none, some (jI v3)] [jI u0] M Q :=
  (x_zeq c239_118 H.1 (fun h1 => (x_ci c239_128 (x_zrt c239_129 r239 (by decide) (H.2.1 h1)))) (fun h2 => (x_aldn c239_121 rfl (wp_wk (l' := [some (jR 133), some (jI v1), none, some (jI v3)]) ⟨rfl, ⟨rfl, ⟨rfl, trivial⟩⟩⟩ (x_cv (As := []) (st := []) c239_122 cl_133 kl229 rfl (Nat.le_of_ble_eq_true rfl) mx229 (Nat.le_refl _) (H.2.2 h2))))))
theorem s239_125 {kc : List va_E} {d : Nat} {v1 v3 u0 : Int} {M : fx_M} {Q : Option fx_V → fx_M → Prop} (H : ((fx_in32 u0)) ∧ (u0 ≠ 0 → ((fx_in32 v3)) ∧ (v3 = 0 → Q (some (jI 1)) M) ∧ (v3 ≠ 0 → wc kc d 245 [jR 133, jI v1, jI (M 133 20), jI (M 133 8)] M (fun v M1 => wp kc (d + 1) 239 148 [none, none, none, none] (v.toList ++ [jR 133]) M1 Q))) ∧ (u0 = 0 → Q (some (jI 0)) M)) : wp kc (d + 1) 239 125 [some (jR 133), some (jI v1), none, some (jI v3)] [jI u0] M Q :=
  (x_zne c239_125 H.1 (fun h3 => (x_ildn c239_130 rfl (x_zeq c239_131 (H.2.1 h3).1 (fun h1 => (x_ci c239_151 (x_zrt c239_152 r239 (by decide) ((H.2.1 h3).2.1 h1)))) (fun h2 => (x_aldn c239_134 rfl (x_aldn c239_135 rfl (x_ildn c239_136 rfl (x_aldn c239_137 rfl (x_gfi c239_138 k_133_20 (x_aldn c239_141 rfl (x_gfi c239_142 k_133_8 (wp_wk (l' := [none, none, none, none]) trivial (x_cv (As := [jI v1, jI (M 133 20), jI (M 133 8)]) (st := [jR 133]) c239_145 cl_133 kl245 rfl (Nat.le_of_ble_eq_true rfl) mx245 (Nat.le_refl _) ((H.2.1 h3).2.2 h2)))))))))))))) (fun h4 => (x_ci c239_128 (x_zrt c239_129 r239 (by decide) (H.2.2 h4)))))
theorem s239_148 {kc : List va_E} {d : Nat} {u0 : Int} {M : fx_M} {Q : Option fx_V → fx_M → Prop} (H : Q (some (jI 1)) (fx_up M 133 23 u0)) : wp kc (d + 1) 239 148 [none, none, none, none] [jI u0, jR 133] M Q :=
  (x_pfi c239_148 k_133_23 (x_ci c239_151 (x_zrt c239_152 r239 (by decide) H)))
theorem s239 {kc : List va_E} {d : Nat} {x1 : Int} {M : fx_M} {Q : Option fx_V → fx_M → Prop} (H : wc kc d 220 [jR 133, jI 1, jI 3] M (fun v M1 => wp kc (d + 1) 239 6 [some (jR 133), some (jI x1), none, none] (v.toList ++ []) M1 Q)) : wc kc (d + 1) 239 [jR 133, jI x1] M Q :=
  wc_of (wp_wk (l' := [some (jR 133), some (jI x1), none, none]) ⟨rfl, ⟨rfl, trivial⟩⟩ (s239_0 H))
