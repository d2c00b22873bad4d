/-! SEGMENTS (by gen/emit_segs.py), of the methods that are used here -/
theorem c63_0 : fx_op 63 0 = some (.aload_n 0, 1, 0) := by decide +kernel
theorem c63_1 : fx_ci 63 1 = some (0, 2) := by decide +kernel
theorem c63_2 : fx_pf 63 2 = some (1, 1, 0, 5) := by decide +kernel
theorem c63_5 : fx_op 63 5 = some (.return_, 6, 5) := by decide +kernel
theorem s63_0 {kc : List va_E} {d : Nat} {o : Nat} {M : fx_M} {Q : Option fx_V → fx_M → Prop} (Ho : fx_out o) (H : Q none (fx_up M o 1 0)) : wp kc (d + 1) 63 0 [some (jR o)] [] M Q :=
  (x_aldn c63_0 rfl (x_ci c63_1 (x_pfi c63_2 (ko_1 Ho) (x_vr c63_5 r63 H))))
theorem s63 {kc : List va_E} {d : Nat} {o : Nat} {M : fx_M} {Q : Option fx_V → fx_M → Prop} (Ho : fx_out o) (H : Q none (fx_up M o 1 0)) : wc kc (d + 1) 63 [jR o] M Q :=
  wc_of (wp_wk (l' := [some (jR o)]) ⟨rfl, trivial⟩ (s63_0 Ho H))

theorem c64_0 : fx_ci 64 0 = some (0, 1) := by decide +kernel
theorem c64_1 : fx_op 64 1 = some (.istore_n 2, 2, 1) := by decide +kernel
theorem c64_2 : fx_op 64 2 = some (.iload_n 2, 3, 2) := by decide +kernel
theorem c64_3 : fx_op 64 3 = some (.aload_n 1, 4, 3) := by decide +kernel
theorem c64_4 : fx_ca 64 4 = some (21, 1, 2, 7) := by decide +kernel
theorem c64_7 : fx_op 64 7 = some (.if_icmp .ge 45, 10, 52) := by decide +kernel
theorem c64_10 : fx_op 64 10 = some (.aload_n 0, 11, 10) := by decide +kernel
theorem c64_11 : fx_gf 64 11 = some (1, 1, 14) := by decide +kernel
theorem c64_14 : fx_op 64 14 = some (.aload_n 0, 15, 14) := by decide +kernel
theorem c64_15 : fx_gf 64 15 = some (1, 0, 18) := by decide +kernel
theorem c64_18 : fx_op 64 18 = some (.arraylength, 19, 18) := by decide +kernel
theorem c64_19 : fx_op 64 19 = some (.if_icmp .ge 33, 22, 52) := by decide +kernel
theorem c64_22 : fx_op 64 22 = some (.aload_n 0, 23, 22) := by decide +kernel
theorem c64_23 : fx_gf 64 23 = some (1, 0, 26) := by decide +kernel
theorem c64_26 : fx_op 64 26 = some (.aload_n 0, 27, 26) := by decide +kernel
theorem c64_27 : fx_gf 64 27 = some (1, 1, 30) := by decide +kernel
theorem c64_30 : fx_op 64 30 = some (.aload_n 1, 31, 30) := by decide +kernel
theorem c64_31 : fx_op 64 31 = some (.iload_n 2, 32, 31) := by decide +kernel
theorem c64_52 : fx_op 64 52 = some (.return_, 53, 52) := by decide +kernel
theorem c64_32 : fx_ca 64 32 = some (23, 2, 2, 35) := by decide +kernel
theorem c64_36 : fx_op 64 36 = some (.aload_n 0, 37, 36) := by decide +kernel
theorem c64_37 : fx_op 64 37 = some (.dup, 38, 37) := by decide +kernel
theorem c64_38 : fx_gf 64 38 = some (1, 1, 41) := by decide +kernel
theorem c64_41 : fx_ci 64 41 = some (1, 42) := by decide +kernel
theorem c64_42 : fx_op 64 42 = some (.iadd, 43, 42) := by decide +kernel
theorem c64_43 : fx_pf 64 43 = some (1, 1, 0, 46) := by decide +kernel
theorem c64_46 : fx_op 64 46 = some (.iinc 2 1, 49, 46) := by decide +kernel
theorem c64_35 : fx_op 64 35 = some (.castore, 36, 35) := by decide +kernel
theorem c64_49 : fx_op 64 49 = some (.goto (-47), 52, 2) := by decide +kernel
theorem s64_0 {kc : List va_E} {d : Nat} {o w : Nat} {M : fx_M} {Q : Option fx_V → fx_M → Prop} (Ho : fx_out o) (H : wp kc (d + 1) 64 2 [some (jR o), some (jR w), some (jI 0)] [] M Q) : wp kc (d + 1) 64 0 [some (jR o), some (jR w), none] [] M Q :=
  (x_ci c64_0 (x_istn (l' := [some (jR o), some (jR w), some (jI 0)]) c64_1 rfl (wp_wk (l' := [some (jR o), some (jR w), some (jI 0)]) ⟨rfl, ⟨rfl, ⟨rfl, trivial⟩⟩⟩ H)))
theorem s64_2 {kc : List va_E} {d : Nat} {o w : Nat} {v2 : Int} {M : fx_M} {Q : Option fx_V → fx_M → Prop} (Ho : fx_out o) (H : fx_lit kc w ∧ wc kc d 21 [jR w] M (fun v M1 => wp kc (d + 1) 64 7 [some (jR o), some (jR w), some (jI v2)] (v.toList ++ [jI v2]) M1 Q)) : wp kc (d + 1) 64 2 [some (jR o), some (jR w), some (jI v2)] [] M Q :=
  (x_ildn c64_2 rfl (x_aldn c64_3 rfl (wp_wk (l' := [some (jR o), some (jR w), some (jI v2)]) ⟨rfl, ⟨rfl, ⟨rfl, trivial⟩⟩⟩ (x_cl (b := w) (As := []) (st := [jI v2]) c64_4 kl21 H.1 rfl (Nat.le_of_ble_eq_true rfl) mx21 (Nat.le_refl _) H.2))))
theorem s64_7 {kc : List va_E} {d : Nat} {o w : Nat} {v2 u0 u1 : Int} {M : fx_M} {Q : Option fx_V → fx_M → Prop} (Ho : fx_out o) (H : ((fx_in32 u1) ∧ (fx_in32 u0)) ∧ (u0 ≤ u1 → Q none M) ∧ (u1 < u0 → ((fx_in32 (M o 1)) ∧ (fx_in32 ((fx_ol o : Nat) : Int))) ∧ (((fx_ol o : Nat) : Int) ≤ M o 1 → Q none M) ∧ (M o 1 < ((fx_ol o : Nat) : Int) → fx_lit kc w ∧ wc kc d 23 [jR w, jI v2] M (fun v M1 => wp kc (d + 1) 64 35 [some (jR o), some (jR w), some (jI v2)] (v.toList ++ [jI (M o 1), jR (o + 1)]) M1 Q)))) : wp kc (d + 1) 64 7 [some (jR o), some (jR w), some (jI v2)] [jI u0, jI u1] M Q :=
  (x_cge c64_7 H.1.1 H.1.2 (fun h3 => (x_vr c64_52 r64 (H.2.1 h3))) (fun h4 => (x_aldn c64_10 rfl (x_gfi c64_11 (ko_1 Ho) (x_aldn c64_14 rfl (x_gfr c64_15 (ko_0 Ho) (x_len c64_18 (ao_1 Ho) (x_cge c64_19 (H.2.2 h4).1.1 (H.2.2 h4).1.2 (fun h1 => (x_vr c64_52 r64 ((H.2.2 h4).2.1 h1))) (fun h2 => (x_aldn c64_22 rfl (x_gfr c64_23 (ko_0 Ho) (x_aldn c64_26 rfl (x_gfi c64_27 (ko_1 Ho) (x_aldn c64_30 rfl (x_ildn c64_31 rfl (wp_wk (l' := [some (jR o), some (jR w), some (jI v2)]) ⟨rfl, ⟨rfl, ⟨rfl, trivial⟩⟩⟩ (x_cl (b := w) (As := [jI v2]) (st := [jI (M o 1), jR (o + 1)]) c64_32 kl23 ((H.2.2 h4).2.2 h2).1 rfl (Nat.le_of_ble_eq_true rfl) mx23 (Nat.le_refl _) ((H.2.2 h4).2.2 h2).2)))))))))))))))))
theorem s64_35 {kc : List va_E} {d : Nat} {o w : Nat} {v2 u0 u1 : Int} {M : fx_M} {Q : Option fx_V → fx_M → Prop} (Ho : fx_out o) (H : (((0 : Int) ≤ u1 ∧ u1 < (fx_ol o : Nat)) ∧ ((0 : Int) ≤ u0 ∧ u0 ≤ 65535)) ∧ wp kc (d + 1) 64 2 [some (jR o), some (jR w), some (jI (v2 + 1))] [] (fx_up (fx_up M (o + 1) u1 u0) o 1 ((M o 1) + 1)) Q) : wp kc (d + 1) 64 35 [some (jR o), some (jR w), some (jI v2)] [jI u0, jI u1, jR (o + 1)] M Q :=
  (x_cast c64_35 (ao_1 Ho) H.1.1 (fx_ol_le _) H.1.2 (x_aldn c64_36 rfl (x_dupr c64_37 (x_gfi c64_38 (ko_1 Ho) (wp_vI (fx_upA (by omega)) (x_ci c64_41 (x_iadd c64_42 (x_pfi c64_43 (ko_1 Ho) (x_inc (l' := [some (jR o), some (jR w), some (jI (v2 + 1))]) c64_46 rfl rfl (x_goto c64_49 (wp_wk (l' := [some (jR o), some (jR w), some (jI (v2 + 1))]) ⟨rfl, ⟨rfl, ⟨rfl, trivial⟩⟩⟩ H.2)))))))))))
theorem s64 {kc : List va_E} {d : Nat} {o w : Nat} {M : fx_M} {Q : Option fx_V → fx_M → Prop} (Ho : fx_out o) (H : wp kc (d + 1) 64 2 [some (jR o), some (jR w), some (jI 0)] [] M Q) : wc kc (d + 1) 64 [jR o, jR w] M Q :=
  wc_of (wp_wk (l' := [some (jR o), some (jR w), none]) ⟨rfl, ⟨rfl, trivial⟩⟩ (s64_0 Ho H))

theorem c65_0 : fx_ci 65 0 = some (1, 1) := by decide +kernel
theorem c65_1 : fx_op 65 1 = some (.istore_n 2, 2, 1) := by decide +kernel
theorem c65_2 : fx_ci 65 2 = some (0, 3) := by decide +kernel
theorem c65_3 : fx_op 65 3 = some (.istore_n 3, 4, 3) := by decide +kernel
theorem c65_4 : fx_op 65 4 = some (.iload_n 3, 5, 4) := by decide +kernel
theorem c65_5 : fx_ci 65 5 = some (8, 7) := by decide +kernel
theorem c65_7 : fx_op 65 7 = some (.if_icmp .ge 22, 10, 29) := by decide +kernel
theorem c65_10 : fx_op 65 10 = some (.iload_n 1, 11, 10) := by decide +kernel
theorem c65_11 : fx_op 65 11 = some (.iload_n 2, 12, 11) := by decide +kernel
theorem c65_12 : fx_op 65 12 = some (.idiv, 13, 12) := by decide +kernel
theorem c65_13 : fx_ci 65 13 = some (10, 15) := by decide +kernel
theorem c65_15 : fx_op 65 15 = some (.if_icmp .lt 14, 18, 29) := by decide +kernel
theorem c65_18 : fx_op 65 18 = some (.iload_n 2, 19, 18) := by decide +kernel
theorem c65_19 : fx_ci 65 19 = some (10, 21) := by decide +kernel
theorem c65_21 : fx_op 65 21 = some (.imul, 22, 21) := by decide +kernel
theorem c65_22 : fx_op 65 22 = some (.istore_n 2, 23, 22) := by decide +kernel
theorem c65_23 : fx_op 65 23 = some (.iinc 3 1, 26, 23) := by decide +kernel
theorem c65_26 : fx_op 65 26 = some (.goto (-22), 29, 4) := by decide +kernel
theorem c65_29 : fx_op 65 29 = some (.iload_n 2, 30, 29) := by decide +kernel
theorem c65_30 : fx_op 65 30 = some (.ifCond .le 52, 33, 82) := by decide +kernel
theorem c65_33 : fx_op 65 33 = some (.aload_n 0, 34, 33) := by decide +kernel
theorem c65_34 : fx_gf 65 34 = some (1, 1, 37) := by decide +kernel
theorem c65_37 : fx_op 65 37 = some (.aload_n 0, 38, 37) := by decide +kernel
theorem c65_38 : fx_gf 65 38 = some (1, 0, 41) := by decide +kernel
theorem c65_41 : fx_op 65 41 = some (.arraylength, 42, 41) := by decide +kernel
theorem c65_42 : fx_op 65 42 = some (.if_icmp .ge 40, 45, 82) := by decide +kernel
theorem c65_45 : fx_op 65 45 = some (.aload_n 0, 46, 45) := by decide +kernel
theorem c65_46 : fx_gf 65 46 = some (1, 0, 49) := by decide +kernel
theorem c65_49 : fx_op 65 49 = some (.aload_n 0, 50, 49) := by decide +kernel
theorem c65_50 : fx_gf 65 50 = some (1, 1, 53) := by decide +kernel
theorem c65_53 : fx_ci 65 53 = some (48, 55) := by decide +kernel
theorem c65_55 : fx_op 65 55 = some (.iload_n 1, 56, 55) := by decide +kernel
theorem c65_56 : fx_op 65 56 = some (.iload_n 2, 57, 56) := by decide +kernel
theorem c65_57 : fx_op 65 57 = some (.idiv, 58, 57) := by decide +kernel
theorem c65_58 : fx_ci 65 58 = some (10, 60) := by decide +kernel
theorem c65_60 : fx_op 65 60 = some (.irem, 61, 60) := by decide +kernel
theorem c65_61 : fx_op 65 61 = some (.iadd, 62, 61) := by decide +kernel
theorem c65_62 : fx_op 65 62 = some (.i2c, 63, 62) := by decide +kernel
theorem c65_64 : fx_op 65 64 = some (.aload_n 0, 65, 64) := by decide +kernel
theorem c65_65 : fx_op 65 65 = some (.dup, 66, 65) := by decide +kernel
theorem c65_66 : fx_gf 65 66 = some (1, 1, 69) := by decide +kernel
theorem c65_69 : fx_ci 65 69 = some (1, 70) := by decide +kernel
theorem c65_70 : fx_op 65 70 = some (.iadd, 71, 70) := by decide +kernel
theorem c65_71 : fx_pf 65 71 = some (1, 1, 0, 74) := by decide +kernel
theorem c65_74 : fx_op 65 74 = some (.iload_n 2, 75, 74) := by decide +kernel
theorem c65_75 : fx_ci 65 75 = some (10, 77) := by decide +kernel
theorem c65_78 : fx_op 65 78 = some (.istore_n 2, 79, 78) := by decide +kernel
theorem c65_82 : fx_op 65 82 = some (.return_, 83, 82) := by decide +kernel
theorem c65_63 : fx_op 65 63 = some (.castore, 64, 63) := by decide +kernel
theorem c65_77 : fx_op 65 77 = some (.idiv, 78, 77) := by decide +kernel
theorem c65_79 : fx_op 65 79 = some (.goto (-50), 82, 29) := by decide +kernel
theorem s65_0 {kc : List va_E} {d : Nat} {o : Nat} {x1 : Int} {M : fx_M} {Q : Option fx_V → fx_M → Prop} (Ho : fx_out o) (H : wp kc (d + 1) 65 4 [some (jR o), some (jI x1), some (jI 1), some (jI 0)] [] M Q) : wp kc (d + 1) 65 0 [some (jR o), some (jI x1), none, none] [] M Q :=
  (x_ci c65_0 (x_istn (l' := [some (jR o), some (jI x1), some (jI 1), none]) c65_1 rfl (x_ci c65_2 (x_istn (l' := [some (jR o), some (jI x1), some (jI 1), some (jI 0)]) c65_3 rfl (wp_wk (l' := [some (jR o), some (jI x1), some (jI 1), some (jI 0)]) ⟨rfl, ⟨rfl, ⟨rfl, ⟨rfl, trivial⟩⟩⟩⟩ H)))))
theorem s65_4 {kc : List va_E} {d : Nat} {o : Nat} {v1 v2 v3 : Int} {M : fx_M} {Q : Option fx_V → fx_M → Prop} (Ho : fx_out o) (H : ((fx_in32 v3)) ∧ (8 ≤ v3 → wp kc (d + 1) 65 29 [some (jR o), some (jI v1), some (jI v2), none] [] M Q) ∧ (v3 < 8 → (((0 : Int) ≤ v1 ∧ v1 ≤ 2147483647) ∧ ((0 : Int) < v2 ∧ v2 ≤ 2147483647)) ∧ ((fx_in32 (v1 / v2))) ∧ (v1 / v2 < 10 → wp kc (d + 1) 65 29 [some (jR o), some (jI v1), some (jI v2), none] [] M Q) ∧ (10 ≤ v1 / v2 → wp kc (d + 1) 65 4 [some (jR o), some (jI v1), some (jI (v2 * 10)), some (jI (v3 + 1))] [] M Q))) : wp kc (d + 1) 65 4 [some (jR o), some (jI v1), some (jI v2), some (jI v3)] [] M Q :=
  (x_ildn c65_4 rfl (x_ci c65_5 (x_cge c65_7 H.1 (by decide) (fun h3 => (wp_wk (l' := [some (jR o), some (jI v1), some (jI v2), none]) ⟨rfl, ⟨rfl, ⟨rfl, trivial⟩⟩⟩ (H.2.1 h3))) (fun h4 => (x_ildn c65_10 rfl (x_ildn c65_11 rfl (x_idiv c65_12 (H.2.2 h4).1.1 (H.2.2 h4).1.2 (x_ci c65_13 (x_clt c65_15 (H.2.2 h4).2.1 (by decide) (fun h1 => (wp_wk (l' := [some (jR o), some (jI v1), some (jI v2), none]) ⟨rfl, ⟨rfl, ⟨rfl, trivial⟩⟩⟩ ((H.2.2 h4).2.2.1 h1))) (fun h2 => (x_ildn c65_18 rfl (x_ci c65_19 (x_imul c65_21 (x_istn (l' := [some (jR o), some (jI v1), some (jI (v2 * 10)), some (jI v3)]) c65_22 rfl (x_inc (l' := [some (jR o), some (jI v1), some (jI (v2 * 10)), some (jI (v3 + 1))]) c65_23 rfl rfl (x_goto c65_26 (wp_wk (l' := [some (jR o), some (jI v1), some (jI (v2 * 10)), some (jI (v3 + 1))]) ⟨rfl, ⟨rfl, ⟨rfl, ⟨rfl, trivial⟩⟩⟩⟩ ((H.2.2 h4).2.2.2 h2))))))))))))))))))
theorem s65_29 {kc : List va_E} {d : Nat} {o : Nat} {v1 v2 : Int} {M : fx_M} {Q : Option fx_V → fx_M → Prop} (Ho : fx_out o) (H : ((fx_in32 v2)) ∧ (v2 ≤ 0 → Q none M) ∧ (0 < v2 → ((fx_in32 (M o 1)) ∧ (fx_in32 ((fx_ol o : Nat) : Int))) ∧ (((fx_ol o : Nat) : Int) ≤ M o 1 → Q none M) ∧ (M o 1 < ((fx_ol o : Nat) : Int) → (((0 : Int) ≤ v1 ∧ v1 ≤ 2147483647) ∧ ((0 : Int) < v2 ∧ v2 ≤ 2147483647)) ∧ (((0 : Int) ≤ v1 / v2 ∧ v1 / v2 ≤ 2147483647)) ∧ (((0 : Int) ≤ M o 1 ∧ M o 1 < (fx_ol o : Nat)) ∧ ((0 : Int) ≤ (48 + ((v1 / v2) % 10)) % 65536 ∧ (48 + ((v1 / v2) % 10)) % 65536 ≤ 65535)) ∧ (((0 : Int) ≤ v2 ∧ v2 ≤ 2147483647)) ∧ wp kc (d + 1) 65 29 [some (jR o), some (jI v1), some (jI (v2 / 10)), none] [] (fx_up (fx_up M (o + 1) (M o 1) ((48 + ((v1 / v2) % 10)) % 65536)) o 1 ((M o 1) + 1)) Q))) : wp kc (d + 1) 65 29 [some (jR o), some (jI v1), some (jI v2), none] [] M Q :=
  (x_ildn c65_29 rfl (x_zle c65_30 H.1 (fun h3 => (x_vr c65_82 r65 (H.2.1 h3))) (fun h4 => (x_aldn c65_33 rfl (x_gfi c65_34 (ko_1 Ho) (x_aldn c65_37 rfl (x_gfr c65_38 (ko_0 Ho) (x_len c65_41 (ao_1 Ho) (x_cge c65_42 (H.2.2 h4).1.1 (H.2.2 h4).1.2 (fun h1 => (x_vr c65_82 r65 ((H.2.2 h4).2.1 h1))) (fun h2 => (x_aldn c65_45 rfl (x_gfr c65_46 (ko_0 Ho) (x_aldn c65_49 rfl (x_gfi c65_50 (ko_1 Ho) (x_ci c65_53 (x_ildn c65_55 rfl (x_ildn c65_56 rfl (x_idiv c65_57 ((H.2.2 h4).2.2 h2).1.1 ((H.2.2 h4).2.2 h2).1.2 (x_ci c65_58 (x_irem c65_60 ((H.2.2 h4).2.2 h2).2.1 (by decide) (x_iadd c65_61 (x_i2c c65_62 (x_cast c65_63 (ao_1 Ho) ((H.2.2 h4).2.2 h2).2.2.1.1 (fx_ol_le _) ((H.2.2 h4).2.2 h2).2.2.1.2 (x_aldn c65_64 rfl (x_dupr c65_65 (x_gfi c65_66 (ko_1 Ho) (wp_vI (fx_upA (by omega)) (x_ci c65_69 (x_iadd c65_70 (x_pfi c65_71 (ko_1 Ho) (x_ildn c65_74 rfl (x_ci c65_75 (x_idiv c65_77 ((H.2.2 h4).2.2 h2).2.2.2.1 (by decide) (x_istn (l' := [some (jR o), some (jI v1), some (jI (v2 / 10)), none]) c65_78 rfl (x_goto c65_79 (wp_wk (l' := [some (jR o), some (jI v1), some (jI (v2 / 10)), none]) ⟨rfl, ⟨rfl, ⟨rfl, trivial⟩⟩⟩ ((H.2.2 h4).2.2 h2).2.2.2.2))))))))))))))))))))))))))))))))))))
theorem s65 {kc : List va_E} {d : Nat} {o : Nat} {x1 : Int} {M : fx_M} {Q : Option fx_V → fx_M → Prop} (Ho : fx_out o) (H : wp kc (d + 1) 65 4 [some (jR o), some (jI x1), some (jI 1), some (jI 0)] [] M Q) : wc kc (d + 1) 65 [jR o, jI x1] M Q :=
  wc_of (wp_wk (l' := [some (jR o), some (jI x1), none, none]) ⟨rfl, ⟨rfl, trivial⟩⟩ (s65_0 Ho H))

theorem c69_0 : fx_op 69 0 = some (.aload_n 0, 1, 0) := by decide +kernel
theorem c69_1 : fx_gf 69 1 = some (1, 1, 4) := by decide +kernel
theorem c69_4 : fx_op 69 4 = some (.aload_n 0, 5, 4) := by decide +kernel
theorem c69_5 : fx_gf 69 5 = some (1, 0, 8) := by decide +kernel
theorem c69_8 : fx_op 69 8 = some (.arraylength, 9, 8) := by decide +kernel
theorem c69_9 : fx_op 69 9 = some (.if_icmp .ge 23, 12, 32) := by decide +kernel
theorem c69_12 : fx_op 69 12 = some (.aload_n 0, 13, 12) := by decide +kernel
theorem c69_13 : fx_gf 69 13 = some (1, 0, 16) := by decide +kernel
theorem c69_16 : fx_op 69 16 = some (.aload_n 0, 17, 16) := by decide +kernel
theorem c69_17 : fx_gf 69 17 = some (1, 1, 20) := by decide +kernel
theorem c69_20 : fx_op 69 20 = some (.iload_n 1, 21, 20) := by decide +kernel
theorem c69_22 : fx_op 69 22 = some (.aload_n 0, 23, 22) := by decide +kernel
theorem c69_23 : fx_op 69 23 = some (.dup, 24, 23) := by decide +kernel
theorem c69_24 : fx_gf 69 24 = some (1, 1, 27) := by decide +kernel
theorem c69_27 : fx_ci 69 27 = some (1, 28) := by decide +kernel
theorem c69_28 : fx_op 69 28 = some (.iadd, 29, 28) := by decide +kernel
theorem c69_29 : fx_pf 69 29 = some (1, 1, 0, 32) := by decide +kernel
theorem c69_32 : fx_op 69 32 = some (.return_, 33, 32) := by decide +kernel
theorem c69_21 : fx_op 69 21 = some (.castore, 22, 21) := by decide +kernel
theorem s69_0 {kc : List va_E} {d : Nat} {o : Nat} {x1 : Int} {M : fx_M} {Q : Option fx_V → fx_M → Prop} (Ho : fx_out o) (H : ((fx_in32 (M o 1)) ∧ (fx_in32 ((fx_ol o : Nat) : Int))) ∧ (((fx_ol o : Nat) : Int) ≤ M o 1 → Q none M) ∧ (M o 1 < ((fx_ol o : Nat) : Int) → (((0 : Int) ≤ M o 1 ∧ M o 1 < (fx_ol o : Nat)) ∧ ((0 : Int) ≤ x1 ∧ x1 ≤ 65535)) ∧ Q none (fx_up (fx_up M (o + 1) (M o 1) x1) o 1 ((M o 1) + 1)))) : wp kc (d + 1) 69 0 [some (jR o), some (jI x1)] [] M Q :=
  (x_aldn c69_0 rfl (x_gfi c69_1 (ko_1 Ho) (x_aldn c69_4 rfl (x_gfr c69_5 (ko_0 Ho) (x_len c69_8 (ao_1 Ho) (x_cge c69_9 H.1.1 H.1.2 (fun h1 => (x_vr c69_32 r69 (H.2.1 h1))) (fun h2 => (x_aldn c69_12 rfl (x_gfr c69_13 (ko_0 Ho) (x_aldn c69_16 rfl (x_gfi c69_17 (ko_1 Ho) (x_ildn c69_20 rfl (x_cast c69_21 (ao_1 Ho) (H.2.2 h2).1.1 (fx_ol_le _) (H.2.2 h2).1.2 (x_aldn c69_22 rfl (x_dupr c69_23 (x_gfi c69_24 (ko_1 Ho) (wp_vI (fx_upA (by omega)) (x_ci c69_27 (x_iadd c69_28 (x_pfi c69_29 (ko_1 Ho) (x_vr c69_32 r69 (H.2.2 h2).2)))))))))))))))))))))
theorem s69 {kc : List va_E} {d : Nat} {o : Nat} {x1 : Int} {M : fx_M} {Q : Option fx_V → fx_M → Prop} (Ho : fx_out o) (H : ((fx_in32 (M o 1)) ∧ (fx_in32 ((fx_ol o : Nat) : Int))) ∧ (((fx_ol o : Nat) : Int) ≤ M o 1 → Q none M) ∧ (M o 1 < ((fx_ol o : Nat) : Int) → (((0 : Int) ≤ M o 1 ∧ M o 1 < (fx_ol o : Nat)) ∧ ((0 : Int) ≤ x1 ∧ x1 ≤ 65535)) ∧ Q none (fx_up (fx_up M (o + 1) (M o 1) x1) o 1 ((M o 1) + 1)))) : wc kc (d + 1) 69 [jR o, jI x1] M Q :=
  wc_of (wp_wk (l' := [some (jR o), some (jI x1)]) ⟨rfl, ⟨rfl, trivial⟩⟩ (s69_0 Ho H))

theorem c18_0 : fx_op 18 0 = some (.aload_n 0, 1, 0) := by decide +kernel
theorem c18_1 : fx_op 18 1 = some (.aload_n 1, 2, 1) := by decide +kernel
theorem c18_2 : fx_pf 18 2 = some (2, 0, 3, 5) := by decide +kernel
theorem c18_5 : fx_op 18 5 = some (.aload_n 0, 6, 5) := by decide +kernel
theorem c18_6 : fx_op 18 6 = some (.iload_n 2, 7, 6) := by decide +kernel
theorem c18_7 : fx_ci 18 7 = some (0, 8) := by decide +kernel
theorem c18_11 : fx_pf 18 11 = some (2, 1, 0, 14) := by decide +kernel
theorem c18_14 : fx_op 18 14 = some (.aload_n 0, 15, 14) := by decide +kernel
theorem c18_15 : fx_op 18 15 = some (.iload_n 3, 16, 15) := by decide +kernel
theorem c18_16 : fx_op 18 16 = some (.aload_n 1, 17, 16) := by decide +kernel
theorem c18_17 : fx_op 18 17 = some (.arraylength, 18, 17) := by decide +kernel
theorem c18_21 : fx_pf 18 21 = some (2, 2, 0, 24) := by decide +kernel
theorem c18_24 : fx_op 18 24 = some (.aload_n 0, 25, 24) := by decide +kernel
theorem c18_25 : fx_ci 18 25 = some (0, 26) := by decide +kernel
theorem c18_26 : fx_pf 18 26 = some (2, 3, 2, 29) := by decide +kernel
theorem c18_29 : fx_op 18 29 = some (.aload_n 0, 30, 29) := by decide +kernel
theorem c18_30 : fx_cr 18 30 = some (1000001, 32) := by decide +kernel
theorem c18_32 : fx_pf 18 32 = some (2, 4, 3, 35) := by decide +kernel
theorem c18_8 : fx_nt 18 8 = some (1, 11) := by decide +kernel
theorem c18_18 : fx_nt 18 18 = some (2, 21) := by decide +kernel
theorem c18_35 : fx_op 18 35 = some (.return_, 36, 35) := by decide +kernel
theorem n18_8 : xS 18 ((xI 18 8).getD .nop) = none := by decide +kernel
theorem n18_18 : xS 18 ((xI 18 18).getD .nop) = none := by decide +kernel
theorem s18_0 {kc : List va_E} {d : Nat} {s a n : Nat} {x2 x3 : Int} {M : fx_M} {Q : Option fx_V → fx_M → Prop} (Hs : fx_scn s) (Ha : fx_a a = some (1, n)) (Han : n ≤ 2147483647) (H : ((fx_in32 x2)) ∧ ((fx_in32 x3) ∧ (fx_in32 ((n : Nat) : Int))) ∧ Q none (fx_up (fx_up (fx_up (fx_up (fx_up M s 0 ((a : Nat) : Int)) s 1 (if x2 < 0 then (0 : Int) else x2)) s 2 (if ((n : Nat) : Int) < x3 then (((n : Nat) : Int) : Int) else x3)) s 3 0) s 4 ((1000001 : Nat) : Int))) : wp kc (d + 1) 18 0 [some (jR s), some (jR a), some (jI x2), some (jI x3)] [] M Q :=
  (x_aldn c18_0 rfl (x_aldn c18_1 rfl (x_pfd c18_2 (ks_0 Hs) (x_aldn c18_5 rfl (x_ildn c18_6 rfl (x_ci c18_7 (x_max c18_8 n18_8 H.1 (by decide) (Nat.le_of_ble_eq_true rfl) (x_pfi c18_11 (ks_1 Hs) (x_aldn c18_14 rfl (x_ildn c18_15 rfl (x_aldn c18_16 rfl (x_len c18_17 Ha (x_min c18_18 n18_18 H.2.1.1 H.2.1.2 (Nat.le_of_ble_eq_true rfl) (x_pfi c18_21 (ks_2 Hs) (x_aldn c18_24 rfl (x_ci c18_25 (x_pfz c18_26 (ks_3 Hs) (by decide) (x_aldn c18_29 rfl (x_cr c18_30 (x_pfd c18_32 (ks_4 Hs) (x_vr c18_35 r18 H.2.2)))))))))))))))))))))
theorem s18 {kc : List va_E} {d : Nat} {s a n : Nat} {x2 x3 : Int} {M : fx_M} {Q : Option fx_V → fx_M → Prop} (Hs : fx_scn s) (Ha : fx_a a = some (1, n)) (Han : n ≤ 2147483647) (H : ((fx_in32 x2)) ∧ ((fx_in32 x3) ∧ (fx_in32 ((n : Nat) : Int))) ∧ Q none (fx_up (fx_up (fx_up (fx_up (fx_up M s 0 ((a : Nat) : Int)) s 1 (if x2 < 0 then (0 : Int) else x2)) s 2 (if ((n : Nat) : Int) < x3 then (((n : Nat) : Int) : Int) else x3)) s 3 0) s 4 ((1000001 : Nat) : Int))) : wc kc (d + 1) 18 [jR s, jR a, jI x2, jI x3] M Q :=
  wc_of (wp_wk (l' := [some (jR s), some (jR a), some (jI x2), some (jI x3)]) ⟨rfl, ⟨rfl, ⟨rfl, ⟨rfl, trivial⟩⟩⟩⟩ (s18_0 Hs Ha Han H))

theorem c20_0 : fx_ci 20 0 = some ((-1), 1) := by decide +kernel
theorem c20_1 : fx_op 20 1 = some (.istore_n 2, 2, 1) := by decide +kernel
theorem c20_2 : fx_ci 20 2 = some (0, 3) := by decide +kernel
theorem c20_3 : fx_op 20 3 = some (.istore_n 3, 4, 3) := by decide +kernel
theorem c20_4 : fx_ci 20 4 = some (0, 5) := by decide +kernel
theorem c20_5 : fx_op 20 5 = some (.istore 4, 7, 5) := by decide +kernel
theorem c20_7 : fx_ci 20 7 = some (0, 8) := by decide +kernel
theorem c20_8 : fx_op 20 8 = some (.istore 5, 10, 8) := by decide +kernel
theorem c20_10 : fx_ci 20 10 = some (0, 11) := by decide +kernel
theorem c20_11 : fx_op 20 11 = some (.istore 6, 13, 11) := by decide +kernel
theorem c20_13 : fx_ci 20 13 = some (0, 14) := by decide +kernel
theorem c20_14 : fx_op 20 14 = some (.istore 7, 16, 14) := by decide +kernel
theorem c20_16 : fx_ci 20 16 = some (0, 17) := by decide +kernel
theorem c20_17 : fx_op 20 17 = some (.istore 8, 19, 17) := by decide +kernel
theorem c20_19 : fx_op 20 19 = some (.iload 8, 21, 19) := by decide +kernel
theorem c20_21 : fx_op 20 21 = some (.aload_n 1, 22, 21) := by decide +kernel
theorem c20_22 : fx_ca 20 22 = some (21, 1, 2, 25) := by decide +kernel
theorem c20_25 : fx_op 20 25 = some (.if_icmp .gt 130, 28, 155) := by decide +kernel
theorem c20_28 : fx_op 20 28 = some (.aload_n 0, 29, 28) := by decide +kernel
theorem c20_29 : fx_gf 20 29 = some (2, 3, 32) := by decide +kernel
theorem c20_32 : fx_op 20 32 = some (.ifCond .ne 123, 35, 155) := by decide +kernel
theorem c20_35 : fx_op 20 35 = some (.iload 8, 37, 35) := by decide +kernel
theorem c20_37 : fx_op 20 37 = some (.aload_n 1, 38, 37) := by decide +kernel
theorem c20_155 : fx_op 20 155 = some (.aload_n 0, 156, 155) := by decide +kernel
theorem c20_156 : fx_op 20 156 = some (.aload_n 0, 157, 156) := by decide +kernel
theorem c20_157 : fx_gf 20 157 = some (2, 3, 160) := by decide +kernel
theorem c20_160 : fx_op 20 160 = some (.ifCond .ne 7, 163, 167) := by decide +kernel
theorem c20_167 : fx_ci 20 167 = some (1, 168) := by decide +kernel
theorem c20_168 : fx_op 20 168 = some (.goto 4, 171, 172) := by decide +kernel
theorem c20_163 : fx_op 20 163 = some (.iload_n 2, 164, 163) := by decide +kernel
theorem c20_164 : fx_op 20 164 = some (.ifCond .ge 7, 167, 171) := by decide +kernel
theorem c20_171 : fx_ci 20 171 = some (0, 172) := by decide +kernel
theorem c20_175 : fx_op 20 175 = some (.aload_n 0, 176, 175) := by decide +kernel
theorem c20_176 : fx_op 20 176 = some (.dup, 177, 176) := by decide +kernel
theorem c20_177 : fx_gf 20 177 = some (2, 1, 180) := by decide +kernel
theorem c20_180 : fx_op 20 180 = some (.iload_n 2, 181, 180) := by decide +kernel
theorem c20_181 : fx_op 20 181 = some (.ifCond .ge 8, 184, 189) := by decide +kernel
theorem c20_189 : fx_op 20 189 = some (.iload_n 3, 190, 189) := by decide +kernel
theorem c20_184 : fx_op 20 184 = some (.iload 4, 186, 184) := by decide +kernel
theorem c20_186 : fx_op 20 186 = some (.goto 4, 189, 190) := by decide +kernel
theorem c20_190 : fx_op 20 190 = some (.iadd, 191, 190) := by decide +kernel
theorem c20_191 : fx_pf 20 191 = some (2, 1, 0, 194) := by decide +kernel
theorem c20_194 : fx_op 20 194 = some (.iload_n 2, 195, 194) := by decide +kernel
theorem c20_172 : fx_pf 20 172 = some (2, 3, 2, 175) := by decide +kernel
theorem c20_195 : fx_op 20 195 = some (.ireturn, 196, 195) := by decide +kernel
theorem c20_38 : fx_ca 20 38 = some (21, 1, 2, 41) := by decide +kernel
theorem c20_41 : fx_op 20 41 = some (.if_icmp .eq 14, 44, 55) := by decide +kernel
theorem c20_55 : fx_op 20 55 = some (.iload 7, 57, 55) := by decide +kernel
theorem c20_57 : fx_op 20 57 = some (.iload 6, 59, 57) := by decide +kernel
theorem c20_59 : fx_op 20 59 = some (.if_icmp .ne 15, 62, 74) := by decide +kernel
theorem c20_74 : fx_op 20 74 = some (.iload 4, 76, 74) := by decide +kernel
theorem c20_76 : fx_op 20 76 = some (.iload 7, 78, 76) := by decide +kernel
theorem c20_78 : fx_nt 20 78 = some (1, 81) := by decide +kernel
theorem c20_81 : fx_op 20 81 = some (.istore 4, 83, 81) := by decide +kernel
theorem c20_83 : fx_op 20 83 = some (.iinc 5 1, 86, 83) := by decide +kernel
theorem c20_86 : fx_ci 20 86 = some (0, 87) := by decide +kernel
theorem c20_87 : fx_op 20 87 = some (.istore 6, 89, 87) := by decide +kernel
theorem c20_89 : fx_ci 20 89 = some (0, 90) := by decide +kernel
theorem c20_90 : fx_op 20 90 = some (.istore 7, 92, 90) := by decide +kernel
theorem c20_92 : fx_op 20 92 = some (.goto 57, 95, 149) := by decide +kernel
theorem c20_62 : fx_op 20 62 = some (.iload 7, 64, 62) := by decide +kernel
theorem c20_64 : fx_op 20 64 = some (.iload_n 3, 65, 64) := by decide +kernel
theorem c20_65 : fx_op 20 65 = some (.if_icmp .le 9, 68, 74) := by decide +kernel
theorem c20_68 : fx_op 20 68 = some (.iload 5, 70, 68) := by decide +kernel
theorem c20_70 : fx_op 20 70 = some (.istore_n 2, 71, 70) := by decide +kernel
theorem c20_71 : fx_op 20 71 = some (.iload 7, 73, 71) := by decide +kernel
theorem c20_73 : fx_op 20 73 = some (.istore_n 3, 74, 73) := by decide +kernel
theorem c20_44 : fx_op 20 44 = some (.aload_n 1, 45, 44) := by decide +kernel
theorem c20_45 : fx_op 20 45 = some (.iload 8, 47, 45) := by decide +kernel
theorem c20_149 : fx_op 20 149 = some (.iinc 8 1, 152, 149) := by decide +kernel
theorem c20_152 : fx_op 20 152 = some (.goto (-133), 155, 19) := by decide +kernel
theorem c20_47 : fx_ca 20 47 = some (23, 2, 2, 50) := by decide +kernel
theorem c20_50 : fx_ci 20 50 = some (32, 52) := by decide +kernel
theorem c20_52 : fx_op 20 52 = some (.if_icmp .ne 43, 55, 95) := by decide +kernel
theorem c20_95 : fx_op 20 95 = some (.aload_n 0, 96, 95) := by decide +kernel
theorem c20_96 : fx_gf 20 96 = some (2, 1, 99) := by decide +kernel
theorem c20_99 : fx_op 20 99 = some (.iload 7, 101, 99) := by decide +kernel
theorem c20_101 : fx_op 20 101 = some (.iadd, 102, 101) := by decide +kernel
theorem c20_102 : fx_op 20 102 = some (.istore 9, 104, 102) := by decide +kernel
theorem c20_104 : fx_op 20 104 = some (.iload 7, 106, 104) := by decide +kernel
theorem c20_106 : fx_op 20 106 = some (.iload 7, 108, 106) := by decide +kernel
theorem c20_108 : fx_op 20 108 = some (.iload 6, 110, 108) := by decide +kernel
theorem c20_110 : fx_op 20 110 = some (.if_icmp .ne 32, 113, 142) := by decide +kernel
theorem c20_142 : fx_ci 20 142 = some (0, 143) := by decide +kernel
theorem c20_143 : fx_op 20 143 = some (.iadd, 144, 143) := by decide +kernel
theorem c20_144 : fx_op 20 144 = some (.istore 7, 146, 144) := by decide +kernel
theorem c20_146 : fx_op 20 146 = some (.iinc 6 1, 149, 146) := by decide +kernel
theorem c20_113 : fx_op 20 113 = some (.iload 9, 115, 113) := by decide +kernel
theorem c20_115 : fx_op 20 115 = some (.aload_n 0, 116, 115) := by decide +kernel
theorem c20_116 : fx_gf 20 116 = some (2, 2, 119) := by decide +kernel
theorem c20_119 : fx_op 20 119 = some (.if_icmp .ge 23, 122, 142) := by decide +kernel
theorem c20_122 : fx_op 20 122 = some (.aload_n 0, 123, 122) := by decide +kernel
theorem c20_123 : fx_gf 20 123 = some (2, 0, 126) := by decide +kernel
theorem c20_126 : fx_op 20 126 = some (.iload 9, 128, 126) := by decide +kernel
theorem c20_128 : fx_op 20 128 = some (.caload, 129, 128) := by decide +kernel
theorem c20_129 : fx_op 20 129 = some (.aload_n 1, 130, 129) := by decide +kernel
theorem c20_130 : fx_op 20 130 = some (.iload 8, 132, 130) := by decide +kernel
theorem c20_132 : fx_ca 20 132 = some (23, 2, 2, 135) := by decide +kernel
theorem c20_135 : fx_op 20 135 = some (.if_icmp .ne 7, 138, 142) := by decide +kernel
theorem c20_138 : fx_ci 20 138 = some (1, 139) := by decide +kernel
theorem c20_139 : fx_op 20 139 = some (.goto 4, 142, 143) := by decide +kernel
theorem n20_78 : xS 20 ((xI 20 78).getD .nop) = none := by decide +kernel
theorem s20_0 {kc : List va_E} {d : Nat} {s w : Nat} {M : fx_M} {Q : Option fx_V → fx_M → Prop} (Hs : fx_scn s) (H : wp kc (d + 1) 20 19 [some (jR s), some (jR w), some (jI (-1)), some (jI 0), some (jI 0), some (jI 0), some (jI 0), some (jI 0), some (jI 0), none] [] M Q) : wp kc (d + 1) 20 0 [some (jR s), some (jR w), none, none, none, none, none, none, none, none] [] M Q :=
  (x_ci c20_0 (x_istn (l' := [some (jR s), some (jR w), some (jI (-1)), none, none, none, none, none, none, none]) c20_1 rfl (x_ci c20_2 (x_istn (l' := [some (jR s), some (jR w), some (jI (-1)), some (jI 0), none, none, none, none, none, none]) c20_3 rfl (x_ci c20_4 (x_ist (l' := [some (jR s), some (jR w), some (jI (-1)), some (jI 0), some (jI 0), none, none, none, none, none]) c20_5 rfl (x_ci c20_7 (x_ist (l' := [some (jR s), some (jR w), some (jI (-1)), some (jI 0), some (jI 0), some (jI 0), none, none, none, none]) c20_8 rfl (x_ci c20_10 (x_ist (l' := [some (jR s), some (jR w), some (jI (-1)), some (jI 0), some (jI 0), some (jI 0), some (jI 0), none, none, none]) c20_11 rfl (x_ci c20_13 (x_ist (l' := [some (jR s), some (jR w), some (jI (-1)), some (jI 0), some (jI 0), some (jI 0), some (jI 0), some (jI 0), none, none]) c20_14 rfl (x_ci c20_16 (x_ist (l' := [some (jR s), some (jR w), some (jI (-1)), some (jI 0), some (jI 0), some (jI 0), some (jI 0), some (jI 0), some (jI 0), none]) c20_17 rfl (wp_wk (l' := [some (jR s), some (jR w), some (jI (-1)), some (jI 0), some (jI 0), some (jI 0), some (jI 0), some (jI 0), some (jI 0), none]) ⟨rfl, ⟨rfl, ⟨rfl, ⟨rfl, ⟨rfl, ⟨rfl, ⟨rfl, ⟨rfl, ⟨rfl, trivial⟩⟩⟩⟩⟩⟩⟩⟩⟩ H)))))))))))))))
theorem s20_19 {kc : List va_E} {d : Nat} {s w : Nat} {v2 v3 v4 v5 v6 v7 v8 : Int} {M : fx_M} {Q : Option fx_V → fx_M → Prop} (Hs : fx_scn s) (H : fx_lit kc w ∧ wc kc d 21 [jR w] M (fun v M1 => wp kc (d + 1) 20 25 [some (jR s), some (jR w), some (jI v2), some (jI v3), some (jI v4), some (jI v5), some (jI v6), some (jI v7), some (jI v8), none] (v.toList ++ [jI v8]) M1 Q)) : wp kc (d + 1) 20 19 [some (jR s), some (jR w), some (jI v2), some (jI v3), some (jI v4), some (jI v5), some (jI v6), some (jI v7), some (jI v8), none] [] M Q :=
  (x_ild c20_19 rfl (x_aldn c20_21 rfl (wp_wk (l' := [some (jR s), some (jR w), some (jI v2), some (jI v3), some (jI v4), some (jI v5), some (jI v6), some (jI v7), some (jI v8), none]) ⟨rfl, ⟨rfl, ⟨rfl, ⟨rfl, ⟨rfl, ⟨rfl, ⟨rfl, ⟨rfl, ⟨rfl, trivial⟩⟩⟩⟩⟩⟩⟩⟩⟩ (x_cl (b := w) (As := []) (st := [jI v8]) c20_22 kl21 H.1 rfl (Nat.le_of_ble_eq_true rfl) mx21 (Nat.le_refl _) H.2))))
theorem s20_25 {kc : List va_E} {d : Nat} {s w : Nat} {v2 v3 v4 v5 v6 v7 v8 u0 u1 : Int} {M : fx_M} {Q : Option fx_V → fx_M → Prop} (Hs : fx_scn s) (H : ((fx_in32 u1) ∧ (fx_in32 u0)) ∧ (u0 < u1 → ((fx_in32 (M s 3))) ∧ (M s 3 = 0 → (fx_in32 v2)) ∧ (((0 : Int) ≤ (if M s 3 = 0 then ((if v2 < 0 then (1 : Int) else 0) : Int) else 1) ∧ (if M s 3 = 0 then ((if v2 < 0 then (1 : Int) else 0) : Int) else 1) ≤ 1)) ∧ ((fx_in32 v2)) ∧ Q (some (jI v2)) (fx_up (fx_up M s 3 (if M s 3 = 0 then ((if v2 < 0 then (1 : Int) else 0) : Int) else 1)) s 1 ((M s 1) + (if v2 < 0 then (v4 : Int) else v3)))) ∧ (u1 ≤ u0 → ((fx_in32 (M s 3))) ∧ (M s 3 ≠ 0 → ((fx_in32 (M s 3))) ∧ (M s 3 = 0 → (fx_in32 v2)) ∧ (((0 : Int) ≤ (if M s 3 = 0 then ((if v2 < 0 then (1 : Int) else 0) : Int) else 1) ∧ (if M s 3 = 0 then ((if v2 < 0 then (1 : Int) else 0) : Int) else 1) ≤ 1)) ∧ ((fx_in32 v2)) ∧ Q (some (jI v2)) (fx_up (fx_up M s 3 (if M s 3 = 0 then ((if v2 < 0 then (1 : Int) else 0) : Int) else 1)) s 1 ((M s 1) + (if v2 < 0 then (v4 : Int) else v3)))) ∧ (M s 3 = 0 → fx_lit kc w ∧ wc kc d 21 [jR w] M (fun v M1 => wp kc (d + 1) 20 41 [some (jR s), some (jR w), some (jI v2), some (jI v3), some (jI v4), some (jI v5), some (jI v6), some (jI v7), some (jI v8), none] (v.toList ++ [jI v8]) M1 Q)))) : wp kc (d + 1) 20 25 [some (jR s), some (jR w), some (jI v2), some (jI v3), some (jI v4), some (jI v5), some (jI v6), some (jI v7), some (jI v8), none] [jI u0, jI u1] M Q :=
  (x_cgt c20_25 H.1.1 H.1.2 (fun h3 => (x_aldn c20_155 rfl (x_aldn c20_156 rfl (x_gfi c20_157 (ks_3 Hs) (have K : wp kc (d + 1) 20 172 [some (jR s), none, some (jI v2), some (jI v3), some (jI v4), none, none, none, none, none] [jI (if M s 3 = 0 then ((if v2 < 0 then (1 : Int) else 0) : Int) else 1), jR s] M Q := (x_pfz c20_172 (ks_3 Hs) (H.2.1 h3).2.2.1 (x_aldn c20_175 rfl (x_dupr c20_176 (x_gfi c20_177 (ks_1 Hs) (wp_vI (fx_upK (by decide)) (x_ildn c20_180 rfl (have K : wp kc (d + 1) 20 190 [none, none, some (jI v2), none, none, none, none, none, none, none] [jI (if v2 < 0 then (v4 : Int) else v3), jI (M s 1), jR s] (fx_up M s 3 (if M s 3 = 0 then ((if v2 < 0 then (1 : Int) else 0) : Int) else 1)) Q := (x_iadd c20_190 (x_pfi c20_191 (ks_1 Hs) (x_ildn c20_194 rfl (x_irt c20_195 r20 (H.2.1 h3).2.2.2.2)))); (x_zge c20_181 (H.2.1 h3).2.2.2.1 (fun (h9 : 0 ≤ v2) => (x_ildn c20_189 rfl (wp_wk (l' := [none, none, some (jI v2), none, none, none, none, none, none, none]) ⟨rfl, trivial⟩ (by have K := K; first | (simp only [if_neg (Int.not_lt.mpr h9)] at K ⊢; exact K) | (exfalso; omega))))) (fun (h10 : v2 < 0) => (x_ild c20_184 rfl (x_goto c20_186 (wp_wk (l' := [none, none, some (jI v2), none, none, none, none, none, none, none]) ⟨rfl, trivial⟩ (by have K := K; first | (simp only [if_pos h10] at K ⊢; exact K) | (exfalso; omega)))))))))))))); (x_zne c20_160 (H.2.1 h3).1 (fun (h5 : M s 3 ≠ 0) => (x_ci c20_167 (x_goto c20_168 (wp_wk (l' := [some (jR s), none, some (jI v2), some (jI v3), some (jI v4), none, none, none, none, none]) ⟨rfl, ⟨rfl, ⟨rfl, ⟨rfl, trivial⟩⟩⟩⟩ (by have K := K; first | (simp only [if_neg h5] at K ⊢; exact K) | (exfalso; omega)))))) (fun (h6 : M s 3 = 0) => (x_ildn c20_163 rfl (x_zge c20_164 ((H.2.1 h3).2.1 h6) (fun (h7 : 0 ≤ v2) => (x_ci c20_171 (wp_wk (l' := [some (jR s), none, some (jI v2), some (jI v3), some (jI v4), none, none, none, none, none]) ⟨rfl, ⟨rfl, ⟨rfl, ⟨rfl, trivial⟩⟩⟩⟩ (by have K := K; first | (simp only [if_pos h6, if_neg (Int.not_lt.mpr h7)] at K ⊢; exact K) | (exfalso; omega))))) (fun (h8 : v2 < 0) => (x_ci c20_167 (x_goto c20_168 (wp_wk (l' := [some (jR s), none, some (jI v2), some (jI v3), some (jI v4), none, none, none, none, none]) ⟨rfl, ⟨rfl, ⟨rfl, ⟨rfl, trivial⟩⟩⟩⟩ (by have K := K; first | (simp only [if_pos h6, if_pos h8] at K ⊢; exact K) | (exfalso; omega))))))))))))))) (fun h4 => (x_aldn c20_28 rfl (x_gfi c20_29 (ks_3 Hs) (x_zne c20_32 (H.2.2 h4).1 (fun h1 => (x_aldn c20_155 rfl (x_aldn c20_156 rfl (x_gfi c20_157 (ks_3 Hs) (have K : wp kc (d + 1) 20 172 [some (jR s), none, some (jI v2), some (jI v3), some (jI v4), none, none, none, none, none] [jI (if M s 3 = 0 then ((if v2 < 0 then (1 : Int) else 0) : Int) else 1), jR s] M Q := (x_pfz c20_172 (ks_3 Hs) ((H.2.2 h4).2.1 h1).2.2.1 (x_aldn c20_175 rfl (x_dupr c20_176 (x_gfi c20_177 (ks_1 Hs) (wp_vI (fx_upK (by decide)) (x_ildn c20_180 rfl (have K : wp kc (d + 1) 20 190 [none, none, some (jI v2), none, none, none, none, none, none, none] [jI (if v2 < 0 then (v4 : Int) else v3), jI (M s 1), jR s] (fx_up M s 3 (if M s 3 = 0 then ((if v2 < 0 then (1 : Int) else 0) : Int) else 1)) Q := (x_iadd c20_190 (x_pfi c20_191 (ks_1 Hs) (x_ildn c20_194 rfl (x_irt c20_195 r20 ((H.2.2 h4).2.1 h1).2.2.2.2)))); (x_zge c20_181 ((H.2.2 h4).2.1 h1).2.2.2.1 (fun (h15 : 0 ≤ v2) => (x_ildn c20_189 rfl (wp_wk (l' := [none, none, some (jI v2), none, none, none, none, none, none, none]) ⟨rfl, trivial⟩ (by have K := K; first | (simp only [if_neg (Int.not_lt.mpr h15)] at K ⊢; exact K) | (exfalso; omega))))) (fun (h16 : v2 < 0) => (x_ild c20_184 rfl (x_goto c20_186 (wp_wk (l' := [none, none, some (jI v2), none, none, none, none, none, none, none]) ⟨rfl, trivial⟩ (by have K := K; first | (simp only [if_pos h16] at K ⊢; exact K) | (exfalso; omega)))))))))))))); (x_zne c20_160 ((H.2.2 h4).2.1 h1).1 (fun (h11 : M s 3 ≠ 0) => (x_ci c20_167 (x_goto c20_168 (wp_wk (l' := [some (jR s), none, some (jI v2), some (jI v3), some (jI v4), none, none, none, none, none]) ⟨rfl, ⟨rfl, ⟨rfl, ⟨rfl, trivial⟩⟩⟩⟩ (by have K := K; first | (simp only [if_neg h11] at K ⊢; exact K) | (exfalso; omega)))))) (fun (h12 : M s 3 = 0) => (x_ildn c20_163 rfl (x_zge c20_164 (((H.2.2 h4).2.1 h1).2.1 h12) (fun (h13 : 0 ≤ v2) => (x_ci c20_171 (wp_wk (l' := [some (jR s), none, some (jI v2), some (jI v3), some (jI v4), none, none, none, none, none]) ⟨rfl, ⟨rfl, ⟨rfl, ⟨rfl, trivial⟩⟩⟩⟩ (by have K := K; first | (simp only [if_pos h12, if_neg (Int.not_lt.mpr h13)] at K ⊢; exact K) | (exfalso; omega))))) (fun (h14 : v2 < 0) => (x_ci c20_167 (x_goto c20_168 (wp_wk (l' := [some (jR s), none, some (jI v2), some (jI v3), some (jI v4), none, none, none, none, none]) ⟨rfl, ⟨rfl, ⟨rfl, ⟨rfl, trivial⟩⟩⟩⟩ (by have K := K; first | (simp only [if_pos h12, if_pos h14] at K ⊢; exact K) | (exfalso; omega))))))))))))))) (fun h2 => (x_ild c20_35 rfl (x_aldn c20_37 rfl (wp_wk (l' := [some (jR s), some (jR w), some (jI v2), some (jI v3), some (jI v4), some (jI v5), some (jI v6), some (jI v7), some (jI v8), none]) ⟨rfl, ⟨rfl, ⟨rfl, ⟨rfl, ⟨rfl, ⟨rfl, ⟨rfl, ⟨rfl, ⟨rfl, trivial⟩⟩⟩⟩⟩⟩⟩⟩⟩ (x_cl (b := w) (As := []) (st := [jI v8]) c20_38 kl21 ((H.2.2 h4).2.2 h2).1 rfl (Nat.le_of_ble_eq_true rfl) mx21 (Nat.le_refl _) ((H.2.2 h4).2.2 h2).2))))))))))
theorem s20_41 {kc : List va_E} {d : Nat} {s w : Nat} {v2 v3 v4 v5 v6 v7 v8 u0 u1 : Int} {M : fx_M} {Q : Option fx_V → fx_M → Prop} (Hs : fx_scn s) (H : ((fx_in32 u1) ∧ (fx_in32 u0)) ∧ (u1 = u0 → ((fx_in32 v7)) ∧ ((fx_in32 v6)) ∧ (v7 = v6 → (fx_in32 v7)) ∧ (v7 = v6 → (fx_in32 v3)) ∧ ((fx_in32 v4) ∧ (fx_in32 v7)) ∧ wp kc (d + 1) 20 19 [some (jR s), some (jR w), some (jI (if v7 = v6 then ((if v3 < v7 then (v5 : Int) else v2) : Int) else v2)), some (jI (if v7 = v6 then ((if v3 < v7 then (v7 : Int) else v3) : Int) else v3)), some (jI (if v4 < v7 then (v7 : Int) else v4)), some (jI (v5 + 1)), some (jI 0), some (jI 0), some (jI (v8 + 1)), none] [] M Q) ∧ (u1 ≠ u0 → fx_lit kc w ∧ wc kc d 23 [jR w, jI v8] M (fun v M1 => wp kc (d + 1) 20 50 [some (jR s), some (jR w), some (jI v2), some (jI v3), some (jI v4), some (jI v5), some (jI v6), some (jI v7), some (jI v8), none] (v.toList ++ []) M1 Q))) : wp kc (d + 1) 20 41 [some (jR s), some (jR w), some (jI v2), some (jI v3), some (jI v4), some (jI v5), some (jI v6), some (jI v7), some (jI v8), none] [jI u0, jI u1] M Q :=
  (x_ceq c20_41 H.1.1 H.1.2 (fun h1 => (x_ild c20_55 rfl (x_ild c20_57 rfl (have K : wp kc (d + 1) 20 74 [some (jR s), some (jR w), some (jI (if v7 = v6 then ((if v3 < v7 then (v5 : Int) else v2) : Int) else v2)), some (jI (if v7 = v6 then ((if v3 < v7 then (v7 : Int) else v3) : Int) else v3)), some (jI v4), some (jI v5), none, some (jI v7), some (jI v8), none] [] M Q := (x_ild c20_74 rfl (x_ild c20_76 rfl (x_max c20_78 n20_78 (H.2.1 h1).2.2.2.2.1.1 (H.2.1 h1).2.2.2.2.1.2 (Nat.le_of_ble_eq_true rfl) (x_ist (l' := [some (jR s), some (jR w), some (jI (if v7 = v6 then ((if v3 < v7 then (v5 : Int) else v2) : Int) else v2)), some (jI (if v7 = v6 then ((if v3 < v7 then (v7 : Int) else v3) : Int) else v3)), some (jI (if v4 < v7 then (v7 : Int) else v4)), some (jI v5), none, some (jI v7), some (jI v8), none]) c20_81 rfl (x_inc (l' := [some (jR s), some (jR w), some (jI (if v7 = v6 then ((if v3 < v7 then (v5 : Int) else v2) : Int) else v2)), some (jI (if v7 = v6 then ((if v3 < v7 then (v7 : Int) else v3) : Int) else v3)), some (jI (if v4 < v7 then (v7 : Int) else v4)), some (jI (v5 + 1)), none, some (jI v7), some (jI v8), none]) c20_83 rfl rfl (x_ci c20_86 (x_ist (l' := [some (jR s), some (jR w), some (jI (if v7 = v6 then ((if v3 < v7 then (v5 : Int) else v2) : Int) else v2)), some (jI (if v7 = v6 then ((if v3 < v7 then (v7 : Int) else v3) : Int) else v3)), some (jI (if v4 < v7 then (v7 : Int) else v4)), some (jI (v5 + 1)), some (jI 0), some (jI v7), some (jI v8), none]) c20_87 rfl (x_ci c20_89 (x_ist (l' := [some (jR s), some (jR w), some (jI (if v7 = v6 then ((if v3 < v7 then (v5 : Int) else v2) : Int) else v2)), some (jI (if v7 = v6 then ((if v3 < v7 then (v7 : Int) else v3) : Int) else v3)), some (jI (if v4 < v7 then (v7 : Int) else v4)), some (jI (v5 + 1)), some (jI 0), some (jI 0), some (jI v8), none]) c20_90 rfl (x_goto c20_92 (x_inc (l' := [some (jR s), some (jR w), some (jI (if v7 = v6 then ((if v3 < v7 then (v5 : Int) else v2) : Int) else v2)), some (jI (if v7 = v6 then ((if v3 < v7 then (v7 : Int) else v3) : Int) else v3)), some (jI (if v4 < v7 then (v7 : Int) else v4)), some (jI (v5 + 1)), some (jI 0), some (jI 0), some (jI (v8 + 1)), none]) c20_149 rfl rfl (x_goto c20_152 (wp_wk (l' := [some (jR s), some (jR w), some (jI (if v7 = v6 then ((if v3 < v7 then (v5 : Int) else v2) : Int) else v2)), some (jI (if v7 = v6 then ((if v3 < v7 then (v7 : Int) else v3) : Int) else v3)), some (jI (if v4 < v7 then (v7 : Int) else v4)), some (jI (v5 + 1)), some (jI 0), some (jI 0), some (jI (v8 + 1)), none]) ⟨rfl, ⟨rfl, ⟨rfl, ⟨rfl, ⟨rfl, ⟨rfl, ⟨rfl, ⟨rfl, ⟨rfl, trivial⟩⟩⟩⟩⟩⟩⟩⟩⟩ (H.2.1 h1).2.2.2.2.2))))))))))))); (x_cne c20_59 (H.2.1 h1).1 (H.2.1 h1).2.1 (fun (h3 : v7 ≠ v6) => (wp_wk (l' := [some (jR s), some (jR w), some (jI v2), some (jI v3), some (jI v4), some (jI v5), none, some (jI v7), some (jI v8), none]) ⟨rfl, ⟨rfl, ⟨rfl, ⟨rfl, ⟨rfl, ⟨rfl, ⟨rfl, ⟨rfl, trivial⟩⟩⟩⟩⟩⟩⟩⟩ (by have K := K; first | (simp only [if_neg h3] at K ⊢; exact K) | (exfalso; omega)))) (fun (h4 : v7 = v6) => (x_ild c20_62 rfl (x_ildn c20_64 rfl (x_cle c20_65 ((H.2.1 h1).2.2.1 h4) ((H.2.1 h1).2.2.2.1 h4) (fun (h5 : v7 ≤ v3) => (wp_wk (l' := [some (jR s), some (jR w), some (jI v2), some (jI v3), some (jI v4), some (jI v5), none, some (jI v7), some (jI v8), none]) ⟨rfl, ⟨rfl, ⟨rfl, ⟨rfl, ⟨rfl, ⟨rfl, ⟨rfl, ⟨rfl, trivial⟩⟩⟩⟩⟩⟩⟩⟩ (by have K := K; first | (simp only [if_pos h4, if_neg (Int.not_lt.mpr h5)] at K ⊢; exact K) | (exfalso; omega)))) (fun (h6 : v3 < v7) => (x_ild c20_68 rfl (x_istn (l' := [some (jR s), some (jR w), some (jI v5), some (jI v3), some (jI v4), some (jI v5), some (jI v6), some (jI v7), some (jI v8), none]) c20_70 rfl (x_ild c20_71 rfl (x_istn (l' := [some (jR s), some (jR w), some (jI v5), some (jI v7), some (jI v4), some (jI v5), some (jI v6), some (jI v7), some (jI v8), none]) c20_73 rfl (wp_wk (l' := [some (jR s), some (jR w), some (jI v5), some (jI v7), some (jI v4), some (jI v5), none, some (jI v7), some (jI v8), none]) ⟨rfl, ⟨rfl, ⟨rfl, ⟨rfl, ⟨rfl, ⟨rfl, ⟨rfl, ⟨rfl, trivial⟩⟩⟩⟩⟩⟩⟩⟩ (by have K := K; first | (simp only [if_pos h4, if_pos h6] at K ⊢; exact K) | (exfalso; omega))))))))))))))))) (fun h2 => (x_aldn c20_44 rfl (x_ild c20_45 rfl (wp_wk (l' := [some (jR s), some (jR w), some (jI v2), some (jI v3), some (jI v4), some (jI v5), some (jI v6), some (jI v7), some (jI v8), none]) ⟨rfl, ⟨rfl, ⟨rfl, ⟨rfl, ⟨rfl, ⟨rfl, ⟨rfl, ⟨rfl, ⟨rfl, trivial⟩⟩⟩⟩⟩⟩⟩⟩⟩ (x_cl (b := w) (As := [jI v8]) (st := []) c20_47 kl23 (H.2.2 h2).1 rfl (Nat.le_of_ble_eq_true rfl) mx23 (Nat.le_refl _) (H.2.2 h2).2))))))
theorem s20_50 {kc : List va_E} {d : Nat} {s w : Nat} {v2 v3 v4 v5 v6 v7 v8 u0 : Int} {h1n h2n h3n h4n : Nat} {M : fx_M} {Q : Option fx_V → fx_M → Prop} (Hs : fx_scn s) (H : ((fx_in32 u0)) ∧ (u0 ≠ 32 → ((fx_in32 v7) ∧ (fx_in32 v6)) ∧ (v7 ≠ v6 → wp kc (d + 1) 20 19 [some (jR s), some (jR w), some (jI v2), some (jI v3), some (jI v4), some (jI v5), some (jI (v6 + 1)), some (jI (v7 + 0)), some (jI (v8 + 1)), none] [] M Q) ∧ (v7 = v6 → ((fx_in32 ((M s 1) + v7)) ∧ (fx_in32 (M s 2))) ∧ (M s 2 ≤ (M s 1) + v7 → wp kc (d + 1) 20 19 [some (jR s), some (jR w), some (jI v2), some (jI v3), some (jI v4), some (jI v5), some (jI (v6 + 1)), some (jI (v7 + 0)), some (jI (v8 + 1)), none] [] M Q) ∧ ((M s 1) + v7 < M s 2 → ((fx_a ((M s 0).toNat) = some (1, h4n) ∧ h4n ≤ 2147483647) ∧ ((0 : Int) ≤ (M s 1) + v7 ∧ (M s 1) + v7 < (h4n : Nat))) ∧ fx_lit kc w ∧ wc kc d 23 [jR w, jI v8] M (fun v M1 => wp kc (d + 1) 20 135 [some (jR s), some (jR w), some (jI v2), some (jI v3), some (jI v4), some (jI v5), some (jI v6), none, some (jI v8), none] (v.toList ++ [jI (M ((M s 0).toNat) ((M s 1) + v7)), jI v7]) M1 Q)))) ∧ (u0 = 32 → ((fx_in32 v7)) ∧ ((fx_in32 v6)) ∧ (v7 = v6 → (fx_in32 v7)) ∧ (v7 = v6 → (fx_in32 v3)) ∧ ((fx_in32 v4) ∧ (fx_in32 v7)) ∧ wp kc (d + 1) 20 19 [some (jR s), some (jR w), some (jI (if v7 = v6 then ((if v3 < v7 then (v5 : Int) else v2) : Int) else v2)), some (jI (if v7 = v6 then ((if v3 < v7 then (v7 : Int) else v3) : Int) else v3)), some (jI (if v4 < v7 then (v7 : Int) else v4)), some (jI (v5 + 1)), some (jI 0), some (jI 0), some (jI (v8 + 1)), none] [] M Q)) : wp kc (d + 1) 20 50 [some (jR s), some (jR w), some (jI v2), some (jI v3), some (jI v4), some (jI v5), some (jI v6), some (jI v7), some (jI v8), none] [jI u0] M Q :=
  (x_ci c20_50 (x_cne c20_52 H.1 (by decide) (fun h9 => (x_aldn c20_95 rfl (x_gfi c20_96 (ks_1 Hs) (x_ild c20_99 rfl (x_iadd c20_101 (x_ist (l' := [some (jR s), some (jR w), some (jI v2), some (jI v3), some (jI v4), some (jI v5), some (jI v6), some (jI v7), some (jI v8), some (jI ((M s 1) + v7))]) c20_102 rfl (x_ild c20_104 rfl (x_ild c20_106 rfl (x_ild c20_108 rfl (x_cne c20_110 (H.2.1 h9).1.1 (H.2.1 h9).1.2 (fun h7 => (x_ci c20_142 (x_iadd c20_143 (x_ist (l' := [some (jR s), some (jR w), some (jI v2), some (jI v3), some (jI v4), some (jI v5), some (jI v6), some (jI (v7 + 0)), some (jI v8), some (jI ((M s 1) + v7))]) c20_144 rfl (x_inc (l' := [some (jR s), some (jR w), some (jI v2), some (jI v3), some (jI v4), some (jI v5), some (jI (v6 + 1)), some (jI (v7 + 0)), some (jI v8), some (jI ((M s 1) + v7))]) c20_146 rfl rfl (x_inc (l' := [some (jR s), some (jR w), some (jI v2), some (jI v3), some (jI v4), some (jI v5), some (jI (v6 + 1)), some (jI (v7 + 0)), some (jI (v8 + 1)), some (jI ((M s 1) + v7))]) c20_149 rfl rfl (x_goto c20_152 (wp_wk (l' := [some (jR s), some (jR w), some (jI v2), some (jI v3), some (jI v4), some (jI v5), some (jI (v6 + 1)), some (jI (v7 + 0)), some (jI (v8 + 1)), none]) ⟨rfl, ⟨rfl, ⟨rfl, ⟨rfl, ⟨rfl, ⟨rfl, ⟨rfl, ⟨rfl, ⟨rfl, trivial⟩⟩⟩⟩⟩⟩⟩⟩⟩ ((H.2.1 h9).2.1 h7))))))))) (fun h8 => (x_ild c20_113 rfl (x_aldn c20_115 rfl (x_gfi c20_116 (ks_2 Hs) (x_cge c20_119 ((H.2.1 h9).2.2 h8).1.1 ((H.2.1 h9).2.2 h8).1.2 (fun h5 => (x_ci c20_142 (x_iadd c20_143 (x_ist (l' := [some (jR s), some (jR w), some (jI v2), some (jI v3), some (jI v4), some (jI v5), some (jI v6), some (jI (v7 + 0)), some (jI v8), some (jI ((M s 1) + v7))]) c20_144 rfl (x_inc (l' := [some (jR s), some (jR w), some (jI v2), some (jI v3), some (jI v4), some (jI v5), some (jI (v6 + 1)), some (jI (v7 + 0)), some (jI v8), some (jI ((M s 1) + v7))]) c20_146 rfl rfl (x_inc (l' := [some (jR s), some (jR w), some (jI v2), some (jI v3), some (jI v4), some (jI v5), some (jI (v6 + 1)), some (jI (v7 + 0)), some (jI (v8 + 1)), some (jI ((M s 1) + v7))]) c20_149 rfl rfl (x_goto c20_152 (wp_wk (l' := [some (jR s), some (jR w), some (jI v2), some (jI v3), some (jI v4), some (jI v5), some (jI (v6 + 1)), some (jI (v7 + 0)), some (jI (v8 + 1)), none]) ⟨rfl, ⟨rfl, ⟨rfl, ⟨rfl, ⟨rfl, ⟨rfl, ⟨rfl, ⟨rfl, ⟨rfl, trivial⟩⟩⟩⟩⟩⟩⟩⟩⟩ (((H.2.1 h9).2.2 h8).2.1 h5))))))))) (fun h6 => (x_aldn c20_122 rfl (x_gfd c20_123 (ks_0 Hs) (x_ild c20_126 rfl (x_cald c20_128 (((H.2.1 h9).2.2 h8).2.2 h6).1.1.1 (((H.2.1 h9).2.2 h8).2.2 h6).1.2 (((H.2.1 h9).2.2 h8).2.2 h6).1.1.2 (x_aldn c20_129 rfl (x_ild c20_130 rfl (wp_wk (l' := [some (jR s), some (jR w), some (jI v2), some (jI v3), some (jI v4), some (jI v5), some (jI v6), none, some (jI v8), none]) ⟨rfl, ⟨rfl, ⟨rfl, ⟨rfl, ⟨rfl, ⟨rfl, ⟨rfl, ⟨rfl, trivial⟩⟩⟩⟩⟩⟩⟩⟩ (x_cl (b := w) (As := [jI v8]) (st := [jI (M ((M s 0).toNat) ((M s 1) + v7)), jI v7]) c20_132 kl23 (((H.2.1 h9).2.2 h8).2.2 h6).2.1 rfl (Nat.le_of_ble_eq_true rfl) mx23 (Nat.le_refl _) (((H.2.1 h9).2.2 h8).2.2 h6).2.2)))))))))))))))))))))))) (fun h10 => (x_ild c20_55 rfl (x_ild c20_57 rfl (have K : wp kc (d + 1) 20 74 [some (jR s), some (jR w), some (jI (if v7 = v6 then ((if v3 < v7 then (v5 : Int) else v2) : Int) else v2)), some (jI (if v7 = v6 then ((if v3 < v7 then (v7 : Int) else v3) : Int) else v3)), some (jI v4), some (jI v5), none, some (jI v7), some (jI v8), none] [] M Q := (x_ild c20_74 rfl (x_ild c20_76 rfl (x_max c20_78 n20_78 (H.2.2 h10).2.2.2.2.1.1 (H.2.2 h10).2.2.2.2.1.2 (Nat.le_of_ble_eq_true rfl) (x_ist (l' := [some (jR s), some (jR w), some (jI (if v7 = v6 then ((if v3 < v7 then (v5 : Int) else v2) : Int) else v2)), some (jI (if v7 = v6 then ((if v3 < v7 then (v7 : Int) else v3) : Int) else v3)), some (jI (if v4 < v7 then (v7 : Int) else v4)), some (jI v5), none, some (jI v7), some (jI v8), none]) c20_81 rfl (x_inc (l' := [some (jR s), some (jR w), some (jI (if v7 = v6 then ((if v3 < v7 then (v5 : Int) else v2) : Int) else v2)), some (jI (if v7 = v6 then ((if v3 < v7 then (v7 : Int) else v3) : Int) else v3)), some (jI (if v4 < v7 then (v7 : Int) else v4)), some (jI (v5 + 1)), none, some (jI v7), some (jI v8), none]) c20_83 rfl rfl (x_ci c20_86 (x_ist (l' := [some (jR s), some (jR w), some (jI (if v7 = v6 then ((if v3 < v7 then (v5 : Int) else v2) : Int) else v2)), some (jI (if v7 = v6 then ((if v3 < v7 then (v7 : Int) else v3) : Int) else v3)), some (jI (if v4 < v7 then (v7 : Int) else v4)), some (jI (v5 + 1)), some (jI 0), some (jI v7), some (jI v8), none]) c20_87 rfl (x_ci c20_89 (x_ist (l' := [some (jR s), some (jR w), some (jI (if v7 = v6 then ((if v3 < v7 then (v5 : Int) else v2) : Int) else v2)), some (jI (if v7 = v6 then ((if v3 < v7 then (v7 : Int) else v3) : Int) else v3)), some (jI (if v4 < v7 then (v7 : Int) else v4)), some (jI (v5 + 1)), some (jI 0), some (jI 0), some (jI v8), none]) c20_90 rfl (x_goto c20_92 (x_inc (l' := [some (jR s), some (jR w), some (jI (if v7 = v6 then ((if v3 < v7 then (v5 : Int) else v2) : Int) else v2)), some (jI (if v7 = v6 then ((if v3 < v7 then (v7 : Int) else v3) : Int) else v3)), some (jI (if v4 < v7 then (v7 : Int) else v4)), some (jI (v5 + 1)), some (jI 0), some (jI 0), some (jI (v8 + 1)), none]) c20_149 rfl rfl (x_goto c20_152 (wp_wk (l' := [some (jR s), some (jR w), some (jI (if v7 = v6 then ((if v3 < v7 then (v5 : Int) else v2) : Int) else v2)), some (jI (if v7 = v6 then ((if v3 < v7 then (v7 : Int) else v3) : Int) else v3)), some (jI (if v4 < v7 then (v7 : Int) else v4)), some (jI (v5 + 1)), some (jI 0), some (jI 0), some (jI (v8 + 1)), none]) ⟨rfl, ⟨rfl, ⟨rfl, ⟨rfl, ⟨rfl, ⟨rfl, ⟨rfl, ⟨rfl, ⟨rfl, trivial⟩⟩⟩⟩⟩⟩⟩⟩⟩ (H.2.2 h10).2.2.2.2.2))))))))))))); (x_cne c20_59 (H.2.2 h10).1 (H.2.2 h10).2.1 (fun (h11 : v7 ≠ v6) => (wp_wk (l' := [some (jR s), some (jR w), some (jI v2), some (jI v3), some (jI v4), some (jI v5), none, some (jI v7), some (jI v8), none]) ⟨rfl, ⟨rfl, ⟨rfl, ⟨rfl, ⟨rfl, ⟨rfl, ⟨rfl, ⟨rfl, trivial⟩⟩⟩⟩⟩⟩⟩⟩ (by have K := K; first | (simp only [if_neg h11] at K ⊢; exact K) | (exfalso; omega)))) (fun (h12 : v7 = v6) => (x_ild c20_62 rfl (x_ildn c20_64 rfl (x_cle c20_65 ((H.2.2 h10).2.2.1 h12) ((H.2.2 h10).2.2.2.1 h12) (fun (h13 : v7 ≤ v3) => (wp_wk (l' := [some (jR s), some (jR w), some (jI v2), some (jI v3), some (jI v4), some (jI v5), none, some (jI v7), some (jI v8), none]) ⟨rfl, ⟨rfl, ⟨rfl, ⟨rfl, ⟨rfl, ⟨rfl, ⟨rfl, ⟨rfl, trivial⟩⟩⟩⟩⟩⟩⟩⟩ (by have K := K; first | (simp only [if_pos h12, if_neg (Int.not_lt.mpr h13)] at K ⊢; exact K) | (exfalso; omega)))) (fun (h14 : v3 < v7) => (x_ild c20_68 rfl (x_istn (l' := [some (jR s), some (jR w), some (jI v5), some (jI v3), some (jI v4), some (jI v5), some (jI v6), some (jI v7), some (jI v8), none]) c20_70 rfl (x_ild c20_71 rfl (x_istn (l' := [some (jR s), some (jR w), some (jI v5), some (jI v7), some (jI v4), some (jI v5), some (jI v6), some (jI v7), some (jI v8), none]) c20_73 rfl (wp_wk (l' := [some (jR s), some (jR w), some (jI v5), some (jI v7), some (jI v4), some (jI v5), none, some (jI v7), some (jI v8), none]) ⟨rfl, ⟨rfl, ⟨rfl, ⟨rfl, ⟨rfl, ⟨rfl, ⟨rfl, ⟨rfl, trivial⟩⟩⟩⟩⟩⟩⟩⟩ (by have K := K; first | (simp only [if_pos h12, if_pos h14] at K ⊢; exact K) | (exfalso; omega)))))))))))))))))))
theorem s20_135 {kc : List va_E} {d : Nat} {s w : Nat} {v2 v3 v4 v5 v6 v8 u0 u1 u2 : Int} {M : fx_M} {Q : Option fx_V → fx_M → Prop} (Hs : fx_scn s) (H : ((fx_in32 u1)) ∧ ((fx_in32 u0)) ∧ wp kc (d + 1) 20 19 [some (jR s), some (jR w), some (jI v2), some (jI v3), some (jI v4), some (jI v5), some (jI (v6 + 1)), some (jI (u2 + (if u1 = u0 then (1 : Int) else 0))), some (jI (v8 + 1)), none] [] M Q) : wp kc (d + 1) 20 135 [some (jR s), some (jR w), some (jI v2), some (jI v3), some (jI v4), some (jI v5), some (jI v6), none, some (jI v8), none] [jI u0, jI u1, jI u2] M Q :=
  (have K : wp kc (d + 1) 20 143 [some (jR s), some (jR w), some (jI v2), some (jI v3), some (jI v4), some (jI v5), some (jI v6), none, some (jI v8), none] [jI (if u1 = u0 then (1 : Int) else 0), jI u2] M Q := (x_iadd c20_143 (x_ist (l' := [some (jR s), some (jR w), some (jI v2), some (jI v3), some (jI v4), some (jI v5), some (jI v6), some (jI (u2 + (if u1 = u0 then (1 : Int) else 0))), some (jI v8), none]) c20_144 rfl (x_inc (l' := [some (jR s), some (jR w), some (jI v2), some (jI v3), some (jI v4), some (jI v5), some (jI (v6 + 1)), some (jI (u2 + (if u1 = u0 then (1 : Int) else 0))), some (jI v8), none]) c20_146 rfl rfl (x_inc (l' := [some (jR s), some (jR w), some (jI v2), some (jI v3), some (jI v4), some (jI v5), some (jI (v6 + 1)), some (jI (u2 + (if u1 = u0 then (1 : Int) else 0))), some (jI (v8 + 1)), none]) c20_149 rfl rfl (x_goto c20_152 (wp_wk (l' := [some (jR s), some (jR w), some (jI v2), some (jI v3), some (jI v4), some (jI v5), some (jI (v6 + 1)), some (jI (u2 + (if u1 = u0 then (1 : Int) else 0))), some (jI (v8 + 1)), none]) ⟨rfl, ⟨rfl, ⟨rfl, ⟨rfl, ⟨rfl, ⟨rfl, ⟨rfl, ⟨rfl, ⟨rfl, trivial⟩⟩⟩⟩⟩⟩⟩⟩⟩ H.2.2)))))); (x_cne c20_135 H.1 H.2.1 (fun (h1 : u1 ≠ u0) => (x_ci c20_142 (wp_wk (l' := [some (jR s), some (jR w), some (jI v2), some (jI v3), some (jI v4), some (jI v5), some (jI v6), none, some (jI v8), none]) ⟨rfl, ⟨rfl, ⟨rfl, ⟨rfl, ⟨rfl, ⟨rfl, ⟨rfl, ⟨rfl, trivial⟩⟩⟩⟩⟩⟩⟩⟩ (by have K := K; first | (simp only [if_neg h1] at K ⊢; exact K) | (exfalso; omega))))) (fun (h2 : u1 = u0) => (x_ci c20_138 (x_goto c20_139 (wp_wk (l' := [some (jR s), some (jR w), some (jI v2), some (jI v3), some (jI v4), some (jI v5), some (jI v6), none, some (jI v8), none]) ⟨rfl, ⟨rfl, ⟨rfl, ⟨rfl, ⟨rfl, ⟨rfl, ⟨rfl, ⟨rfl, trivial⟩⟩⟩⟩⟩⟩⟩⟩ (by have K := K; first | (simp only [if_pos h2] at K ⊢; exact K) | (exfalso; omega))))))))
theorem s20 {kc : List va_E} {d : Nat} {s w : Nat} {M : fx_M} {Q : Option fx_V → fx_M → Prop} (Hs : fx_scn s) (H : wp kc (d + 1) 20 19 [some (jR s), some (jR w), some (jI (-1)), some (jI 0), some (jI 0), some (jI 0), some (jI 0), some (jI 0), some (jI 0), none] [] M Q) : wc kc (d + 1) 20 [jR s, jR w] M Q :=
  wc_of (wp_wk (l' := [some (jR s), some (jR w), none, none, none, none, none, none, none, none]) ⟨rfl, ⟨rfl, trivial⟩⟩ (s20_0 Hs H))

theorem c34_0 : fx_op 34 0 = some (.aload_n 0, 1, 0) := by decide +kernel
theorem c34_1 : fx_gf 34 1 = some (2, 3, 4) := by decide +kernel
theorem c34_4 : fx_op 34 4 = some (.ifCond .ne 27, 7, 31) := by decide +kernel
theorem c34_31 : fx_op 34 31 = some (.aload_n 0, 32, 31) := by decide +kernel
theorem c34_32 : fx_ci 34 32 = some (1, 33) := by decide +kernel
theorem c34_33 : fx_pf 34 33 = some (2, 3, 2, 36) := by decide +kernel
theorem c34_7 : fx_op 34 7 = some (.aload_n 0, 8, 7) := by decide +kernel
theorem c34_8 : fx_gf 34 8 = some (2, 1, 11) := by decide +kernel
theorem c34_11 : fx_op 34 11 = some (.aload_n 0, 12, 11) := by decide +kernel
theorem c34_12 : fx_gf 34 12 = some (2, 2, 15) := by decide +kernel
theorem c34_15 : fx_op 34 15 = some (.if_icmp .ge 16, 18, 31) := by decide +kernel
theorem c34_18 : fx_op 34 18 = some (.aload_n 0, 19, 18) := by decide +kernel
theorem c34_19 : fx_gf 34 19 = some (2, 0, 22) := by decide +kernel
theorem c34_22 : fx_op 34 22 = some (.aload_n 0, 23, 22) := by decide +kernel
theorem c34_23 : fx_gf 34 23 = some (2, 1, 26) := by decide +kernel
theorem c34_27 : fx_op 34 27 = some (.iload_n 1, 28, 27) := by decide +kernel
theorem c34_28 : fx_op 34 28 = some (.if_icmp .eq 11, 31, 39) := by decide +kernel
theorem c34_39 : fx_op 34 39 = some (.aload_n 0, 40, 39) := by decide +kernel
theorem c34_40 : fx_op 34 40 = some (.dup, 41, 40) := by decide +kernel
theorem c34_41 : fx_gf 34 41 = some (2, 1, 44) := by decide +kernel
theorem c34_44 : fx_ci 34 44 = some (1, 45) := by decide +kernel
theorem c34_45 : fx_op 34 45 = some (.iadd, 46, 45) := by decide +kernel
theorem c34_46 : fx_pf 34 46 = some (2, 1, 0, 49) := by decide +kernel
theorem c34_36 : fx_op 34 36 = some (.goto 13, 39, 49) := by decide +kernel
theorem c34_49 : fx_op 34 49 = some (.return_, 50, 49) := by decide +kernel
theorem c34_26 : fx_op 34 26 = some (.caload, 27, 26) := by decide +kernel
theorem s34_0 {kc : List va_E} {d : Nat} {s : Nat} {x1 : Int} {h1n : Nat} {M : fx_M} {Q : Option fx_V → fx_M → Prop} (Hs : fx_scn s) (H : ((fx_in32 (M s 3))) ∧ (M s 3 ≠ 0 → Q none (fx_up M s 3 1)) ∧ (M s 3 = 0 → ((fx_in32 (M s 1)) ∧ (fx_in32 (M s 2))) ∧ (M s 2 ≤ M s 1 → Q none (fx_up M s 3 1)) ∧ (M s 1 < M s 2 → ((fx_a ((M s 0).toNat) = some (1, h1n) ∧ h1n ≤ 2147483647) ∧ ((0 : Int) ≤ M s 1 ∧ M s 1 < (h1n : Nat))) ∧ ((fx_in32 (M ((M s 0).toNat) (M s 1))) ∧ (fx_in32 x1)) ∧ (M ((M s 0).toNat) (M s 1) = x1 → Q none (fx_up M s 1 ((M s 1) + 1))) ∧ (M ((M s 0).toNat) (M s 1) ≠ x1 → Q none (fx_up M s 3 1))))) : wp kc (d + 1) 34 0 [some (jR s), some (jI x1)] [] M Q :=
  (x_aldn c34_0 rfl (x_gfi c34_1 (ks_3 Hs) (x_zne c34_4 H.1 (fun h6 => (x_aldn c34_31 rfl (x_ci c34_32 (x_pfz c34_33 (ks_3 Hs) (by decide) (x_goto c34_36 (x_vr c34_49 r34 (H.2.1 h6))))))) (fun h7 => (x_aldn c34_7 rfl (x_gfi c34_8 (ks_1 Hs) (x_aldn c34_11 rfl (x_gfi c34_12 (ks_2 Hs) (x_cge c34_15 (H.2.2 h7).1.1 (H.2.2 h7).1.2 (fun h4 => (x_aldn c34_31 rfl (x_ci c34_32 (x_pfz c34_33 (ks_3 Hs) (by decide) (x_goto c34_36 (x_vr c34_49 r34 ((H.2.2 h7).2.1 h4))))))) (fun h5 => (x_aldn c34_18 rfl (x_gfd c34_19 (ks_0 Hs) (x_aldn c34_22 rfl (x_gfi c34_23 (ks_1 Hs) (x_cald c34_26 ((H.2.2 h7).2.2 h5).1.1.1 ((H.2.2 h7).2.2 h5).1.2 ((H.2.2 h7).2.2 h5).1.1.2 (x_ildn c34_27 rfl (x_ceq c34_28 ((H.2.2 h7).2.2 h5).2.1.1 ((H.2.2 h7).2.2 h5).2.1.2 (fun h2 => (x_aldn c34_39 rfl (x_dupr c34_40 (x_gfi c34_41 (ks_1 Hs) (x_ci c34_44 (x_iadd c34_45 (x_pfi c34_46 (ks_1 Hs) (x_vr c34_49 r34 (((H.2.2 h7).2.2 h5).2.2.1 h2))))))))) (fun h3 => (x_aldn c34_31 rfl (x_ci c34_32 (x_pfz c34_33 (ks_3 Hs) (by decide) (x_goto c34_36 (x_vr c34_49 r34 (((H.2.2 h7).2.2 h5).2.2.2 h3))))))))))))))))))))))))
theorem s34 {kc : List va_E} {d : Nat} {s : Nat} {x1 : Int} {h1n : Nat} {M : fx_M} {Q : Option fx_V → fx_M → Prop} (Hs : fx_scn s) (H : ((fx_in32 (M s 3))) ∧ (M s 3 ≠ 0 → Q none (fx_up M s 3 1)) ∧ (M s 3 = 0 → ((fx_in32 (M s 1)) ∧ (fx_in32 (M s 2))) ∧ (M s 2 ≤ M s 1 → Q none (fx_up M s 3 1)) ∧ (M s 1 < M s 2 → ((fx_a ((M s 0).toNat) = some (1, h1n) ∧ h1n ≤ 2147483647) ∧ ((0 : Int) ≤ M s 1 ∧ M s 1 < (h1n : Nat))) ∧ ((fx_in32 (M ((M s 0).toNat) (M s 1))) ∧ (fx_in32 x1)) ∧ (M ((M s 0).toNat) (M s 1) = x1 → Q none (fx_up M s 1 ((M s 1) + 1))) ∧ (M ((M s 0).toNat) (M s 1) ≠ x1 → Q none (fx_up M s 3 1))))) : wc kc (d + 1) 34 [jR s, jI x1] M Q :=
  wc_of (wp_wk (l' := [some (jR s), some (jI x1)]) ⟨rfl, ⟨rfl, trivial⟩⟩ (s34_0 Hs H))

theorem c38_0 : fx_op 38 0 = some (.aload_n 0, 1, 0) := by decide +kernel
theorem c38_1 : fx_gf 38 1 = some (2, 3, 4) := by decide +kernel
theorem c38_4 : fx_op 38 4 = some (.ifCond .ne 31, 7, 35) := by decide +kernel
theorem c38_35 : fx_ci 38 35 = some (0, 36) := by decide +kernel
theorem c38_7 : fx_op 38 7 = some (.aload_n 0, 8, 7) := by decide +kernel
theorem c38_8 : fx_gf 38 8 = some (2, 1, 11) := by decide +kernel
theorem c38_11 : fx_op 38 11 = some (.aload_n 0, 12, 11) := by decide +kernel
theorem c38_12 : fx_gf 38 12 = some (2, 2, 15) := by decide +kernel
theorem c38_15 : fx_op 38 15 = some (.if_icmp .ge 20, 18, 35) := by decide +kernel
theorem c38_18 : fx_op 38 18 = some (.aload_n 0, 19, 18) := by decide +kernel
theorem c38_19 : fx_gf 38 19 = some (2, 0, 22) := by decide +kernel
theorem c38_22 : fx_op 38 22 = some (.aload_n 0, 23, 22) := by decide +kernel
theorem c38_23 : fx_gf 38 23 = some (2, 1, 26) := by decide +kernel
theorem c38_26 : fx_op 38 26 = some (.caload, 27, 26) := by decide +kernel
theorem c38_27 : fx_op 38 27 = some (.iload_n 1, 28, 27) := by decide +kernel
theorem c38_28 : fx_op 38 28 = some (.if_icmp .ne 7, 31, 35) := by decide +kernel
theorem c38_31 : fx_ci 38 31 = some (1, 32) := by decide +kernel
theorem c38_32 : fx_op 38 32 = some (.goto 4, 35, 36) := by decide +kernel
theorem c38_36 : fx_op 38 36 = some (.ireturn, 37, 36) := by decide +kernel
theorem s38_0 {kc : List va_E} {d : Nat} {s : Nat} {x1 : Int} {h1n : Nat} {M : fx_M} {Q : Option fx_V → fx_M → Prop} (Hs : fx_scn s) (H : ((fx_in32 (M s 3))) ∧ (M s 3 = 0 → (fx_in32 (M s 1))) ∧ (M s 3 = 0 → (fx_in32 (M s 2))) ∧ (M s 3 = 0 → M s 1 < M s 2 → (((fx_a ((M s 0).toNat) = some (1, h1n) ∧ h1n ≤ 2147483647) ∧ ((0 : Int) ≤ M s 1 ∧ M s 1 < (h1n : Nat))))) ∧ (M s 3 = 0 → M s 1 < M s 2 → (fx_in32 (M ((M s 0).toNat) (M s 1)))) ∧ (M s 3 = 0 → M s 1 < M s 2 → (fx_in32 x1)) ∧ ((0 : Int) ≤ (if M s 3 = 0 then ((if M s 1 < M s 2 then ((if M ((M s 0).toNat) (M s 1) = x1 then (1 : Int) else 0) : Int) else 0) : Int) else 0) ∧ (if M s 3 = 0 then ((if M s 1 < M s 2 then ((if M ((M s 0).toNat) (M s 1) = x1 then (1 : Int) else 0) : Int) else 0) : Int) else 0) ≤ 1) ∧ Q (some (jI (if M s 3 = 0 then ((if M s 1 < M s 2 then ((if M ((M s 0).toNat) (M s 1) = x1 then (1 : Int) else 0) : Int) else 0) : Int) else 0))) M) : wp kc (d + 1) 38 0 [some (jR s), some (jI x1)] [] M Q :=
  (x_aldn c38_0 rfl (x_gfi c38_1 (ks_3 Hs) (have K : wp kc (d + 1) 38 36 [none, none] [jI (if M s 3 = 0 then ((if M s 1 < M s 2 then ((if M ((M s 0).toNat) (M s 1) = x1 then (1 : Int) else 0) : Int) else 0) : Int) else 0)] M Q := (x_zrt c38_36 r38 H.2.2.2.2.2.2.1 H.2.2.2.2.2.2.2); (x_zne c38_4 H.1 (fun (h2 : M s 3 ≠ 0) => (x_ci c38_35 (wp_wk (l' := [none, none]) trivial (by have K := K; first | (simp only [if_neg h2] at K ⊢; exact K) | (exfalso; omega))))) (fun (h3 : M s 3 = 0) => (x_aldn c38_7 rfl (x_gfi c38_8 (ks_1 Hs) (x_aldn c38_11 rfl (x_gfi c38_12 (ks_2 Hs) (x_cge c38_15 (H.2.1 h3) (H.2.2.1 h3) (fun (h4 : M s 2 ≤ M s 1) => (x_ci c38_35 (wp_wk (l' := [none, none]) trivial (by have K := K; first | (simp only [if_pos h3, if_neg (Int.not_lt.mpr h4)] at K ⊢; exact K) | (exfalso; omega))))) (fun (h5 : M s 1 < M s 2) => (x_aldn c38_18 rfl (x_gfd c38_19 (ks_0 Hs) (x_aldn c38_22 rfl (x_gfi c38_23 (ks_1 Hs) (x_cald c38_26 (H.2.2.2.1 h3 h5).1.1 (H.2.2.2.1 h3 h5).2 (H.2.2.2.1 h3 h5).1.2 (x_ildn c38_27 rfl (x_cne c38_28 (H.2.2.2.2.1 h3 h5) (H.2.2.2.2.2.1 h3 h5) (fun (h6 : M ((M s 0).toNat) (M s 1) ≠ x1) => (x_ci c38_35 (wp_wk (l' := [none, none]) trivial (by have K := K; first | (simp only [if_pos h3, if_pos h5, if_neg h6] at K ⊢; exact K) | (exfalso; omega))))) (fun (h7 : M ((M s 0).toNat) (M s 1) = x1) => (x_ci c38_31 (x_goto c38_32 (wp_wk (l' := [none, none]) trivial (by have K := K; first | (simp only [if_pos h3, if_pos h5, if_pos h7] at K ⊢; exact K) | (exfalso; omega))))))))))))))))))))))))
theorem s38 {kc : List va_E} {d : Nat} {s : Nat} {x1 : Int} {h1n : Nat} {M : fx_M} {Q : Option fx_V → fx_M → Prop} (Hs : fx_scn s) (H : ((fx_in32 (M s 3))) ∧ (M s 3 = 0 → (fx_in32 (M s 1))) ∧ (M s 3 = 0 → (fx_in32 (M s 2))) ∧ (M s 3 = 0 → M s 1 < M s 2 → (((fx_a ((M s 0).toNat) = some (1, h1n) ∧ h1n ≤ 2147483647) ∧ ((0 : Int) ≤ M s 1 ∧ M s 1 < (h1n : Nat))))) ∧ (M s 3 = 0 → M s 1 < M s 2 → (fx_in32 (M ((M s 0).toNat) (M s 1)))) ∧ (M s 3 = 0 → M s 1 < M s 2 → (fx_in32 x1)) ∧ ((0 : Int) ≤ (if M s 3 = 0 then ((if M s 1 < M s 2 then ((if M ((M s 0).toNat) (M s 1) = x1 then (1 : Int) else 0) : Int) else 0) : Int) else 0) ∧ (if M s 3 = 0 then ((if M s 1 < M s 2 then ((if M ((M s 0).toNat) (M s 1) = x1 then (1 : Int) else 0) : Int) else 0) : Int) else 0) ≤ 1) ∧ Q (some (jI (if M s 3 = 0 then ((if M s 1 < M s 2 then ((if M ((M s 0).toNat) (M s 1) = x1 then (1 : Int) else 0) : Int) else 0) : Int) else 0))) M) : wc kc (d + 1) 38 [jR s, jI x1] M Q :=
  wc_of (wp_wk (l' := [some (jR s), some (jI x1)]) ⟨rfl, ⟨rfl, trivial⟩⟩ (s38_0 Hs H))

theorem c97_0 : fx_ci 97 0 = some (0, 1) := by decide +kernel
theorem c97_1 : fx_op 97 1 = some (.istore_n 1, 2, 1) := by decide +kernel
theorem c97_2 : fx_ci 97 2 = some (0, 3) := by decide +kernel
theorem c97_3 : fx_op 97 3 = some (.istore_n 2, 4, 3) := by decide +kernel
theorem c97_4 : fx_op 97 4 = some (.iload_n 2, 5, 4) := by decide +kernel
theorem c97_5 : fx_ci 97 5 = some (9, 7) := by decide +kernel
theorem c97_7 : fx_op 97 7 = some (.if_icmp .ge 26, 10, 33) := by decide +kernel
theorem c97_10 : fx_op 97 10 = some (.iload_n 1, 11, 10) := by decide +kernel
theorem c97_11 : fx_op 97 11 = some (.aload_n 0, 12, 11) := by decide +kernel
theorem c97_12 : fx_gf 97 12 = some (3, 10, 15) := by decide +kernel
theorem c97_15 : fx_op 97 15 = some (.iload_n 2, 16, 15) := by decide +kernel
theorem c97_16 : fx_op 97 16 = some (.iaload, 17, 16) := by decide +kernel
theorem c97_17 : fx_op 97 17 = some (.ifCond .lt 7, 20, 24) := by decide +kernel
theorem c97_24 : fx_ci 97 24 = some (0, 25) := by decide +kernel
theorem c97_25 : fx_op 97 25 = some (.iadd, 26, 25) := by decide +kernel
theorem c97_26 : fx_op 97 26 = some (.istore_n 1, 27, 26) := by decide +kernel
theorem c97_27 : fx_op 97 27 = some (.iinc 2 1, 30, 27) := by decide +kernel
theorem c97_33 : fx_op 97 33 = some (.iload_n 1, 34, 33) := by decide +kernel
theorem c97_20 : fx_ci 97 20 = some (1, 21) := by decide +kernel
theorem c97_21 : fx_op 97 21 = some (.goto 4, 24, 25) := by decide +kernel
theorem c97_34 : fx_op 97 34 = some (.ireturn, 35, 34) := by decide +kernel
theorem c97_30 : fx_op 97 30 = some (.goto (-26), 33, 4) := by decide +kernel
theorem s97_0 {kc : List va_E} {d : Nat} {p : Nat} {M : fx_M} {Q : Option fx_V → fx_M → Prop} (Hp : fx_puz p) (H : wp kc (d + 1) 97 4 [some (jR p), some (jI 0), some (jI 0)] [] M Q) : wp kc (d + 1) 97 0 [some (jR p), none, none] [] M Q :=
  (x_ci c97_0 (x_istn (l' := [some (jR p), some (jI 0), none]) c97_1 rfl (x_ci c97_2 (x_istn (l' := [some (jR p), some (jI 0), some (jI 0)]) c97_3 rfl (wp_wk (l' := [some (jR p), some (jI 0), some (jI 0)]) ⟨rfl, ⟨rfl, ⟨rfl, trivial⟩⟩⟩ H)))))
theorem s97_4 {kc : List va_E} {d : Nat} {p : Nat} {v1 v2 : Int} {M : fx_M} {Q : Option fx_V → fx_M → Prop} (Hp : fx_puz p) (H : ((fx_in32 v2)) ∧ (9 ≤ v2 → Q (some (jI v1)) M) ∧ (v2 < 9 → (((0 : Int) ≤ v2 ∧ v2 < 9)) ∧ ((fx_in32 (M (p + 6) v2))) ∧ wp kc (d + 1) 97 4 [some (jR p), some (jI (v1 + (if M (p + 6) v2 < 0 then (0 : Int) else 1))), some (jI (v2 + 1))] [] M Q)) : wp kc (d + 1) 97 4 [some (jR p), some (jI v1), some (jI v2)] [] M Q :=
  (x_ildn c97_4 rfl (x_ci c97_5 (x_cge c97_7 H.1 (by decide) (fun h1 => (x_ildn c97_33 rfl (x_irt c97_34 r97 (H.2.1 h1)))) (fun h2 => (x_ildn c97_10 rfl (x_aldn c97_11 rfl (x_gfr c97_12 (kp_10 Hp) (x_ildn c97_15 rfl (x_iald c97_16 (ap_6 Hp) (H.2.2 h2).1 (by decide) (have K : wp kc (d + 1) 97 25 [some (jR p), none, some (jI v2)] [jI (if M (p + 6) v2 < 0 then (0 : Int) else 1), jI v1] M Q := (x_iadd c97_25 (x_istn (l' := [some (jR p), some (jI (v1 + (if M (p + 6) v2 < 0 then (0 : Int) else 1))), some (jI v2)]) c97_26 rfl (x_inc (l' := [some (jR p), some (jI (v1 + (if M (p + 6) v2 < 0 then (0 : Int) else 1))), some (jI (v2 + 1))]) c97_27 rfl rfl (x_goto c97_30 (wp_wk (l' := [some (jR p), some (jI (v1 + (if M (p + 6) v2 < 0 then (0 : Int) else 1))), some (jI (v2 + 1))]) ⟨rfl, ⟨rfl, ⟨rfl, trivial⟩⟩⟩ (H.2.2 h2).2.2))))); (x_zlt c97_17 (H.2.2 h2).2.1 (fun (h3 : M (p + 6) v2 < 0) => (x_ci c97_24 (wp_wk (l' := [some (jR p), none, some (jI v2)]) ⟨rfl, ⟨rfl, trivial⟩⟩ (by have K := K; first | (simp only [if_pos h3] at K ⊢; exact K) | (exfalso; omega))))) (fun (h4 : 0 ≤ M (p + 6) v2) => (x_ci c97_20 (x_goto c97_21 (wp_wk (l' := [some (jR p), none, some (jI v2)]) ⟨rfl, ⟨rfl, trivial⟩⟩ (by have K := K; first | (simp only [if_neg (Int.not_lt.mpr h4)] at K ⊢; exact K) | (exfalso; omega)))))))))))))))))
theorem s97 {kc : List va_E} {d : Nat} {p : Nat} {M : fx_M} {Q : Option fx_V → fx_M → Prop} (Hp : fx_puz p) (H : wp kc (d + 1) 97 4 [some (jR p), some (jI 0), some (jI 0)] [] M Q) : wc kc (d + 1) 97 [jR p] M Q :=
  wc_of (wp_wk (l' := [some (jR p), none, none]) ⟨rfl, trivial⟩ (s97_0 Hp H))

theorem c58_0 : fx_op 58 0 = some (.aload_n 0, 1, 0) := by decide +kernel
theorem c58_1 : fx_ci 58 1 = some (0, 2) := by decide +kernel
theorem c58_2 : fx_pf 58 2 = some (6, 0, 0, 5) := by decide +kernel
theorem c58_5 : fx_ci 58 5 = some (1, 6) := by decide +kernel
theorem c58_6 : fx_op 58 6 = some (.istore_n 2, 7, 6) := by decide +kernel
theorem c58_7 : fx_ci 58 7 = some (0, 8) := by decide +kernel
theorem c58_8 : fx_op 58 8 = some (.istore_n 3, 9, 8) := by decide +kernel
theorem c58_9 : fx_op 58 9 = some (.iload_n 3, 10, 9) := by decide +kernel
theorem c58_10 : fx_ci 58 10 = some (1600, 13) := by decide +kernel
theorem c58_13 : fx_op 58 13 = some (.if_icmp .ge 53, 16, 66) := by decide +kernel
theorem c58_16 : fx_op 58 16 = some (.iload_n 2, 17, 16) := by decide +kernel
theorem c58_17 : fx_op 58 17 = some (.ifCond .eq 49, 20, 66) := by decide +kernel
theorem c58_20 : fx_op 58 20 = some (.aload_n 1, 21, 20) := by decide +kernel
theorem c58_21 : fx_gf 58 21 = some (2, 3, 24) := by decide +kernel
theorem c58_24 : fx_op 58 24 = some (.ifCond .ne 42, 27, 66) := by decide +kernel
theorem c58_27 : fx_op 58 27 = some (.aload_n 0, 28, 27) := by decide +kernel
theorem c58_28 : fx_op 58 28 = some (.aload_n 1, 29, 28) := by decide +kernel
theorem c58_29 : fx_op 58 29 = some (.iload_n 3, 30, 29) := by decide +kernel
theorem c58_66 : fx_op 58 66 = some (.return_, 67, 66) := by decide +kernel
theorem c58_30 : fx_ca 58 30 = some (59, 3, 2, 33) := by decide +kernel
theorem c58_33 : fx_op 58 33 = some (.aload_n 0, 34, 33) := by decide +kernel
theorem c58_34 : fx_op 58 34 = some (.dup, 35, 34) := by decide +kernel
theorem c58_35 : fx_gf 58 35 = some (6, 0, 38) := by decide +kernel
theorem c58_38 : fx_ci 58 38 = some (1, 39) := by decide +kernel
theorem c58_39 : fx_op 58 39 = some (.iadd, 40, 39) := by decide +kernel
theorem c58_40 : fx_pf 58 40 = some (6, 0, 0, 43) := by decide +kernel
theorem c58_43 : fx_op 58 43 = some (.aload_n 1, 44, 43) := by decide +kernel
theorem c58_44 : fx_gf 58 44 = some (2, 1, 47) := by decide +kernel
theorem c58_47 : fx_op 58 47 = some (.aload_n 1, 48, 47) := by decide +kernel
theorem c58_48 : fx_gf 58 48 = some (2, 2, 51) := by decide +kernel
theorem c58_51 : fx_op 58 51 = some (.if_icmp .ge 7, 54, 58) := by decide +kernel
theorem c58_58 : fx_ci 58 58 = some (0, 59) := by decide +kernel
theorem c58_54 : fx_ci 58 54 = some (1, 55) := by decide +kernel
theorem c58_55 : fx_op 58 55 = some (.goto 4, 58, 59) := by decide +kernel
theorem c58_59 : fx_op 58 59 = some (.istore_n 2, 60, 59) := by decide +kernel
theorem c58_60 : fx_op 58 60 = some (.iinc 3 1, 63, 60) := by decide +kernel
theorem c58_63 : fx_op 58 63 = some (.goto (-54), 66, 9) := by decide +kernel
theorem s58_0 {kc : List va_E} {d : Nat} {s : Nat} {M : fx_M} {Q : Option fx_V → fx_M → Prop} (Hs : fx_scn s) (H : wp kc (d + 1) 58 9 [some (jR 34), some (jR s), some (jI 1), some (jI 0)] [] (fx_up M 34 0 0) Q) : wp kc (d + 1) 58 0 [some (jR 34), some (jR s), none, none] [] M Q :=
  (x_aldn c58_0 rfl (x_ci c58_1 (x_pfi c58_2 k_34_0 (x_ci c58_5 (x_istn (l' := [some (jR 34), some (jR s), some (jI 1), none]) c58_6 rfl (x_ci c58_7 (x_istn (l' := [some (jR 34), some (jR s), some (jI 1), some (jI 0)]) c58_8 rfl (wp_wk (l' := [some (jR 34), some (jR s), some (jI 1), some (jI 0)]) ⟨rfl, ⟨rfl, ⟨rfl, ⟨rfl, trivial⟩⟩⟩⟩ H))))))))
theorem s58_9 {kc : List va_E} {d : Nat} {s : Nat} {v2 v3 : Int} {M : fx_M} {Q : Option fx_V → fx_M → Prop} (Hs : fx_scn s) (H : ((fx_in32 v3)) ∧ (1600 ≤ v3 → Q none M) ∧ (v3 < 1600 → ((fx_in32 v2)) ∧ (v2 = 0 → Q none M) ∧ (v2 ≠ 0 → ((fx_in32 (M s 3))) ∧ (M s 3 ≠ 0 → Q none M) ∧ (M s 3 = 0 → wc kc d 59 [jR 34, jR s, jI v3] M (fun v M1 => wp kc (d + 1) 58 33 [some (jR 34), some (jR s), none, some (jI v3)] (v.toList ++ []) M1 Q))))) : wp kc (d + 1) 58 9 [some (jR 34), some (jR s), some (jI v2), some (jI v3)] [] M Q :=
  (x_ildn c58_9 rfl (x_ci c58_10 (x_cge c58_13 H.1 (by decide) (fun h5 => (x_vr c58_66 r58 (H.2.1 h5))) (fun h6 => (x_ildn c58_16 rfl (x_zeq c58_17 (H.2.2 h6).1 (fun h3 => (x_vr c58_66 r58 ((H.2.2 h6).2.1 h3))) (fun h4 => (x_aldn c58_20 rfl (x_gfi c58_21 (ks_3 Hs) (x_zne c58_24 ((H.2.2 h6).2.2 h4).1 (fun h1 => (x_vr c58_66 r58 (((H.2.2 h6).2.2 h4).2.1 h1))) (fun h2 => (x_aldn c58_27 rfl (x_aldn c58_28 rfl (x_ildn c58_29 rfl (wp_wk (l' := [some (jR 34), some (jR s), none, some (jI v3)]) ⟨rfl, ⟨rfl, ⟨rfl, trivial⟩⟩⟩ (x_cv (As := [jR s, jI v3]) (st := []) c58_30 cl_34 kl59 rfl (Nat.le_of_ble_eq_true rfl) mx59 (Nat.le_refl _) (((H.2.2 h6).2.2 h4).2.2 h2)))))))))))))))))
theorem s58_33 {kc : List va_E} {d : Nat} {s : Nat} {v3 : Int} {M : fx_M} {Q : Option fx_V → fx_M → Prop} (Hs : fx_scn s) (H : ((fx_in32 (M s 1))) ∧ ((fx_in32 (M s 2))) ∧ wp kc (d + 1) 58 9 [some (jR 34), some (jR s), some (jI (if M s 1 < M s 2 then (1 : Int) else 0)), some (jI (v3 + 1))] [] (fx_up M 34 0 ((M 34 0) + 1)) Q) : wp kc (d + 1) 58 33 [some (jR 34), some (jR s), none, some (jI v3)] [] M Q :=
  (x_aldn c58_33 rfl (x_dupr c58_34 (x_gfi c58_35 k_34_0 (x_ci c58_38 (x_iadd c58_39 (x_pfi c58_40 k_34_0 (x_aldn c58_43 rfl (x_gfi c58_44 (ks_1 Hs) (wp_vI (fx_upK (by decide)) (x_aldn c58_47 rfl (x_gfi c58_48 (ks_2 Hs) (wp_vI (fx_upK (by decide)) (have K : wp kc (d + 1) 58 59 [some (jR 34), some (jR s), none, some (jI v3)] [jI (if M s 1 < M s 2 then (1 : Int) else 0)] (fx_up M 34 0 ((M 34 0) + 1)) Q := (x_istn (l' := [some (jR 34), some (jR s), some (jI (if M s 1 < M s 2 then (1 : Int) else 0)), some (jI v3)]) c58_59 rfl (x_inc (l' := [some (jR 34), some (jR s), some (jI (if M s 1 < M s 2 then (1 : Int) else 0)), some (jI (v3 + 1))]) c58_60 rfl rfl (x_goto c58_63 (wp_wk (l' := [some (jR 34), some (jR s), some (jI (if M s 1 < M s 2 then (1 : Int) else 0)), some (jI (v3 + 1))]) ⟨rfl, ⟨rfl, ⟨rfl, ⟨rfl, trivial⟩⟩⟩⟩ H.2.2)))); (x_cge c58_51 H.1 H.2.1 (fun (h1 : M s 2 ≤ M s 1) => (x_ci c58_58 (wp_wk (l' := [some (jR 34), some (jR s), none, some (jI v3)]) ⟨rfl, ⟨rfl, ⟨rfl, trivial⟩⟩⟩ (by have K := K; first | (simp only [if_neg (Int.not_lt.mpr h1)] at K ⊢; exact K) | (exfalso; omega))))) (fun (h2 : M s 1 < M s 2) => (x_ci c58_54 (x_goto c58_55 (wp_wk (l' := [some (jR 34), some (jR s), none, some (jI v3)]) ⟨rfl, ⟨rfl, ⟨rfl, trivial⟩⟩⟩ (by have K := K; first | (simp only [if_pos h2] at K ⊢; exact K) | (exfalso; omega))))))))))))))))))))
theorem s58 {kc : List va_E} {d : Nat} {s : Nat} {M : fx_M} {Q : Option fx_V → fx_M → Prop} (Hs : fx_scn s) (H : wp kc (d + 1) 58 9 [some (jR 34), some (jR s), some (jI 1), some (jI 0)] [] (fx_up M 34 0 0) Q) : wc kc (d + 1) 58 [jR 34, jR s] M Q :=
  wc_of (wp_wk (l' := [some (jR 34), some (jR s), none, none]) ⟨rfl, ⟨rfl, trivial⟩⟩ (s58_0 Hs H))

theorem c59_0 : fx_op 59 0 = some (.aload_n 0, 1, 0) := by decide +kernel
theorem c59_1 : fx_gf 59 1 = some (6, 1, 4) := by decide +kernel
theorem c59_4 : fx_op 59 4 = some (.iload_n 2, 5, 4) := by decide +kernel
theorem c59_5 : fx_op 59 5 = some (.aload_n 1, 6, 5) := by decide +kernel
theorem c59_6 : fx_cr 59 6 = some (1000025, 8) := by decide +kernel
theorem c59_8 : fx_ca 59 8 = some (20, 2, 2, 11) := by decide +kernel
theorem c59_12 : fx_op 59 12 = some (.aload_n 0, 13, 12) := by decide +kernel
theorem c59_13 : fx_gf 59 13 = some (6, 2, 16) := by decide +kernel
theorem c59_16 : fx_op 59 16 = some (.iload_n 2, 17, 16) := by decide +kernel
theorem c59_17 : fx_ci 59 17 = some (0, 18) := by decide +kernel
theorem c59_19 : fx_op 59 19 = some (.aload_n 0, 20, 19) := by decide +kernel
theorem c59_20 : fx_gf 59 20 = some (6, 3, 23) := by decide +kernel
theorem c59_23 : fx_op 59 23 = some (.iload_n 2, 24, 23) := by decide +kernel
theorem c59_24 : fx_ci 59 24 = some (0, 25) := by decide +kernel
theorem c59_26 : fx_op 59 26 = some (.aload_n 0, 27, 26) := by decide +kernel
theorem c59_27 : fx_gf 59 27 = some (6, 4, 30) := by decide +kernel
theorem c59_30 : fx_op 59 30 = some (.iload_n 2, 31, 30) := by decide +kernel
theorem c59_31 : fx_cj 59 31 = some (0, 32) := by decide +kernel
theorem c59_33 : fx_op 59 33 = some (.aload_n 0, 34, 33) := by decide +kernel
theorem c59_34 : fx_gf 59 34 = some (6, 5, 37) := by decide +kernel
theorem c59_37 : fx_op 59 37 = some (.iload_n 2, 38, 37) := by decide +kernel
theorem c59_38 : fx_cj 59 38 = some (0, 39) := by decide +kernel
theorem c59_40 : fx_op 59 40 = some (.aload_n 0, 41, 40) := by decide +kernel
theorem c59_41 : fx_gf 59 41 = some (6, 1, 44) := by decide +kernel
theorem c59_44 : fx_op 59 44 = some (.iload_n 2, 45, 44) := by decide +kernel
theorem c59_46 : fx_op 59 46 = some (.ifCond .eq 23, 49, 69) := by decide +kernel
theorem c59_69 : fx_op 59 69 = some (.aload_n 0, 70, 69) := by decide +kernel
theorem c59_70 : fx_gf 59 70 = some (6, 2, 73) := by decide +kernel
theorem c59_73 : fx_op 59 73 = some (.iload_n 2, 74, 73) := by decide +kernel
theorem c59_74 : fx_op 59 74 = some (.aload_n 1, 75, 74) := by decide +kernel
theorem c59_75 : fx_ci 59 75 = some (3, 76) := by decide +kernel
theorem c59_49 : fx_op 59 49 = some (.aload_n 0, 50, 49) := by decide +kernel
theorem c59_50 : fx_gf 59 50 = some (6, 1, 53) := by decide +kernel
theorem c59_53 : fx_op 59 53 = some (.iload_n 2, 54, 53) := by decide +kernel
theorem c59_55 : fx_ci 59 55 = some (1, 56) := by decide +kernel
theorem c59_56 : fx_op 59 56 = some (.if_icmp .eq 13, 59, 69) := by decide +kernel
theorem c59_59 : fx_op 59 59 = some (.aload_n 0, 60, 59) := by decide +kernel
theorem c59_60 : fx_gf 59 60 = some (6, 1, 63) := by decide +kernel
theorem c59_63 : fx_op 59 63 = some (.iload_n 2, 64, 63) := by decide +kernel
theorem c59_65 : fx_ci 59 65 = some (2, 66) := by decide +kernel
theorem c59_66 : fx_op 59 66 = some (.if_icmp .ne 14, 69, 80) := by decide +kernel
theorem c59_80 : fx_op 59 80 = some (.aload_n 0, 81, 80) := by decide +kernel
theorem c59_81 : fx_gf 59 81 = some (6, 1, 84) := by decide +kernel
theorem c59_84 : fx_op 59 84 = some (.iload_n 2, 85, 84) := by decide +kernel
theorem c59_86 : fx_ci 59 86 = some (2, 87) := by decide +kernel
theorem c59_87 : fx_op 59 87 = some (.if_icmp .ne 20, 90, 107) := by decide +kernel
theorem c59_90 : fx_op 59 90 = some (.aload_n 1, 91, 90) := by decide +kernel
theorem c59_91 : fx_ci 59 91 = some (32, 93) := by decide +kernel
theorem c59_107 : fx_op 59 107 = some (.aload_n 1, 108, 107) := by decide +kernel
theorem c59_108 : fx_gf 59 108 = some (2, 1, 111) := by decide +kernel
theorem c59_111 : fx_op 59 111 = some (.istore_n 3, 112, 111) := by decide +kernel
theorem c59_11 : fx_op 59 11 = some (.iastore, 12, 11) := by decide +kernel
theorem c59_18 : fx_op 59 18 = some (.iastore, 19, 18) := by decide +kernel
theorem c59_25 : fx_op 59 25 = some (.iastore, 26, 25) := by decide +kernel
theorem c59_32 : fx_op 59 32 = some (.lastore, 33, 32) := by decide +kernel
theorem c59_39 : fx_op 59 39 = some (.lastore, 40, 39) := by decide +kernel
theorem c59_45 : fx_op 59 45 = some (.iaload, 46, 45) := by decide +kernel
theorem c59_76 : fx_ca 59 76 = some (35, 2, 2, 79) := by decide +kernel
theorem c59_54 : fx_op 59 54 = some (.iaload, 55, 54) := by decide +kernel
theorem c59_64 : fx_op 59 64 = some (.iaload, 65, 64) := by decide +kernel
theorem c59_85 : fx_op 59 85 = some (.iaload, 86, 85) := by decide +kernel
theorem c59_93 : fx_ca 59 93 = some (34, 2, 2, 96) := by decide +kernel
theorem c59_112 : fx_op 59 112 = some (.iload_n 3, 113, 112) := by decide +kernel
theorem c59_113 : fx_op 59 113 = some (.aload_n 1, 114, 113) := by decide +kernel
theorem c59_114 : fx_gf 59 114 = some (2, 2, 117) := by decide +kernel
theorem c59_117 : fx_op 59 117 = some (.if_icmp .gt 24, 120, 141) := by decide +kernel
theorem c59_120 : fx_op 59 120 = some (.aload_n 1, 121, 120) := by decide +kernel
theorem c59_121 : fx_ci 59 121 = some (32, 123) := by decide +kernel
theorem c59_141 : fx_op 59 141 = some (.aload_n 1, 142, 141) := by decide +kernel
theorem c59_142 : fx_ci 59 142 = some (59, 144) := by decide +kernel
theorem c59_144 : fx_ca 59 144 = some (34, 2, 2, 147) := by decide +kernel
theorem c59_123 : fx_ca 59 123 = some (38, 2, 2, 126) := by decide +kernel
theorem c59_79 : fx_op 59 79 = some (.iastore, 80, 79) := by decide +kernel
theorem c59_96 : fx_op 59 96 = some (.aload_n 0, 97, 96) := by decide +kernel
theorem c59_97 : fx_gf 59 97 = some (6, 3, 100) := by decide +kernel
theorem c59_100 : fx_op 59 100 = some (.iload_n 2, 101, 100) := by decide +kernel
theorem c59_101 : fx_op 59 101 = some (.aload_n 1, 102, 101) := by decide +kernel
theorem c59_102 : fx_ci 59 102 = some (3, 103) := by decide +kernel
theorem c59_103 : fx_ca 59 103 = some (35, 2, 2, 106) := by decide +kernel
theorem c59_147 : fx_op 59 147 = some (.return_, 148, 147) := by decide +kernel
theorem c59_126 : fx_op 59 126 = some (.ifCond .eq 15, 129, 141) := by decide +kernel
theorem c59_129 : fx_op 59 129 = some (.aload_n 0, 130, 129) := by decide +kernel
theorem c59_130 : fx_op 59 130 = some (.aload_n 1, 131, 130) := by decide +kernel
theorem c59_131 : fx_op 59 131 = some (.iload_n 2, 132, 131) := by decide +kernel
theorem c59_132 : fx_ca 59 132 = some (60, 3, 2, 135) := by decide +kernel
theorem c59_106 : fx_op 59 106 = some (.iastore, 107, 106) := by decide +kernel
theorem c59_135 : fx_op 59 135 = some (.iinc 3 1, 138, 135) := by decide +kernel
theorem c59_138 : fx_op 59 138 = some (.goto (-26), 141, 112) := by decide +kernel
theorem s59_0 {kc : List va_E} {d : Nat} {s : Nat} {x2 : Int} {M : fx_M} {Q : Option fx_V → fx_M → Prop} (Hs : fx_scn s) (H : wc kc d 20 [jR s, jR 1000025] M (fun v M1 => wp kc (d + 1) 59 11 [some (jR 34), some (jR s), some (jI x2), none] (v.toList ++ [jI x2, jR 35]) M1 Q)) : wp kc (d + 1) 59 0 [some (jR 34), some (jR s), some (jI x2), none] [] M Q :=
  (x_aldn c59_0 rfl (x_gfr c59_1 k_34_1 (x_ildn c59_4 rfl (x_aldn c59_5 rfl (x_cr c59_6 (wp_wk (l' := [some (jR 34), some (jR s), some (jI x2), none]) ⟨rfl, ⟨rfl, ⟨rfl, trivial⟩⟩⟩ (x_cv (As := [jR 1000025]) (st := [jI x2, jR 35]) c59_8 (cls Hs) kl20 rfl (Nat.le_of_ble_eq_true rfl) mx20 (Nat.le_refl _) H)))))))
theorem s59_11 {kc : List va_E} {d : Nat} {s : Nat} {v2 u0 u1 : Int} {M : fx_M} {Q : Option fx_V → fx_M → Prop} (Hs : fx_scn s) (H : (((0 : Int) ≤ u1 ∧ u1 < 1600)) ∧ (((0 : Int) ≤ v2 ∧ v2 < 1600)) ∧ (((0 : Int) ≤ v2 ∧ v2 < 1600)) ∧ (((0 : Int) ≤ v2 ∧ v2 < 1600)) ∧ (((0 : Int) ≤ v2 ∧ v2 < 1600)) ∧ (((0 : Int) ≤ v2 ∧ v2 < 1600)) ∧ ((fx_in32 ((fx_up M 35 u1 u0) 35 v2))) ∧ ((fx_up M 35 u1 u0) 35 v2 = 0 → wc kc d 35 [jR s, jI 3] (fx_up (fx_up (fx_up (fx_up (fx_up M 35 u1 u0) 36 v2 0) 37 v2 0) 38 v2 0) 39 v2 0) (fun v M1 => wp kc (d + 1) 59 79 [some (jR 34), some (jR s), some (jI v2), none] (v.toList ++ [jI v2, jR 36]) M1 Q)) ∧ ((fx_up M 35 u1 u0) 35 v2 ≠ 0 → (((0 : Int) ≤ v2 ∧ v2 < 1600)) ∧ ((fx_in32 ((fx_up M 35 u1 u0) 35 v2))) ∧ ((fx_up M 35 u1 u0) 35 v2 = 1 → wc kc d 35 [jR s, jI 3] (fx_up (fx_up (fx_up (fx_up (fx_up M 35 u1 u0) 36 v2 0) 37 v2 0) 38 v2 0) 39 v2 0) (fun v M1 => wp kc (d + 1) 59 79 [some (jR 34), some (jR s), some (jI v2), none] (v.toList ++ [jI v2, jR 36]) M1 Q)) ∧ ((fx_up M 35 u1 u0) 35 v2 ≠ 1 → (((0 : Int) ≤ v2 ∧ v2 < 1600)) ∧ ((fx_in32 ((fx_up M 35 u1 u0) 35 v2))) ∧ ((fx_up M 35 u1 u0) 35 v2 ≠ 2 → (((0 : Int) ≤ v2 ∧ v2 < 1600)) ∧ ((fx_in32 ((fx_up M 35 u1 u0) 35 v2))) ∧ ((fx_up M 35 u1 u0) 35 v2 ≠ 2 → wp kc (d + 1) 59 112 [some (jR 34), some (jR s), some (jI v2), some (jI ((fx_up (fx_up (fx_up (fx_up (fx_up M 35 u1 u0) 36 v2 0) 37 v2 0) 38 v2 0) 39 v2 0) s 1))] [] (fx_up (fx_up (fx_up (fx_up (fx_up M 35 u1 u0) 36 v2 0) 37 v2 0) 38 v2 0) 39 v2 0) Q) ∧ ((fx_up M 35 u1 u0) 35 v2 = 2 → wc kc d 34 [jR s, jI 32] (fx_up (fx_up (fx_up (fx_up (fx_up M 35 u1 u0) 36 v2 0) 37 v2 0) 38 v2 0) 39 v2 0) (fun v M1 => wp kc (d + 1) 59 96 [some (jR 34), some (jR s), some (jI v2), none] (v.toList ++ []) M1 Q))) ∧ ((fx_up M 35 u1 u0) 35 v2 = 2 → wc kc d 35 [jR s, jI 3] (fx_up (fx_up (fx_up (fx_up (fx_up M 35 u1 u0) 36 v2 0) 37 v2 0) 38 v2 0) 39 v2 0) (fun v M1 => wp kc (d + 1) 59 79 [some (jR 34), some (jR s), some (jI v2), none] (v.toList ++ [jI v2, jR 36]) M1 Q))))) : wp kc (d + 1) 59 11 [some (jR 34), some (jR s), some (jI v2), none] [jI u0, jI u1, jR 35] M Q :=
  (x_iast c59_11 a_35 H.1 (by decide) (x_aldn c59_12 rfl (x_gfr c59_13 k_34_2 (x_ildn c59_16 rfl (x_ci c59_17 (x_iast c59_18 a_36 H.2.1 (by decide) (x_aldn c59_19 rfl (x_gfr c59_20 k_34_3 (x_ildn c59_23 rfl (x_ci c59_24 (x_iast c59_25 a_37 H.2.2.1 (by decide) (x_aldn c59_26 rfl (x_gfr c59_27 k_34_4 (x_ildn c59_30 rfl (x_cj c59_31 (x_last c59_32 a_38 H.2.2.2.1 (by decide) (x_aldn c59_33 rfl (x_gfr c59_34 k_34_5 (x_ildn c59_37 rfl (x_cj c59_38 (x_last c59_39 a_39 H.2.2.2.2.1 (by decide) (x_aldn c59_40 rfl (x_gfr c59_41 k_34_1 (x_ildn c59_44 rfl (x_iald c59_45 a_35 H.2.2.2.2.2.1 (by decide) (wp_vI (((fx_upA (by decide)).trans ((fx_upA (by decide)).trans ((fx_upA (by decide)).trans (fx_upA (by decide)))))) (x_zeq c59_46 H.2.2.2.2.2.2.1 (fun h7 => (x_aldn c59_69 rfl (x_gfr c59_70 k_34_2 (x_ildn c59_73 rfl (x_aldn c59_74 rfl (x_ci c59_75 (wp_wk (l' := [some (jR 34), some (jR s), some (jI v2), none]) ⟨rfl, ⟨rfl, ⟨rfl, trivial⟩⟩⟩ (x_cv (As := [jI 3]) (st := [jI v2, jR 36]) c59_76 (cls Hs) kl35 rfl (Nat.le_of_ble_eq_true rfl) mx35 (Nat.le_refl _) (H.2.2.2.2.2.2.2.1 h7))))))))) (fun h8 => (x_aldn c59_49 rfl (x_gfr c59_50 k_34_1 (x_ildn c59_53 rfl (x_iald c59_54 a_35 (H.2.2.2.2.2.2.2.2 h8).1 (by decide) (wp_vI (((fx_upA (by decide)).trans ((fx_upA (by decide)).trans ((fx_upA (by decide)).trans (fx_upA (by decide)))))) (x_ci c59_55 (x_ceq c59_56 (H.2.2.2.2.2.2.2.2 h8).2.1 (by decide) (fun h5 => (x_aldn c59_69 rfl (x_gfr c59_70 k_34_2 (x_ildn c59_73 rfl (x_aldn c59_74 rfl (x_ci c59_75 (wp_wk (l' := [some (jR 34), some (jR s), some (jI v2), none]) ⟨rfl, ⟨rfl, ⟨rfl, trivial⟩⟩⟩ (x_cv (As := [jI 3]) (st := [jI v2, jR 36]) c59_76 (cls Hs) kl35 rfl (Nat.le_of_ble_eq_true rfl) mx35 (Nat.le_refl _) ((H.2.2.2.2.2.2.2.2 h8).2.2.1 h5))))))))) (fun h6 => (x_aldn c59_59 rfl (x_gfr c59_60 k_34_1 (x_ildn c59_63 rfl (x_iald c59_64 a_35 ((H.2.2.2.2.2.2.2.2 h8).2.2.2 h6).1 (by decide) (wp_vI (((fx_upA (by decide)).trans ((fx_upA (by decide)).trans ((fx_upA (by decide)).trans (fx_upA (by decide)))))) (x_ci c59_65 (x_cne c59_66 ((H.2.2.2.2.2.2.2.2 h8).2.2.2 h6).2.1 (by decide) (fun h3 => (x_aldn c59_80 rfl (x_gfr c59_81 k_34_1 (x_ildn c59_84 rfl (x_iald c59_85 a_35 (((H.2.2.2.2.2.2.2.2 h8).2.2.2 h6).2.2.1 h3).1 (by decide) (wp_vI (((fx_upA (by decide)).trans ((fx_upA (by decide)).trans ((fx_upA (by decide)).trans (fx_upA (by decide)))))) (x_ci c59_86 (x_cne c59_87 (((H.2.2.2.2.2.2.2.2 h8).2.2.2 h6).2.2.1 h3).2.1 (by decide) (fun h1 => (x_aldn c59_107 rfl (x_gfi c59_108 (ks_1 Hs) (x_istn (l' := [some (jR 34), some (jR s), some (jI v2), some (jI ((fx_up (fx_up (fx_up (fx_up (fx_up M 35 u1 u0) 36 v2 0) 37 v2 0) 38 v2 0) 39 v2 0) s 1))]) c59_111 rfl (wp_wk (l' := [some (jR 34), some (jR s), some (jI v2), some (jI ((fx_up (fx_up (fx_up (fx_up (fx_up M 35 u1 u0) 36 v2 0) 37 v2 0) 38 v2 0) 39 v2 0) s 1))]) ⟨rfl, ⟨rfl, ⟨rfl, ⟨rfl, trivial⟩⟩⟩⟩ ((((H.2.2.2.2.2.2.2.2 h8).2.2.2 h6).2.2.1 h3).2.2.1 h1)))))) (fun h2 => (x_aldn c59_90 rfl (x_ci c59_91 (wp_wk (l' := [some (jR 34), some (jR s), some (jI v2), none]) ⟨rfl, ⟨rfl, ⟨rfl, trivial⟩⟩⟩ (x_cv (As := [jI 32]) (st := []) c59_93 (cls Hs) kl34 rfl (Nat.le_of_ble_eq_true rfl) mx34 (Nat.le_refl _) ((((H.2.2.2.2.2.2.2.2 h8).2.2.2 h6).2.2.1 h3).2.2.2 h2)))))))))))))) (fun h4 => (x_aldn c59_69 rfl (x_gfr c59_70 k_34_2 (x_ildn c59_73 rfl (x_aldn c59_74 rfl (x_ci c59_75 (wp_wk (l' := [some (jR 34), some (jR s), some (jI v2), none]) ⟨rfl, ⟨rfl, ⟨rfl, trivial⟩⟩⟩ (x_cv (As := [jI 3]) (st := [jI v2, jR 36]) c59_76 (cls Hs) kl35 rfl (Nat.le_of_ble_eq_true rfl) mx35 (Nat.le_refl _) (((H.2.2.2.2.2.2.2.2 h8).2.2.2 h6).2.2.2 h4))))))))))))))))))))))))))))))))))))))))))))))))))))
theorem s59_79 {kc : List va_E} {d : Nat} {s : Nat} {v2 u0 u1 : Int} {M : fx_M} {Q : Option fx_V → fx_M → Prop} (Hs : fx_scn s) (H : (((0 : Int) ≤ u1 ∧ u1 < 1600)) ∧ (((0 : Int) ≤ v2 ∧ v2 < 1600)) ∧ ((fx_in32 (M 35 v2))) ∧ (M 35 v2 ≠ 2 → wp kc (d + 1) 59 112 [some (jR 34), some (jR s), some (jI v2), some (jI ((fx_up M 36 u1 u0) s 1))] [] (fx_up M 36 u1 u0) Q) ∧ (M 35 v2 = 2 → wc kc d 34 [jR s, jI 32] (fx_up M 36 u1 u0) (fun v M1 => wp kc (d + 1) 59 96 [some (jR 34), some (jR s), some (jI v2), none] (v.toList ++ []) M1 Q))) : wp kc (d + 1) 59 79 [some (jR 34), some (jR s), some (jI v2), none] [jI u0, jI u1, jR 36] M Q :=
  (x_iast c59_79 a_36 H.1 (by decide) (x_aldn c59_80 rfl (x_gfr c59_81 k_34_1 (x_ildn c59_84 rfl (x_iald c59_85 a_35 H.2.1 (by decide) (wp_vI (fx_upA (by decide)) (x_ci c59_86 (x_cne c59_87 H.2.2.1 (by decide) (fun h1 => (x_aldn c59_107 rfl (x_gfi c59_108 (ks_1 Hs) (x_istn (l' := [some (jR 34), some (jR s), some (jI v2), some (jI ((fx_up M 36 u1 u0) s 1))]) c59_111 rfl (wp_wk (l' := [some (jR 34), some (jR s), some (jI v2), some (jI ((fx_up M 36 u1 u0) s 1))]) ⟨rfl, ⟨rfl, ⟨rfl, ⟨rfl, trivial⟩⟩⟩⟩ (H.2.2.2.1 h1)))))) (fun h2 => (x_aldn c59_90 rfl (x_ci c59_91 (wp_wk (l' := [some (jR 34), some (jR s), some (jI v2), none]) ⟨rfl, ⟨rfl, ⟨rfl, trivial⟩⟩⟩ (x_cv (As := [jI 32]) (st := []) c59_93 (cls Hs) kl34 rfl (Nat.le_of_ble_eq_true rfl) mx34 (Nat.le_refl _) (H.2.2.2.2 h2))))))))))))))
theorem s59_96 {kc : List va_E} {d : Nat} {s : Nat} {v2 : Int} {M : fx_M} {Q : Option fx_V → fx_M → Prop} (Hs : fx_scn s) (H : wc kc d 35 [jR s, jI 3] M (fun v M1 => wp kc (d + 1) 59 106 [some (jR 34), some (jR s), some (jI v2), none] (v.toList ++ [jI v2, jR 37]) M1 Q)) : wp kc (d + 1) 59 96 [some (jR 34), some (jR s), some (jI v2), none] [] M Q :=
  (x_aldn c59_96 rfl (x_gfr c59_97 k_34_3 (x_ildn c59_100 rfl (x_aldn c59_101 rfl (x_ci c59_102 (wp_wk (l' := [some (jR 34), some (jR s), some (jI v2), none]) ⟨rfl, ⟨rfl, ⟨rfl, trivial⟩⟩⟩ (x_cv (As := [jI 3]) (st := [jI v2, jR 37]) c59_103 (cls Hs) kl35 rfl (Nat.le_of_ble_eq_true rfl) mx35 (Nat.le_refl _) H)))))))
theorem s59_106 {kc : List va_E} {d : Nat} {s : Nat} {v2 u0 u1 : Int} {M : fx_M} {Q : Option fx_V → fx_M → Prop} (Hs : fx_scn s) (H : (((0 : Int) ≤ u1 ∧ u1 < 1600)) ∧ wp kc (d + 1) 59 112 [some (jR 34), some (jR s), some (jI v2), some (jI ((fx_up M 37 u1 u0) s 1))] [] (fx_up M 37 u1 u0) Q) : wp kc (d + 1) 59 106 [some (jR 34), some (jR s), some (jI v2), none] [jI u0, jI u1, jR 37] M Q :=
  (x_iast c59_106 a_37 H.1 (by decide) (x_aldn c59_107 rfl (x_gfi c59_108 (ks_1 Hs) (x_istn (l' := [some (jR 34), some (jR s), some (jI v2), some (jI ((fx_up M 37 u1 u0) s 1))]) c59_111 rfl (wp_wk (l' := [some (jR 34), some (jR s), some (jI v2), some (jI ((fx_up M 37 u1 u0) s 1))]) ⟨rfl, ⟨rfl, ⟨rfl, ⟨rfl, trivial⟩⟩⟩⟩ H.2)))))
theorem s59_112 {kc : List va_E} {d : Nat} {s : Nat} {v2 v3 : Int} {M : fx_M} {Q : Option fx_V → fx_M → Prop} (Hs : fx_scn s) (H : ((fx_in32 v3) ∧ (fx_in32 (M s 2))) ∧ (M s 2 < v3 → wc kc d 34 [jR s, jI 59] M (fun v M1 => wp kc (d + 1) 59 147 [none, none, none, none] (v.toList ++ []) M1 Q)) ∧ (v3 ≤ M s 2 → wc kc d 38 [jR s, jI 32] M (fun v M1 => wp kc (d + 1) 59 126 [some (jR 34), some (jR s), some (jI v2), some (jI v3)] (v.toList ++ []) M1 Q))) : wp kc (d + 1) 59 112 [some (jR 34), some (jR s), some (jI v2), some (jI v3)] [] M Q :=
  (x_ildn c59_112 rfl (x_aldn c59_113 rfl (x_gfi c59_114 (ks_2 Hs) (x_cgt c59_117 H.1.1 H.1.2 (fun h1 => (x_aldn c59_141 rfl (x_ci c59_142 (wp_wk (l' := [none, none, none, none]) trivial (x_cv (As := [jI 59]) (st := []) c59_144 (cls Hs) kl34 rfl (Nat.le_of_ble_eq_true rfl) mx34 (Nat.le_refl _) (H.2.1 h1)))))) (fun h2 => (x_aldn c59_120 rfl (x_ci c59_121 (wp_wk (l' := [some (jR 34), some (jR s), some (jI v2), some (jI v3)]) ⟨rfl, ⟨rfl, ⟨rfl, ⟨rfl, trivial⟩⟩⟩⟩ (x_cv (As := [jI 32]) (st := []) c59_123 (cls Hs) kl38 rfl (Nat.le_of_ble_eq_true rfl) mx38 (Nat.le_refl _) (H.2.2 h2))))))))))
theorem s59_126 {kc : List va_E} {d : Nat} {s : Nat} {v2 v3 u0 : Int} {M : fx_M} {Q : Option fx_V → fx_M → Prop} (Hs : fx_scn s) (H : ((fx_in32 u0)) ∧ (u0 = 0 → wc kc d 34 [jR s, jI 59] M (fun v M1 => wp kc (d + 1) 59 147 [none, none, none, none] (v.toList ++ []) M1 Q)) ∧ (u0 ≠ 0 → wc kc d 60 [jR 34, jR s, jI v2] M (fun v M1 => wp kc (d + 1) 59 135 [some (jR 34), some (jR s), some (jI v2), some (jI v3)] (v.toList ++ []) M1 Q))) : wp kc (d + 1) 59 126 [some (jR 34), some (jR s), some (jI v2), some (jI v3)] [jI u0] M Q :=
  (x_zeq c59_126 H.1 (fun h1 => (x_aldn c59_141 rfl (x_ci c59_142 (wp_wk (l' := [none, none, none, none]) trivial (x_cv (As := [jI 59]) (st := []) c59_144 (cls Hs) kl34 rfl (Nat.le_of_ble_eq_true rfl) mx34 (Nat.le_refl _) (H.2.1 h1)))))) (fun h2 => (x_aldn c59_129 rfl (x_aldn c59_130 rfl (x_ildn c59_131 rfl (wp_wk (l' := [some (jR 34), some (jR s), some (jI v2), some (jI v3)]) ⟨rfl, ⟨rfl, ⟨rfl, ⟨rfl, trivial⟩⟩⟩⟩ (x_cv (As := [jR s, jI v2]) (st := []) c59_132 cl_34 kl60 rfl (Nat.le_of_ble_eq_true rfl) mx60 (Nat.le_refl _) (H.2.2 h2))))))))
theorem s59_135 {kc : List va_E} {d : Nat} {s : Nat} {v2 v3 : Int} {M : fx_M} {Q : Option fx_V → fx_M → Prop} (Hs : fx_scn s) (H : wp kc (d + 1) 59 112 [some (jR 34), some (jR s), some (jI v2), some (jI (v3 + 1))] [] M Q) : wp kc (d + 1) 59 135 [some (jR 34), some (jR s), some (jI v2), some (jI v3)] [] M Q :=
  (x_inc (l' := [some (jR 34), some (jR s), some (jI v2), some (jI (v3 + 1))]) c59_135 rfl rfl (x_goto c59_138 (wp_wk (l' := [some (jR 34), some (jR s), some (jI v2), some (jI (v3 + 1))]) ⟨rfl, ⟨rfl, ⟨rfl, ⟨rfl, trivial⟩⟩⟩⟩ H)))
theorem s59_147 {kc : List va_E} {d : Nat} {s : Nat} {M : fx_M} {Q : Option fx_V → fx_M → Prop} (Hs : fx_scn s) (H : Q none M) : wp kc (d + 1) 59 147 [none, none, none, none] [] M Q :=
  (x_vr c59_147 r59 H)
theorem s59 {kc : List va_E} {d : Nat} {s : Nat} {x2 : Int} {M : fx_M} {Q : Option fx_V → fx_M → Prop} (Hs : fx_scn s) (H : wc kc d 20 [jR s, jR 1000025] M (fun v M1 => wp kc (d + 1) 59 11 [some (jR 34), some (jR s), some (jI x2), none] (v.toList ++ [jI x2, jR 35]) M1 Q)) : wc kc (d + 1) 59 [jR 34, jR s, jI x2] M Q :=
  wc_of (wp_wk (l' := [some (jR 34), some (jR s), some (jI x2), none]) ⟨rfl, ⟨rfl, ⟨rfl, trivial⟩⟩⟩ (s59_0 Hs H))

theorem c208_0 : fx_op 208 0 = some (.aload_n 0, 1, 0) := by decide +kernel
theorem c208_1 : fx_gf 208 1 = some (9, 3, 4) := by decide +kernel
theorem c208_4 : fx_op 208 4 = some (.aload_n 0, 5, 4) := by decide +kernel
theorem c208_5 : fx_gf 208 5 = some (9, 0, 8) := by decide +kernel
theorem c208_8 : fx_op 208 8 = some (.iaload, 9, 8) := by decide +kernel
theorem c208_9 : fx_op 208 9 = some (.ireturn, 10, 9) := by decide +kernel
theorem s208_0 {kc : List va_E} {d : Nat} {M : fx_M} {Q : Option fx_V → fx_M → Prop} (H : (((0 : Int) ≤ M 53 0 ∧ M 53 0 < 3)) ∧ Q (some (jI (M 56 (M 53 0)))) M) : wp kc (d + 1) 208 0 [some (jR 53)] [] M Q :=
  (x_aldn c208_0 rfl (x_gfr c208_1 k_53_3 (x_aldn c208_4 rfl (x_gfi c208_5 k_53_0 (x_iald c208_8 a_56 H.1 (by decide) (x_irt c208_9 r208 H.2))))))
theorem s208 {kc : List va_E} {d : Nat} {M : fx_M} {Q : Option fx_V → fx_M → Prop} (H : (((0 : Int) ≤ M 53 0 ∧ M 53 0 < 3)) ∧ Q (some (jI (M 56 (M 53 0)))) M) : wc kc (d + 1) 208 [jR 53] M Q :=
  wc_of (wp_wk (l' := [some (jR 53)]) ⟨rfl, trivial⟩ (s208_0 H))

theorem c179_0 : fx_op 179 0 = some (.aload_n 0, 1, 0) := by decide +kernel
theorem c179_1 : fx_gf 179 1 = some (11, 0, 4) := by decide +kernel
theorem c179_4 : fx_op 179 4 = some (.aload_n 0, 5, 4) := by decide +kernel
theorem c179_5 : fx_ca 179 5 = some (180, 1, 2, 8) := by decide +kernel
theorem c179_9 : fx_ci 179 9 = some (15, 11) := by decide +kernel
theorem c179_8 : fx_op 179 8 = some (.caload, 9, 8) := by decide +kernel
theorem c179_11 : fx_nt 179 11 = some (2, 14) := by decide +kernel
theorem c179_14 : fx_op 179 14 = some (.ireturn, 15, 14) := by decide +kernel
theorem n179_11 : xS 179 ((xI 179 11).getD .nop) = none := by decide +kernel
theorem s179_0 {kc : List va_E} {d : Nat} {M : fx_M} {Q : Option fx_V → fx_M → Prop} (H : wc kc d 180 [jR 125] M (fun v M1 => wp kc (d + 1) 179 8 [none] (v.toList ++ [jR 126]) M1 Q)) : wp kc (d + 1) 179 0 [some (jR 125)] [] M Q :=
  (x_aldn c179_0 rfl (x_gfr c179_1 k_125_0 (x_aldn c179_4 rfl (wp_wk (l' := [none]) trivial (x_cv (As := []) (st := [jR 126]) c179_5 cl_125 kl180 rfl (Nat.le_of_ble_eq_true rfl) mx180 (Nat.le_refl _) H)))))
theorem s179_8 {kc : List va_E} {d : Nat} {u0 : Int} {M : fx_M} {Q : Option fx_V → fx_M → Prop} (H : (((0 : Int) ≤ u0 ∧ u0 < 1024)) ∧ ((fx_in32 (M 126 u0))) ∧ Q (some (jI (if 15 < M 126 u0 then (15 : Int) else M 126 u0))) M) : wp kc (d + 1) 179 8 [none] [jI u0, jR 126] M Q :=
  (x_cald c179_8 a_126 H.1 (by decide) (x_ci c179_9 (x_min c179_11 n179_11 H.2.1 (by decide) (Nat.le_of_ble_eq_true rfl) (x_irt c179_14 r179 H.2.2))))
theorem s179 {kc : List va_E} {d : Nat} {M : fx_M} {Q : Option fx_V → fx_M → Prop} (H : wc kc d 180 [jR 125] M (fun v M1 => wp kc (d + 1) 179 8 [none] (v.toList ++ [jR 126]) M1 Q)) : wc kc (d + 1) 179 [jR 125] M Q :=
  wc_of (wp_wk (l' := [some (jR 125)]) ⟨rfl, trivial⟩ (s179_0 H))

theorem c180_0 : fx_op 180 0 = some (.aload_n 0, 1, 0) := by decide +kernel
theorem c180_1 : fx_gf 180 1 = some (11, 0, 4) := by decide +kernel
theorem c180_4 : fx_ci 180 4 = some (0, 5) := by decide +kernel
theorem c180_5 : fx_op 180 5 = some (.caload, 6, 5) := by decide +kernel
theorem c180_6 : fx_ci 180 6 = some (2, 7) := by decide +kernel
theorem c180_7 : fx_op 180 7 = some (.if_icmp .ne 8, 10, 15) := by decide +kernel
theorem c180_15 : fx_ci 180 15 = some (32, 17) := by decide +kernel
theorem c180_10 : fx_ci 180 10 = some (64, 12) := by decide +kernel
theorem c180_12 : fx_op 180 12 = some (.goto 5, 15, 17) := by decide +kernel
theorem c180_17 : fx_op 180 17 = some (.ireturn, 18, 17) := by decide +kernel
theorem s180_0 {kc : List va_E} {d : Nat} {M : fx_M} {Q : Option fx_V → fx_M → Prop} (H : ((fx_in32 (M 126 0))) ∧ Q (some (jI (if M 126 0 = 2 then (64 : Int) else 32))) M) : wp kc (d + 1) 180 0 [some (jR 125)] [] M Q :=
  (x_aldn c180_0 rfl (x_gfr c180_1 k_125_0 (x_ci c180_4 (x_cald c180_5 a_126 (by decide) (by decide) (x_ci c180_6 (have K : wp kc (d + 1) 180 17 [none] [jI (if M 126 0 = 2 then (64 : Int) else 32)] M Q := (x_irt c180_17 r180 H.2); (x_cne c180_7 H.1 (by decide) (fun (h1 : M 126 0 ≠ 2) => (x_ci c180_15 (wp_wk (l' := [none]) trivial (by have K := K; first | (simp only [if_neg h1] at K ⊢; exact K) | (exfalso; omega))))) (fun (h2 : M 126 0 = 2) => (x_ci c180_10 (x_goto c180_12 (wp_wk (l' := [none]) trivial (by have K := K; first | (simp only [if_pos h2] at K ⊢; exact K) | (exfalso; omega)))))))))))))
theorem s180 {kc : List va_E} {d : Nat} {M : fx_M} {Q : Option fx_V → fx_M → Prop} (H : ((fx_in32 (M 126 0))) ∧ Q (some (jI (if M 126 0 = 2 then (64 : Int) else 32))) M) : wc kc (d + 1) 180 [jR 125] M Q :=
  wc_of (wp_wk (l' := [some (jR 125)]) ⟨rfl, trivial⟩ (s180_0 H))

theorem c210_0 : fx_op 210 0 = some (.iload_n 0, 1, 0) := by decide +kernel
theorem c210_1 : fx_op 210 1 = some (.ifCond .lt 23, 4, 24) := by decide +kernel
theorem c210_24 : fx_ci 210 24 = some (0, 25) := by decide +kernel
theorem c210_4 : fx_op 210 4 = some (.iload_n 0, 5, 4) := by decide +kernel
theorem c210_5 : fx_ci 210 5 = some (32, 7) := by decide +kernel
theorem c210_7 : fx_op 210 7 = some (.if_icmp .ge 17, 10, 24) := by decide +kernel
theorem c210_10 : fx_op 210 10 = some (.iload_n 1, 11, 10) := by decide +kernel
theorem c210_11 : fx_op 210 11 = some (.ifCond .lt 13, 14, 24) := by decide +kernel
theorem c210_14 : fx_op 210 14 = some (.iload_n 1, 15, 14) := by decide +kernel
theorem c210_15 : fx_ci 210 15 = some (32, 17) := by decide +kernel
theorem c210_17 : fx_op 210 17 = some (.if_icmp .ge 7, 20, 24) := by decide +kernel
theorem c210_20 : fx_ci 210 20 = some (1, 21) := by decide +kernel
theorem c210_21 : fx_op 210 21 = some (.goto 4, 24, 25) := by decide +kernel
theorem c210_25 : fx_op 210 25 = some (.ireturn, 26, 25) := by decide +kernel
theorem s210_0 {kc : List va_E} {d : Nat} {x0 x1 : Int} {M : fx_M} {Q : Option fx_V → fx_M → Prop} (H : ((fx_in32 x0)) ∧ (0 ≤ x0 → (fx_in32 x0)) ∧ (0 ≤ x0 → x0 < 32 → (fx_in32 x1)) ∧ (0 ≤ x0 → x0 < 32 → 0 ≤ x1 → (fx_in32 x1)) ∧ ((0 : Int) ≤ (if x0 < 0 then (0 : Int) else (if x0 < 32 then ((if x1 < 0 then (0 : Int) else (if x1 < 32 then (1 : Int) else 0)) : Int) else 0)) ∧ (if x0 < 0 then (0 : Int) else (if x0 < 32 then ((if x1 < 0 then (0 : Int) else (if x1 < 32 then (1 : Int) else 0)) : Int) else 0)) ≤ 1) ∧ Q (some (jI (if x0 < 0 then (0 : Int) else (if x0 < 32 then ((if x1 < 0 then (0 : Int) else (if x1 < 32 then (1 : Int) else 0)) : Int) else 0)))) M) : wp kc (d + 1) 210 0 [some (jI x0), some (jI x1)] [] M Q :=
  (x_ildn c210_0 rfl (have K : wp kc (d + 1) 210 25 [none, none] [jI (if x0 < 0 then (0 : Int) else (if x0 < 32 then ((if x1 < 0 then (0 : Int) else (if x1 < 32 then (1 : Int) else 0)) : Int) else 0))] M Q := (x_zrt c210_25 r210 H.2.2.2.2.1 H.2.2.2.2.2); (x_zlt c210_1 H.1 (fun (h1 : x0 < 0) => (x_ci c210_24 (wp_wk (l' := [none, none]) trivial (by have K := K; first | (simp only [if_pos h1] at K ⊢; exact K) | (exfalso; omega))))) (fun (h2 : 0 ≤ x0) => (x_ildn c210_4 rfl (x_ci c210_5 (x_cge c210_7 (H.2.1 h2) (by decide) (fun (h3 : 32 ≤ x0) => (x_ci c210_24 (wp_wk (l' := [none, none]) trivial (by have K := K; first | (simp only [if_neg (Int.not_lt.mpr h2), if_neg (Int.not_lt.mpr h3)] at K ⊢; exact K) | (exfalso; omega))))) (fun (h4 : x0 < 32) => (x_ildn c210_10 rfl (x_zlt c210_11 (H.2.2.1 h2 h4) (fun (h5 : x1 < 0) => (x_ci c210_24 (wp_wk (l' := [none, none]) trivial (by have K := K; first | (simp only [if_neg (Int.not_lt.mpr h2), if_pos h4, if_pos h5] at K ⊢; exact K) | (exfalso; omega))))) (fun (h6 : 0 ≤ x1) => (x_ildn c210_14 rfl (x_ci c210_15 (x_cge c210_17 (H.2.2.2.1 h2 h4 h6) (by decide) (fun (h7 : 32 ≤ x1) => (x_ci c210_24 (wp_wk (l' := [none, none]) trivial (by have K := K; first | (simp only [if_neg (Int.not_lt.mpr h2), if_pos h4, if_neg (Int.not_lt.mpr h6), if_neg (Int.not_lt.mpr h7)] at K ⊢; exact K) | (exfalso; omega))))) (fun (h8 : x1 < 32) => (x_ci c210_20 (x_goto c210_21 (wp_wk (l' := [none, none]) trivial (by have K := K; first | (simp only [if_neg (Int.not_lt.mpr h2), if_pos h4, if_neg (Int.not_lt.mpr h6), if_pos h8] at K ⊢; exact K) | (exfalso; omega))))))))))))))))))))
theorem s210 {kc : List va_E} {d : Nat} {x0 x1 : Int} {M : fx_M} {Q : Option fx_V → fx_M → Prop} (H : ((fx_in32 x0)) ∧ (0 ≤ x0 → (fx_in32 x0)) ∧ (0 ≤ x0 → x0 < 32 → (fx_in32 x1)) ∧ (0 ≤ x0 → x0 < 32 → 0 ≤ x1 → (fx_in32 x1)) ∧ ((0 : Int) ≤ (if x0 < 0 then (0 : Int) else (if x0 < 32 then ((if x1 < 0 then (0 : Int) else (if x1 < 32 then (1 : Int) else 0)) : Int) else 0)) ∧ (if x0 < 0 then (0 : Int) else (if x0 < 32 then ((if x1 < 0 then (0 : Int) else (if x1 < 32 then (1 : Int) else 0)) : Int) else 0)) ≤ 1) ∧ Q (some (jI (if x0 < 0 then (0 : Int) else (if x0 < 32 then ((if x1 < 0 then (0 : Int) else (if x1 < 32 then (1 : Int) else 0)) : Int) else 0)))) M) : wc kc (d + 1) 210 [jI x0, jI x1] M Q :=
  wc_of (wp_wk (l' := [some (jI x0), some (jI x1)]) ⟨rfl, ⟨rfl, trivial⟩⟩ (s210_0 H))

theorem c212_0 : fx_op 212 0 = some (.aload_n 0, 1, 0) := by decide +kernel
theorem c212_1 : fx_gf 212 1 = some (11, 0, 4) := by decide +kernel
theorem c212_4 : fx_op 212 4 = some (.iload_n 1, 5, 4) := by decide +kernel
theorem c212_5 : fx_op 212 5 = some (.aload_n 0, 6, 5) := by decide +kernel
theorem c212_6 : fx_gf 212 6 = some (11, 0, 9) := by decide +kernel
theorem c212_9 : fx_op 212 9 = some (.iload_n 1, 10, 9) := by decide +kernel
theorem c212_11 : fx_op 212 11 = some (.iload_n 2, 12, 11) := by decide +kernel
theorem c212_12 : fx_op 212 12 = some (.ixor, 13, 12) := by decide +kernel
theorem c212_13 : fx_op 212 13 = some (.i2c, 14, 13) := by decide +kernel
theorem c212_15 : fx_op 212 15 = some (.aload_n 0, 16, 15) := by decide +kernel
theorem c212_16 : fx_ci 212 16 = some (0, 17) := by decide +kernel
theorem c212_17 : fx_pf 212 17 = some (11, 1, 2, 20) := by decide +kernel
theorem c212_10 : fx_op 212 10 = some (.caload, 11, 10) := by decide +kernel
theorem c212_14 : fx_op 212 14 = some (.castore, 15, 14) := by decide +kernel
theorem c212_20 : fx_op 212 20 = some (.return_, 21, 20) := by decide +kernel
theorem s212_0 {kc : List va_E} {d : Nat} {x1 x2 : Int} {M : fx_M} {Q : Option fx_V → fx_M → Prop} (H : (((0 : Int) ≤ x1 ∧ x1 < 1024)) ∧ (((0 : Int) ≤ x1 ∧ x1 < 1024) ∧ ((0 : Int) ≤ (fx_xor (M 126 x1) x2) % 65536 ∧ (fx_xor (M 126 x1) x2) % 65536 ≤ 65535)) ∧ Q none (fx_up (fx_up M 126 x1 ((fx_xor (M 126 x1) x2) % 65536)) 125 1 0)) : wp kc (d + 1) 212 0 [some (jR 125), some (jI x1), some (jI x2)] [] M Q :=
  (x_aldn c212_0 rfl (x_gfr c212_1 k_125_0 (x_ildn c212_4 rfl (x_aldn c212_5 rfl (x_gfr c212_6 k_125_0 (x_ildn c212_9 rfl (x_cald c212_10 a_126 H.1 (by decide) (x_ildn c212_11 rfl (x_ixor c212_12 (x_i2c c212_13 (x_cast c212_14 a_126 H.2.1.1 (by decide) H.2.1.2 (x_aldn c212_15 rfl (x_ci c212_16 (x_pfz c212_17 k_125_1 (by decide) (x_vr c212_20 r212 H.2.2)))))))))))))))
theorem s212 {kc : List va_E} {d : Nat} {x1 x2 : Int} {M : fx_M} {Q : Option fx_V → fx_M → Prop} (H : (((0 : Int) ≤ x1 ∧ x1 < 1024)) ∧ (((0 : Int) ≤ x1 ∧ x1 < 1024) ∧ ((0 : Int) ≤ (fx_xor (M 126 x1) x2) % 65536 ∧ (fx_xor (M 126 x1) x2) % 65536 ≤ 65535)) ∧ Q none (fx_up (fx_up M 126 x1 ((fx_xor (M 126 x1) x2) % 65536)) 125 1 0)) : wc kc (d + 1) 212 [jR 125, jI x1, jI x2] M Q :=
  wc_of (wp_wk (l' := [some (jR 125), some (jI x1), some (jI x2)]) ⟨rfl, ⟨rfl, ⟨rfl, trivial⟩⟩⟩ (s212_0 H))

theorem c14_0 : fx_op 14 0 = some (.aload_n 0, 1, 0) := by decide +kernel
theorem c14_1 : fx_gf 14 1 = some (0, 1, 4) := by decide +kernel
theorem c14_4 : fx_ci 14 4 = some (20, 6) := by decide +kernel
theorem c14_6 : fx_op 14 6 = some (.iadd, 7, 6) := by decide +kernel
theorem c14_7 : fx_ci 14 7 = some (3200, 10) := by decide +kernel
theorem c14_10 : fx_op 14 10 = some (.if_icmp .le 5, 13, 15) := by decide +kernel
theorem c14_15 : fx_op 14 15 = some (.aload_n 0, 16, 15) := by decide +kernel
theorem c14_16 : fx_op 14 16 = some (.iload_n 1, 17, 16) := by decide +kernel
theorem c14_13 : fx_ci 14 13 = some ((-1), 14) := by decide +kernel
theorem c14_17 : fx_ca 14 17 = some (15, 2, 2, 20) := by decide +kernel
theorem c14_14 : fx_op 14 14 = some (.ireturn, 15, 14) := by decide +kernel
theorem c14_20 : fx_op 14 20 = some (.aload_n 0, 21, 20) := by decide +kernel
theorem c14_21 : fx_op 14 21 = some (.iload_n 2, 22, 21) := by decide +kernel
theorem c14_22 : fx_ca 14 22 = some (15, 2, 2, 25) := by decide +kernel
theorem c14_25 : fx_op 14 25 = some (.aload_n 0, 26, 25) := by decide +kernel
theorem c14_26 : fx_op 14 26 = some (.iload_n 3, 27, 26) := by decide +kernel
theorem c14_27 : fx_ca 14 27 = some (15, 2, 2, 30) := by decide +kernel
theorem c14_30 : fx_op 14 30 = some (.aload_n 0, 31, 30) := by decide +kernel
theorem c14_31 : fx_op 14 31 = some (.iload 4, 33, 31) := by decide +kernel
theorem c14_33 : fx_ca 14 33 = some (15, 2, 2, 36) := by decide +kernel
theorem c14_36 : fx_op 14 36 = some (.aload_n 0, 37, 36) := by decide +kernel
theorem c14_37 : fx_op 14 37 = some (.iload 5, 39, 37) := by decide +kernel
theorem c14_39 : fx_ca 14 39 = some (15, 2, 2, 42) := by decide +kernel
theorem c14_42 : fx_op 14 42 = some (.aload_n 0, 43, 42) := by decide +kernel
theorem c14_43 : fx_gf 14 43 = some (0, 1, 46) := by decide +kernel
theorem c14_46 : fx_op 14 46 = some (.ireturn, 47, 46) := by decide +kernel
theorem s14_0 {kc : List va_E} {d : Nat} {x1 x2 x3 x4 x5 : Int} {M : fx_M} {Q : Option fx_V → fx_M → Prop} (H : ((fx_in32 ((M 0 1) + 20))) ∧ ((M 0 1) + 20 ≤ 3200 → wc kc d 15 [jR 0, jI x1] M (fun v M1 => wp kc (d + 1) 14 20 [some (jR 0), none, some (jI x2), some (jI x3), some (jI x4), some (jI x5)] (v.toList ++ []) M1 Q)) ∧ (3200 < (M 0 1) + 20 → Q (some (jI (-1))) M)) : wp kc (d + 1) 14 0 [some (jR 0), some (jI x1), some (jI x2), some (jI x3), some (jI x4), some (jI x5)] [] M Q :=
  (x_aldn c14_0 rfl (x_gfi c14_1 k_0_1 (x_ci c14_4 (x_iadd c14_6 (x_ci c14_7 (x_cle c14_10 H.1 (by decide) (fun h1 => (x_aldn c14_15 rfl (x_ildn c14_16 rfl (wp_wk (l' := [some (jR 0), none, some (jI x2), some (jI x3), some (jI x4), some (jI x5)]) ⟨rfl, ⟨rfl, ⟨rfl, ⟨rfl, ⟨rfl, trivial⟩⟩⟩⟩⟩ (x_cv (As := [jI x1]) (st := []) c14_17 cl_0 kl15 rfl (Nat.le_of_ble_eq_true rfl) mx15 (Nat.le_refl _) (H.2.1 h1)))))) (fun h2 => (x_ci c14_13 (x_irt c14_14 r14 (H.2.2 h2))))))))))
theorem s14_20 {kc : List va_E} {d : Nat} {v2 v3 v4 v5 : Int} {M : fx_M} {Q : Option fx_V → fx_M → Prop} (H : wc kc d 15 [jR 0, jI v2] M (fun v M1 => wp kc (d + 1) 14 25 [some (jR 0), none, none, some (jI v3), some (jI v4), some (jI v5)] (v.toList ++ []) M1 Q)) : wp kc (d + 1) 14 20 [some (jR 0), none, some (jI v2), some (jI v3), some (jI v4), some (jI v5)] [] M Q :=
  (x_aldn c14_20 rfl (x_ildn c14_21 rfl (wp_wk (l' := [some (jR 0), none, none, some (jI v3), some (jI v4), some (jI v5)]) ⟨rfl, ⟨rfl, ⟨rfl, ⟨rfl, trivial⟩⟩⟩⟩ (x_cv (As := [jI v2]) (st := []) c14_22 cl_0 kl15 rfl (Nat.le_of_ble_eq_true rfl) mx15 (Nat.le_refl _) H))))
theorem s14_25 {kc : List va_E} {d : Nat} {v3 v4 v5 : Int} {M : fx_M} {Q : Option fx_V → fx_M → Prop} (H : wc kc d 15 [jR 0, jI v3] M (fun v M1 => wp kc (d + 1) 14 30 [some (jR 0), none, none, none, some (jI v4), some (jI v5)] (v.toList ++ []) M1 Q)) : wp kc (d + 1) 14 25 [some (jR 0), none, none, some (jI v3), some (jI v4), some (jI v5)] [] M Q :=
  (x_aldn c14_25 rfl (x_ildn c14_26 rfl (wp_wk (l' := [some (jR 0), none, none, none, some (jI v4), some (jI v5)]) ⟨rfl, ⟨rfl, ⟨rfl, trivial⟩⟩⟩ (x_cv (As := [jI v3]) (st := []) c14_27 cl_0 kl15 rfl (Nat.le_of_ble_eq_true rfl) mx15 (Nat.le_refl _) H))))
theorem s14_30 {kc : List va_E} {d : Nat} {v4 v5 : Int} {M : fx_M} {Q : Option fx_V → fx_M → Prop} (H : wc kc d 15 [jR 0, jI v4] M (fun v M1 => wp kc (d + 1) 14 36 [some (jR 0), none, none, none, none, some (jI v5)] (v.toList ++ []) M1 Q)) : wp kc (d + 1) 14 30 [some (jR 0), none, none, none, some (jI v4), some (jI v5)] [] M Q :=
  (x_aldn c14_30 rfl (x_ild c14_31 rfl (wp_wk (l' := [some (jR 0), none, none, none, none, some (jI v5)]) ⟨rfl, ⟨rfl, trivial⟩⟩ (x_cv (As := [jI v4]) (st := []) c14_33 cl_0 kl15 rfl (Nat.le_of_ble_eq_true rfl) mx15 (Nat.le_refl _) H))))
theorem s14_36 {kc : List va_E} {d : Nat} {v5 : Int} {M : fx_M} {Q : Option fx_V → fx_M → Prop} (H : wc kc d 15 [jR 0, jI v5] M (fun v M1 => wp kc (d + 1) 14 42 [some (jR 0), none, none, none, none, none] (v.toList ++ []) M1 Q)) : wp kc (d + 1) 14 36 [some (jR 0), none, none, none, none, some (jI v5)] [] M Q :=
  (x_aldn c14_36 rfl (x_ild c14_37 rfl (wp_wk (l' := [some (jR 0), none, none, none, none, none]) ⟨rfl, trivial⟩ (x_cv (As := [jI v5]) (st := []) c14_39 cl_0 kl15 rfl (Nat.le_of_ble_eq_true rfl) mx15 (Nat.le_refl _) H))))
theorem s14_42 {kc : List va_E} {d : Nat} {M : fx_M} {Q : Option fx_V → fx_M → Prop} (H : Q (some (jI (M 0 1))) M) : wp kc (d + 1) 14 42 [some (jR 0), none, none, none, none, none] [] M Q :=
  (x_aldn c14_42 rfl (x_gfi c14_43 k_0_1 (x_irt c14_46 r14 H)))
theorem s14 {kc : List va_E} {d : Nat} {x1 x2 x3 x4 x5 : Int} {M : fx_M} {Q : Option fx_V → fx_M → Prop} (H : ((fx_in32 ((M 0 1) + 20))) ∧ ((M 0 1) + 20 ≤ 3200 → wc kc d 15 [jR 0, jI x1] M (fun v M1 => wp kc (d + 1) 14 20 [some (jR 0), none, some (jI x2), some (jI x3), some (jI x4), some (jI x5)] (v.toList ++ []) M1 Q)) ∧ (3200 < (M 0 1) + 20 → Q (some (jI (-1))) M)) : wc kc (d + 1) 14 [jR 0, jI x1, jI x2, jI x3, jI x4, jI x5] M Q :=
  wc_of (wp_wk (l' := [some (jR 0), some (jI x1), some (jI x2), some (jI x3), some (jI x4), some (jI x5)]) ⟨rfl, ⟨rfl, ⟨rfl, ⟨rfl, ⟨rfl, ⟨rfl, trivial⟩⟩⟩⟩⟩⟩ (s14_0 H))

theorem c15_0 : fx_ci 15 0 = some (24, 2) := by decide +kernel
theorem c15_2 : fx_op 15 2 = some (.istore_n 2, 3, 2) := by decide +kernel
theorem c15_3 : fx_op 15 3 = some (.iload_n 2, 4, 3) := by decide +kernel
theorem c15_4 : fx_op 15 4 = some (.ifCond .lt 36, 7, 40) := by decide +kernel
theorem c15_7 : fx_op 15 7 = some (.aload_n 0, 8, 7) := by decide +kernel
theorem c15_8 : fx_gf 15 8 = some (0, 0, 11) := by decide +kernel
theorem c15_11 : fx_op 15 11 = some (.aload_n 0, 12, 11) := by decide +kernel
theorem c15_12 : fx_gf 15 12 = some (0, 1, 15) := by decide +kernel
theorem c15_15 : fx_op 15 15 = some (.iload_n 1, 16, 15) := by decide +kernel
theorem c15_16 : fx_op 15 16 = some (.iload_n 2, 17, 16) := by decide +kernel
theorem c15_17 : fx_op 15 17 = some (.iushr, 18, 17) := by decide +kernel
theorem c15_18 : fx_ci 15 18 = some (255, 21) := by decide +kernel
theorem c15_21 : fx_op 15 21 = some (.iand, 22, 21) := by decide +kernel
theorem c15_22 : fx_op 15 22 = some (.i2c, 23, 22) := by decide +kernel
theorem c15_24 : fx_op 15 24 = some (.aload_n 0, 25, 24) := by decide +kernel
theorem c15_25 : fx_op 15 25 = some (.dup, 26, 25) := by decide +kernel
theorem c15_26 : fx_gf 15 26 = some (0, 1, 29) := by decide +kernel
theorem c15_29 : fx_ci 15 29 = some (1, 30) := by decide +kernel
theorem c15_30 : fx_op 15 30 = some (.iadd, 31, 30) := by decide +kernel
theorem c15_31 : fx_pf 15 31 = some (0, 1, 0, 34) := by decide +kernel
theorem c15_34 : fx_op 15 34 = some (.iinc 2 (-8), 37, 34) := by decide +kernel
theorem c15_40 : fx_op 15 40 = some (.return_, 41, 40) := by decide +kernel
theorem c15_23 : fx_op 15 23 = some (.castore, 24, 23) := by decide +kernel
theorem c15_37 : fx_op 15 37 = some (.goto (-34), 40, 3) := by decide +kernel
theorem s15_0 {kc : List va_E} {d : Nat} {x1 : Int} {M : fx_M} {Q : Option fx_V → fx_M → Prop} (H : wp kc (d + 1) 15 3 [some (jR 0), some (jI x1), some (jI 24)] [] M Q) : wp kc (d + 1) 15 0 [some (jR 0), some (jI x1), none] [] M Q :=
  (x_ci c15_0 (x_istn (l' := [some (jR 0), some (jI x1), some (jI 24)]) c15_2 rfl (wp_wk (l' := [some (jR 0), some (jI x1), some (jI 24)]) ⟨rfl, ⟨rfl, ⟨rfl, trivial⟩⟩⟩ H)))
theorem s15_3 {kc : List va_E} {d : Nat} {v1 v2 : Int} {M : fx_M} {Q : Option fx_V → fx_M → Prop} (H : ((fx_in32 v2)) ∧ (v2 < 0 → Q none M) ∧ (0 ≤ v2 → (((0 : Int) ≤ M 0 1 ∧ M 0 1 < 3200) ∧ ((0 : Int) ≤ (fx_and (fx_ushr v1 v2) 255) % 65536 ∧ (fx_and (fx_ushr v1 v2) 255) % 65536 ≤ 65535)) ∧ wp kc (d + 1) 15 3 [some (jR 0), some (jI v1), some (jI (v2 + (-8)))] [] (fx_up (fx_up M 1 (M 0 1) ((fx_and (fx_ushr v1 v2) 255) % 65536)) 0 1 ((M 0 1) + 1)) Q)) : wp kc (d + 1) 15 3 [some (jR 0), some (jI v1), some (jI v2)] [] M Q :=
  (x_ildn c15_3 rfl (x_zlt c15_4 H.1 (fun h1 => (x_vr c15_40 r15 (H.2.1 h1))) (fun h2 => (x_aldn c15_7 rfl (x_gfr c15_8 k_0_0 (x_aldn c15_11 rfl (x_gfi c15_12 k_0_1 (x_ildn c15_15 rfl (x_ildn c15_16 rfl (x_iushr c15_17 (x_ci c15_18 (x_iand c15_21 (x_i2c c15_22 (x_cast c15_23 a_1 (H.2.2 h2).1.1 (by decide) (H.2.2 h2).1.2 (x_aldn c15_24 rfl (x_dupr c15_25 (x_gfi c15_26 k_0_1 (wp_vI (fx_upA (by decide)) (x_ci c15_29 (x_iadd c15_30 (x_pfi c15_31 k_0_1 (x_inc (l' := [some (jR 0), some (jI v1), some (jI (v2 + (-8)))]) c15_34 rfl rfl (x_goto c15_37 (wp_wk (l' := [some (jR 0), some (jI v1), some (jI (v2 + (-8)))]) ⟨rfl, ⟨rfl, ⟨rfl, trivial⟩⟩⟩ (H.2.2 h2).2))))))))))))))))))))))))
theorem s15 {kc : List va_E} {d : Nat} {x1 : Int} {M : fx_M} {Q : Option fx_V → fx_M → Prop} (H : wp kc (d + 1) 15 3 [some (jR 0), some (jI x1), some (jI 24)] [] M Q) : wc kc (d + 1) 15 [jR 0, jI x1] M Q :=
  wc_of (wp_wk (l' := [some (jR 0), some (jI x1), none]) ⟨rfl, ⟨rfl, trivial⟩⟩ (s15_0 H))

theorem c16_0 : fx_op 16 0 = some (.iload_n 1, 1, 0) := by decide +kernel
theorem c16_1 : fx_op 16 1 = some (.ifCond .lt 11, 4, 12) := by decide +kernel
theorem c16_12 : fx_ci 16 12 = some ((-1), 13) := by decide +kernel
theorem c16_4 : fx_op 16 4 = some (.iload_n 1, 5, 4) := by decide +kernel
theorem c16_5 : fx_op 16 5 = some (.aload_n 0, 6, 5) := by decide +kernel
theorem c16_6 : fx_gf 16 6 = some (0, 1, 9) := by decide +kernel
theorem c16_9 : fx_op 16 9 = some (.if_icmp .le 5, 12, 14) := by decide +kernel
theorem c16_14 : fx_op 16 14 = some (.aload_n 0, 15, 14) := by decide +kernel
theorem c16_15 : fx_gf 16 15 = some (0, 0, 18) := by decide +kernel
theorem c16_18 : fx_ci 16 18 = some (0, 19) := by decide +kernel
theorem c16_19 : fx_op 16 19 = some (.aload_n 0, 20, 19) := by decide +kernel
theorem c16_20 : fx_gf 16 20 = some (0, 2, 23) := by decide +kernel
theorem c16_23 : fx_ci 16 23 = some (0, 24) := by decide +kernel
theorem c16_24 : fx_op 16 24 = some (.iload_n 1, 25, 24) := by decide +kernel
theorem c16_28 : fx_op 16 28 = some (.aload_n 0, 29, 28) := by decide +kernel
theorem c16_29 : fx_ci 16 29 = some (0, 30) := by decide +kernel
theorem c16_30 : fx_pf 16 30 = some (0, 1, 0, 33) := by decide +kernel
theorem c16_33 : fx_op 16 33 = some (.aload_n 0, 34, 33) := by decide +kernel
theorem c16_34 : fx_op 16 34 = some (.iload_n 1, 35, 34) := by decide +kernel
theorem c16_13 : fx_op 16 13 = some (.ireturn, 14, 13) := by decide +kernel
theorem c16_25 : fx_nt 16 25 = some (0, 28) := by decide +kernel
theorem c16_35 : fx_ca 16 35 = some (17, 2, 2, 38) := by decide +kernel
theorem c16_38 : fx_op 16 38 = some (.aload_n 0, 39, 38) := by decide +kernel
theorem c16_39 : fx_gf 16 39 = some (0, 3, 42) := by decide +kernel
theorem c16_42 : fx_gf 16 42 = some (1, 1, 45) := by decide +kernel
theorem c16_45 : fx_op 16 45 = some (.ireturn, 46, 45) := by decide +kernel
theorem n16_25 : xS 16 ((xI 16 25).getD .nop) = none := by decide +kernel
theorem s16_0 {kc : List va_E} {d : Nat} {x1 : Int} {M : fx_M} {Q : Option fx_V → fx_M → Prop} (H : ((fx_in32 x1)) ∧ (x1 < 0 → Q (some (jI (-1))) M) ∧ (0 ≤ x1 → ((fx_in32 x1) ∧ (fx_in32 (M 0 1))) ∧ (x1 ≤ M 0 1 → (((0 : Int) ≤ x1 ∧ (0 : Int) ≤ 0 ∧ (0 : Int) ≤ 0 ∧ (0 : Int) + x1 ≤ 3200 ∧ (0 : Int) + x1 ≤ 5606)) ∧ wc kc d 17 [jR 0, jI x1] (fx_up (fx_cpy M 1 0 2 0 x1) 0 1 0) (fun v M1 => wp kc (d + 1) 16 38 [some (jR 0), none] (v.toList ++ []) M1 Q)) ∧ (M 0 1 < x1 → Q (some (jI (-1))) M))) : wp kc (d + 1) 16 0 [some (jR 0), some (jI x1)] [] M Q :=
  (x_ildn c16_0 rfl (x_zlt c16_1 H.1 (fun h3 => (x_ci c16_12 (x_irt c16_13 r16 (H.2.1 h3)))) (fun h4 => (x_ildn c16_4 rfl (x_aldn c16_5 rfl (x_gfi c16_6 k_0_1 (x_cle c16_9 (H.2.2 h4).1.1 (H.2.2 h4).1.2 (fun h1 => (x_aldn c16_14 rfl (x_gfr c16_15 k_0_0 (x_ci c16_18 (x_aldn c16_19 rfl (x_gfr c16_20 k_0_2 (x_ci c16_23 (x_ildn c16_24 rfl (x_cpy c16_25 n16_25 a_1 a_2 (by decide) ((H.2.2 h4).2.1 h1).1 ⟨(by decide), (by decide)⟩ (Nat.le_of_ble_eq_true rfl) (x_aldn c16_28 rfl (x_ci c16_29 (x_pfi c16_30 k_0_1 (x_aldn c16_33 rfl (x_ildn c16_34 rfl (wp_wk (l' := [some (jR 0), none]) ⟨rfl, trivial⟩ (x_cv (As := [jI x1]) (st := []) c16_35 cl_0 kl17 rfl (Nat.le_of_ble_eq_true rfl) mx17 (Nat.le_refl _) ((H.2.2 h4).2.1 h1).2)))))))))))))))) (fun h2 => (x_ci c16_12 (x_irt c16_13 r16 ((H.2.2 h4).2.2 h2)))))))))))
theorem s16_38 {kc : List va_E} {d : Nat} {M : fx_M} {Q : Option fx_V → fx_M → Prop} (H : Q (some (jI (M 3 1))) M) : wp kc (d + 1) 16 38 [some (jR 0), none] [] M Q :=
  (x_aldn c16_38 rfl (x_gfr c16_39 k_0_3 (x_gfi c16_42 k_3_1 (x_irt c16_45 r16 H))))
theorem s16 {kc : List va_E} {d : Nat} {x1 : Int} {M : fx_M} {Q : Option fx_V → fx_M → Prop} (H : ((fx_in32 x1)) ∧ (x1 < 0 → Q (some (jI (-1))) M) ∧ (0 ≤ x1 → ((fx_in32 x1) ∧ (fx_in32 (M 0 1))) ∧ (x1 ≤ M 0 1 → (((0 : Int) ≤ x1 ∧ (0 : Int) ≤ 0 ∧ (0 : Int) ≤ 0 ∧ (0 : Int) + x1 ≤ 3200 ∧ (0 : Int) + x1 ≤ 5606)) ∧ wc kc d 17 [jR 0, jI x1] (fx_up (fx_cpy M 1 0 2 0 x1) 0 1 0) (fun v M1 => wp kc (d + 1) 16 38 [some (jR 0), none] (v.toList ++ []) M1 Q)) ∧ (M 0 1 < x1 → Q (some (jI (-1))) M))) : wc kc (d + 1) 16 [jR 0, jI x1] M Q :=
  wc_of (wp_wk (l' := [some (jR 0), some (jI x1)]) ⟨rfl, ⟨rfl, trivial⟩⟩ (s16_0 H))

theorem c17_0 : fx_op 17 0 = some (.aload_n 0, 1, 0) := by decide +kernel
theorem c17_1 : fx_gf 17 1 = some (0, 5, 4) := by decide +kernel
theorem c17_4 : fx_op 17 4 = some (.aload_n 0, 5, 4) := by decide +kernel
theorem c17_5 : fx_gf 17 5 = some (0, 2, 8) := by decide +kernel
theorem c17_8 : fx_ci 17 8 = some (0, 9) := by decide +kernel
theorem c17_9 : fx_op 17 9 = some (.iload_n 1, 10, 9) := by decide +kernel
theorem c17_10 : fx_ca 17 10 = some (18, 4, 2, 13) := by decide +kernel
theorem c17_13 : fx_op 17 13 = some (.aload_n 0, 14, 13) := by decide +kernel
theorem c17_14 : fx_gf 17 14 = some (0, 5, 17) := by decide +kernel
theorem c17_17 : fx_cr 17 17 = some (1000003, 19) := by decide +kernel
theorem c17_19 : fx_ca 17 19 = some (20, 2, 2, 22) := by decide +kernel
theorem c17_22 : fx_op 17 22 = some (.istore_n 2, 23, 22) := by decide +kernel
theorem c17_23 : fx_op 17 23 = some (.aload_n 0, 24, 23) := by decide +kernel
theorem c17_24 : fx_op 17 24 = some (.iload_n 2, 25, 24) := by decide +kernel
theorem c17_25 : fx_ca 17 25 = some (32, 2, 2, 28) := by decide +kernel
theorem c17_28 : fx_op 17 28 = some (.aload_n 0, 29, 28) := by decide +kernel
theorem c17_29 : fx_gf 17 29 = some (0, 3, 32) := by decide +kernel
theorem c17_32 : fx_ca 17 32 = some (63, 1, 2, 35) := by decide +kernel
theorem c17_35 : fx_op 17 35 = some (.aload_n 0, 36, 35) := by decide +kernel
theorem c17_36 : fx_gf 17 36 = some (0, 5, 39) := by decide +kernel
theorem c17_39 : fx_gf 17 39 = some (2, 3, 42) := by decide +kernel
theorem c17_42 : fx_op 17 42 = some (.ifCond .ne 14, 45, 56) := by decide +kernel
theorem c17_56 : fx_op 17 56 = some (.aload_n 0, 57, 56) := by decide +kernel
theorem c17_57 : fx_gf 17 57 = some (0, 3, 60) := by decide +kernel
theorem c17_60 : fx_cr 17 60 = some (1000031, 62) := by decide +kernel
theorem c17_45 : fx_op 17 45 = some (.aload_n 0, 46, 45) := by decide +kernel
theorem c17_46 : fx_gf 17 46 = some (0, 5, 49) := by decide +kernel
theorem c17_49 : fx_gf 17 49 = some (2, 1, 52) := by decide +kernel
theorem c17_52 : fx_op 17 52 = some (.iload_n 1, 53, 52) := by decide +kernel
theorem c17_53 : fx_op 17 53 = some (.if_icmp .ge 29, 56, 82) := by decide +kernel
theorem c17_82 : fx_op 17 82 = some (.iload_n 2, 83, 82) := by decide +kernel
theorem c17_83 : fx_ci 17 83 = some (6, 85) := by decide +kernel
theorem c17_85 : fx_op 17 85 = some (.if_icmp .gt 11, 88, 96) := by decide +kernel
theorem c17_96 : fx_op 17 96 = some (.iload_n 2, 97, 96) := by decide +kernel
theorem c17_97 : fx_ci 17 97 = some (13, 99) := by decide +kernel
theorem c17_99 : fx_op 17 99 = some (.if_icmp .gt 11, 102, 110) := by decide +kernel
theorem c17_110 : fx_op 17 110 = some (.iload_n 2, 111, 110) := by decide +kernel
theorem c17_111 : fx_ci 17 111 = some (20, 113) := by decide +kernel
theorem c17_113 : fx_op 17 113 = some (.if_icmp .gt 11, 116, 124) := by decide +kernel
theorem c17_124 : fx_op 17 124 = some (.iload_n 2, 125, 124) := by decide +kernel
theorem c17_125 : fx_ci 17 125 = some (24, 127) := by decide +kernel
theorem c17_127 : fx_op 17 127 = some (.if_icmp .gt 11, 130, 138) := by decide +kernel
theorem c17_138 : fx_op 17 138 = some (.iload_n 2, 139, 138) := by decide +kernel
theorem c17_139 : fx_ci 17 139 = some (31, 141) := by decide +kernel
theorem c17_141 : fx_op 17 141 = some (.if_icmp .gt 11, 144, 152) := by decide +kernel
theorem c17_152 : fx_op 17 152 = some (.iload_n 2, 153, 152) := by decide +kernel
theorem c17_153 : fx_ci 17 153 = some (35, 155) := by decide +kernel
theorem c17_155 : fx_op 17 155 = some (.if_icmp .gt 11, 158, 166) := by decide +kernel
theorem c17_166 : fx_op 17 166 = some (.aload_n 0, 167, 166) := by decide +kernel
theorem c17_167 : fx_gf 17 167 = some (0, 16, 170) := by decide +kernel
theorem c17_170 : fx_gf 17 170 = some (11, 1, 173) := by decide +kernel
theorem c17_173 : fx_op 17 173 = some (.ifCond .ne 15, 176, 188) := by decide +kernel
theorem c17_188 : fx_op 17 188 = some (.aload_n 0, 189, 188) := by decide +kernel
theorem c17_189 : fx_op 17 189 = some (.iload_n 2, 190, 189) := by decide +kernel
theorem c17_176 : fx_op 17 176 = some (.iload_n 2, 177, 176) := by decide +kernel
theorem c17_177 : fx_ci 17 177 = some (40, 179) := by decide +kernel
theorem c17_179 : fx_op 17 179 = some (.if_icmp .eq 9, 182, 188) := by decide +kernel
theorem c17_182 : fx_op 17 182 = some (.iload_n 2, 183, 182) := by decide +kernel
theorem c17_183 : fx_ci 17 183 = some (41, 185) := by decide +kernel
theorem c17_185 : fx_op 17 185 = some (.if_icmp .ne 11, 188, 196) := by decide +kernel
theorem c17_196 : fx_op 17 196 = some (.aload_n 0, 197, 196) := by decide +kernel
theorem c17_197 : fx_gf 17 197 = some (0, 3, 200) := by decide +kernel
theorem c17_200 : fx_cr 17 200 = some (1000147, 202) := by decide +kernel
theorem c17_158 : fx_op 17 158 = some (.aload_n 0, 159, 158) := by decide +kernel
theorem c17_159 : fx_op 17 159 = some (.iload_n 2, 160, 159) := by decide +kernel
theorem c17_144 : fx_op 17 144 = some (.aload_n 0, 145, 144) := by decide +kernel
theorem c17_145 : fx_op 17 145 = some (.iload_n 2, 146, 145) := by decide +kernel
theorem c17_130 : fx_op 17 130 = some (.aload_n 0, 131, 130) := by decide +kernel
theorem c17_131 : fx_op 17 131 = some (.iload_n 2, 132, 131) := by decide +kernel
theorem c17_116 : fx_op 17 116 = some (.aload_n 0, 117, 116) := by decide +kernel
theorem c17_117 : fx_op 17 117 = some (.iload_n 2, 118, 117) := by decide +kernel
theorem c17_102 : fx_op 17 102 = some (.aload_n 0, 103, 102) := by decide +kernel
theorem c17_103 : fx_op 17 103 = some (.iload_n 2, 104, 103) := by decide +kernel
theorem c17_88 : fx_op 17 88 = some (.aload_n 0, 89, 88) := by decide +kernel
theorem c17_89 : fx_op 17 89 = some (.iload_n 2, 90, 89) := by decide +kernel
theorem c17_62 : fx_ca 17 62 = some (64, 2, 2, 65) := by decide +kernel
theorem c17_190 : fx_ca 17 190 = some (190, 2, 2, 193) := by decide +kernel
theorem c17_202 : fx_ca 17 202 = some (64, 2, 2, 205) := by decide +kernel
theorem c17_160 : fx_ca 17 160 = some (176, 2, 2, 163) := by decide +kernel
theorem c17_146 : fx_ca 17 146 = some (167, 2, 2, 149) := by decide +kernel
theorem c17_132 : fx_ca 17 132 = some (145, 2, 2, 135) := by decide +kernel
theorem c17_118 : fx_ca 17 118 = some (103, 2, 2, 121) := by decide +kernel
theorem c17_104 : fx_ca 17 104 = some (74, 2, 2, 107) := by decide +kernel
theorem c17_90 : fx_ca 17 90 = some (66, 2, 2, 93) := by decide +kernel
theorem c17_65 : fx_op 17 65 = some (.aload_n 0, 66, 65) := by decide +kernel
theorem c17_66 : fx_gf 17 66 = some (0, 3, 69) := by decide +kernel
theorem c17_69 : fx_op 17 69 = some (.aload_n 0, 70, 69) := by decide +kernel
theorem c17_70 : fx_gf 17 70 = some (0, 5, 73) := by decide +kernel
theorem c17_73 : fx_gf 17 73 = some (2, 1, 76) := by decide +kernel
theorem c17_76 : fx_ca 17 76 = some (65, 2, 2, 79) := by decide +kernel
theorem c17_193 : fx_op 17 193 = some (.goto 12, 196, 205) := by decide +kernel
theorem c17_205 : fx_op 17 205 = some (.return_, 206, 205) := by decide +kernel
theorem c17_163 : fx_op 17 163 = some (.goto 42, 166, 205) := by decide +kernel
theorem c17_149 : fx_op 17 149 = some (.goto 56, 152, 205) := by decide +kernel
theorem c17_135 : fx_op 17 135 = some (.goto 70, 138, 205) := by decide +kernel
theorem c17_121 : fx_op 17 121 = some (.goto 84, 124, 205) := by decide +kernel
theorem c17_107 : fx_op 17 107 = some (.goto 98, 110, 205) := by decide +kernel
theorem c17_93 : fx_op 17 93 = some (.goto 112, 96, 205) := by decide +kernel
theorem c17_79 : fx_op 17 79 = some (.goto 126, 82, 205) := by decide +kernel
theorem s17_0 {kc : List va_E} {d : Nat} {x1 : Int} {M : fx_M} {Q : Option fx_V → fx_M → Prop} (H : wc kc d 18 [jR 7, jR 2, jI 0, jI x1] M (fun v M1 => wp kc (d + 1) 17 13 [some (jR 0), some (jI x1), none] (v.toList ++ []) M1 Q)) : wp kc (d + 1) 17 0 [some (jR 0), some (jI x1), none] [] M Q :=
  (x_aldn c17_0 rfl (x_gfr c17_1 k_0_5 (x_aldn c17_4 rfl (x_gfr c17_5 k_0_2 (x_ci c17_8 (x_ildn c17_9 rfl (wp_wk (l' := [some (jR 0), some (jI x1), none]) ⟨rfl, ⟨rfl, trivial⟩⟩ (x_cv (As := [jR 2, jI 0, jI x1]) (st := []) c17_10 cl_7 kl18 rfl (Nat.le_of_ble_eq_true rfl) mx18 (Nat.le_refl _) H))))))))
theorem s17_13 {kc : List va_E} {d : Nat} {v1 : Int} {M : fx_M} {Q : Option fx_V → fx_M → Prop} (H : wc kc d 20 [jR 7, jR 1000003] M (fun v M1 => wp kc (d + 1) 17 22 [some (jR 0), some (jI v1), none] (v.toList ++ []) M1 Q)) : wp kc (d + 1) 17 13 [some (jR 0), some (jI v1), none] [] M Q :=
  (x_aldn c17_13 rfl (x_gfr c17_14 k_0_5 (x_cr c17_17 (wp_wk (l' := [some (jR 0), some (jI v1), none]) ⟨rfl, ⟨rfl, trivial⟩⟩ (x_cv (As := [jR 1000003]) (st := []) c17_19 cl_7 kl20 rfl (Nat.le_of_ble_eq_true rfl) mx20 (Nat.le_refl _) H)))))
theorem s17_22 {kc : List va_E} {d : Nat} {v1 u0 : Int} {M : fx_M} {Q : Option fx_V → fx_M → Prop} (H : wc kc d 32 [jR 0, jI u0] M (fun v M1 => wp kc (d + 1) 17 28 [some (jR 0), some (jI v1), some (jI u0)] (v.toList ++ []) M1 Q)) : wp kc (d + 1) 17 22 [some (jR 0), some (jI v1), none] [jI u0] M Q :=
  (x_istn (l' := [some (jR 0), some (jI v1), some (jI u0)]) c17_22 rfl (x_aldn c17_23 rfl (x_ildn c17_24 rfl (wp_wk (l' := [some (jR 0), some (jI v1), some (jI u0)]) ⟨rfl, ⟨rfl, ⟨rfl, trivial⟩⟩⟩ (x_cv (As := [jI u0]) (st := []) c17_25 cl_0 kl32 rfl (Nat.le_of_ble_eq_true rfl) mx32 (Nat.le_refl _) H)))))
theorem s17_28 {kc : List va_E} {d : Nat} {v1 v2 : Int} {M : fx_M} {Q : Option fx_V → fx_M → Prop} (H : wc kc d 63 [jR 3] M (fun v M1 => wp kc (d + 1) 17 35 [some (jR 0), some (jI v1), some (jI v2)] (v.toList ++ []) M1 Q)) : wp kc (d + 1) 17 28 [some (jR 0), some (jI v1), some (jI v2)] [] M Q :=
  (x_aldn c17_28 rfl (x_gfr c17_29 k_0_3 (wp_wk (l' := [some (jR 0), some (jI v1), some (jI v2)]) ⟨rfl, ⟨rfl, ⟨rfl, trivial⟩⟩⟩ (x_cv (As := []) (st := []) c17_32 cl_3 kl63 rfl (Nat.le_of_ble_eq_true rfl) mx63 (Nat.le_refl _) H))))
theorem s17_35 {kc : List va_E} {d : Nat} {v1 v2 : Int} {M : fx_M} {Q : Option fx_V → fx_M → Prop} (H : ((fx_in32 (M 7 3))) ∧ (M 7 3 ≠ 0 → wc kc d 64 [jR 3, jR 1000031] M (fun v M1 => wp kc (d + 1) 17 65 [some (jR 0), none, none] (v.toList ++ []) M1 Q)) ∧ (M 7 3 = 0 → ((fx_in32 (M 7 1)) ∧ (fx_in32 v1)) ∧ (v1 ≤ M 7 1 → ((fx_in32 v2)) ∧ (6 < v2 → ((fx_in32 v2)) ∧ (13 < v2 → ((fx_in32 v2)) ∧ (20 < v2 → ((fx_in32 v2)) ∧ (24 < v2 → ((fx_in32 v2)) ∧ (31 < v2 → ((fx_in32 v2)) ∧ (35 < v2 → ((fx_in32 (M 125 1))) ∧ (M 125 1 ≠ 0 → wc kc d 190 [jR 0, jI v2] M (fun v M1 => wp kc (d + 1) 17 193 [none, none, none] (v.toList ++ []) M1 Q)) ∧ (M 125 1 = 0 → ((fx_in32 v2)) ∧ (v2 = 40 → wc kc d 190 [jR 0, jI v2] M (fun v M1 => wp kc (d + 1) 17 193 [none, none, none] (v.toList ++ []) M1 Q)) ∧ (v2 ≠ 40 → ((fx_in32 v2)) ∧ (v2 ≠ 41 → wc kc d 64 [jR 3, jR 1000147] M (fun v M1 => wp kc (d + 1) 17 205 [none, none, none] (v.toList ++ []) M1 Q)) ∧ (v2 = 41 → wc kc d 190 [jR 0, jI v2] M (fun v M1 => wp kc (d + 1) 17 193 [none, none, none] (v.toList ++ []) M1 Q))))) ∧ (v2 ≤ 35 → wc kc d 176 [jR 0, jI v2] M (fun v M1 => wp kc (d + 1) 17 163 [none, none, none] (v.toList ++ []) M1 Q))) ∧ (v2 ≤ 31 → wc kc d 167 [jR 0, jI v2] M (fun v M1 => wp kc (d + 1) 17 149 [none, none, none] (v.toList ++ []) M1 Q))) ∧ (v2 ≤ 24 → wc kc d 145 [jR 0, jI v2] M (fun v M1 => wp kc (d + 1) 17 135 [none, none, none] (v.toList ++ []) M1 Q))) ∧ (v2 ≤ 20 → wc kc d 103 [jR 0, jI v2] M (fun v M1 => wp kc (d + 1) 17 121 [none, none, none] (v.toList ++ []) M1 Q))) ∧ (v2 ≤ 13 → wc kc d 74 [jR 0, jI v2] M (fun v M1 => wp kc (d + 1) 17 107 [none, none, none] (v.toList ++ []) M1 Q))) ∧ (v2 ≤ 6 → wc kc d 66 [jR 0, jI v2] M (fun v M1 => wp kc (d + 1) 17 93 [none, none, none] (v.toList ++ []) M1 Q))) ∧ (M 7 1 < v1 → wc kc d 64 [jR 3, jR 1000031] M (fun v M1 => wp kc (d + 1) 17 65 [some (jR 0), none, none] (v.toList ++ []) M1 Q)))) : wp kc (d + 1) 17 35 [some (jR 0), some (jI v1), some (jI v2)] [] M Q :=
  (x_aldn c17_35 rfl (x_gfr c17_36 k_0_5 (x_gfi c17_39 k_7_3 (x_zne c17_42 H.1 (fun h21 => (x_aldn c17_56 rfl (x_gfr c17_57 k_0_3 (x_cr c17_60 (wp_wk (l' := [some (jR 0), none, none]) ⟨rfl, trivial⟩ (x_cv (As := [jR 1000031]) (st := []) c17_62 cl_3 kl64 rfl (Nat.le_of_ble_eq_true rfl) mx64 (Nat.le_refl _) (H.2.1 h21))))))) (fun h22 => (x_aldn c17_45 rfl (x_gfr c17_46 k_0_5 (x_gfi c17_49 k_7_1 (x_ildn c17_52 rfl (x_cge c17_53 (H.2.2 h22).1.1 (H.2.2 h22).1.2 (fun h19 => (x_ildn c17_82 rfl (x_ci c17_83 (x_cgt c17_85 ((H.2.2 h22).2.1 h19).1 (by decide) (fun h17 => (x_ildn c17_96 rfl (x_ci c17_97 (x_cgt c17_99 (((H.2.2 h22).2.1 h19).2.1 h17).1 (by decide) (fun h15 => (x_ildn c17_110 rfl (x_ci c17_111 (x_cgt c17_113 ((((H.2.2 h22).2.1 h19).2.1 h17).2.1 h15).1 (by decide) (fun h13 => (x_ildn c17_124 rfl (x_ci c17_125 (x_cgt c17_127 (((((H.2.2 h22).2.1 h19).2.1 h17).2.1 h15).2.1 h13).1 (by decide) (fun h11 => (x_ildn c17_138 rfl (x_ci c17_139 (x_cgt c17_141 ((((((H.2.2 h22).2.1 h19).2.1 h17).2.1 h15).2.1 h13).2.1 h11).1 (by decide) (fun h9 => (x_ildn c17_152 rfl (x_ci c17_153 (x_cgt c17_155 (((((((H.2.2 h22).2.1 h19).2.1 h17).2.1 h15).2.1 h13).2.1 h11).2.1 h9).1 (by decide) (fun h7 => (x_aldn c17_166 rfl (x_gfr c17_167 k_0_16 (x_gfi c17_170 k_125_1 (x_zne c17_173 ((((((((H.2.2 h22).2.1 h19).2.1 h17).2.1 h15).2.1 h13).2.1 h11).2.1 h9).2.1 h7).1 (fun h5 => (x_aldn c17_188 rfl (x_ildn c17_189 rfl (wp_wk (l' := [none, none, none]) trivial (x_cv (As := [jI v2]) (st := []) c17_190 cl_0 kl190 rfl (Nat.le_of_ble_eq_true rfl) mx190 (Nat.le_refl _) (((((((((H.2.2 h22).2.1 h19).2.1 h17).2.1 h15).2.1 h13).2.1 h11).2.1 h9).2.1 h7).2.1 h5)))))) (fun h6 => (x_ildn c17_176 rfl (x_ci c17_177 (x_ceq c17_179 (((((((((H.2.2 h22).2.1 h19).2.1 h17).2.1 h15).2.1 h13).2.1 h11).2.1 h9).2.1 h7).2.2 h6).1 (by decide) (fun h3 => (x_aldn c17_188 rfl (x_ildn c17_189 rfl (wp_wk (l' := [none, none, none]) trivial (x_cv (As := [jI v2]) (st := []) c17_190 cl_0 kl190 rfl (Nat.le_of_ble_eq_true rfl) mx190 (Nat.le_refl _) ((((((((((H.2.2 h22).2.1 h19).2.1 h17).2.1 h15).2.1 h13).2.1 h11).2.1 h9).2.1 h7).2.2 h6).2.1 h3)))))) (fun h4 => (x_ildn c17_182 rfl (x_ci c17_183 (x_cne c17_185 ((((((((((H.2.2 h22).2.1 h19).2.1 h17).2.1 h15).2.1 h13).2.1 h11).2.1 h9).2.1 h7).2.2 h6).2.2 h4).1 (by decide) (fun h1 => (x_aldn c17_196 rfl (x_gfr c17_197 k_0_3 (x_cr c17_200 (wp_wk (l' := [none, none, none]) trivial (x_cv (As := [jR 1000147]) (st := []) c17_202 cl_3 kl64 rfl (Nat.le_of_ble_eq_true rfl) mx64 (Nat.le_refl _) (((((((((((H.2.2 h22).2.1 h19).2.1 h17).2.1 h15).2.1 h13).2.1 h11).2.1 h9).2.1 h7).2.2 h6).2.2 h4).2.1 h1))))))) (fun h2 => (x_aldn c17_188 rfl (x_ildn c17_189 rfl (wp_wk (l' := [none, none, none]) trivial (x_cv (As := [jI v2]) (st := []) c17_190 cl_0 kl190 rfl (Nat.le_of_ble_eq_true rfl) mx190 (Nat.le_refl _) (((((((((((H.2.2 h22).2.1 h19).2.1 h17).2.1 h15).2.1 h13).2.1 h11).2.1 h9).2.1 h7).2.2 h6).2.2 h4).2.2 h2))))))))))))))))))) (fun h8 => (x_aldn c17_158 rfl (x_ildn c17_159 rfl (wp_wk (l' := [none, none, none]) trivial (x_cv (As := [jI v2]) (st := []) c17_160 cl_0 kl176 rfl (Nat.le_of_ble_eq_true rfl) mx176 (Nat.le_refl _) ((((((((H.2.2 h22).2.1 h19).2.1 h17).2.1 h15).2.1 h13).2.1 h11).2.1 h9).2.2 h8)))))))))) (fun h10 => (x_aldn c17_144 rfl (x_ildn c17_145 rfl (wp_wk (l' := [none, none, none]) trivial (x_cv (As := [jI v2]) (st := []) c17_146 cl_0 kl167 rfl (Nat.le_of_ble_eq_true rfl) mx167 (Nat.le_refl _) (((((((H.2.2 h22).2.1 h19).2.1 h17).2.1 h15).2.1 h13).2.1 h11).2.2 h10)))))))))) (fun h12 => (x_aldn c17_130 rfl (x_ildn c17_131 rfl (wp_wk (l' := [none, none, none]) trivial (x_cv (As := [jI v2]) (st := []) c17_132 cl_0 kl145 rfl (Nat.le_of_ble_eq_true rfl) mx145 (Nat.le_refl _) ((((((H.2.2 h22).2.1 h19).2.1 h17).2.1 h15).2.1 h13).2.2 h12)))))))))) (fun h14 => (x_aldn c17_116 rfl (x_ildn c17_117 rfl (wp_wk (l' := [none, none, none]) trivial (x_cv (As := [jI v2]) (st := []) c17_118 cl_0 kl103 rfl (Nat.le_of_ble_eq_true rfl) mx103 (Nat.le_refl _) (((((H.2.2 h22).2.1 h19).2.1 h17).2.1 h15).2.2 h14)))))))))) (fun h16 => (x_aldn c17_102 rfl (x_ildn c17_103 rfl (wp_wk (l' := [none, none, none]) trivial (x_cv (As := [jI v2]) (st := []) c17_104 cl_0 kl74 rfl (Nat.le_of_ble_eq_true rfl) mx74 (Nat.le_refl _) ((((H.2.2 h22).2.1 h19).2.1 h17).2.2 h16)))))))))) (fun h18 => (x_aldn c17_88 rfl (x_ildn c17_89 rfl (wp_wk (l' := [none, none, none]) trivial (x_cv (As := [jI v2]) (st := []) c17_90 cl_0 kl66 rfl (Nat.le_of_ble_eq_true rfl) mx66 (Nat.le_refl _) (((H.2.2 h22).2.1 h19).2.2 h18)))))))))) (fun h20 => (x_aldn c17_56 rfl (x_gfr c17_57 k_0_3 (x_cr c17_60 (wp_wk (l' := [some (jR 0), none, none]) ⟨rfl, trivial⟩ (x_cv (As := [jR 1000031]) (st := []) c17_62 cl_3 kl64 rfl (Nat.le_of_ble_eq_true rfl) mx64 (Nat.le_refl _) ((H.2.2 h22).2.2 h20)))))))))))))))))
theorem s17_65 {kc : List va_E} {d : Nat} {M : fx_M} {Q : Option fx_V → fx_M → Prop} (H : wc kc d 65 [jR 3, jI (M 7 1)] M (fun v M1 => wp kc (d + 1) 17 79 [none, none, none] (v.toList ++ []) M1 Q)) : wp kc (d + 1) 17 65 [some (jR 0), none, none] [] M Q :=
  (x_aldn c17_65 rfl (x_gfr c17_66 k_0_3 (x_aldn c17_69 rfl (x_gfr c17_70 k_0_5 (x_gfi c17_73 k_7_1 (wp_wk (l' := [none, none, none]) trivial (x_cv (As := [jI (M 7 1)]) (st := []) c17_76 cl_3 kl65 rfl (Nat.le_of_ble_eq_true rfl) mx65 (Nat.le_refl _) H)))))))
theorem s17_79 {kc : List va_E} {d : Nat} {M : fx_M} {Q : Option fx_V → fx_M → Prop} (H : Q none M) : wp kc (d + 1) 17 79 [none, none, none] [] M Q :=
  (x_goto c17_79 (x_vr c17_205 r17 H))
theorem s17_93 {kc : List va_E} {d : Nat} {M : fx_M} {Q : Option fx_V → fx_M → Prop} (H : Q none M) : wp kc (d + 1) 17 93 [none, none, none] [] M Q :=
  (x_goto c17_93 (x_vr c17_205 r17 H))
theorem s17_107 {kc : List va_E} {d : Nat} {M : fx_M} {Q : Option fx_V → fx_M → Prop} (H : Q none M) : wp kc (d + 1) 17 107 [none, none, none] [] M Q :=
  (x_goto c17_107 (x_vr c17_205 r17 H))
theorem s17_121 {kc : List va_E} {d : Nat} {M : fx_M} {Q : Option fx_V → fx_M → Prop} (H : Q none M) : wp kc (d + 1) 17 121 [none, none, none] [] M Q :=
  (x_goto c17_121 (x_vr c17_205 r17 H))
theorem s17_135 {kc : List va_E} {d : Nat} {M : fx_M} {Q : Option fx_V → fx_M → Prop} (H : Q none M) : wp kc (d + 1) 17 135 [none, none, none] [] M Q :=
  (x_goto c17_135 (x_vr c17_205 r17 H))
theorem s17_149 {kc : List va_E} {d : Nat} {M : fx_M} {Q : Option fx_V → fx_M → Prop} (H : Q none M) : wp kc (d + 1) 17 149 [none, none, none] [] M Q :=
  (x_goto c17_149 (x_vr c17_205 r17 H))
theorem s17_163 {kc : List va_E} {d : Nat} {M : fx_M} {Q : Option fx_V → fx_M → Prop} (H : Q none M) : wp kc (d + 1) 17 163 [none, none, none] [] M Q :=
  (x_goto c17_163 (x_vr c17_205 r17 H))
theorem s17_193 {kc : List va_E} {d : Nat} {M : fx_M} {Q : Option fx_V → fx_M → Prop} (H : Q none M) : wp kc (d + 1) 17 193 [none, none, none] [] M Q :=
  (x_goto c17_193 (x_vr c17_205 r17 H))
theorem s17_205 {kc : List va_E} {d : Nat} {M : fx_M} {Q : Option fx_V → fx_M → Prop} (H : Q none M) : wp kc (d + 1) 17 205 [none, none, none] [] M Q :=
  (x_vr c17_205 r17 H)
theorem s17 {kc : List va_E} {d : Nat} {x1 : Int} {M : fx_M} {Q : Option fx_V → fx_M → Prop} (H : wc kc d 18 [jR 7, jR 2, jI 0, jI x1] M (fun v M1 => wp kc (d + 1) 17 13 [some (jR 0), some (jI x1), none] (v.toList ++ []) M1 Q)) : wc kc (d + 1) 17 [jR 0, jI x1] M Q :=
  wc_of (wp_wk (l' := [some (jR 0), some (jI x1), none]) ⟨rfl, ⟨rfl, trivial⟩⟩ (s17_0 H))

theorem c32_0 : fx_op 32 0 = some (.iload_n 1, 1, 0) := by decide +kernel
theorem c32_180 : fx_op 32 180 = some (.aload_n 0, 181, 180) := by decide +kernel
theorem c32_181 : fx_gf 32 181 = some (0, 5, 184) := by decide +kernel
theorem c32_184 : fx_ci 32 184 = some (0, 185) := by decide +kernel
theorem c32_346 : fx_op 32 346 = some (.aload_n 0, 347, 346) := by decide +kernel
theorem c32_347 : fx_op 32 347 = some (.iload_n 1, 348, 347) := by decide +kernel
theorem c32_207 : fx_op 32 207 = some (.aload_n 0, 208, 207) := by decide +kernel
theorem c32_208 : fx_gf 32 208 = some (0, 5, 211) := by decide +kernel
theorem c32_211 : fx_ci 32 211 = some (0, 212) := by decide +kernel
theorem c32_212 : fx_ci 32 212 = some (3, 213) := by decide +kernel
theorem c32_247 : fx_op 32 247 = some (.aload_n 0, 248, 247) := by decide +kernel
theorem c32_248 : fx_gf 32 248 = some (0, 5, 251) := by decide +kernel
theorem c32_251 : fx_ci 32 251 = some (0, 252) := by decide +kernel
theorem c32_252 : fx_ci 32 252 = some (3, 253) := by decide +kernel
theorem c32_259 : fx_op 32 259 = some (.aload_n 0, 260, 259) := by decide +kernel
theorem c32_260 : fx_gf 32 260 = some (0, 5, 263) := by decide +kernel
theorem c32_263 : fx_ci 32 263 = some (0, 264) := by decide +kernel
theorem c32_264 : fx_ci 32 264 = some (6, 266) := by decide +kernel
theorem c32_227 : fx_op 32 227 = some (.aload_n 0, 228, 227) := by decide +kernel
theorem c32_228 : fx_gf 32 228 = some (0, 5, 231) := by decide +kernel
theorem c32_231 : fx_ci 32 231 = some (0, 232) := by decide +kernel
theorem c32_232 : fx_ci 32 232 = some (3, 233) := by decide +kernel
theorem c32_272 : fx_op 32 272 = some (.aload_n 0, 273, 272) := by decide +kernel
theorem c32_273 : fx_gf 32 273 = some (0, 5, 276) := by decide +kernel
theorem c32_276 : fx_ci 32 276 = some (0, 277) := by decide +kernel
theorem c32_293 : fx_op 32 293 = some (.aload_n 0, 294, 293) := by decide +kernel
theorem c32_294 : fx_gf 32 294 = some (0, 5, 297) := by decide +kernel
theorem c32_312 : fx_op 32 312 = some (.aload_n 0, 313, 312) := by decide +kernel
theorem c32_313 : fx_gf 32 313 = some (0, 5, 316) := by decide +kernel
theorem c32_316 : fx_ci 32 316 = some (0, 317) := by decide +kernel
theorem c32_283 : fx_op 32 283 = some (.aload_n 0, 284, 283) := by decide +kernel
theorem c32_284 : fx_gf 32 284 = some (0, 5, 287) := by decide +kernel
theorem c32_185 : fx_ca 32 185 = some (33, 2, 2, 188) := by decide +kernel
theorem c32_348 : fx_ca 32 348 = some (44, 2, 2, 351) := by decide +kernel
theorem c32_213 : fx_ca 32 213 = some (36, 3, 2, 216) := by decide +kernel
theorem c32_253 : fx_ca 32 253 = some (36, 3, 2, 256) := by decide +kernel
theorem c32_266 : fx_ca 32 266 = some (36, 3, 2, 269) := by decide +kernel
theorem c32_233 : fx_ca 32 233 = some (36, 3, 2, 236) := by decide +kernel
theorem c32_277 : fx_ca 32 277 = some (33, 2, 2, 280) := by decide +kernel
theorem c32_297 : fx_ca 32 297 = some (39, 1, 2, 300) := by decide +kernel
theorem c32_317 : fx_ca 32 317 = some (33, 2, 2, 320) := by decide +kernel
theorem c32_287 : fx_ca 32 287 = some (39, 1, 2, 290) := by decide +kernel
theorem c32_1 : fx_ts 32 1 = some (0, [180, 346, 346, 207, 346, 346, 346, 247, 346, 259, 346, 346, 227, 346, 346, 346, 346, 346, 346, 346, 346, 346, 247, 247, 346, 272, 207, 346, 247, 346, 227, 247, 346, 293, 312, 346, 283, 283, 283, 346, 247], 346) := by decide +kernel
theorem c32_188 : fx_op 32 188 = some (.aload_n 0, 189, 188) := by decide +kernel
theorem c32_189 : fx_gf 32 189 = some (0, 5, 192) := by decide +kernel
theorem c32_192 : fx_ci 32 192 = some (1, 193) := by decide +kernel
theorem c32_193 : fx_ca 32 193 = some (33, 2, 2, 196) := by decide +kernel
theorem c32_351 : fx_op 32 351 = some (.return_, 352, 351) := by decide +kernel
theorem c32_216 : fx_op 32 216 = some (.aload_n 0, 217, 216) := by decide +kernel
theorem c32_217 : fx_gf 32 217 = some (0, 5, 220) := by decide +kernel
theorem c32_220 : fx_ci 32 220 = some (1, 221) := by decide +kernel
theorem c32_221 : fx_ca 32 221 = some (37, 2, 2, 224) := by decide +kernel
theorem c32_256 : fx_op 32 256 = some (.goto 95, 259, 351) := by decide +kernel
theorem c32_269 : fx_op 32 269 = some (.goto 82, 272, 351) := by decide +kernel
theorem c32_236 : fx_op 32 236 = some (.aload_n 0, 237, 236) := by decide +kernel
theorem c32_237 : fx_gf 32 237 = some (0, 5, 240) := by decide +kernel
theorem c32_240 : fx_ci 32 240 = some (1, 241) := by decide +kernel
theorem c32_241 : fx_ca 32 241 = some (33, 2, 2, 244) := by decide +kernel
theorem c32_280 : fx_op 32 280 = some (.goto 71, 283, 351) := by decide +kernel
theorem c32_300 : fx_op 32 300 = some (.aload_n 0, 301, 300) := by decide +kernel
theorem c32_301 : fx_gf 32 301 = some (0, 5, 304) := by decide +kernel
theorem c32_304 : fx_ci 32 304 = some (0, 305) := by decide +kernel
theorem c32_305 : fx_ci 32 305 = some (3, 306) := by decide +kernel
theorem c32_306 : fx_ca 32 306 = some (36, 3, 2, 309) := by decide +kernel
theorem c32_320 : fx_op 32 320 = some (.aload_n 0, 321, 320) := by decide +kernel
theorem c32_321 : fx_gf 32 321 = some (0, 5, 324) := by decide +kernel
theorem c32_324 : fx_ca 32 324 = some (39, 1, 2, 327) := by decide +kernel
theorem c32_290 : fx_op 32 290 = some (.goto 61, 293, 351) := by decide +kernel
theorem c32_196 : fx_op 32 196 = some (.aload_n 0, 197, 196) := by decide +kernel
theorem c32_197 : fx_gf 32 197 = some (0, 5, 200) := by decide +kernel
theorem c32_200 : fx_ci 32 200 = some (2, 201) := by decide +kernel
theorem c32_201 : fx_ca 32 201 = some (33, 2, 2, 204) := by decide +kernel
theorem c32_224 : fx_op 32 224 = some (.goto 127, 227, 351) := by decide +kernel
theorem c32_244 : fx_op 32 244 = some (.goto 107, 247, 351) := by decide +kernel
theorem c32_309 : fx_op 32 309 = some (.goto 42, 312, 351) := by decide +kernel
theorem c32_327 : fx_op 32 327 = some (.aload_n 0, 328, 327) := by decide +kernel
theorem c32_328 : fx_gf 32 328 = some (0, 5, 331) := by decide +kernel
theorem c32_331 : fx_ci 32 331 = some (1, 332) := by decide +kernel
theorem c32_332 : fx_ci 32 332 = some (3, 333) := by decide +kernel
theorem c32_333 : fx_ca 32 333 = some (36, 3, 2, 336) := by decide +kernel
theorem c32_204 : fx_op 32 204 = some (.goto 147, 207, 351) := by decide +kernel
theorem c32_336 : fx_op 32 336 = some (.aload_n 0, 337, 336) := by decide +kernel
theorem c32_337 : fx_gf 32 337 = some (0, 5, 340) := by decide +kernel
theorem c32_340 : fx_ca 32 340 = some (42, 1, 2, 343) := by decide +kernel
theorem c32_343 : fx_op 32 343 = some (.goto 8, 346, 351) := by decide +kernel
theorem s32_0 {kc : List va_E} {d : Nat} {x1 : Int} {M : fx_M} {Q : Option fx_V → fx_M → Prop} (H : fx_in32 x1 ∧ (x1 = 0 → wc kc d 33 [jR 7, jI 0] M (fun v M1 => wp kc (d + 1) 32 188 [some (jR 0), none] (v.toList ++ []) M1 Q)) ∧ (x1 = 1 → wc kc d 44 [jR 0, jI x1] M (fun v M1 => wp kc (d + 1) 32 351 [none, none] (v.toList ++ []) M1 Q)) ∧ (x1 = 2 → wc kc d 44 [jR 0, jI x1] M (fun v M1 => wp kc (d + 1) 32 351 [none, none] (v.toList ++ []) M1 Q)) ∧ (x1 = 3 → wc kc d 36 [jR 7, jI 0, jI 3] M (fun v M1 => wp kc (d + 1) 32 216 [some (jR 0), none] (v.toList ++ []) M1 Q)) ∧ (x1 = 4 → wc kc d 44 [jR 0, jI x1] M (fun v M1 => wp kc (d + 1) 32 351 [none, none] (v.toList ++ []) M1 Q)) ∧ (x1 = 5 → wc kc d 44 [jR 0, jI x1] M (fun v M1 => wp kc (d + 1) 32 351 [none, none] (v.toList ++ []) M1 Q)) ∧ (x1 = 6 → wc kc d 44 [jR 0, jI x1] M (fun v M1 => wp kc (d + 1) 32 351 [none, none] (v.toList ++ []) M1 Q)) ∧ (x1 = 7 → wc kc d 36 [jR 7, jI 0, jI 3] M (fun v M1 => wp kc (d + 1) 32 256 [none, none] (v.toList ++ []) M1 Q)) ∧ (x1 = 8 → wc kc d 44 [jR 0, jI x1] M (fun v M1 => wp kc (d + 1) 32 351 [none, none] (v.toList ++ []) M1 Q)) ∧ (x1 = 9 → wc kc d 36 [jR 7, jI 0, jI 6] M (fun v M1 => wp kc (d + 1) 32 269 [none, none] (v.toList ++ []) M1 Q)) ∧ (x1 = 10 → wc kc d 44 [jR 0, jI x1] M (fun v M1 => wp kc (d + 1) 32 351 [none, none] (v.toList ++ []) M1 Q)) ∧ (x1 = 11 → wc kc d 44 [jR 0, jI x1] M (fun v M1 => wp kc (d + 1) 32 351 [none, none] (v.toList ++ []) M1 Q)) ∧ (x1 = 12 → wc kc d 36 [jR 7, jI 0, jI 3] M (fun v M1 => wp kc (d + 1) 32 236 [some (jR 0), none] (v.toList ++ []) M1 Q)) ∧ (x1 = 13 → wc kc d 44 [jR 0, jI x1] M (fun v M1 => wp kc (d + 1) 32 351 [none, none] (v.toList ++ []) M1 Q)) ∧ (x1 = 14 → wc kc d 44 [jR 0, jI x1] M (fun v M1 => wp kc (d + 1) 32 351 [none, none] (v.toList ++ []) M1 Q)) ∧ (x1 = 15 → wc kc d 44 [jR 0, jI x1] M (fun v M1 => wp kc (d + 1) 32 351 [none, none] (v.toList ++ []) M1 Q)) ∧ (x1 = 16 → wc kc d 44 [jR 0, jI x1] M (fun v M1 => wp kc (d + 1) 32 351 [none, none] (v.toList ++ []) M1 Q)) ∧ (x1 = 17 → wc kc d 44 [jR 0, jI x1] M (fun v M1 => wp kc (d + 1) 32 351 [none, none] (v.toList ++ []) M1 Q)) ∧ (x1 = 18 → wc kc d 44 [jR 0, jI x1] M (fun v M1 => wp kc (d + 1) 32 351 [none, none] (v.toList ++ []) M1 Q)) ∧ (x1 = 19 → wc kc d 44 [jR 0, jI x1] M (fun v M1 => wp kc (d + 1) 32 351 [none, none] (v.toList ++ []) M1 Q)) ∧ (x1 = 20 → wc kc d 44 [jR 0, jI x1] M (fun v M1 => wp kc (d + 1) 32 351 [none, none] (v.toList ++ []) M1 Q)) ∧ (x1 = 21 → wc kc d 44 [jR 0, jI x1] M (fun v M1 => wp kc (d + 1) 32 351 [none, none] (v.toList ++ []) M1 Q)) ∧ (x1 = 22 → wc kc d 36 [jR 7, jI 0, jI 3] M (fun v M1 => wp kc (d + 1) 32 256 [none, none] (v.toList ++ []) M1 Q)) ∧ (x1 = 23 → wc kc d 36 [jR 7, jI 0, jI 3] M (fun v M1 => wp kc (d + 1) 32 256 [none, none] (v.toList ++ []) M1 Q)) ∧ (x1 = 24 → wc kc d 44 [jR 0, jI x1] M (fun v M1 => wp kc (d + 1) 32 351 [none, none] (v.toList ++ []) M1 Q)) ∧ (x1 = 25 → wc kc d 33 [jR 7, jI 0] M (fun v M1 => wp kc (d + 1) 32 280 [none, none] (v.toList ++ []) M1 Q)) ∧ (x1 = 26 → wc kc d 36 [jR 7, jI 0, jI 3] M (fun v M1 => wp kc (d + 1) 32 216 [some (jR 0), none] (v.toList ++ []) M1 Q)) ∧ (x1 = 27 → wc kc d 44 [jR 0, jI x1] M (fun v M1 => wp kc (d + 1) 32 351 [none, none] (v.toList ++ []) M1 Q)) ∧ (x1 = 28 → wc kc d 36 [jR 7, jI 0, jI 3] M (fun v M1 => wp kc (d + 1) 32 256 [none, none] (v.toList ++ []) M1 Q)) ∧ (x1 = 29 → wc kc d 44 [jR 0, jI x1] M (fun v M1 => wp kc (d + 1) 32 351 [none, none] (v.toList ++ []) M1 Q)) ∧ (x1 = 30 → wc kc d 36 [jR 7, jI 0, jI 3] M (fun v M1 => wp kc (d + 1) 32 236 [some (jR 0), none] (v.toList ++ []) M1 Q)) ∧ (x1 = 31 → wc kc d 36 [jR 7, jI 0, jI 3] M (fun v M1 => wp kc (d + 1) 32 256 [none, none] (v.toList ++ []) M1 Q)) ∧ (x1 = 32 → wc kc d 44 [jR 0, jI x1] M (fun v M1 => wp kc (d + 1) 32 351 [none, none] (v.toList ++ []) M1 Q)) ∧ (x1 = 33 → wc kc d 39 [jR 7] M (fun v M1 => wp kc (d + 1) 32 300 [some (jR 0), none] (v.toList ++ []) M1 Q)) ∧ (x1 = 34 → wc kc d 33 [jR 7, jI 0] M (fun v M1 => wp kc (d + 1) 32 320 [some (jR 0), none] (v.toList ++ []) M1 Q)) ∧ (x1 = 35 → wc kc d 44 [jR 0, jI x1] M (fun v M1 => wp kc (d + 1) 32 351 [none, none] (v.toList ++ []) M1 Q)) ∧ (x1 = 36 → wc kc d 39 [jR 7] M (fun v M1 => wp kc (d + 1) 32 290 [none, none] (v.toList ++ []) M1 Q)) ∧ (x1 = 37 → wc kc d 39 [jR 7] M (fun v M1 => wp kc (d + 1) 32 290 [none, none] (v.toList ++ []) M1 Q)) ∧ (x1 = 38 → wc kc d 39 [jR 7] M (fun v M1 => wp kc (d + 1) 32 290 [none, none] (v.toList ++ []) M1 Q)) ∧ (x1 = 39 → wc kc d 44 [jR 0, jI x1] M (fun v M1 => wp kc (d + 1) 32 351 [none, none] (v.toList ++ []) M1 Q)) ∧ (x1 = 40 → wc kc d 36 [jR 7, jI 0, jI 3] M (fun v M1 => wp kc (d + 1) 32 256 [none, none] (v.toList ++ []) M1 Q)) ∧ ((x1 < 0 ∨ 41 ≤ x1) → wc kc d 44 [jR 0, jI x1] M (fun v M1 => wp kc (d + 1) 32 351 [none, none] (v.toList ++ []) M1 Q))) : wp kc (d + 1) 32 0 [some (jR 0), some (jI x1)] [] M Q :=
  (x_ildn c32_0 rfl (x_sw c32_1 H.1 ⟨fun h1 => (x_aldn c32_180 rfl (x_gfr c32_181 k_0_5 (x_ci c32_184 (wp_wk (l' := [some (jR 0), none]) ⟨rfl, trivial⟩ (x_cv (As := [jI 0]) (st := []) c32_185 cl_7 kl33 rfl (Nat.le_of_ble_eq_true rfl) mx33 (Nat.le_refl _) (H.2.1 h1)))))), ⟨fun h2 => (x_aldn c32_346 rfl (x_ildn c32_347 rfl (wp_wk (l' := [none, none]) trivial (x_cv (As := [jI x1]) (st := []) c32_348 cl_0 kl44 rfl (Nat.le_of_ble_eq_true rfl) mx44 (Nat.le_refl _) (H.2.2.1 h2))))), ⟨fun h3 => (x_aldn c32_346 rfl (x_ildn c32_347 rfl (wp_wk (l' := [none, none]) trivial (x_cv (As := [jI x1]) (st := []) c32_348 cl_0 kl44 rfl (Nat.le_of_ble_eq_true rfl) mx44 (Nat.le_refl _) (H.2.2.2.1 h3))))), ⟨fun h4 => (x_aldn c32_207 rfl (x_gfr c32_208 k_0_5 (x_ci c32_211 (x_ci c32_212 (wp_wk (l' := [some (jR 0), none]) ⟨rfl, trivial⟩ (x_cv (As := [jI 0, jI 3]) (st := []) c32_213 cl_7 kl36 rfl (Nat.le_of_ble_eq_true rfl) mx36 (Nat.le_refl _) (H.2.2.2.2.1 h4))))))), ⟨fun h5 => (x_aldn c32_346 rfl (x_ildn c32_347 rfl (wp_wk (l' := [none, none]) trivial (x_cv (As := [jI x1]) (st := []) c32_348 cl_0 kl44 rfl (Nat.le_of_ble_eq_true rfl) mx44 (Nat.le_refl _) (H.2.2.2.2.2.1 h5))))), ⟨fun h6 => (x_aldn c32_346 rfl (x_ildn c32_347 rfl (wp_wk (l' := [none, none]) trivial (x_cv (As := [jI x1]) (st := []) c32_348 cl_0 kl44 rfl (Nat.le_of_ble_eq_true rfl) mx44 (Nat.le_refl _) (H.2.2.2.2.2.2.1 h6))))), ⟨fun h7 => (x_aldn c32_346 rfl (x_ildn c32_347 rfl (wp_wk (l' := [none, none]) trivial (x_cv (As := [jI x1]) (st := []) c32_348 cl_0 kl44 rfl (Nat.le_of_ble_eq_true rfl) mx44 (Nat.le_refl _) (H.2.2.2.2.2.2.2.1 h7))))), ⟨fun h8 => (x_aldn c32_247 rfl (x_gfr c32_248 k_0_5 (x_ci c32_251 (x_ci c32_252 (wp_wk (l' := [none, none]) trivial (x_cv (As := [jI 0, jI 3]) (st := []) c32_253 cl_7 kl36 rfl (Nat.le_of_ble_eq_true rfl) mx36 (Nat.le_refl _) (H.2.2.2.2.2.2.2.2.1 h8))))))), ⟨fun h9 => (x_aldn c32_346 rfl (x_ildn c32_347 rfl (wp_wk (l' := [none, none]) trivial (x_cv (As := [jI x1]) (st := []) c32_348 cl_0 kl44 rfl (Nat.le_of_ble_eq_true rfl) mx44 (Nat.le_refl _) (H.2.2.2.2.2.2.2.2.2.1 h9))))), ⟨fun h10 => (x_aldn c32_259 rfl (x_gfr c32_260 k_0_5 (x_ci c32_263 (x_ci c32_264 (wp_wk (l' := [none, none]) trivial (x_cv (As := [jI 0, jI 6]) (st := []) c32_266 cl_7 kl36 rfl (Nat.le_of_ble_eq_true rfl) mx36 (Nat.le_refl _) (H.2.2.2.2.2.2.2.2.2.2.1 h10))))))), ⟨fun h11 => (x_aldn c32_346 rfl (x_ildn c32_347 rfl (wp_wk (l' := [none, none]) trivial (x_cv (As := [jI x1]) (st := []) c32_348 cl_0 kl44 rfl (Nat.le_of_ble_eq_true rfl) mx44 (Nat.le_refl _) (H.2.2.2.2.2.2.2.2.2.2.2.1 h11))))), ⟨fun h12 => (x_aldn c32_346 rfl (x_ildn c32_347 rfl (wp_wk (l' := [none, none]) trivial (x_cv (As := [jI x1]) (st := []) c32_348 cl_0 kl44 rfl (Nat.le_of_ble_eq_true rfl) mx44 (Nat.le_refl _) (H.2.2.2.2.2.2.2.2.2.2.2.2.1 h12))))), ⟨fun h13 => (x_aldn c32_227 rfl (x_gfr c32_228 k_0_5 (x_ci c32_231 (x_ci c32_232 (wp_wk (l' := [some (jR 0), none]) ⟨rfl, trivial⟩ (x_cv (As := [jI 0, jI 3]) (st := []) c32_233 cl_7 kl36 rfl (Nat.le_of_ble_eq_true rfl) mx36 (Nat.le_refl _) (H.2.2.2.2.2.2.2.2.2.2.2.2.2.1 h13))))))), ⟨fun h14 => (x_aldn c32_346 rfl (x_ildn c32_347 rfl (wp_wk (l' := [none, none]) trivial (x_cv (As := [jI x1]) (st := []) c32_348 cl_0 kl44 rfl (Nat.le_of_ble_eq_true rfl) mx44 (Nat.le_refl _) (H.2.2.2.2.2.2.2.2.2.2.2.2.2.2.1 h14))))), ⟨fun h15 => (x_aldn c32_346 rfl (x_ildn c32_347 rfl (wp_wk (l' := [none, none]) trivial (x_cv (As := [jI x1]) (st := []) c32_348 cl_0 kl44 rfl (Nat.le_of_ble_eq_true rfl) mx44 (Nat.le_refl _) (H.2.2.2.2.2.2.2.2.2.2.2.2.2.2.2.1 h15))))), ⟨fun h16 => (x_aldn c32_346 rfl (x_ildn c32_347 rfl (wp_wk (l' := [none, none]) trivial (x_cv (As := [jI x1]) (st := []) c32_348 cl_0 kl44 rfl (Nat.le_of_ble_eq_true rfl) mx44 (Nat.le_refl _) (H.2.2.2.2.2.2.2.2.2.2.2.2.2.2.2.2.1 h16))))), ⟨fun h17 => (x_aldn c32_346 rfl (x_ildn c32_347 rfl (wp_wk (l' := [none, none]) trivial (x_cv (As := [jI x1]) (st := []) c32_348 cl_0 kl44 rfl (Nat.le_of_ble_eq_true rfl) mx44 (Nat.le_refl _) (H.2.2.2.2.2.2.2.2.2.2.2.2.2.2.2.2.2.1 h17))))), ⟨fun h18 => (x_aldn c32_346 rfl (x_ildn c32_347 rfl (wp_wk (l' := [none, none]) trivial (x_cv (As := [jI x1]) (st := []) c32_348 cl_0 kl44 rfl (Nat.le_of_ble_eq_true rfl) mx44 (Nat.le_refl _) (H.2.2.2.2.2.2.2.2.2.2.2.2.2.2.2.2.2.2.1 h18))))), ⟨fun h19 => (x_aldn c32_346 rfl (x_ildn c32_347 rfl (wp_wk (l' := [none, none]) trivial (x_cv (As := [jI x1]) (st := []) c32_348 cl_0 kl44 rfl (Nat.le_of_ble_eq_true rfl) mx44 (Nat.le_refl _) (H.2.2.2.2.2.2.2.2.2.2.2.2.2.2.2.2.2.2.2.1 h19))))), ⟨fun h20 => (x_aldn c32_346 rfl (x_ildn c32_347 rfl (wp_wk (l' := [none, none]) trivial (x_cv (As := [jI x1]) (st := []) c32_348 cl_0 kl44 rfl (Nat.le_of_ble_eq_true rfl) mx44 (Nat.le_refl _) (H.2.2.2.2.2.2.2.2.2.2.2.2.2.2.2.2.2.2.2.2.1 h20))))), ⟨fun h21 => (x_aldn c32_346 rfl (x_ildn c32_347 rfl (wp_wk (l' := [none, none]) trivial (x_cv (As := [jI x1]) (st := []) c32_348 cl_0 kl44 rfl (Nat.le_of_ble_eq_true rfl) mx44 (Nat.le_refl _) (H.2.2.2.2.2.2.2.2.2.2.2.2.2.2.2.2.2.2.2.2.2.1 h21))))), ⟨fun h22 => (x_aldn c32_346 rfl (x_ildn c32_347 rfl (wp_wk (l' := [none, none]) trivial (x_cv (As := [jI x1]) (st := []) c32_348 cl_0 kl44 rfl (Nat.le_of_ble_eq_true rfl) mx44 (Nat.le_refl _) (H.2.2.2.2.2.2.2.2.2.2.2.2.2.2.2.2.2.2.2.2.2.2.1 h22))))), ⟨fun h23 => (x_aldn c32_247 rfl (x_gfr c32_248 k_0_5 (x_ci c32_251 (x_ci c32_252 (wp_wk (l' := [none, none]) trivial (x_cv (As := [jI 0, jI 3]) (st := []) c32_253 cl_7 kl36 rfl (Nat.le_of_ble_eq_true rfl) mx36 (Nat.le_refl _) (H.2.2.2.2.2.2.2.2.2.2.2.2.2.2.2.2.2.2.2.2.2.2.2.1 h23))))))), ⟨fun h24 => (x_aldn c32_247 rfl (x_gfr c32_248 k_0_5 (x_ci c32_251 (x_ci c32_252 (wp_wk (l' := [none, none]) trivial (x_cv (As := [jI 0, jI 3]) (st := []) c32_253 cl_7 kl36 rfl (Nat.le_of_ble_eq_true rfl) mx36 (Nat.le_refl _) (H.2.2.2.2.2.2.2.2.2.2.2.2.2.2.2.2.2.2.2.2.2.2.2.2.1 h24))))))), ⟨fun h25 => (x_aldn c32_346 rfl (x_ildn c32_347 rfl (wp_wk (l' := [none, none]) trivial (x_cv (As := [jI x1]) (st := []) c32_348 cl_0 kl44 rfl (Nat.le_of_ble_eq_true rfl) mx44 (Nat.le_refl _) (H.2.2.2.2.2.2.2.2.2.2.2.2.2.2.2.2.2.2.2.2.2.2.2.2.2.1 h25))))), ⟨fun h26 => (x_aldn c32_272 rfl (x_gfr c32_273 k_0_5 (x_ci c32_276 (wp_wk (l' := [none, none]) trivial (x_cv (As := [jI 0]) (st := []) c32_277 cl_7 kl33 rfl (Nat.le_of_ble_eq_true rfl) mx33 (Nat.le_refl _) (H.2.2.2.2.2.2.2.2.2.2.2.2.2.2.2.2.2.2.2.2.2.2.2.2.2.2.1 h26)))))), ⟨fun h27 => (x_aldn c32_207 rfl (x_gfr c32_208 k_0_5 (x_ci c32_211 (x_ci c32_212 (wp_wk (l' := [some (jR 0), none]) ⟨rfl, trivial⟩ (x_cv (As := [jI 0, jI 3]) (st := []) c32_213 cl_7 kl36 rfl (Nat.le_of_ble_eq_true rfl) mx36 (Nat.le_refl _) (H.2.2.2.2.2.2.2.2.2.2.2.2.2.2.2.2.2.2.2.2.2.2.2.2.2.2.2.1 h27))))))), ⟨fun h28 => (x_aldn c32_346 rfl (x_ildn c32_347 rfl (wp_wk (l' := [none, none]) trivial (x_cv (As := [jI x1]) (st := []) c32_348 cl_0 kl44 rfl (Nat.le_of_ble_eq_true rfl) mx44 (Nat.le_refl _) (H.2.2.2.2.2.2.2.2.2.2.2.2.2.2.2.2.2.2.2.2.2.2.2.2.2.2.2.2.1 h28))))), ⟨fun h29 => (x_aldn c32_247 rfl (x_gfr c32_248 k_0_5 (x_ci c32_251 (x_ci c32_252 (wp_wk (l' := [none, none]) trivial (x_cv (As := [jI 0, jI 3]) (st := []) c32_253 cl_7 kl36 rfl (Nat.le_of_ble_eq_true rfl) mx36 (Nat.le_refl _) (H.2.2.2.2.2.2.2.2.2.2.2.2.2.2.2.2.2.2.2.2.2.2.2.2.2.2.2.2.2.1 h29))))))), ⟨fun h30 => (x_aldn c32_346 rfl (x_ildn c32_347 rfl (wp_wk (l' := [none, none]) trivial (x_cv (As := [jI x1]) (st := []) c32_348 cl_0 kl44 rfl (Nat.le_of_ble_eq_true rfl) mx44 (Nat.le_refl _) (H.2.2.2.2.2.2.2.2.2.2.2.2.2.2.2.2.2.2.2.2.2.2.2.2.2.2.2.2.2.2.1 h30))))), ⟨fun h31 => (x_aldn c32_227 rfl (x_gfr c32_228 k_0_5 (x_ci c32_231 (x_ci c32_232 (wp_wk (l' := [some (jR 0), none]) ⟨rfl, trivial⟩ (x_cv (As := [jI 0, jI 3]) (st := []) c32_233 cl_7 kl36 rfl (Nat.le_of_ble_eq_true rfl) mx36 (Nat.le_refl _) (H.2.2.2.2.2.2.2.2.2.2.2.2.2.2.2.2.2.2.2.2.2.2.2.2.2.2.2.2.2.2.2.1 h31))))))), ⟨fun h32 => (x_aldn c32_247 rfl (x_gfr c32_248 k_0_5 (x_ci c32_251 (x_ci c32_252 (wp_wk (l' := [none, none]) trivial (x_cv (As := [jI 0, jI 3]) (st := []) c32_253 cl_7 kl36 rfl (Nat.le_of_ble_eq_true rfl) mx36 (Nat.le_refl _) (H.2.2.2.2.2.2.2.2.2.2.2.2.2.2.2.2.2.2.2.2.2.2.2.2.2.2.2.2.2.2.2.2.1 h32))))))), ⟨fun h33 => (x_aldn c32_346 rfl (x_ildn c32_347 rfl (wp_wk (l' := [none, none]) trivial (x_cv (As := [jI x1]) (st := []) c32_348 cl_0 kl44 rfl (Nat.le_of_ble_eq_true rfl) mx44 (Nat.le_refl _) (H.2.2.2.2.2.2.2.2.2.2.2.2.2.2.2.2.2.2.2.2.2.2.2.2.2.2.2.2.2.2.2.2.2.1 h33))))), ⟨fun h34 => (x_aldn c32_293 rfl (x_gfr c32_294 k_0_5 (wp_wk (l' := [some (jR 0), none]) ⟨rfl, trivial⟩ (x_cv (As := []) (st := []) c32_297 cl_7 kl39 rfl (Nat.le_of_ble_eq_true rfl) mx39 (Nat.le_refl _) (H.2.2.2.2.2.2.2.2.2.2.2.2.2.2.2.2.2.2.2.2.2.2.2.2.2.2.2.2.2.2.2.2.2.2.1 h34))))), ⟨fun h35 => (x_aldn c32_312 rfl (x_gfr c32_313 k_0_5 (x_ci c32_316 (wp_wk (l' := [some (jR 0), none]) ⟨rfl, trivial⟩ (x_cv (As := [jI 0]) (st := []) c32_317 cl_7 kl33 rfl (Nat.le_of_ble_eq_true rfl) mx33 (Nat.le_refl _) (H.2.2.2.2.2.2.2.2.2.2.2.2.2.2.2.2.2.2.2.2.2.2.2.2.2.2.2.2.2.2.2.2.2.2.2.1 h35)))))), ⟨fun h36 => (x_aldn c32_346 rfl (x_ildn c32_347 rfl (wp_wk (l' := [none, none]) trivial (x_cv (As := [jI x1]) (st := []) c32_348 cl_0 kl44 rfl (Nat.le_of_ble_eq_true rfl) mx44 (Nat.le_refl _) (H.2.2.2.2.2.2.2.2.2.2.2.2.2.2.2.2.2.2.2.2.2.2.2.2.2.2.2.2.2.2.2.2.2.2.2.2.1 h36))))), ⟨fun h37 => (x_aldn c32_283 rfl (x_gfr c32_284 k_0_5 (wp_wk (l' := [none, none]) trivial (x_cv (As := []) (st := []) c32_287 cl_7 kl39 rfl (Nat.le_of_ble_eq_true rfl) mx39 (Nat.le_refl _) (H.2.2.2.2.2.2.2.2.2.2.2.2.2.2.2.2.2.2.2.2.2.2.2.2.2.2.2.2.2.2.2.2.2.2.2.2.2.1 h37))))), ⟨fun h38 => (x_aldn c32_283 rfl (x_gfr c32_284 k_0_5 (wp_wk (l' := [none, none]) trivial (x_cv (As := []) (st := []) c32_287 cl_7 kl39 rfl (Nat.le_of_ble_eq_true rfl) mx39 (Nat.le_refl _) (H.2.2.2.2.2.2.2.2.2.2.2.2.2.2.2.2.2.2.2.2.2.2.2.2.2.2.2.2.2.2.2.2.2.2.2.2.2.2.1 h38))))), ⟨fun h39 => (x_aldn c32_283 rfl (x_gfr c32_284 k_0_5 (wp_wk (l' := [none, none]) trivial (x_cv (As := []) (st := []) c32_287 cl_7 kl39 rfl (Nat.le_of_ble_eq_true rfl) mx39 (Nat.le_refl _) (H.2.2.2.2.2.2.2.2.2.2.2.2.2.2.2.2.2.2.2.2.2.2.2.2.2.2.2.2.2.2.2.2.2.2.2.2.2.2.2.1 h39))))), ⟨fun h40 => (x_aldn c32_346 rfl (x_ildn c32_347 rfl (wp_wk (l' := [none, none]) trivial (x_cv (As := [jI x1]) (st := []) c32_348 cl_0 kl44 rfl (Nat.le_of_ble_eq_true rfl) mx44 (Nat.le_refl _) (H.2.2.2.2.2.2.2.2.2.2.2.2.2.2.2.2.2.2.2.2.2.2.2.2.2.2.2.2.2.2.2.2.2.2.2.2.2.2.2.2.1 h40))))), ⟨fun h41 => (x_aldn c32_247 rfl (x_gfr c32_248 k_0_5 (x_ci c32_251 (x_ci c32_252 (wp_wk (l' := [none, none]) trivial (x_cv (As := [jI 0, jI 3]) (st := []) c32_253 cl_7 kl36 rfl (Nat.le_of_ble_eq_true rfl) mx36 (Nat.le_refl _) (H.2.2.2.2.2.2.2.2.2.2.2.2.2.2.2.2.2.2.2.2.2.2.2.2.2.2.2.2.2.2.2.2.2.2.2.2.2.2.2.2.2.1 h41))))))), trivial⟩⟩⟩⟩⟩⟩⟩⟩⟩⟩⟩⟩⟩⟩⟩⟩⟩⟩⟩⟩⟩⟩⟩⟩⟩⟩⟩⟩⟩⟩⟩⟩⟩⟩⟩⟩⟩⟩⟩⟩⟩ (fun h42 => (x_aldn c32_346 rfl (x_ildn c32_347 rfl (wp_wk (l' := [none, none]) trivial (x_cv (As := [jI x1]) (st := []) c32_348 cl_0 kl44 rfl (Nat.le_of_ble_eq_true rfl) mx44 (Nat.le_refl _) (H.2.2.2.2.2.2.2.2.2.2.2.2.2.2.2.2.2.2.2.2.2.2.2.2.2.2.2.2.2.2.2.2.2.2.2.2.2.2.2.2.2.2 h42))))))))
theorem s32_188 {kc : List va_E} {d : Nat} {M : fx_M} {Q : Option fx_V → fx_M → Prop} (H : wc kc d 33 [jR 7, jI 1] M (fun v M1 => wp kc (d + 1) 32 196 [some (jR 0), none] (v.toList ++ []) M1 Q)) : wp kc (d + 1) 32 188 [some (jR 0), none] [] M Q :=
  (x_aldn c32_188 rfl (x_gfr c32_189 k_0_5 (x_ci c32_192 (wp_wk (l' := [some (jR 0), none]) ⟨rfl, trivial⟩ (x_cv (As := [jI 1]) (st := []) c32_193 cl_7 kl33 rfl (Nat.le_of_ble_eq_true rfl) mx33 (Nat.le_refl _) H)))))
theorem s32_196 {kc : List va_E} {d : Nat} {M : fx_M} {Q : Option fx_V → fx_M → Prop} (H : wc kc d 33 [jR 7, jI 2] M (fun v M1 => wp kc (d + 1) 32 204 [none, none] (v.toList ++ []) M1 Q)) : wp kc (d + 1) 32 196 [some (jR 0), none] [] M Q :=
  (x_aldn c32_196 rfl (x_gfr c32_197 k_0_5 (x_ci c32_200 (wp_wk (l' := [none, none]) trivial (x_cv (As := [jI 2]) (st := []) c32_201 cl_7 kl33 rfl (Nat.le_of_ble_eq_true rfl) mx33 (Nat.le_refl _) H)))))
theorem s32_204 {kc : List va_E} {d : Nat} {M : fx_M} {Q : Option fx_V → fx_M → Prop} (H : Q none M) : wp kc (d + 1) 32 204 [none, none] [] M Q :=
  (x_goto c32_204 (x_vr c32_351 r32 H))
theorem s32_216 {kc : List va_E} {d : Nat} {M : fx_M} {Q : Option fx_V → fx_M → Prop} (H : wc kc d 37 [jR 7, jI 1] M (fun v M1 => wp kc (d + 1) 32 224 [none, none] (v.toList ++ []) M1 Q)) : wp kc (d + 1) 32 216 [some (jR 0), none] [] M Q :=
  (x_aldn c32_216 rfl (x_gfr c32_217 k_0_5 (x_ci c32_220 (wp_wk (l' := [none, none]) trivial (x_cv (As := [jI 1]) (st := []) c32_221 cl_7 kl37 rfl (Nat.le_of_ble_eq_true rfl) mx37 (Nat.le_refl _) H)))))
theorem s32_224 {kc : List va_E} {d : Nat} {M : fx_M} {Q : Option fx_V → fx_M → Prop} (H : Q none M) : wp kc (d + 1) 32 224 [none, none] [] M Q :=
  (x_goto c32_224 (x_vr c32_351 r32 H))
theorem s32_236 {kc : List va_E} {d : Nat} {M : fx_M} {Q : Option fx_V → fx_M → Prop} (H : wc kc d 33 [jR 7, jI 1] M (fun v M1 => wp kc (d + 1) 32 244 [none, none] (v.toList ++ []) M1 Q)) : wp kc (d + 1) 32 236 [some (jR 0), none] [] M Q :=
  (x_aldn c32_236 rfl (x_gfr c32_237 k_0_5 (x_ci c32_240 (wp_wk (l' := [none, none]) trivial (x_cv (As := [jI 1]) (st := []) c32_241 cl_7 kl33 rfl (Nat.le_of_ble_eq_true rfl) mx33 (Nat.le_refl _) H)))))
theorem s32_244 {kc : List va_E} {d : Nat} {M : fx_M} {Q : Option fx_V → fx_M → Prop} (H : Q none M) : wp kc (d + 1) 32 244 [none, none] [] M Q :=
  (x_goto c32_244 (x_vr c32_351 r32 H))
theorem s32_256 {kc : List va_E} {d : Nat} {M : fx_M} {Q : Option fx_V → fx_M → Prop} (H : Q none M) : wp kc (d + 1) 32 256 [none, none] [] M Q :=
  (x_goto c32_256 (x_vr c32_351 r32 H))
theorem s32_269 {kc : List va_E} {d : Nat} {M : fx_M} {Q : Option fx_V → fx_M → Prop} (H : Q none M) : wp kc (d + 1) 32 269 [none, none] [] M Q :=
  (x_goto c32_269 (x_vr c32_351 r32 H))
theorem s32_280 {kc : List va_E} {d : Nat} {M : fx_M} {Q : Option fx_V → fx_M → Prop} (H : Q none M) : wp kc (d + 1) 32 280 [none, none] [] M Q :=
  (x_goto c32_280 (x_vr c32_351 r32 H))
theorem s32_290 {kc : List va_E} {d : Nat} {M : fx_M} {Q : Option fx_V → fx_M → Prop} (H : Q none M) : wp kc (d + 1) 32 290 [none, none] [] M Q :=
  (x_goto c32_290 (x_vr c32_351 r32 H))
theorem s32_300 {kc : List va_E} {d : Nat} {M : fx_M} {Q : Option fx_V → fx_M → Prop} (H : wc kc d 36 [jR 7, jI 0, jI 3] M (fun v M1 => wp kc (d + 1) 32 309 [none, none] (v.toList ++ []) M1 Q)) : wp kc (d + 1) 32 300 [some (jR 0), none] [] M Q :=
  (x_aldn c32_300 rfl (x_gfr c32_301 k_0_5 (x_ci c32_304 (x_ci c32_305 (wp_wk (l' := [none, none]) trivial (x_cv (As := [jI 0, jI 3]) (st := []) c32_306 cl_7 kl36 rfl (Nat.le_of_ble_eq_true rfl) mx36 (Nat.le_refl _) H))))))
theorem s32_309 {kc : List va_E} {d : Nat} {M : fx_M} {Q : Option fx_V → fx_M → Prop} (H : Q none M) : wp kc (d + 1) 32 309 [none, none] [] M Q :=
  (x_goto c32_309 (x_vr c32_351 r32 H))
theorem s32_320 {kc : List va_E} {d : Nat} {M : fx_M} {Q : Option fx_V → fx_M → Prop} (H : wc kc d 39 [jR 7] M (fun v M1 => wp kc (d + 1) 32 327 [some (jR 0), none] (v.toList ++ []) M1 Q)) : wp kc (d + 1) 32 320 [some (jR 0), none] [] M Q :=
  (x_aldn c32_320 rfl (x_gfr c32_321 k_0_5 (wp_wk (l' := [some (jR 0), none]) ⟨rfl, trivial⟩ (x_cv (As := []) (st := []) c32_324 cl_7 kl39 rfl (Nat.le_of_ble_eq_true rfl) mx39 (Nat.le_refl _) H))))
theorem s32_327 {kc : List va_E} {d : Nat} {M : fx_M} {Q : Option fx_V → fx_M → Prop} (H : wc kc d 36 [jR 7, jI 1, jI 3] M (fun v M1 => wp kc (d + 1) 32 336 [some (jR 0), none] (v.toList ++ []) M1 Q)) : wp kc (d + 1) 32 327 [some (jR 0), none] [] M Q :=
  (x_aldn c32_327 rfl (x_gfr c32_328 k_0_5 (x_ci c32_331 (x_ci c32_332 (wp_wk (l' := [some (jR 0), none]) ⟨rfl, trivial⟩ (x_cv (As := [jI 1, jI 3]) (st := []) c32_333 cl_7 kl36 rfl (Nat.le_of_ble_eq_true rfl) mx36 (Nat.le_refl _) H))))))
theorem s32_336 {kc : List va_E} {d : Nat} {M : fx_M} {Q : Option fx_V → fx_M → Prop} (H : wc kc d 42 [jR 7] M (fun v M1 => wp kc (d + 1) 32 343 [none, none] (v.toList ++ []) M1 Q)) : wp kc (d + 1) 32 336 [some (jR 0), none] [] M Q :=
  (x_aldn c32_336 rfl (x_gfr c32_337 k_0_5 (wp_wk (l' := [none, none]) trivial (x_cv (As := []) (st := []) c32_340 cl_7 kl42 rfl (Nat.le_of_ble_eq_true rfl) mx42 (Nat.le_refl _) H))))
theorem s32_343 {kc : List va_E} {d : Nat} {M : fx_M} {Q : Option fx_V → fx_M → Prop} (H : Q none M) : wp kc (d + 1) 32 343 [none, none] [] M Q :=
  (x_goto c32_343 (x_vr c32_351 r32 H))
theorem s32_351 {kc : List va_E} {d : Nat} {M : fx_M} {Q : Option fx_V → fx_M → Prop} (H : Q none M) : wp kc (d + 1) 32 351 [none, none] [] M Q :=
  (x_vr c32_351 r32 H)
theorem s32 {kc : List va_E} {d : Nat} {x1 : Int} {M : fx_M} {Q : Option fx_V → fx_M → Prop} (H : fx_in32 x1 ∧ (x1 = 0 → wc kc d 33 [jR 7, jI 0] M (fun v M1 => wp kc (d + 1) 32 188 [some (jR 0), none] (v.toList ++ []) M1 Q)) ∧ (x1 = 1 → wc kc d 44 [jR 0, jI x1] M (fun v M1 => wp kc (d + 1) 32 351 [none, none] (v.toList ++ []) M1 Q)) ∧ (x1 = 2 → wc kc d 44 [jR 0, jI x1] M (fun v M1 => wp kc (d + 1) 32 351 [none, none] (v.toList ++ []) M1 Q)) ∧ (x1 = 3 → wc kc d 36 [jR 7, jI 0, jI 3] M (fun v M1 => wp kc (d + 1) 32 216 [some (jR 0), none] (v.toList ++ []) M1 Q)) ∧ (x1 = 4 → wc kc d 44 [jR 0, jI x1] M (fun v M1 => wp kc (d + 1) 32 351 [none, none] (v.toList ++ []) M1 Q)) ∧ (x1 = 5 → wc kc d 44 [jR 0, jI x1] M (fun v M1 => wp kc (d + 1) 32 351 [none, none] (v.toList ++ []) M1 Q)) ∧ (x1 = 6 → wc kc d 44 [jR 0, jI x1] M (fun v M1 => wp kc (d + 1) 32 351 [none, none] (v.toList ++ []) M1 Q)) ∧ (x1 = 7 → wc kc d 36 [jR 7, jI 0, jI 3] M (fun v M1 => wp kc (d + 1) 32 256 [none, none] (v.toList ++ []) M1 Q)) ∧ (x1 = 8 → wc kc d 44 [jR 0, jI x1] M (fun v M1 => wp kc (d + 1) 32 351 [none, none] (v.toList ++ []) M1 Q)) ∧ (x1 = 9 → wc kc d 36 [jR 7, jI 0, jI 6] M (fun v M1 => wp kc (d + 1) 32 269 [none, none] (v.toList ++ []) M1 Q)) ∧ (x1 = 10 → wc kc d 44 [jR 0, jI x1] M (fun v M1 => wp kc (d + 1) 32 351 [none, none] (v.toList ++ []) M1 Q)) ∧ (x1 = 11 → wc kc d 44 [jR 0, jI x1] M (fun v M1 => wp kc (d + 1) 32 351 [none, none] (v.toList ++ []) M1 Q)) ∧ (x1 = 12 → wc kc d 36 [jR 7, jI 0, jI 3] M (fun v M1 => wp kc (d + 1) 32 236 [some (jR 0), none] (v.toList ++ []) M1 Q)) ∧ (x1 = 13 → wc kc d 44 [jR 0, jI x1] M (fun v M1 => wp kc (d + 1) 32 351 [none, none] (v.toList ++ []) M1 Q)) ∧ (x1 = 14 → wc kc d 44 [jR 0, jI x1] M (fun v M1 => wp kc (d + 1) 32 351 [none, none] (v.toList ++ []) M1 Q)) ∧ (x1 = 15 → wc kc d 44 [jR 0, jI x1] M (fun v M1 => wp kc (d + 1) 32 351 [none, none] (v.toList ++ []) M1 Q)) ∧ (x1 = 16 → wc kc d 44 [jR 0, jI x1] M (fun v M1 => wp kc (d + 1) 32 351 [none, none] (v.toList ++ []) M1 Q)) ∧ (x1 = 17 → wc kc d 44 [jR 0, jI x1] M (fun v M1 => wp kc (d + 1) 32 351 [none, none] (v.toList ++ []) M1 Q)) ∧ (x1 = 18 → wc kc d 44 [jR 0, jI x1] M (fun v M1 => wp kc (d + 1) 32 351 [none, none] (v.toList ++ []) M1 Q)) ∧ (x1 = 19 → wc kc d 44 [jR 0, jI x1] M (fun v M1 => wp kc (d + 1) 32 351 [none, none] (v.toList ++ []) M1 Q)) ∧ (x1 = 20 → wc kc d 44 [jR 0, jI x1] M (fun v M1 => wp kc (d + 1) 32 351 [none, none] (v.toList ++ []) M1 Q)) ∧ (x1 = 21 → wc kc d 44 [jR 0, jI x1] M (fun v M1 => wp kc (d + 1) 32 351 [none, none] (v.toList ++ []) M1 Q)) ∧ (x1 = 22 → wc kc d 36 [jR 7, jI 0, jI 3] M (fun v M1 => wp kc (d + 1) 32 256 [none, none] (v.toList ++ []) M1 Q)) ∧ (x1 = 23 → wc kc d 36 [jR 7, jI 0, jI 3] M (fun v M1 => wp kc (d + 1) 32 256 [none, none] (v.toList ++ []) M1 Q)) ∧ (x1 = 24 → wc kc d 44 [jR 0, jI x1] M (fun v M1 => wp kc (d + 1) 32 351 [none, none] (v.toList ++ []) M1 Q)) ∧ (x1 = 25 → wc kc d 33 [jR 7, jI 0] M (fun v M1 => wp kc (d + 1) 32 280 [none, none] (v.toList ++ []) M1 Q)) ∧ (x1 = 26 → wc kc d 36 [jR 7, jI 0, jI 3] M (fun v M1 => wp kc (d + 1) 32 216 [some (jR 0), none] (v.toList ++ []) M1 Q)) ∧ (x1 = 27 → wc kc d 44 [jR 0, jI x1] M (fun v M1 => wp kc (d + 1) 32 351 [none, none] (v.toList ++ []) M1 Q)) ∧ (x1 = 28 → wc kc d 36 [jR 7, jI 0, jI 3] M (fun v M1 => wp kc (d + 1) 32 256 [none, none] (v.toList ++ []) M1 Q)) ∧ (x1 = 29 → wc kc d 44 [jR 0, jI x1] M (fun v M1 => wp kc (d + 1) 32 351 [none, none] (v.toList ++ []) M1 Q)) ∧ (x1 = 30 → wc kc d 36 [jR 7, jI 0, jI 3] M (fun v M1 => wp kc (d + 1) 32 236 [some (jR 0), none] (v.toList ++ []) M1 Q)) ∧ (x1 = 31 → wc kc d 36 [jR 7, jI 0, jI 3] M (fun v M1 => wp kc (d + 1) 32 256 [none, none] (v.toList ++ []) M1 Q)) ∧ (x1 = 32 → wc kc d 44 [jR 0, jI x1] M (fun v M1 => wp kc (d + 1) 32 351 [none, none] (v.toList ++ []) M1 Q)) ∧ (x1 = 33 → wc kc d 39 [jR 7] M (fun v M1 => wp kc (d + 1) 32 300 [some (jR 0), none] (v.toList ++ []) M1 Q)) ∧ (x1 = 34 → wc kc d 33 [jR 7, jI 0] M (fun v M1 => wp kc (d + 1) 32 320 [some (jR 0), none] (v.toList ++ []) M1 Q)) ∧ (x1 = 35 → wc kc d 44 [jR 0, jI x1] M (fun v M1 => wp kc (d + 1) 32 351 [none, none] (v.toList ++ []) M1 Q)) ∧ (x1 = 36 → wc kc d 39 [jR 7] M (fun v M1 => wp kc (d + 1) 32 290 [none, none] (v.toList ++ []) M1 Q)) ∧ (x1 = 37 → wc kc d 39 [jR 7] M (fun v M1 => wp kc (d + 1) 32 290 [none, none] (v.toList ++ []) M1 Q)) ∧ (x1 = 38 → wc kc d 39 [jR 7] M (fun v M1 => wp kc (d + 1) 32 290 [none, none] (v.toList ++ []) M1 Q)) ∧ (x1 = 39 → wc kc d 44 [jR 0, jI x1] M (fun v M1 => wp kc (d + 1) 32 351 [none, none] (v.toList ++ []) M1 Q)) ∧ (x1 = 40 → wc kc d 36 [jR 7, jI 0, jI 3] M (fun v M1 => wp kc (d + 1) 32 256 [none, none] (v.toList ++ []) M1 Q)) ∧ ((x1 < 0 ∨ 41 ≤ x1) → wc kc d 44 [jR 0, jI x1] M (fun v M1 => wp kc (d + 1) 32 351 [none, none] (v.toList ++ []) M1 Q))) : wc kc (d + 1) 32 [jR 0, jI x1] M Q :=
  wc_of (wp_wk (l' := [some (jR 0), some (jI x1)]) ⟨rfl, ⟨rfl, trivial⟩⟩ (s32_0 H))

theorem c44_0 : fx_op 44 0 = some (.iload_n 1, 1, 0) := by decide +kernel
theorem c44_52 : fx_op 44 52 = some (.aload_n 0, 53, 52) := by decide +kernel
theorem c44_53 : fx_gf 44 53 = some (0, 5, 56) := by decide +kernel
theorem c44_69 : fx_op 44 69 = some (.aload_n 0, 70, 69) := by decide +kernel
theorem c44_70 : fx_gf 44 70 = some (0, 5, 73) := by decide +kernel
theorem c44_86 : fx_op 44 86 = some (.aload_n 0, 87, 86) := by decide +kernel
theorem c44_87 : fx_gf 44 87 = some (0, 5, 90) := by decide +kernel
theorem c44_90 : fx_ci 44 90 = some (32, 92) := by decide +kernel
theorem c44_109 : fx_op 44 109 = some (.aload_n 0, 110, 109) := by decide +kernel
theorem c44_110 : fx_gf 44 110 = some (0, 5, 113) := by decide +kernel
theorem c44_113 : fx_ci 44 113 = some (32, 115) := by decide +kernel
theorem c44_132 : fx_op 44 132 = some (.aload_n 0, 133, 132) := by decide +kernel
theorem c44_133 : fx_gf 44 133 = some (0, 5, 136) := by decide +kernel
theorem c44_136 : fx_ci 44 136 = some (32, 138) := by decide +kernel
theorem c44_56 : fx_ca 44 56 = some (45, 1, 2, 59) := by decide +kernel
theorem c44_73 : fx_ca 44 73 = some (48, 1, 2, 76) := by decide +kernel
theorem c44_92 : fx_ca 44 92 = some (34, 2, 2, 95) := by decide +kernel
theorem c44_115 : fx_ca 44 115 = some (34, 2, 2, 118) := by decide +kernel
theorem c44_138 : fx_ca 44 138 = some (34, 2, 2, 141) := by decide +kernel
theorem c44_155 : fx_op 44 155 = some (.return_, 156, 155) := by decide +kernel
theorem c44_1 : fx_ls 44 1 = some ([(1, 52), (2, 69), (6, 86), (15, 109), (43, 132)], 155) := by decide +kernel
theorem c44_59 : fx_op 44 59 = some (.aload_n 0, 60, 59) := by decide +kernel
theorem c44_60 : fx_gf 44 60 = some (0, 5, 63) := by decide +kernel
theorem c44_63 : fx_ca 44 63 = some (47, 1, 2, 66) := by decide +kernel
theorem c44_76 : fx_op 44 76 = some (.aload_n 0, 77, 76) := by decide +kernel
theorem c44_77 : fx_gf 44 77 = some (0, 5, 80) := by decide +kernel
theorem c44_80 : fx_ca 44 80 = some (45, 1, 2, 83) := by decide +kernel
theorem c44_95 : fx_op 44 95 = some (.aload_n 0, 96, 95) := by decide +kernel
theorem c44_96 : fx_gf 44 96 = some (0, 5, 99) := by decide +kernel
theorem c44_99 : fx_op 44 99 = some (.aload_n 0, 100, 99) := by decide +kernel
theorem c44_100 : fx_gf 44 100 = some (0, 7, 103) := by decide +kernel
theorem c44_103 : fx_ca 44 103 = some (49, 2, 2, 106) := by decide +kernel
theorem c44_118 : fx_op 44 118 = some (.aload_n 0, 119, 118) := by decide +kernel
theorem c44_119 : fx_gf 44 119 = some (0, 10, 122) := by decide +kernel
theorem c44_122 : fx_op 44 122 = some (.aload_n 0, 123, 122) := by decide +kernel
theorem c44_123 : fx_gf 44 123 = some (0, 5, 126) := by decide +kernel
theorem c44_126 : fx_ca 44 126 = some (58, 2, 2, 129) := by decide +kernel
theorem c44_141 : fx_op 44 141 = some (.aload_n 0, 142, 141) := by decide +kernel
theorem c44_142 : fx_gf 44 142 = some (0, 5, 145) := by decide +kernel
theorem c44_145 : fx_op 44 145 = some (.aload_n 0, 146, 145) := by decide +kernel
theorem c44_146 : fx_gf 44 146 = some (0, 7, 149) := by decide +kernel
theorem c44_149 : fx_ca 44 149 = some (61, 2, 2, 152) := by decide +kernel
theorem c44_66 : fx_op 44 66 = some (.goto 89, 69, 155) := by decide +kernel
theorem c44_83 : fx_op 44 83 = some (.goto 72, 86, 155) := by decide +kernel
theorem c44_106 : fx_op 44 106 = some (.goto 49, 109, 155) := by decide +kernel
theorem c44_129 : fx_op 44 129 = some (.goto 26, 132, 155) := by decide +kernel
theorem c44_152 : fx_op 44 152 = some (.goto 3, 155, 155) := by decide +kernel
theorem s44_0 {kc : List va_E} {d : Nat} {x1 : Int} {M : fx_M} {Q : Option fx_V → fx_M → Prop} (H : fx_in32 x1 ∧ (x1 = 1 → wc kc d 45 [jR 7] M (fun v M1 => wp kc (d + 1) 44 59 [some (jR 0), none] (v.toList ++ []) M1 Q)) ∧ (x1 = 2 → wc kc d 48 [jR 7] M (fun v M1 => wp kc (d + 1) 44 76 [some (jR 0), none] (v.toList ++ []) M1 Q)) ∧ (x1 = 6 → wc kc d 34 [jR 7, jI 32] M (fun v M1 => wp kc (d + 1) 44 95 [some (jR 0), none] (v.toList ++ []) M1 Q)) ∧ (x1 = 15 → wc kc d 34 [jR 7, jI 32] M (fun v M1 => wp kc (d + 1) 44 118 [some (jR 0), none] (v.toList ++ []) M1 Q)) ∧ (x1 = 43 → wc kc d 34 [jR 7, jI 32] M (fun v M1 => wp kc (d + 1) 44 141 [some (jR 0), none] (v.toList ++ []) M1 Q)) ∧ (x1 ≠ 1 → x1 ≠ 2 → x1 ≠ 6 → x1 ≠ 15 → x1 ≠ 43 → Q none M)) : wp kc (d + 1) 44 0 [some (jR 0), some (jI x1)] [] M Q :=
  (x_ildn c44_0 rfl (x_lsw c44_1 H.1 ⟨fun h1 => (x_aldn c44_52 rfl (x_gfr c44_53 k_0_5 (wp_wk (l' := [some (jR 0), none]) ⟨rfl, trivial⟩ (x_cv (As := []) (st := []) c44_56 cl_7 kl45 rfl (Nat.le_of_ble_eq_true rfl) mx45 (Nat.le_refl _) (H.2.1 h1))))), ⟨fun h2 => (x_aldn c44_69 rfl (x_gfr c44_70 k_0_5 (wp_wk (l' := [some (jR 0), none]) ⟨rfl, trivial⟩ (x_cv (As := []) (st := []) c44_73 cl_7 kl48 rfl (Nat.le_of_ble_eq_true rfl) mx48 (Nat.le_refl _) (H.2.2.1 h2))))), ⟨fun h3 => (x_aldn c44_86 rfl (x_gfr c44_87 k_0_5 (x_ci c44_90 (wp_wk (l' := [some (jR 0), none]) ⟨rfl, trivial⟩ (x_cv (As := [jI 32]) (st := []) c44_92 cl_7 kl34 rfl (Nat.le_of_ble_eq_true rfl) mx34 (Nat.le_refl _) (H.2.2.2.1 h3)))))), ⟨fun h4 => (x_aldn c44_109 rfl (x_gfr c44_110 k_0_5 (x_ci c44_113 (wp_wk (l' := [some (jR 0), none]) ⟨rfl, trivial⟩ (x_cv (As := [jI 32]) (st := []) c44_115 cl_7 kl34 rfl (Nat.le_of_ble_eq_true rfl) mx34 (Nat.le_refl _) (H.2.2.2.2.1 h4)))))), ⟨fun h5 => (x_aldn c44_132 rfl (x_gfr c44_133 k_0_5 (x_ci c44_136 (wp_wk (l' := [some (jR 0), none]) ⟨rfl, trivial⟩ (x_cv (As := [jI 32]) (st := []) c44_138 cl_7 kl34 rfl (Nat.le_of_ble_eq_true rfl) mx34 (Nat.le_refl _) (H.2.2.2.2.2.1 h5)))))), fun h6 h7 h8 h9 h10 => (x_vr c44_155 r44 (H.2.2.2.2.2.2 h6 h7 h8 h9 h10))⟩⟩⟩⟩⟩))
theorem s44_59 {kc : List va_E} {d : Nat} {M : fx_M} {Q : Option fx_V → fx_M → Prop} (H : wc kc d 47 [jR 7] M (fun v M1 => wp kc (d + 1) 44 66 [none, none] (v.toList ++ []) M1 Q)) : wp kc (d + 1) 44 59 [some (jR 0), none] [] M Q :=
  (x_aldn c44_59 rfl (x_gfr c44_60 k_0_5 (wp_wk (l' := [none, none]) trivial (x_cv (As := []) (st := []) c44_63 cl_7 kl47 rfl (Nat.le_of_ble_eq_true rfl) mx47 (Nat.le_refl _) H))))
theorem s44_66 {kc : List va_E} {d : Nat} {M : fx_M} {Q : Option fx_V → fx_M → Prop} (H : Q none M) : wp kc (d + 1) 44 66 [none, none] [] M Q :=
  (x_goto c44_66 (x_vr c44_155 r44 H))
theorem s44_76 {kc : List va_E} {d : Nat} {M : fx_M} {Q : Option fx_V → fx_M → Prop} (H : wc kc d 45 [jR 7] M (fun v M1 => wp kc (d + 1) 44 83 [none, none] (v.toList ++ []) M1 Q)) : wp kc (d + 1) 44 76 [some (jR 0), none] [] M Q :=
  (x_aldn c44_76 rfl (x_gfr c44_77 k_0_5 (wp_wk (l' := [none, none]) trivial (x_cv (As := []) (st := []) c44_80 cl_7 kl45 rfl (Nat.le_of_ble_eq_true rfl) mx45 (Nat.le_refl _) H))))
theorem s44_83 {kc : List va_E} {d : Nat} {M : fx_M} {Q : Option fx_V → fx_M → Prop} (H : Q none M) : wp kc (d + 1) 44 83 [none, none] [] M Q :=
  (x_goto c44_83 (x_vr c44_155 r44 H))
theorem s44_95 {kc : List va_E} {d : Nat} {M : fx_M} {Q : Option fx_V → fx_M → Prop} (H : wc kc d 49 [jR 7, jR 20] M (fun v M1 => wp kc (d + 1) 44 106 [none, none] (v.toList ++ []) M1 Q)) : wp kc (d + 1) 44 95 [some (jR 0), none] [] M Q :=
  (x_aldn c44_95 rfl (x_gfr c44_96 k_0_5 (x_aldn c44_99 rfl (x_gfr c44_100 k_0_7 (wp_wk (l' := [none, none]) trivial (x_cv (As := [jR 20]) (st := []) c44_103 cl_7 kl49 rfl (Nat.le_of_ble_eq_true rfl) mx49 (Nat.le_refl _) H))))))
theorem s44_106 {kc : List va_E} {d : Nat} {M : fx_M} {Q : Option fx_V → fx_M → Prop} (H : Q none M) : wp kc (d + 1) 44 106 [none, none] [] M Q :=
  (x_goto c44_106 (x_vr c44_155 r44 H))
theorem s44_118 {kc : List va_E} {d : Nat} {M : fx_M} {Q : Option fx_V → fx_M → Prop} (H : wc kc d 58 [jR 34, jR 7] M (fun v M1 => wp kc (d + 1) 44 129 [none, none] (v.toList ++ []) M1 Q)) : wp kc (d + 1) 44 118 [some (jR 0), none] [] M Q :=
  (x_aldn c44_118 rfl (x_gfr c44_119 k_0_10 (x_aldn c44_122 rfl (x_gfr c44_123 k_0_5 (wp_wk (l' := [none, none]) trivial (x_cv (As := [jR 7]) (st := []) c44_126 cl_34 kl58 rfl (Nat.le_of_ble_eq_true rfl) mx58 (Nat.le_refl _) H))))))
theorem s44_129 {kc : List va_E} {d : Nat} {M : fx_M} {Q : Option fx_V → fx_M → Prop} (H : Q none M) : wp kc (d + 1) 44 129 [none, none] [] M Q :=
  (x_goto c44_129 (x_vr c44_155 r44 H))
theorem s44_141 {kc : List va_E} {d : Nat} {M : fx_M} {Q : Option fx_V → fx_M → Prop} (H : wc kc d 61 [jR 7, jR 20] M (fun v M1 => wp kc (d + 1) 44 152 [none, none] (v.toList ++ []) M1 Q)) : wp kc (d + 1) 44 141 [some (jR 0), none] [] M Q :=
  (x_aldn c44_141 rfl (x_gfr c44_142 k_0_5 (x_aldn c44_145 rfl (x_gfr c44_146 k_0_7 (wp_wk (l' := [none, none]) trivial (x_cv (As := [jR 20]) (st := []) c44_149 cl_7 kl61 rfl (Nat.le_of_ble_eq_true rfl) mx61 (Nat.le_refl _) H))))))
theorem s44_152 {kc : List va_E} {d : Nat} {M : fx_M} {Q : Option fx_V → fx_M → Prop} (H : Q none M) : wp kc (d + 1) 44 152 [none, none] [] M Q :=
  (x_goto c44_152 (x_vr c44_155 r44 H))
theorem s44 {kc : List va_E} {d : Nat} {x1 : Int} {M : fx_M} {Q : Option fx_V → fx_M → Prop} (H : fx_in32 x1 ∧ (x1 = 1 → wc kc d 45 [jR 7] M (fun v M1 => wp kc (d + 1) 44 59 [some (jR 0), none] (v.toList ++ []) M1 Q)) ∧ (x1 = 2 → wc kc d 48 [jR 7] M (fun v M1 => wp kc (d + 1) 44 76 [some (jR 0), none] (v.toList ++ []) M1 Q)) ∧ (x1 = 6 → wc kc d 34 [jR 7, jI 32] M (fun v M1 => wp kc (d + 1) 44 95 [some (jR 0), none] (v.toList ++ []) M1 Q)) ∧ (x1 = 15 → wc kc d 34 [jR 7, jI 32] M (fun v M1 => wp kc (d + 1) 44 118 [some (jR 0), none] (v.toList ++ []) M1 Q)) ∧ (x1 = 43 → wc kc d 34 [jR 7, jI 32] M (fun v M1 => wp kc (d + 1) 44 141 [some (jR 0), none] (v.toList ++ []) M1 Q)) ∧ (x1 ≠ 1 → x1 ≠ 2 → x1 ≠ 6 → x1 ≠ 15 → x1 ≠ 43 → Q none M)) : wc kc (d + 1) 44 [jR 0, jI x1] M Q :=
  wc_of (wp_wk (l' := [some (jR 0), some (jI x1)]) ⟨rfl, ⟨rfl, trivial⟩⟩ (s44_0 H))

theorem c205_0 : fx_op 205 0 = some (.iload_n 1, 1, 0) := by decide +kernel
theorem c205_1 : fx_op 205 1 = some (.ifCond .lt 14, 4, 15) := by decide +kernel
theorem c205_15 : fx_ci 205 15 = some ((-1), 16) := by decide +kernel
theorem c205_4 : fx_op 205 4 = some (.iload_n 1, 5, 4) := by decide +kernel
theorem c205_5 : fx_op 205 5 = some (.aload_n 0, 6, 5) := by decide +kernel
theorem c205_6 : fx_gf 205 6 = some (0, 3, 9) := by decide +kernel
theorem c205_9 : fx_gf 205 9 = some (1, 1, 12) := by decide +kernel
theorem c205_12 : fx_op 205 12 = some (.if_icmp .lt 5, 15, 17) := by decide +kernel
theorem c205_17 : fx_op 205 17 = some (.aload_n 0, 18, 17) := by decide +kernel
theorem c205_18 : fx_gf 205 18 = some (0, 3, 21) := by decide +kernel
theorem c205_21 : fx_gf 205 21 = some (1, 0, 24) := by decide +kernel
theorem c205_24 : fx_op 205 24 = some (.iload_n 1, 25, 24) := by decide +kernel
theorem c205_16 : fx_op 205 16 = some (.ireturn, 17, 16) := by decide +kernel
theorem c205_25 : fx_op 205 25 = some (.caload, 26, 25) := by decide +kernel
theorem c205_26 : fx_op 205 26 = some (.ireturn, 27, 26) := by decide +kernel
theorem s205_0 {kc : List va_E} {d : Nat} {x1 : Int} {M : fx_M} {Q : Option fx_V → fx_M → Prop} (H : ((fx_in32 x1)) ∧ (x1 < 0 → Q (some (jI (-1))) M) ∧ (0 ≤ x1 → ((fx_in32 x1) ∧ (fx_in32 (M 3 1))) ∧ (x1 < M 3 1 → (((0 : Int) ≤ x1 ∧ x1 < 5600)) ∧ Q (some (jI (M 4 x1))) M) ∧ (M 3 1 ≤ x1 → Q (some (jI (-1))) M))) : wp kc (d + 1) 205 0 [some (jR 0), some (jI x1)] [] M Q :=
  (x_ildn c205_0 rfl (x_zlt c205_1 H.1 (fun h3 => (x_ci c205_15 (x_irt c205_16 r205 (H.2.1 h3)))) (fun h4 => (x_ildn c205_4 rfl (x_aldn c205_5 rfl (x_gfr c205_6 k_0_3 (x_gfi c205_9 k_3_1 (x_clt c205_12 (H.2.2 h4).1.1 (H.2.2 h4).1.2 (fun h1 => (x_aldn c205_17 rfl (x_gfr c205_18 k_0_3 (x_gfr c205_21 k_3_0 (x_ildn c205_24 rfl (x_cald c205_25 a_4 ((H.2.2 h4).2.1 h1).1 (by decide) (x_irt c205_26 r205 ((H.2.2 h4).2.1 h1).2))))))) (fun h2 => (x_ci c205_15 (x_irt c205_16 r205 ((H.2.2 h4).2.2 h2))))))))))))
theorem s205 {kc : List va_E} {d : Nat} {x1 : Int} {M : fx_M} {Q : Option fx_V → fx_M → Prop} (H : ((fx_in32 x1)) ∧ (x1 < 0 → Q (some (jI (-1))) M) ∧ (0 ≤ x1 → ((fx_in32 x1) ∧ (fx_in32 (M 3 1))) ∧ (x1 < M 3 1 → (((0 : Int) ≤ x1 ∧ x1 < 5600)) ∧ Q (some (jI (M 4 x1))) M) ∧ (M 3 1 ≤ x1 → Q (some (jI (-1))) M))) : wc kc (d + 1) 205 [jR 0, jI x1] M Q :=
  wc_of (wp_wk (l' := [some (jR 0), some (jI x1)]) ⟨rfl, ⟨rfl, trivial⟩⟩ (s205_0 H))

theorem c206_0 : fx_op 206 0 = some (.aload_n 0, 1, 0) := by decide +kernel
theorem c206_1 : fx_gf 206 1 = some (0, 4, 4) := by decide +kernel
theorem c206_4 : fx_ca 206 4 = some (63, 1, 2, 7) := by decide +kernel
theorem c206_7 : fx_op 206 7 = some (.aload_n 0, 8, 7) := by decide +kernel
theorem c206_8 : fx_gf 206 8 = some (0, 4, 11) := by decide +kernel
theorem c206_11 : fx_cr 206 11 = some (1000181, 13) := by decide +kernel
theorem c206_13 : fx_ca 206 13 = some (64, 2, 2, 16) := by decide +kernel
theorem c206_16 : fx_op 206 16 = some (.aload_n 0, 17, 16) := by decide +kernel
theorem c206_17 : fx_gf 206 17 = some (0, 4, 20) := by decide +kernel
theorem c206_20 : fx_gf 206 20 = some (1, 0, 23) := by decide +kernel
theorem c206_23 : fx_ci 206 23 = some (0, 24) := by decide +kernel
theorem c206_24 : fx_op 206 24 = some (.aload_n 0, 25, 24) := by decide +kernel
theorem c206_25 : fx_gf 206 25 = some (0, 2, 28) := by decide +kernel
theorem c206_28 : fx_ci 206 28 = some (0, 29) := by decide +kernel
theorem c206_29 : fx_op 206 29 = some (.aload_n 0, 30, 29) := by decide +kernel
theorem c206_30 : fx_gf 206 30 = some (0, 4, 33) := by decide +kernel
theorem c206_33 : fx_gf 206 33 = some (1, 1, 36) := by decide +kernel
theorem c206_39 : fx_op 206 39 = some (.aload_n 0, 40, 39) := by decide +kernel
theorem c206_40 : fx_gf 206 40 = some (0, 3, 43) := by decide +kernel
theorem c206_43 : fx_gf 206 43 = some (1, 0, 46) := by decide +kernel
theorem c206_46 : fx_ci 206 46 = some (0, 47) := by decide +kernel
theorem c206_47 : fx_op 206 47 = some (.aload_n 0, 48, 47) := by decide +kernel
theorem c206_48 : fx_gf 206 48 = some (0, 2, 51) := by decide +kernel
theorem c206_51 : fx_op 206 51 = some (.aload_n 0, 52, 51) := by decide +kernel
theorem c206_52 : fx_gf 206 52 = some (0, 4, 55) := by decide +kernel
theorem c206_55 : fx_gf 206 55 = some (1, 1, 58) := by decide +kernel
theorem c206_58 : fx_op 206 58 = some (.aload_n 0, 59, 58) := by decide +kernel
theorem c206_59 : fx_gf 206 59 = some (0, 3, 62) := by decide +kernel
theorem c206_62 : fx_gf 206 62 = some (1, 1, 65) := by decide +kernel
theorem c206_68 : fx_op 206 68 = some (.aload_n 0, 69, 68) := by decide +kernel
theorem c206_69 : fx_op 206 69 = some (.aload_n 0, 70, 69) := by decide +kernel
theorem c206_70 : fx_gf 206 70 = some (0, 4, 73) := by decide +kernel
theorem c206_73 : fx_gf 206 73 = some (1, 1, 76) := by decide +kernel
theorem c206_76 : fx_op 206 76 = some (.aload_n 0, 77, 76) := by decide +kernel
theorem c206_77 : fx_gf 206 77 = some (0, 3, 80) := by decide +kernel
theorem c206_80 : fx_gf 206 80 = some (1, 1, 83) := by decide +kernel
theorem c206_83 : fx_op 206 83 = some (.iadd, 84, 83) := by decide +kernel
theorem c206_36 : fx_nt 206 36 = some (0, 39) := by decide +kernel
theorem c206_65 : fx_nt 206 65 = some (0, 68) := by decide +kernel
theorem c206_84 : fx_ca 206 84 = some (17, 2, 2, 87) := by decide +kernel
theorem c206_87 : fx_op 206 87 = some (.aload_n 0, 88, 87) := by decide +kernel
theorem c206_88 : fx_gf 206 88 = some (0, 3, 91) := by decide +kernel
theorem c206_91 : fx_gf 206 91 = some (1, 1, 94) := by decide +kernel
theorem c206_94 : fx_op 206 94 = some (.ireturn, 95, 94) := by decide +kernel
theorem n206_36 : xS 206 ((xI 206 36).getD .nop) = none := by decide +kernel
theorem n206_65 : xS 206 ((xI 206 65).getD .nop) = none := by decide +kernel
theorem s206_0 {kc : List va_E} {d : Nat} {M : fx_M} {Q : Option fx_V → fx_M → Prop} (H : wc kc d 63 [jR 5] M (fun v M1 => wp kc (d + 1) 206 7 [some (jR 0)] (v.toList ++ []) M1 Q)) : wp kc (d + 1) 206 0 [some (jR 0)] [] M Q :=
  (x_aldn c206_0 rfl (x_gfr c206_1 k_0_4 (wp_wk (l' := [some (jR 0)]) ⟨rfl, trivial⟩ (x_cv (As := []) (st := []) c206_4 cl_5 kl63 rfl (Nat.le_of_ble_eq_true rfl) mx63 (Nat.le_refl _) H))))
theorem s206_7 {kc : List va_E} {d : Nat} {M : fx_M} {Q : Option fx_V → fx_M → Prop} (H : wc kc d 64 [jR 5, jR 1000181] M (fun v M1 => wp kc (d + 1) 206 16 [some (jR 0)] (v.toList ++ []) M1 Q)) : wp kc (d + 1) 206 7 [some (jR 0)] [] M Q :=
  (x_aldn c206_7 rfl (x_gfr c206_8 k_0_4 (x_cr c206_11 (wp_wk (l' := [some (jR 0)]) ⟨rfl, trivial⟩ (x_cv (As := [jR 1000181]) (st := []) c206_13 cl_5 kl64 rfl (Nat.le_of_ble_eq_true rfl) mx64 (Nat.le_refl _) H)))))
theorem s206_16 {kc : List va_E} {d : Nat} {M : fx_M} {Q : Option fx_V → fx_M → Prop} (H : (((0 : Int) ≤ M 5 1 ∧ (0 : Int) ≤ 0 ∧ (0 : Int) ≤ 0 ∧ (0 : Int) + M 5 1 ≤ 512 ∧ (0 : Int) + M 5 1 ≤ 5606)) ∧ (((0 : Int) ≤ (fx_cpy M 6 0 2 0 (M 5 1)) 3 1 ∧ (0 : Int) ≤ 0 ∧ (0 : Int) ≤ (fx_cpy M 6 0 2 0 (M 5 1)) 5 1 ∧ (0 : Int) + (fx_cpy M 6 0 2 0 (M 5 1)) 3 1 ≤ 5600 ∧ ((fx_cpy M 6 0 2 0 (M 5 1)) 5 1 : Int) + (fx_cpy M 6 0 2 0 (M 5 1)) 3 1 ≤ 5606)) ∧ wc kc d 17 [jR 0, jI (((fx_cpy (fx_cpy M 6 0 2 0 (M 5 1)) 4 0 2 ((fx_cpy M 6 0 2 0 (M 5 1)) 5 1) ((fx_cpy M 6 0 2 0 (M 5 1)) 3 1)) 5 1) + ((fx_cpy (fx_cpy M 6 0 2 0 (M 5 1)) 4 0 2 ((fx_cpy M 6 0 2 0 (M 5 1)) 5 1) ((fx_cpy M 6 0 2 0 (M 5 1)) 3 1)) 3 1))] (fx_cpy (fx_cpy M 6 0 2 0 (M 5 1)) 4 0 2 ((fx_cpy M 6 0 2 0 (M 5 1)) 5 1) ((fx_cpy M 6 0 2 0 (M 5 1)) 3 1)) (fun v M1 => wp kc (d + 1) 206 87 [some (jR 0)] (v.toList ++ []) M1 Q)) : wp kc (d + 1) 206 16 [some (jR 0)] [] M Q :=
  (x_aldn c206_16 rfl (x_gfr c206_17 k_0_4 (x_gfr c206_20 k_5_0 (x_ci c206_23 (x_aldn c206_24 rfl (x_gfr c206_25 k_0_2 (x_ci c206_28 (x_aldn c206_29 rfl (x_gfr c206_30 k_0_4 (x_gfi c206_33 k_5_1 (x_cpy c206_36 n206_36 a_6 a_2 (by decide) H.1 ⟨(by decide), (by decide)⟩ (Nat.le_of_ble_eq_true rfl) (x_aldn c206_39 rfl (x_gfr c206_40 k_0_3 (x_gfr c206_43 k_3_0 (x_ci c206_46 (x_aldn c206_47 rfl (x_gfr c206_48 k_0_2 (x_aldn c206_51 rfl (x_gfr c206_52 k_0_4 (x_gfi c206_55 k_5_1 (x_aldn c206_58 rfl (x_gfr c206_59 k_0_3 (x_gfi c206_62 k_3_1 (x_cpy c206_65 n206_65 a_4 a_2 (by decide) H.2.1 ⟨(by decide), (by decide)⟩ (Nat.le_of_ble_eq_true rfl) (x_aldn c206_68 rfl (x_aldn c206_69 rfl (x_gfr c206_70 k_0_4 (x_gfi c206_73 k_5_1 (x_aldn c206_76 rfl (x_gfr c206_77 k_0_3 (x_gfi c206_80 k_3_1 (x_iadd c206_83 (wp_wk (l' := [some (jR 0)]) ⟨rfl, trivial⟩ (x_cv (As := [jI (((fx_cpy (fx_cpy M 6 0 2 0 (M 5 1)) 4 0 2 ((fx_cpy M 6 0 2 0 (M 5 1)) 5 1) ((fx_cpy M 6 0 2 0 (M 5 1)) 3 1)) 5 1) + ((fx_cpy (fx_cpy M 6 0 2 0 (M 5 1)) 4 0 2 ((fx_cpy M 6 0 2 0 (M 5 1)) 5 1) ((fx_cpy M 6 0 2 0 (M 5 1)) 3 1)) 3 1))]) (st := []) c206_84 cl_0 kl17 rfl (Nat.le_of_ble_eq_true rfl) mx17 (Nat.le_refl _) H.2.2))))))))))))))))))))))))))))))))))
theorem s206_87 {kc : List va_E} {d : Nat} {M : fx_M} {Q : Option fx_V → fx_M → Prop} (H : Q (some (jI (M 3 1))) M) : wp kc (d + 1) 206 87 [some (jR 0)] [] M Q :=
  (x_aldn c206_87 rfl (x_gfr c206_88 k_0_3 (x_gfi c206_91 k_3_1 (x_irt c206_94 r206 H))))
theorem s206 {kc : List va_E} {d : Nat} {M : fx_M} {Q : Option fx_V → fx_M → Prop} (H : wc kc d 63 [jR 5] M (fun v M1 => wp kc (d + 1) 206 7 [some (jR 0)] (v.toList ++ []) M1 Q)) : wc kc (d + 1) 206 [jR 0] M Q :=
  wc_of (wp_wk (l' := [some (jR 0)]) ⟨rfl, trivial⟩ (s206_0 H))

theorem c207_0 : fx_op 207 0 = some (.iload_n 1, 1, 0) := by decide +kernel
theorem c207_56 : fx_op 207 56 = some (.aload_n 0, 57, 56) := by decide +kernel
theorem c207_57 : fx_gf 207 57 = some (0, 6, 60) := by decide +kernel
theorem c207_60 : fx_gf 207 60 = some (3, 4, 63) := by decide +kernel
theorem c207_64 : fx_op 207 64 = some (.aload_n 0, 65, 64) := by decide +kernel
theorem c207_65 : fx_gf 207 65 = some (0, 6, 68) := by decide +kernel
theorem c207_72 : fx_op 207 72 = some (.aload_n 0, 73, 72) := by decide +kernel
theorem c207_73 : fx_gf 207 73 = some (0, 6, 76) := by decide +kernel
theorem c207_76 : fx_gf 207 76 = some (3, 2, 79) := by decide +kernel
theorem c207_80 : fx_op 207 80 = some (.aload_n 0, 81, 80) := by decide +kernel
theorem c207_81 : fx_gf 207 81 = some (0, 6, 84) := by decide +kernel
theorem c207_84 : fx_gf 207 84 = some (3, 3, 87) := by decide +kernel
theorem c207_88 : fx_op 207 88 = some (.aload_n 0, 89, 88) := by decide +kernel
theorem c207_89 : fx_gf 207 89 = some (0, 14, 92) := by decide +kernel
theorem c207_96 : fx_op 207 96 = some (.aload_n 0, 97, 96) := by decide +kernel
theorem c207_97 : fx_gf 207 97 = some (0, 16, 100) := by decide +kernel
theorem c207_100 : fx_gf 207 100 = some (11, 1, 103) := by decide +kernel
theorem c207_103 : fx_op 207 103 = some (.ifCond .eq 13, 106, 116) := by decide +kernel
theorem c207_116 : fx_ci 207 116 = some ((-1), 117) := by decide +kernel
theorem c207_106 : fx_op 207 106 = some (.aload_n 0, 107, 106) := by decide +kernel
theorem c207_107 : fx_gf 207 107 = some (0, 16, 110) := by decide +kernel
theorem c207_118 : fx_op 207 118 = some (.aload_n 0, 119, 118) := by decide +kernel
theorem c207_119 : fx_gf 207 119 = some (0, 1, 122) := by decide +kernel
theorem c207_123 : fx_op 207 123 = some (.aload_n 0, 124, 123) := by decide +kernel
theorem c207_124 : fx_gf 207 124 = some (0, 3, 127) := by decide +kernel
theorem c207_127 : fx_gf 207 127 = some (1, 1, 130) := by decide +kernel
theorem c207_131 : fx_op 207 131 = some (.aload_n 0, 132, 131) := by decide +kernel
theorem c207_132 : fx_gf 207 132 = some (0, 14, 135) := by decide +kernel
theorem c207_135 : fx_gf 207 135 = some (9, 0, 138) := by decide +kernel
theorem c207_139 : fx_op 207 139 = some (.aload_n 0, 140, 139) := by decide +kernel
theorem c207_140 : fx_gf 207 140 = some (0, 15, 143) := by decide +kernel
theorem c207_143 : fx_gf 207 143 = some (10, 0, 146) := by decide +kernel
theorem c207_147 : fx_ci 207 147 = some ((-1), 148) := by decide +kernel
theorem c207_63 : fx_op 207 63 = some (.ireturn, 64, 63) := by decide +kernel
theorem c207_68 : fx_ca 207 68 = some (97, 1, 2, 71) := by decide +kernel
theorem c207_79 : fx_op 207 79 = some (.ireturn, 80, 79) := by decide +kernel
theorem c207_87 : fx_op 207 87 = some (.ireturn, 88, 87) := by decide +kernel
theorem c207_92 : fx_ca 207 92 = some (208, 1, 2, 95) := by decide +kernel
theorem c207_117 : fx_op 207 117 = some (.ireturn, 118, 117) := by decide +kernel
theorem c207_110 : fx_ca 207 110 = some (179, 1, 2, 113) := by decide +kernel
theorem c207_122 : fx_op 207 122 = some (.ireturn, 123, 122) := by decide +kernel
theorem c207_130 : fx_op 207 130 = some (.ireturn, 131, 130) := by decide +kernel
theorem c207_138 : fx_op 207 138 = some (.ireturn, 139, 138) := by decide +kernel
theorem c207_146 : fx_op 207 146 = some (.ireturn, 147, 146) := by decide +kernel
theorem c207_1 : fx_ts 207 1 = some (0, [56, 64, 72, 80, 88, 96, 118, 123, 131, 139], 147) := by decide +kernel
theorem c207_148 : fx_op 207 148 = some (.ireturn, 149, 148) := by decide +kernel
theorem c207_71 : fx_op 207 71 = some (.ireturn, 72, 71) := by decide +kernel
theorem c207_95 : fx_op 207 95 = some (.ireturn, 96, 95) := by decide +kernel
theorem c207_113 : fx_op 207 113 = some (.goto 4, 116, 117) := by decide +kernel
theorem s207_0 {kc : List va_E} {d : Nat} {x1 : Int} {M : fx_M} {Q : Option fx_V → fx_M → Prop} (H : fx_in32 x1 ∧ (x1 = 0 → Q (some (jI (M 11 4))) M) ∧ (x1 = 1 → wc kc d 97 [jR 11] M (fun v M1 => wp kc (d + 1) 207 71 [none, none] (v.toList ++ []) M1 Q)) ∧ (x1 = 2 → Q (some (jI (M 11 2))) M) ∧ (x1 = 3 → Q (some (jI (M 11 3))) M) ∧ (x1 = 4 → wc kc d 208 [jR 53] M (fun v M1 => wp kc (d + 1) 207 95 [none, none] (v.toList ++ []) M1 Q)) ∧ (x1 = 5 → ((fx_in32 (M 125 1))) ∧ (M 125 1 = 0 → Q (some (jI (-1))) M) ∧ (M 125 1 ≠ 0 → wc kc d 179 [jR 125] M (fun v M1 => wp kc (d + 1) 207 113 [none, none] (v.toList ++ []) M1 Q))) ∧ (x1 = 6 → Q (some (jI (M 0 1))) M) ∧ (x1 = 7 → Q (some (jI (M 3 1))) M) ∧ (x1 = 8 → Q (some (jI (M 53 0))) M) ∧ (x1 = 9 → Q (some (jI (M 62 0))) M) ∧ ((x1 < 0 ∨ 10 ≤ x1) → Q (some (jI (-1))) M)) : wp kc (d + 1) 207 0 [some (jR 0), some (jI x1)] [] M Q :=
  (x_ildn c207_0 rfl (x_sw c207_1 H.1 ⟨fun h3 => (x_aldn c207_56 rfl (x_gfr c207_57 k_0_6 (x_gfi c207_60 k_11_4 (x_irt c207_63 r207 (H.2.1 h3))))), ⟨fun h4 => (x_aldn c207_64 rfl (x_gfr c207_65 k_0_6 (wp_wk (l' := [none, none]) trivial (x_cv (As := []) (st := []) c207_68 cl_11 kl97 rfl (Nat.le_of_ble_eq_true rfl) mx97 (Nat.le_refl _) (H.2.2.1 h4))))), ⟨fun h5 => (x_aldn c207_72 rfl (x_gfr c207_73 k_0_6 (x_gfi c207_76 k_11_2 (x_irt c207_79 r207 (H.2.2.2.1 h5))))), ⟨fun h6 => (x_aldn c207_80 rfl (x_gfr c207_81 k_0_6 (x_gfi c207_84 k_11_3 (x_irt c207_87 r207 (H.2.2.2.2.1 h6))))), ⟨fun h7 => (x_aldn c207_88 rfl (x_gfr c207_89 k_0_14 (wp_wk (l' := [none, none]) trivial (x_cv (As := []) (st := []) c207_92 cl_53 kl208 rfl (Nat.le_of_ble_eq_true rfl) mx208 (Nat.le_refl _) (H.2.2.2.2.2.1 h7))))), ⟨fun h8 => (x_aldn c207_96 rfl (x_gfr c207_97 k_0_16 (x_gfi c207_100 k_125_1 (x_zeq c207_103 (H.2.2.2.2.2.2.1 h8).1 (fun h1 => (x_ci c207_116 (x_irt c207_117 r207 ((H.2.2.2.2.2.2.1 h8).2.1 h1)))) (fun h2 => (x_aldn c207_106 rfl (x_gfr c207_107 k_0_16 (wp_wk (l' := [none, none]) trivial (x_cv (As := []) (st := []) c207_110 cl_125 kl179 rfl (Nat.le_of_ble_eq_true rfl) mx179 (Nat.le_refl _) ((H.2.2.2.2.2.2.1 h8).2.2 h2)))))))))), ⟨fun h9 => (x_aldn c207_118 rfl (x_gfi c207_119 k_0_1 (x_irt c207_122 r207 (H.2.2.2.2.2.2.2.1 h9)))), ⟨fun h10 => (x_aldn c207_123 rfl (x_gfr c207_124 k_0_3 (x_gfi c207_127 k_3_1 (x_irt c207_130 r207 (H.2.2.2.2.2.2.2.2.1 h10))))), ⟨fun h11 => (x_aldn c207_131 rfl (x_gfr c207_132 k_0_14 (x_gfi c207_135 k_53_0 (x_irt c207_138 r207 (H.2.2.2.2.2.2.2.2.2.1 h11))))), ⟨fun h12 => (x_aldn c207_139 rfl (x_gfr c207_140 k_0_15 (x_gfi c207_143 k_62_0 (x_irt c207_146 r207 (H.2.2.2.2.2.2.2.2.2.2.1 h12))))), trivial⟩⟩⟩⟩⟩⟩⟩⟩⟩⟩ (fun h13 => (x_ci c207_147 (x_irt c207_148 r207 (H.2.2.2.2.2.2.2.2.2.2.2 h13))))))
theorem s207_71 {kc : List va_E} {d : Nat} {u0 : Int} {M : fx_M} {Q : Option fx_V → fx_M → Prop} (H : Q (some (jI u0)) M) : wp kc (d + 1) 207 71 [none, none] [jI u0] M Q :=
  (x_irt c207_71 r207 H)
theorem s207_95 {kc : List va_E} {d : Nat} {u0 : Int} {M : fx_M} {Q : Option fx_V → fx_M → Prop} (H : Q (some (jI u0)) M) : wp kc (d + 1) 207 95 [none, none] [jI u0] M Q :=
  (x_irt c207_95 r207 H)
theorem s207_113 {kc : List va_E} {d : Nat} {u0 : Int} {M : fx_M} {Q : Option fx_V → fx_M → Prop} (H : Q (some (jI u0)) M) : wp kc (d + 1) 207 113 [none, none] [jI u0] M Q :=
  (x_goto c207_113 (x_irt c207_117 r207 H))
theorem s207 {kc : List va_E} {d : Nat} {x1 : Int} {M : fx_M} {Q : Option fx_V → fx_M → Prop} (H : fx_in32 x1 ∧ (x1 = 0 → Q (some (jI (M 11 4))) M) ∧ (x1 = 1 → wc kc d 97 [jR 11] M (fun v M1 => wp kc (d + 1) 207 71 [none, none] (v.toList ++ []) M1 Q)) ∧ (x1 = 2 → Q (some (jI (M 11 2))) M) ∧ (x1 = 3 → Q (some (jI (M 11 3))) M) ∧ (x1 = 4 → wc kc d 208 [jR 53] M (fun v M1 => wp kc (d + 1) 207 95 [none, none] (v.toList ++ []) M1 Q)) ∧ (x1 = 5 → ((fx_in32 (M 125 1))) ∧ (M 125 1 = 0 → Q (some (jI (-1))) M) ∧ (M 125 1 ≠ 0 → wc kc d 179 [jR 125] M (fun v M1 => wp kc (d + 1) 207 113 [none, none] (v.toList ++ []) M1 Q))) ∧ (x1 = 6 → Q (some (jI (M 0 1))) M) ∧ (x1 = 7 → Q (some (jI (M 3 1))) M) ∧ (x1 = 8 → Q (some (jI (M 53 0))) M) ∧ (x1 = 9 → Q (some (jI (M 62 0))) M) ∧ ((x1 < 0 ∨ 10 ≤ x1) → Q (some (jI (-1))) M)) : wc kc (d + 1) 207 [jR 0, jI x1] M Q :=
  wc_of (wp_wk (l' := [some (jR 0), some (jI x1)]) ⟨rfl, ⟨rfl, trivial⟩⟩ (s207_0 H))

theorem c209_0 : fx_op 209 0 = some (.iload_n 1, 1, 0) := by decide +kernel
theorem c209_1 : fx_op 209 1 = some (.iload_n 2, 2, 1) := by decide +kernel
theorem c209_2 : fx_ca 209 2 = some (210, 2, 0, 5) := by decide +kernel
theorem c209_5 : fx_op 209 5 = some (.ifCond .eq 20, 8, 25) := by decide +kernel
theorem c209_25 : fx_ci 209 25 = some ((-1), 26) := by decide +kernel
theorem c209_8 : fx_op 209 8 = some (.aload_n 0, 9, 8) := by decide +kernel
theorem c209_9 : fx_gf 209 9 = some (0, 16, 12) := by decide +kernel
theorem c209_12 : fx_gf 209 12 = some (11, 0, 15) := by decide +kernel
theorem c209_15 : fx_ci 209 15 = some (32, 17) := by decide +kernel
theorem c209_17 : fx_op 209 17 = some (.iload_n 1, 18, 17) := by decide +kernel
theorem c209_18 : fx_op 209 18 = some (.imul, 19, 18) := by decide +kernel
theorem c209_19 : fx_op 209 19 = some (.iload_n 2, 20, 19) := by decide +kernel
theorem c209_20 : fx_op 209 20 = some (.iadd, 21, 20) := by decide +kernel
theorem c209_21 : fx_op 209 21 = some (.caload, 22, 21) := by decide +kernel
theorem c209_22 : fx_op 209 22 = some (.goto 4, 25, 26) := by decide +kernel
theorem c209_26 : fx_op 209 26 = some (.ireturn, 27, 26) := by decide +kernel
theorem s209_0 {kc : List va_E} {d : Nat} {x1 x2 : Int} {M : fx_M} {Q : Option fx_V → fx_M → Prop} (H : wc kc d 210 [jI x1, jI x2] M (fun v M1 => wp kc (d + 1) 209 5 [some (jR 0), some (jI x1), some (jI x2)] (v.toList ++ []) M1 Q)) : wp kc (d + 1) 209 0 [some (jR 0), some (jI x1), some (jI x2)] [] M Q :=
  (x_ildn c209_0 rfl (x_ildn c209_1 rfl (wp_wk (l' := [some (jR 0), some (jI x1), some (jI x2)]) ⟨rfl, ⟨rfl, ⟨rfl, trivial⟩⟩⟩ (x_cs (As := [jI x1, jI x2]) (st := []) c209_2 (by decide) rfl (Nat.le_of_ble_eq_true rfl) mx210 (Nat.le_refl _) H))))
theorem s209_5 {kc : List va_E} {d : Nat} {v1 v2 u0 : Int} {M : fx_M} {Q : Option fx_V → fx_M → Prop} (H : ((fx_in32 u0)) ∧ (u0 ≠ 0 → ((((0 : Int) ≤ (32 * v1) + v2 ∧ (32 * v1) + v2 < 1024)))) ∧ Q (some (jI (if u0 = 0 then ((-1) : Int) else M 126 ((32 * v1) + v2)))) M) : wp kc (d + 1) 209 5 [some (jR 0), some (jI v1), some (jI v2)] [jI u0] M Q :=
  (have K : wp kc (d + 1) 209 26 [none, none, none] [jI (if u0 = 0 then ((-1) : Int) else M 126 ((32 * v1) + v2))] M Q := (x_irt c209_26 r209 H.2.2); (x_zeq c209_5 H.1 (fun (h1 : u0 = 0) => (x_ci c209_25 (wp_wk (l' := [none, none, none]) trivial (by have K := K; first | (simp only [if_pos h1] at K ⊢; exact K) | (exfalso; omega))))) (fun (h2 : u0 ≠ 0) => (x_aldn c209_8 rfl (x_gfr c209_9 k_0_16 (x_gfr c209_12 k_125_0 (x_ci c209_15 (x_ildn c209_17 rfl (x_imul c209_18 (x_ildn c209_19 rfl (x_iadd c209_20 (x_cald c209_21 a_126 (H.2.1 h2) (by decide) (x_goto c209_22 (wp_wk (l' := [none, none, none]) trivial (by have K := K; first | (simp only [if_neg h2] at K ⊢; exact K) | (exfalso; omega))))))))))))))))
theorem s209 {kc : List va_E} {d : Nat} {x1 x2 : Int} {M : fx_M} {Q : Option fx_V → fx_M → Prop} (H : wc kc d 210 [jI x1, jI x2] M (fun v M1 => wp kc (d + 1) 209 5 [some (jR 0), some (jI x1), some (jI x2)] (v.toList ++ []) M1 Q)) : wc kc (d + 1) 209 [jR 0, jI x1, jI x2] M Q :=
  wc_of (wp_wk (l' := [some (jR 0), some (jI x1), some (jI x2)]) ⟨rfl, ⟨rfl, ⟨rfl, trivial⟩⟩⟩ (s209_0 H))

theorem c211_0 : fx_op 211 0 = some (.iload_n 1, 1, 0) := by decide +kernel
theorem c211_1 : fx_op 211 1 = some (.iload_n 2, 2, 1) := by decide +kernel
theorem c211_2 : fx_ca 211 2 = some (210, 2, 0, 5) := by decide +kernel
theorem c211_5 : fx_op 211 5 = some (.ifCond .eq 15, 8, 20) := by decide +kernel
theorem c211_20 : fx_ci 211 20 = some (0, 21) := by decide +kernel
theorem c211_8 : fx_op 211 8 = some (.iload_n 3, 9, 8) := by decide +kernel
theorem c211_9 : fx_ci 211 9 = some (1, 10) := by decide +kernel
theorem c211_10 : fx_op 211 10 = some (.if_icmp .lt 10, 13, 20) := by decide +kernel
theorem c211_13 : fx_op 211 13 = some (.iload_n 3, 14, 13) := by decide +kernel
theorem c211_14 : fx_ci 211 14 = some (255, 17) := by decide +kernel
theorem c211_17 : fx_op 211 17 = some (.if_icmp .le 5, 20, 22) := by decide +kernel
theorem c211_22 : fx_op 211 22 = some (.aload_n 0, 23, 22) := by decide +kernel
theorem c211_23 : fx_gf 211 23 = some (0, 16, 26) := by decide +kernel
theorem c211_26 : fx_ci 211 26 = some (32, 28) := by decide +kernel
theorem c211_28 : fx_op 211 28 = some (.iload_n 1, 29, 28) := by decide +kernel
theorem c211_29 : fx_op 211 29 = some (.imul, 30, 29) := by decide +kernel
theorem c211_30 : fx_op 211 30 = some (.iload_n 2, 31, 30) := by decide +kernel
theorem c211_31 : fx_op 211 31 = some (.iadd, 32, 31) := by decide +kernel
theorem c211_32 : fx_op 211 32 = some (.iload_n 3, 33, 32) := by decide +kernel
theorem c211_21 : fx_op 211 21 = some (.ireturn, 22, 21) := by decide +kernel
theorem c211_33 : fx_ca 211 33 = some (212, 3, 2, 36) := by decide +kernel
theorem c211_36 : fx_ci 211 36 = some (1, 37) := by decide +kernel
theorem c211_37 : fx_op 211 37 = some (.ireturn, 38, 37) := by decide +kernel
theorem s211_0 {kc : List va_E} {d : Nat} {x1 x2 x3 : Int} {M : fx_M} {Q : Option fx_V → fx_M → Prop} (H : wc kc d 210 [jI x1, jI x2] M (fun v M1 => wp kc (d + 1) 211 5 [some (jR 0), some (jI x1), some (jI x2), some (jI x3)] (v.toList ++ []) M1 Q)) : wp kc (d + 1) 211 0 [some (jR 0), some (jI x1), some (jI x2), some (jI x3)] [] M Q :=
  (x_ildn c211_0 rfl (x_ildn c211_1 rfl (wp_wk (l' := [some (jR 0), some (jI x1), some (jI x2), some (jI x3)]) ⟨rfl, ⟨rfl, ⟨rfl, ⟨rfl, trivial⟩⟩⟩⟩ (x_cs (As := [jI x1, jI x2]) (st := []) c211_2 (by decide) rfl (Nat.le_of_ble_eq_true rfl) mx210 (Nat.le_refl _) H))))
theorem s211_5 {kc : List va_E} {d : Nat} {v1 v2 v3 u0 : Int} {M : fx_M} {Q : Option fx_V → fx_M → Prop} (H : ((fx_in32 u0)) ∧ (u0 = 0 → Q (some (jI 0)) M) ∧ (u0 ≠ 0 → ((fx_in32 v3)) ∧ (v3 < 1 → Q (some (jI 0)) M) ∧ (1 ≤ v3 → ((fx_in32 v3)) ∧ (v3 ≤ 255 → wc kc d 212 [jR 125, jI ((32 * v1) + v2), jI v3] M (fun v M1 => wp kc (d + 1) 211 36 [none, none, none, none] (v.toList ++ []) M1 Q)) ∧ (255 < v3 → Q (some (jI 0)) M)))) : wp kc (d + 1) 211 5 [some (jR 0), some (jI v1), some (jI v2), some (jI v3)] [jI u0] M Q :=
  (x_zeq c211_5 H.1 (fun h5 => (x_ci c211_20 (x_zrt c211_21 r211 (by decide) (H.2.1 h5)))) (fun h6 => (x_ildn c211_8 rfl (x_ci c211_9 (x_clt c211_10 (H.2.2 h6).1 (by decide) (fun h3 => (x_ci c211_20 (x_zrt c211_21 r211 (by decide) ((H.2.2 h6).2.1 h3)))) (fun h4 => (x_ildn c211_13 rfl (x_ci c211_14 (x_cle c211_17 ((H.2.2 h6).2.2 h4).1 (by decide) (fun h1 => (x_aldn c211_22 rfl (x_gfr c211_23 k_0_16 (x_ci c211_26 (x_ildn c211_28 rfl (x_imul c211_29 (x_ildn c211_30 rfl (x_iadd c211_31 (x_ildn c211_32 rfl (wp_wk (l' := [none, none, none, none]) trivial (x_cv (As := [jI ((32 * v1) + v2), jI v3]) (st := []) c211_33 cl_125 kl212 rfl (Nat.le_of_ble_eq_true rfl) mx212 (Nat.le_refl _) (((H.2.2 h6).2.2 h4).2.1 h1)))))))))))) (fun h2 => (x_ci c211_20 (x_zrt c211_21 r211 (by decide) (((H.2.2 h6).2.2 h4).2.2 h2)))))))))))))
theorem s211_36 {kc : List va_E} {d : Nat} {M : fx_M} {Q : Option fx_V → fx_M → Prop} (H : Q (some (jI 1)) M) : wp kc (d + 1) 211 36 [none, none, none, none] [] M Q :=
  (x_ci c211_36 (x_zrt c211_37 r211 (by decide) H))
theorem s211 {kc : List va_E} {d : Nat} {x1 x2 x3 : Int} {M : fx_M} {Q : Option fx_V → fx_M → Prop} (H : wc kc d 210 [jI x1, jI x2] M (fun v M1 => wp kc (d + 1) 211 5 [some (jR 0), some (jI x1), some (jI x2), some (jI x3)] (v.toList ++ []) M1 Q)) : wc kc (d + 1) 211 [jR 0, jI x1, jI x2, jI x3] M Q :=
  wc_of (wp_wk (l' := [some (jR 0), some (jI x1), some (jI x2), some (jI x3)]) ⟨rfl, ⟨rfl, ⟨rfl, ⟨rfl, trivial⟩⟩⟩⟩ (s211_0 H))

theorem c216_0 : fx_op 216 0 = some (.aload_n 0, 1, 0) := by decide +kernel
theorem c216_1 : fx_ci 216 1 = some (0, 2) := by decide +kernel
theorem c216_2 : fx_pf 216 2 = some (12, 0, 0, 5) := by decide +kernel
theorem c216_5 : fx_op 216 5 = some (.aload_n 0, 6, 5) := by decide +kernel
theorem c216_6 : fx_gf 216 6 = some (12, 1, 9) := by decide +kernel
theorem c216_9 : fx_ci 216 9 = some (20, 11) := by decide +kernel
theorem c216_11 : fx_op 216 11 = some (.iadd, 12, 11) := by decide +kernel
theorem c216_12 : fx_ci 216 12 = some (3200, 15) := by decide +kernel
theorem c216_15 : fx_op 216 15 = some (.if_icmp .le 5, 18, 20) := by decide +kernel
theorem c216_20 : fx_op 216 20 = some (.aload_n 0, 21, 20) := by decide +kernel
theorem c216_21 : fx_op 216 21 = some (.iload_n 1, 22, 21) := by decide +kernel
theorem c216_18 : fx_ci 216 18 = some ((-1), 19) := by decide +kernel
theorem c216_22 : fx_ca 216 22 = some (217, 2, 2, 25) := by decide +kernel
theorem c216_19 : fx_op 216 19 = some (.ireturn, 20, 19) := by decide +kernel
theorem c216_25 : fx_op 216 25 = some (.aload_n 0, 26, 25) := by decide +kernel
theorem c216_26 : fx_op 216 26 = some (.iload_n 2, 27, 26) := by decide +kernel
theorem c216_27 : fx_ca 216 27 = some (217, 2, 2, 30) := by decide +kernel
theorem c216_30 : fx_op 216 30 = some (.aload_n 0, 31, 30) := by decide +kernel
theorem c216_31 : fx_op 216 31 = some (.iload_n 3, 32, 31) := by decide +kernel
theorem c216_32 : fx_ca 216 32 = some (217, 2, 2, 35) := by decide +kernel
theorem c216_35 : fx_op 216 35 = some (.aload_n 0, 36, 35) := by decide +kernel
theorem c216_36 : fx_op 216 36 = some (.iload 4, 38, 36) := by decide +kernel
theorem c216_38 : fx_ca 216 38 = some (217, 2, 2, 41) := by decide +kernel
theorem c216_41 : fx_op 216 41 = some (.aload_n 0, 42, 41) := by decide +kernel
theorem c216_42 : fx_op 216 42 = some (.iload 5, 44, 42) := by decide +kernel
theorem c216_44 : fx_ca 216 44 = some (217, 2, 2, 47) := by decide +kernel
theorem c216_47 : fx_op 216 47 = some (.aload_n 0, 48, 47) := by decide +kernel
theorem c216_48 : fx_gf 216 48 = some (12, 1, 51) := by decide +kernel
theorem c216_51 : fx_op 216 51 = some (.ireturn, 52, 51) := by decide +kernel
theorem s216_0 {kc : List va_E} {d : Nat} {x1 x2 x3 x4 x5 : Int} {M : fx_M} {Q : Option fx_V → fx_M → Prop} (H : ((fx_in32 ((M 133 1) + 20))) ∧ ((M 133 1) + 20 ≤ 3200 → wc kc d 217 [jR 133, jI x1] (fx_up M 133 0 0) (fun v M1 => wp kc (d + 1) 216 25 [some (jR 133), none, some (jI x2), some (jI x3), some (jI x4), some (jI x5)] (v.toList ++ []) M1 Q)) ∧ (3200 < (M 133 1) + 20 → Q (some (jI (-1))) (fx_up M 133 0 0))) : wp kc (d + 1) 216 0 [some (jR 133), some (jI x1), some (jI x2), some (jI x3), some (jI x4), some (jI x5)] [] M Q :=
  (x_aldn c216_0 rfl (x_ci c216_1 (x_pfi c216_2 k_133_0 (x_aldn c216_5 rfl (x_gfi c216_6 k_133_1 (wp_vI (fx_upK (by decide)) (x_ci c216_9 (x_iadd c216_11 (x_ci c216_12 (x_cle c216_15 H.1 (by decide) (fun h1 => (x_aldn c216_20 rfl (x_ildn c216_21 rfl (wp_wk (l' := [some (jR 133), none, some (jI x2), some (jI x3), some (jI x4), some (jI x5)]) ⟨rfl, ⟨rfl, ⟨rfl, ⟨rfl, ⟨rfl, trivial⟩⟩⟩⟩⟩ (x_cv (As := [jI x1]) (st := []) c216_22 cl_133 kl217 rfl (Nat.le_of_ble_eq_true rfl) mx217 (Nat.le_refl _) (H.2.1 h1)))))) (fun h2 => (x_ci c216_18 (x_irt c216_19 r216 (H.2.2 h2))))))))))))))
theorem s216_25 {kc : List va_E} {d : Nat} {v2 v3 v4 v5 : Int} {M : fx_M} {Q : Option fx_V → fx_M → Prop} (H : wc kc d 217 [jR 133, jI v2] M (fun v M1 => wp kc (d + 1) 216 30 [some (jR 133), none, none, some (jI v3), some (jI v4), some (jI v5)] (v.toList ++ []) M1 Q)) : wp kc (d + 1) 216 25 [some (jR 133), none, some (jI v2), some (jI v3), some (jI v4), some (jI v5)] [] M Q :=
  (x_aldn c216_25 rfl (x_ildn c216_26 rfl (wp_wk (l' := [some (jR 133), none, none, some (jI v3), some (jI v4), some (jI v5)]) ⟨rfl, ⟨rfl, ⟨rfl, ⟨rfl, trivial⟩⟩⟩⟩ (x_cv (As := [jI v2]) (st := []) c216_27 cl_133 kl217 rfl (Nat.le_of_ble_eq_true rfl) mx217 (Nat.le_refl _) H))))
theorem s216_30 {kc : List va_E} {d : Nat} {v3 v4 v5 : Int} {M : fx_M} {Q : Option fx_V → fx_M → Prop} (H : wc kc d 217 [jR 133, jI v3] M (fun v M1 => wp kc (d + 1) 216 35 [some (jR 133), none, none, none, some (jI v4), some (jI v5)] (v.toList ++ []) M1 Q)) : wp kc (d + 1) 216 30 [some (jR 133), none, none, some (jI v3), some (jI v4), some (jI v5)] [] M Q :=
  (x_aldn c216_30 rfl (x_ildn c216_31 rfl (wp_wk (l' := [some (jR 133), none, none, none, some (jI v4), some (jI v5)]) ⟨rfl, ⟨rfl, ⟨rfl, trivial⟩⟩⟩ (x_cv (As := [jI v3]) (st := []) c216_32 cl_133 kl217 rfl (Nat.le_of_ble_eq_true rfl) mx217 (Nat.le_refl _) H))))
theorem s216_35 {kc : List va_E} {d : Nat} {v4 v5 : Int} {M : fx_M} {Q : Option fx_V → fx_M → Prop} (H : wc kc d 217 [jR 133, jI v4] M (fun v M1 => wp kc (d + 1) 216 41 [some (jR 133), none, none, none, none, some (jI v5)] (v.toList ++ []) M1 Q)) : wp kc (d + 1) 216 35 [some (jR 133), none, none, none, some (jI v4), some (jI v5)] [] M Q :=
  (x_aldn c216_35 rfl (x_ild c216_36 rfl (wp_wk (l' := [some (jR 133), none, none, none, none, some (jI v5)]) ⟨rfl, ⟨rfl, trivial⟩⟩ (x_cv (As := [jI v4]) (st := []) c216_38 cl_133 kl217 rfl (Nat.le_of_ble_eq_true rfl) mx217 (Nat.le_refl _) H))))
theorem s216_41 {kc : List va_E} {d : Nat} {v5 : Int} {M : fx_M} {Q : Option fx_V → fx_M → Prop} (H : wc kc d 217 [jR 133, jI v5] M (fun v M1 => wp kc (d + 1) 216 47 [some (jR 133), none, none, none, none, none] (v.toList ++ []) M1 Q)) : wp kc (d + 1) 216 41 [some (jR 133), none, none, none, none, some (jI v5)] [] M Q :=
  (x_aldn c216_41 rfl (x_ild c216_42 rfl (wp_wk (l' := [some (jR 133), none, none, none, none, none]) ⟨rfl, trivial⟩ (x_cv (As := [jI v5]) (st := []) c216_44 cl_133 kl217 rfl (Nat.le_of_ble_eq_true rfl) mx217 (Nat.le_refl _) H))))
theorem s216_47 {kc : List va_E} {d : Nat} {M : fx_M} {Q : Option fx_V → fx_M → Prop} (H : Q (some (jI (M 133 1))) M) : wp kc (d + 1) 216 47 [some (jR 133), none, none, none, none, none] [] M Q :=
  (x_aldn c216_47 rfl (x_gfi c216_48 k_133_1 (x_irt c216_51 r216 H)))
theorem s216 {kc : List va_E} {d : Nat} {x1 x2 x3 x4 x5 : Int} {M : fx_M} {Q : Option fx_V → fx_M → Prop} (H : ((fx_in32 ((M 133 1) + 20))) ∧ ((M 133 1) + 20 ≤ 3200 → wc kc d 217 [jR 133, jI x1] (fx_up M 133 0 0) (fun v M1 => wp kc (d + 1) 216 25 [some (jR 133), none, some (jI x2), some (jI x3), some (jI x4), some (jI x5)] (v.toList ++ []) M1 Q)) ∧ (3200 < (M 133 1) + 20 → Q (some (jI (-1))) (fx_up M 133 0 0))) : wc kc (d + 1) 216 [jR 133, jI x1, jI x2, jI x3, jI x4, jI x5] M Q :=
  wc_of (wp_wk (l' := [some (jR 133), some (jI x1), some (jI x2), some (jI x3), some (jI x4), some (jI x5)]) ⟨rfl, ⟨rfl, ⟨rfl, ⟨rfl, ⟨rfl, ⟨rfl, trivial⟩⟩⟩⟩⟩⟩ (s216_0 H))

theorem c217_0 : fx_ci 217 0 = some (3, 1) := by decide +kernel
theorem c217_1 : fx_op 217 1 = some (.istore_n 2, 2, 1) := by decide +kernel
theorem c217_2 : fx_op 217 2 = some (.iload_n 2, 3, 2) := by decide +kernel
theorem c217_3 : fx_op 217 3 = some (.ifCond .lt 38, 6, 41) := by decide +kernel
theorem c217_6 : fx_op 217 6 = some (.aload_n 0, 7, 6) := by decide +kernel
theorem c217_7 : fx_gf 217 7 = some (12, 2, 10) := by decide +kernel
theorem c217_10 : fx_op 217 10 = some (.aload_n 0, 11, 10) := by decide +kernel
theorem c217_11 : fx_gf 217 11 = some (12, 1, 14) := by decide +kernel
theorem c217_14 : fx_op 217 14 = some (.iload_n 1, 15, 14) := by decide +kernel
theorem c217_15 : fx_ci 217 15 = some (8, 17) := by decide +kernel
theorem c217_17 : fx_op 217 17 = some (.iload_n 2, 18, 17) := by decide +kernel
theorem c217_18 : fx_op 217 18 = some (.imul, 19, 18) := by decide +kernel
theorem c217_19 : fx_op 217 19 = some (.ishr, 20, 19) := by decide +kernel
theorem c217_20 : fx_ci 217 20 = some (255, 23) := by decide +kernel
theorem c217_23 : fx_op 217 23 = some (.iand, 24, 23) := by decide +kernel
theorem c217_25 : fx_op 217 25 = some (.aload_n 0, 26, 25) := by decide +kernel
theorem c217_26 : fx_op 217 26 = some (.dup, 27, 26) := by decide +kernel
theorem c217_27 : fx_gf 217 27 = some (12, 1, 30) := by decide +kernel
theorem c217_30 : fx_ci 217 30 = some (1, 31) := by decide +kernel
theorem c217_31 : fx_op 217 31 = some (.iadd, 32, 31) := by decide +kernel
theorem c217_32 : fx_pf 217 32 = some (12, 1, 0, 35) := by decide +kernel
theorem c217_35 : fx_op 217 35 = some (.iinc 2 (-1), 38, 35) := by decide +kernel
theorem c217_41 : fx_op 217 41 = some (.return_, 42, 41) := by decide +kernel
theorem c217_24 : fx_op 217 24 = some (.iastore, 25, 24) := by decide +kernel
theorem c217_38 : fx_op 217 38 = some (.goto (-36), 41, 2) := by decide +kernel
theorem s217_0 {kc : List va_E} {d : Nat} {x1 : Int} {M : fx_M} {Q : Option fx_V → fx_M → Prop} (H : wp kc (d + 1) 217 2 [some (jR 133), some (jI x1), some (jI 3)] [] M Q) : wp kc (d + 1) 217 0 [some (jR 133), some (jI x1), none] [] M Q :=
  (x_ci c217_0 (x_istn (l' := [some (jR 133), some (jI x1), some (jI 3)]) c217_1 rfl (wp_wk (l' := [some (jR 133), some (jI x1), some (jI 3)]) ⟨rfl, ⟨rfl, ⟨rfl, trivial⟩⟩⟩ H)))
theorem s217_2 {kc : List va_E} {d : Nat} {v1 v2 : Int} {M : fx_M} {Q : Option fx_V → fx_M → Prop} (H : ((fx_in32 v2)) ∧ (v2 < 0 → Q none M) ∧ (0 ≤ v2 → (((0 : Int) ≤ M 133 1 ∧ M 133 1 < 3200)) ∧ wp kc (d + 1) 217 2 [some (jR 133), some (jI v1), some (jI (v2 + (-1)))] [] (fx_up (fx_up M 134 (M 133 1) (fx_and (fx_shr v1 (8 * v2)) 255)) 133 1 ((M 133 1) + 1)) Q)) : wp kc (d + 1) 217 2 [some (jR 133), some (jI v1), some (jI v2)] [] M Q :=
  (x_ildn c217_2 rfl (x_zlt c217_3 H.1 (fun h1 => (x_vr c217_41 r217 (H.2.1 h1))) (fun h2 => (x_aldn c217_6 rfl (x_gfr c217_7 k_133_2 (x_aldn c217_10 rfl (x_gfi c217_11 k_133_1 (x_ildn c217_14 rfl (x_ci c217_15 (x_ildn c217_17 rfl (x_imul c217_18 (x_ishr c217_19 (x_ci c217_20 (x_iand c217_23 (x_iast c217_24 a_134 (H.2.2 h2).1 (by decide) (x_aldn c217_25 rfl (x_dupr c217_26 (x_gfi c217_27 k_133_1 (wp_vI (fx_upA (by decide)) (x_ci c217_30 (x_iadd c217_31 (x_pfi c217_32 k_133_1 (x_inc (l' := [some (jR 133), some (jI v1), some (jI (v2 + (-1)))]) c217_35 rfl rfl (x_goto c217_38 (wp_wk (l' := [some (jR 133), some (jI v1), some (jI (v2 + (-1)))]) ⟨rfl, ⟨rfl, ⟨rfl, trivial⟩⟩⟩ (H.2.2 h2).2)))))))))))))))))))))))))
theorem s217 {kc : List va_E} {d : Nat} {x1 : Int} {M : fx_M} {Q : Option fx_V → fx_M → Prop} (H : wp kc (d + 1) 217 2 [some (jR 133), some (jI x1), some (jI 3)] [] M Q) : wc kc (d + 1) 217 [jR 133, jI x1] M Q :=
  wc_of (wp_wk (l' := [some (jR 133), some (jI x1), none]) ⟨rfl, ⟨rfl, trivial⟩⟩ (s217_0 H))

theorem c218_0 : fx_op 218 0 = some (.aload_n 0, 1, 0) := by decide +kernel
theorem c218_1 : fx_ci 218 1 = some (0, 2) := by decide +kernel
theorem c218_2 : fx_pf 218 2 = some (12, 0, 0, 5) := by decide +kernel
theorem c218_5 : fx_op 218 5 = some (.iload_n 1, 6, 5) := by decide +kernel
theorem c218_6 : fx_op 218 6 = some (.ifCond .lt 11, 9, 17) := by decide +kernel
theorem c218_17 : fx_ci 218 17 = some ((-1), 18) := by decide +kernel
theorem c218_9 : fx_op 218 9 = some (.iload_n 1, 10, 9) := by decide +kernel
theorem c218_10 : fx_op 218 10 = some (.aload_n 0, 11, 10) := by decide +kernel
theorem c218_11 : fx_gf 218 11 = some (12, 1, 14) := by decide +kernel
theorem c218_14 : fx_op 218 14 = some (.if_icmp .le 5, 17, 19) := by decide +kernel
theorem c218_19 : fx_ci 218 19 = some (0, 20) := by decide +kernel
theorem c218_20 : fx_op 218 20 = some (.istore_n 2, 21, 20) := by decide +kernel
theorem c218_18 : fx_op 218 18 = some (.ireturn, 19, 18) := by decide +kernel
theorem c218_21 : fx_op 218 21 = some (.iload_n 2, 22, 21) := by decide +kernel
theorem c218_22 : fx_op 218 22 = some (.iload_n 1, 23, 22) := by decide +kernel
theorem c218_23 : fx_op 218 23 = some (.if_icmp .ge 21, 26, 44) := by decide +kernel
theorem c218_26 : fx_op 218 26 = some (.aload_n 0, 27, 26) := by decide +kernel
theorem c218_27 : fx_gf 218 27 = some (12, 4, 30) := by decide +kernel
theorem c218_30 : fx_op 218 30 = some (.iload_n 2, 31, 30) := by decide +kernel
theorem c218_31 : fx_op 218 31 = some (.aload_n 0, 32, 31) := by decide +kernel
theorem c218_32 : fx_gf 218 32 = some (12, 2, 35) := by decide +kernel
theorem c218_35 : fx_op 218 35 = some (.iload_n 2, 36, 35) := by decide +kernel
theorem c218_36 : fx_op 218 36 = some (.iaload, 37, 36) := by decide +kernel
theorem c218_44 : fx_op 218 44 = some (.aload_n 0, 45, 44) := by decide +kernel
theorem c218_45 : fx_op 218 45 = some (.iload_n 1, 46, 45) := by decide +kernel
theorem c218_46 : fx_pf 218 46 = some (12, 3, 0, 49) := by decide +kernel
theorem c218_49 : fx_op 218 49 = some (.aload_n 0, 50, 49) := by decide +kernel
theorem c218_50 : fx_ci 218 50 = some (0, 51) := by decide +kernel
theorem c218_51 : fx_pf 218 51 = some (12, 1, 0, 54) := by decide +kernel
theorem c218_54 : fx_op 218 54 = some (.aload_n 0, 55, 54) := by decide +kernel
theorem c218_38 : fx_op 218 38 = some (.iinc 2 1, 41, 38) := by decide +kernel
theorem c218_55 : fx_ca 218 55 = some (219, 1, 2, 58) := by decide +kernel
theorem c218_37 : fx_op 218 37 = some (.iastore, 38, 37) := by decide +kernel
theorem c218_41 : fx_op 218 41 = some (.goto (-20), 44, 21) := by decide +kernel
theorem c218_58 : fx_op 218 58 = some (.ireturn, 59, 58) := by decide +kernel
theorem s218_0 {kc : List va_E} {d : Nat} {x1 : Int} {M : fx_M} {Q : Option fx_V → fx_M → Prop} (H : ((fx_in32 x1)) ∧ (x1 < 0 → Q (some (jI (-1))) (fx_up M 133 0 0)) ∧ (0 ≤ x1 → ((fx_in32 x1) ∧ (fx_in32 (M 133 1))) ∧ (x1 ≤ M 133 1 → wp kc (d + 1) 218 21 [some (jR 133), some (jI x1), some (jI 0)] [] (fx_up M 133 0 0) Q) ∧ (M 133 1 < x1 → Q (some (jI (-1))) (fx_up M 133 0 0)))) : wp kc (d + 1) 218 0 [some (jR 133), some (jI x1), none] [] M Q :=
  (x_aldn c218_0 rfl (x_ci c218_1 (x_pfi c218_2 k_133_0 (x_ildn c218_5 rfl (x_zlt c218_6 H.1 (fun h3 => (x_ci c218_17 (x_irt c218_18 r218 (H.2.1 h3)))) (fun h4 => (x_ildn c218_9 rfl (x_aldn c218_10 rfl (x_gfi c218_11 k_133_1 (wp_vI (fx_upK (by decide)) (x_cle c218_14 (H.2.2 h4).1.1 (H.2.2 h4).1.2 (fun h1 => (x_ci c218_19 (x_istn (l' := [some (jR 133), some (jI x1), some (jI 0)]) c218_20 rfl (wp_wk (l' := [some (jR 133), some (jI x1), some (jI 0)]) ⟨rfl, ⟨rfl, ⟨rfl, trivial⟩⟩⟩ ((H.2.2 h4).2.1 h1))))) (fun h2 => (x_ci c218_17 (x_irt c218_18 r218 ((H.2.2 h4).2.2 h2)))))))))))))))
theorem s218_21 {kc : List va_E} {d : Nat} {v1 v2 : Int} {M : fx_M} {Q : Option fx_V → fx_M → Prop} (H : ((fx_in32 v2) ∧ (fx_in32 v1)) ∧ (v1 ≤ v2 → wc kc d 219 [jR 133] (fx_up (fx_up M 133 3 v1) 133 1 0) (fun v M1 => wp kc (d + 1) 218 58 [none, none, none] (v.toList ++ []) M1 Q)) ∧ (v2 < v1 → (((0 : Int) ≤ v2 ∧ v2 < 3200)) ∧ (((0 : Int) ≤ v2 ∧ v2 < 6100)) ∧ wp kc (d + 1) 218 21 [some (jR 133), some (jI v1), some (jI (v2 + 1))] [] (fx_up M 135 v2 (M 134 v2)) Q)) : wp kc (d + 1) 218 21 [some (jR 133), some (jI v1), some (jI v2)] [] M Q :=
  (x_ildn c218_21 rfl (x_ildn c218_22 rfl (x_cge c218_23 H.1.1 H.1.2 (fun h1 => (x_aldn c218_44 rfl (x_ildn c218_45 rfl (x_pfi c218_46 k_133_3 (x_aldn c218_49 rfl (x_ci c218_50 (x_pfi c218_51 k_133_1 (x_aldn c218_54 rfl (wp_wk (l' := [none, none, none]) trivial (x_cv (As := []) (st := []) c218_55 cl_133 kl219 rfl (Nat.le_of_ble_eq_true rfl) mx219 (Nat.le_refl _) (H.2.1 h1))))))))))) (fun h2 => (x_aldn c218_26 rfl (x_gfr c218_27 k_133_4 (x_ildn c218_30 rfl (x_aldn c218_31 rfl (x_gfr c218_32 k_133_2 (x_ildn c218_35 rfl (x_iald c218_36 a_134 (H.2.2 h2).1 (by decide) (x_iast c218_37 a_135 (H.2.2 h2).2.1 (by decide) (x_inc (l' := [some (jR 133), some (jI v1), some (jI (v2 + 1))]) c218_38 rfl rfl (x_goto c218_41 (wp_wk (l' := [some (jR 133), some (jI v1), some (jI (v2 + 1))]) ⟨rfl, ⟨rfl, ⟨rfl, trivial⟩⟩⟩ (H.2.2 h2).2.2)))))))))))))))
theorem s218_58 {kc : List va_E} {d : Nat} {u0 : Int} {M : fx_M} {Q : Option fx_V → fx_M → Prop} (H : Q (some (jI u0)) M) : wp kc (d + 1) 218 58 [none, none, none] [jI u0] M Q :=
  (x_irt c218_58 r218 H)
theorem s218 {kc : List va_E} {d : Nat} {x1 : Int} {M : fx_M} {Q : Option fx_V → fx_M → Prop} (H : ((fx_in32 x1)) ∧ (x1 < 0 → Q (some (jI (-1))) (fx_up M 133 0 0)) ∧ (0 ≤ x1 → ((fx_in32 x1) ∧ (fx_in32 (M 133 1))) ∧ (x1 ≤ M 133 1 → wp kc (d + 1) 218 21 [some (jR 133), some (jI x1), some (jI 0)] [] (fx_up M 133 0 0) Q) ∧ (M 133 1 < x1 → Q (some (jI (-1))) (fx_up M 133 0 0)))) : wc kc (d + 1) 218 [jR 133, jI x1] M Q :=
  wc_of (wp_wk (l' := [some (jR 133), some (jI x1), none]) ⟨rfl, ⟨rfl, trivial⟩⟩ (s218_0 H))

theorem c219_0 : fx_op 219 0 = some (.aload_n 0, 1, 0) := by decide +kernel
theorem c219_1 : fx_ci 219 1 = some (0, 2) := by decide +kernel
theorem c219_2 : fx_pf 219 2 = some (12, 5, 0, 5) := by decide +kernel
theorem c219_5 : fx_op 219 5 = some (.aload_n 0, 6, 5) := by decide +kernel
theorem c219_6 : fx_ci 219 6 = some (0, 7) := by decide +kernel
theorem c219_7 : fx_pf 219 7 = some (12, 7, 0, 10) := by decide +kernel
theorem c219_10 : fx_op 219 10 = some (.aload_n 0, 11, 10) := by decide +kernel
theorem c219_11 : fx_ci 219 11 = some (0, 12) := by decide +kernel
theorem c219_12 : fx_ci 219 12 = some (44, 14) := by decide +kernel
theorem c219_14 : fx_ca 219 14 = some (220, 3, 2, 17) := by decide +kernel
theorem c219_17 : fx_op 219 17 = some (.istore_n 1, 18, 17) := by decide +kernel
theorem c219_18 : fx_op 219 18 = some (.iload_n 1, 19, 18) := by decide +kernel
theorem c219_19 : fx_op 219 19 = some (.ifCond .lt 22, 22, 41) := by decide +kernel
theorem c219_41 : fx_op 219 41 = some (.aload_n 0, 42, 41) := by decide +kernel
theorem c219_42 : fx_cj 219 42 = some (6447460, 45) := by decide +kernel
theorem c219_45 : fx_op 219 45 = some (.aload_n 0, 46, 45) := by decide +kernel
theorem c219_46 : fx_gf 219 46 = some (12, 7, 49) := by decide +kernel
theorem c219_22 : fx_op 219 22 = some (.aload_n 0, 23, 22) := by decide +kernel
theorem c219_23 : fx_op 219 23 = some (.iload_n 1, 24, 23) := by decide +kernel
theorem c219_49 : fx_ca 219 49 = some (252, 3, 2, 52) := by decide +kernel
theorem c219_24 : fx_ca 219 24 = some (225, 2, 2, 27) := by decide +kernel
theorem c219_60 : fx_op 219 60 = some (.aload_n 0, 61, 60) := by decide +kernel
theorem c219_61 : fx_gf 219 61 = some (12, 5, 64) := by decide +kernel
theorem c219_52 : fx_op 219 52 = some (.goto 8, 55, 60) := by decide +kernel
theorem c219_64 : fx_op 219 64 = some (.ireturn, 65, 64) := by decide +kernel
theorem c219_27 : fx_op 219 27 = some (.ifCond .eq 14, 30, 41) := by decide +kernel
theorem c219_30 : fx_op 219 30 = some (.aload_n 0, 31, 30) := by decide +kernel
theorem c219_31 : fx_gf 219 31 = some (12, 7, 34) := by decide +kernel
theorem c219_34 : fx_op 219 34 = some (.aload_n 0, 35, 34) := by decide +kernel
theorem c219_35 : fx_gf 219 35 = some (12, 3, 38) := by decide +kernel
theorem c219_38 : fx_op 219 38 = some (.if_icmp .ge 17, 41, 55) := by decide +kernel
theorem c219_55 : fx_op 219 55 = some (.aload_n 0, 56, 55) := by decide +kernel
theorem c219_56 : fx_op 219 56 = some (.iload_n 1, 57, 56) := by decide +kernel
theorem c219_57 : fx_ca 219 57 = some (257, 2, 2, 60) := by decide +kernel
theorem s219_0 {kc : List va_E} {d : Nat} {M : fx_M} {Q : Option fx_V → fx_M → Prop} (H : wc kc d 220 [jR 133, jI 0, jI 44] (fx_up (fx_up M 133 5 0) 133 7 0) (fun v M1 => wp kc (d + 1) 219 17 [some (jR 133), none] (v.toList ++ []) M1 Q)) : wp kc (d + 1) 219 0 [some (jR 133), none] [] M Q :=
  (x_aldn c219_0 rfl (x_ci c219_1 (x_pfi c219_2 k_133_5 (x_aldn c219_5 rfl (x_ci c219_6 (x_pfi c219_7 k_133_7 (x_aldn c219_10 rfl (x_ci c219_11 (x_ci c219_12 (wp_wk (l' := [some (jR 133), none]) ⟨rfl, trivial⟩ (x_cv (As := [jI 0, jI 44]) (st := []) c219_14 cl_133 kl220 rfl (Nat.le_of_ble_eq_true rfl) mx220 (Nat.le_refl _) H)))))))))))
theorem s219_17 {kc : List va_E} {d : Nat} {u0 : Int} {M : fx_M} {Q : Option fx_V → fx_M → Prop} (H : ((fx_in32 u0)) ∧ (u0 < 0 → wc kc d 252 [jR 133, jL 6447460, jI (M 133 7)] M (fun v M1 => wp kc (d + 1) 219 52 [some (jR 133), none] (v.toList ++ []) M1 Q)) ∧ (0 ≤ u0 → wc kc d 225 [jR 133, jI u0] M (fun v M1 => wp kc (d + 1) 219 27 [some (jR 133), some (jI u0)] (v.toList ++ []) M1 Q))) : wp kc (d + 1) 219 17 [some (jR 133), none] [jI u0] M Q :=
  (x_istn (l' := [some (jR 133), some (jI u0)]) c219_17 rfl (x_ildn c219_18 rfl (x_zlt c219_19 H.1 (fun h1 => (x_aldn c219_41 rfl (x_cj c219_42 (x_aldn c219_45 rfl (x_gfi c219_46 k_133_7 (wp_wk (l' := [some (jR 133), none]) ⟨rfl, trivial⟩ (x_cv (As := [jL 6447460, jI (M 133 7)]) (st := []) c219_49 cl_133 kl252 rfl (Nat.le_of_ble_eq_true rfl) mx252 (Nat.le_refl _) (H.2.1 h1)))))))) (fun h2 => (x_aldn c219_22 rfl (x_ildn c219_23 rfl (wp_wk (l' := [some (jR 133), some (jI u0)]) ⟨rfl, ⟨rfl, trivial⟩⟩ (x_cv (As := [jI u0]) (st := []) c219_24 cl_133 kl225 rfl (Nat.le_of_ble_eq_true rfl) mx225 (Nat.le_refl _) (H.2.2 h2)))))))))
theorem s219_27 {kc : List va_E} {d : Nat} {v1 u0 : Int} {M : fx_M} {Q : Option fx_V → fx_M → Prop} (H : ((fx_in32 u0)) ∧ (u0 = 0 → wc kc d 252 [jR 133, jL 6447460, jI (M 133 7)] M (fun v M1 => wp kc (d + 1) 219 52 [some (jR 133), none] (v.toList ++ []) M1 Q)) ∧ (u0 ≠ 0 → ((fx_in32 (M 133 7)) ∧ (fx_in32 (M 133 3))) ∧ (M 133 3 ≤ M 133 7 → wc kc d 257 [jR 133, jI v1] M (fun v M1 => wp kc (d + 1) 219 60 [some (jR 133), none] (v.toList ++ []) M1 Q)) ∧ (M 133 7 < M 133 3 → wc kc d 252 [jR 133, jL 6447460, jI (M 133 7)] M (fun v M1 => wp kc (d + 1) 219 52 [some (jR 133), none] (v.toList ++ []) M1 Q)))) : wp kc (d + 1) 219 27 [some (jR 133), some (jI v1)] [jI u0] M Q :=
  (x_zeq c219_27 H.1 (fun h3 => (x_aldn c219_41 rfl (x_cj c219_42 (x_aldn c219_45 rfl (x_gfi c219_46 k_133_7 (wp_wk (l' := [some (jR 133), none]) ⟨rfl, trivial⟩ (x_cv (As := [jL 6447460, jI (M 133 7)]) (st := []) c219_49 cl_133 kl252 rfl (Nat.le_of_ble_eq_true rfl) mx252 (Nat.le_refl _) (H.2.1 h3)))))))) (fun h4 => (x_aldn c219_30 rfl (x_gfi c219_31 k_133_7 (x_aldn c219_34 rfl (x_gfi c219_35 k_133_3 (x_cge c219_38 (H.2.2 h4).1.1 (H.2.2 h4).1.2 (fun h1 => (x_aldn c219_55 rfl (x_ildn c219_56 rfl (wp_wk (l' := [some (jR 133), none]) ⟨rfl, trivial⟩ (x_cv (As := [jI v1]) (st := []) c219_57 cl_133 kl257 rfl (Nat.le_of_ble_eq_true rfl) mx257 (Nat.le_refl _) ((H.2.2 h4).2.1 h1)))))) (fun h2 => (x_aldn c219_41 rfl (x_cj c219_42 (x_aldn c219_45 rfl (x_gfi c219_46 k_133_7 (wp_wk (l' := [some (jR 133), none]) ⟨rfl, trivial⟩ (x_cv (As := [jL 6447460, jI (M 133 7)]) (st := []) c219_49 cl_133 kl252 rfl (Nat.le_of_ble_eq_true rfl) mx252 (Nat.le_refl _) ((H.2.2 h4).2.2 h2)))))))))))))))
theorem s219_52 {kc : List va_E} {d : Nat} {M : fx_M} {Q : Option fx_V → fx_M → Prop} (H : Q (some (jI (M 133 5))) M) : wp kc (d + 1) 219 52 [some (jR 133), none] [] M Q :=
  (x_goto c219_52 (x_aldn c219_60 rfl (x_gfi c219_61 k_133_5 (x_irt c219_64 r219 H))))
theorem s219_60 {kc : List va_E} {d : Nat} {M : fx_M} {Q : Option fx_V → fx_M → Prop} (H : Q (some (jI (M 133 5))) M) : wp kc (d + 1) 219 60 [some (jR 133), none] [] M Q :=
  (x_aldn c219_60 rfl (x_gfi c219_61 k_133_5 (x_irt c219_64 r219 H)))
theorem s219 {kc : List va_E} {d : Nat} {M : fx_M} {Q : Option fx_V → fx_M → Prop} (H : wc kc d 220 [jR 133, jI 0, jI 44] (fx_up (fx_up M 133 5 0) 133 7 0) (fun v M1 => wp kc (d + 1) 219 17 [some (jR 133), none] (v.toList ++ []) M1 Q)) : wc kc (d + 1) 219 [jR 133] M Q :=
  wc_of (wp_wk (l' := [some (jR 133), none]) ⟨rfl, trivial⟩ (s219_0 H))

theorem c220_0 : fx_ci 220 0 = some (0, 1) := by decide +kernel
theorem c220_1 : fx_op 220 1 = some (.istore_n 3, 2, 1) := by decide +kernel
theorem c220_2 : fx_ci 220 2 = some ((-1), 3) := by decide +kernel
theorem c220_3 : fx_op 220 3 = some (.istore 4, 5, 3) := by decide +kernel
theorem c220_5 : fx_op 220 5 = some (.iload_n 1, 6, 5) := by decide +kernel
theorem c220_6 : fx_op 220 6 = some (.istore 5, 8, 6) := by decide +kernel
theorem c220_8 : fx_op 220 8 = some (.iload 5, 10, 8) := by decide +kernel
theorem c220_10 : fx_op 220 10 = some (.iload_n 2, 11, 10) := by decide +kernel
theorem c220_11 : fx_op 220 11 = some (.if_icmp .gt 68, 14, 79) := by decide +kernel
theorem c220_14 : fx_op 220 14 = some (.aload_n 0, 15, 14) := by decide +kernel
theorem c220_15 : fx_op 220 15 = some (.iload 5, 17, 15) := by decide +kernel
theorem c220_79 : fx_op 220 79 = some (.aload_n 0, 80, 79) := by decide +kernel
theorem c220_80 : fx_op 220 80 = some (.dup, 81, 80) := by decide +kernel
theorem c220_81 : fx_gf 220 81 = some (12, 7, 84) := by decide +kernel
theorem c220_84 : fx_op 220 84 = some (.iload 4, 86, 84) := by decide +kernel
theorem c220_86 : fx_op 220 86 = some (.ifCond .ge 7, 89, 93) := by decide +kernel
theorem c220_93 : fx_op 220 93 = some (.iload 4, 95, 93) := by decide +kernel
theorem c220_89 : fx_op 220 89 = some (.iload_n 3, 90, 89) := by decide +kernel
theorem c220_101 : fx_op 220 101 = some (.iadd, 102, 101) := by decide +kernel
theorem c220_102 : fx_pf 220 102 = some (12, 7, 0, 105) := by decide +kernel
theorem c220_105 : fx_op 220 105 = some (.iload 4, 107, 105) := by decide +kernel
theorem c220_95 : fx_ca 220 95 = some (221, 1, 0, 98) := by decide +kernel
theorem c220_90 : fx_op 220 90 = some (.goto 11, 93, 101) := by decide +kernel
theorem c220_107 : fx_op 220 107 = some (.ireturn, 108, 107) := by decide +kernel
theorem c220_17 : fx_ca 220 17 = some (221, 1, 0, 20) := by decide +kernel
theorem c220_98 : fx_ca 220 98 = some (223, 1, 0, 101) := by decide +kernel
theorem c220_20 : fx_ca 220 20 = some (222, 2, 2, 23) := by decide +kernel
theorem c220_23 : fx_op 220 23 = some (.istore 6, 25, 23) := by decide +kernel
theorem c220_25 : fx_op 220 25 = some (.iload 6, 27, 25) := by decide +kernel
theorem c220_27 : fx_op 220 27 = some (.iload 5, 29, 27) := by decide +kernel
theorem c220_29 : fx_ca 220 29 = some (221, 1, 0, 32) := by decide +kernel
theorem c220_32 : fx_ca 220 32 = some (223, 1, 0, 35) := by decide +kernel
theorem c220_35 : fx_op 220 35 = some (.if_icmp .ne 25, 38, 60) := by decide +kernel
theorem c220_38 : fx_op 220 38 = some (.iload 4, 40, 38) := by decide +kernel
theorem c220_40 : fx_op 220 40 = some (.ifCond .lt 16, 43, 56) := by decide +kernel
theorem c220_56 : fx_op 220 56 = some (.iload 5, 58, 56) := by decide +kernel
theorem c220_58 : fx_op 220 58 = some (.istore 4, 60, 58) := by decide +kernel
theorem c220_43 : fx_op 220 43 = some (.iload 6, 45, 43) := by decide +kernel
theorem c220_45 : fx_op 220 45 = some (.iload 4, 47, 45) := by decide +kernel
theorem c220_60 : fx_op 220 60 = some (.iload 6, 62, 60) := by decide +kernel
theorem c220_62 : fx_op 220 62 = some (.iload_n 3, 63, 62) := by decide +kernel
theorem c220_63 : fx_op 220 63 = some (.if_icmp .le 8, 66, 71) := by decide +kernel
theorem c220_71 : fx_op 220 71 = some (.iload_n 3, 72, 71) := by decide +kernel
theorem c220_66 : fx_op 220 66 = some (.iload 6, 68, 66) := by decide +kernel
theorem c220_68 : fx_op 220 68 = some (.goto 4, 71, 72) := by decide +kernel
theorem c220_72 : fx_op 220 72 = some (.istore_n 3, 73, 72) := by decide +kernel
theorem c220_73 : fx_op 220 73 = some (.iinc 5 1, 76, 73) := by decide +kernel
theorem c220_76 : fx_op 220 76 = some (.goto (-68), 79, 8) := by decide +kernel
theorem c220_47 : fx_ca 220 47 = some (221, 1, 0, 50) := by decide +kernel
theorem c220_50 : fx_ca 220 50 = some (223, 1, 0, 53) := by decide +kernel
theorem c220_53 : fx_op 220 53 = some (.if_icmp .le 7, 56, 60) := by decide +kernel
theorem s220_0 {kc : List va_E} {d : Nat} {x1 x2 : Int} {M : fx_M} {Q : Option fx_V → fx_M → Prop} (H : wp kc (d + 1) 220 8 [some (jR 133), none, some (jI x2), some (jI 0), some (jI (-1)), some (jI x1), none] [] M Q) : wp kc (d + 1) 220 0 [some (jR 133), some (jI x1), some (jI x2), none, none, none, none] [] M Q :=
  (x_ci c220_0 (x_istn (l' := [some (jR 133), some (jI x1), some (jI x2), some (jI 0), none, none, none]) c220_1 rfl (x_ci c220_2 (x_ist (l' := [some (jR 133), some (jI x1), some (jI x2), some (jI 0), some (jI (-1)), none, none]) c220_3 rfl (x_ildn c220_5 rfl (x_ist (l' := [some (jR 133), some (jI x1), some (jI x2), some (jI 0), some (jI (-1)), some (jI x1), none]) c220_6 rfl (wp_wk (l' := [some (jR 133), none, some (jI x2), some (jI 0), some (jI (-1)), some (jI x1), none]) ⟨rfl, ⟨rfl, ⟨rfl, ⟨rfl, ⟨rfl, trivial⟩⟩⟩⟩⟩ H)))))))
theorem s220_8 {kc : List va_E} {d : Nat} {v2 v3 v4 v5 : Int} {M : fx_M} {Q : Option fx_V → fx_M → Prop} (H : ((fx_in32 v5) ∧ (fx_in32 v2)) ∧ (v2 < v5 → ((fx_in32 v4)) ∧ (0 ≤ v4 → wc kc d 221 [jI v4] M (fun v M1 => wp kc (d + 1) 220 98 [none, none, none, none, some (jI v4), none, none] (v.toList ++ [jI (M 133 7), jR 133]) M1 Q)) ∧ (v4 < 0 → Q (some (jI v4)) (fx_up M 133 7 ((M 133 7) + v3)))) ∧ (v5 ≤ v2 → wc kc d 221 [jI v5] M (fun v M1 => wp kc (d + 1) 220 20 [some (jR 133), none, some (jI v2), some (jI v3), some (jI v4), some (jI v5), none] (v.toList ++ [jR 133]) M1 Q))) : wp kc (d + 1) 220 8 [some (jR 133), none, some (jI v2), some (jI v3), some (jI v4), some (jI v5), none] [] M Q :=
  (x_ild c220_8 rfl (x_ildn c220_10 rfl (x_cgt c220_11 H.1.1 H.1.2 (fun h3 => (x_aldn c220_79 rfl (x_dupr c220_80 (x_gfi c220_81 k_133_7 (x_ild c220_84 rfl (x_zge c220_86 (H.2.1 h3).1 (fun h1 => (x_ild c220_93 rfl (wp_wk (l' := [none, none, none, none, some (jI v4), none, none]) ⟨rfl, trivial⟩ (x_cs (As := [jI v4]) (st := [jI (M 133 7), jR 133]) c220_95 (by decide) rfl (Nat.le_of_ble_eq_true rfl) mx221 (Nat.le_refl _) ((H.2.1 h3).2.1 h1))))) (fun h2 => (x_ildn c220_89 rfl (x_goto c220_90 (x_iadd c220_101 (x_pfi c220_102 k_133_7 (x_ild c220_105 rfl (x_irt c220_107 r220 ((H.2.1 h3).2.2 h2)))))))))))))) (fun h4 => (x_aldn c220_14 rfl (x_ild c220_15 rfl (wp_wk (l' := [some (jR 133), none, some (jI v2), some (jI v3), some (jI v4), some (jI v5), none]) ⟨rfl, ⟨rfl, ⟨rfl, ⟨rfl, ⟨rfl, trivial⟩⟩⟩⟩⟩ (x_cs (As := [jI v5]) (st := [jR 133]) c220_17 (by decide) rfl (Nat.le_of_ble_eq_true rfl) mx221 (Nat.le_refl _) (H.2.2 h4)))))))))
theorem s220_20 {kc : List va_E} {d : Nat} {v2 v3 v4 v5 u0 : Int} {M : fx_M} {Q : Option fx_V → fx_M → Prop} (H : wc kc d 222 [jR 133, jL u0] M (fun v M1 => wp kc (d + 1) 220 23 [some (jR 133), none, some (jI v2), some (jI v3), some (jI v4), some (jI v5), none] (v.toList ++ []) M1 Q)) : wp kc (d + 1) 220 20 [some (jR 133), none, some (jI v2), some (jI v3), some (jI v4), some (jI v5), none] [jL u0, jR 133] M Q :=
  (wp_wk (l' := [some (jR 133), none, some (jI v2), some (jI v3), some (jI v4), some (jI v5), none]) ⟨rfl, ⟨rfl, ⟨rfl, ⟨rfl, ⟨rfl, trivial⟩⟩⟩⟩⟩ (x_cv (As := [jL u0]) (st := []) c220_20 cl_133 kl222 rfl (Nat.le_of_ble_eq_true rfl) mx222 (Nat.le_refl _) H))
theorem s220_23 {kc : List va_E} {d : Nat} {v2 v3 v4 v5 u0 : Int} {M : fx_M} {Q : Option fx_V → fx_M → Prop} (H : wc kc d 221 [jI v5] M (fun v M1 => wp kc (d + 1) 220 32 [some (jR 133), none, some (jI v2), some (jI v3), some (jI v4), some (jI v5), some (jI u0)] (v.toList ++ [jI u0]) M1 Q)) : wp kc (d + 1) 220 23 [some (jR 133), none, some (jI v2), some (jI v3), some (jI v4), some (jI v5), none] [jI u0] M Q :=
  (x_ist (l' := [some (jR 133), none, some (jI v2), some (jI v3), some (jI v4), some (jI v5), some (jI u0)]) c220_23 rfl (x_ild c220_25 rfl (x_ild c220_27 rfl (wp_wk (l' := [some (jR 133), none, some (jI v2), some (jI v3), some (jI v4), some (jI v5), some (jI u0)]) ⟨rfl, ⟨rfl, ⟨rfl, ⟨rfl, ⟨rfl, ⟨rfl, trivial⟩⟩⟩⟩⟩⟩ (x_cs (As := [jI v5]) (st := [jI u0]) c220_29 (by decide) rfl (Nat.le_of_ble_eq_true rfl) mx221 (Nat.le_refl _) H)))))
theorem s220_32 {kc : List va_E} {d : Nat} {v2 v3 v4 v5 v6 u0 u1 : Int} {M : fx_M} {Q : Option fx_V → fx_M → Prop} (H : wc kc d 223 [jL u0] M (fun v M1 => wp kc (d + 1) 220 35 [some (jR 133), none, some (jI v2), some (jI v3), some (jI v4), some (jI v5), some (jI v6)] (v.toList ++ [jI u1]) M1 Q)) : wp kc (d + 1) 220 32 [some (jR 133), none, some (jI v2), some (jI v3), some (jI v4), some (jI v5), some (jI v6)] [jL u0, jI u1] M Q :=
  (wp_wk (l' := [some (jR 133), none, some (jI v2), some (jI v3), some (jI v4), some (jI v5), some (jI v6)]) ⟨rfl, ⟨rfl, ⟨rfl, ⟨rfl, ⟨rfl, ⟨rfl, trivial⟩⟩⟩⟩⟩⟩ (x_cs (As := [jL u0]) (st := [jI u1]) c220_32 (by decide) rfl (Nat.le_of_ble_eq_true rfl) mx223 (Nat.le_refl _) H))
theorem s220_35 {kc : List va_E} {d : Nat} {v2 v3 v4 v5 v6 u0 u1 : Int} {M : fx_M} {Q : Option fx_V → fx_M → Prop} (H : ((fx_in32 u1) ∧ (fx_in32 u0)) ∧ (u1 ≠ u0 → ((fx_in32 v6)) ∧ ((fx_in32 v3)) ∧ wp kc (d + 1) 220 8 [some (jR 133), none, some (jI v2), some (jI (if v3 < v6 then (v6 : Int) else v3)), some (jI v4), some (jI (v5 + 1)), none] [] M Q) ∧ (u1 = u0 → ((fx_in32 v4)) ∧ (v4 < 0 → ((fx_in32 v6)) ∧ ((fx_in32 v3)) ∧ wp kc (d + 1) 220 8 [some (jR 133), none, some (jI v2), some (jI (if v3 < v6 then (v6 : Int) else v3)), some (jI v5), some (jI (v5 + 1)), none] [] M Q) ∧ (0 ≤ v4 → wc kc d 221 [jI v4] M (fun v M1 => wp kc (d + 1) 220 50 [some (jR 133), none, some (jI v2), some (jI v3), some (jI v4), some (jI v5), some (jI v6)] (v.toList ++ [jI v6]) M1 Q)))) : wp kc (d + 1) 220 35 [some (jR 133), none, some (jI v2), some (jI v3), some (jI v4), some (jI v5), some (jI v6)] [jI u0, jI u1] M Q :=
  (x_cne c220_35 H.1.1 H.1.2 (fun h3 => (x_ild c220_60 rfl (x_ildn c220_62 rfl (have K : wp kc (d + 1) 220 72 [some (jR 133), none, some (jI v2), none, some (jI v4), some (jI v5), none] [jI (if v3 < v6 then (v6 : Int) else v3)] M Q := (x_istn (l' := [some (jR 133), none, some (jI v2), some (jI (if v3 < v6 then (v6 : Int) else v3)), some (jI v4), some (jI v5), none]) c220_72 rfl (x_inc (l' := [some (jR 133), none, some (jI v2), some (jI (if v3 < v6 then (v6 : Int) else v3)), some (jI v4), some (jI (v5 + 1)), none]) c220_73 rfl rfl (x_goto c220_76 (wp_wk (l' := [some (jR 133), none, some (jI v2), some (jI (if v3 < v6 then (v6 : Int) else v3)), some (jI v4), some (jI (v5 + 1)), none]) ⟨rfl, ⟨rfl, ⟨rfl, ⟨rfl, ⟨rfl, trivial⟩⟩⟩⟩⟩ (H.2.1 h3).2.2)))); (x_cle c220_63 (H.2.1 h3).1 (H.2.1 h3).2.1 (fun (h5 : v6 ≤ v3) => (x_ildn c220_71 rfl (wp_wk (l' := [some (jR 133), none, some (jI v2), none, some (jI v4), some (jI v5), none]) ⟨rfl, ⟨rfl, ⟨rfl, ⟨rfl, trivial⟩⟩⟩⟩ (by have K := K; first | (simp only [if_neg (Int.not_lt.mpr h5)] at K ⊢; exact K) | (exfalso; omega))))) (fun (h6 : v3 < v6) => (x_ild c220_66 rfl (x_goto c220_68 (wp_wk (l' := [some (jR 133), none, some (jI v2), none, some (jI v4), some (jI v5), none]) ⟨rfl, ⟨rfl, ⟨rfl, ⟨rfl, trivial⟩⟩⟩⟩ (by have K := K; first | (simp only [if_pos h6] at K ⊢; exact K) | (exfalso; omega))))))))))) (fun h4 => (x_ild c220_38 rfl (x_zlt c220_40 (H.2.2 h4).1 (fun h1 => (x_ild c220_56 rfl (x_ist (l' := [some (jR 133), none, some (jI v2), some (jI v3), some (jI v5), some (jI v5), some (jI v6)]) c220_58 rfl (x_ild c220_60 rfl (x_ildn c220_62 rfl (have K : wp kc (d + 1) 220 72 [some (jR 133), none, some (jI v2), none, some (jI v5), some (jI v5), none] [jI (if v3 < v6 then (v6 : Int) else v3)] M Q := (x_istn (l' := [some (jR 133), none, some (jI v2), some (jI (if v3 < v6 then (v6 : Int) else v3)), some (jI v5), some (jI v5), none]) c220_72 rfl (x_inc (l' := [some (jR 133), none, some (jI v2), some (jI (if v3 < v6 then (v6 : Int) else v3)), some (jI v5), some (jI (v5 + 1)), none]) c220_73 rfl rfl (x_goto c220_76 (wp_wk (l' := [some (jR 133), none, some (jI v2), some (jI (if v3 < v6 then (v6 : Int) else v3)), some (jI v5), some (jI (v5 + 1)), none]) ⟨rfl, ⟨rfl, ⟨rfl, ⟨rfl, ⟨rfl, trivial⟩⟩⟩⟩⟩ ((H.2.2 h4).2.1 h1).2.2)))); (x_cle c220_63 ((H.2.2 h4).2.1 h1).1 ((H.2.2 h4).2.1 h1).2.1 (fun (h7 : v6 ≤ v3) => (x_ildn c220_71 rfl (wp_wk (l' := [some (jR 133), none, some (jI v2), none, some (jI v5), some (jI v5), none]) ⟨rfl, ⟨rfl, ⟨rfl, ⟨rfl, trivial⟩⟩⟩⟩ (by have K := K; first | (simp only [if_neg (Int.not_lt.mpr h7)] at K ⊢; exact K) | (exfalso; omega))))) (fun (h8 : v3 < v6) => (x_ild c220_66 rfl (x_goto c220_68 (wp_wk (l' := [some (jR 133), none, some (jI v2), none, some (jI v5), some (jI v5), none]) ⟨rfl, ⟨rfl, ⟨rfl, ⟨rfl, trivial⟩⟩⟩⟩ (by have K := K; first | (simp only [if_pos h8] at K ⊢; exact K) | (exfalso; omega))))))))))))) (fun h2 => (x_ild c220_43 rfl (x_ild c220_45 rfl (wp_wk (l' := [some (jR 133), none, some (jI v2), some (jI v3), some (jI v4), some (jI v5), some (jI v6)]) ⟨rfl, ⟨rfl, ⟨rfl, ⟨rfl, ⟨rfl, ⟨rfl, trivial⟩⟩⟩⟩⟩⟩ (x_cs (As := [jI v4]) (st := [jI v6]) c220_47 (by decide) rfl (Nat.le_of_ble_eq_true rfl) mx221 (Nat.le_refl _) ((H.2.2 h4).2.2 h2))))))))))
theorem s220_50 {kc : List va_E} {d : Nat} {v2 v3 v4 v5 v6 u0 u1 : Int} {M : fx_M} {Q : Option fx_V → fx_M → Prop} (H : wc kc d 223 [jL u0] M (fun v M1 => wp kc (d + 1) 220 53 [some (jR 133), none, some (jI v2), some (jI v3), some (jI v4), some (jI v5), some (jI v6)] (v.toList ++ [jI u1]) M1 Q)) : wp kc (d + 1) 220 50 [some (jR 133), none, some (jI v2), some (jI v3), some (jI v4), some (jI v5), some (jI v6)] [jL u0, jI u1] M Q :=
  (wp_wk (l' := [some (jR 133), none, some (jI v2), some (jI v3), some (jI v4), some (jI v5), some (jI v6)]) ⟨rfl, ⟨rfl, ⟨rfl, ⟨rfl, ⟨rfl, ⟨rfl, trivial⟩⟩⟩⟩⟩⟩ (x_cs (As := [jL u0]) (st := [jI u1]) c220_50 (by decide) rfl (Nat.le_of_ble_eq_true rfl) mx223 (Nat.le_refl _) H))
theorem s220_53 {kc : List va_E} {d : Nat} {v2 v3 v4 v5 v6 u0 u1 : Int} {M : fx_M} {Q : Option fx_V → fx_M → Prop} (H : ((fx_in32 u1)) ∧ ((fx_in32 u0)) ∧ ((fx_in32 v6)) ∧ ((fx_in32 v3)) ∧ wp kc (d + 1) 220 8 [some (jR 133), none, some (jI v2), some (jI (if v3 < v6 then (v6 : Int) else v3)), some (jI (if u0 < u1 then (v5 : Int) else v4)), some (jI (v5 + 1)), none] [] M Q) : wp kc (d + 1) 220 53 [some (jR 133), none, some (jI v2), some (jI v3), some (jI v4), some (jI v5), some (jI v6)] [jI u0, jI u1] M Q :=
  (have K : wp kc (d + 1) 220 60 [some (jR 133), none, some (jI v2), some (jI v3), some (jI (if u0 < u1 then (v5 : Int) else v4)), some (jI v5), some (jI v6)] [] M Q := (x_ild c220_60 rfl (x_ildn c220_62 rfl (have K : wp kc (d + 1) 220 72 [some (jR 133), none, some (jI v2), none, some (jI (if u0 < u1 then (v5 : Int) else v4)), some (jI v5), none] [jI (if v3 < v6 then (v6 : Int) else v3)] M Q := (x_istn (l' := [some (jR 133), none, some (jI v2), some (jI (if v3 < v6 then (v6 : Int) else v3)), some (jI (if u0 < u1 then (v5 : Int) else v4)), some (jI v5), none]) c220_72 rfl (x_inc (l' := [some (jR 133), none, some (jI v2), some (jI (if v3 < v6 then (v6 : Int) else v3)), some (jI (if u0 < u1 then (v5 : Int) else v4)), some (jI (v5 + 1)), none]) c220_73 rfl rfl (x_goto c220_76 (wp_wk (l' := [some (jR 133), none, some (jI v2), some (jI (if v3 < v6 then (v6 : Int) else v3)), some (jI (if u0 < u1 then (v5 : Int) else v4)), some (jI (v5 + 1)), none]) ⟨rfl, ⟨rfl, ⟨rfl, ⟨rfl, ⟨rfl, trivial⟩⟩⟩⟩⟩ H.2.2.2.2)))); (x_cle c220_63 H.2.2.1 H.2.2.2.1 (fun (h3 : v6 ≤ v3) => (x_ildn c220_71 rfl (wp_wk (l' := [some (jR 133), none, some (jI v2), none, some (jI (if u0 < u1 then (v5 : Int) else v4)), some (jI v5), none]) ⟨rfl, ⟨rfl, ⟨rfl, ⟨rfl, trivial⟩⟩⟩⟩ (by have K := K; first | (simp only [if_neg (Int.not_lt.mpr h3)] at K ⊢; exact K) | (exfalso; omega))))) (fun (h4 : v3 < v6) => (x_ild c220_66 rfl (x_goto c220_68 (wp_wk (l' := [some (jR 133), none, some (jI v2), none, some (jI (if u0 < u1 then (v5 : Int) else v4)), some (jI v5), none]) ⟨rfl, ⟨rfl, ⟨rfl, ⟨rfl, trivial⟩⟩⟩⟩ (by have K := K; first | (simp only [if_pos h4] at K ⊢; exact K) | (exfalso; omega)))))))))); (x_cle c220_53 H.1 H.2.1 (fun (h1 : u1 ≤ u0) => (wp_wk (l' := [some (jR 133), none, some (jI v2), some (jI v3), some (jI v4), some (jI v5), some (jI v6)]) ⟨rfl, ⟨rfl, ⟨rfl, ⟨rfl, ⟨rfl, ⟨rfl, trivial⟩⟩⟩⟩⟩⟩ (by have K := K; first | (simp only [if_neg (Int.not_lt.mpr h1)] at K ⊢; exact K) | (exfalso; omega)))) (fun (h2 : u0 < u1) => (x_ild c220_56 rfl (x_ist (l' := [some (jR 133), none, some (jI v2), some (jI v3), some (jI v5), some (jI v5), some (jI v6)]) c220_58 rfl (wp_wk (l' := [some (jR 133), none, some (jI v2), some (jI v3), some (jI v5), some (jI v5), some (jI v6)]) ⟨rfl, ⟨rfl, ⟨rfl, ⟨rfl, ⟨rfl, ⟨rfl, trivial⟩⟩⟩⟩⟩⟩ (by have K := K; first | (simp only [if_pos h2] at K ⊢; exact K) | (exfalso; omega))))))))
theorem s220_98 {kc : List va_E} {d : Nat} {v4 u0 u1 : Int} {M : fx_M} {Q : Option fx_V → fx_M → Prop} (H : wc kc d 223 [jL u0] M (fun v M1 => wp kc (d + 1) 220 101 [none, none, none, none, some (jI v4), none, none] (v.toList ++ [jI u1, jR 133]) M1 Q)) : wp kc (d + 1) 220 98 [none, none, none, none, some (jI v4), none, none] [jL u0, jI u1, jR 133] M Q :=
  (wp_wk (l' := [none, none, none, none, some (jI v4), none, none]) ⟨rfl, trivial⟩ (x_cs (As := [jL u0]) (st := [jI u1, jR 133]) c220_98 (by decide) rfl (Nat.le_of_ble_eq_true rfl) mx223 (Nat.le_refl _) H))
theorem s220_101 {kc : List va_E} {d : Nat} {v4 u0 u1 : Int} {M : fx_M} {Q : Option fx_V → fx_M → Prop} (H : Q (some (jI v4)) (fx_up M 133 7 (u1 + u0))) : wp kc (d + 1) 220 101 [none, none, none, none, some (jI v4), none, none] [jI u0, jI u1, jR 133] M Q :=
  (x_iadd c220_101 (x_pfi c220_102 k_133_7 (x_ild c220_105 rfl (x_irt c220_107 r220 H))))
theorem s220 {kc : List va_E} {d : Nat} {x1 x2 : Int} {M : fx_M} {Q : Option fx_V → fx_M → Prop} (H : wp kc (d + 1) 220 8 [some (jR 133), none, some (jI x2), some (jI 0), some (jI (-1)), some (jI x1), none] [] M Q) : wc kc (d + 1) 220 [jR 133, jI x1, jI x2] M Q :=
  wc_of (wp_wk (l' := [some (jR 133), some (jI x1), some (jI x2), none, none, none, none]) ⟨rfl, ⟨rfl, ⟨rfl, trivial⟩⟩⟩ (s220_0 H))

theorem c221_0 : fx_op 221 0 = some (.iload_n 0, 1, 0) := by decide +kernel
theorem c221_240 : fx_cj 221 240 = some (7234935, 243) := by decide +kernel
theorem c221_244 : fx_cj 221 244 = some (1920298085, 247) := by decide +kernel
theorem c221_248 : fx_cj 221 248 = some (1700881256, 251) := by decide +kernel
theorem c221_252 : fx_cj 221 252 = some (1734964837, 255) := by decide +kernel
theorem c221_256 : fx_cj 221 256 = some (1685221232, 259) := by decide +kernel
theorem c221_260 : fx_cj 221 260 = some (1952807028, 263) := by decide +kernel
theorem c221_264 : fx_cj 221 264 = some (1819238756, 267) := by decide +kernel
theorem c221_268 : fx_cj 221 268 = some (27424514944365171, 271) := by decide +kernel
theorem c221_272 : fx_cj 221 272 = some (1835101817, 275) := by decide +kernel
theorem c221_276 : fx_cj 221 276 = some (1885954923, 279) := by decide +kernel
theorem c221_280 : fx_cj 221 280 = some (482956244581, 283) := by decide +kernel
theorem c221_284 : fx_cj 221 284 = some (426953237355, 287) := by decide +kernel
theorem c221_288 : fx_cj 221 288 = some (444300616805, 291) := by decide +kernel
theorem c221_292 : fx_cj 221 292 = some (1751740020, 295) := by decide +kernel
theorem c221_296 : fx_cj 221 296 = some (1937007984, 299) := by decide +kernel
theorem c221_300 : fx_cj 221 300 = some (495790618213, 303) := by decide +kernel
theorem c221_304 : fx_cj 221 304 = some (499917087592, 307) := by decide +kernel
theorem c221_308 : fx_cj 221 308 = some (427020088168, 311) := by decide +kernel
theorem c221_312 : fx_cj 221 312 = some (465557353332, 315) := by decide +kernel
theorem c221_316 : fx_cj 221 316 = some (1835101029, 319) := by decide +kernel
theorem c221_320 : fx_cj 221 320 = some (1718579821, 323) := by decide +kernel
theorem c221_324 : fx_cj 221 324 = some (1986097785, 327) := by decide +kernel
theorem c221_328 : fx_cj 221 328 = some (1718185572, 331) := by decide +kernel
theorem c221_332 : fx_cj 221 332 = some (427071792498, 335) := by decide +kernel
theorem c221_336 : fx_cj 221 336 = some (108170671449444, 339) := by decide +kernel
theorem c221_340 : fx_cj 221 340 = some (123581014175598, 343) := by decide +kernel
theorem c221_344 : fx_cj 221 344 = some (7370100, 347) := by decide +kernel
theorem c221_348 : fx_cj 221 348 = some (1970168943, 351) := by decide +kernel
theorem c221_352 : fx_cj 221 352 = some (1919247471, 355) := by decide +kernel
theorem c221_356 : fx_cj 221 356 = some (495873782885, 359) := by decide +kernel
theorem c221_360 : fx_cj 221 360 = some (1835102827, 363) := by decide +kernel
theorem c221_364 : fx_cj 221 364 = some (469786323827, 367) := by decide +kernel
theorem c221_368 : fx_cj 221 368 = some (513021013607, 371) := by decide +kernel
theorem c221_372 : fx_cj 221 372 = some (27988542884246388, 375) := by decide +kernel
theorem c221_376 : fx_cj 221 376 = some (7562612, 379) := by decide +kernel
theorem c221_380 : fx_cj 221 380 = some (126947999705460, 383) := by decide +kernel
theorem c221_384 : fx_cj 221 384 = some (499850046565, 387) := by decide +kernel
theorem c221_388 : fx_cj 221 388 = some (1801807216, 391) := by decide +kernel
theorem c221_392 : fx_cj 221 392 = some (1869636974, 395) := by decide +kernel
theorem c221_396 : fx_cj 221 396 = some (125779953284709, 399) := by decide +kernel
theorem c221_400 : fx_cj 221 400 = some (1818850164, 403) := by decide +kernel
theorem c221_404 : fx_cj 221 404 = some (6518132, 407) := by decide +kernel
theorem c221_408 : fx_cj 221 408 = some (1835363940, 411) := by decide +kernel
theorem c221_412 : fx_cj 221 412 = some (111567956832884, 415) := by decide +kernel
theorem c221_416 : fx_cj 221 416 = some (115918758703732, 419) := by decide +kernel
theorem c221_420 : fx_cj 221 420 = some (129117125700453, 423) := by decide +kernel
theorem c221_424 : fx_cj 221 424 = some (418430675813, 427) := by decide +kernel
theorem c221_428 : fx_cj 221 428 = some (117026742756708, 431) := by decide +kernel
theorem c221_432 : fx_cj 221 432 = some (1919513445, 435) := by decide +kernel
theorem c221_436 : fx_cj 221 436 = some (7566701, 439) := by decide +kernel
theorem c221_440 : fx_cj 221 440 = some (427071729268, 443) := by decide +kernel
theorem c221_444 : fx_cj 221 444 = some (418497262196, 447) := by decide +kernel
theorem c221_448 : fx_cj 221 448 = some (1936024942, 451) := by decide +kernel
theorem c221_452 : fx_cj 221 452 = some (7499639, 455) := by decide +kernel
theorem c221_456 : fx_cj 221 456 = some (109330212154734, 459) := by decide +kernel
theorem c221_460 : fx_cj 221 460 = some (1885432178, 463) := by decide +kernel
theorem c221_464 : fx_cj 221 464 = some (1651470187, 467) := by decide +kernel
theorem c221_243 : fx_op 221 243 = some (.lreturn, 244, 243) := by decide +kernel
theorem c221_247 : fx_op 221 247 = some (.lreturn, 248, 247) := by decide +kernel
theorem c221_251 : fx_op 221 251 = some (.lreturn, 252, 251) := by decide +kernel
theorem c221_255 : fx_op 221 255 = some (.lreturn, 256, 255) := by decide +kernel
theorem c221_259 : fx_op 221 259 = some (.lreturn, 260, 259) := by decide +kernel
theorem c221_263 : fx_op 221 263 = some (.lreturn, 264, 263) := by decide +kernel
theorem c221_267 : fx_op 221 267 = some (.lreturn, 268, 267) := by decide +kernel
theorem c221_271 : fx_op 221 271 = some (.lreturn, 272, 271) := by decide +kernel
theorem c221_275 : fx_op 221 275 = some (.lreturn, 276, 275) := by decide +kernel
theorem c221_279 : fx_op 221 279 = some (.lreturn, 280, 279) := by decide +kernel
theorem c221_283 : fx_op 221 283 = some (.lreturn, 284, 283) := by decide +kernel
theorem c221_287 : fx_op 221 287 = some (.lreturn, 288, 287) := by decide +kernel
theorem c221_291 : fx_op 221 291 = some (.lreturn, 292, 291) := by decide +kernel
theorem c221_295 : fx_op 221 295 = some (.lreturn, 296, 295) := by decide +kernel
theorem c221_299 : fx_op 221 299 = some (.lreturn, 300, 299) := by decide +kernel
theorem c221_303 : fx_op 221 303 = some (.lreturn, 304, 303) := by decide +kernel
theorem c221_307 : fx_op 221 307 = some (.lreturn, 308, 307) := by decide +kernel
theorem c221_311 : fx_op 221 311 = some (.lreturn, 312, 311) := by decide +kernel
theorem c221_315 : fx_op 221 315 = some (.lreturn, 316, 315) := by decide +kernel
theorem c221_319 : fx_op 221 319 = some (.lreturn, 320, 319) := by decide +kernel
theorem c221_323 : fx_op 221 323 = some (.lreturn, 324, 323) := by decide +kernel
theorem c221_327 : fx_op 221 327 = some (.lreturn, 328, 327) := by decide +kernel
theorem c221_331 : fx_op 221 331 = some (.lreturn, 332, 331) := by decide +kernel
theorem c221_335 : fx_op 221 335 = some (.lreturn, 336, 335) := by decide +kernel
theorem c221_339 : fx_op 221 339 = some (.lreturn, 340, 339) := by decide +kernel
theorem c221_343 : fx_op 221 343 = some (.lreturn, 344, 343) := by decide +kernel
theorem c221_347 : fx_op 221 347 = some (.lreturn, 348, 347) := by decide +kernel
theorem c221_351 : fx_op 221 351 = some (.lreturn, 352, 351) := by decide +kernel
theorem c221_355 : fx_op 221 355 = some (.lreturn, 356, 355) := by decide +kernel
theorem c221_359 : fx_op 221 359 = some (.lreturn, 360, 359) := by decide +kernel
theorem c221_363 : fx_op 221 363 = some (.lreturn, 364, 363) := by decide +kernel
theorem c221_367 : fx_op 221 367 = some (.lreturn, 368, 367) := by decide +kernel
theorem c221_371 : fx_op 221 371 = some (.lreturn, 372, 371) := by decide +kernel
theorem c221_375 : fx_op 221 375 = some (.lreturn, 376, 375) := by decide +kernel
theorem c221_379 : fx_op 221 379 = some (.lreturn, 380, 379) := by decide +kernel
theorem c221_383 : fx_op 221 383 = some (.lreturn, 384, 383) := by decide +kernel
theorem c221_387 : fx_op 221 387 = some (.lreturn, 388, 387) := by decide +kernel
theorem c221_391 : fx_op 221 391 = some (.lreturn, 392, 391) := by decide +kernel
theorem c221_395 : fx_op 221 395 = some (.lreturn, 396, 395) := by decide +kernel
theorem c221_399 : fx_op 221 399 = some (.lreturn, 400, 399) := by decide +kernel
theorem c221_403 : fx_op 221 403 = some (.lreturn, 404, 403) := by decide +kernel
theorem c221_407 : fx_op 221 407 = some (.lreturn, 408, 407) := by decide +kernel
theorem c221_411 : fx_op 221 411 = some (.lreturn, 412, 411) := by decide +kernel
theorem c221_415 : fx_op 221 415 = some (.lreturn, 416, 415) := by decide +kernel
theorem c221_419 : fx_op 221 419 = some (.lreturn, 420, 419) := by decide +kernel
theorem c221_423 : fx_op 221 423 = some (.lreturn, 424, 423) := by decide +kernel
theorem c221_427 : fx_op 221 427 = some (.lreturn, 428, 427) := by decide +kernel
theorem c221_431 : fx_op 221 431 = some (.lreturn, 432, 431) := by decide +kernel
theorem c221_435 : fx_op 221 435 = some (.lreturn, 436, 435) := by decide +kernel
theorem c221_439 : fx_op 221 439 = some (.lreturn, 440, 439) := by decide +kernel
theorem c221_443 : fx_op 221 443 = some (.lreturn, 444, 443) := by decide +kernel
theorem c221_447 : fx_op 221 447 = some (.lreturn, 448, 447) := by decide +kernel
theorem c221_451 : fx_op 221 451 = some (.lreturn, 452, 451) := by decide +kernel
theorem c221_455 : fx_op 221 455 = some (.lreturn, 456, 455) := by decide +kernel
theorem c221_459 : fx_op 221 459 = some (.lreturn, 460, 459) := by decide +kernel
theorem c221_463 : fx_op 221 463 = some (.lreturn, 464, 463) := by decide +kernel
theorem c221_1 : fx_ts 221 1 = some (0, [240, 244, 248, 252, 256, 260, 264, 268, 272, 276, 280, 284, 288, 292, 296, 300, 304, 308, 312, 316, 320, 324, 328, 332, 336, 340, 344, 348, 352, 356, 360, 364, 368, 372, 376, 380, 384, 388, 392, 396, 400, 404, 408, 412, 416, 420, 424, 428, 432, 436, 440, 444, 448, 452, 456, 460], 464) := by decide +kernel
theorem c221_467 : fx_op 221 467 = some (.lreturn, 468, 467) := by decide +kernel
theorem s221_0 {kc : List va_E} {d : Nat} {x0 : Int} {M : fx_M} {Q : Option fx_V → fx_M → Prop} (H : fx_in32 x0 ∧ (x0 = 0 → Q (some (jL 7234935)) M) ∧ (x0 = 1 → Q (some (jL 1920298085)) M) ∧ (x0 = 2 → Q (some (jL 1700881256)) M) ∧ (x0 = 3 → Q (some (jL 1734964837)) M) ∧ (x0 = 4 → Q (some (jL 1685221232)) M) ∧ (x0 = 5 → Q (some (jL 1952807028)) M) ∧ (x0 = 6 → Q (some (jL 1819238756)) M) ∧ (x0 = 7 → Q (some (jL 27424514944365171)) M) ∧ (x0 = 8 → Q (some (jL 1835101817)) M) ∧ (x0 = 9 → Q (some (jL 1885954923)) M) ∧ (x0 = 10 → Q (some (jL 482956244581)) M) ∧ (x0 = 11 → Q (some (jL 426953237355)) M) ∧ (x0 = 12 → Q (some (jL 444300616805)) M) ∧ (x0 = 13 → Q (some (jL 1751740020)) M) ∧ (x0 = 14 → Q (some (jL 1937007984)) M) ∧ (x0 = 15 → Q (some (jL 495790618213)) M) ∧ (x0 = 16 → Q (some (jL 499917087592)) M) ∧ (x0 = 17 → Q (some (jL 427020088168)) M) ∧ (x0 = 18 → Q (some (jL 465557353332)) M) ∧ (x0 = 19 → Q (some (jL 1835101029)) M) ∧ (x0 = 20 → Q (some (jL 1718579821)) M) ∧ (x0 = 21 → Q (some (jL 1986097785)) M) ∧ (x0 = 22 → Q (some (jL 1718185572)) M) ∧ (x0 = 23 → Q (some (jL 427071792498)) M) ∧ (x0 = 24 → Q (some (jL 108170671449444)) M) ∧ (x0 = 25 → Q (some (jL 123581014175598)) M) ∧ (x0 = 26 → Q (some (jL 7370100)) M) ∧ (x0 = 27 → Q (some (jL 1970168943)) M) ∧ (x0 = 28 → Q (some (jL 1919247471)) M) ∧ (x0 = 29 → Q (some (jL 495873782885)) M) ∧ (x0 = 30 → Q (some (jL 1835102827)) M) ∧ (x0 = 31 → Q (some (jL 469786323827)) M) ∧ (x0 = 32 → Q (some (jL 513021013607)) M) ∧ (x0 = 33 → Q (some (jL 27988542884246388)) M) ∧ (x0 = 34 → Q (some (jL 7562612)) M) ∧ (x0 = 35 → Q (some (jL 126947999705460)) M) ∧ (x0 = 36 → Q (some (jL 499850046565)) M) ∧ (x0 = 37 → Q (some (jL 1801807216)) M) ∧ (x0 = 38 → Q (some (jL 1869636974)) M) ∧ (x0 = 39 → Q (some (jL 125779953284709)) M) ∧ (x0 = 40 → Q (some (jL 1818850164)) M) ∧ (x0 = 41 → Q (some (jL 6518132)) M) ∧ (x0 = 42 → Q (some (jL 1835363940)) M) ∧ (x0 = 43 → Q (some (jL 111567956832884)) M) ∧ (x0 = 44 → Q (some (jL 115918758703732)) M) ∧ (x0 = 45 → Q (some (jL 129117125700453)) M) ∧ (x0 = 46 → Q (some (jL 418430675813)) M) ∧ (x0 = 47 → Q (some (jL 117026742756708)) M) ∧ (x0 = 48 → Q (some (jL 1919513445)) M) ∧ (x0 = 49 → Q (some (jL 7566701)) M) ∧ (x0 = 50 → Q (some (jL 427071729268)) M) ∧ (x0 = 51 → Q (some (jL 418497262196)) M) ∧ (x0 = 52 → Q (some (jL 1936024942)) M) ∧ (x0 = 53 → Q (some (jL 7499639)) M) ∧ (x0 = 54 → Q (some (jL 109330212154734)) M) ∧ (x0 = 55 → Q (some (jL 1885432178)) M) ∧ ((x0 < 0 ∨ 56 ≤ x0) → Q (some (jL 1651470187)) M)) : wp kc (d + 1) 221 0 [some (jI x0)] [] M Q :=
  (x_ildn c221_0 rfl (x_sw c221_1 H.1 ⟨fun h1 => (x_cj c221_240 (x_lrt c221_243 r221 (H.2.1 h1))), ⟨fun h2 => (x_cj c221_244 (x_lrt c221_247 r221 (H.2.2.1 h2))), ⟨fun h3 => (x_cj c221_248 (x_lrt c221_251 r221 (H.2.2.2.1 h3))), ⟨fun h4 => (x_cj c221_252 (x_lrt c221_255 r221 (H.2.2.2.2.1 h4))), ⟨fun h5 => (x_cj c221_256 (x_lrt c221_259 r221 (H.2.2.2.2.2.1 h5))), ⟨fun h6 => (x_cj c221_260 (x_lrt c221_263 r221 (H.2.2.2.2.2.2.1 h6))), ⟨fun h7 => (x_cj c221_264 (x_lrt c221_267 r221 (H.2.2.2.2.2.2.2.1 h7))), ⟨fun h8 => (x_cj c221_268 (x_lrt c221_271 r221 (H.2.2.2.2.2.2.2.2.1 h8))), ⟨fun h9 => (x_cj c221_272 (x_lrt c221_275 r221 (H.2.2.2.2.2.2.2.2.2.1 h9))), ⟨fun h10 => (x_cj c221_276 (x_lrt c221_279 r221 (H.2.2.2.2.2.2.2.2.2.2.1 h10))), ⟨fun h11 => (x_cj c221_280 (x_lrt c221_283 r221 (H.2.2.2.2.2.2.2.2.2.2.2.1 h11))), ⟨fun h12 => (x_cj c221_284 (x_lrt c221_287 r221 (H.2.2.2.2.2.2.2.2.2.2.2.2.1 h12))), ⟨fun h13 => (x_cj c221_288 (x_lrt c221_291 r221 (H.2.2.2.2.2.2.2.2.2.2.2.2.2.1 h13))), ⟨fun h14 => (x_cj c221_292 (x_lrt c221_295 r221 (H.2.2.2.2.2.2.2.2.2.2.2.2.2.2.1 h14))), ⟨fun h15 => (x_cj c221_296 (x_lrt c221_299 r221 (H.2.2.2.2.2.2.2.2.2.2.2.2.2.2.2.1 h15))), ⟨fun h16 => (x_cj c221_300 (x_lrt c221_303 r221 (H.2.2.2.2.2.2.2.2.2.2.2.2.2.2.2.2.1 h16))), ⟨fun h17 => (x_cj c221_304 (x_lrt c221_307 r221 (H.2.2.2.2.2.2.2.2.2.2.2.2.2.2.2.2.2.1 h17))), ⟨fun h18 => (x_cj c221_308 (x_lrt c221_311 r221 (H.2.2.2.2.2.2.2.2.2.2.2.2.2.2.2.2.2.2.1 h18))), ⟨fun h19 => (x_cj c221_312 (x_lrt c221_315 r221 (H.2.2.2.2.2.2.2.2.2.2.2.2.2.2.2.2.2.2.2.1 h19))), ⟨fun h20 => (x_cj c221_316 (x_lrt c221_319 r221 (H.2.2.2.2.2.2.2.2.2.2.2.2.2.2.2.2.2.2.2.2.1 h20))), ⟨fun h21 => (x_cj c221_320 (x_lrt c221_323 r221 (H.2.2.2.2.2.2.2.2.2.2.2.2.2.2.2.2.2.2.2.2.2.1 h21))), ⟨fun h22 => (x_cj c221_324 (x_lrt c221_327 r221 (H.2.2.2.2.2.2.2.2.2.2.2.2.2.2.2.2.2.2.2.2.2.2.1 h22))), ⟨fun h23 => (x_cj c221_328 (x_lrt c221_331 r221 (H.2.2.2.2.2.2.2.2.2.2.2.2.2.2.2.2.2.2.2.2.2.2.2.1 h23))), ⟨fun h24 => (x_cj c221_332 (x_lrt c221_335 r221 (H.2.2.2.2.2.2.2.2.2.2.2.2.2.2.2.2.2.2.2.2.2.2.2.2.1 h24))), ⟨fun h25 => (x_cj c221_336 (x_lrt c221_339 r221 (H.2.2.2.2.2.2.2.2.2.2.2.2.2.2.2.2.2.2.2.2.2.2.2.2.2.1 h25))), ⟨fun h26 => (x_cj c221_340 (x_lrt c221_343 r221 (H.2.2.2.2.2.2.2.2.2.2.2.2.2.2.2.2.2.2.2.2.2.2.2.2.2.2.1 h26))), ⟨fun h27 => (x_cj c221_344 (x_lrt c221_347 r221 (H.2.2.2.2.2.2.2.2.2.2.2.2.2.2.2.2.2.2.2.2.2.2.2.2.2.2.2.1 h27))), ⟨fun h28 => (x_cj c221_348 (x_lrt c221_351 r221 (H.2.2.2.2.2.2.2.2.2.2.2.2.2.2.2.2.2.2.2.2.2.2.2.2.2.2.2.2.1 h28))), ⟨fun h29 => (x_cj c221_352 (x_lrt c221_355 r221 (H.2.2.2.2.2.2.2.2.2.2.2.2.2.2.2.2.2.2.2.2.2.2.2.2.2.2.2.2.2.1 h29))), ⟨fun h30 => (x_cj c221_356 (x_lrt c221_359 r221 (H.2.2.2.2.2.2.2.2.2.2.2.2.2.2.2.2.2.2.2.2.2.2.2.2.2.2.2.2.2.2.1 h30))), ⟨fun h31 => (x_cj c221_360 (x_lrt c221_363 r221 (H.2.2.2.2.2.2.2.2.2.2.2.2.2.2.2.2.2.2.2.2.2.2.2.2.2.2.2.2.2.2.2.1 h31))), ⟨fun h32 => (x_cj c221_364 (x_lrt c221_367 r221 (H.2.2.2.2.2.2.2.2.2.2.2.2.2.2.2.2.2.2.2.2.2.2.2.2.2.2.2.2.2.2.2.2.1 h32))), ⟨fun h33 => (x_cj c221_368 (x_lrt c221_371 r221 (H.2.2.2.2.2.2.2.2.2.2.2.2.2.2.2.2.2.2.2.2.2.2.2.2.2.2.2.2.2.2.2.2.2.1 h33))), ⟨fun h34 => (x_cj c221_372 (x_lrt c221_375 r221 (H.2.2.2.2.2.2.2.2.2.2.2.2.2.2.2.2.2.2.2.2.2.2.2.2.2.2.2.2.2.2.2.2.2.2.1 h34))), ⟨fun h35 => (x_cj c221_376 (x_lrt c221_379 r221 (H.2.2.2.2.2.2.2.2.2.2.2.2.2.2.2.2.2.2.2.2.2.2.2.2.2.2.2.2.2.2.2.2.2.2.2.1 h35))), ⟨fun h36 => (x_cj c221_380 (x_lrt c221_383 r221 (H.2.2.2.2.2.2.2.2.2.2.2.2.2.2.2.2.2.2.2.2.2.2.2.2.2.2.2.2.2.2.2.2.2.2.2.2.1 h36))), ⟨fun h37 => (x_cj c221_384 (x_lrt c221_387 r221 (H.2.2.2.2.2.2.2.2.2.2.2.2.2.2.2.2.2.2.2.2.2.2.2.2.2.2.2.2.2.2.2.2.2.2.2.2.2.1 h37))), ⟨fun h38 => (x_cj c221_388 (x_lrt c221_391 r221 (H.2.2.2.2.2.2.2.2.2.2.2.2.2.2.2.2.2.2.2.2.2.2.2.2.2.2.2.2.2.2.2.2.2.2.2.2.2.2.1 h38))), ⟨fun h39 => (x_cj c221_392 (x_lrt c221_395 r221 (H.2.2.2.2.2.2.2.2.2.2.2.2.2.2.2.2.2.2.2.2.2.2.2.2.2.2.2.2.2.2.2.2.2.2.2.2.2.2.2.1 h39))), ⟨fun h40 => (x_cj c221_396 (x_lrt c221_399 r221 (H.2.2.2.2.2.2.2.2.2.2.2.2.2.2.2.2.2.2.2.2.2.2.2.2.2.2.2.2.2.2.2.2.2.2.2.2.2.2.2.2.1 h40))), ⟨fun h41 => (x_cj c221_400 (x_lrt c221_403 r221 (H.2.2.2.2.2.2.2.2.2.2.2.2.2.2.2.2.2.2.2.2.2.2.2.2.2.2.2.2.2.2.2.2.2.2.2.2.2.2.2.2.2.1 h41))), ⟨fun h42 => (x_cj c221_404 (x_lrt c221_407 r221 (H.2.2.2.2.2.2.2.2.2.2.2.2.2.2.2.2.2.2.2.2.2.2.2.2.2.2.2.2.2.2.2.2.2.2.2.2.2.2.2.2.2.2.1 h42))), ⟨fun h43 => (x_cj c221_408 (x_lrt c221_411 r221 (H.2.2.2.2.2.2.2.2.2.2.2.2.2.2.2.2.2.2.2.2.2.2.2.2.2.2.2.2.2.2.2.2.2.2.2.2.2.2.2.2.2.2.2.1 h43))), ⟨fun h44 => (x_cj c221_412 (x_lrt c221_415 r221 (H.2.2.2.2.2.2.2.2.2.2.2.2.2.2.2.2.2.2.2.2.2.2.2.2.2.2.2.2.2.2.2.2.2.2.2.2.2.2.2.2.2.2.2.2.1 h44))), ⟨fun h45 => (x_cj c221_416 (x_lrt c221_419 r221 (H.2.2.2.2.2.2.2.2.2.2.2.2.2.2.2.2.2.2.2.2.2.2.2.2.2.2.2.2.2.2.2.2.2.2.2.2.2.2.2.2.2.2.2.2.2.1 h45))), ⟨fun h46 => (x_cj c221_420 (x_lrt c221_423 r221 (H.2.2.2.2.2.2.2.2.2.2.2.2.2.2.2.2.2.2.2.2.2.2.2.2.2.2.2.2.2.2.2.2.2.2.2.2.2.2.2.2.2.2.2.2.2.2.1 h46))), ⟨fun h47 => (x_cj c221_424 (x_lrt c221_427 r221 (H.2.2.2.2.2.2.2.2.2.2.2.2.2.2.2.2.2.2.2.2.2.2.2.2.2.2.2.2.2.2.2.2.2.2.2.2.2.2.2.2.2.2.2.2.2.2.2.1 h47))), ⟨fun h48 => (x_cj c221_428 (x_lrt c221_431 r221 (H.2.2.2.2.2.2.2.2.2.2.2.2.2.2.2.2.2.2.2.2.2.2.2.2.2.2.2.2.2.2.2.2.2.2.2.2.2.2.2.2.2.2.2.2.2.2.2.2.1 h48))), ⟨fun h49 => (x_cj c221_432 (x_lrt c221_435 r221 (H.2.2.2.2.2.2.2.2.2.2.2.2.2.2.2.2.2.2.2.2.2.2.2.2.2.2.2.2.2.2.2.2.2.2.2.2.2.2.2.2.2.2.2.2.2.2.2.2.2.1 h49))), ⟨fun h50 => (x_cj c221_436 (x_lrt c221_439 r221 (H.2.2.2.2.2.2.2.2.2.2.2.2.2.2.2.2.2.2.2.2.2.2.2.2.2.2.2.2.2.2.2.2.2.2.2.2.2.2.2.2.2.2.2.2.2.2.2.2.2.2.1 h50))), ⟨fun h51 => (x_cj c221_440 (x_lrt c221_443 r221 (H.2.2.2.2.2.2.2.2.2.2.2.2.2.2.2.2.2.2.2.2.2.2.2.2.2.2.2.2.2.2.2.2.2.2.2.2.2.2.2.2.2.2.2.2.2.2.2.2.2.2.2.1 h51))), ⟨fun h52 => (x_cj c221_444 (x_lrt c221_447 r221 (H.2.2.2.2.2.2.2.2.2.2.2.2.2.2.2.2.2.2.2.2.2.2.2.2.2.2.2.2.2.2.2.2.2.2.2.2.2.2.2.2.2.2.2.2.2.2.2.2.2.2.2.2.1 h52))), ⟨fun h53 => (x_cj c221_448 (x_lrt c221_451 r221 (H.2.2.2.2.2.2.2.2.2.2.2.2.2.2.2.2.2.2.2.2.2.2.2.2.2.2.2.2.2.2.2.2.2.2.2.2.2.2.2.2.2.2.2.2.2.2.2.2.2.2.2.2.2.1 h53))), ⟨fun h54 => (x_cj c221_452 (x_lrt c221_455 r221 (H.2.2.2.2.2.2.2.2.2.2.2.2.2.2.2.2.2.2.2.2.2.2.2.2.2.2.2.2.2.2.2.2.2.2.2.2.2.2.2.2.2.2.2.2.2.2.2.2.2.2.2.2.2.2.1 h54))), ⟨fun h55 => (x_cj c221_456 (x_lrt c221_459 r221 (H.2.2.2.2.2.2.2.2.2.2.2.2.2.2.2.2.2.2.2.2.2.2.2.2.2.2.2.2.2.2.2.2.2.2.2.2.2.2.2.2.2.2.2.2.2.2.2.2.2.2.2.2.2.2.2.1 h55))), ⟨fun h56 => (x_cj c221_460 (x_lrt c221_463 r221 (H.2.2.2.2.2.2.2.2.2.2.2.2.2.2.2.2.2.2.2.2.2.2.2.2.2.2.2.2.2.2.2.2.2.2.2.2.2.2.2.2.2.2.2.2.2.2.2.2.2.2.2.2.2.2.2.2.1 h56))), trivial⟩⟩⟩⟩⟩⟩⟩⟩⟩⟩⟩⟩⟩⟩⟩⟩⟩⟩⟩⟩⟩⟩⟩⟩⟩⟩⟩⟩⟩⟩⟩⟩⟩⟩⟩⟩⟩⟩⟩⟩⟩⟩⟩⟩⟩⟩⟩⟩⟩⟩⟩⟩⟩⟩⟩⟩ (fun h57 => (x_cj c221_464 (x_lrt c221_467 r221 (H.2.2.2.2.2.2.2.2.2.2.2.2.2.2.2.2.2.2.2.2.2.2.2.2.2.2.2.2.2.2.2.2.2.2.2.2.2.2.2.2.2.2.2.2.2.2.2.2.2.2.2.2.2.2.2.2.2 h57))))))
theorem s221 {kc : List va_E} {d : Nat} {x0 : Int} {M : fx_M} {Q : Option fx_V → fx_M → Prop} (H : fx_in32 x0 ∧ (x0 = 0 → Q (some (jL 7234935)) M) ∧ (x0 = 1 → Q (some (jL 1920298085)) M) ∧ (x0 = 2 → Q (some (jL 1700881256)) M) ∧ (x0 = 3 → Q (some (jL 1734964837)) M) ∧ (x0 = 4 → Q (some (jL 1685221232)) M) ∧ (x0 = 5 → Q (some (jL 1952807028)) M) ∧ (x0 = 6 → Q (some (jL 1819238756)) M) ∧ (x0 = 7 → Q (some (jL 27424514944365171)) M) ∧ (x0 = 8 → Q (some (jL 1835101817)) M) ∧ (x0 = 9 → Q (some (jL 1885954923)) M) ∧ (x0 = 10 → Q (some (jL 482956244581)) M) ∧ (x0 = 11 → Q (some (jL 426953237355)) M) ∧ (x0 = 12 → Q (some (jL 444300616805)) M) ∧ (x0 = 13 → Q (some (jL 1751740020)) M) ∧ (x0 = 14 → Q (some (jL 1937007984)) M) ∧ (x0 = 15 → Q (some (jL 495790618213)) M) ∧ (x0 = 16 → Q (some (jL 499917087592)) M) ∧ (x0 = 17 → Q (some (jL 427020088168)) M) ∧ (x0 = 18 → Q (some (jL 465557353332)) M) ∧ (x0 = 19 → Q (some (jL 1835101029)) M) ∧ (x0 = 20 → Q (some (jL 1718579821)) M) ∧ (x0 = 21 → Q (some (jL 1986097785)) M) ∧ (x0 = 22 → Q (some (jL 1718185572)) M) ∧ (x0 = 23 → Q (some (jL 427071792498)) M) ∧ (x0 = 24 → Q (some (jL 108170671449444)) M) ∧ (x0 = 25 → Q (some (jL 123581014175598)) M) ∧ (x0 = 26 → Q (some (jL 7370100)) M) ∧ (x0 = 27 → Q (some (jL 1970168943)) M) ∧ (x0 = 28 → Q (some (jL 1919247471)) M) ∧ (x0 = 29 → Q (some (jL 495873782885)) M) ∧ (x0 = 30 → Q (some (jL 1835102827)) M) ∧ (x0 = 31 → Q (some (jL 469786323827)) M) ∧ (x0 = 32 → Q (some (jL 513021013607)) M) ∧ (x0 = 33 → Q (some (jL 27988542884246388)) M) ∧ (x0 = 34 → Q (some (jL 7562612)) M) ∧ (x0 = 35 → Q (some (jL 126947999705460)) M) ∧ (x0 = 36 → Q (some (jL 499850046565)) M) ∧ (x0 = 37 → Q (some (jL 1801807216)) M) ∧ (x0 = 38 → Q (some (jL 1869636974)) M) ∧ (x0 = 39 → Q (some (jL 125779953284709)) M) ∧ (x0 = 40 → Q (some (jL 1818850164)) M) ∧ (x0 = 41 → Q (some (jL 6518132)) M) ∧ (x0 = 42 → Q (some (jL 1835363940)) M) ∧ (x0 = 43 → Q (some (jL 111567956832884)) M) ∧ (x0 = 44 → Q (some (jL 115918758703732)) M) ∧ (x0 = 45 → Q (some (jL 129117125700453)) M) ∧ (x0 = 46 → Q (some (jL 418430675813)) M) ∧ (x0 = 47 → Q (some (jL 117026742756708)) M) ∧ (x0 = 48 → Q (some (jL 1919513445)) M) ∧ (x0 = 49 → Q (some (jL 7566701)) M) ∧ (x0 = 50 → Q (some (jL 427071729268)) M) ∧ (x0 = 51 → Q (some (jL 418497262196)) M) ∧ (x0 = 52 → Q (some (jL 1936024942)) M) ∧ (x0 = 53 → Q (some (jL 7499639)) M) ∧ (x0 = 54 → Q (some (jL 109330212154734)) M) ∧ (x0 = 55 → Q (some (jL 1885432178)) M) ∧ ((x0 < 0 ∨ 56 ≤ x0) → Q (some (jL 1651470187)) M)) : wc kc (d + 1) 221 [jI x0] M Q :=
  wc_of (wp_wk (l' := [some (jI x0)]) ⟨rfl, trivial⟩ (s221_0 H))

theorem c222_0 : fx_ci 222 0 = some (0, 1) := by decide +kernel
theorem c222_1 : fx_op 222 1 = some (.istore_n 3, 2, 1) := by decide +kernel
theorem c222_2 : fx_op 222 2 = some (.iload_n 3, 3, 2) := by decide +kernel
theorem c222_3 : fx_op 222 3 = some (.lload_n 1, 4, 3) := by decide +kernel
theorem c222_4 : fx_ca 222 4 = some (223, 1, 0, 7) := by decide +kernel
theorem c222_7 : fx_op 222 7 = some (.if_icmp .ge 41, 10, 48) := by decide +kernel
theorem c222_10 : fx_op 222 10 = some (.aload_n 0, 11, 10) := by decide +kernel
theorem c222_11 : fx_gf 222 11 = some (12, 7, 14) := by decide +kernel
theorem c222_14 : fx_op 222 14 = some (.iload_n 3, 15, 14) := by decide +kernel
theorem c222_15 : fx_op 222 15 = some (.iadd, 16, 15) := by decide +kernel
theorem c222_16 : fx_op 222 16 = some (.aload_n 0, 17, 16) := by decide +kernel
theorem c222_17 : fx_gf 222 17 = some (12, 3, 20) := by decide +kernel
theorem c222_20 : fx_op 222 20 = some (.if_icmp .ge 28, 23, 48) := by decide +kernel
theorem c222_23 : fx_op 222 23 = some (.aload_n 0, 24, 23) := by decide +kernel
theorem c222_24 : fx_gf 222 24 = some (12, 4, 27) := by decide +kernel
theorem c222_27 : fx_op 222 27 = some (.aload_n 0, 28, 27) := by decide +kernel
theorem c222_28 : fx_gf 222 28 = some (12, 7, 31) := by decide +kernel
theorem c222_31 : fx_op 222 31 = some (.iload_n 3, 32, 31) := by decide +kernel
theorem c222_32 : fx_op 222 32 = some (.iadd, 33, 32) := by decide +kernel
theorem c222_33 : fx_op 222 33 = some (.iaload, 34, 33) := by decide +kernel
theorem c222_34 : fx_op 222 34 = some (.lload_n 1, 35, 34) := by decide +kernel
theorem c222_35 : fx_op 222 35 = some (.iload_n 3, 36, 35) := by decide +kernel
theorem c222_48 : fx_op 222 48 = some (.iload_n 3, 49, 48) := by decide +kernel
theorem c222_49 : fx_op 222 49 = some (.ireturn, 50, 49) := by decide +kernel
theorem c222_36 : fx_ca 222 36 = some (224, 2, 0, 39) := by decide +kernel
theorem c222_39 : fx_op 222 39 = some (.if_icmp .ne 9, 42, 48) := by decide +kernel
theorem c222_42 : fx_op 222 42 = some (.iinc 3 1, 45, 42) := by decide +kernel
theorem c222_45 : fx_op 222 45 = some (.goto (-43), 48, 2) := by decide +kernel
theorem s222_0 {kc : List va_E} {d : Nat} {x1 : Int} {M : fx_M} {Q : Option fx_V → fx_M → Prop} (H : wp kc (d + 1) 222 2 [some (jR 133), some (jL x1), none, some (jI 0)] [] M Q) : wp kc (d + 1) 222 0 [some (jR 133), some (jL x1), none, none] [] M Q :=
  (x_ci c222_0 (x_istn (l' := [some (jR 133), some (jL x1), none, some (jI 0)]) c222_1 rfl (wp_wk (l' := [some (jR 133), some (jL x1), none, some (jI 0)]) ⟨rfl, ⟨rfl, ⟨rfl, trivial⟩⟩⟩ H)))
theorem s222_2 {kc : List va_E} {d : Nat} {v1 v3 : Int} {M : fx_M} {Q : Option fx_V → fx_M → Prop} (H : wc kc d 223 [jL v1] M (fun v M1 => wp kc (d + 1) 222 7 [some (jR 133), some (jL v1), none, some (jI v3)] (v.toList ++ [jI v3]) M1 Q)) : wp kc (d + 1) 222 2 [some (jR 133), some (jL v1), none, some (jI v3)] [] M Q :=
  (x_ildn c222_2 rfl (x_lldn c222_3 rfl (wp_wk (l' := [some (jR 133), some (jL v1), none, some (jI v3)]) ⟨rfl, ⟨rfl, ⟨rfl, trivial⟩⟩⟩ (x_cs (As := [jL v1]) (st := [jI v3]) c222_4 (by decide) rfl (Nat.le_of_ble_eq_true rfl) mx223 (Nat.le_refl _) H))))
theorem s222_7 {kc : List va_E} {d : Nat} {v1 v3 u0 u1 : Int} {M : fx_M} {Q : Option fx_V → fx_M → Prop} (H : ((fx_in32 u1) ∧ (fx_in32 u0)) ∧ (u0 ≤ u1 → Q (some (jI v3)) M) ∧ (u1 < u0 → ((fx_in32 ((M 133 7) + v3)) ∧ (fx_in32 (M 133 3))) ∧ (M 133 3 ≤ (M 133 7) + v3 → Q (some (jI v3)) M) ∧ ((M 133 7) + v3 < M 133 3 → (((0 : Int) ≤ (M 133 7) + v3 ∧ (M 133 7) + v3 < 6100)) ∧ wc kc d 224 [jL v1, jI v3] M (fun v M1 => wp kc (d + 1) 222 39 [some (jR 133), some (jL v1), none, some (jI v3)] (v.toList ++ [jI (M 135 ((M 133 7) + v3))]) M1 Q)))) : wp kc (d + 1) 222 7 [some (jR 133), some (jL v1), none, some (jI v3)] [jI u0, jI u1] M Q :=
  (x_cge c222_7 H.1.1 H.1.2 (fun h3 => (x_ildn c222_48 rfl (x_irt c222_49 r222 (H.2.1 h3)))) (fun h4 => (x_aldn c222_10 rfl (x_gfi c222_11 k_133_7 (x_ildn c222_14 rfl (x_iadd c222_15 (x_aldn c222_16 rfl (x_gfi c222_17 k_133_3 (x_cge c222_20 (H.2.2 h4).1.1 (H.2.2 h4).1.2 (fun h1 => (x_ildn c222_48 rfl (x_irt c222_49 r222 ((H.2.2 h4).2.1 h1)))) (fun h2 => (x_aldn c222_23 rfl (x_gfr c222_24 k_133_4 (x_aldn c222_27 rfl (x_gfi c222_28 k_133_7 (x_ildn c222_31 rfl (x_iadd c222_32 (x_iald c222_33 a_135 ((H.2.2 h4).2.2 h2).1 (by decide) (x_lldn c222_34 rfl (x_ildn c222_35 rfl (wp_wk (l' := [some (jR 133), some (jL v1), none, some (jI v3)]) ⟨rfl, ⟨rfl, ⟨rfl, trivial⟩⟩⟩ (x_cs (As := [jL v1, jI v3]) (st := [jI (M 135 ((M 133 7) + v3))]) c222_36 (by decide) rfl (Nat.le_of_ble_eq_true rfl) mx224 (Nat.le_refl _) ((H.2.2 h4).2.2 h2).2)))))))))))))))))))))
theorem s222_39 {kc : List va_E} {d : Nat} {v1 v3 u0 u1 : Int} {M : fx_M} {Q : Option fx_V → fx_M → Prop} (H : ((fx_in32 u1) ∧ (fx_in32 u0)) ∧ (u1 ≠ u0 → Q (some (jI v3)) M) ∧ (u1 = u0 → wp kc (d + 1) 222 2 [some (jR 133), some (jL v1), none, some (jI (v3 + 1))] [] M Q)) : wp kc (d + 1) 222 39 [some (jR 133), some (jL v1), none, some (jI v3)] [jI u0, jI u1] M Q :=
  (x_cne c222_39 H.1.1 H.1.2 (fun h1 => (x_ildn c222_48 rfl (x_irt c222_49 r222 (H.2.1 h1)))) (fun h2 => (x_inc (l' := [some (jR 133), some (jL v1), none, some (jI (v3 + 1))]) c222_42 rfl rfl (x_goto c222_45 (wp_wk (l' := [some (jR 133), some (jL v1), none, some (jI (v3 + 1))]) ⟨rfl, ⟨rfl, ⟨rfl, trivial⟩⟩⟩ (H.2.2 h2))))))
theorem s222 {kc : List va_E} {d : Nat} {x1 : Int} {M : fx_M} {Q : Option fx_V → fx_M → Prop} (H : wp kc (d + 1) 222 2 [some (jR 133), some (jL x1), none, some (jI 0)] [] M Q) : wc kc (d + 1) 222 [jR 133, jL x1] M Q :=
  wc_of (wp_wk (l' := [some (jR 133), some (jL x1), none, none]) ⟨rfl, ⟨rfl, trivial⟩⟩ (s222_0 H))

theorem c223_0 : fx_ci 223 0 = some (0, 1) := by decide +kernel
theorem c223_1 : fx_op 223 1 = some (.istore_n 2, 2, 1) := by decide +kernel
theorem c223_2 : fx_op 223 2 = some (.lload_n 0, 3, 2) := by decide +kernel
theorem c223_3 : fx_op 223 3 = some (.lstore_n 3, 4, 3) := by decide +kernel
theorem c223_4 : fx_op 223 4 = some (.lload_n 3, 5, 4) := by decide +kernel
theorem c223_5 : fx_cj 223 5 = some (0, 6) := by decide +kernel
theorem c223_7 : fx_op 223 7 = some (.ifCond .eq 14, 10, 21) := by decide +kernel
theorem c223_10 : fx_op 223 10 = some (.iinc 2 1, 13, 10) := by decide +kernel
theorem c223_13 : fx_op 223 13 = some (.lload_n 3, 14, 13) := by decide +kernel
theorem c223_14 : fx_ci 223 14 = some (8, 16) := by decide +kernel
theorem c223_16 : fx_op 223 16 = some (.lshr, 17, 16) := by decide +kernel
theorem c223_17 : fx_op 223 17 = some (.lstore_n 3, 18, 17) := by decide +kernel
theorem c223_21 : fx_op 223 21 = some (.iload_n 2, 22, 21) := by decide +kernel
theorem c223_6 : fx_op 223 6 = some (.lcmp, 7, 6) := by decide +kernel
theorem c223_22 : fx_op 223 22 = some (.ireturn, 23, 22) := by decide +kernel
theorem c223_18 : fx_op 223 18 = some (.goto (-14), 21, 4) := by decide +kernel
theorem s223_0 {kc : List va_E} {d : Nat} {x0 : Int} {M : fx_M} {Q : Option fx_V → fx_M → Prop} (H : wp kc (d + 1) 223 4 [none, none, some (jI 0), some (jL x0), none] [] M Q) : wp kc (d + 1) 223 0 [some (jL x0), none, none, none, none] [] M Q :=
  (x_ci c223_0 (x_istn (l' := [some (jL x0), none, some (jI 0), none, none]) c223_1 rfl (x_lldn c223_2 rfl (x_lstn (l' := [some (jL x0), none, some (jI 0), some (jL x0), none]) c223_3 rfl (wp_wk (l' := [none, none, some (jI 0), some (jL x0), none]) ⟨rfl, ⟨rfl, trivial⟩⟩ H)))))
theorem s223_4 {kc : List va_E} {d : Nat} {v2 v3 : Int} {M : fx_M} {Q : Option fx_V → fx_M → Prop} (H : ((fx_in64 v3)) ∧ (fx_cmp v3 0 = 0 → Q (some (jI v2)) M) ∧ (fx_cmp v3 0 ≠ 0 → wp kc (d + 1) 223 4 [none, none, some (jI (v2 + 1)), some (jL (fx_lshr v3 8)), none] [] M Q)) : wp kc (d + 1) 223 4 [none, none, some (jI v2), some (jL v3), none] [] M Q :=
  (x_lldn c223_4 rfl (x_cj c223_5 (x_lcmp c223_6 H.1 (by decide) (x_zeq c223_7 (fx_cmp_in _ _) (fun h1 => (x_ildn c223_21 rfl (x_irt c223_22 r223 (H.2.1 h1)))) (fun h2 => (x_inc (l' := [none, none, some (jI (v2 + 1)), some (jL v3), none]) c223_10 rfl rfl (x_lldn c223_13 rfl (x_ci c223_14 (x_lshr c223_16 (x_lstn (l' := [none, none, some (jI (v2 + 1)), some (jL (fx_lshr v3 8)), none]) c223_17 rfl (x_goto c223_18 (wp_wk (l' := [none, none, some (jI (v2 + 1)), some (jL (fx_lshr v3 8)), none]) ⟨rfl, ⟨rfl, trivial⟩⟩ (H.2.2 h2)))))))))))))
theorem s223 {kc : List va_E} {d : Nat} {x0 : Int} {M : fx_M} {Q : Option fx_V → fx_M → Prop} (H : wp kc (d + 1) 223 4 [none, none, some (jI 0), some (jL x0), none] [] M Q) : wc kc (d + 1) 223 [jL x0] M Q :=
  wc_of (wp_wk (l' := [some (jL x0), none, none, none, none]) ⟨rfl, trivial⟩ (s223_0 H))

theorem c224_0 : fx_op 224 0 = some (.lload_n 0, 1, 0) := by decide +kernel
theorem c224_1 : fx_ci 224 1 = some (8, 3) := by decide +kernel
theorem c224_3 : fx_op 224 3 = some (.lload_n 0, 4, 3) := by decide +kernel
theorem c224_4 : fx_ca 224 4 = some (223, 1, 0, 7) := by decide +kernel
theorem c224_7 : fx_ci 224 7 = some (1, 8) := by decide +kernel
theorem c224_8 : fx_op 224 8 = some (.isub, 9, 8) := by decide +kernel
theorem c224_9 : fx_op 224 9 = some (.iload_n 2, 10, 9) := by decide +kernel
theorem c224_10 : fx_op 224 10 = some (.isub, 11, 10) := by decide +kernel
theorem c224_11 : fx_op 224 11 = some (.imul, 12, 11) := by decide +kernel
theorem c224_12 : fx_op 224 12 = some (.lshr, 13, 12) := by decide +kernel
theorem c224_13 : fx_cj 224 13 = some (255, 16) := by decide +kernel
theorem c224_16 : fx_op 224 16 = some (.land, 17, 16) := by decide +kernel
theorem c224_17 : fx_op 224 17 = some (.l2i, 18, 17) := by decide +kernel
theorem c224_18 : fx_op 224 18 = some (.ireturn, 19, 18) := by decide +kernel
theorem s224_0 {kc : List va_E} {d : Nat} {x0 x2 : Int} {M : fx_M} {Q : Option fx_V → fx_M → Prop} (H : wc kc d 223 [jL x0] M (fun v M1 => wp kc (d + 1) 224 7 [none, none, some (jI x2)] (v.toList ++ [jI 8, jL x0]) M1 Q)) : wp kc (d + 1) 224 0 [some (jL x0), none, some (jI x2)] [] M Q :=
  (x_lldn c224_0 rfl (x_ci c224_1 (x_lldn c224_3 rfl (wp_wk (l' := [none, none, some (jI x2)]) ⟨rfl, trivial⟩ (x_cs (As := [jL x0]) (st := [jI 8, jL x0]) c224_4 (by decide) rfl (Nat.le_of_ble_eq_true rfl) mx223 (Nat.le_refl _) H)))))
theorem s224_7 {kc : List va_E} {d : Nat} {v2 u0 u1 u2 : Int} {M : fx_M} {Q : Option fx_V → fx_M → Prop} (H : Q (some (jI (fx_land (fx_lshr u2 (u1 * ((u0 - 1) - v2))) 255))) M) : wp kc (d + 1) 224 7 [none, none, some (jI v2)] [jI u0, jI u1, jL u2] M Q :=
  (x_ci c224_7 (x_isub c224_8 (x_ildn c224_9 rfl (x_isub c224_10 (x_imul c224_11 (x_lshr c224_12 (x_cj c224_13 (x_land c224_16 (x_l2i c224_17 (x_irt c224_18 r224 H))))))))))
theorem s224 {kc : List va_E} {d : Nat} {x0 x2 : Int} {M : fx_M} {Q : Option fx_V → fx_M → Prop} (H : wc kc d 223 [jL x0] M (fun v M1 => wp kc (d + 1) 224 7 [none, none, some (jI x2)] (v.toList ++ [jI 8, jL x0]) M1 Q)) : wc kc (d + 1) 224 [jL x0, jI x2] M Q :=
  wc_of (wp_wk (l' := [some (jL x0), none, some (jI x2)]) ⟨rfl, ⟨rfl, trivial⟩⟩ (s224_0 H))

theorem c225_0 : fx_op 225 0 = some (.iload_n 1, 1, 0) := by decide +kernel
theorem c225_196 : fx_op 225 196 = some (.aload_n 0, 197, 196) := by decide +kernel
theorem c225_201 : fx_op 225 201 = some (.aload_n 0, 202, 201) := by decide +kernel
theorem c225_206 : fx_op 225 206 = some (.aload_n 0, 207, 206) := by decide +kernel
theorem c225_211 : fx_op 225 211 = some (.aload_n 0, 212, 211) := by decide +kernel
theorem c225_212 : fx_ci 225 212 = some (1, 213) := by decide +kernel
theorem c225_397 : fx_ci 225 397 = some (1, 398) := by decide +kernel
theorem c225_223 : fx_op 225 223 = some (.aload_n 0, 224, 223) := by decide +kernel
theorem c225_224 : fx_ci 225 224 = some (32, 226) := by decide +kernel
theorem c225_246 : fx_op 225 246 = some (.aload_n 0, 247, 246) := by decide +kernel
theorem c225_251 : fx_op 225 251 = some (.aload_n 0, 252, 251) := by decide +kernel
theorem c225_252 : fx_ci 225 252 = some (32, 254) := by decide +kernel
theorem c225_297 : fx_op 225 297 = some (.aload_n 0, 298, 297) := by decide +kernel
theorem c225_298 : fx_ci 225 298 = some (32, 300) := by decide +kernel
theorem c225_217 : fx_op 225 217 = some (.aload_n 0, 218, 217) := by decide +kernel
theorem c225_218 : fx_ci 225 218 = some (0, 219) := by decide +kernel
theorem c225_275 : fx_op 225 275 = some (.aload_n 0, 276, 275) := by decide +kernel
theorem c225_276 : fx_ci 225 276 = some (32, 278) := by decide +kernel
theorem c225_341 : fx_op 225 341 = some (.aload_n 0, 342, 341) := by decide +kernel
theorem c225_342 : fx_ci 225 342 = some (32, 344) := by decide +kernel
theorem c225_370 : fx_op 225 370 = some (.aload_n 0, 371, 370) := by decide +kernel
theorem c225_319 : fx_op 225 319 = some (.aload_n 0, 320, 319) := by decide +kernel
theorem c225_320 : fx_ci 225 320 = some (32, 322) := by decide +kernel
theorem c225_375 : fx_op 225 375 = some (.aload_n 0, 376, 375) := by decide +kernel
theorem c225_376 : fx_ci 225 376 = some (32, 378) := by decide +kernel
theorem c225_197 : fx_ca 225 197 = some (226, 1, 2, 200) := by decide +kernel
theorem c225_202 : fx_ca 225 202 = some (230, 1, 2, 205) := by decide +kernel
theorem c225_207 : fx_ca 225 207 = some (234, 1, 2, 210) := by decide +kernel
theorem c225_213 : fx_ca 225 213 = some (235, 2, 2, 216) := by decide +kernel
theorem c225_398 : fx_op 225 398 = some (.ireturn, 399, 398) := by decide +kernel
theorem c225_226 : fx_ca 225 226 = some (227, 2, 2, 229) := by decide +kernel
theorem c225_247 : fx_ca 225 247 = some (236, 1, 2, 250) := by decide +kernel
theorem c225_254 : fx_ca 225 254 = some (227, 2, 2, 257) := by decide +kernel
theorem c225_300 : fx_ca 225 300 = some (227, 2, 2, 303) := by decide +kernel
theorem c225_219 : fx_ca 225 219 = some (235, 2, 2, 222) := by decide +kernel
theorem c225_278 : fx_ca 225 278 = some (227, 2, 2, 281) := by decide +kernel
theorem c225_344 : fx_ca 225 344 = some (227, 2, 2, 347) := by decide +kernel
theorem c225_371 : fx_ca 225 371 = some (250, 1, 2, 374) := by decide +kernel
theorem c225_322 : fx_ca 225 322 = some (227, 2, 2, 325) := by decide +kernel
theorem c225_378 : fx_ca 225 378 = some (227, 2, 2, 381) := by decide +kernel
theorem c225_1 : fx_ts 225 1 = some (0, [196, 201, 206, 211, 397, 397, 223, 246, 397, 251, 397, 297, 397, 397, 397, 397, 397, 397, 397, 217, 397, 246, 397, 246, 397, 275, 211, 397, 246, 397, 217, 246, 397, 397, 341, 370, 397, 319, 319, 319, 397, 246, 397, 397, 375], 397) := by decide +kernel
theorem c225_200 : fx_op 225 200 = some (.ireturn, 201, 200) := by decide +kernel
theorem c225_205 : fx_op 225 205 = some (.ireturn, 206, 205) := by decide +kernel
theorem c225_210 : fx_op 225 210 = some (.ireturn, 211, 210) := by decide +kernel
theorem c225_216 : fx_op 225 216 = some (.ireturn, 217, 216) := by decide +kernel
theorem c225_229 : fx_op 225 229 = some (.ifCond .eq 15, 232, 244) := by decide +kernel
theorem c225_244 : fx_ci 225 244 = some (0, 245) := by decide +kernel
theorem c225_232 : fx_op 225 232 = some (.aload_n 0, 233, 232) := by decide +kernel
theorem c225_233 : fx_ci 225 233 = some ((-1), 234) := by decide +kernel
theorem c225_245 : fx_op 225 245 = some (.ireturn, 246, 245) := by decide +kernel
theorem c225_234 : fx_ca 225 234 = some (238, 2, 2, 237) := by decide +kernel
theorem c225_250 : fx_op 225 250 = some (.ireturn, 251, 250) := by decide +kernel
theorem c225_257 : fx_op 225 257 = some (.ifCond .eq 16, 260, 273) := by decide +kernel
theorem c225_273 : fx_ci 225 273 = some (0, 274) := by decide +kernel
theorem c225_260 : fx_op 225 260 = some (.aload_n 0, 261, 260) := by decide +kernel
theorem c225_261 : fx_ci 225 261 = some (6, 263) := by decide +kernel
theorem c225_274 : fx_op 225 274 = some (.ireturn, 275, 274) := by decide +kernel
theorem c225_263 : fx_ca 225 263 = some (233, 2, 2, 266) := by decide +kernel
theorem c225_303 : fx_op 225 303 = some (.ifCond .eq 14, 306, 317) := by decide +kernel
theorem c225_317 : fx_ci 225 317 = some (0, 318) := by decide +kernel
theorem c225_306 : fx_op 225 306 = some (.aload_n 0, 307, 306) := by decide +kernel
theorem c225_318 : fx_op 225 318 = some (.ireturn, 319, 318) := by decide +kernel
theorem c225_307 : fx_ca 225 307 = some (246, 1, 2, 310) := by decide +kernel
theorem c225_222 : fx_op 225 222 = some (.ireturn, 223, 222) := by decide +kernel
theorem c225_281 : fx_op 225 281 = some (.ifCond .eq 14, 284, 295) := by decide +kernel
theorem c225_295 : fx_ci 225 295 = some (0, 296) := by decide +kernel
theorem c225_284 : fx_op 225 284 = some (.aload_n 0, 285, 284) := by decide +kernel
theorem c225_296 : fx_op 225 296 = some (.ireturn, 297, 296) := by decide +kernel
theorem c225_285 : fx_ca 225 285 = some (229, 1, 2, 288) := by decide +kernel
theorem c225_347 : fx_op 225 347 = some (.ifCond .eq 21, 350, 368) := by decide +kernel
theorem c225_368 : fx_ci 225 368 = some (0, 369) := by decide +kernel
theorem c225_350 : fx_op 225 350 = some (.aload_n 0, 351, 350) := by decide +kernel
theorem c225_369 : fx_op 225 369 = some (.ireturn, 370, 369) := by decide +kernel
theorem c225_351 : fx_ca 225 351 = some (249, 1, 2, 354) := by decide +kernel
theorem c225_374 : fx_op 225 374 = some (.ireturn, 375, 374) := by decide +kernel
theorem c225_325 : fx_op 225 325 = some (.ifCond .eq 14, 328, 339) := by decide +kernel
theorem c225_339 : fx_ci 225 339 = some (0, 340) := by decide +kernel
theorem c225_328 : fx_op 225 328 = some (.aload_n 0, 329, 328) := by decide +kernel
theorem c225_340 : fx_op 225 340 = some (.ireturn, 341, 340) := by decide +kernel
theorem c225_329 : fx_ca 225 329 = some (249, 1, 2, 332) := by decide +kernel
theorem c225_381 : fx_op 225 381 = some (.ifCond .eq 14, 384, 395) := by decide +kernel
theorem c225_395 : fx_ci 225 395 = some (0, 396) := by decide +kernel
theorem c225_384 : fx_op 225 384 = some (.aload_n 0, 385, 384) := by decide +kernel
theorem c225_396 : fx_op 225 396 = some (.ireturn, 397, 396) := by decide +kernel
theorem c225_385 : fx_ca 225 385 = some (251, 1, 2, 388) := by decide +kernel
theorem c225_237 : fx_op 225 237 = some (.ifCond .eq 7, 240, 244) := by decide +kernel
theorem c225_240 : fx_ci 225 240 = some (1, 241) := by decide +kernel
theorem c225_241 : fx_op 225 241 = some (.goto 4, 244, 245) := by decide +kernel
theorem c225_266 : fx_op 225 266 = some (.ifCond .eq 7, 269, 273) := by decide +kernel
theorem c225_269 : fx_ci 225 269 = some (1, 270) := by decide +kernel
theorem c225_270 : fx_op 225 270 = some (.goto 4, 273, 274) := by decide +kernel
theorem c225_310 : fx_op 225 310 = some (.ifCond .eq 7, 313, 317) := by decide +kernel
theorem c225_313 : fx_ci 225 313 = some (1, 314) := by decide +kernel
theorem c225_314 : fx_op 225 314 = some (.goto 4, 317, 318) := by decide +kernel
theorem c225_288 : fx_op 225 288 = some (.ifCond .eq 7, 291, 295) := by decide +kernel
theorem c225_291 : fx_ci 225 291 = some (1, 292) := by decide +kernel
theorem c225_292 : fx_op 225 292 = some (.goto 4, 295, 296) := by decide +kernel
theorem c225_354 : fx_op 225 354 = some (.ifCond .eq 14, 357, 368) := by decide +kernel
theorem c225_357 : fx_op 225 357 = some (.aload_n 0, 358, 357) := by decide +kernel
theorem c225_358 : fx_ca 225 358 = some (236, 1, 2, 361) := by decide +kernel
theorem c225_332 : fx_op 225 332 = some (.ifCond .eq 7, 335, 339) := by decide +kernel
theorem c225_335 : fx_ci 225 335 = some (1, 336) := by decide +kernel
theorem c225_336 : fx_op 225 336 = some (.goto 4, 339, 340) := by decide +kernel
theorem c225_388 : fx_op 225 388 = some (.ifCond .eq 7, 391, 395) := by decide +kernel
theorem c225_391 : fx_ci 225 391 = some (1, 392) := by decide +kernel
theorem c225_392 : fx_op 225 392 = some (.goto 4, 395, 396) := by decide +kernel
theorem c225_361 : fx_op 225 361 = some (.ifCond .eq 7, 364, 368) := by decide +kernel
theorem c225_364 : fx_ci 225 364 = some (1, 365) := by decide +kernel
theorem c225_365 : fx_op 225 365 = some (.goto 4, 368, 369) := by decide +kernel
theorem s225_0 {kc : List va_E} {d : Nat} {x1 : Int} {M : fx_M} {Q : Option fx_V → fx_M → Prop} (H : fx_in32 x1 ∧ (x1 = 0 → wc kc d 226 [jR 133] M (fun v M1 => wp kc (d + 1) 225 200 [none, none] (v.toList ++ []) M1 Q)) ∧ (x1 = 1 → wc kc d 230 [jR 133] M (fun v M1 => wp kc (d + 1) 225 205 [none, none] (v.toList ++ []) M1 Q)) ∧ (x1 = 2 → wc kc d 234 [jR 133] M (fun v M1 => wp kc (d + 1) 225 210 [none, none] (v.toList ++ []) M1 Q)) ∧ (x1 = 3 → wc kc d 235 [jR 133, jI 1] M (fun v M1 => wp kc (d + 1) 225 216 [none, none] (v.toList ++ []) M1 Q)) ∧ (x1 = 4 → Q (some (jI 1)) M) ∧ (x1 = 5 → Q (some (jI 1)) M) ∧ (x1 = 6 → wc kc d 227 [jR 133, jI 32] M (fun v M1 => wp kc (d + 1) 225 229 [some (jR 133), none] (v.toList ++ []) M1 Q)) ∧ (x1 = 7 → wc kc d 236 [jR 133] M (fun v M1 => wp kc (d + 1) 225 250 [none, none] (v.toList ++ []) M1 Q)) ∧ (x1 = 8 → Q (some (jI 1)) M) ∧ (x1 = 9 → wc kc d 227 [jR 133, jI 32] M (fun v M1 => wp kc (d + 1) 225 257 [some (jR 133), none] (v.toList ++ []) M1 Q)) ∧ (x1 = 10 → Q (some (jI 1)) M) ∧ (x1 = 11 → wc kc d 227 [jR 133, jI 32] M (fun v M1 => wp kc (d + 1) 225 303 [some (jR 133), none] (v.toList ++ []) M1 Q)) ∧ (x1 = 12 → Q (some (jI 1)) M) ∧ (x1 = 13 → Q (some (jI 1)) M) ∧ (x1 = 14 → Q (some (jI 1)) M) ∧ (x1 = 15 → Q (some (jI 1)) M) ∧ (x1 = 16 → Q (some (jI 1)) M) ∧ (x1 = 17 → Q (some (jI 1)) M) ∧ (x1 = 18 → Q (some (jI 1)) M) ∧ (x1 = 19 → wc kc d 235 [jR 133, jI 0] M (fun v M1 => wp kc (d + 1) 225 222 [none, none] (v.toList ++ []) M1 Q)) ∧ (x1 = 20 → Q (some (jI 1)) M) ∧ (x1 = 21 → wc kc d 236 [jR 133] M (fun v M1 => wp kc (d + 1) 225 250 [none, none] (v.toList ++ []) M1 Q)) ∧ (x1 = 22 → Q (some (jI 1)) M) ∧ (x1 = 23 → wc kc d 236 [jR 133] M (fun v M1 => wp kc (d + 1) 225 250 [none, none] (v.toList ++ []) M1 Q)) ∧ (x1 = 24 → Q (some (jI 1)) M) ∧ (x1 = 25 → wc kc d 227 [jR 133, jI 32] M (fun v M1 => wp kc (d + 1) 225 281 [some (jR 133), none] (v.toList ++ []) M1 Q)) ∧ (x1 = 26 → wc kc d 235 [jR 133, jI 1] M (fun v M1 => wp kc (d + 1) 225 216 [none, none] (v.toList ++ []) M1 Q)) ∧ (x1 = 27 → Q (some (jI 1)) M) ∧ (x1 = 28 → wc kc d 236 [jR 133] M (fun v M1 => wp kc (d + 1) 225 250 [none, none] (v.toList ++ []) M1 Q)) ∧ (x1 = 29 → Q (some (jI 1)) M) ∧ (x1 = 30 → wc kc d 235 [jR 133, jI 0] M (fun v M1 => wp kc (d + 1) 225 222 [none, none] (v.toList ++ []) M1 Q)) ∧ (x1 = 31 → wc kc d 236 [jR 133] M (fun v M1 => wp kc (d + 1) 225 250 [none, none] (v.toList ++ []) M1 Q)) ∧ (x1 = 32 → Q (some (jI 1)) M) ∧ (x1 = 33 → Q (some (jI 1)) M) ∧ (x1 = 34 → wc kc d 227 [jR 133, jI 32] M (fun v M1 => wp kc (d + 1) 225 347 [some (jR 133), none] (v.toList ++ []) M1 Q)) ∧ (x1 = 35 → wc kc d 250 [jR 133] M (fun v M1 => wp kc (d + 1) 225 374 [none, none] (v.toList ++ []) M1 Q)) ∧ (x1 = 36 → Q (some (jI 1)) M) ∧ (x1 = 37 → wc kc d 227 [jR 133, jI 32] M (fun v M1 => wp kc (d + 1) 225 325 [some (jR 133), none] (v.toList ++ []) M1 Q)) ∧ (x1 = 38 → wc kc d 227 [jR 133, jI 32] M (fun v M1 => wp kc (d + 1) 225 325 [some (jR 133), none] (v.toList ++ []) M1 Q)) ∧ (x1 = 39 → wc kc d 227 [jR 133, jI 32] M (fun v M1 => wp kc (d + 1) 225 325 [some (jR 133), none] (v.toList ++ []) M1 Q)) ∧ (x1 = 40 → Q (some (jI 1)) M) ∧ (x1 = 41 → wc kc d 236 [jR 133] M (fun v M1 => wp kc (d + 1) 225 250 [none, none] (v.toList ++ []) M1 Q)) ∧ (x1 = 42 → Q (some (jI 1)) M) ∧ (x1 = 43 → Q (some (jI 1)) M) ∧ (x1 = 44 → wc kc d 227 [jR 133, jI 32] M (fun v M1 => wp kc (d + 1) 225 381 [some (jR 133), none] (v.toList ++ []) M1 Q)) ∧ ((x1 < 0 ∨ 45 ≤ x1) → Q (some (jI 1)) M)) : wp kc (d + 1) 225 0 [some (jR 133), some (jI x1)] [] M Q :=
  (x_ildn c225_0 rfl (x_sw c225_1 H.1 ⟨fun h1 => (x_aldn c225_196 rfl (wp_wk (l' := [none, none]) trivial (x_cv (As := []) (st := []) c225_197 cl_133 kl226 rfl (Nat.le_of_ble_eq_true rfl) mx226 (Nat.le_refl _) (H.2.1 h1)))), ⟨fun h2 => (x_aldn c225_201 rfl (wp_wk (l' := [none, none]) trivial (x_cv (As := []) (st := []) c225_202 cl_133 kl230 rfl (Nat.le_of_ble_eq_true rfl) mx230 (Nat.le_refl _) (H.2.2.1 h2)))), ⟨fun h3 => (x_aldn c225_206 rfl (wp_wk (l' := [none, none]) trivial (x_cv (As := []) (st := []) c225_207 cl_133 kl234 rfl (Nat.le_of_ble_eq_true rfl) mx234 (Nat.le_refl _) (H.2.2.2.1 h3)))), ⟨fun h4 => (x_aldn c225_211 rfl (x_ci c225_212 (wp_wk (l' := [none, none]) trivial (x_cv (As := [jI 1]) (st := []) c225_213 cl_133 kl235 rfl (Nat.le_of_ble_eq_true rfl) mx235 (Nat.le_refl _) (H.2.2.2.2.1 h4))))), ⟨fun h5 => (x_ci c225_397 (x_zrt c225_398 r225 (by decide) (H.2.2.2.2.2.1 h5))), ⟨fun h6 => (x_ci c225_397 (x_zrt c225_398 r225 (by decide) (H.2.2.2.2.2.2.1 h6))), ⟨fun h7 => (x_aldn c225_223 rfl (x_ci c225_224 (wp_wk (l' := [some (jR 133), none]) ⟨rfl, trivial⟩ (x_cv (As := [jI 32]) (st := []) c225_226 cl_133 kl227 rfl (Nat.le_of_ble_eq_true rfl) mx227 (Nat.le_refl _) (H.2.2.2.2.2.2.2.1 h7))))), ⟨fun h8 => (x_aldn c225_246 rfl (wp_wk (l' := [none, none]) trivial (x_cv (As := []) (st := []) c225_247 cl_133 kl236 rfl (Nat.le_of_ble_eq_true rfl) mx236 (Nat.le_refl _) (H.2.2.2.2.2.2.2.2.1 h8)))), ⟨fun h9 => (x_ci c225_397 (x_zrt c225_398 r225 (by decide) (H.2.2.2.2.2.2.2.2.2.1 h9))), ⟨fun h10 => (x_aldn c225_251 rfl (x_ci c225_252 (wp_wk (l' := [some (jR 133), none]) ⟨rfl, trivial⟩ (x_cv (As := [jI 32]) (st := []) c225_254 cl_133 kl227 rfl (Nat.le_of_ble_eq_true rfl) mx227 (Nat.le_refl _) (H.2.2.2.2.2.2.2.2.2.2.1 h10))))), ⟨fun h11 => (x_ci c225_397 (x_zrt c225_398 r225 (by decide) (H.2.2.2.2.2.2.2.2.2.2.2.1 h11))), ⟨fun h12 => (x_aldn c225_297 rfl (x_ci c225_298 (wp_wk (l' := [some (jR 133), none]) ⟨rfl, trivial⟩ (x_cv (As := [jI 32]) (st := []) c225_300 cl_133 kl227 rfl (Nat.le_of_ble_eq_true rfl) mx227 (Nat.le_refl _) (H.2.2.2.2.2.2.2.2.2.2.2.2.1 h12))))), ⟨fun h13 => (x_ci c225_397 (x_zrt c225_398 r225 (by decide) (H.2.2.2.2.2.2.2.2.2.2.2.2.2.1 h13))), ⟨fun h14 => (x_ci c225_397 (x_zrt c225_398 r225 (by decide) (H.2.2.2.2.2.2.2.2.2.2.2.2.2.2.1 h14))), ⟨fun h15 => (x_ci c225_397 (x_zrt c225_398 r225 (by decide) (H.2.2.2.2.2.2.2.2.2.2.2.2.2.2.2.1 h15))), ⟨fun h16 => (x_ci c225_397 (x_zrt c225_398 r225 (by decide) (H.2.2.2.2.2.2.2.2.2.2.2.2.2.2.2.2.1 h16))), ⟨fun h17 => (x_ci c225_397 (x_zrt c225_398 r225 (by decide) (H.2.2.2.2.2.2.2.2.2.2.2.2.2.2.2.2.2.1 h17))), ⟨fun h18 => (x_ci c225_397 (x_zrt c225_398 r225 (by decide) (H.2.2.2.2.2.2.2.2.2.2.2.2.2.2.2.2.2.2.1 h18))), ⟨fun h19 => (x_ci c225_397 (x_zrt c225_398 r225 (by decide) (H.2.2.2.2.2.2.2.2.2.2.2.2.2.2.2.2.2.2.2.1 h19))), ⟨fun h20 => (x_aldn c225_217 rfl (x_ci c225_218 (wp_wk (l' := [none, none]) trivial (x_cv (As := [jI 0]) (st := []) c225_219 cl_133 kl235 rfl (Nat.le_of_ble_eq_true rfl) mx235 (Nat.le_refl _) (H.2.2.2.2.2.2.2.2.2.2.2.2.2.2.2.2.2.2.2.2.1 h20))))), ⟨fun h21 => (x_ci c225_397 (x_zrt c225_398 r225 (by decide) (H.2.2.2.2.2.2.2.2.2.2.2.2.2.2.2.2.2.2.2.2.2.1 h21))), ⟨fun h22 => (x_aldn c225_246 rfl (wp_wk (l' := [none, none]) trivial (x_cv (As := []) (st := []) c225_247 cl_133 kl236 rfl (Nat.le_of_ble_eq_true rfl) mx236 (Nat.le_refl _) (H.2.2.2.2.2.2.2.2.2.2.2.2.2.2.2.2.2.2.2.2.2.2.1 h22)))), ⟨fun h23 => (x_ci c225_397 (x_zrt c225_398 r225 (by decide) (H.2.2.2.2.2.2.2.2.2.2.2.2.2.2.2.2.2.2.2.2.2.2.2.1 h23))), ⟨fun h24 => (x_aldn c225_246 rfl (wp_wk (l' := [none, none]) trivial (x_cv (As := []) (st := []) c225_247 cl_133 kl236 rfl (Nat.le_of_ble_eq_true rfl) mx236 (Nat.le_refl _) (H.2.2.2.2.2.2.2.2.2.2.2.2.2.2.2.2.2.2.2.2.2.2.2.2.1 h24)))), ⟨fun h25 => (x_ci c225_397 (x_zrt c225_398 r225 (by decide) (H.2.2.2.2.2.2.2.2.2.2.2.2.2.2.2.2.2.2.2.2.2.2.2.2.2.1 h25))), ⟨fun h26 => (x_aldn c225_275 rfl (x_ci c225_276 (wp_wk (l' := [some (jR 133), none]) ⟨rfl, trivial⟩ (x_cv (As := [jI 32]) (st := []) c225_278 cl_133 kl227 rfl (Nat.le_of_ble_eq_true rfl) mx227 (Nat.le_refl _) (H.2.2.2.2.2.2.2.2.2.2.2.2.2.2.2.2.2.2.2.2.2.2.2.2.2.2.1 h26))))), ⟨fun h27 => (x_aldn c225_211 rfl (x_ci c225_212 (wp_wk (l' := [none, none]) trivial (x_cv (As := [jI 1]) (st := []) c225_213 cl_133 kl235 rfl (Nat.le_of_ble_eq_true rfl) mx235 (Nat.le_refl _) (H.2.2.2.2.2.2.2.2.2.2.2.2.2.2.2.2.2.2.2.2.2.2.2.2.2.2.2.1 h27))))), ⟨fun h28 => (x_ci c225_397 (x_zrt c225_398 r225 (by decide) (H.2.2.2.2.2.2.2.2.2.2.2.2.2.2.2.2.2.2.2.2.2.2.2.2.2.2.2.2.1 h28))), ⟨fun h29 => (x_aldn c225_246 rfl (wp_wk (l' := [none, none]) trivial (x_cv (As := []) (st := []) c225_247 cl_133 kl236 rfl (Nat.le_of_ble_eq_true rfl) mx236 (Nat.le_refl _) (H.2.2.2.2.2.2.2.2.2.2.2.2.2.2.2.2.2.2.2.2.2.2.2.2.2.2.2.2.2.1 h29)))), ⟨fun h30 => (x_ci c225_397 (x_zrt c225_398 r225 (by decide) (H.2.2.2.2.2.2.2.2.2.2.2.2.2.2.2.2.2.2.2.2.2.2.2.2.2.2.2.2.2.2.1 h30))), ⟨fun h31 => (x_aldn c225_217 rfl (x_ci c225_218 (wp_wk (l' := [none, none]) trivial (x_cv (As := [jI 0]) (st := []) c225_219 cl_133 kl235 rfl (Nat.le_of_ble_eq_true rfl) mx235 (Nat.le_refl _) (H.2.2.2.2.2.2.2.2.2.2.2.2.2.2.2.2.2.2.2.2.2.2.2.2.2.2.2.2.2.2.2.1 h31))))), ⟨fun h32 => (x_aldn c225_246 rfl (wp_wk (l' := [none, none]) trivial (x_cv (As := []) (st := []) c225_247 cl_133 kl236 rfl (Nat.le_of_ble_eq_true rfl) mx236 (Nat.le_refl _) (H.2.2.2.2.2.2.2.2.2.2.2.2.2.2.2.2.2.2.2.2.2.2.2.2.2.2.2.2.2.2.2.2.1 h32)))), ⟨fun h33 => (x_ci c225_397 (x_zrt c225_398 r225 (by decide) (H.2.2.2.2.2.2.2.2.2.2.2.2.2.2.2.2.2.2.2.2.2.2.2.2.2.2.2.2.2.2.2.2.2.1 h33))), ⟨fun h34 => (x_ci c225_397 (x_zrt c225_398 r225 (by decide) (H.2.2.2.2.2.2.2.2.2.2.2.2.2.2.2.2.2.2.2.2.2.2.2.2.2.2.2.2.2.2.2.2.2.2.1 h34))), ⟨fun h35 => (x_aldn c225_341 rfl (x_ci c225_342 (wp_wk (l' := [some (jR 133), none]) ⟨rfl, trivial⟩ (x_cv (As := [jI 32]) (st := []) c225_344 cl_133 kl227 rfl (Nat.le_of_ble_eq_true rfl) mx227 (Nat.le_refl _) (H.2.2.2.2.2.2.2.2.2.2.2.2.2.2.2.2.2.2.2.2.2.2.2.2.2.2.2.2.2.2.2.2.2.2.2.1 h35))))), ⟨fun h36 => (x_aldn c225_370 rfl (wp_wk (l' := [none, none]) trivial (x_cv (As := []) (st := []) c225_371 cl_133 kl250 rfl (Nat.le_of_ble_eq_true rfl) mx250 (Nat.le_refl _) (H.2.2.2.2.2.2.2.2.2.2.2.2.2.2.2.2.2.2.2.2.2.2.2.2.2.2.2.2.2.2.2.2.2.2.2.2.1 h36)))), ⟨fun h37 => (x_ci c225_397 (x_zrt c225_398 r225 (by decide) (H.2.2.2.2.2.2.2.2.2.2.2.2.2.2.2.2.2.2.2.2.2.2.2.2.2.2.2.2.2.2.2.2.2.2.2.2.2.1 h37))), ⟨fun h38 => (x_aldn c225_319 rfl (x_ci c225_320 (wp_wk (l' := [some (jR 133), none]) ⟨rfl, trivial⟩ (x_cv (As := [jI 32]) (st := []) c225_322 cl_133 kl227 rfl (Nat.le_of_ble_eq_true rfl) mx227 (Nat.le_refl _) (H.2.2.2.2.2.2.2.2.2.2.2.2.2.2.2.2.2.2.2.2.2.2.2.2.2.2.2.2.2.2.2.2.2.2.2.2.2.2.1 h38))))), ⟨fun h39 => (x_aldn c225_319 rfl (x_ci c225_320 (wp_wk (l' := [some (jR 133), none]) ⟨rfl, trivial⟩ (x_cv (As := [jI 32]) (st := []) c225_322 cl_133 kl227 rfl (Nat.le_of_ble_eq_true rfl) mx227 (Nat.le_refl _) (H.2.2.2.2.2.2.2.2.2.2.2.2.2.2.2.2.2.2.2.2.2.2.2.2.2.2.2.2.2.2.2.2.2.2.2.2.2.2.2.1 h39))))), ⟨fun h40 => (x_aldn c225_319 rfl (x_ci c225_320 (wp_wk (l' := [some (jR 133), none]) ⟨rfl, trivial⟩ (x_cv (As := [jI 32]) (st := []) c225_322 cl_133 kl227 rfl (Nat.le_of_ble_eq_true rfl) mx227 (Nat.le_refl _) (H.2.2.2.2.2.2.2.2.2.2.2.2.2.2.2.2.2.2.2.2.2.2.2.2.2.2.2.2.2.2.2.2.2.2.2.2.2.2.2.2.1 h40))))), ⟨fun h41 => (x_ci c225_397 (x_zrt c225_398 r225 (by decide) (H.2.2.2.2.2.2.2.2.2.2.2.2.2.2.2.2.2.2.2.2.2.2.2.2.2.2.2.2.2.2.2.2.2.2.2.2.2.2.2.2.2.1 h41))), ⟨fun h42 => (x_aldn c225_246 rfl (wp_wk (l' := [none, none]) trivial (x_cv (As := []) (st := []) c225_247 cl_133 kl236 rfl (Nat.le_of_ble_eq_true rfl) mx236 (Nat.le_refl _) (H.2.2.2.2.2.2.2.2.2.2.2.2.2.2.2.2.2.2.2.2.2.2.2.2.2.2.2.2.2.2.2.2.2.2.2.2.2.2.2.2.2.2.1 h42)))), ⟨fun h43 => (x_ci c225_397 (x_zrt c225_398 r225 (by decide) (H.2.2.2.2.2.2.2.2.2.2.2.2.2.2.2.2.2.2.2.2.2.2.2.2.2.2.2.2.2.2.2.2.2.2.2.2.2.2.2.2.2.2.2.1 h43))), ⟨fun h44 => (x_ci c225_397 (x_zrt c225_398 r225 (by decide) (H.2.2.2.2.2.2.2.2.2.2.2.2.2.2.2.2.2.2.2.2.2.2.2.2.2.2.2.2.2.2.2.2.2.2.2.2.2.2.2.2.2.2.2.2.1 h44))), ⟨fun h45 => (x_aldn c225_375 rfl (x_ci c225_376 (wp_wk (l' := [some (jR 133), none]) ⟨rfl, trivial⟩ (x_cv (As := [jI 32]) (st := []) c225_378 cl_133 kl227 rfl (Nat.le_of_ble_eq_true rfl) mx227 (Nat.le_refl _) (H.2.2.2.2.2.2.2.2.2.2.2.2.2.2.2.2.2.2.2.2.2.2.2.2.2.2.2.2.2.2.2.2.2.2.2.2.2.2.2.2.2.2.2.2.2.1 h45))))), trivial⟩⟩⟩⟩⟩⟩⟩⟩⟩⟩⟩⟩⟩⟩⟩⟩⟩⟩⟩⟩⟩⟩⟩⟩⟩⟩⟩⟩⟩⟩⟩⟩⟩⟩⟩⟩⟩⟩⟩⟩⟩⟩⟩⟩⟩ (fun h46 => (x_ci c225_397 (x_zrt c225_398 r225 (by decide) (H.2.2.2.2.2.2.2.2.2.2.2.2.2.2.2.2.2.2.2.2.2.2.2.2.2.2.2.2.2.2.2.2.2.2.2.2.2.2.2.2.2.2.2.2.2.2 h46))))))
theorem s225_200 {kc : List va_E} {d : Nat} {u0 : Int} {M : fx_M} {Q : Option fx_V → fx_M → Prop} (H : ((0 : Int) ≤ u0 ∧ u0 ≤ 1) ∧ Q (some (jI u0)) M) : wp kc (d + 1) 225 200 [none, none] [jI u0] M Q :=
  (x_zrt c225_200 r225 H.1 H.2)
theorem s225_205 {kc : List va_E} {d : Nat} {u0 : Int} {M : fx_M} {Q : Option fx_V → fx_M → Prop} (H : ((0 : Int) ≤ u0 ∧ u0 ≤ 1) ∧ Q (some (jI u0)) M) : wp kc (d + 1) 225 205 [none, none] [jI u0] M Q :=
  (x_zrt c225_205 r225 H.1 H.2)
theorem s225_210 {kc : List va_E} {d : Nat} {u0 : Int} {M : fx_M} {Q : Option fx_V → fx_M → Prop} (H : ((0 : Int) ≤ u0 ∧ u0 ≤ 1) ∧ Q (some (jI u0)) M) : wp kc (d + 1) 225 210 [none, none] [jI u0] M Q :=
  (x_zrt c225_210 r225 H.1 H.2)
theorem s225_216 {kc : List va_E} {d : Nat} {u0 : Int} {M : fx_M} {Q : Option fx_V → fx_M → Prop} (H : ((0 : Int) ≤ u0 ∧ u0 ≤ 1) ∧ Q (some (jI u0)) M) : wp kc (d + 1) 225 216 [none, none] [jI u0] M Q :=
  (x_zrt c225_216 r225 H.1 H.2)
theorem s225_222 {kc : List va_E} {d : Nat} {u0 : Int} {M : fx_M} {Q : Option fx_V → fx_M → Prop} (H : ((0 : Int) ≤ u0 ∧ u0 ≤ 1) ∧ Q (some (jI u0)) M) : wp kc (d + 1) 225 222 [none, none] [jI u0] M Q :=
  (x_zrt c225_222 r225 H.1 H.2)
theorem s225_229 {kc : List va_E} {d : Nat} {u0 : Int} {M : fx_M} {Q : Option fx_V → fx_M → Prop} (H : ((fx_in32 u0)) ∧ (u0 = 0 → Q (some (jI 0)) M) ∧ (u0 ≠ 0 → wc kc d 238 [jR 133, jI (-1)] M (fun v M1 => wp kc (d + 1) 225 237 [none, none] (v.toList ++ []) M1 Q))) : wp kc (d + 1) 225 229 [some (jR 133), none] [jI u0] M Q :=
  (x_zeq c225_229 H.1 (fun h1 => (x_ci c225_244 (x_zrt c225_245 r225 (by decide) (H.2.1 h1)))) (fun h2 => (x_aldn c225_232 rfl (x_ci c225_233 (wp_wk (l' := [none, none]) trivial (x_cv (As := [jI (-1)]) (st := []) c225_234 cl_133 kl238 rfl (Nat.le_of_ble_eq_true rfl) mx238 (Nat.le_refl _) (H.2.2 h2)))))))
theorem s225_237 {kc : List va_E} {d : Nat} {u0 : Int} {M : fx_M} {Q : Option fx_V → fx_M → Prop} (H : ((fx_in32 u0)) ∧ ((0 : Int) ≤ (if u0 = 0 then (0 : Int) else 1) ∧ (if u0 = 0 then (0 : Int) else 1) ≤ 1) ∧ Q (some (jI (if u0 = 0 then (0 : Int) else 1))) M) : wp kc (d + 1) 225 237 [none, none] [jI u0] M Q :=
  (have K : wp kc (d + 1) 225 245 [none, none] [jI (if u0 = 0 then (0 : Int) else 1)] M Q := (x_zrt c225_245 r225 H.2.1 H.2.2); (x_zeq c225_237 H.1 (fun (h1 : u0 = 0) => (x_ci c225_244 (wp_wk (l' := [none, none]) trivial (by have K := K; first | (simp only [if_pos h1] at K ⊢; exact K) | (exfalso; omega))))) (fun (h2 : u0 ≠ 0) => (x_ci c225_240 (x_goto c225_241 (wp_wk (l' := [none, none]) trivial (by have K := K; first | (simp only [if_neg h2] at K ⊢; exact K) | (exfalso; omega))))))))
theorem s225_250 {kc : List va_E} {d : Nat} {u0 : Int} {M : fx_M} {Q : Option fx_V → fx_M → Prop} (H : ((0 : Int) ≤ u0 ∧ u0 ≤ 1) ∧ Q (some (jI u0)) M) : wp kc (d + 1) 225 250 [none, none] [jI u0] M Q :=
  (x_zrt c225_250 r225 H.1 H.2)
theorem s225_257 {kc : List va_E} {d : Nat} {u0 : Int} {M : fx_M} {Q : Option fx_V → fx_M → Prop} (H : ((fx_in32 u0)) ∧ (u0 = 0 → Q (some (jI 0)) M) ∧ (u0 ≠ 0 → wc kc d 233 [jR 133, jI 6] M (fun v M1 => wp kc (d + 1) 225 266 [none, none] (v.toList ++ []) M1 Q))) : wp kc (d + 1) 225 257 [some (jR 133), none] [jI u0] M Q :=
  (x_zeq c225_257 H.1 (fun h1 => (x_ci c225_273 (x_zrt c225_274 r225 (by decide) (H.2.1 h1)))) (fun h2 => (x_aldn c225_260 rfl (x_ci c225_261 (wp_wk (l' := [none, none]) trivial (x_cv (As := [jI 6]) (st := []) c225_263 cl_133 kl233 rfl (Nat.le_of_ble_eq_true rfl) mx233 (Nat.le_refl _) (H.2.2 h2)))))))
theorem s225_266 {kc : List va_E} {d : Nat} {u0 : Int} {M : fx_M} {Q : Option fx_V → fx_M → Prop} (H : ((fx_in32 u0)) ∧ ((0 : Int) ≤ (if u0 = 0 then (0 : Int) else 1) ∧ (if u0 = 0 then (0 : Int) else 1) ≤ 1) ∧ Q (some (jI (if u0 = 0 then (0 : Int) else 1))) M) : wp kc (d + 1) 225 266 [none, none] [jI u0] M Q :=
  (have K : wp kc (d + 1) 225 274 [none, none] [jI (if u0 = 0 then (0 : Int) else 1)] M Q := (x_zrt c225_274 r225 H.2.1 H.2.2); (x_zeq c225_266 H.1 (fun (h1 : u0 = 0) => (x_ci c225_273 (wp_wk (l' := [none, none]) trivial (by have K := K; first | (simp only [if_pos h1] at K ⊢; exact K) | (exfalso; omega))))) (fun (h2 : u0 ≠ 0) => (x_ci c225_269 (x_goto c225_270 (wp_wk (l' := [none, none]) trivial (by have K := K; first | (simp only [if_neg h2] at K ⊢; exact K) | (exfalso; omega))))))))
theorem s225_281 {kc : List va_E} {d : Nat} {u0 : Int} {M : fx_M} {Q : Option fx_V → fx_M → Prop} (H : ((fx_in32 u0)) ∧ (u0 = 0 → Q (some (jI 0)) M) ∧ (u0 ≠ 0 → wc kc d 229 [jR 133] M (fun v M1 => wp kc (d + 1) 225 288 [none, none] (v.toList ++ []) M1 Q))) : wp kc (d + 1) 225 281 [some (jR 133), none] [jI u0] M Q :=
  (x_zeq c225_281 H.1 (fun h1 => (x_ci c225_295 (x_zrt c225_296 r225 (by decide) (H.2.1 h1)))) (fun h2 => (x_aldn c225_284 rfl (wp_wk (l' := [none, none]) trivial (x_cv (As := []) (st := []) c225_285 cl_133 kl229 rfl (Nat.le_of_ble_eq_true rfl) mx229 (Nat.le_refl _) (H.2.2 h2))))))
theorem s225_288 {kc : List va_E} {d : Nat} {u0 : Int} {M : fx_M} {Q : Option fx_V → fx_M → Prop} (H : ((fx_in32 u0)) ∧ ((0 : Int) ≤ (if u0 = 0 then (0 : Int) else 1) ∧ (if u0 = 0 then (0 : Int) else 1) ≤ 1) ∧ Q (some (jI (if u0 = 0 then (0 : Int) else 1))) M) : wp kc (d + 1) 225 288 [none, none] [jI u0] M Q :=
  (have K : wp kc (d + 1) 225 296 [none, none] [jI (if u0 = 0 then (0 : Int) else 1)] M Q := (x_zrt c225_296 r225 H.2.1 H.2.2); (x_zeq c225_288 H.1 (fun (h1 : u0 = 0) => (x_ci c225_295 (wp_wk (l' := [none, none]) trivial (by have K := K; first | (simp only [if_pos h1] at K ⊢; exact K) | (exfalso; omega))))) (fun (h2 : u0 ≠ 0) => (x_ci c225_291 (x_goto c225_292 (wp_wk (l' := [none, none]) trivial (by have K := K; first | (simp only [if_neg h2] at K ⊢; exact K) | (exfalso; omega))))))))
theorem s225_303 {kc : List va_E} {d : Nat} {u0 : Int} {M : fx_M} {Q : Option fx_V → fx_M → Prop} (H : ((fx_in32 u0)) ∧ (u0 = 0 → Q (some (jI 0)) M) ∧ (u0 ≠ 0 → wc kc d 246 [jR 133] M (fun v M1 => wp kc (d + 1) 225 310 [none, none] (v.toList ++ []) M1 Q))) : wp kc (d + 1) 225 303 [some (jR 133), none] [jI u0] M Q :=
  (x_zeq c225_303 H.1 (fun h1 => (x_ci c225_317 (x_zrt c225_318 r225 (by decide) (H.2.1 h1)))) (fun h2 => (x_aldn c225_306 rfl (wp_wk (l' := [none, none]) trivial (x_cv (As := []) (st := []) c225_307 cl_133 kl246 rfl (Nat.le_of_ble_eq_true rfl) mx246 (Nat.le_refl _) (H.2.2 h2))))))
theorem s225_310 {kc : List va_E} {d : Nat} {u0 : Int} {M : fx_M} {Q : Option fx_V → fx_M → Prop} (H : ((fx_in32 u0)) ∧ ((0 : Int) ≤ (if u0 = 0 then (0 : Int) else 1) ∧ (if u0 = 0 then (0 : Int) else 1) ≤ 1) ∧ Q (some (jI (if u0 = 0 then (0 : Int) else 1))) M) : wp kc (d + 1) 225 310 [none, none] [jI u0] M Q :=
  (have K : wp kc (d + 1) 225 318 [none, none] [jI (if u0 = 0 then (0 : Int) else 1)] M Q := (x_zrt c225_318 r225 H.2.1 H.2.2); (x_zeq c225_310 H.1 (fun (h1 : u0 = 0) => (x_ci c225_317 (wp_wk (l' := [none, none]) trivial (by have K := K; first | (simp only [if_pos h1] at K ⊢; exact K) | (exfalso; omega))))) (fun (h2 : u0 ≠ 0) => (x_ci c225_313 (x_goto c225_314 (wp_wk (l' := [none, none]) trivial (by have K := K; first | (simp only [if_neg h2] at K ⊢; exact K) | (exfalso; omega))))))))
theorem s225_325 {kc : List va_E} {d : Nat} {u0 : Int} {M : fx_M} {Q : Option fx_V → fx_M → Prop} (H : ((fx_in32 u0)) ∧ (u0 = 0 → Q (some (jI 0)) M) ∧ (u0 ≠ 0 → wc kc d 249 [jR 133] M (fun v M1 => wp kc (d + 1) 225 332 [none, none] (v.toList ++ []) M1 Q))) : wp kc (d + 1) 225 325 [some (jR 133), none] [jI u0] M Q :=
  (x_zeq c225_325 H.1 (fun h1 => (x_ci c225_339 (x_zrt c225_340 r225 (by decide) (H.2.1 h1)))) (fun h2 => (x_aldn c225_328 rfl (wp_wk (l' := [none, none]) trivial (x_cv (As := []) (st := []) c225_329 cl_133 kl249 rfl (Nat.le_of_ble_eq_true rfl) mx249 (Nat.le_refl _) (H.2.2 h2))))))
theorem s225_332 {kc : List va_E} {d : Nat} {u0 : Int} {M : fx_M} {Q : Option fx_V → fx_M → Prop} (H : ((fx_in32 u0)) ∧ ((0 : Int) ≤ (if u0 = 0 then (0 : Int) else 1) ∧ (if u0 = 0 then (0 : Int) else 1) ≤ 1) ∧ Q (some (jI (if u0 = 0 then (0 : Int) else 1))) M) : wp kc (d + 1) 225 332 [none, none] [jI u0] M Q :=
  (have K : wp kc (d + 1) 225 340 [none, none] [jI (if u0 = 0 then (0 : Int) else 1)] M Q := (x_zrt c225_340 r225 H.2.1 H.2.2); (x_zeq c225_332 H.1 (fun (h1 : u0 = 0) => (x_ci c225_339 (wp_wk (l' := [none, none]) trivial (by have K := K; first | (simp only [if_pos h1] at K ⊢; exact K) | (exfalso; omega))))) (fun (h2 : u0 ≠ 0) => (x_ci c225_335 (x_goto c225_336 (wp_wk (l' := [none, none]) trivial (by have K := K; first | (simp only [if_neg h2] at K ⊢; exact K) | (exfalso; omega))))))))
theorem s225_347 {kc : List va_E} {d : Nat} {u0 : Int} {M : fx_M} {Q : Option fx_V → fx_M → Prop} (H : ((fx_in32 u0)) ∧ (u0 = 0 → Q (some (jI 0)) M) ∧ (u0 ≠ 0 → wc kc d 249 [jR 133] M (fun v M1 => wp kc (d + 1) 225 354 [some (jR 133), none] (v.toList ++ []) M1 Q))) : wp kc (d + 1) 225 347 [some (jR 133), none] [jI u0] M Q :=
  (x_zeq c225_347 H.1 (fun h1 => (x_ci c225_368 (x_zrt c225_369 r225 (by decide) (H.2.1 h1)))) (fun h2 => (x_aldn c225_350 rfl (wp_wk (l' := [some (jR 133), none]) ⟨rfl, trivial⟩ (x_cv (As := []) (st := []) c225_351 cl_133 kl249 rfl (Nat.le_of_ble_eq_true rfl) mx249 (Nat.le_refl _) (H.2.2 h2))))))
theorem s225_354 {kc : List va_E} {d : Nat} {u0 : Int} {M : fx_M} {Q : Option fx_V → fx_M → Prop} (H : ((fx_in32 u0)) ∧ (u0 = 0 → Q (some (jI 0)) M) ∧ (u0 ≠ 0 → wc kc d 236 [jR 133] M (fun v M1 => wp kc (d + 1) 225 361 [none, none] (v.toList ++ []) M1 Q))) : wp kc (d + 1) 225 354 [some (jR 133), none] [jI u0] M Q :=
  (x_zeq c225_354 H.1 (fun h1 => (x_ci c225_368 (x_zrt c225_369 r225 (by decide) (H.2.1 h1)))) (fun h2 => (x_aldn c225_357 rfl (wp_wk (l' := [none, none]) trivial (x_cv (As := []) (st := []) c225_358 cl_133 kl236 rfl (Nat.le_of_ble_eq_true rfl) mx236 (Nat.le_refl _) (H.2.2 h2))))))
theorem s225_361 {kc : List va_E} {d : Nat} {u0 : Int} {M : fx_M} {Q : Option fx_V → fx_M → Prop} (H : ((fx_in32 u0)) ∧ ((0 : Int) ≤ (if u0 = 0 then (0 : Int) else 1) ∧ (if u0 = 0 then (0 : Int) else 1) ≤ 1) ∧ Q (some (jI (if u0 = 0 then (0 : Int) else 1))) M) : wp kc (d + 1) 225 361 [none, none] [jI u0] M Q :=
  (have K : wp kc (d + 1) 225 369 [none, none] [jI (if u0 = 0 then (0 : Int) else 1)] M Q := (x_zrt c225_369 r225 H.2.1 H.2.2); (x_zeq c225_361 H.1 (fun (h1 : u0 = 0) => (x_ci c225_368 (wp_wk (l' := [none, none]) trivial (by have K := K; first | (simp only [if_pos h1] at K ⊢; exact K) | (exfalso; omega))))) (fun (h2 : u0 ≠ 0) => (x_ci c225_364 (x_goto c225_365 (wp_wk (l' := [none, none]) trivial (by have K := K; first | (simp only [if_neg h2] at K ⊢; exact K) | (exfalso; omega))))))))
theorem s225_374 {kc : List va_E} {d : Nat} {u0 : Int} {M : fx_M} {Q : Option fx_V → fx_M → Prop} (H : ((0 : Int) ≤ u0 ∧ u0 ≤ 1) ∧ Q (some (jI u0)) M) : wp kc (d + 1) 225 374 [none, none] [jI u0] M Q :=
  (x_zrt c225_374 r225 H.1 H.2)
theorem s225_381 {kc : List va_E} {d : Nat} {u0 : Int} {M : fx_M} {Q : Option fx_V → fx_M → Prop} (H : ((fx_in32 u0)) ∧ (u0 = 0 → Q (some (jI 0)) M) ∧ (u0 ≠ 0 → wc kc d 251 [jR 133] M (fun v M1 => wp kc (d + 1) 225 388 [none, none] (v.toList ++ []) M1 Q))) : wp kc (d + 1) 225 381 [some (jR 133), none] [jI u0] M Q :=
  (x_zeq c225_381 H.1 (fun h1 => (x_ci c225_395 (x_zrt c225_396 r225 (by decide) (H.2.1 h1)))) (fun h2 => (x_aldn c225_384 rfl (wp_wk (l' := [none, none]) trivial (x_cv (As := []) (st := []) c225_385 cl_133 kl251 rfl (Nat.le_of_ble_eq_true rfl) mx251 (Nat.le_refl _) (H.2.2 h2))))))
theorem s225_388 {kc : List va_E} {d : Nat} {u0 : Int} {M : fx_M} {Q : Option fx_V → fx_M → Prop} (H : ((fx_in32 u0)) ∧ ((0 : Int) ≤ (if u0 = 0 then (0 : Int) else 1) ∧ (if u0 = 0 then (0 : Int) else 1) ≤ 1) ∧ Q (some (jI (if u0 = 0 then (0 : Int) else 1))) M) : wp kc (d + 1) 225 388 [none, none] [jI u0] M Q :=
  (have K : wp kc (d + 1) 225 396 [none, none] [jI (if u0 = 0 then (0 : Int) else 1)] M Q := (x_zrt c225_396 r225 H.2.1 H.2.2); (x_zeq c225_388 H.1 (fun (h1 : u0 = 0) => (x_ci c225_395 (wp_wk (l' := [none, none]) trivial (by have K := K; first | (simp only [if_pos h1] at K ⊢; exact K) | (exfalso; omega))))) (fun (h2 : u0 ≠ 0) => (x_ci c225_391 (x_goto c225_392 (wp_wk (l' := [none, none]) trivial (by have K := K; first | (simp only [if_neg h2] at K ⊢; exact K) | (exfalso; omega))))))))
theorem s225 {kc : List va_E} {d : Nat} {x1 : Int} {M : fx_M} {Q : Option fx_V → fx_M → Prop} (H : fx_in32 x1 ∧ (x1 = 0 → wc kc d 226 [jR 133] M (fun v M1 => wp kc (d + 1) 225 200 [none, none] (v.toList ++ []) M1 Q)) ∧ (x1 = 1 → wc kc d 230 [jR 133] M (fun v M1 => wp kc (d + 1) 225 205 [none, none] (v.toList ++ []) M1 Q)) ∧ (x1 = 2 → wc kc d 234 [jR 133] M (fun v M1 => wp kc (d + 1) 225 210 [none, none] (v.toList ++ []) M1 Q)) ∧ (x1 = 3 → wc kc d 235 [jR 133, jI 1] M (fun v M1 => wp kc (d + 1) 225 216 [none, none] (v.toList ++ []) M1 Q)) ∧ (x1 = 4 → Q (some (jI 1)) M) ∧ (x1 = 5 → Q (some (jI 1)) M) ∧ (x1 = 6 → wc kc d 227 [jR 133, jI 32] M (fun v M1 => wp kc (d + 1) 225 229 [some (jR 133), none] (v.toList ++ []) M1 Q)) ∧ (x1 = 7 → wc kc d 236 [jR 133] M (fun v M1 => wp kc (d + 1) 225 250 [none, none] (v.toList ++ []) M1 Q)) ∧ (x1 = 8 → Q (some (jI 1)) M) ∧ (x1 = 9 → wc kc d 227 [jR 133, jI 32] M (fun v M1 => wp kc (d + 1) 225 257 [some (jR 133), none] (v.toList ++ []) M1 Q)) ∧ (x1 = 10 → Q (some (jI 1)) M) ∧ (x1 = 11 → wc kc d 227 [jR 133, jI 32] M (fun v M1 => wp kc (d + 1) 225 303 [some (jR 133), none] (v.toList ++ []) M1 Q)) ∧ (x1 = 12 → Q (some (jI 1)) M) ∧ (x1 = 13 → Q (some (jI 1)) M) ∧ (x1 = 14 → Q (some (jI 1)) M) ∧ (x1 = 15 → Q (some (jI 1)) M) ∧ (x1 = 16 → Q (some (jI 1)) M) ∧ (x1 = 17 → Q (some (jI 1)) M) ∧ (x1 = 18 → Q (some (jI 1)) M) ∧ (x1 = 19 → wc kc d 235 [jR 133, jI 0] M (fun v M1 => wp kc (d + 1) 225 222 [none, none] (v.toList ++ []) M1 Q)) ∧ (x1 = 20 → Q (some (jI 1)) M) ∧ (x1 = 21 → wc kc d 236 [jR 133] M (fun v M1 => wp kc (d + 1) 225 250 [none, none] (v.toList ++ []) M1 Q)) ∧ (x1 = 22 → Q (some (jI 1)) M) ∧ (x1 = 23 → wc kc d 236 [jR 133] M (fun v M1 => wp kc (d + 1) 225 250 [none, none] (v.toList ++ []) M1 Q)) ∧ (x1 = 24 → Q (some (jI 1)) M) ∧ (x1 = 25 → wc kc d 227 [jR 133, jI 32] M (fun v M1 => wp kc (d + 1) 225 281 [some (jR 133), none] (v.toList ++ []) M1 Q)) ∧ (x1 = 26 → wc kc d 235 [jR 133, jI 1] M (fun v M1 => wp kc (d + 1) 225 216 [none, none] (v.toList ++ []) M1 Q)) ∧ (x1 = 27 → Q (some (jI 1)) M) ∧ (x1 = 28 → wc kc d 236 [jR 133] M (fun v M1 => wp kc (d + 1) 225 250 [none, none] (v.toList ++ []) M1 Q)) ∧ (x1 = 29 → Q (some (jI 1)) M) ∧ (x1 = 30 → wc kc d 235 [jR 133, jI 0] M (fun v M1 => wp kc (d + 1) 225 222 [none, none] (v.toList ++ []) M1 Q)) ∧ (x1 = 31 → wc kc d 236 [jR 133] M (fun v M1 => wp kc (d + 1) 225 250 [none, none] (v.toList ++ []) M1 Q)) ∧ (x1 = 32 → Q (some (jI 1)) M) ∧ (x1 = 33 → Q (some (jI 1)) M) ∧ (x1 = 34 → wc kc d 227 [jR 133, jI 32] M (fun v M1 => wp kc (d + 1) 225 347 [some (jR 133), none] (v.toList ++ []) M1 Q)) ∧ (x1 = 35 → wc kc d 250 [jR 133] M (fun v M1 => wp kc (d + 1) 225 374 [none, none] (v.toList ++ []) M1 Q)) ∧ (x1 = 36 → Q (some (jI 1)) M) ∧ (x1 = 37 → wc kc d 227 [jR 133, jI 32] M (fun v M1 => wp kc (d + 1) 225 325 [some (jR 133), none] (v.toList ++ []) M1 Q)) ∧ (x1 = 38 → wc kc d 227 [jR 133, jI 32] M (fun v M1 => wp kc (d + 1) 225 325 [some (jR 133), none] (v.toList ++ []) M1 Q)) ∧ (x1 = 39 → wc kc d 227 [jR 133, jI 32] M (fun v M1 => wp kc (d + 1) 225 325 [some (jR 133), none] (v.toList ++ []) M1 Q)) ∧ (x1 = 40 → Q (some (jI 1)) M) ∧ (x1 = 41 → wc kc d 236 [jR 133] M (fun v M1 => wp kc (d + 1) 225 250 [none, none] (v.toList ++ []) M1 Q)) ∧ (x1 = 42 → Q (some (jI 1)) M) ∧ (x1 = 43 → Q (some (jI 1)) M) ∧ (x1 = 44 → wc kc d 227 [jR 133, jI 32] M (fun v M1 => wp kc (d + 1) 225 381 [some (jR 133), none] (v.toList ++ []) M1 Q)) ∧ ((x1 < 0 ∨ 45 ≤ x1) → Q (some (jI 1)) M)) : wc kc (d + 1) 225 [jR 133, jI x1] M Q :=
  wc_of (wp_wk (l' := [some (jR 133), some (jI x1)]) ⟨rfl, ⟨rfl, trivial⟩⟩ (s225_0 H))

theorem c227_0 : fx_op 227 0 = some (.aload_n 0, 1, 0) := by decide +kernel
theorem c227_1 : fx_ca 227 1 = some (228, 1, 2, 4) := by decide +kernel
theorem c227_4 : fx_op 227 4 = some (.iload_n 1, 5, 4) := by decide +kernel
theorem c227_5 : fx_op 227 5 = some (.if_icmp .eq 5, 8, 10) := by decide +kernel
theorem c227_10 : fx_op 227 10 = some (.aload_n 0, 11, 10) := by decide +kernel
theorem c227_11 : fx_op 227 11 = some (.dup, 12, 11) := by decide +kernel
theorem c227_12 : fx_gf 227 12 = some (12, 7, 15) := by decide +kernel
theorem c227_15 : fx_ci 227 15 = some (1, 16) := by decide +kernel
theorem c227_16 : fx_op 227 16 = some (.iadd, 17, 16) := by decide +kernel
theorem c227_17 : fx_pf 227 17 = some (12, 7, 0, 20) := by decide +kernel
theorem c227_20 : fx_ci 227 20 = some (1, 21) := by decide +kernel
theorem c227_8 : fx_ci 227 8 = some (0, 9) := by decide +kernel
theorem c227_21 : fx_op 227 21 = some (.ireturn, 22, 21) := by decide +kernel
theorem c227_9 : fx_op 227 9 = some (.ireturn, 10, 9) := by decide +kernel
theorem s227_0 {kc : List va_E} {d : Nat} {x1 : Int} {M : fx_M} {Q : Option fx_V → fx_M → Prop} (H : wc kc d 228 [jR 133] M (fun v M1 => wp kc (d + 1) 227 4 [some (jR 133), some (jI x1)] (v.toList ++ []) M1 Q)) : wp kc (d + 1) 227 0 [some (jR 133), some (jI x1)] [] M Q :=
  (x_aldn c227_0 rfl (wp_wk (l' := [some (jR 133), some (jI x1)]) ⟨rfl, ⟨rfl, trivial⟩⟩ (x_cv (As := []) (st := []) c227_1 cl_133 kl228 rfl (Nat.le_of_ble_eq_true rfl) mx228 (Nat.le_refl _) H)))
theorem s227_4 {kc : List va_E} {d : Nat} {v1 u0 : Int} {M : fx_M} {Q : Option fx_V → fx_M → Prop} (H : ((fx_in32 u0) ∧ (fx_in32 v1)) ∧ (u0 = v1 → Q (some (jI 1)) (fx_up M 133 7 ((M 133 7) + 1))) ∧ (u0 ≠ v1 → Q (some (jI 0)) M)) : wp kc (d + 1) 227 4 [some (jR 133), some (jI v1)] [jI u0] M Q :=
  (x_ildn c227_4 rfl (x_ceq c227_5 H.1.1 H.1.2 (fun h1 => (x_aldn c227_10 rfl (x_dupr c227_11 (x_gfi c227_12 k_133_7 (x_ci c227_15 (x_iadd c227_16 (x_pfi c227_17 k_133_7 (x_ci c227_20 (x_zrt c227_21 r227 (by decide) (H.2.1 h1)))))))))) (fun h2 => (x_ci c227_8 (x_zrt c227_9 r227 (by decide) (H.2.2 h2))))))
theorem s227 {kc : List va_E} {d : Nat} {x1 : Int} {M : fx_M} {Q : Option fx_V → fx_M → Prop} (H : wc kc d 228 [jR 133] M (fun v M1 => wp kc (d + 1) 227 4 [some (jR 133), some (jI x1)] (v.toList ++ []) M1 Q)) : wc kc (d + 1) 227 [jR 133, jI x1] M Q :=
  wc_of (wp_wk (l' := [some (jR 133), some (jI x1)]) ⟨rfl, ⟨rfl, trivial⟩⟩ (s227_0 H))

theorem c228_0 : fx_op 228 0 = some (.aload_n 0, 1, 0) := by decide +kernel
theorem c228_1 : fx_gf 228 1 = some (12, 7, 4) := by decide +kernel
theorem c228_4 : fx_op 228 4 = some (.aload_n 0, 5, 4) := by decide +kernel
theorem c228_5 : fx_gf 228 5 = some (12, 3, 8) := by decide +kernel
theorem c228_8 : fx_op 228 8 = some (.if_icmp .ge 15, 11, 23) := by decide +kernel
theorem c228_23 : fx_ci 228 23 = some ((-1), 24) := by decide +kernel
theorem c228_11 : fx_op 228 11 = some (.aload_n 0, 12, 11) := by decide +kernel
theorem c228_12 : fx_gf 228 12 = some (12, 4, 15) := by decide +kernel
theorem c228_15 : fx_op 228 15 = some (.aload_n 0, 16, 15) := by decide +kernel
theorem c228_16 : fx_gf 228 16 = some (12, 7, 19) := by decide +kernel
theorem c228_19 : fx_op 228 19 = some (.iaload, 20, 19) := by decide +kernel
theorem c228_20 : fx_op 228 20 = some (.goto 4, 23, 24) := by decide +kernel
theorem c228_24 : fx_op 228 24 = some (.ireturn, 25, 24) := by decide +kernel
theorem s228_0 {kc : List va_E} {d : Nat} {M : fx_M} {Q : Option fx_V → fx_M → Prop} (H : ((fx_in32 (M 133 7))) ∧ ((fx_in32 (M 133 3))) ∧ (M 133 7 < M 133 3 → ((((0 : Int) ≤ M 133 7 ∧ M 133 7 < 6100)))) ∧ Q (some (jI (if M 133 7 < M 133 3 then (M 135 (M 133 7) : Int) else (-1)))) M) : wp kc (d + 1) 228 0 [some (jR 133)] [] M Q :=
  (x_aldn c228_0 rfl (x_gfi c228_1 k_133_7 (x_aldn c228_4 rfl (x_gfi c228_5 k_133_3 (have K : wp kc (d + 1) 228 24 [none] [jI (if M 133 7 < M 133 3 then (M 135 (M 133 7) : Int) else (-1))] M Q := (x_irt c228_24 r228 H.2.2.2); (x_cge c228_8 H.1 H.2.1 (fun (h1 : M 133 3 ≤ M 133 7) => (x_ci c228_23 (wp_wk (l' := [none]) trivial (by have K := K; first | (simp only [if_neg (Int.not_lt.mpr h1)] at K ⊢; exact K) | (exfalso; omega))))) (fun (h2 : M 133 7 < M 133 3) => (x_aldn c228_11 rfl (x_gfr c228_12 k_133_4 (x_aldn c228_15 rfl (x_gfi c228_16 k_133_7 (x_iald c228_19 a_135 (H.2.2.1 h2) (by decide) (x_goto c228_20 (wp_wk (l' := [none]) trivial (by have K := K; first | (simp only [if_pos h2] at K ⊢; exact K) | (exfalso; omega))))))))))))))))
theorem s228 {kc : List va_E} {d : Nat} {M : fx_M} {Q : Option fx_V → fx_M → Prop} (H : ((fx_in32 (M 133 7))) ∧ ((fx_in32 (M 133 3))) ∧ (M 133 7 < M 133 3 → ((((0 : Int) ≤ M 133 7 ∧ M 133 7 < 6100)))) ∧ Q (some (jI (if M 133 7 < M 133 3 then (M 135 (M 133 7) : Int) else (-1)))) M) : wc kc (d + 1) 228 [jR 133] M Q :=
  wc_of (wp_wk (l' := [some (jR 133)]) ⟨rfl, trivial⟩ (s228_0 H))

theorem c246_0 : fx_op 246 0 = some (.aload_n 0, 1, 0) := by decide +kernel
theorem c246_1 : fx_ci 246 1 = some (0, 2) := by decide +kernel
theorem c246_2 : fx_pf 246 2 = some (12, 24, 0, 5) := by decide +kernel
theorem c246_5 : fx_op 246 5 = some (.aload_n 0, 6, 5) := by decide +kernel
theorem c246_6 : fx_gf 246 6 = some (12, 28, 9) := by decide +kernel
theorem c246_9 : fx_ci 246 9 = some (0, 10) := by decide +kernel
theorem c246_10 : fx_ci 246 10 = some (0, 11) := by decide +kernel
theorem c246_12 : fx_op 246 12 = some (.aload_n 0, 13, 12) := by decide +kernel
theorem c246_11 : fx_op 246 11 = some (.iastore, 12, 11) := by decide +kernel
theorem c246_13 : fx_ca 246 13 = some (247, 1, 2, 16) := by decide +kernel
theorem c246_16 : fx_op 246 16 = some (.ifCond .ne 5, 19, 21) := by decide +kernel
theorem c246_19 : fx_ci 246 19 = some (0, 20) := by decide +kernel
theorem c246_20 : fx_op 246 20 = some (.ireturn, 21, 20) := by decide +kernel
theorem c246_21 : fx_op 246 21 = some (.aload_n 0, 22, 21) := by decide +kernel
theorem c246_22 : fx_gf 246 22 = some (12, 7, 25) := by decide +kernel
theorem c246_25 : fx_op 246 25 = some (.aload_n 0, 26, 25) := by decide +kernel
theorem c246_26 : fx_gf 246 26 = some (12, 3, 29) := by decide +kernel
theorem c246_29 : fx_op 246 29 = some (.if_icmp .ge 12, 32, 41) := by decide +kernel
theorem c246_41 : fx_ci 246 41 = some (1, 42) := by decide +kernel
theorem c246_32 : fx_op 246 32 = some (.aload_n 0, 33, 32) := by decide +kernel
theorem c246_42 : fx_op 246 42 = some (.ireturn, 43, 42) := by decide +kernel
theorem c246_33 : fx_ca 246 33 = some (247, 1, 2, 36) := by decide +kernel
theorem c246_36 : fx_op 246 36 = some (.ifCond .ne (-15), 39, 21) := by decide +kernel
theorem c246_39 : fx_ci 246 39 = some (0, 40) := by decide +kernel
theorem c246_40 : fx_op 246 40 = some (.ireturn, 41, 40) := by decide +kernel
theorem s246_0 {kc : List va_E} {d : Nat} {M : fx_M} {Q : Option fx_V → fx_M → Prop} (H : wc kc d 247 [jR 133] (fx_up (fx_up M 133 24 0) 141 0 0) (fun v M1 => wp kc (d + 1) 246 16 [some (jR 133)] (v.toList ++ []) M1 Q)) : wp kc (d + 1) 246 0 [some (jR 133)] [] M Q :=
  (x_aldn c246_0 rfl (x_ci c246_1 (x_pfi c246_2 k_133_24 (x_aldn c246_5 rfl (x_gfr c246_6 k_133_28 (x_ci c246_9 (x_ci c246_10 (x_iast c246_11 a_141 (by decide) (by decide) (x_aldn c246_12 rfl (wp_wk (l' := [some (jR 133)]) ⟨rfl, trivial⟩ (x_cv (As := []) (st := []) c246_13 cl_133 kl247 rfl (Nat.le_of_ble_eq_true rfl) mx247 (Nat.le_refl _) H)))))))))))
theorem s246_16 {kc : List va_E} {d : Nat} {u0 : Int} {M : fx_M} {Q : Option fx_V → fx_M → Prop} (H : ((fx_in32 u0)) ∧ (u0 ≠ 0 → wp kc (d + 1) 246 21 [some (jR 133)] [] M Q) ∧ (u0 = 0 → Q (some (jI 0)) M)) : wp kc (d + 1) 246 16 [some (jR 133)] [jI u0] M Q :=
  (x_zne c246_16 H.1 (fun h1 => (wp_wk (l' := [some (jR 133)]) ⟨rfl, trivial⟩ (H.2.1 h1))) (fun h2 => (x_ci c246_19 (x_zrt c246_20 r246 (by decide) (H.2.2 h2)))))
theorem s246_21 {kc : List va_E} {d : Nat} {M : fx_M} {Q : Option fx_V → fx_M → Prop} (H : ((fx_in32 (M 133 7)) ∧ (fx_in32 (M 133 3))) ∧ (M 133 3 ≤ M 133 7 → Q (some (jI 1)) M) ∧ (M 133 7 < M 133 3 → wc kc d 247 [jR 133] M (fun v M1 => wp kc (d + 1) 246 36 [some (jR 133)] (v.toList ++ []) M1 Q))) : wp kc (d + 1) 246 21 [some (jR 133)] [] M Q :=
  (x_aldn c246_21 rfl (x_gfi c246_22 k_133_7 (x_aldn c246_25 rfl (x_gfi c246_26 k_133_3 (x_cge c246_29 H.1.1 H.1.2 (fun h1 => (x_ci c246_41 (x_zrt c246_42 r246 (by decide) (H.2.1 h1)))) (fun h2 => (x_aldn c246_32 rfl (wp_wk (l' := [some (jR 133)]) ⟨rfl, trivial⟩ (x_cv (As := []) (st := []) c246_33 cl_133 kl247 rfl (Nat.le_of_ble_eq_true rfl) mx247 (Nat.le_refl _) (H.2.2 h2))))))))))
theorem s246_36 {kc : List va_E} {d : Nat} {u0 : Int} {M : fx_M} {Q : Option fx_V → fx_M → Prop} (H : ((fx_in32 u0)) ∧ (u0 ≠ 0 → wp kc (d + 1) 246 21 [some (jR 133)] [] M Q) ∧ (u0 = 0 → Q (some (jI 0)) M)) : wp kc (d + 1) 246 36 [some (jR 133)] [jI u0] M Q :=
  (x_zne c246_36 H.1 (fun h1 => (wp_wk (l' := [some (jR 133)]) ⟨rfl, trivial⟩ (H.2.1 h1))) (fun h2 => (x_ci c246_39 (x_zrt c246_40 r246 (by decide) (H.2.2 h2)))))
theorem s246 {kc : List va_E} {d : Nat} {M : fx_M} {Q : Option fx_V → fx_M → Prop} (H : wc kc d 247 [jR 133] (fx_up (fx_up M 133 24 0) 141 0 0) (fun v M1 => wp kc (d + 1) 246 16 [some (jR 133)] (v.toList ++ []) M1 Q)) : wc kc (d + 1) 246 [jR 133] M Q :=
  wc_of (wp_wk (l' := [some (jR 133)]) ⟨rfl, trivial⟩ (s246_0 H))

theorem c247_0 : fx_op 247 0 = some (.aload_n 0, 1, 0) := by decide +kernel
theorem c247_1 : fx_ca 247 1 = some (228, 1, 2, 4) := by decide +kernel
theorem c247_4 : fx_op 247 4 = some (.istore_n 1, 5, 4) := by decide +kernel
theorem c247_5 : fx_op 247 5 = some (.iload_n 1, 6, 5) := by decide +kernel
theorem c247_6 : fx_ci 247 6 = some (103, 8) := by decide +kernel
theorem c247_8 : fx_op 247 8 = some (.if_icmp .eq 29, 11, 37) := by decide +kernel
theorem c247_37 : fx_op 247 37 = some (.aload_n 0, 38, 37) := by decide +kernel
theorem c247_38 : fx_op 247 38 = some (.dup, 39, 38) := by decide +kernel
theorem c247_39 : fx_gf 247 39 = some (12, 7, 42) := by decide +kernel
theorem c247_42 : fx_ci 247 42 = some (1, 43) := by decide +kernel
theorem c247_43 : fx_op 247 43 = some (.iadd, 44, 43) := by decide +kernel
theorem c247_44 : fx_pf 247 44 = some (12, 7, 0, 47) := by decide +kernel
theorem c247_47 : fx_op 247 47 = some (.aload_n 0, 48, 47) := by decide +kernel
theorem c247_48 : fx_ci 247 48 = some (0, 49) := by decide +kernel
theorem c247_49 : fx_pf 247 49 = some (12, 8, 0, 52) := by decide +kernel
theorem c247_52 : fx_op 247 52 = some (.iload_n 1, 53, 52) := by decide +kernel
theorem c247_53 : fx_ci 247 53 = some (117, 55) := by decide +kernel
theorem c247_55 : fx_op 247 55 = some (.if_icmp .eq 18, 58, 73) := by decide +kernel
theorem c247_73 : fx_op 247 73 = some (.aload_n 0, 74, 73) := by decide +kernel
theorem c247_74 : fx_gf 247 74 = some (12, 25, 77) := by decide +kernel
theorem c247_77 : fx_op 247 77 = some (.aload_n 0, 78, 77) := by decide +kernel
theorem c247_78 : fx_gf 247 78 = some (12, 24, 81) := by decide +kernel
theorem c247_81 : fx_op 247 81 = some (.iload_n 1, 82, 81) := by decide +kernel
theorem c247_83 : fx_op 247 83 = some (.aload_n 0, 84, 83) := by decide +kernel
theorem c247_84 : fx_gf 247 84 = some (12, 26, 87) := by decide +kernel
theorem c247_87 : fx_op 247 87 = some (.aload_n 0, 88, 87) := by decide +kernel
theorem c247_88 : fx_gf 247 88 = some (12, 24, 91) := by decide +kernel
theorem c247_91 : fx_op 247 91 = some (.aload_n 0, 92, 91) := by decide +kernel
theorem c247_92 : fx_gf 247 92 = some (12, 8, 95) := by decide +kernel
theorem c247_96 : fx_op 247 96 = some (.iload_n 1, 97, 96) := by decide +kernel
theorem c247_97 : fx_ci 247 97 = some (119, 99) := by decide +kernel
theorem c247_99 : fx_op 247 99 = some (.if_icmp .ne 21, 102, 120) := by decide +kernel
theorem c247_120 : fx_op 247 120 = some (.aload_n 0, 121, 120) := by decide +kernel
theorem c247_121 : fx_gf 247 121 = some (12, 27, 124) := by decide +kernel
theorem c247_124 : fx_op 247 124 = some (.aload_n 0, 125, 124) := by decide +kernel
theorem c247_125 : fx_gf 247 125 = some (12, 24, 128) := by decide +kernel
theorem c247_128 : fx_op 247 128 = some (.aload_n 0, 129, 128) := by decide +kernel
theorem c247_129 : fx_gf 247 129 = some (12, 8, 132) := by decide +kernel
theorem c247_133 : fx_op 247 133 = some (.aload_n 0, 134, 133) := by decide +kernel
theorem c247_134 : fx_gf 247 134 = some (12, 28, 137) := by decide +kernel
theorem c247_137 : fx_op 247 137 = some (.aload_n 0, 138, 137) := by decide +kernel
theorem c247_138 : fx_gf 247 138 = some (12, 24, 141) := by decide +kernel
theorem c247_142 : fx_op 247 142 = some (.istore_n 2, 143, 142) := by decide +kernel
theorem c247_102 : fx_op 247 102 = some (.aload_n 0, 103, 102) := by decide +kernel
theorem c247_103 : fx_ci 247 103 = some (32, 105) := by decide +kernel
theorem c247_58 : fx_op 247 58 = some (.iload_n 1, 59, 58) := by decide +kernel
theorem c247_59 : fx_ci 247 59 = some (98, 61) := by decide +kernel
theorem c247_61 : fx_op 247 61 = some (.if_icmp .eq 12, 64, 73) := by decide +kernel
theorem c247_64 : fx_op 247 64 = some (.aload_n 0, 65, 64) := by decide +kernel
theorem c247_11 : fx_op 247 11 = some (.iload_n 1, 12, 11) := by decide +kernel
theorem c247_12 : fx_ci 247 12 = some (114, 14) := by decide +kernel
theorem c247_14 : fx_op 247 14 = some (.if_icmp .eq 23, 17, 37) := by decide +kernel
theorem c247_17 : fx_op 247 17 = some (.iload_n 1, 18, 17) := by decide +kernel
theorem c247_18 : fx_ci 247 18 = some (119, 20) := by decide +kernel
theorem c247_20 : fx_op 247 20 = some (.if_icmp .eq 17, 23, 37) := by decide +kernel
theorem c247_23 : fx_op 247 23 = some (.iload_n 1, 24, 23) := by decide +kernel
theorem c247_24 : fx_ci 247 24 = some (117, 26) := by decide +kernel
theorem c247_26 : fx_op 247 26 = some (.if_icmp .eq 11, 29, 37) := by decide +kernel
theorem c247_29 : fx_op 247 29 = some (.iload_n 1, 30, 29) := by decide +kernel
theorem c247_30 : fx_ci 247 30 = some (98, 32) := by decide +kernel
theorem c247_32 : fx_op 247 32 = some (.if_icmp .eq 5, 35, 37) := by decide +kernel
theorem c247_35 : fx_ci 247 35 = some (0, 36) := by decide +kernel
theorem c247_82 : fx_op 247 82 = some (.iastore, 83, 82) := by decide +kernel
theorem c247_95 : fx_op 247 95 = some (.iastore, 96, 95) := by decide +kernel
theorem c247_132 : fx_op 247 132 = some (.iastore, 133, 132) := by decide +kernel
theorem c247_141 : fx_op 247 141 = some (.iaload, 142, 141) := by decide +kernel
theorem c247_105 : fx_ca 247 105 = some (227, 2, 2, 108) := by decide +kernel
theorem c247_65 : fx_ca 247 65 = some (232, 1, 2, 68) := by decide +kernel
theorem c247_36 : fx_op 247 36 = some (.ireturn, 37, 36) := by decide +kernel
theorem c247_143 : fx_op 247 143 = some (.aload_n 0, 144, 143) := by decide +kernel
theorem c247_144 : fx_ca 247 144 = some (228, 1, 2, 147) := by decide +kernel
theorem c247_108 : fx_op 247 108 = some (.ifCond .eq 10, 111, 118) := by decide +kernel
theorem c247_118 : fx_ci 247 118 = some (0, 119) := by decide +kernel
theorem c247_111 : fx_op 247 111 = some (.aload_n 0, 112, 111) := by decide +kernel
theorem c247_119 : fx_op 247 119 = some (.ireturn, 120, 119) := by decide +kernel
theorem c247_112 : fx_ca 247 112 = some (232, 1, 2, 115) := by decide +kernel
theorem c247_68 : fx_op 247 68 = some (.ifCond .ne 5, 71, 73) := by decide +kernel
theorem c247_71 : fx_ci 247 71 = some (0, 72) := by decide +kernel
theorem c247_72 : fx_op 247 72 = some (.ireturn, 73, 72) := by decide +kernel
theorem c247_147 : fx_ci 247 147 = some (32, 149) := by decide +kernel
theorem c247_149 : fx_op 247 149 = some (.if_icmp .ne 139, 152, 288) := by decide +kernel
theorem c247_288 : fx_op 247 288 = some (.aload_n 0, 289, 288) := by decide +kernel
theorem c247_289 : fx_op 247 289 = some (.dup, 290, 289) := by decide +kernel
theorem c247_290 : fx_gf 247 290 = some (12, 24, 293) := by decide +kernel
theorem c247_293 : fx_ci 247 293 = some (1, 294) := by decide +kernel
theorem c247_294 : fx_op 247 294 = some (.iadd, 295, 294) := by decide +kernel
theorem c247_295 : fx_pf 247 295 = some (12, 24, 0, 298) := by decide +kernel
theorem c247_298 : fx_op 247 298 = some (.aload_n 0, 299, 298) := by decide +kernel
theorem c247_299 : fx_gf 247 299 = some (12, 28, 302) := by decide +kernel
theorem c247_302 : fx_op 247 302 = some (.aload_n 0, 303, 302) := by decide +kernel
theorem c247_303 : fx_gf 247 303 = some (12, 24, 306) := by decide +kernel
theorem c247_306 : fx_op 247 306 = some (.iload_n 2, 307, 306) := by decide +kernel
theorem c247_308 : fx_op 247 308 = some (.aload_n 0, 309, 308) := by decide +kernel
theorem c247_309 : fx_ci 247 309 = some (59, 311) := by decide +kernel
theorem c247_152 : fx_op 247 152 = some (.aload_n 0, 153, 152) := by decide +kernel
theorem c247_153 : fx_op 247 153 = some (.dup, 154, 153) := by decide +kernel
theorem c247_154 : fx_gf 247 154 = some (12, 7, 157) := by decide +kernel
theorem c247_157 : fx_ci 247 157 = some (1, 158) := by decide +kernel
theorem c247_158 : fx_op 247 158 = some (.iadd, 159, 158) := by decide +kernel
theorem c247_159 : fx_pf 247 159 = some (12, 7, 0, 162) := by decide +kernel
theorem c247_162 : fx_op 247 162 = some (.aload_n 0, 163, 162) := by decide +kernel
theorem c247_307 : fx_op 247 307 = some (.iastore, 308, 307) := by decide +kernel
theorem c247_311 : fx_ca 247 311 = some (227, 2, 2, 314) := by decide +kernel
theorem c247_163 : fx_ca 247 163 = some (228, 1, 2, 166) := by decide +kernel
theorem c247_115 : fx_op 247 115 = some (.ifCond .ne 5, 118, 120) := by decide +kernel
theorem c247_314 : fx_op 247 314 = some (.ireturn, 315, 314) := by decide +kernel
theorem c247_166 : fx_ci 247 166 = some (43, 168) := by decide +kernel
theorem c247_168 : fx_op 247 168 = some (.if_icmp .ne 7, 171, 175) := by decide +kernel
theorem c247_175 : fx_ci 247 175 = some (0, 176) := by decide +kernel
theorem c247_171 : fx_ci 247 171 = some (1, 172) := by decide +kernel
theorem c247_172 : fx_op 247 172 = some (.goto 4, 175, 176) := by decide +kernel
theorem c247_176 : fx_op 247 176 = some (.istore_n 3, 177, 176) := by decide +kernel
theorem c247_177 : fx_op 247 177 = some (.aload_n 0, 178, 177) := by decide +kernel
theorem c247_178 : fx_ci 247 178 = some (43, 180) := by decide +kernel
theorem c247_180 : fx_ca 247 180 = some (227, 2, 2, 183) := by decide +kernel
theorem c247_183 : fx_op 247 183 = some (.ifCond .ne 12, 186, 195) := by decide +kernel
theorem c247_195 : fx_op 247 195 = some (.aload_n 0, 196, 195) := by decide +kernel
theorem c247_186 : fx_op 247 186 = some (.aload_n 0, 187, 186) := by decide +kernel
theorem c247_187 : fx_ci 247 187 = some (45, 189) := by decide +kernel
theorem c247_196 : fx_ca 247 196 = some (232, 1, 2, 199) := by decide +kernel
theorem c247_189 : fx_ca 247 189 = some (227, 2, 2, 192) := by decide +kernel
theorem c247_199 : fx_op 247 199 = some (.ifCond .ne 5, 202, 204) := by decide +kernel
theorem c247_204 : fx_op 247 204 = some (.aload_n 0, 205, 204) := by decide +kernel
theorem c247_205 : fx_gf 247 205 = some (12, 8, 208) := by decide +kernel
theorem c247_208 : fx_op 247 208 = some (.istore 4, 210, 208) := by decide +kernel
theorem c247_210 : fx_op 247 210 = some (.aload_n 0, 211, 210) := by decide +kernel
theorem c247_211 : fx_ci 247 211 = some (46, 213) := by decide +kernel
theorem c247_202 : fx_ci 247 202 = some (0, 203) := by decide +kernel
theorem c247_213 : fx_ca 247 213 = some (227, 2, 2, 216) := by decide +kernel
theorem c247_203 : fx_op 247 203 = some (.ireturn, 204, 203) := by decide +kernel
theorem c247_192 : fx_op 247 192 = some (.ifCond .eq 10, 195, 202) := by decide +kernel
theorem c247_216 : fx_op 247 216 = some (.ifCond .eq 10, 219, 226) := by decide +kernel
theorem c247_226 : fx_ci 247 226 = some (0, 227) := by decide +kernel
theorem c247_219 : fx_op 247 219 = some (.aload_n 0, 220, 219) := by decide +kernel
theorem c247_227 : fx_op 247 227 = some (.ireturn, 228, 227) := by decide +kernel
theorem c247_220 : fx_ca 247 220 = some (232, 1, 2, 223) := by decide +kernel
theorem c247_223 : fx_op 247 223 = some (.ifCond .ne 5, 226, 228) := by decide +kernel
theorem c247_228 : fx_op 247 228 = some (.aload_n 0, 229, 228) := by decide +kernel
theorem c247_229 : fx_gf 247 229 = some (12, 29, 232) := by decide +kernel
theorem c247_232 : fx_op 247 232 = some (.iload_n 2, 233, 232) := by decide +kernel
theorem c247_233 : fx_op 247 233 = some (.iload 4, 235, 233) := by decide +kernel
theorem c247_235 : fx_op 247 235 = some (.aload_n 0, 236, 235) := by decide +kernel
theorem c247_236 : fx_ca 247 236 = some (248, 1, 2, 239) := by decide +kernel
theorem c247_239 : fx_op 247 239 = some (.if_icmp .ge 41, 242, 280) := by decide +kernel
theorem c247_280 : fx_ci 247 280 = some ((-1), 281) := by decide +kernel
theorem c247_242 : fx_op 247 242 = some (.aload_n 0, 243, 242) := by decide +kernel
theorem c247_243 : fx_gf 247 243 = some (12, 8, 246) := by decide +kernel
theorem c247_246 : fx_op 247 246 = some (.aload_n 0, 247, 246) := by decide +kernel
theorem c247_247 : fx_gf 247 247 = some (12, 39, 250) := by decide +kernel
theorem c247_250 : fx_ci 247 250 = some (0, 251) := by decide +kernel
theorem c247_251 : fx_op 247 251 = some (.iaload, 252, 251) := by decide +kernel
theorem c247_252 : fx_op 247 252 = some (.if_icmp .ge 28, 255, 280) := by decide +kernel
theorem c247_255 : fx_op 247 255 = some (.iload_n 3, 256, 255) := by decide +kernel
theorem c247_256 : fx_op 247 256 = some (.ifCond .eq 7, 259, 263) := by decide +kernel
theorem c247_263 : fx_ci 247 263 = some (0, 264) := by decide +kernel
theorem c247_264 : fx_ci 247 264 = some (2, 265) := by decide +kernel
theorem c247_265 : fx_op 247 265 = some (.aload_n 0, 266, 265) := by decide +kernel
theorem c247_266 : fx_gf 247 266 = some (12, 8, 269) := by decide +kernel
theorem c247_269 : fx_op 247 269 = some (.imul, 270, 269) := by decide +kernel
theorem c247_270 : fx_op 247 270 = some (.iadd, 271, 270) := by decide +kernel
theorem c247_271 : fx_ci 247 271 = some (8, 273) := by decide +kernel
theorem c247_273 : fx_op 247 273 = some (.iload 4, 275, 273) := by decide +kernel
theorem c247_275 : fx_op 247 275 = some (.imul, 276, 275) := by decide +kernel
theorem c247_276 : fx_op 247 276 = some (.iadd, 277, 276) := by decide +kernel
theorem c247_277 : fx_op 247 277 = some (.goto 4, 280, 281) := by decide +kernel
theorem c247_259 : fx_ci 247 259 = some (1, 260) := by decide +kernel
theorem c247_260 : fx_op 247 260 = some (.goto 4, 263, 264) := by decide +kernel
theorem c247_282 : fx_op 247 282 = some (.iinc 2 1, 285, 282) := by decide +kernel
theorem c247_281 : fx_op 247 281 = some (.iastore, 282, 281) := by decide +kernel
theorem c247_285 : fx_op 247 285 = some (.goto (-142), 288, 143) := by decide +kernel
theorem s247_0 {kc : List va_E} {d : Nat} {M : fx_M} {Q : Option fx_V → fx_M → Prop} (H : wc kc d 228 [jR 133] M (fun v M1 => wp kc (d + 1) 247 4 [some (jR 133), none, none, none, none] (v.toList ++ []) M1 Q)) : wp kc (d + 1) 247 0 [some (jR 133), none, none, none, none] [] M Q :=
  (x_aldn c247_0 rfl (wp_wk (l' := [some (jR 133), none, none, none, none]) ⟨rfl, trivial⟩ (x_cv (As := []) (st := []) c247_1 cl_133 kl228 rfl (Nat.le_of_ble_eq_true rfl) mx228 (Nat.le_refl _) H)))
theorem s247_4 {kc : List va_E} {d : Nat} {u0 : Int} {M : fx_M} {Q : Option fx_V → fx_M → Prop} (H : ((fx_in32 u0)) ∧ (u0 = 103 → ((fx_in32 u0)) ∧ (u0 = 117 → (((0 : Int) ≤ M 133 24 ∧ M 133 24 < 3100)) ∧ (((0 : Int) ≤ M 133 24 ∧ M 133 24 < 3100)) ∧ ((fx_in32 u0)) ∧ (u0 ≠ 119 → (((0 : Int) ≤ M 133 24 ∧ M 133 24 < 3100)) ∧ (((0 : Int) ≤ M 133 24 ∧ M 133 24 < 3101)) ∧ wp kc (d + 1) 247 143 [some (jR 133), none, some (jI (M 141 (M 133 24))), none, none] [] (fx_up (fx_up (fx_up (fx_up (fx_up M 133 7 ((M 133 7) + 1)) 133 8 0) 138 (M 133 24) u0) 139 (M 133 24) 0) 140 (M 133 24) 0) Q) ∧ (u0 = 119 → wc kc d 227 [jR 133, jI 32] (fx_up (fx_up (fx_up (fx_up M 133 7 ((M 133 7) + 1)) 133 8 0) 138 (M 133 24) u0) 139 (M 133 24) 0) (fun v M1 => wp kc (d + 1) 247 108 [some (jR 133), none, none, none, none] (v.toList ++ []) M1 Q))) ∧ (u0 ≠ 117 → ((fx_in32 u0)) ∧ (u0 = 98 → (((0 : Int) ≤ M 133 24 ∧ M 133 24 < 3100)) ∧ (((0 : Int) ≤ M 133 24 ∧ M 133 24 < 3100)) ∧ ((fx_in32 u0)) ∧ (u0 ≠ 119 → (((0 : Int) ≤ M 133 24 ∧ M 133 24 < 3100)) ∧ (((0 : Int) ≤ M 133 24 ∧ M 133 24 < 3101)) ∧ wp kc (d + 1) 247 143 [some (jR 133), none, some (jI (M 141 (M 133 24))), none, none] [] (fx_up (fx_up (fx_up (fx_up (fx_up M 133 7 ((M 133 7) + 1)) 133 8 0) 138 (M 133 24) u0) 139 (M 133 24) 0) 140 (M 133 24) 0) Q) ∧ (u0 = 119 → wc kc d 227 [jR 133, jI 32] (fx_up (fx_up (fx_up (fx_up M 133 7 ((M 133 7) + 1)) 133 8 0) 138 (M 133 24) u0) 139 (M 133 24) 0) (fun v M1 => wp kc (d + 1) 247 108 [some (jR 133), none, none, none, none] (v.toList ++ []) M1 Q))) ∧ (u0 ≠ 98 → wc kc d 232 [jR 133] (fx_up (fx_up M 133 7 ((M 133 7) + 1)) 133 8 0) (fun v M1 => wp kc (d + 1) 247 68 [some (jR 133), some (jI u0), none, none, none] (v.toList ++ []) M1 Q)))) ∧ (u0 ≠ 103 → ((fx_in32 u0)) ∧ (u0 = 114 → ((fx_in32 u0)) ∧ (u0 = 117 → (((0 : Int) ≤ M 133 24 ∧ M 133 24 < 3100)) ∧ (((0 : Int) ≤ M 133 24 ∧ M 133 24 < 3100)) ∧ ((fx_in32 u0)) ∧ (u0 ≠ 119 → (((0 : Int) ≤ M 133 24 ∧ M 133 24 < 3100)) ∧ (((0 : Int) ≤ M 133 24 ∧ M 133 24 < 3101)) ∧ wp kc (d + 1) 247 143 [some (jR 133), none, some (jI (M 141 (M 133 24))), none, none] [] (fx_up (fx_up (fx_up (fx_up (fx_up M 133 7 ((M 133 7) + 1)) 133 8 0) 138 (M 133 24) u0) 139 (M 133 24) 0) 140 (M 133 24) 0) Q) ∧ (u0 = 119 → wc kc d 227 [jR 133, jI 32] (fx_up (fx_up (fx_up (fx_up M 133 7 ((M 133 7) + 1)) 133 8 0) 138 (M 133 24) u0) 139 (M 133 24) 0) (fun v M1 => wp kc (d + 1) 247 108 [some (jR 133), none, none, none, none] (v.toList ++ []) M1 Q))) ∧ (u0 ≠ 117 → ((fx_in32 u0)) ∧ (u0 = 98 → (((0 : Int) ≤ M 133 24 ∧ M 133 24 < 3100)) ∧ (((0 : Int) ≤ M 133 24 ∧ M 133 24 < 3100)) ∧ ((fx_in32 u0)) ∧ (u0 ≠ 119 → (((0 : Int) ≤ M 133 24 ∧ M 133 24 < 3100)) ∧ (((0 : Int) ≤ M 133 24 ∧ M 133 24 < 3101)) ∧ wp kc (d + 1) 247 143 [some (jR 133), none, some (jI (M 141 (M 133 24))), none, none] [] (fx_up (fx_up (fx_up (fx_up (fx_up M 133 7 ((M 133 7) + 1)) 133 8 0) 138 (M 133 24) u0) 139 (M 133 24) 0) 140 (M 133 24) 0) Q) ∧ (u0 = 119 → wc kc d 227 [jR 133, jI 32] (fx_up (fx_up (fx_up (fx_up M 133 7 ((M 133 7) + 1)) 133 8 0) 138 (M 133 24) u0) 139 (M 133 24) 0) (fun v M1 => wp kc (d + 1) 247 108 [some (jR 133), none, none, none, none] (v.toList ++ []) M1 Q))) ∧ (u0 ≠ 98 → wc kc d 232 [jR 133] (fx_up (fx_up M 133 7 ((M 133 7) + 1)) 133 8 0) (fun v M1 => wp kc (d + 1) 247 68 [some (jR 133), some (jI u0), none, none, none] (v.toList ++ []) M1 Q)))) ∧ (u0 ≠ 114 → ((fx_in32 u0)) ∧ (u0 = 119 → ((fx_in32 u0)) ∧ (u0 = 117 → (((0 : Int) ≤ M 133 24 ∧ M 133 24 < 3100)) ∧ (((0 : Int) ≤ M 133 24 ∧ M 133 24 < 3100)) ∧ ((fx_in32 u0)) ∧ (u0 ≠ 119 → (((0 : Int) ≤ M 133 24 ∧ M 133 24 < 3100)) ∧ (((0 : Int) ≤ M 133 24 ∧ M 133 24 < 3101)) ∧ wp kc (d + 1) 247 143 [some (jR 133), none, some (jI (M 141 (M 133 24))), none, none] [] (fx_up (fx_up (fx_up (fx_up (fx_up M 133 7 ((M 133 7) + 1)) 133 8 0) 138 (M 133 24) u0) 139 (M 133 24) 0) 140 (M 133 24) 0) Q) ∧ (u0 = 119 → wc kc d 227 [jR 133, jI 32] (fx_up (fx_up (fx_up (fx_up M 133 7 ((M 133 7) + 1)) 133 8 0) 138 (M 133 24) u0) 139 (M 133 24) 0) (fun v M1 => wp kc (d + 1) 247 108 [some (jR 133), none, none, none, none] (v.toList ++ []) M1 Q))) ∧ (u0 ≠ 117 → ((fx_in32 u0)) ∧ (u0 = 98 → (((0 : Int) ≤ M 133 24 ∧ M 133 24 < 3100)) ∧ (((0 : Int) ≤ M 133 24 ∧ M 133 24 < 3100)) ∧ ((fx_in32 u0)) ∧ (u0 ≠ 119 → (((0 : Int) ≤ M 133 24 ∧ M 133 24 < 3100)) ∧ (((0 : Int) ≤ M 133 24 ∧ M 133 24 < 3101)) ∧ wp kc (d + 1) 247 143 [some (jR 133), none, some (jI (M 141 (M 133 24))), none, none] [] (fx_up (fx_up (fx_up (fx_up (fx_up M 133 7 ((M 133 7) + 1)) 133 8 0) 138 (M 133 24) u0) 139 (M 133 24) 0) 140 (M 133 24) 0) Q) ∧ (u0 = 119 → wc kc d 227 [jR 133, jI 32] (fx_up (fx_up (fx_up (fx_up M 133 7 ((M 133 7) + 1)) 133 8 0) 138 (M 133 24) u0) 139 (M 133 24) 0) (fun v M1 => wp kc (d + 1) 247 108 [some (jR 133), none, none, none, none] (v.toList ++ []) M1 Q))) ∧ (u0 ≠ 98 → wc kc d 232 [jR 133] (fx_up (fx_up M 133 7 ((M 133 7) + 1)) 133 8 0) (fun v M1 => wp kc (d + 1) 247 68 [some (jR 133), some (jI u0), none, none, none] (v.toList ++ []) M1 Q)))) ∧ (u0 ≠ 119 → ((fx_in32 u0)) ∧ (u0 = 117 → ((fx_in32 u0)) ∧ (u0 = 117 → (((0 : Int) ≤ M 133 24 ∧ M 133 24 < 3100)) ∧ (((0 : Int) ≤ M 133 24 ∧ M 133 24 < 3100)) ∧ ((fx_in32 u0)) ∧ (u0 ≠ 119 → (((0 : Int) ≤ M 133 24 ∧ M 133 24 < 3100)) ∧ (((0 : Int) ≤ M 133 24 ∧ M 133 24 < 3101)) ∧ wp kc (d + 1) 247 143 [some (jR 133), none, some (jI (M 141 (M 133 24))), none, none] [] (fx_up (fx_up (fx_up (fx_up (fx_up M 133 7 ((M 133 7) + 1)) 133 8 0) 138 (M 133 24) u0) 139 (M 133 24) 0) 140 (M 133 24) 0) Q) ∧ (u0 = 119 → wc kc d 227 [jR 133, jI 32] (fx_up (fx_up (fx_up (fx_up M 133 7 ((M 133 7) + 1)) 133 8 0) 138 (M 133 24) u0) 139 (M 133 24) 0) (fun v M1 => wp kc (d + 1) 247 108 [some (jR 133), none, none, none, none] (v.toList ++ []) M1 Q))) ∧ (u0 ≠ 117 → ((fx_in32 u0)) ∧ (u0 = 98 → (((0 : Int) ≤ M 133 24 ∧ M 133 24 < 3100)) ∧ (((0 : Int) ≤ M 133 24 ∧ M 133 24 < 3100)) ∧ ((fx_in32 u0)) ∧ (u0 ≠ 119 → (((0 : Int) ≤ M 133 24 ∧ M 133 24 < 3100)) ∧ (((0 : Int) ≤ M 133 24 ∧ M 133 24 < 3101)) ∧ wp kc (d + 1) 247 143 [some (jR 133), none, some (jI (M 141 (M 133 24))), none, none] [] (fx_up (fx_up (fx_up (fx_up (fx_up M 133 7 ((M 133 7) + 1)) 133 8 0) 138 (M 133 24) u0) 139 (M 133 24) 0) 140 (M 133 24) 0) Q) ∧ (u0 = 119 → wc kc d 227 [jR 133, jI 32] (fx_up (fx_up (fx_up (fx_up M 133 7 ((M 133 7) + 1)) 133 8 0) 138 (M 133 24) u0) 139 (M 133 24) 0) (fun v M1 => wp kc (d + 1) 247 108 [some (jR 133), none, none, none, none] (v.toList ++ []) M1 Q))) ∧ (u0 ≠ 98 → wc kc d 232 [jR 133] (fx_up (fx_up M 133 7 ((M 133 7) + 1)) 133 8 0) (fun v M1 => wp kc (d + 1) 247 68 [some (jR 133), some (jI u0), none, none, none] (v.toList ++ []) M1 Q)))) ∧ (u0 ≠ 117 → ((fx_in32 u0)) ∧ (u0 = 98 → ((fx_in32 u0)) ∧ (u0 = 117 → (((0 : Int) ≤ M 133 24 ∧ M 133 24 < 3100)) ∧ (((0 : Int) ≤ M 133 24 ∧ M 133 24 < 3100)) ∧ ((fx_in32 u0)) ∧ (u0 ≠ 119 → (((0 : Int) ≤ M 133 24 ∧ M 133 24 < 3100)) ∧ (((0 : Int) ≤ M 133 24 ∧ M 133 24 < 3101)) ∧ wp kc (d + 1) 247 143 [some (jR 133), none, some (jI (M 141 (M 133 24))), none, none] [] (fx_up (fx_up (fx_up (fx_up (fx_up M 133 7 ((M 133 7) + 1)) 133 8 0) 138 (M 133 24) u0) 139 (M 133 24) 0) 140 (M 133 24) 0) Q) ∧ (u0 = 119 → wc kc d 227 [jR 133, jI 32] (fx_up (fx_up (fx_up (fx_up M 133 7 ((M 133 7) + 1)) 133 8 0) 138 (M 133 24) u0) 139 (M 133 24) 0) (fun v M1 => wp kc (d + 1) 247 108 [some (jR 133), none, none, none, none] (v.toList ++ []) M1 Q))) ∧ (u0 ≠ 117 → ((fx_in32 u0)) ∧ (u0 = 98 → (((0 : Int) ≤ M 133 24 ∧ M 133 24 < 3100)) ∧ (((0 : Int) ≤ M 133 24 ∧ M 133 24 < 3100)) ∧ ((fx_in32 u0)) ∧ (u0 ≠ 119 → (((0 : Int) ≤ M 133 24 ∧ M 133 24 < 3100)) ∧ (((0 : Int) ≤ M 133 24 ∧ M 133 24 < 3101)) ∧ wp kc (d + 1) 247 143 [some (jR 133), none, some (jI (M 141 (M 133 24))), none, none] [] (fx_up (fx_up (fx_up (fx_up (fx_up M 133 7 ((M 133 7) + 1)) 133 8 0) 138 (M 133 24) u0) 139 (M 133 24) 0) 140 (M 133 24) 0) Q) ∧ (u0 = 119 → wc kc d 227 [jR 133, jI 32] (fx_up (fx_up (fx_up (fx_up M 133 7 ((M 133 7) + 1)) 133 8 0) 138 (M 133 24) u0) 139 (M 133 24) 0) (fun v M1 => wp kc (d + 1) 247 108 [some (jR 133), none, none, none, none] (v.toList ++ []) M1 Q))) ∧ (u0 ≠ 98 → wc kc d 232 [jR 133] (fx_up (fx_up M 133 7 ((M 133 7) + 1)) 133 8 0) (fun v M1 => wp kc (d + 1) 247 68 [some (jR 133), some (jI u0), none, none, none] (v.toList ++ []) M1 Q)))) ∧ (u0 ≠ 98 → Q (some (jI 0)) M)))))) : wp kc (d + 1) 247 4 [some (jR 133), none, none, none, none] [jI u0] M Q :=
  (x_istn (l' := [some (jR 133), some (jI u0), none, none, none]) c247_4 rfl (x_ildn c247_5 rfl (x_ci c247_6 (x_ceq c247_8 H.1 (by decide) (fun h49 => (x_aldn c247_37 rfl (x_dupr c247_38 (x_gfi c247_39 k_133_7 (x_ci c247_42 (x_iadd c247_43 (x_pfi c247_44 k_133_7 (x_aldn c247_47 rfl (x_ci c247_48 (x_pfi c247_49 k_133_8 (x_ildn c247_52 rfl (x_ci c247_53 (x_ceq c247_55 (H.2.1 h49).1 (by decide) (fun h7 => (x_aldn c247_73 rfl (x_gfr c247_74 k_133_25 (x_aldn c247_77 rfl (x_gfi c247_78 k_133_24 (wp_vI (((fx_upK (by decide)).trans (fx_upK (by decide)))) (x_ildn c247_81 rfl (x_iast c247_82 a_138 ((H.2.1 h49).2.1 h7).1 (by decide) (x_aldn c247_83 rfl (x_gfr c247_84 k_133_26 (x_aldn c247_87 rfl (x_gfi c247_88 k_133_24 (wp_vI (((fx_upA (by decide)).trans ((fx_upK (by decide)).trans (fx_upK (by decide))))) (x_aldn c247_91 rfl (x_gfi c247_92 k_133_8 (wp_vI (((fx_upA (by decide)).trans (fx_upS))) (x_iast c247_95 a_139 ((H.2.1 h49).2.1 h7).2.1 (by decide) (x_ildn c247_96 rfl (x_ci c247_97 (x_cne c247_99 ((H.2.1 h49).2.1 h7).2.2.1 (by decide) (fun h1 => (x_aldn c247_120 rfl (x_gfr c247_121 k_133_27 (x_aldn c247_124 rfl (x_gfi c247_125 k_133_24 (wp_vI (((fx_upA (by decide)).trans ((fx_upA (by decide)).trans ((fx_upK (by decide)).trans (fx_upK (by decide)))))) (x_aldn c247_128 rfl (x_gfi c247_129 k_133_8 (wp_vI (((fx_upA (by decide)).trans ((fx_upA (by decide)).trans (fx_upS)))) (x_iast c247_132 a_140 (((H.2.1 h49).2.1 h7).2.2.2.1 h1).1 (by decide) (x_aldn c247_133 rfl (x_gfr c247_134 k_133_28 (x_aldn c247_137 rfl (x_gfi c247_138 k_133_24 (wp_vI (((fx_upA (by decide)).trans ((fx_upA (by decide)).trans ((fx_upA (by decide)).trans ((fx_upK (by decide)).trans (fx_upK (by decide))))))) (x_iald c247_141 a_141 (((H.2.1 h49).2.1 h7).2.2.2.1 h1).2.1 (by decide) (wp_vI (((fx_upA (by decide)).trans ((fx_upA (by decide)).trans ((fx_upA (by decide)).trans ((fx_upA (by decide)).trans (fx_upA (by decide))))))) (x_istn (l' := [some (jR 133), some (jI u0), some (jI (M 141 (M 133 24))), none, none]) c247_142 rfl (wp_wk (l' := [some (jR 133), none, some (jI (M 141 (M 133 24))), none, none]) ⟨rfl, ⟨rfl, trivial⟩⟩ (((H.2.1 h49).2.1 h7).2.2.2.1 h1).2.2))))))))))))))))))) (fun h2 => (x_aldn c247_102 rfl (x_ci c247_103 (wp_wk (l' := [some (jR 133), none, none, none, none]) ⟨rfl, trivial⟩ (x_cv (As := [jI 32]) (st := []) c247_105 cl_133 kl227 rfl (Nat.le_of_ble_eq_true rfl) mx227 (Nat.le_refl _) (((H.2.1 h49).2.1 h7).2.2.2.2 h2)))))))))))))))))))))))))) (fun h8 => (x_ildn c247_58 rfl (x_ci c247_59 (x_ceq c247_61 ((H.2.1 h49).2.2 h8).1 (by decide) (fun h5 => (x_aldn c247_73 rfl (x_gfr c247_74 k_133_25 (x_aldn c247_77 rfl (x_gfi c247_78 k_133_24 (wp_vI (((fx_upK (by decide)).trans (fx_upK (by decide)))) (x_ildn c247_81 rfl (x_iast c247_82 a_138 (((H.2.1 h49).2.2 h8).2.1 h5).1 (by decide) (x_aldn c247_83 rfl (x_gfr c247_84 k_133_26 (x_aldn c247_87 rfl (x_gfi c247_88 k_133_24 (wp_vI (((fx_upA (by decide)).trans ((fx_upK (by decide)).trans (fx_upK (by decide))))) (x_aldn c247_91 rfl (x_gfi c247_92 k_133_8 (wp_vI (((fx_upA (by decide)).trans (fx_upS))) (x_iast c247_95 a_139 (((H.2.1 h49).2.2 h8).2.1 h5).2.1 (by decide) (x_ildn c247_96 rfl (x_ci c247_97 (x_cne c247_99 (((H.2.1 h49).2.2 h8).2.1 h5).2.2.1 (by decide) (fun h3 => (x_aldn c247_120 rfl (x_gfr c247_121 k_133_27 (x_aldn c247_124 rfl (x_gfi c247_125 k_133_24 (wp_vI (((fx_upA (by decide)).trans ((fx_upA (by decide)).trans ((fx_upK (by decide)).trans (fx_upK (by decide)))))) (x_aldn c247_128 rfl (x_gfi c247_129 k_133_8 (wp_vI (((fx_upA (by decide)).trans ((fx_upA (by decide)).trans (fx_upS)))) (x_iast c247_132 a_140 ((((H.2.1 h49).2.2 h8).2.1 h5).2.2.2.1 h3).1 (by decide) (x_aldn c247_133 rfl (x_gfr c247_134 k_133_28 (x_aldn c247_137 rfl (x_gfi c247_138 k_133_24 (wp_vI (((fx_upA (by decide)).trans ((fx_upA (by decide)).trans ((fx_upA (by decide)).trans ((fx_upK (by decide)).trans (fx_upK (by decide))))))) (x_iald c247_141 a_141 ((((H.2.1 h49).2.2 h8).2.1 h5).2.2.2.1 h3).2.1 (by decide) (wp_vI (((fx_upA (by decide)).trans ((fx_upA (by decide)).trans ((fx_upA (by decide)).trans ((fx_upA (by decide)).trans (fx_upA (by decide))))))) (x_istn (l' := [some (jR 133), some (jI u0), some (jI (M 141 (M 133 24))), none, none]) c247_142 rfl (wp_wk (l' := [some (jR 133), none, some (jI (M 141 (M 133 24))), none, none]) ⟨rfl, ⟨rfl, trivial⟩⟩ ((((H.2.1 h49).2.2 h8).2.1 h5).2.2.2.1 h3).2.2))))))))))))))))))) (fun h4 => (x_aldn c247_102 rfl (x_ci c247_103 (wp_wk (l' := [some (jR 133), none, none, none, none]) ⟨rfl, trivial⟩ (x_cv (As := [jI 32]) (st := []) c247_105 cl_133 kl227 rfl (Nat.le_of_ble_eq_true rfl) mx227 (Nat.le_refl _) ((((H.2.1 h49).2.2 h8).2.1 h5).2.2.2.2 h4)))))))))))))))))))))))))) (fun h6 => (x_aldn c247_64 rfl (wp_wk (l' := [some (jR 133), some (jI u0), none, none, none]) ⟨rfl, ⟨rfl, trivial⟩⟩ (x_cv (As := []) (st := []) c247_65 cl_133 kl232 rfl (Nat.le_of_ble_eq_true rfl) mx232 (Nat.le_refl _) (((H.2.1 h49).2.2 h8).2.2 h6)))))))))))))))))))))) (fun h50 => (x_ildn c247_11 rfl (x_ci c247_12 (x_ceq c247_14 (H.2.2 h50).1 (by decide) (fun h47 => (x_aldn c247_37 rfl (x_dupr c247_38 (x_gfi c247_39 k_133_7 (x_ci c247_42 (x_iadd c247_43 (x_pfi c247_44 k_133_7 (x_aldn c247_47 rfl (x_ci c247_48 (x_pfi c247_49 k_133_8 (x_ildn c247_52 rfl (x_ci c247_53 (x_ceq c247_55 ((H.2.2 h50).2.1 h47).1 (by decide) (fun h15 => (x_aldn c247_73 rfl (x_gfr c247_74 k_133_25 (x_aldn c247_77 rfl (x_gfi c247_78 k_133_24 (wp_vI (((fx_upK (by decide)).trans (fx_upK (by decide)))) (x_ildn c247_81 rfl (x_iast c247_82 a_138 (((H.2.2 h50).2.1 h47).2.1 h15).1 (by decide) (x_aldn c247_83 rfl (x_gfr c247_84 k_133_26 (x_aldn c247_87 rfl (x_gfi c247_88 k_133_24 (wp_vI (((fx_upA (by decide)).trans ((fx_upK (by decide)).trans (fx_upK (by decide))))) (x_aldn c247_91 rfl (x_gfi c247_92 k_133_8 (wp_vI (((fx_upA (by decide)).trans (fx_upS))) (x_iast c247_95 a_139 (((H.2.2 h50).2.1 h47).2.1 h15).2.1 (by decide) (x_ildn c247_96 rfl (x_ci c247_97 (x_cne c247_99 (((H.2.2 h50).2.1 h47).2.1 h15).2.2.1 (by decide) (fun h9 => (x_aldn c247_120 rfl (x_gfr c247_121 k_133_27 (x_aldn c247_124 rfl (x_gfi c247_125 k_133_24 (wp_vI (((fx_upA (by decide)).trans ((fx_upA (by decide)).trans ((fx_upK (by decide)).trans (fx_upK (by decide)))))) (x_aldn c247_128 rfl (x_gfi c247_129 k_133_8 (wp_vI (((fx_upA (by decide)).trans ((fx_upA (by decide)).trans (fx_upS)))) (x_iast c247_132 a_140 ((((H.2.2 h50).2.1 h47).2.1 h15).2.2.2.1 h9).1 (by decide) (x_aldn c247_133 rfl (x_gfr c247_134 k_133_28 (x_aldn c247_137 rfl (x_gfi c247_138 k_133_24 (wp_vI (((fx_upA (by decide)).trans ((fx_upA (by decide)).trans ((fx_upA (by decide)).trans ((fx_upK (by decide)).trans (fx_upK (by decide))))))) (x_iald c247_141 a_141 ((((H.2.2 h50).2.1 h47).2.1 h15).2.2.2.1 h9).2.1 (by decide) (wp_vI (((fx_upA (by decide)).trans ((fx_upA (by decide)).trans ((fx_upA (by decide)).trans ((fx_upA (by decide)).trans (fx_upA (by decide))))))) (x_istn (l' := [some (jR 133), some (jI u0), some (jI (M 141 (M 133 24))), none, none]) c247_142 rfl (wp_wk (l' := [some (jR 133), none, some (jI (M 141 (M 133 24))), none, none]) ⟨rfl, ⟨rfl, trivial⟩⟩ ((((H.2.2 h50).2.1 h47).2.1 h15).2.2.2.1 h9).2.2))))))))))))))))))) (fun h10 => (x_aldn c247_102 rfl (x_ci c247_103 (wp_wk (l' := [some (jR 133), none, none, none, none]) ⟨rfl, trivial⟩ (x_cv (As := [jI 32]) (st := []) c247_105 cl_133 kl227 rfl (Nat.le_of_ble_eq_true rfl) mx227 (Nat.le_refl _) ((((H.2.2 h50).2.1 h47).2.1 h15).2.2.2.2 h10)))))))))))))))))))))))))) (fun h16 => (x_ildn c247_58 rfl (x_ci c247_59 (x_ceq c247_61 (((H.2.2 h50).2.1 h47).2.2 h16).1 (by decide) (fun h13 => (x_aldn c247_73 rfl (x_gfr c247_74 k_133_25 (x_aldn c247_77 rfl (x_gfi c247_78 k_133_24 (wp_vI (((fx_upK (by decide)).trans (fx_upK (by decide)))) (x_ildn c247_81 rfl (x_iast c247_82 a_138 ((((H.2.2 h50).2.1 h47).2.2 h16).2.1 h13).1 (by decide) (x_aldn c247_83 rfl (x_gfr c247_84 k_133_26 (x_aldn c247_87 rfl (x_gfi c247_88 k_133_24 (wp_vI (((fx_upA (by decide)).trans ((fx_upK (by decide)).trans (fx_upK (by decide))))) (x_aldn c247_91 rfl (x_gfi c247_92 k_133_8 (wp_vI (((fx_upA (by decide)).trans (fx_upS))) (x_iast c247_95 a_139 ((((H.2.2 h50).2.1 h47).2.2 h16).2.1 h13).2.1 (by decide) (x_ildn c247_96 rfl (x_ci c247_97 (x_cne c247_99 ((((H.2.2 h50).2.1 h47).2.2 h16).2.1 h13).2.2.1 (by decide) (fun h11 => (x_aldn c247_120 rfl (x_gfr c247_121 k_133_27 (x_aldn c247_124 rfl (x_gfi c247_125 k_133_24 (wp_vI (((fx_upA (by decide)).trans ((fx_upA (by decide)).trans ((fx_upK (by decide)).trans (fx_upK (by decide)))))) (x_aldn c247_128 rfl (x_gfi c247_129 k_133_8 (wp_vI (((fx_upA (by decide)).trans ((fx_upA (by decide)).trans (fx_upS)))) (x_iast c247_132 a_140 (((((H.2.2 h50).2.1 h47).2.2 h16).2.1 h13).2.2.2.1 h11).1 (by decide) (x_aldn c247_133 rfl (x_gfr c247_134 k_133_28 (x_aldn c247_137 rfl (x_gfi c247_138 k_133_24 (wp_vI (((fx_upA (by decide)).trans ((fx_upA (by decide)).trans ((fx_upA (by decide)).trans ((fx_upK (by decide)).trans (fx_upK (by decide))))))) (x_iald c247_141 a_141 (((((H.2.2 h50).2.1 h47).2.2 h16).2.1 h13).2.2.2.1 h11).2.1 (by decide) (wp_vI (((fx_upA (by decide)).trans ((fx_upA (by decide)).trans ((fx_upA (by decide)).trans ((fx_upA (by decide)).trans (fx_upA (by decide))))))) (x_istn (l' := [some (jR 133), some (jI u0), some (jI (M 141 (M 133 24))), none, none]) c247_142 rfl (wp_wk (l' := [some (jR 133), none, some (jI (M 141 (M 133 24))), none, none]) ⟨rfl, ⟨rfl, trivial⟩⟩ (((((H.2.2 h50).2.1 h47).2.2 h16).2.1 h13).2.2.2.1 h11).2.2))))))))))))))))))) (fun h12 => (x_aldn c247_102 rfl (x_ci c247_103 (wp_wk (l' := [some (jR 133), none, none, none, none]) ⟨rfl, trivial⟩ (x_cv (As := [jI 32]) (st := []) c247_105 cl_133 kl227 rfl (Nat.le_of_ble_eq_true rfl) mx227 (Nat.le_refl _) (((((H.2.2 h50).2.1 h47).2.2 h16).2.1 h13).2.2.2.2 h12)))))))))))))))))))))))))) (fun h14 => (x_aldn c247_64 rfl (wp_wk (l' := [some (jR 133), some (jI u0), none, none, none]) ⟨rfl, ⟨rfl, trivial⟩⟩ (x_cv (As := []) (st := []) c247_65 cl_133 kl232 rfl (Nat.le_of_ble_eq_true rfl) mx232 (Nat.le_refl _) ((((H.2.2 h50).2.1 h47).2.2 h16).2.2 h14)))))))))))))))))))))) (fun h48 => (x_ildn c247_17 rfl (x_ci c247_18 (x_ceq c247_20 ((H.2.2 h50).2.2 h48).1 (by decide) (fun h45 => (x_aldn c247_37 rfl (x_dupr c247_38 (x_gfi c247_39 k_133_7 (x_ci c247_42 (x_iadd c247_43 (x_pfi c247_44 k_133_7 (x_aldn c247_47 rfl (x_ci c247_48 (x_pfi c247_49 k_133_8 (x_ildn c247_52 rfl (x_ci c247_53 (x_ceq c247_55 (((H.2.2 h50).2.2 h48).2.1 h45).1 (by decide) (fun h23 => (x_aldn c247_73 rfl (x_gfr c247_74 k_133_25 (x_aldn c247_77 rfl (x_gfi c247_78 k_133_24 (wp_vI (((fx_upK (by decide)).trans (fx_upK (by decide)))) (x_ildn c247_81 rfl (x_iast c247_82 a_138 ((((H.2.2 h50).2.2 h48).2.1 h45).2.1 h23).1 (by decide) (x_aldn c247_83 rfl (x_gfr c247_84 k_133_26 (x_aldn c247_87 rfl (x_gfi c247_88 k_133_24 (wp_vI (((fx_upA (by decide)).trans ((fx_upK (by decide)).trans (fx_upK (by decide))))) (x_aldn c247_91 rfl (x_gfi c247_92 k_133_8 (wp_vI (((fx_upA (by decide)).trans (fx_upS))) (x_iast c247_95 a_139 ((((H.2.2 h50).2.2 h48).2.1 h45).2.1 h23).2.1 (by decide) (x_ildn c247_96 rfl (x_ci c247_97 (x_cne c247_99 ((((H.2.2 h50).2.2 h48).2.1 h45).2.1 h23).2.2.1 (by decide) (fun h17 => (x_aldn c247_120 rfl (x_gfr c247_121 k_133_27 (x_aldn c247_124 rfl (x_gfi c247_125 k_133_24 (wp_vI (((fx_upA (by decide)).trans ((fx_upA (by decide)).trans ((fx_upK (by decide)).trans (fx_upK (by decide)))))) (x_aldn c247_128 rfl (x_gfi c247_129 k_133_8 (wp_vI (((fx_upA (by decide)).trans ((fx_upA (by decide)).trans (fx_upS)))) (x_iast c247_132 a_140 (((((H.2.2 h50).2.2 h48).2.1 h45).2.1 h23).2.2.2.1 h17).1 (by decide) (x_aldn c247_133 rfl (x_gfr c247_134 k_133_28 (x_aldn c247_137 rfl (x_gfi c247_138 k_133_24 (wp_vI (((fx_upA (by decide)).trans ((fx_upA (by decide)).trans ((fx_upA (by decide)).trans ((fx_upK (by decide)).trans (fx_upK (by decide))))))) (x_iald c247_141 a_141 (((((H.2.2 h50).2.2 h48).2.1 h45).2.1 h23).2.2.2.1 h17).2.1 (by decide) (wp_vI (((fx_upA (by decide)).trans ((fx_upA (by decide)).trans ((fx_upA (by decide)).trans ((fx_upA (by decide)).trans (fx_upA (by decide))))))) (x_istn (l' := [some (jR 133), some (jI u0), some (jI (M 141 (M 133 24))), none, none]) c247_142 rfl (wp_wk (l' := [some (jR 133), none, some (jI (M 141 (M 133 24))), none, none]) ⟨rfl, ⟨rfl, trivial⟩⟩ (((((H.2.2 h50).2.2 h48).2.1 h45).2.1 h23).2.2.2.1 h17).2.2))))))))))))))))))) (fun h18 => (x_aldn c247_102 rfl (x_ci c247_103 (wp_wk (l' := [some (jR 133), none, none, none, none]) ⟨rfl, trivial⟩ (x_cv (As := [jI 32]) (st := []) c247_105 cl_133 kl227 rfl (Nat.le_of_ble_eq_true rfl) mx227 (Nat.le_refl _) (((((H.2.2 h50).2.2 h48).2.1 h45).2.1 h23).2.2.2.2 h18)))))))))))))))))))))))))) (fun h24 => (x_ildn c247_58 rfl (x_ci c247_59 (x_ceq c247_61 ((((H.2.2 h50).2.2 h48).2.1 h45).2.2 h24).1 (by decide) (fun h21 => (x_aldn c247_73 rfl (x_gfr c247_74 k_133_25 (x_aldn c247_77 rfl (x_gfi c247_78 k_133_24 (wp_vI (((fx_upK (by decide)).trans (fx_upK (by decide)))) (x_ildn c247_81 rfl (x_iast c247_82 a_138 (((((H.2.2 h50).2.2 h48).2.1 h45).2.2 h24).2.1 h21).1 (by decide) (x_aldn c247_83 rfl (x_gfr c247_84 k_133_26 (x_aldn c247_87 rfl (x_gfi c247_88 k_133_24 (wp_vI (((fx_upA (by decide)).trans ((fx_upK (by decide)).trans (fx_upK (by decide))))) (x_aldn c247_91 rfl (x_gfi c247_92 k_133_8 (wp_vI (((fx_upA (by decide)).trans (fx_upS))) (x_iast c247_95 a_139 (((((H.2.2 h50).2.2 h48).2.1 h45).2.2 h24).2.1 h21).2.1 (by decide) (x_ildn c247_96 rfl (x_ci c247_97 (x_cne c247_99 (((((H.2.2 h50).2.2 h48).2.1 h45).2.2 h24).2.1 h21).2.2.1 (by decide) (fun h19 => (x_aldn c247_120 rfl (x_gfr c247_121 k_133_27 (x_aldn c247_124 rfl (x_gfi c247_125 k_133_24 (wp_vI (((fx_upA (by decide)).trans ((fx_upA (by decide)).trans ((fx_upK (by decide)).trans (fx_upK (by decide)))))) (x_aldn c247_128 rfl (x_gfi c247_129 k_133_8 (wp_vI (((fx_upA (by decide)).trans ((fx_upA (by decide)).trans (fx_upS)))) (x_iast c247_132 a_140 ((((((H.2.2 h50).2.2 h48).2.1 h45).2.2 h24).2.1 h21).2.2.2.1 h19).1 (by decide) (x_aldn c247_133 rfl (x_gfr c247_134 k_133_28 (x_aldn c247_137 rfl (x_gfi c247_138 k_133_24 (wp_vI (((fx_upA (by decide)).trans ((fx_upA (by decide)).trans ((fx_upA (by decide)).trans ((fx_upK (by decide)).trans (fx_upK (by decide))))))) (x_iald c247_141 a_141 ((((((H.2.2 h50).2.2 h48).2.1 h45).2.2 h24).2.1 h21).2.2.2.1 h19).2.1 (by decide) (wp_vI (((fx_upA (by decide)).trans ((fx_upA (by decide)).trans ((fx_upA (by decide)).trans ((fx_upA (by decide)).trans (fx_upA (by decide))))))) (x_istn (l' := [some (jR 133), some (jI u0), some (jI (M 141 (M 133 24))), none, none]) c247_142 rfl (wp_wk (l' := [some (jR 133), none, some (jI (M 141 (M 133 24))), none, none]) ⟨rfl, ⟨rfl, trivial⟩⟩ ((((((H.2.2 h50).2.2 h48).2.1 h45).2.2 h24).2.1 h21).2.2.2.1 h19).2.2))))))))))))))))))) (fun h20 => (x_aldn c247_102 rfl (x_ci c247_103 (wp_wk (l' := [some (jR 133), none, none, none, none]) ⟨rfl, trivial⟩ (x_cv (As := [jI 32]) (st := []) c247_105 cl_133 kl227 rfl (Nat.le_of_ble_eq_true rfl) mx227 (Nat.le_refl _) ((((((H.2.2 h50).2.2 h48).2.1 h45).2.2 h24).2.1 h21).2.2.2.2 h20)))))))))))))))))))))))))) (fun h22 => (x_aldn c247_64 rfl (wp_wk (l' := [some (jR 133), some (jI u0), none, none, none]) ⟨rfl, ⟨rfl, trivial⟩⟩ (x_cv (As := []) (st := []) c247_65 cl_133 kl232 rfl (Nat.le_of_ble_eq_true rfl) mx232 (Nat.le_refl _) (((((H.2.2 h50).2.2 h48).2.1 h45).2.2 h24).2.2 h22)))))))))))))))))))))) (fun h46 => (x_ildn c247_23 rfl (x_ci c247_24 (x_ceq c247_26 (((H.2.2 h50).2.2 h48).2.2 h46).1 (by decide) (fun h43 => (x_aldn c247_37 rfl (x_dupr c247_38 (x_gfi c247_39 k_133_7 (x_ci c247_42 (x_iadd c247_43 (x_pfi c247_44 k_133_7 (x_aldn c247_47 rfl (x_ci c247_48 (x_pfi c247_49 k_133_8 (x_ildn c247_52 rfl (x_ci c247_53 (x_ceq c247_55 ((((H.2.2 h50).2.2 h48).2.2 h46).2.1 h43).1 (by decide) (fun h31 => (x_aldn c247_73 rfl (x_gfr c247_74 k_133_25 (x_aldn c247_77 rfl (x_gfi c247_78 k_133_24 (wp_vI (((fx_upK (by decide)).trans (fx_upK (by decide)))) (x_ildn c247_81 rfl (x_iast c247_82 a_138 (((((H.2.2 h50).2.2 h48).2.2 h46).2.1 h43).2.1 h31).1 (by decide) (x_aldn c247_83 rfl (x_gfr c247_84 k_133_26 (x_aldn c247_87 rfl (x_gfi c247_88 k_133_24 (wp_vI (((fx_upA (by decide)).trans ((fx_upK (by decide)).trans (fx_upK (by decide))))) (x_aldn c247_91 rfl (x_gfi c247_92 k_133_8 (wp_vI (((fx_upA (by decide)).trans (fx_upS))) (x_iast c247_95 a_139 (((((H.2.2 h50).2.2 h48).2.2 h46).2.1 h43).2.1 h31).2.1 (by decide) (x_ildn c247_96 rfl (x_ci c247_97 (x_cne c247_99 (((((H.2.2 h50).2.2 h48).2.2 h46).2.1 h43).2.1 h31).2.2.1 (by decide) (fun h25 => (x_aldn c247_120 rfl (x_gfr c247_121 k_133_27 (x_aldn c247_124 rfl (x_gfi c247_125 k_133_24 (wp_vI (((fx_upA (by decide)).trans ((fx_upA (by decide)).trans ((fx_upK (by decide)).trans (fx_upK (by decide)))))) (x_aldn c247_128 rfl (x_gfi c247_129 k_133_8 (wp_vI (((fx_upA (by decide)).trans ((fx_upA (by decide)).trans (fx_upS)))) (x_iast c247_132 a_140 ((((((H.2.2 h50).2.2 h48).2.2 h46).2.1 h43).2.1 h31).2.2.2.1 h25).1 (by decide) (x_aldn c247_133 rfl (x_gfr c247_134 k_133_28 (x_aldn c247_137 rfl (x_gfi c247_138 k_133_24 (wp_vI (((fx_upA (by decide)).trans ((fx_upA (by decide)).trans ((fx_upA (by decide)).trans ((fx_upK (by decide)).trans (fx_upK (by decide))))))) (x_iald c247_141 a_141 ((((((H.2.2 h50).2.2 h48).2.2 h46).2.1 h43).2.1 h31).2.2.2.1 h25).2.1 (by decide) (wp_vI (((fx_upA (by decide)).trans ((fx_upA (by decide)).trans ((fx_upA (by decide)).trans ((fx_upA (by decide)).trans (fx_upA (by decide))))))) (x_istn (l' := [some (jR 133), some (jI u0), some (jI (M 141 (M 133 24))), none, none]) c247_142 rfl (wp_wk (l' := [some (jR 133), none, some (jI (M 141 (M 133 24))), none, none]) ⟨rfl, ⟨rfl, trivial⟩⟩ ((((((H.2.2 h50).2.2 h48).2.2 h46).2.1 h43).2.1 h31).2.2.2.1 h25).2.2))))))))))))))))))) (fun h26 => (x_aldn c247_102 rfl (x_ci c247_103 (wp_wk (l' := [some (jR 133), none, none, none, none]) ⟨rfl, trivial⟩ (x_cv (As := [jI 32]) (st := []) c247_105 cl_133 kl227 rfl (Nat.le_of_ble_eq_true rfl) mx227 (Nat.le_refl _) ((((((H.2.2 h50).2.2 h48).2.2 h46).2.1 h43).2.1 h31).2.2.2.2 h26)))))))))))))))))))))))))) (fun h32 => (x_ildn c247_58 rfl (x_ci c247_59 (x_ceq c247_61 (((((H.2.2 h50).2.2 h48).2.2 h46).2.1 h43).2.2 h32).1 (by decide) (fun h29 => (x_aldn c247_73 rfl (x_gfr c247_74 k_133_25 (x_aldn c247_77 rfl (x_gfi c247_78 k_133_24 (wp_vI (((fx_upK (by decide)).trans (fx_upK (by decide)))) (x_ildn c247_81 rfl (x_iast c247_82 a_138 ((((((H.2.2 h50).2.2 h48).2.2 h46).2.1 h43).2.2 h32).2.1 h29).1 (by decide) (x_aldn c247_83 rfl (x_gfr c247_84 k_133_26 (x_aldn c247_87 rfl (x_gfi c247_88 k_133_24 (wp_vI (((fx_upA (by decide)).trans ((fx_upK (by decide)).trans (fx_upK (by decide))))) (x_aldn c247_91 rfl (x_gfi c247_92 k_133_8 (wp_vI (((fx_upA (by decide)).trans (fx_upS))) (x_iast c247_95 a_139 ((((((H.2.2 h50).2.2 h48).2.2 h46).2.1 h43).2.2 h32).2.1 h29).2.1 (by decide) (x_ildn c247_96 rfl (x_ci c247_97 (x_cne c247_99 ((((((H.2.2 h50).2.2 h48).2.2 h46).2.1 h43).2.2 h32).2.1 h29).2.2.1 (by decide) (fun h27 => (x_aldn c247_120 rfl (x_gfr c247_121 k_133_27 (x_aldn c247_124 rfl (x_gfi c247_125 k_133_24 (wp_vI (((fx_upA (by decide)).trans ((fx_upA (by decide)).trans ((fx_upK (by decide)).trans (fx_upK (by decide)))))) (x_aldn c247_128 rfl (x_gfi c247_129 k_133_8 (wp_vI (((fx_upA (by decide)).trans ((fx_upA (by decide)).trans (fx_upS)))) (x_iast c247_132 a_140 (((((((H.2.2 h50).2.2 h48).2.2 h46).2.1 h43).2.2 h32).2.1 h29).2.2.2.1 h27).1 (by decide) (x_aldn c247_133 rfl (x_gfr c247_134 k_133_28 (x_aldn c247_137 rfl (x_gfi c247_138 k_133_24 (wp_vI (((fx_upA (by decide)).trans ((fx_upA (by decide)).trans ((fx_upA (by decide)).trans ((fx_upK (by decide)).trans (fx_upK (by decide))))))) (x_iald c247_141 a_141 (((((((H.2.2 h50).2.2 h48).2.2 h46).2.1 h43).2.2 h32).2.1 h29).2.2.2.1 h27).2.1 (by decide) (wp_vI (((fx_upA (by decide)).trans ((fx_upA (by decide)).trans ((fx_upA (by decide)).trans ((fx_upA (by decide)).trans (fx_upA (by decide))))))) (x_istn (l' := [some (jR 133), some (jI u0), some (jI (M 141 (M 133 24))), none, none]) c247_142 rfl (wp_wk (l' := [some (jR 133), none, some (jI (M 141 (M 133 24))), none, none]) ⟨rfl, ⟨rfl, trivial⟩⟩ (((((((H.2.2 h50).2.2 h48).2.2 h46).2.1 h43).2.2 h32).2.1 h29).2.2.2.1 h27).2.2))))))))))))))))))) (fun h28 => (x_aldn c247_102 rfl (x_ci c247_103 (wp_wk (l' := [some (jR 133), none, none, none, none]) ⟨rfl, trivial⟩ (x_cv (As := [jI 32]) (st := []) c247_105 cl_133 kl227 rfl (Nat.le_of_ble_eq_true rfl) mx227 (Nat.le_refl _) (((((((H.2.2 h50).2.2 h48).2.2 h46).2.1 h43).2.2 h32).2.1 h29).2.2.2.2 h28)))))))))))))))))))))))))) (fun h30 => (x_aldn c247_64 rfl (wp_wk (l' := [some (jR 133), some (jI u0), none, none, none]) ⟨rfl, ⟨rfl, trivial⟩⟩ (x_cv (As := []) (st := []) c247_65 cl_133 kl232 rfl (Nat.le_of_ble_eq_true rfl) mx232 (Nat.le_refl _) ((((((H.2.2 h50).2.2 h48).2.2 h46).2.1 h43).2.2 h32).2.2 h30)))))))))))))))))))))) (fun h44 => (x_ildn c247_29 rfl (x_ci c247_30 (x_ceq c247_32 ((((H.2.2 h50).2.2 h48).2.2 h46).2.2 h44).1 (by decide) (fun h41 => (x_aldn c247_37 rfl (x_dupr c247_38 (x_gfi c247_39 k_133_7 (x_ci c247_42 (x_iadd c247_43 (x_pfi c247_44 k_133_7 (x_aldn c247_47 rfl (x_ci c247_48 (x_pfi c247_49 k_133_8 (x_ildn c247_52 rfl (x_ci c247_53 (x_ceq c247_55 (((((H.2.2 h50).2.2 h48).2.2 h46).2.2 h44).2.1 h41).1 (by decide) (fun h39 => (x_aldn c247_73 rfl (x_gfr c247_74 k_133_25 (x_aldn c247_77 rfl (x_gfi c247_78 k_133_24 (wp_vI (((fx_upK (by decide)).trans (fx_upK (by decide)))) (x_ildn c247_81 rfl (x_iast c247_82 a_138 ((((((H.2.2 h50).2.2 h48).2.2 h46).2.2 h44).2.1 h41).2.1 h39).1 (by decide) (x_aldn c247_83 rfl (x_gfr c247_84 k_133_26 (x_aldn c247_87 rfl (x_gfi c247_88 k_133_24 (wp_vI (((fx_upA (by decide)).trans ((fx_upK (by decide)).trans (fx_upK (by decide))))) (x_aldn c247_91 rfl (x_gfi c247_92 k_133_8 (wp_vI (((fx_upA (by decide)).trans (fx_upS))) (x_iast c247_95 a_139 ((((((H.2.2 h50).2.2 h48).2.2 h46).2.2 h44).2.1 h41).2.1 h39).2.1 (by decide) (x_ildn c247_96 rfl (x_ci c247_97 (x_cne c247_99 ((((((H.2.2 h50).2.2 h48).2.2 h46).2.2 h44).2.1 h41).2.1 h39).2.2.1 (by decide) (fun h33 => (x_aldn c247_120 rfl (x_gfr c247_121 k_133_27 (x_aldn c247_124 rfl (x_gfi c247_125 k_133_24 (wp_vI (((fx_upA (by decide)).trans ((fx_upA (by decide)).trans ((fx_upK (by decide)).trans (fx_upK (by decide)))))) (x_aldn c247_128 rfl (x_gfi c247_129 k_133_8 (wp_vI (((fx_upA (by decide)).trans ((fx_upA (by decide)).trans (fx_upS)))) (x_iast c247_132 a_140 (((((((H.2.2 h50).2.2 h48).2.2 h46).2.2 h44).2.1 h41).2.1 h39).2.2.2.1 h33).1 (by decide) (x_aldn c247_133 rfl (x_gfr c247_134 k_133_28 (x_aldn c247_137 rfl (x_gfi c247_138 k_133_24 (wp_vI (((fx_upA (by decide)).trans ((fx_upA (by decide)).trans ((fx_upA (by decide)).trans ((fx_upK (by decide)).trans (fx_upK (by decide))))))) (x_iald c247_141 a_141 (((((((H.2.2 h50).2.2 h48).2.2 h46).2.2 h44).2.1 h41).2.1 h39).2.2.2.1 h33).2.1 (by decide) (wp_vI (((fx_upA (by decide)).trans ((fx_upA (by decide)).trans ((fx_upA (by decide)).trans ((fx_upA (by decide)).trans (fx_upA (by decide))))))) (x_istn (l' := [some (jR 133), some (jI u0), some (jI (M 141 (M 133 24))), none, none]) c247_142 rfl (wp_wk (l' := [some (jR 133), none, some (jI (M 141 (M 133 24))), none, none]) ⟨rfl, ⟨rfl, trivial⟩⟩ (((((((H.2.2 h50).2.2 h48).2.2 h46).2.2 h44).2.1 h41).2.1 h39).2.2.2.1 h33).2.2))))))))))))))))))) (fun h34 => (x_aldn c247_102 rfl (x_ci c247_103 (wp_wk (l' := [some (jR 133), none, none, none, none]) ⟨rfl, trivial⟩ (x_cv (As := [jI 32]) (st := []) c247_105 cl_133 kl227 rfl (Nat.le_of_ble_eq_true rfl) mx227 (Nat.le_refl _) (((((((H.2.2 h50).2.2 h48).2.2 h46).2.2 h44).2.1 h41).2.1 h39).2.2.2.2 h34)))))))))))))))))))))))))) (fun h40 => (x_ildn c247_58 rfl (x_ci c247_59 (x_ceq c247_61 ((((((H.2.2 h50).2.2 h48).2.2 h46).2.2 h44).2.1 h41).2.2 h40).1 (by decide) (fun h37 => (x_aldn c247_73 rfl (x_gfr c247_74 k_133_25 (x_aldn c247_77 rfl (x_gfi c247_78 k_133_24 (wp_vI (((fx_upK (by decide)).trans (fx_upK (by decide)))) (x_ildn c247_81 rfl (x_iast c247_82 a_138 (((((((H.2.2 h50).2.2 h48).2.2 h46).2.2 h44).2.1 h41).2.2 h40).2.1 h37).1 (by decide) (x_aldn c247_83 rfl (x_gfr c247_84 k_133_26 (x_aldn c247_87 rfl (x_gfi c247_88 k_133_24 (wp_vI (((fx_upA (by decide)).trans ((fx_upK (by decide)).trans (fx_upK (by decide))))) (x_aldn c247_91 rfl (x_gfi c247_92 k_133_8 (wp_vI (((fx_upA (by decide)).trans (fx_upS))) (x_iast c247_95 a_139 (((((((H.2.2 h50).2.2 h48).2.2 h46).2.2 h44).2.1 h41).2.2 h40).2.1 h37).2.1 (by decide) (x_ildn c247_96 rfl (x_ci c247_97 (x_cne c247_99 (((((((H.2.2 h50).2.2 h48).2.2 h46).2.2 h44).2.1 h41).2.2 h40).2.1 h37).2.2.1 (by decide) (fun h35 => (x_aldn c247_120 rfl (x_gfr c247_121 k_133_27 (x_aldn c247_124 rfl (x_gfi c247_125 k_133_24 (wp_vI (((fx_upA (by decide)).trans ((fx_upA (by decide)).trans ((fx_upK (by decide)).trans (fx_upK (by decide)))))) (x_aldn c247_128 rfl (x_gfi c247_129 k_133_8 (wp_vI (((fx_upA (by decide)).trans ((fx_upA (by decide)).trans (fx_upS)))) (x_iast c247_132 a_140 ((((((((H.2.2 h50).2.2 h48).2.2 h46).2.2 h44).2.1 h41).2.2 h40).2.1 h37).2.2.2.1 h35).1 (by decide) (x_aldn c247_133 rfl (x_gfr c247_134 k_133_28 (x_aldn c247_137 rfl (x_gfi c247_138 k_133_24 (wp_vI (((fx_upA (by decide)).trans ((fx_upA (by decide)).trans ((fx_upA (by decide)).trans ((fx_upK (by decide)).trans (fx_upK (by decide))))))) (x_iald c247_141 a_141 ((((((((H.2.2 h50).2.2 h48).2.2 h46).2.2 h44).2.1 h41).2.2 h40).2.1 h37).2.2.2.1 h35).2.1 (by decide) (wp_vI (((fx_upA (by decide)).trans ((fx_upA (by decide)).trans ((fx_upA (by decide)).trans ((fx_upA (by decide)).trans (fx_upA (by decide))))))) (x_istn (l' := [some (jR 133), some (jI u0), some (jI (M 141 (M 133 24))), none, none]) c247_142 rfl (wp_wk (l' := [some (jR 133), none, some (jI (M 141 (M 133 24))), none, none]) ⟨rfl, ⟨rfl, trivial⟩⟩ ((((((((H.2.2 h50).2.2 h48).2.2 h46).2.2 h44).2.1 h41).2.2 h40).2.1 h37).2.2.2.1 h35).2.2))))))))))))))))))) (fun h36 => (x_aldn c247_102 rfl (x_ci c247_103 (wp_wk (l' := [some (jR 133), none, none, none, none]) ⟨rfl, trivial⟩ (x_cv (As := [jI 32]) (st := []) c247_105 cl_133 kl227 rfl (Nat.le_of_ble_eq_true rfl) mx227 (Nat.le_refl _) ((((((((H.2.2 h50).2.2 h48).2.2 h46).2.2 h44).2.1 h41).2.2 h40).2.1 h37).2.2.2.2 h36)))))))))))))))))))))))))) (fun h38 => (x_aldn c247_64 rfl (wp_wk (l' := [some (jR 133), some (jI u0), none, none, none]) ⟨rfl, ⟨rfl, trivial⟩⟩ (x_cv (As := []) (st := []) c247_65 cl_133 kl232 rfl (Nat.le_of_ble_eq_true rfl) mx232 (Nat.le_refl _) (((((((H.2.2 h50).2.2 h48).2.2 h46).2.2 h44).2.1 h41).2.2 h40).2.2 h38)))))))))))))))))))))) (fun h42 => (x_ci c247_35 (x_zrt c247_36 r247 (by decide) (((((H.2.2 h50).2.2 h48).2.2 h46).2.2 h44).2.2 h42))))))))))))))))))))))))
theorem s247_68 {kc : List va_E} {d : Nat} {v1 u0 : Int} {M : fx_M} {Q : Option fx_V → fx_M → Prop} (H : ((fx_in32 u0)) ∧ (u0 ≠ 0 → (((0 : Int) ≤ M 133 24 ∧ M 133 24 < 3100)) ∧ (((0 : Int) ≤ M 133 24 ∧ M 133 24 < 3100)) ∧ ((fx_in32 v1)) ∧ (v1 ≠ 119 → (((0 : Int) ≤ M 133 24 ∧ M 133 24 < 3100)) ∧ (((0 : Int) ≤ M 133 24 ∧ M 133 24 < 3101)) ∧ wp kc (d + 1) 247 143 [some (jR 133), none, some (jI (M 141 (M 133 24))), none, none] [] (fx_up (fx_up (fx_up M 138 (M 133 24) v1) 139 (M 133 24) (M 133 8)) 140 (M 133 24) (M 133 8)) Q) ∧ (v1 = 119 → wc kc d 227 [jR 133, jI 32] (fx_up (fx_up M 138 (M 133 24) v1) 139 (M 133 24) (M 133 8)) (fun v M1 => wp kc (d + 1) 247 108 [some (jR 133), none, none, none, none] (v.toList ++ []) M1 Q))) ∧ (u0 = 0 → Q (some (jI 0)) M)) : wp kc (d + 1) 247 68 [some (jR 133), some (jI v1), none, none, none] [jI u0] M Q :=
  (x_zne c247_68 H.1 (fun h3 => (x_aldn c247_73 rfl (x_gfr c247_74 k_133_25 (x_aldn c247_77 rfl (x_gfi c247_78 k_133_24 (x_ildn c247_81 rfl (x_iast c247_82 a_138 (H.2.1 h3).1 (by decide) (x_aldn c247_83 rfl (x_gfr c247_84 k_133_26 (x_aldn c247_87 rfl (x_gfi c247_88 k_133_24 (wp_vI (fx_upA (by decide)) (x_aldn c247_91 rfl (x_gfi c247_92 k_133_8 (wp_vI (fx_upA (by decide)) (x_iast c247_95 a_139 (H.2.1 h3).2.1 (by decide) (x_ildn c247_96 rfl (x_ci c247_97 (x_cne c247_99 (H.2.1 h3).2.2.1 (by decide) (fun h1 => (x_aldn c247_120 rfl (x_gfr c247_121 k_133_27 (x_aldn c247_124 rfl (x_gfi c247_125 k_133_24 (wp_vI (((fx_upA (by decide)).trans (fx_upA (by decide)))) (x_aldn c247_128 rfl (x_gfi c247_129 k_133_8 (wp_vI (((fx_upA (by decide)).trans (fx_upA (by decide)))) (x_iast c247_132 a_140 ((H.2.1 h3).2.2.2.1 h1).1 (by decide) (x_aldn c247_133 rfl (x_gfr c247_134 k_133_28 (x_aldn c247_137 rfl (x_gfi c247_138 k_133_24 (wp_vI (((fx_upA (by decide)).trans ((fx_upA (by decide)).trans (fx_upA (by decide))))) (x_iald c247_141 a_141 ((H.2.1 h3).2.2.2.1 h1).2.1 (by decide) (wp_vI (((fx_upA (by decide)).trans ((fx_upA (by decide)).trans (fx_upA (by decide))))) (x_istn (l' := [some (jR 133), some (jI v1), some (jI (M 141 (M 133 24))), none, none]) c247_142 rfl (wp_wk (l' := [some (jR 133), none, some (jI (M 141 (M 133 24))), none, none]) ⟨rfl, ⟨rfl, trivial⟩⟩ ((H.2.1 h3).2.2.2.1 h1).2.2))))))))))))))))))) (fun h2 => (x_aldn c247_102 rfl (x_ci c247_103 (wp_wk (l' := [some (jR 133), none, none, none, none]) ⟨rfl, trivial⟩ (x_cv (As := [jI 32]) (st := []) c247_105 cl_133 kl227 rfl (Nat.le_of_ble_eq_true rfl) mx227 (Nat.le_refl _) ((H.2.1 h3).2.2.2.2 h2))))))))))))))))))))))))) (fun h4 => (x_ci c247_71 (x_zrt c247_72 r247 (by decide) (H.2.2 h4)))))
theorem s247_108 {kc : List va_E} {d : Nat} {u0 : Int} {M : fx_M} {Q : Option fx_V → fx_M → Prop} (H : ((fx_in32 u0)) ∧ (u0 = 0 → Q (some (jI 0)) M) ∧ (u0 ≠ 0 → wc kc d 232 [jR 133] M (fun v M1 => wp kc (d + 1) 247 115 [some (jR 133), none, none, none, none] (v.toList ++ []) M1 Q))) : wp kc (d + 1) 247 108 [some (jR 133), none, none, none, none] [jI u0] M Q :=
  (x_zeq c247_108 H.1 (fun h1 => (x_ci c247_118 (x_zrt c247_119 r247 (by decide) (H.2.1 h1)))) (fun h2 => (x_aldn c247_111 rfl (wp_wk (l' := [some (jR 133), none, none, none, none]) ⟨rfl, trivial⟩ (x_cv (As := []) (st := []) c247_112 cl_133 kl232 rfl (Nat.le_of_ble_eq_true rfl) mx232 (Nat.le_refl _) (H.2.2 h2))))))
theorem s247_115 {kc : List va_E} {d : Nat} {u0 : Int} {M : fx_M} {Q : Option fx_V → fx_M → Prop} (H : ((fx_in32 u0)) ∧ (u0 ≠ 0 → (((0 : Int) ≤ M 133 24 ∧ M 133 24 < 3100)) ∧ (((0 : Int) ≤ M 133 24 ∧ M 133 24 < 3101)) ∧ wp kc (d + 1) 247 143 [some (jR 133), none, some (jI (M 141 (M 133 24))), none, none] [] (fx_up M 140 (M 133 24) (M 133 8)) Q) ∧ (u0 = 0 → Q (some (jI 0)) M)) : wp kc (d + 1) 247 115 [some (jR 133), none, none, none, none] [jI u0] M Q :=
  (x_zne c247_115 H.1 (fun h1 => (x_aldn c247_120 rfl (x_gfr c247_121 k_133_27 (x_aldn c247_124 rfl (x_gfi c247_125 k_133_24 (x_aldn c247_128 rfl (x_gfi c247_129 k_133_8 (x_iast c247_132 a_140 (H.2.1 h1).1 (by decide) (x_aldn c247_133 rfl (x_gfr c247_134 k_133_28 (x_aldn c247_137 rfl (x_gfi c247_138 k_133_24 (wp_vI (fx_upA (by decide)) (x_iald c247_141 a_141 (H.2.1 h1).2.1 (by decide) (wp_vI (fx_upA (by decide)) (x_istn (l' := [some (jR 133), none, some (jI (M 141 (M 133 24))), none, none]) c247_142 rfl (wp_wk (l' := [some (jR 133), none, some (jI (M 141 (M 133 24))), none, none]) ⟨rfl, ⟨rfl, trivial⟩⟩ (H.2.1 h1).2.2))))))))))))))))) (fun h2 => (x_ci c247_118 (x_zrt c247_119 r247 (by decide) (H.2.2 h2)))))
theorem s247_143 {kc : List va_E} {d : Nat} {v2 : Int} {M : fx_M} {Q : Option fx_V → fx_M → Prop} (H : wc kc d 228 [jR 133] M (fun v M1 => wp kc (d + 1) 247 147 [some (jR 133), none, some (jI v2), none, none] (v.toList ++ []) M1 Q)) : wp kc (d + 1) 247 143 [some (jR 133), none, some (jI v2), none, none] [] M Q :=
  (x_aldn c247_143 rfl (wp_wk (l' := [some (jR 133), none, some (jI v2), none, none]) ⟨rfl, ⟨rfl, trivial⟩⟩ (x_cv (As := []) (st := []) c247_144 cl_133 kl228 rfl (Nat.le_of_ble_eq_true rfl) mx228 (Nat.le_refl _) H)))
theorem s247_147 {kc : List va_E} {d : Nat} {v2 u0 : Int} {M : fx_M} {Q : Option fx_V → fx_M → Prop} (H : ((fx_in32 u0)) ∧ (u0 ≠ 32 → (((0 : Int) ≤ (M 133 24) + 1 ∧ (M 133 24) + 1 < 3101)) ∧ wc kc d 227 [jR 133, jI 59] (fx_up (fx_up M 133 24 ((M 133 24) + 1)) 141 ((M 133 24) + 1) v2) (fun v M1 => wp kc (d + 1) 247 314 [none, none, none, none, none] (v.toList ++ []) M1 Q)) ∧ (u0 = 32 → wc kc d 228 [jR 133] (fx_up M 133 7 ((M 133 7) + 1)) (fun v M1 => wp kc (d + 1) 247 166 [some (jR 133), none, some (jI v2), none, none] (v.toList ++ []) M1 Q))) : wp kc (d + 1) 247 147 [some (jR 133), none, some (jI v2), none, none] [jI u0] M Q :=
  (x_ci c247_147 (x_cne c247_149 H.1 (by decide) (fun h1 => (x_aldn c247_288 rfl (x_dupr c247_289 (x_gfi c247_290 k_133_24 (x_ci c247_293 (x_iadd c247_294 (x_pfi c247_295 k_133_24 (x_aldn c247_298 rfl (x_gfr c247_299 k_133_28 (x_aldn c247_302 rfl (x_gfi c247_303 k_133_24 (wp_vI (fx_upS) (x_ildn c247_306 rfl (x_iast c247_307 a_141 (H.2.1 h1).1 (by decide) (x_aldn c247_308 rfl (x_ci c247_309 (wp_wk (l' := [none, none, none, none, none]) trivial (x_cv (As := [jI 59]) (st := []) c247_311 cl_133 kl227 rfl (Nat.le_of_ble_eq_true rfl) mx227 (Nat.le_refl _) (H.2.1 h1).2)))))))))))))))))) (fun h2 => (x_aldn c247_152 rfl (x_dupr c247_153 (x_gfi c247_154 k_133_7 (x_ci c247_157 (x_iadd c247_158 (x_pfi c247_159 k_133_7 (x_aldn c247_162 rfl (wp_wk (l' := [some (jR 133), none, some (jI v2), none, none]) ⟨rfl, ⟨rfl, trivial⟩⟩ (x_cv (As := []) (st := []) c247_163 cl_133 kl228 rfl (Nat.le_of_ble_eq_true rfl) mx228 (Nat.le_refl _) (H.2.2 h2)))))))))))))
theorem s247_166 {kc : List va_E} {d : Nat} {v2 u0 : Int} {M : fx_M} {Q : Option fx_V → fx_M → Prop} (H : ((fx_in32 u0)) ∧ wc kc d 227 [jR 133, jI 43] M (fun v M1 => wp kc (d + 1) 247 183 [some (jR 133), none, some (jI v2), some (jI (if u0 = 43 then (1 : Int) else 0)), none] (v.toList ++ []) M1 Q)) : wp kc (d + 1) 247 166 [some (jR 133), none, some (jI v2), none, none] [jI u0] M Q :=
  (x_ci c247_166 (have K : wp kc (d + 1) 247 176 [some (jR 133), none, some (jI v2), none, none] [jI (if u0 = 43 then (1 : Int) else 0)] M Q := (x_istn (l' := [some (jR 133), none, some (jI v2), some (jI (if u0 = 43 then (1 : Int) else 0)), none]) c247_176 rfl (x_aldn c247_177 rfl (x_ci c247_178 (wp_wk (l' := [some (jR 133), none, some (jI v2), some (jI (if u0 = 43 then (1 : Int) else 0)), none]) ⟨rfl, ⟨rfl, ⟨rfl, trivial⟩⟩⟩ (x_cv (As := [jI 43]) (st := []) c247_180 cl_133 kl227 rfl (Nat.le_of_ble_eq_true rfl) mx227 (Nat.le_refl _) H.2))))); (x_cne c247_168 H.1 (by decide) (fun (h1 : u0 ≠ 43) => (x_ci c247_175 (wp_wk (l' := [some (jR 133), none, some (jI v2), none, none]) ⟨rfl, ⟨rfl, trivial⟩⟩ (by have K := K; first | (simp only [if_neg h1] at K ⊢; exact K) | (exfalso; omega))))) (fun (h2 : u0 = 43) => (x_ci c247_171 (x_goto c247_172 (wp_wk (l' := [some (jR 133), none, some (jI v2), none, none]) ⟨rfl, ⟨rfl, trivial⟩⟩ (by have K := K; first | (simp only [if_pos h2] at K ⊢; exact K) | (exfalso; omega)))))))))
theorem s247_183 {kc : List va_E} {d : Nat} {v2 v3 u0 : Int} {M : fx_M} {Q : Option fx_V → fx_M → Prop} (H : ((fx_in32 u0)) ∧ (u0 ≠ 0 → wc kc d 232 [jR 133] M (fun v M1 => wp kc (d + 1) 247 199 [some (jR 133), none, some (jI v2), some (jI v3), none] (v.toList ++ []) M1 Q)) ∧ (u0 = 0 → wc kc d 227 [jR 133, jI 45] M (fun v M1 => wp kc (d + 1) 247 192 [some (jR 133), none, some (jI v2), some (jI v3), none] (v.toList ++ []) M1 Q))) : wp kc (d + 1) 247 183 [some (jR 133), none, some (jI v2), some (jI v3), none] [jI u0] M Q :=
  (x_zne c247_183 H.1 (fun h1 => (x_aldn c247_195 rfl (wp_wk (l' := [some (jR 133), none, some (jI v2), some (jI v3), none]) ⟨rfl, ⟨rfl, ⟨rfl, trivial⟩⟩⟩ (x_cv (As := []) (st := []) c247_196 cl_133 kl232 rfl (Nat.le_of_ble_eq_true rfl) mx232 (Nat.le_refl _) (H.2.1 h1))))) (fun h2 => (x_aldn c247_186 rfl (x_ci c247_187 (wp_wk (l' := [some (jR 133), none, some (jI v2), some (jI v3), none]) ⟨rfl, ⟨rfl, ⟨rfl, trivial⟩⟩⟩ (x_cv (As := [jI 45]) (st := []) c247_189 cl_133 kl227 rfl (Nat.le_of_ble_eq_true rfl) mx227 (Nat.le_refl _) (H.2.2 h2)))))))
theorem s247_192 {kc : List va_E} {d : Nat} {v2 v3 u0 : Int} {M : fx_M} {Q : Option fx_V → fx_M → Prop} (H : ((fx_in32 u0)) ∧ (u0 = 0 → Q (some (jI 0)) M) ∧ (u0 ≠ 0 → wc kc d 232 [jR 133] M (fun v M1 => wp kc (d + 1) 247 199 [some (jR 133), none, some (jI v2), some (jI v3), none] (v.toList ++ []) M1 Q))) : wp kc (d + 1) 247 192 [some (jR 133), none, some (jI v2), some (jI v3), none] [jI u0] M Q :=
  (x_zeq c247_192 H.1 (fun h1 => (x_ci c247_202 (x_zrt c247_203 r247 (by decide) (H.2.1 h1)))) (fun h2 => (x_aldn c247_195 rfl (wp_wk (l' := [some (jR 133), none, some (jI v2), some (jI v3), none]) ⟨rfl, ⟨rfl, ⟨rfl, trivial⟩⟩⟩ (x_cv (As := []) (st := []) c247_196 cl_133 kl232 rfl (Nat.le_of_ble_eq_true rfl) mx232 (Nat.le_refl _) (H.2.2 h2))))))
theorem s247_199 {kc : List va_E} {d : Nat} {v2 v3 u0 : Int} {M : fx_M} {Q : Option fx_V → fx_M → Prop} (H : ((fx_in32 u0)) ∧ (u0 ≠ 0 → wc kc d 227 [jR 133, jI 46] M (fun v M1 => wp kc (d + 1) 247 216 [some (jR 133), none, some (jI v2), some (jI v3), some (jI (M 133 8))] (v.toList ++ []) M1 Q)) ∧ (u0 = 0 → Q (some (jI 0)) M)) : wp kc (d + 1) 247 199 [some (jR 133), none, some (jI v2), some (jI v3), none] [jI u0] M Q :=
  (x_zne c247_199 H.1 (fun h1 => (x_aldn c247_204 rfl (x_gfi c247_205 k_133_8 (x_ist (l' := [some (jR 133), none, some (jI v2), some (jI v3), some (jI (M 133 8))]) c247_208 rfl (x_aldn c247_210 rfl (x_ci c247_211 (wp_wk (l' := [some (jR 133), none, some (jI v2), some (jI v3), some (jI (M 133 8))]) ⟨rfl, ⟨rfl, ⟨rfl, ⟨rfl, trivial⟩⟩⟩⟩ (x_cv (As := [jI 46]) (st := []) c247_213 cl_133 kl227 rfl (Nat.le_of_ble_eq_true rfl) mx227 (Nat.le_refl _) (H.2.1 h1))))))))) (fun h2 => (x_ci c247_202 (x_zrt c247_203 r247 (by decide) (H.2.2 h2)))))
theorem s247_216 {kc : List va_E} {d : Nat} {v2 v3 v4 u0 : Int} {M : fx_M} {Q : Option fx_V → fx_M → Prop} (H : ((fx_in32 u0)) ∧ (u0 = 0 → Q (some (jI 0)) M) ∧ (u0 ≠ 0 → wc kc d 232 [jR 133] M (fun v M1 => wp kc (d + 1) 247 223 [some (jR 133), none, some (jI v2), some (jI v3), some (jI v4)] (v.toList ++ []) M1 Q))) : wp kc (d + 1) 247 216 [some (jR 133), none, some (jI v2), some (jI v3), some (jI v4)] [jI u0] M Q :=
  (x_zeq c247_216 H.1 (fun h1 => (x_ci c247_226 (x_zrt c247_227 r247 (by decide) (H.2.1 h1)))) (fun h2 => (x_aldn c247_219 rfl (wp_wk (l' := [some (jR 133), none, some (jI v2), some (jI v3), some (jI v4)]) ⟨rfl, ⟨rfl, ⟨rfl, ⟨rfl, trivial⟩⟩⟩⟩ (x_cv (As := []) (st := []) c247_220 cl_133 kl232 rfl (Nat.le_of_ble_eq_true rfl) mx232 (Nat.le_refl _) (H.2.2 h2))))))
theorem s247_223 {kc : List va_E} {d : Nat} {v2 v3 v4 u0 : Int} {M : fx_M} {Q : Option fx_V → fx_M → Prop} (H : ((fx_in32 u0)) ∧ (u0 ≠ 0 → wc kc d 248 [jR 133] M (fun v M1 => wp kc (d + 1) 247 239 [some (jR 133), none, some (jI v2), some (jI v3), some (jI v4)] (v.toList ++ [jI v4, jI v2, jR 142]) M1 Q)) ∧ (u0 = 0 → Q (some (jI 0)) M)) : wp kc (d + 1) 247 223 [some (jR 133), none, some (jI v2), some (jI v3), some (jI v4)] [jI u0] M Q :=
  (x_zne c247_223 H.1 (fun h1 => (x_aldn c247_228 rfl (x_gfr c247_229 k_133_29 (x_ildn c247_232 rfl (x_ild c247_233 rfl (x_aldn c247_235 rfl (wp_wk (l' := [some (jR 133), none, some (jI v2), some (jI v3), some (jI v4)]) ⟨rfl, ⟨rfl, ⟨rfl, ⟨rfl, trivial⟩⟩⟩⟩ (x_cv (As := []) (st := [jI v4, jI v2, jR 142]) c247_236 cl_133 kl248 rfl (Nat.le_of_ble_eq_true rfl) mx248 (Nat.le_refl _) (H.2.1 h1))))))))) (fun h2 => (x_ci c247_226 (x_zrt c247_227 r247 (by decide) (H.2.2 h2)))))
theorem s247_239 {kc : List va_E} {d : Nat} {v2 v3 v4 u0 u1 u2 : Int} {M : fx_M} {Q : Option fx_V → fx_M → Prop} (H : ((fx_in32 u1)) ∧ ((fx_in32 u0)) ∧ (u1 < u0 → (fx_in32 (M 133 8))) ∧ (u1 < u0 → (fx_in32 (M 148 0))) ∧ (u1 < u0 → M 133 8 < M 148 0 → (fx_in32 v3)) ∧ (((0 : Int) ≤ u2 ∧ u2 < 1300)) ∧ wp kc (d + 1) 247 143 [some (jR 133), none, some (jI (v2 + 1)), none, none] [] (fx_up M 142 u2 (if u1 < u0 then ((if M 133 8 < M 148 0 then ((if v3 = 0 then ((0 + (2 * (M 133 8))) + (8 * v4) : Int) else (1 + (2 * (M 133 8))) + (8 * v4)) : Int) else (-1)) : Int) else (-1))) Q) : wp kc (d + 1) 247 239 [some (jR 133), none, some (jI v2), some (jI v3), some (jI v4)] [jI u0, jI u1, jI u2, jR 142] M Q :=
  (have K : wp kc (d + 1) 247 281 [some (jR 133), none, some (jI v2), none, none] [jI (if u1 < u0 then ((if M 133 8 < M 148 0 then ((if v3 = 0 then ((0 + (2 * (M 133 8))) + (8 * v4) : Int) else (1 + (2 * (M 133 8))) + (8 * v4)) : Int) else (-1)) : Int) else (-1)), jI u2, jR 142] M Q := (x_iast c247_281 a_142 H.2.2.2.2.2.1 (by decide) (x_inc (l' := [some (jR 133), none, some (jI (v2 + 1)), none, none]) c247_282 rfl rfl (x_goto c247_285 (wp_wk (l' := [some (jR 133), none, some (jI (v2 + 1)), none, none]) ⟨rfl, ⟨rfl, trivial⟩⟩ H.2.2.2.2.2.2)))); (x_cge c247_239 H.1 H.2.1 (fun (h1 : u0 ≤ u1) => (x_ci c247_280 (wp_wk (l' := [some (jR 133), none, some (jI v2), none, none]) ⟨rfl, ⟨rfl, trivial⟩⟩ (by have K := K; first | (simp only [if_neg (Int.not_lt.mpr h1)] at K ⊢; exact K) | (exfalso; omega))))) (fun (h2 : u1 < u0) => (x_aldn c247_242 rfl (x_gfi c247_243 k_133_8 (x_aldn c247_246 rfl (x_gfr c247_247 k_133_39 (x_ci c247_250 (x_iald c247_251 a_148 (by decide) (by decide) (x_cge c247_252 (H.2.2.1 h2) (H.2.2.2.1 h2) (fun (h3 : M 148 0 ≤ M 133 8) => (x_ci c247_280 (wp_wk (l' := [some (jR 133), none, some (jI v2), none, none]) ⟨rfl, ⟨rfl, trivial⟩⟩ (by have K := K; first | (simp only [if_pos h2, if_neg (Int.not_lt.mpr h3)] at K ⊢; exact K) | (exfalso; omega))))) (fun (h4 : M 133 8 < M 148 0) => (x_ildn c247_255 rfl (x_zeq c247_256 (H.2.2.2.2.1 h2 h4) (fun (h5 : v3 = 0) => (x_ci c247_263 (x_ci c247_264 (x_aldn c247_265 rfl (x_gfi c247_266 k_133_8 (x_imul c247_269 (x_iadd c247_270 (x_ci c247_271 (x_ild c247_273 rfl (x_imul c247_275 (x_iadd c247_276 (x_goto c247_277 (wp_wk (l' := [some (jR 133), none, some (jI v2), none, none]) ⟨rfl, ⟨rfl, trivial⟩⟩ (by have K := K; first | (simp only [if_pos h2, if_pos h4, if_pos h5] at K ⊢; exact K) | (exfalso; omega))))))))))))))) (fun (h6 : v3 ≠ 0) => (x_ci c247_259 (x_goto c247_260 (x_ci c247_264 (x_aldn c247_265 rfl (x_gfi c247_266 k_133_8 (x_imul c247_269 (x_iadd c247_270 (x_ci c247_271 (x_ild c247_273 rfl (x_imul c247_275 (x_iadd c247_276 (x_goto c247_277 (wp_wk (l' := [some (jR 133), none, some (jI v2), none, none]) ⟨rfl, ⟨rfl, trivial⟩⟩ (by have K := K; first | (simp only [if_pos h2, if_pos h4, if_neg h6] at K ⊢; exact K) | (exfalso; omega)))))))))))))))))))))))))))))
theorem s247_314 {kc : List va_E} {d : Nat} {u0 : Int} {M : fx_M} {Q : Option fx_V → fx_M → Prop} (H : ((0 : Int) ≤ u0 ∧ u0 ≤ 1) ∧ Q (some (jI u0)) M) : wp kc (d + 1) 247 314 [none, none, none, none, none] [jI u0] M Q :=
  (x_zrt c247_314 r247 H.1 H.2)
theorem s247 {kc : List va_E} {d : Nat} {M : fx_M} {Q : Option fx_V → fx_M → Prop} (H : wc kc d 228 [jR 133] M (fun v M1 => wp kc (d + 1) 247 4 [some (jR 133), none, none, none, none] (v.toList ++ []) M1 Q)) : wc kc (d + 1) 247 [jR 133] M Q :=
  wc_of (wp_wk (l' := [some (jR 133), none, none, none, none]) ⟨rfl, trivial⟩ (s247_0 H))

theorem c248_0 : fx_op 248 0 = some (.aload_n 0, 1, 0) := by decide +kernel
theorem c248_1 : fx_gf 248 1 = some (12, 37, 4) := by decide +kernel
theorem c248_4 : fx_ci 248 4 = some (0, 5) := by decide +kernel
theorem c248_5 : fx_op 248 5 = some (.iaload, 6, 5) := by decide +kernel
theorem c248_6 : fx_op 248 6 = some (.aload_n 0, 7, 6) := by decide +kernel
theorem c248_7 : fx_gf 248 7 = some (12, 38, 10) := by decide +kernel
theorem c248_10 : fx_ci 248 10 = some (0, 11) := by decide +kernel
theorem c248_11 : fx_op 248 11 = some (.iaload, 12, 11) := by decide +kernel
theorem c248_12 : fx_op 248 12 = some (.imul, 13, 12) := by decide +kernel
theorem c248_13 : fx_op 248 13 = some (.ireturn, 14, 13) := by decide +kernel
theorem s248_0 {kc : List va_E} {d : Nat} {M : fx_M} {Q : Option fx_V → fx_M → Prop} (H : Q (some (jI ((M 146 0) * (M 147 0)))) M) : wp kc (d + 1) 248 0 [some (jR 133)] [] M Q :=
  (x_aldn c248_0 rfl (x_gfr c248_1 k_133_37 (x_ci c248_4 (x_iald c248_5 a_146 (by decide) (by decide) (x_aldn c248_6 rfl (x_gfr c248_7 k_133_38 (x_ci c248_10 (x_iald c248_11 a_147 (by decide) (by decide) (x_imul c248_12 (x_irt c248_13 r248 H))))))))))
theorem s248 {kc : List va_E} {d : Nat} {M : fx_M} {Q : Option fx_V → fx_M → Prop} (H : Q (some (jI ((M 146 0) * (M 147 0)))) M) : wc kc (d + 1) 248 [jR 133] M Q :=
  wc_of (wp_wk (l' := [some (jR 133)]) ⟨rfl, trivial⟩ (s248_0 H))

theorem c252_0 : fx_op 252 0 = some (.aload_n 0, 1, 0) := by decide +kernel
theorem c252_1 : fx_op 252 1 = some (.lload_n 1, 2, 1) := by decide +kernel
theorem c252_2 : fx_ca 252 2 = some (253, 2, 2, 5) := by decide +kernel
theorem c252_5 : fx_op 252 5 = some (.aload_n 0, 6, 5) := by decide +kernel
theorem c252_6 : fx_op 252 6 = some (.iload_n 3, 7, 6) := by decide +kernel
theorem c252_7 : fx_ca 252 7 = some (255, 2, 2, 10) := by decide +kernel
theorem c252_10 : fx_op 252 10 = some (.return_, 11, 10) := by decide +kernel
theorem s252_0 {kc : List va_E} {d : Nat} {x1 x3 : Int} {M : fx_M} {Q : Option fx_V → fx_M → Prop} (H : wc kc d 253 [jR 133, jL x1] M (fun v M1 => wp kc (d + 1) 252 5 [some (jR 133), none, none, some (jI x3)] (v.toList ++ []) M1 Q)) : wp kc (d + 1) 252 0 [some (jR 133), some (jL x1), none, some (jI x3)] [] M Q :=
  (x_aldn c252_0 rfl (x_lldn c252_1 rfl (wp_wk (l' := [some (jR 133), none, none, some (jI x3)]) ⟨rfl, ⟨rfl, trivial⟩⟩ (x_cv (As := [jL x1]) (st := []) c252_2 cl_133 kl253 rfl (Nat.le_of_ble_eq_true rfl) mx253 (Nat.le_refl _) H))))
theorem s252_5 {kc : List va_E} {d : Nat} {v3 : Int} {M : fx_M} {Q : Option fx_V → fx_M → Prop} (H : wc kc d 255 [jR 133, jI v3] M (fun v M1 => wp kc (d + 1) 252 10 [none, none, none, none] (v.toList ++ []) M1 Q)) : wp kc (d + 1) 252 5 [some (jR 133), none, none, some (jI v3)] [] M Q :=
  (x_aldn c252_5 rfl (x_ildn c252_6 rfl (wp_wk (l' := [none, none, none, none]) trivial (x_cv (As := [jI v3]) (st := []) c252_7 cl_133 kl255 rfl (Nat.le_of_ble_eq_true rfl) mx255 (Nat.le_refl _) H))))
theorem s252_10 {kc : List va_E} {d : Nat} {M : fx_M} {Q : Option fx_V → fx_M → Prop} (H : Q none M) : wp kc (d + 1) 252 10 [none, none, none, none] [] M Q :=
  (x_vr c252_10 r252 H)
theorem s252 {kc : List va_E} {d : Nat} {x1 x3 : Int} {M : fx_M} {Q : Option fx_V → fx_M → Prop} (H : wc kc d 253 [jR 133, jL x1] M (fun v M1 => wp kc (d + 1) 252 5 [some (jR 133), none, none, some (jI x3)] (v.toList ++ []) M1 Q)) : wc kc (d + 1) 252 [jR 133, jL x1, jI x3] M Q :=
  wc_of (wp_wk (l' := [some (jR 133), some (jL x1), none, some (jI x3)]) ⟨rfl, ⟨rfl, ⟨rfl, trivial⟩⟩⟩ (s252_0 H))

theorem c253_0 : fx_ci 253 0 = some (0, 1) := by decide +kernel
theorem c253_1 : fx_op 253 1 = some (.istore_n 3, 2, 1) := by decide +kernel
theorem c253_2 : fx_op 253 2 = some (.iload_n 3, 3, 2) := by decide +kernel
theorem c253_3 : fx_op 253 3 = some (.lload_n 1, 4, 3) := by decide +kernel
theorem c253_4 : fx_ca 253 4 = some (223, 1, 0, 7) := by decide +kernel
theorem c253_7 : fx_op 253 7 = some (.if_icmp .ge 18, 10, 25) := by decide +kernel
theorem c253_10 : fx_op 253 10 = some (.aload_n 0, 11, 10) := by decide +kernel
theorem c253_11 : fx_op 253 11 = some (.lload_n 1, 12, 11) := by decide +kernel
theorem c253_12 : fx_op 253 12 = some (.iload_n 3, 13, 12) := by decide +kernel
theorem c253_25 : fx_op 253 25 = some (.return_, 26, 25) := by decide +kernel
theorem c253_13 : fx_ca 253 13 = some (224, 2, 0, 16) := by decide +kernel
theorem c253_16 : fx_ca 253 16 = some (254, 2, 2, 19) := by decide +kernel
theorem c253_19 : fx_op 253 19 = some (.iinc 3 1, 22, 19) := by decide +kernel
theorem c253_22 : fx_op 253 22 = some (.goto (-20), 25, 2) := by decide +kernel
theorem s253_0 {kc : List va_E} {d : Nat} {x1 : Int} {M : fx_M} {Q : Option fx_V → fx_M → Prop} (H : wp kc (d + 1) 253 2 [some (jR 133), some (jL x1), none, some (jI 0)] [] M Q) : wp kc (d + 1) 253 0 [some (jR 133), some (jL x1), none, none] [] M Q :=
  (x_ci c253_0 (x_istn (l' := [some (jR 133), some (jL x1), none, some (jI 0)]) c253_1 rfl (wp_wk (l' := [some (jR 133), some (jL x1), none, some (jI 0)]) ⟨rfl, ⟨rfl, ⟨rfl, trivial⟩⟩⟩ H)))
theorem s253_2 {kc : List va_E} {d : Nat} {v1 v3 : Int} {M : fx_M} {Q : Option fx_V → fx_M → Prop} (H : wc kc d 223 [jL v1] M (fun v M1 => wp kc (d + 1) 253 7 [some (jR 133), some (jL v1), none, some (jI v3)] (v.toList ++ [jI v3]) M1 Q)) : wp kc (d + 1) 253 2 [some (jR 133), some (jL v1), none, some (jI v3)] [] M Q :=
  (x_ildn c253_2 rfl (x_lldn c253_3 rfl (wp_wk (l' := [some (jR 133), some (jL v1), none, some (jI v3)]) ⟨rfl, ⟨rfl, ⟨rfl, trivial⟩⟩⟩ (x_cs (As := [jL v1]) (st := [jI v3]) c253_4 (by decide) rfl (Nat.le_of_ble_eq_true rfl) mx223 (Nat.le_refl _) H))))
theorem s253_7 {kc : List va_E} {d : Nat} {v1 v3 u0 u1 : Int} {M : fx_M} {Q : Option fx_V → fx_M → Prop} (H : ((fx_in32 u1) ∧ (fx_in32 u0)) ∧ (u0 ≤ u1 → Q none M) ∧ (u1 < u0 → wc kc d 224 [jL v1, jI v3] M (fun v M1 => wp kc (d + 1) 253 16 [some (jR 133), some (jL v1), none, some (jI v3)] (v.toList ++ [jR 133]) M1 Q))) : wp kc (d + 1) 253 7 [some (jR 133), some (jL v1), none, some (jI v3)] [jI u0, jI u1] M Q :=
  (x_cge c253_7 H.1.1 H.1.2 (fun h1 => (x_vr c253_25 r253 (H.2.1 h1))) (fun h2 => (x_aldn c253_10 rfl (x_lldn c253_11 rfl (x_ildn c253_12 rfl (wp_wk (l' := [some (jR 133), some (jL v1), none, some (jI v3)]) ⟨rfl, ⟨rfl, ⟨rfl, trivial⟩⟩⟩ (x_cs (As := [jL v1, jI v3]) (st := [jR 133]) c253_13 (by decide) rfl (Nat.le_of_ble_eq_true rfl) mx224 (Nat.le_refl _) (H.2.2 h2))))))))
theorem s253_16 {kc : List va_E} {d : Nat} {v1 v3 u0 : Int} {M : fx_M} {Q : Option fx_V → fx_M → Prop} (H : wc kc d 254 [jR 133, jI u0] M (fun v M1 => wp kc (d + 1) 253 19 [some (jR 133), some (jL v1), none, some (jI v3)] (v.toList ++ []) M1 Q)) : wp kc (d + 1) 253 16 [some (jR 133), some (jL v1), none, some (jI v3)] [jI u0, jR 133] M Q :=
  (wp_wk (l' := [some (jR 133), some (jL v1), none, some (jI v3)]) ⟨rfl, ⟨rfl, ⟨rfl, trivial⟩⟩⟩ (x_cv (As := [jI u0]) (st := []) c253_16 cl_133 kl254 rfl (Nat.le_of_ble_eq_true rfl) mx254 (Nat.le_refl _) H))
theorem s253_19 {kc : List va_E} {d : Nat} {v1 v3 : Int} {M : fx_M} {Q : Option fx_V → fx_M → Prop} (H : wp kc (d + 1) 253 2 [some (jR 133), some (jL v1), none, some (jI (v3 + 1))] [] M Q) : wp kc (d + 1) 253 19 [some (jR 133), some (jL v1), none, some (jI v3)] [] M Q :=
  (x_inc (l' := [some (jR 133), some (jL v1), none, some (jI (v3 + 1))]) c253_19 rfl rfl (x_goto c253_22 (wp_wk (l' := [some (jR 133), some (jL v1), none, some (jI (v3 + 1))]) ⟨rfl, ⟨rfl, ⟨rfl, trivial⟩⟩⟩ H)))
theorem s253 {kc : List va_E} {d : Nat} {x1 : Int} {M : fx_M} {Q : Option fx_V → fx_M → Prop} (H : wp kc (d + 1) 253 2 [some (jR 133), some (jL x1), none, some (jI 0)] [] M Q) : wc kc (d + 1) 253 [jR 133, jL x1] M Q :=
  wc_of (wp_wk (l' := [some (jR 133), some (jL x1), none, none]) ⟨rfl, ⟨rfl, trivial⟩⟩ (s253_0 H))

theorem c254_0 : fx_op 254 0 = some (.aload_n 0, 1, 0) := by decide +kernel
theorem c254_1 : fx_gf 254 1 = some (12, 5, 4) := by decide +kernel
theorem c254_4 : fx_ci 254 4 = some (6000, 7) := by decide +kernel
theorem c254_7 : fx_op 254 7 = some (.if_icmp .ne 4, 10, 11) := by decide +kernel
theorem c254_11 : fx_op 254 11 = some (.aload_n 0, 12, 11) := by decide +kernel
theorem c254_12 : fx_gf 254 12 = some (12, 6, 15) := by decide +kernel
theorem c254_15 : fx_op 254 15 = some (.aload_n 0, 16, 15) := by decide +kernel
theorem c254_16 : fx_gf 254 16 = some (12, 5, 19) := by decide +kernel
theorem c254_19 : fx_op 254 19 = some (.iload_n 1, 20, 19) := by decide +kernel
theorem c254_21 : fx_op 254 21 = some (.aload_n 0, 22, 21) := by decide +kernel
theorem c254_22 : fx_op 254 22 = some (.dup, 23, 22) := by decide +kernel
theorem c254_23 : fx_gf 254 23 = some (12, 5, 26) := by decide +kernel
theorem c254_26 : fx_ci 254 26 = some (1, 27) := by decide +kernel
theorem c254_27 : fx_op 254 27 = some (.iadd, 28, 27) := by decide +kernel
theorem c254_28 : fx_pf 254 28 = some (12, 5, 0, 31) := by decide +kernel
theorem c254_20 : fx_op 254 20 = some (.iastore, 21, 20) := by decide +kernel
theorem c254_31 : fx_op 254 31 = some (.return_, 32, 31) := by decide +kernel
theorem c254_10 : fx_op 254 10 = some (.return_, 11, 10) := by decide +kernel
theorem s254_0 {kc : List va_E} {d : Nat} {x1 : Int} {M : fx_M} {Q : Option fx_V → fx_M → Prop} (H : ((fx_in32 (M 133 5))) ∧ (M 133 5 ≠ 6000 → (((0 : Int) ≤ M 133 5 ∧ M 133 5 < 6000)) ∧ Q none (fx_up (fx_up M 136 (M 133 5) x1) 133 5 ((M 133 5) + 1))) ∧ (M 133 5 = 6000 → Q none M)) : wp kc (d + 1) 254 0 [some (jR 133), some (jI x1)] [] M Q :=
  (x_aldn c254_0 rfl (x_gfi c254_1 k_133_5 (x_ci c254_4 (x_cne c254_7 H.1 (by decide) (fun h1 => (x_aldn c254_11 rfl (x_gfr c254_12 k_133_6 (x_aldn c254_15 rfl (x_gfi c254_16 k_133_5 (x_ildn c254_19 rfl (x_iast c254_20 a_136 (H.2.1 h1).1 (by decide) (x_aldn c254_21 rfl (x_dupr c254_22 (x_gfi c254_23 k_133_5 (wp_vI (fx_upA (by decide)) (x_ci c254_26 (x_iadd c254_27 (x_pfi c254_28 k_133_5 (x_vr c254_31 r254 (H.2.1 h1).2))))))))))))))) (fun h2 => (x_vr c254_10 r254 (H.2.2 h2)))))))
theorem s254 {kc : List va_E} {d : Nat} {x1 : Int} {M : fx_M} {Q : Option fx_V → fx_M → Prop} (H : ((fx_in32 (M 133 5))) ∧ (M 133 5 ≠ 6000 → (((0 : Int) ≤ M 133 5 ∧ M 133 5 < 6000)) ∧ Q none (fx_up (fx_up M 136 (M 133 5) x1) 133 5 ((M 133 5) + 1))) ∧ (M 133 5 = 6000 → Q none M)) : wc kc (d + 1) 254 [jR 133, jI x1] M Q :=
  wc_of (wp_wk (l' := [some (jR 133), some (jI x1)]) ⟨rfl, ⟨rfl, trivial⟩⟩ (s254_0 H))

theorem c255_0 : fx_op 255 0 = some (.aload_n 0, 1, 0) := by decide +kernel
theorem c255_1 : fx_ci 255 1 = some (32, 3) := by decide +kernel
theorem c255_3 : fx_ca 255 3 = some (254, 2, 2, 6) := by decide +kernel
theorem c255_6 : fx_op 255 6 = some (.aload_n 0, 7, 6) := by decide +kernel
theorem c255_7 : fx_op 255 7 = some (.iload_n 1, 8, 7) := by decide +kernel
theorem c255_8 : fx_ca 255 8 = some (256, 2, 2, 11) := by decide +kernel
theorem c255_11 : fx_op 255 11 = some (.return_, 12, 11) := by decide +kernel
theorem s255_0 {kc : List va_E} {d : Nat} {x1 : Int} {M : fx_M} {Q : Option fx_V → fx_M → Prop} (H : wc kc d 254 [jR 133, jI 32] M (fun v M1 => wp kc (d + 1) 255 6 [some (jR 133), some (jI x1)] (v.toList ++ []) M1 Q)) : wp kc (d + 1) 255 0 [some (jR 133), some (jI x1)] [] M Q :=
  (x_aldn c255_0 rfl (x_ci c255_1 (wp_wk (l' := [some (jR 133), some (jI x1)]) ⟨rfl, ⟨rfl, trivial⟩⟩ (x_cv (As := [jI 32]) (st := []) c255_3 cl_133 kl254 rfl (Nat.le_of_ble_eq_true rfl) mx254 (Nat.le_refl _) H))))
theorem s255_6 {kc : List va_E} {d : Nat} {v1 : Int} {M : fx_M} {Q : Option fx_V → fx_M → Prop} (H : wc kc d 256 [jR 133, jI v1] M (fun v M1 => wp kc (d + 1) 255 11 [none, none] (v.toList ++ []) M1 Q)) : wp kc (d + 1) 255 6 [some (jR 133), some (jI v1)] [] M Q :=
  (x_aldn c255_6 rfl (x_ildn c255_7 rfl (wp_wk (l' := [none, none]) trivial (x_cv (As := [jI v1]) (st := []) c255_8 cl_133 kl256 rfl (Nat.le_of_ble_eq_true rfl) mx256 (Nat.le_refl _) H))))
theorem s255_11 {kc : List va_E} {d : Nat} {M : fx_M} {Q : Option fx_V → fx_M → Prop} (H : Q none M) : wp kc (d + 1) 255 11 [none, none] [] M Q :=
  (x_vr c255_11 r255 H)
theorem s255 {kc : List va_E} {d : Nat} {x1 : Int} {M : fx_M} {Q : Option fx_V → fx_M → Prop} (H : wc kc d 254 [jR 133, jI 32] M (fun v M1 => wp kc (d + 1) 255 6 [some (jR 133), some (jI x1)] (v.toList ++ []) M1 Q)) : wc kc (d + 1) 255 [jR 133, jI x1] M Q :=
  wc_of (wp_wk (l' := [some (jR 133), some (jI x1)]) ⟨rfl, ⟨rfl, trivial⟩⟩ (s255_0 H))

theorem c256_0 : fx_ci 256 0 = some (1, 1) := by decide +kernel
theorem c256_1 : fx_op 256 1 = some (.istore_n 2, 2, 1) := by decide +kernel
theorem c256_2 : fx_op 256 2 = some (.iload_n 1, 3, 2) := by decide +kernel
theorem c256_3 : fx_op 256 3 = some (.iload_n 2, 4, 3) := by decide +kernel
theorem c256_5 : fx_ci 256 5 = some (9, 7) := by decide +kernel
theorem c256_7 : fx_op 256 7 = some (.if_icmp .le 11, 10, 18) := by decide +kernel
theorem c256_10 : fx_op 256 10 = some (.iload_n 2, 11, 10) := by decide +kernel
theorem c256_11 : fx_ci 256 11 = some (10, 13) := by decide +kernel
theorem c256_13 : fx_op 256 13 = some (.imul, 14, 13) := by decide +kernel
theorem c256_14 : fx_op 256 14 = some (.istore_n 2, 15, 14) := by decide +kernel
theorem c256_4 : fx_op 256 4 = some (.idiv, 5, 4) := by decide +kernel
theorem c256_15 : fx_op 256 15 = some (.goto (-13), 18, 2) := by decide +kernel
theorem c256_18 : fx_op 256 18 = some (.iload_n 2, 19, 18) := by decide +kernel
theorem c256_19 : fx_op 256 19 = some (.ifCond .le 24, 22, 43) := by decide +kernel
theorem c256_22 : fx_op 256 22 = some (.aload_n 0, 23, 22) := by decide +kernel
theorem c256_23 : fx_ci 256 23 = some (48, 25) := by decide +kernel
theorem c256_25 : fx_op 256 25 = some (.iload_n 1, 26, 25) := by decide +kernel
theorem c256_26 : fx_op 256 26 = some (.iload_n 2, 27, 26) := by decide +kernel
theorem c256_27 : fx_op 256 27 = some (.idiv, 28, 27) := by decide +kernel
theorem c256_28 : fx_ci 256 28 = some (10, 30) := by decide +kernel
theorem c256_30 : fx_op 256 30 = some (.irem, 31, 30) := by decide +kernel
theorem c256_31 : fx_op 256 31 = some (.iadd, 32, 31) := by decide +kernel
theorem c256_43 : fx_op 256 43 = some (.return_, 44, 43) := by decide +kernel
theorem c256_32 : fx_ca 256 32 = some (254, 2, 2, 35) := by decide +kernel
theorem c256_35 : fx_op 256 35 = some (.iload_n 2, 36, 35) := by decide +kernel
theorem c256_36 : fx_ci 256 36 = some (10, 38) := by decide +kernel
theorem c256_39 : fx_op 256 39 = some (.istore_n 2, 40, 39) := by decide +kernel
theorem c256_38 : fx_op 256 38 = some (.idiv, 39, 38) := by decide +kernel
theorem c256_40 : fx_op 256 40 = some (.goto (-22), 43, 18) := by decide +kernel
theorem s256_0 {kc : List va_E} {d : Nat} {x1 : Int} {M : fx_M} {Q : Option fx_V → fx_M → Prop} (H : wp kc (d + 1) 256 2 [some (jR 133), some (jI x1), some (jI 1)] [] M Q) : wp kc (d + 1) 256 0 [some (jR 133), some (jI x1), none] [] M Q :=
  (x_ci c256_0 (x_istn (l' := [some (jR 133), some (jI x1), some (jI 1)]) c256_1 rfl (wp_wk (l' := [some (jR 133), some (jI x1), some (jI 1)]) ⟨rfl, ⟨rfl, ⟨rfl, trivial⟩⟩⟩ H)))
theorem s256_2 {kc : List va_E} {d : Nat} {v1 v2 : Int} {M : fx_M} {Q : Option fx_V → fx_M → Prop} (H : (((0 : Int) ≤ v1 ∧ v1 ≤ 2147483647) ∧ ((0 : Int) < v2 ∧ v2 ≤ 2147483647)) ∧ ((fx_in32 (v1 / v2))) ∧ (v1 / v2 ≤ 9 → wp kc (d + 1) 256 18 [some (jR 133), some (jI v1), some (jI v2)] [] M Q) ∧ (9 < v1 / v2 → wp kc (d + 1) 256 2 [some (jR 133), some (jI v1), some (jI (v2 * 10))] [] M Q)) : wp kc (d + 1) 256 2 [some (jR 133), some (jI v1), some (jI v2)] [] M Q :=
  (x_ildn c256_2 rfl (x_ildn c256_3 rfl (x_idiv c256_4 H.1.1 H.1.2 (x_ci c256_5 (x_cle c256_7 H.2.1 (by decide) (fun h1 => (wp_wk (l' := [some (jR 133), some (jI v1), some (jI v2)]) ⟨rfl, ⟨rfl, ⟨rfl, trivial⟩⟩⟩ (H.2.2.1 h1))) (fun h2 => (x_ildn c256_10 rfl (x_ci c256_11 (x_imul c256_13 (x_istn (l' := [some (jR 133), some (jI v1), some (jI (v2 * 10))]) c256_14 rfl (x_goto c256_15 (wp_wk (l' := [some (jR 133), some (jI v1), some (jI (v2 * 10))]) ⟨rfl, ⟨rfl, ⟨rfl, trivial⟩⟩⟩ (H.2.2.2 h2)))))))))))))
theorem s256_18 {kc : List va_E} {d : Nat} {v1 v2 : Int} {M : fx_M} {Q : Option fx_V → fx_M → Prop} (H : ((fx_in32 v2)) ∧ (v2 ≤ 0 → Q none M) ∧ (0 < v2 → (((0 : Int) ≤ v1 ∧ v1 ≤ 2147483647) ∧ ((0 : Int) < v2 ∧ v2 ≤ 2147483647)) ∧ (((0 : Int) ≤ v1 / v2 ∧ v1 / v2 ≤ 2147483647)) ∧ wc kc d 254 [jR 133, jI (48 + ((v1 / v2) % 10))] M (fun v M1 => wp kc (d + 1) 256 35 [some (jR 133), some (jI v1), some (jI v2)] (v.toList ++ []) M1 Q))) : wp kc (d + 1) 256 18 [some (jR 133), some (jI v1), some (jI v2)] [] M Q :=
  (x_ildn c256_18 rfl (x_zle c256_19 H.1 (fun h1 => (x_vr c256_43 r256 (H.2.1 h1))) (fun h2 => (x_aldn c256_22 rfl (x_ci c256_23 (x_ildn c256_25 rfl (x_ildn c256_26 rfl (x_idiv c256_27 (H.2.2 h2).1.1 (H.2.2 h2).1.2 (x_ci c256_28 (x_irem c256_30 (H.2.2 h2).2.1 (by decide) (x_iadd c256_31 (wp_wk (l' := [some (jR 133), some (jI v1), some (jI v2)]) ⟨rfl, ⟨rfl, ⟨rfl, trivial⟩⟩⟩ (x_cv (As := [jI (48 + ((v1 / v2) % 10))]) (st := []) c256_32 cl_133 kl254 rfl (Nat.le_of_ble_eq_true rfl) mx254 (Nat.le_refl _) (H.2.2 h2).2.2)))))))))))))
theorem s256_35 {kc : List va_E} {d : Nat} {v1 v2 : Int} {M : fx_M} {Q : Option fx_V → fx_M → Prop} (H : (((0 : Int) ≤ v2 ∧ v2 ≤ 2147483647)) ∧ wp kc (d + 1) 256 18 [some (jR 133), some (jI v1), some (jI (v2 / 10))] [] M Q) : wp kc (d + 1) 256 35 [some (jR 133), some (jI v1), some (jI v2)] [] M Q :=
  (x_ildn c256_35 rfl (x_ci c256_36 (x_idiv c256_38 H.1 (by decide) (x_istn (l' := [some (jR 133), some (jI v1), some (jI (v2 / 10))]) c256_39 rfl (x_goto c256_40 (wp_wk (l' := [some (jR 133), some (jI v1), some (jI (v2 / 10))]) ⟨rfl, ⟨rfl, ⟨rfl, trivial⟩⟩⟩ H.2))))))
theorem s256 {kc : List va_E} {d : Nat} {x1 : Int} {M : fx_M} {Q : Option fx_V → fx_M → Prop} (H : wp kc (d + 1) 256 2 [some (jR 133), some (jI x1), some (jI 1)] [] M Q) : wc kc (d + 1) 256 [jR 133, jI x1] M Q :=
  wc_of (wp_wk (l' := [some (jR 133), some (jI x1), none]) ⟨rfl, ⟨rfl, trivial⟩⟩ (s256_0 H))

theorem c271_0 : fx_op 271 0 = some (.aload_n 0, 1, 0) := by decide +kernel
theorem c271_1 : fx_gf 271 1 = some (12, 45, 4) := by decide +kernel
theorem c271_4 : fx_op 271 4 = some (.iload_n 1, 5, 4) := by decide +kernel
theorem c271_5 : fx_op 271 5 = some (.iaload, 6, 5) := by decide +kernel
theorem c271_6 : fx_op 271 6 = some (.ireturn, 7, 6) := by decide +kernel
theorem s271_0 {kc : List va_E} {d : Nat} {x1 : Int} {M : fx_M} {Q : Option fx_V → fx_M → Prop} (H : (((0 : Int) ≤ x1 ∧ x1 < 90)) ∧ Q (some (jI (M 154 x1))) M) : wp kc (d + 1) 271 0 [some (jR 133), some (jI x1)] [] M Q :=
  (x_aldn c271_0 rfl (x_gfr c271_1 k_133_45 (x_ildn c271_4 rfl (x_iald c271_5 a_154 H.1 (by decide) (x_irt c271_6 r271 H.2)))))
theorem s271 {kc : List va_E} {d : Nat} {x1 : Int} {M : fx_M} {Q : Option fx_V → fx_M → Prop} (H : (((0 : Int) ≤ x1 ∧ x1 < 90)) ∧ Q (some (jI (M 154 x1))) M) : wc kc (d + 1) 271 [jR 133, jI x1] M Q :=
  wc_of (wp_wk (l' := [some (jR 133), some (jI x1)]) ⟨rfl, ⟨rfl, trivial⟩⟩ (s271_0 H))

theorem c280_0 : fx_ci 280 0 = some (0, 1) := by decide +kernel
theorem c280_1 : fx_op 280 1 = some (.istore_n 1, 2, 1) := by decide +kernel
theorem c280_2 : fx_ci 280 2 = some (0, 3) := by decide +kernel
theorem c280_3 : fx_op 280 3 = some (.istore_n 2, 4, 3) := by decide +kernel
theorem c280_4 : fx_op 280 4 = some (.iload_n 2, 5, 4) := by decide +kernel
theorem c280_5 : fx_op 280 5 = some (.aload_n 0, 6, 5) := by decide +kernel
theorem c280_6 : fx_ca 280 6 = some (248, 1, 2, 9) := by decide +kernel
theorem c280_9 : fx_op 280 9 = some (.if_icmp .ge 25, 12, 34) := by decide +kernel
theorem c280_12 : fx_op 280 12 = some (.iload_n 1, 13, 12) := by decide +kernel
theorem c280_13 : fx_op 280 13 = some (.aload_n 0, 14, 13) := by decide +kernel
theorem c280_14 : fx_op 280 14 = some (.iload_n 2, 15, 14) := by decide +kernel
theorem c280_34 : fx_op 280 34 = some (.iload_n 1, 35, 34) := by decide +kernel
theorem c280_35 : fx_op 280 35 = some (.ireturn, 36, 35) := by decide +kernel
theorem c280_15 : fx_ca 280 15 = some (271, 2, 2, 18) := by decide +kernel
theorem c280_18 : fx_op 280 18 = some (.ifCond .lt 7, 21, 25) := by decide +kernel
theorem c280_25 : fx_ci 280 25 = some (0, 26) := by decide +kernel
theorem c280_21 : fx_ci 280 21 = some (1, 22) := by decide +kernel
theorem c280_22 : fx_op 280 22 = some (.goto 4, 25, 26) := by decide +kernel
theorem c280_26 : fx_op 280 26 = some (.iadd, 27, 26) := by decide +kernel
theorem c280_27 : fx_op 280 27 = some (.istore_n 1, 28, 27) := by decide +kernel
theorem c280_28 : fx_op 280 28 = some (.iinc 2 1, 31, 28) := by decide +kernel
theorem c280_31 : fx_op 280 31 = some (.goto (-27), 34, 4) := by decide +kernel
theorem s280_0 {kc : List va_E} {d : Nat} {M : fx_M} {Q : Option fx_V → fx_M → Prop} (H : wp kc (d + 1) 280 4 [some (jR 133), some (jI 0), some (jI 0)] [] M Q) : wp kc (d + 1) 280 0 [some (jR 133), none, none] [] M Q :=
  (x_ci c280_0 (x_istn (l' := [some (jR 133), some (jI 0), none]) c280_1 rfl (x_ci c280_2 (x_istn (l' := [some (jR 133), some (jI 0), some (jI 0)]) c280_3 rfl (wp_wk (l' := [some (jR 133), some (jI 0), some (jI 0)]) ⟨rfl, ⟨rfl, ⟨rfl, trivial⟩⟩⟩ H)))))
theorem s280_4 {kc : List va_E} {d : Nat} {v1 v2 : Int} {M : fx_M} {Q : Option fx_V → fx_M → Prop} (H : wc kc d 248 [jR 133] M (fun v M1 => wp kc (d + 1) 280 9 [some (jR 133), some (jI v1), some (jI v2)] (v.toList ++ [jI v2]) M1 Q)) : wp kc (d + 1) 280 4 [some (jR 133), some (jI v1), some (jI v2)] [] M Q :=
  (x_ildn c280_4 rfl (x_aldn c280_5 rfl (wp_wk (l' := [some (jR 133), some (jI v1), some (jI v2)]) ⟨rfl, ⟨rfl, ⟨rfl, trivial⟩⟩⟩ (x_cv (As := []) (st := [jI v2]) c280_6 cl_133 kl248 rfl (Nat.le_of_ble_eq_true rfl) mx248 (Nat.le_refl _) H))))
theorem s280_9 {kc : List va_E} {d : Nat} {v1 v2 u0 u1 : Int} {M : fx_M} {Q : Option fx_V → fx_M → Prop} (H : ((fx_in32 u1) ∧ (fx_in32 u0)) ∧ (u0 ≤ u1 → Q (some (jI v1)) M) ∧ (u1 < u0 → wc kc d 271 [jR 133, jI v2] M (fun v M1 => wp kc (d + 1) 280 18 [some (jR 133), none, some (jI v2)] (v.toList ++ [jI v1]) M1 Q))) : wp kc (d + 1) 280 9 [some (jR 133), some (jI v1), some (jI v2)] [jI u0, jI u1] M Q :=
  (x_cge c280_9 H.1.1 H.1.2 (fun h1 => (x_ildn c280_34 rfl (x_irt c280_35 r280 (H.2.1 h1)))) (fun h2 => (x_ildn c280_12 rfl (x_aldn c280_13 rfl (x_ildn c280_14 rfl (wp_wk (l' := [some (jR 133), none, some (jI v2)]) ⟨rfl, ⟨rfl, trivial⟩⟩ (x_cv (As := [jI v2]) (st := [jI v1]) c280_15 cl_133 kl271 rfl (Nat.le_of_ble_eq_true rfl) mx271 (Nat.le_refl _) (H.2.2 h2))))))))
theorem s280_18 {kc : List va_E} {d : Nat} {v2 u0 u1 : Int} {M : fx_M} {Q : Option fx_V → fx_M → Prop} (H : ((fx_in32 u0)) ∧ wp kc (d + 1) 280 4 [some (jR 133), some (jI (u1 + (if u0 < 0 then (0 : Int) else 1))), some (jI (v2 + 1))] [] M Q) : wp kc (d + 1) 280 18 [some (jR 133), none, some (jI v2)] [jI u0, jI u1] M Q :=
  (have K : wp kc (d + 1) 280 26 [some (jR 133), none, some (jI v2)] [jI (if u0 < 0 then (0 : Int) else 1), jI u1] M Q := (x_iadd c280_26 (x_istn (l' := [some (jR 133), some (jI (u1 + (if u0 < 0 then (0 : Int) else 1))), some (jI v2)]) c280_27 rfl (x_inc (l' := [some (jR 133), some (jI (u1 + (if u0 < 0 then (0 : Int) else 1))), some (jI (v2 + 1))]) c280_28 rfl rfl (x_goto c280_31 (wp_wk (l' := [some (jR 133), some (jI (u1 + (if u0 < 0 then (0 : Int) else 1))), some (jI (v2 + 1))]) ⟨rfl, ⟨rfl, ⟨rfl, trivial⟩⟩⟩ H.2))))); (x_zlt c280_18 H.1 (fun (h1 : u0 < 0) => (x_ci c280_25 (wp_wk (l' := [some (jR 133), none, some (jI v2)]) ⟨rfl, ⟨rfl, trivial⟩⟩ (by have K := K; first | (simp only [if_pos h1] at K ⊢; exact K) | (exfalso; omega))))) (fun (h2 : 0 ≤ u0) => (x_ci c280_21 (x_goto c280_22 (wp_wk (l' := [some (jR 133), none, some (jI v2)]) ⟨rfl, ⟨rfl, trivial⟩⟩ (by have K := K; first | (simp only [if_neg (Int.not_lt.mpr h2)] at K ⊢; exact K) | (exfalso; omega))))))))
theorem s280 {kc : List va_E} {d : Nat} {M : fx_M} {Q : Option fx_V → fx_M → Prop} (H : wp kc (d + 1) 280 4 [some (jR 133), some (jI 0), some (jI 0)] [] M Q) : wc kc (d + 1) 280 [jR 133] M Q :=
  wc_of (wp_wk (l' := [some (jR 133), none, none]) ⟨rfl, trivial⟩ (s280_0 H))

theorem c341_0 : fx_op 341 0 = some (.aload_n 0, 1, 0) := by decide +kernel
theorem c341_1 : fx_ci 341 1 = some (0, 2) := by decide +kernel
theorem c341_2 : fx_ca 341 2 = some (342, 2, 2, 5) := by decide +kernel
theorem c341_5 : fx_op 341 5 = some (.ireturn, 6, 5) := by decide +kernel
theorem s341_0 {kc : List va_E} {d : Nat} {M : fx_M} {Q : Option fx_V → fx_M → Prop} (H : wc kc d 342 [jR 133, jI 0] M (fun v M1 => wp kc (d + 1) 341 5 [none] (v.toList ++ []) M1 Q)) : wp kc (d + 1) 341 0 [some (jR 133)] [] M Q :=
  (x_aldn c341_0 rfl (x_ci c341_1 (wp_wk (l' := [none]) trivial (x_cv (As := [jI 0]) (st := []) c341_2 cl_133 kl342 rfl (Nat.le_of_ble_eq_true rfl) mx342 (Nat.le_refl _) H))))
theorem s341_5 {kc : List va_E} {d : Nat} {u0 : Int} {M : fx_M} {Q : Option fx_V → fx_M → Prop} (H : Q (some (jI u0)) M) : wp kc (d + 1) 341 5 [none] [jI u0] M Q :=
  (x_irt c341_5 r341 H)
theorem s341 {kc : List va_E} {d : Nat} {M : fx_M} {Q : Option fx_V → fx_M → Prop} (H : wc kc d 342 [jR 133, jI 0] M (fun v M1 => wp kc (d + 1) 341 5 [none] (v.toList ++ []) M1 Q)) : wc kc (d + 1) 341 [jR 133] M Q :=
  wc_of (wp_wk (l' := [some (jR 133)]) ⟨rfl, trivial⟩ (s341_0 H))

theorem c342_0 : fx_op 342 0 = some (.aload_n 0, 1, 0) := by decide +kernel
theorem c342_1 : fx_gf 342 1 = some (12, 97, 4) := by decide +kernel
theorem c342_4 : fx_ci 342 4 = some (32, 6) := by decide +kernel
theorem c342_6 : fx_op 342 6 = some (.aload_n 0, 7, 6) := by decide +kernel
theorem c342_7 : fx_gf 342 7 = some (12, 97, 10) := by decide +kernel
theorem c342_10 : fx_ci 342 10 = some (0, 11) := by decide +kernel
theorem c342_11 : fx_op 342 11 = some (.iaload, 12, 11) := by decide +kernel
theorem c342_12 : fx_op 342 12 = some (.imul, 13, 12) := by decide +kernel
theorem c342_13 : fx_op 342 13 = some (.iload_n 1, 14, 13) := by decide +kernel
theorem c342_14 : fx_op 342 14 = some (.iadd, 15, 14) := by decide +kernel
theorem c342_15 : fx_op 342 15 = some (.iaload, 16, 15) := by decide +kernel
theorem c342_16 : fx_op 342 16 = some (.ireturn, 17, 16) := by decide +kernel
theorem s342_0 {kc : List va_E} {d : Nat} {x1 : Int} {M : fx_M} {Q : Option fx_V → fx_M → Prop} (H : (((0 : Int) ≤ (32 * (M 188 0)) + x1 ∧ (32 * (M 188 0)) + x1 < 1024)) ∧ Q (some (jI (M 188 ((32 * (M 188 0)) + x1)))) M) : wp kc (d + 1) 342 0 [some (jR 133), some (jI x1)] [] M Q :=
  (x_aldn c342_0 rfl (x_gfr c342_1 k_133_97 (x_ci c342_4 (x_aldn c342_6 rfl (x_gfr c342_7 k_133_97 (x_ci c342_10 (x_iald c342_11 a_188 (by decide) (by decide) (x_imul c342_12 (x_ildn c342_13 rfl (x_iadd c342_14 (x_iald c342_15 a_188 H.1 (by decide) (x_irt c342_16 r342 H.2))))))))))))
theorem s342 {kc : List va_E} {d : Nat} {x1 : Int} {M : fx_M} {Q : Option fx_V → fx_M → Prop} (H : (((0 : Int) ≤ (32 * (M 188 0)) + x1 ∧ (32 * (M 188 0)) + x1 < 1024)) ∧ Q (some (jI (M 188 ((32 * (M 188 0)) + x1)))) M) : wc kc (d + 1) 342 [jR 133, jI x1] M Q :=
  wc_of (wp_wk (l' := [some (jR 133), some (jI x1)]) ⟨rfl, ⟨rfl, trivial⟩⟩ (s342_0 H))

theorem c421_0 : fx_op 421 0 = some (.aload_n 0, 1, 0) := by decide +kernel
theorem c421_1 : fx_ci 421 1 = some (0, 2) := by decide +kernel
theorem c421_2 : fx_pf 421 2 = some (12, 0, 0, 5) := by decide +kernel
theorem c421_5 : fx_op 421 5 = some (.iload_n 1, 6, 5) := by decide +kernel
theorem c421_6 : fx_op 421 6 = some (.ifCond .lt 11, 9, 17) := by decide +kernel
theorem c421_17 : fx_ci 421 17 = some ((-1), 18) := by decide +kernel
theorem c421_18 : fx_op 421 18 = some (.goto 9, 21, 27) := by decide +kernel
theorem c421_9 : fx_op 421 9 = some (.iload_n 1, 10, 9) := by decide +kernel
theorem c421_10 : fx_op 421 10 = some (.aload_n 0, 11, 10) := by decide +kernel
theorem c421_11 : fx_gf 421 11 = some (12, 5, 14) := by decide +kernel
theorem c421_14 : fx_op 421 14 = some (.if_icmp .lt 7, 17, 21) := by decide +kernel
theorem c421_21 : fx_op 421 21 = some (.aload_n 0, 22, 21) := by decide +kernel
theorem c421_22 : fx_gf 421 22 = some (12, 6, 25) := by decide +kernel
theorem c421_25 : fx_op 421 25 = some (.iload_n 1, 26, 25) := by decide +kernel
theorem c421_26 : fx_op 421 26 = some (.iaload, 27, 26) := by decide +kernel
theorem c421_27 : fx_op 421 27 = some (.ireturn, 28, 27) := by decide +kernel
theorem s421_0 {kc : List va_E} {d : Nat} {x1 : Int} {M : fx_M} {Q : Option fx_V → fx_M → Prop} (H : ((fx_in32 x1)) ∧ (0 ≤ x1 → (fx_in32 x1)) ∧ (0 ≤ x1 → (fx_in32 (M 133 5))) ∧ (0 ≤ x1 → x1 < M 133 5 → ((((0 : Int) ≤ x1 ∧ x1 < 6000)))) ∧ Q (some (jI (if x1 < 0 then ((-1) : Int) else (if x1 < M 133 5 then (M 136 x1 : Int) else (-1))))) (fx_up M 133 0 0)) : wp kc (d + 1) 421 0 [some (jR 133), some (jI x1)] [] M Q :=
  (x_aldn c421_0 rfl (x_ci c421_1 (x_pfi c421_2 k_133_0 (x_ildn c421_5 rfl (have K : wp kc (d + 1) 421 27 [none, none] [jI (if x1 < 0 then ((-1) : Int) else (if x1 < M 133 5 then (M 136 x1 : Int) else (-1)))] (fx_up M 133 0 0) Q := (x_irt c421_27 r421 H.2.2.2.2); (x_zlt c421_6 H.1 (fun (h1 : x1 < 0) => (x_ci c421_17 (x_goto c421_18 (wp_wk (l' := [none, none]) trivial (by have K := K; first | (simp only [if_pos h1] at K ⊢; exact K) | (exfalso; omega)))))) (fun (h2 : 0 ≤ x1) => (x_ildn c421_9 rfl (x_aldn c421_10 rfl (x_gfi c421_11 k_133_5 (wp_vI (fx_upK (by decide)) (x_clt c421_14 (H.2.1 h2) (H.2.2.1 h2) (fun (h3 : x1 < M 133 5) => (x_aldn c421_21 rfl (x_gfr c421_22 k_133_6 (x_ildn c421_25 rfl (x_iald c421_26 a_136 (H.2.2.2.1 h2 h3) (by decide) (wp_vI (fx_upA (by decide)) (wp_wk (l' := [none, none]) trivial (by have K := K; first | (simp only [if_neg (Int.not_lt.mpr h2), if_pos h3] at K ⊢; exact K) | (exfalso; omega))))))))) (fun (h4 : M 133 5 ≤ x1) => (x_ci c421_17 (x_goto c421_18 (wp_wk (l' := [none, none]) trivial (by have K := K; first | (simp only [if_neg (Int.not_lt.mpr h2), if_neg (Int.not_lt.mpr h4)] at K ⊢; exact K) | (exfalso; omega))))))))))))))))))
theorem s421 {kc : List va_E} {d : Nat} {x1 : Int} {M : fx_M} {Q : Option fx_V → fx_M → Prop} (H : ((fx_in32 x1)) ∧ (0 ≤ x1 → (fx_in32 x1)) ∧ (0 ≤ x1 → (fx_in32 (M 133 5))) ∧ (0 ≤ x1 → x1 < M 133 5 → ((((0 : Int) ≤ x1 ∧ x1 < 6000)))) ∧ Q (some (jI (if x1 < 0 then ((-1) : Int) else (if x1 < M 133 5 then (M 136 x1 : Int) else (-1))))) (fx_up M 133 0 0)) : wc kc (d + 1) 421 [jR 133, jI x1] M Q :=
  wc_of (wp_wk (l' := [some (jR 133), some (jI x1)]) ⟨rfl, ⟨rfl, trivial⟩⟩ (s421_0 H))

theorem c422_0 : fx_op 422 0 = some (.aload_n 0, 1, 0) := by decide +kernel
theorem c422_1 : fx_ci 422 1 = some (0, 2) := by decide +kernel
theorem c422_2 : fx_pf 422 2 = some (12, 0, 0, 5) := by decide +kernel
theorem c422_5 : fx_ci 422 5 = some (11, 7) := by decide +kernel
theorem c422_7 : fx_ca 422 7 = some (221, 1, 0, 10) := by decide +kernel
theorem c422_10 : fx_op 422 10 = some (.lstore_n 1, 11, 10) := by decide +kernel
theorem c422_11 : fx_ci 422 11 = some (0, 12) := by decide +kernel
theorem c422_12 : fx_op 422 12 = some (.istore_n 3, 13, 12) := by decide +kernel
theorem c422_13 : fx_op 422 13 = some (.iload_n 3, 14, 13) := by decide +kernel
theorem c422_14 : fx_ci 422 14 = some (5, 15) := by decide +kernel
theorem c422_15 : fx_op 422 15 = some (.if_icmp .ge 20, 18, 35) := by decide +kernel
theorem c422_18 : fx_op 422 18 = some (.aload_n 0, 19, 18) := by decide +kernel
theorem c422_19 : fx_gf 422 19 = some (12, 4, 22) := by decide +kernel
theorem c422_22 : fx_op 422 22 = some (.iload_n 3, 23, 22) := by decide +kernel
theorem c422_23 : fx_op 422 23 = some (.lload_n 1, 24, 23) := by decide +kernel
theorem c422_24 : fx_op 422 24 = some (.iload_n 3, 25, 24) := by decide +kernel
theorem c422_35 : fx_op 422 35 = some (.aload_n 0, 36, 35) := by decide +kernel
theorem c422_36 : fx_gf 422 36 = some (12, 4, 39) := by decide +kernel
theorem c422_39 : fx_ci 422 39 = some (5, 40) := by decide +kernel
theorem c422_40 : fx_ci 422 40 = some (32, 42) := by decide +kernel
theorem c422_43 : fx_ci 422 43 = some (0, 44) := by decide +kernel
theorem c422_44 : fx_op 422 44 = some (.istore_n 3, 45, 44) := by decide +kernel
theorem c422_42 : fx_op 422 42 = some (.iastore, 43, 42) := by decide +kernel
theorem c422_25 : fx_ca 422 25 = some (224, 2, 0, 28) := by decide +kernel
theorem c422_45 : fx_op 422 45 = some (.iload_n 3, 46, 45) := by decide +kernel
theorem c422_46 : fx_op 422 46 = some (.aload_n 0, 47, 46) := by decide +kernel
theorem c422_47 : fx_gf 422 47 = some (12, 5, 50) := by decide +kernel
theorem c422_50 : fx_op 422 50 = some (.if_icmp .ge 24, 53, 74) := by decide +kernel
theorem c422_53 : fx_op 422 53 = some (.aload_n 0, 54, 53) := by decide +kernel
theorem c422_54 : fx_gf 422 54 = some (12, 4, 57) := by decide +kernel
theorem c422_57 : fx_ci 422 57 = some (6, 59) := by decide +kernel
theorem c422_59 : fx_op 422 59 = some (.iload_n 3, 60, 59) := by decide +kernel
theorem c422_60 : fx_op 422 60 = some (.iadd, 61, 60) := by decide +kernel
theorem c422_61 : fx_op 422 61 = some (.aload_n 0, 62, 61) := by decide +kernel
theorem c422_62 : fx_gf 422 62 = some (12, 6, 65) := by decide +kernel
theorem c422_65 : fx_op 422 65 = some (.iload_n 3, 66, 65) := by decide +kernel
theorem c422_66 : fx_op 422 66 = some (.iaload, 67, 66) := by decide +kernel
theorem c422_74 : fx_op 422 74 = some (.aload_n 0, 75, 74) := by decide +kernel
theorem c422_75 : fx_ci 422 75 = some (6, 77) := by decide +kernel
theorem c422_77 : fx_op 422 77 = some (.aload_n 0, 78, 77) := by decide +kernel
theorem c422_78 : fx_gf 422 78 = some (12, 5, 81) := by decide +kernel
theorem c422_81 : fx_op 422 81 = some (.iadd, 82, 81) := by decide +kernel
theorem c422_82 : fx_pf 422 82 = some (12, 3, 0, 85) := by decide +kernel
theorem c422_85 : fx_op 422 85 = some (.aload_n 0, 86, 85) := by decide +kernel
theorem c422_68 : fx_op 422 68 = some (.iinc 3 1, 71, 68) := by decide +kernel
theorem c422_86 : fx_ca 422 86 = some (219, 1, 2, 89) := by decide +kernel
theorem c422_67 : fx_op 422 67 = some (.iastore, 68, 67) := by decide +kernel
theorem c422_71 : fx_op 422 71 = some (.goto (-26), 74, 45) := by decide +kernel
theorem c422_29 : fx_op 422 29 = some (.iinc 3 1, 32, 29) := by decide +kernel
theorem c422_28 : fx_op 422 28 = some (.iastore, 29, 28) := by decide +kernel
theorem c422_32 : fx_op 422 32 = some (.goto (-19), 35, 13) := by decide +kernel
theorem c422_89 : fx_op 422 89 = some (.ireturn, 90, 89) := by decide +kernel
theorem s422_0 {kc : List va_E} {d : Nat} {M : fx_M} {Q : Option fx_V → fx_M → Prop} (H : wc kc d 221 [jI 11] (fx_up M 133 0 0) (fun v M1 => wp kc (d + 1) 422 10 [some (jR 133), none, none, none] (v.toList ++ []) M1 Q)) : wp kc (d + 1) 422 0 [some (jR 133), none, none, none] [] M Q :=
  (x_aldn c422_0 rfl (x_ci c422_1 (x_pfi c422_2 k_133_0 (x_ci c422_5 (wp_wk (l' := [some (jR 133), none, none, none]) ⟨rfl, trivial⟩ (x_cs (As := [jI 11]) (st := []) c422_7 (by decide) rfl (Nat.le_of_ble_eq_true rfl) mx221 (Nat.le_refl _) H))))))
theorem s422_10 {kc : List va_E} {d : Nat} {u0 : Int} {M : fx_M} {Q : Option fx_V → fx_M → Prop} (H : wp kc (d + 1) 422 13 [some (jR 133), some (jL u0), none, some (jI 0)] [] M Q) : wp kc (d + 1) 422 10 [some (jR 133), none, none, none] [jL u0] M Q :=
  (x_lstn (l' := [some (jR 133), some (jL u0), none, none]) c422_10 rfl (x_ci c422_11 (x_istn (l' := [some (jR 133), some (jL u0), none, some (jI 0)]) c422_12 rfl (wp_wk (l' := [some (jR 133), some (jL u0), none, some (jI 0)]) ⟨rfl, ⟨rfl, ⟨rfl, trivial⟩⟩⟩ H))))
theorem s422_13 {kc : List va_E} {d : Nat} {v1 v3 : Int} {M : fx_M} {Q : Option fx_V → fx_M → Prop} (H : ((fx_in32 v3)) ∧ (5 ≤ v3 → wp kc (d + 1) 422 45 [some (jR 133), none, none, some (jI 0)] [] (fx_up M 135 5 32) Q) ∧ (v3 < 5 → wc kc d 224 [jL v1, jI v3] M (fun v M1 => wp kc (d + 1) 422 28 [some (jR 133), some (jL v1), none, some (jI v3)] (v.toList ++ [jI v3, jR 135]) M1 Q))) : wp kc (d + 1) 422 13 [some (jR 133), some (jL v1), none, some (jI v3)] [] M Q :=
  (x_ildn c422_13 rfl (x_ci c422_14 (x_cge c422_15 H.1 (by decide) (fun h1 => (x_aldn c422_35 rfl (x_gfr c422_36 k_133_4 (x_ci c422_39 (x_ci c422_40 (x_iast c422_42 a_135 (by decide) (by decide) (x_ci c422_43 (x_istn (l' := [some (jR 133), some (jL v1), none, some (jI 0)]) c422_44 rfl (wp_wk (l' := [some (jR 133), none, none, some (jI 0)]) ⟨rfl, ⟨rfl, trivial⟩⟩ (H.2.1 h1)))))))))) (fun h2 => (x_aldn c422_18 rfl (x_gfr c422_19 k_133_4 (x_ildn c422_22 rfl (x_lldn c422_23 rfl (x_ildn c422_24 rfl (wp_wk (l' := [some (jR 133), some (jL v1), none, some (jI v3)]) ⟨rfl, ⟨rfl, ⟨rfl, trivial⟩⟩⟩ (x_cs (As := [jL v1, jI v3]) (st := [jI v3, jR 135]) c422_25 (by decide) rfl (Nat.le_of_ble_eq_true rfl) mx224 (Nat.le_refl _) (H.2.2 h2))))))))))))
theorem s422_28 {kc : List va_E} {d : Nat} {v1 v3 u0 u1 : Int} {M : fx_M} {Q : Option fx_V → fx_M → Prop} (H : (((0 : Int) ≤ u1 ∧ u1 < 6100)) ∧ wp kc (d + 1) 422 13 [some (jR 133), some (jL v1), none, some (jI (v3 + 1))] [] (fx_up M 135 u1 u0) Q) : wp kc (d + 1) 422 28 [some (jR 133), some (jL v1), none, some (jI v3)] [jI u0, jI u1, jR 135] M Q :=
  (x_iast c422_28 a_135 H.1 (by decide) (x_inc (l' := [some (jR 133), some (jL v1), none, some (jI (v3 + 1))]) c422_29 rfl rfl (x_goto c422_32 (wp_wk (l' := [some (jR 133), some (jL v1), none, some (jI (v3 + 1))]) ⟨rfl, ⟨rfl, ⟨rfl, trivial⟩⟩⟩ H.2))))
theorem s422_45 {kc : List va_E} {d : Nat} {v3 : Int} {M : fx_M} {Q : Option fx_V → fx_M → Prop} (H : ((fx_in32 v3) ∧ (fx_in32 (M 133 5))) ∧ (M 133 5 ≤ v3 → wc kc d 219 [jR 133] (fx_up M 133 3 (6 + (M 133 5))) (fun v M1 => wp kc (d + 1) 422 89 [none, none, none, none] (v.toList ++ []) M1 Q)) ∧ (v3 < M 133 5 → (((0 : Int) ≤ v3 ∧ v3 < 6000)) ∧ (((0 : Int) ≤ 6 + v3 ∧ 6 + v3 < 6100)) ∧ wp kc (d + 1) 422 45 [some (jR 133), none, none, some (jI (v3 + 1))] [] (fx_up M 135 (6 + v3) (M 136 v3)) Q)) : wp kc (d + 1) 422 45 [some (jR 133), none, none, some (jI v3)] [] M Q :=
  (x_ildn c422_45 rfl (x_aldn c422_46 rfl (x_gfi c422_47 k_133_5 (x_cge c422_50 H.1.1 H.1.2 (fun h1 => (x_aldn c422_74 rfl (x_ci c422_75 (x_aldn c422_77 rfl (x_gfi c422_78 k_133_5 (x_iadd c422_81 (x_pfi c422_82 k_133_3 (x_aldn c422_85 rfl (wp_wk (l' := [none, none, none, none]) trivial (x_cv (As := []) (st := []) c422_86 cl_133 kl219 rfl (Nat.le_of_ble_eq_true rfl) mx219 (Nat.le_refl _) (H.2.1 h1))))))))))) (fun h2 => (x_aldn c422_53 rfl (x_gfr c422_54 k_133_4 (x_ci c422_57 (x_ildn c422_59 rfl (x_iadd c422_60 (x_aldn c422_61 rfl (x_gfr c422_62 k_133_6 (x_ildn c422_65 rfl (x_iald c422_66 a_136 (H.2.2 h2).1 (by decide) (x_iast c422_67 a_135 (H.2.2 h2).2.1 (by decide) (x_inc (l' := [some (jR 133), none, none, some (jI (v3 + 1))]) c422_68 rfl rfl (x_goto c422_71 (wp_wk (l' := [some (jR 133), none, none, some (jI (v3 + 1))]) ⟨rfl, ⟨rfl, trivial⟩⟩ (H.2.2 h2).2.2))))))))))))))))))
theorem s422_89 {kc : List va_E} {d : Nat} {u0 : Int} {M : fx_M} {Q : Option fx_V → fx_M → Prop} (H : Q (some (jI u0)) M) : wp kc (d + 1) 422 89 [none, none, none, none] [jI u0] M Q :=
  (x_irt c422_89 r422 H)
theorem s422 {kc : List va_E} {d : Nat} {M : fx_M} {Q : Option fx_V → fx_M → Prop} (H : wc kc d 221 [jI 11] (fx_up M 133 0 0) (fun v M1 => wp kc (d + 1) 422 10 [some (jR 133), none, none, none] (v.toList ++ []) M1 Q)) : wc kc (d + 1) 422 [jR 133] M Q :=
  wc_of (wp_wk (l' := [some (jR 133), none, none, none]) ⟨rfl, trivial⟩ (s422_0 H))

theorem c423_0 : fx_op 423 0 = some (.aload_n 0, 1, 0) := by decide +kernel
theorem c423_1 : fx_ci 423 1 = some (0, 2) := by decide +kernel
theorem c423_2 : fx_pf 423 2 = some (12, 0, 0, 5) := by decide +kernel
theorem c423_5 : fx_op 423 5 = some (.iload_n 1, 6, 5) := by decide +kernel
theorem c423_60 : fx_op 423 60 = some (.aload_n 0, 61, 60) := by decide +kernel
theorem c423_61 : fx_gf 423 61 = some (12, 40, 64) := by decide +kernel
theorem c423_64 : fx_ci 423 64 = some (0, 65) := by decide +kernel
theorem c423_65 : fx_op 423 65 = some (.iaload, 66, 65) := by decide +kernel
theorem c423_67 : fx_op 423 67 = some (.aload_n 0, 68, 67) := by decide +kernel
theorem c423_72 : fx_op 423 72 = some (.aload_n 0, 73, 72) := by decide +kernel
theorem c423_77 : fx_op 423 77 = some (.aload_n 0, 78, 77) := by decide +kernel
theorem c423_78 : fx_gf 423 78 = some (12, 39, 81) := by decide +kernel
theorem c423_81 : fx_ci 423 81 = some (0, 82) := by decide +kernel
theorem c423_82 : fx_op 423 82 = some (.iaload, 83, 82) := by decide +kernel
theorem c423_84 : fx_op 423 84 = some (.aload_n 0, 85, 84) := by decide +kernel
theorem c423_85 : fx_gf 423 85 = some (12, 83, 88) := by decide +kernel
theorem c423_88 : fx_op 423 88 = some (.aload_n 0, 89, 88) := by decide +kernel
theorem c423_89 : fx_gf 423 89 = some (12, 80, 92) := by decide +kernel
theorem c423_94 : fx_op 423 94 = some (.aload_n 0, 95, 94) := by decide +kernel
theorem c423_95 : fx_gf 423 95 = some (12, 96, 98) := by decide +kernel
theorem c423_98 : fx_op 423 98 = some (.ifCond .eq 10, 101, 108) := by decide +kernel
theorem c423_108 : fx_ci 423 108 = some ((-1), 109) := by decide +kernel
theorem c423_101 : fx_op 423 101 = some (.aload_n 0, 102, 101) := by decide +kernel
theorem c423_110 : fx_op 423 110 = some (.aload_n 0, 111, 110) := by decide +kernel
theorem c423_111 : fx_gf 423 111 = some (12, 1, 114) := by decide +kernel
theorem c423_115 : fx_op 423 115 = some (.aload_n 0, 116, 115) := by decide +kernel
theorem c423_116 : fx_gf 423 116 = some (12, 5, 119) := by decide +kernel
theorem c423_120 : fx_op 423 120 = some (.aload_n 0, 121, 120) := by decide +kernel
theorem c423_121 : fx_gf 423 121 = some (12, 80, 124) := by decide +kernel
theorem c423_125 : fx_op 423 125 = some (.aload_n 0, 126, 125) := by decide +kernel
theorem c423_126 : fx_gf 423 126 = some (12, 89, 129) := by decide +kernel
theorem c423_130 : fx_ci 423 130 = some ((-1), 131) := by decide +kernel
theorem c423_66 : fx_op 423 66 = some (.ireturn, 67, 66) := by decide +kernel
theorem c423_68 : fx_ca 423 68 = some (280, 1, 2, 71) := by decide +kernel
theorem c423_73 : fx_ca 423 73 = some (248, 1, 2, 76) := by decide +kernel
theorem c423_83 : fx_op 423 83 = some (.ireturn, 84, 83) := by decide +kernel
theorem c423_92 : fx_op 423 92 = some (.iaload, 93, 92) := by decide +kernel
theorem c423_93 : fx_op 423 93 = some (.ireturn, 94, 93) := by decide +kernel
theorem c423_109 : fx_op 423 109 = some (.ireturn, 110, 109) := by decide +kernel
theorem c423_102 : fx_ca 423 102 = some (341, 1, 2, 105) := by decide +kernel
theorem c423_114 : fx_op 423 114 = some (.ireturn, 115, 114) := by decide +kernel
theorem c423_119 : fx_op 423 119 = some (.ireturn, 120, 119) := by decide +kernel
theorem c423_124 : fx_op 423 124 = some (.ireturn, 125, 124) := by decide +kernel
theorem c423_129 : fx_op 423 129 = some (.ireturn, 130, 129) := by decide +kernel
theorem c423_6 : fx_ts 423 6 = some (0, [60, 67, 72, 77, 84, 94, 110, 115, 120, 125], 130) := by decide +kernel
theorem c423_131 : fx_op 423 131 = some (.ireturn, 132, 131) := by decide +kernel
theorem c423_71 : fx_op 423 71 = some (.ireturn, 72, 71) := by decide +kernel
theorem c423_76 : fx_op 423 76 = some (.ireturn, 77, 76) := by decide +kernel
theorem c423_105 : fx_op 423 105 = some (.goto 4, 108, 109) := by decide +kernel
theorem s423_0 {kc : List va_E} {d : Nat} {x1 : Int} {M : fx_M} {Q : Option fx_V → fx_M → Prop} (H : fx_in32 x1 ∧ (x1 = 0 → Q (some (jI (M 149 0))) (fx_up M 133 0 0)) ∧ (x1 = 1 → wc kc d 280 [jR 133] (fx_up M 133 0 0) (fun v M1 => wp kc (d + 1) 423 71 [none, none] (v.toList ++ []) M1 Q)) ∧ (x1 = 2 → wc kc d 248 [jR 133] (fx_up M 133 0 0) (fun v M1 => wp kc (d + 1) 423 76 [none, none] (v.toList ++ []) M1 Q)) ∧ (x1 = 3 → Q (some (jI (M 148 0))) (fx_up M 133 0 0)) ∧ (x1 = 4 → (((0 : Int) ≤ M 133 80 ∧ M 133 80 < 3)) ∧ Q (some (jI (M 176 (M 133 80)))) (fx_up M 133 0 0)) ∧ (x1 = 5 → ((fx_in32 (M 133 96))) ∧ (M 133 96 = 0 → Q (some (jI (-1))) (fx_up M 133 0 0)) ∧ (M 133 96 ≠ 0 → wc kc d 341 [jR 133] (fx_up M 133 0 0) (fun v M1 => wp kc (d + 1) 423 105 [none, none] (v.toList ++ []) M1 Q))) ∧ (x1 = 6 → Q (some (jI (M 133 1))) (fx_up M 133 0 0)) ∧ (x1 = 7 → Q (some (jI (M 133 5))) (fx_up M 133 0 0)) ∧ (x1 = 8 → Q (some (jI (M 133 80))) (fx_up M 133 0 0)) ∧ (x1 = 9 → Q (some (jI (M 133 89))) (fx_up M 133 0 0)) ∧ ((x1 < 0 ∨ 10 ≤ x1) → Q (some (jI (-1))) (fx_up M 133 0 0))) : wp kc (d + 1) 423 0 [some (jR 133), some (jI x1)] [] M Q :=
  (x_aldn c423_0 rfl (x_ci c423_1 (x_pfi c423_2 k_133_0 (x_ildn c423_5 rfl (x_sw c423_6 H.1 ⟨fun h3 => (x_aldn c423_60 rfl (x_gfr c423_61 k_133_40 (x_ci c423_64 (x_iald c423_65 a_149 (by decide) (by decide) (wp_vI (fx_upA (by decide)) (x_irt c423_66 r423 (H.2.1 h3))))))), ⟨fun h4 => (x_aldn c423_67 rfl (wp_wk (l' := [none, none]) trivial (x_cv (As := []) (st := []) c423_68 cl_133 kl280 rfl (Nat.le_of_ble_eq_true rfl) mx280 (Nat.le_refl _) (H.2.2.1 h4)))), ⟨fun h5 => (x_aldn c423_72 rfl (wp_wk (l' := [none, none]) trivial (x_cv (As := []) (st := []) c423_73 cl_133 kl248 rfl (Nat.le_of_ble_eq_true rfl) mx248 (Nat.le_refl _) (H.2.2.2.1 h5)))), ⟨fun h6 => (x_aldn c423_77 rfl (x_gfr c423_78 k_133_39 (x_ci c423_81 (x_iald c423_82 a_148 (by decide) (by decide) (wp_vI (fx_upA (by decide)) (x_irt c423_83 r423 (H.2.2.2.2.1 h6))))))), ⟨fun h7 => (x_aldn c423_84 rfl (x_gfr c423_85 k_133_83 (x_aldn c423_88 rfl (x_gfi c423_89 k_133_80 (wp_vI (fx_upK (by decide)) (x_iald c423_92 a_176 (H.2.2.2.2.2.1 h7).1 (by decide) (wp_vI (fx_upA (by decide)) (x_irt c423_93 r423 (H.2.2.2.2.2.1 h7).2)))))))), ⟨fun h8 => (x_aldn c423_94 rfl (x_gfi c423_95 k_133_96 (wp_vI (fx_upK (by decide)) (x_zeq c423_98 (H.2.2.2.2.2.2.1 h8).1 (fun h1 => (x_ci c423_108 (x_irt c423_109 r423 ((H.2.2.2.2.2.2.1 h8).2.1 h1)))) (fun h2 => (x_aldn c423_101 rfl (wp_wk (l' := [none, none]) trivial (x_cv (As := []) (st := []) c423_102 cl_133 kl341 rfl (Nat.le_of_ble_eq_true rfl) mx341 (Nat.le_refl _) ((H.2.2.2.2.2.2.1 h8).2.2 h2))))))))), ⟨fun h9 => (x_aldn c423_110 rfl (x_gfi c423_111 k_133_1 (wp_vI (fx_upK (by decide)) (x_irt c423_114 r423 (H.2.2.2.2.2.2.2.1 h9))))), ⟨fun h10 => (x_aldn c423_115 rfl (x_gfi c423_116 k_133_5 (wp_vI (fx_upK (by decide)) (x_irt c423_119 r423 (H.2.2.2.2.2.2.2.2.1 h10))))), ⟨fun h11 => (x_aldn c423_120 rfl (x_gfi c423_121 k_133_80 (wp_vI (fx_upK (by decide)) (x_irt c423_124 r423 (H.2.2.2.2.2.2.2.2.2.1 h11))))), ⟨fun h12 => (x_aldn c423_125 rfl (x_gfi c423_126 k_133_89 (wp_vI (fx_upK (by decide)) (x_irt c423_129 r423 (H.2.2.2.2.2.2.2.2.2.2.1 h12))))), trivial⟩⟩⟩⟩⟩⟩⟩⟩⟩⟩ (fun h13 => (x_ci c423_130 (x_irt c423_131 r423 (H.2.2.2.2.2.2.2.2.2.2.2 h13)))))))))
theorem s423_71 {kc : List va_E} {d : Nat} {u0 : Int} {M : fx_M} {Q : Option fx_V → fx_M → Prop} (H : Q (some (jI u0)) M) : wp kc (d + 1) 423 71 [none, none] [jI u0] M Q :=
  (x_irt c423_71 r423 H)
theorem s423_76 {kc : List va_E} {d : Nat} {u0 : Int} {M : fx_M} {Q : Option fx_V → fx_M → Prop} (H : Q (some (jI u0)) M) : wp kc (d + 1) 423 76 [none, none] [jI u0] M Q :=
  (x_irt c423_76 r423 H)
theorem s423_105 {kc : List va_E} {d : Nat} {u0 : Int} {M : fx_M} {Q : Option fx_V → fx_M → Prop} (H : Q (some (jI u0)) M) : wp kc (d + 1) 423 105 [none, none] [jI u0] M Q :=
  (x_goto c423_105 (x_irt c423_109 r423 H))
theorem s423 {kc : List va_E} {d : Nat} {x1 : Int} {M : fx_M} {Q : Option fx_V → fx_M → Prop} (H : fx_in32 x1 ∧ (x1 = 0 → Q (some (jI (M 149 0))) (fx_up M 133 0 0)) ∧ (x1 = 1 → wc kc d 280 [jR 133] (fx_up M 133 0 0) (fun v M1 => wp kc (d + 1) 423 71 [none, none] (v.toList ++ []) M1 Q)) ∧ (x1 = 2 → wc kc d 248 [jR 133] (fx_up M 133 0 0) (fun v M1 => wp kc (d + 1) 423 76 [none, none] (v.toList ++ []) M1 Q)) ∧ (x1 = 3 → Q (some (jI (M 148 0))) (fx_up M 133 0 0)) ∧ (x1 = 4 → (((0 : Int) ≤ M 133 80 ∧ M 133 80 < 3)) ∧ Q (some (jI (M 176 (M 133 80)))) (fx_up M 133 0 0)) ∧ (x1 = 5 → ((fx_in32 (M 133 96))) ∧ (M 133 96 = 0 → Q (some (jI (-1))) (fx_up M 133 0 0)) ∧ (M 133 96 ≠ 0 → wc kc d 341 [jR 133] (fx_up M 133 0 0) (fun v M1 => wp kc (d + 1) 423 105 [none, none] (v.toList ++ []) M1 Q))) ∧ (x1 = 6 → Q (some (jI (M 133 1))) (fx_up M 133 0 0)) ∧ (x1 = 7 → Q (some (jI (M 133 5))) (fx_up M 133 0 0)) ∧ (x1 = 8 → Q (some (jI (M 133 80))) (fx_up M 133 0 0)) ∧ (x1 = 9 → Q (some (jI (M 133 89))) (fx_up M 133 0 0)) ∧ ((x1 < 0 ∨ 10 ≤ x1) → Q (some (jI (-1))) (fx_up M 133 0 0))) : wc kc (d + 1) 423 [jR 133, jI x1] M Q :=
  wc_of (wp_wk (l' := [some (jR 133), some (jI x1)]) ⟨rfl, ⟨rfl, trivial⟩⟩ (s423_0 H))

theorem c424_0 : fx_op 424 0 = some (.aload_n 0, 1, 0) := by decide +kernel
theorem c424_1 : fx_ci 424 1 = some (0, 2) := by decide +kernel
theorem c424_2 : fx_pf 424 2 = some (12, 0, 0, 5) := by decide +kernel
theorem c424_5 : fx_op 424 5 = some (.iload_n 1, 6, 5) := by decide +kernel
theorem c424_6 : fx_op 424 6 = some (.ifCond .lt 19, 9, 25) := by decide +kernel
theorem c424_25 : fx_ci 424 25 = some ((-1), 26) := by decide +kernel
theorem c424_26 : fx_op 424 26 = some (.goto 14, 29, 40) := by decide +kernel
theorem c424_9 : fx_op 424 9 = some (.iload_n 1, 10, 9) := by decide +kernel
theorem c424_10 : fx_ci 424 10 = some (32, 12) := by decide +kernel
theorem c424_12 : fx_op 424 12 = some (.if_icmp .ge 13, 15, 25) := by decide +kernel
theorem c424_15 : fx_op 424 15 = some (.iload_n 2, 16, 15) := by decide +kernel
theorem c424_16 : fx_op 424 16 = some (.ifCond .lt 9, 19, 25) := by decide +kernel
theorem c424_19 : fx_op 424 19 = some (.iload_n 2, 20, 19) := by decide +kernel
theorem c424_20 : fx_ci 424 20 = some (32, 22) := by decide +kernel
theorem c424_22 : fx_op 424 22 = some (.if_icmp .lt 7, 25, 29) := by decide +kernel
theorem c424_29 : fx_op 424 29 = some (.aload_n 0, 30, 29) := by decide +kernel
theorem c424_30 : fx_gf 424 30 = some (12, 97, 33) := by decide +kernel
theorem c424_33 : fx_ci 424 33 = some (32, 35) := by decide +kernel
theorem c424_35 : fx_op 424 35 = some (.iload_n 1, 36, 35) := by decide +kernel
theorem c424_36 : fx_op 424 36 = some (.imul, 37, 36) := by decide +kernel
theorem c424_37 : fx_op 424 37 = some (.iload_n 2, 38, 37) := by decide +kernel
theorem c424_38 : fx_op 424 38 = some (.iadd, 39, 38) := by decide +kernel
theorem c424_39 : fx_op 424 39 = some (.iaload, 40, 39) := by decide +kernel
theorem c424_40 : fx_op 424 40 = some (.ireturn, 41, 40) := by decide +kernel
theorem s424_0 {kc : List va_E} {d : Nat} {x1 x2 : Int} {M : fx_M} {Q : Option fx_V → fx_M → Prop} (H : ((fx_in32 x1)) ∧ (0 ≤ x1 → (fx_in32 x1)) ∧ (0 ≤ x1 → x1 < 32 → (fx_in32 x2)) ∧ (0 ≤ x1 → x1 < 32 → 0 ≤ x2 → (fx_in32 x2)) ∧ (0 ≤ x1 → x1 < 32 → 0 ≤ x2 → x2 < 32 → ((((0 : Int) ≤ (32 * x1) + x2 ∧ (32 * x1) + x2 < 1024)))) ∧ Q (some (jI (if x1 < 0 then ((-1) : Int) else (if x1 < 32 then ((if x2 < 0 then ((-1) : Int) else (if x2 < 32 then (M 188 ((32 * x1) + x2) : Int) else (-1))) : Int) else (-1))))) (fx_up M 133 0 0)) : wp kc (d + 1) 424 0 [some (jR 133), some (jI x1), some (jI x2)] [] M Q :=
  (x_aldn c424_0 rfl (x_ci c424_1 (x_pfi c424_2 k_133_0 (x_ildn c424_5 rfl (have K : wp kc (d + 1) 424 40 [none, none, none] [jI (if x1 < 0 then ((-1) : Int) else (if x1 < 32 then ((if x2 < 0 then ((-1) : Int) else (if x2 < 32 then (M 188 ((32 * x1) + x2) : Int) else (-1))) : Int) else (-1)))] (fx_up M 133 0 0) Q := (x_irt c424_40 r424 H.2.2.2.2.2); (x_zlt c424_6 H.1 (fun (h1 : x1 < 0) => (x_ci c424_25 (x_goto c424_26 (wp_wk (l' := [none, none, none]) trivial (by have K := K; first | (simp only [if_pos h1] at K ⊢; exact K) | (exfalso; omega)))))) (fun (h2 : 0 ≤ x1) => (x_ildn c424_9 rfl (x_ci c424_10 (x_cge c424_12 (H.2.1 h2) (by decide) (fun (h3 : 32 ≤ x1) => (x_ci c424_25 (x_goto c424_26 (wp_wk (l' := [none, none, none]) trivial (by have K := K; first | (simp only [if_neg (Int.not_lt.mpr h2), if_neg (Int.not_lt.mpr h3)] at K ⊢; exact K) | (exfalso; omega)))))) (fun (h4 : x1 < 32) => (x_ildn c424_15 rfl (x_zlt c424_16 (H.2.2.1 h2 h4) (fun (h5 : x2 < 0) => (x_ci c424_25 (x_goto c424_26 (wp_wk (l' := [none, none, none]) trivial (by have K := K; first | (simp only [if_neg (Int.not_lt.mpr h2), if_pos h4, if_pos h5] at K ⊢; exact K) | (exfalso; omega)))))) (fun (h6 : 0 ≤ x2) => (x_ildn c424_19 rfl (x_ci c424_20 (x_clt c424_22 (H.2.2.2.1 h2 h4 h6) (by decide) (fun (h7 : x2 < 32) => (x_aldn c424_29 rfl (x_gfr c424_30 k_133_97 (x_ci c424_33 (x_ildn c424_35 rfl (x_imul c424_36 (x_ildn c424_37 rfl (x_iadd c424_38 (x_iald c424_39 a_188 (H.2.2.2.2.1 h2 h4 h6 h7) (by decide) (wp_vI (fx_upA (by decide)) (wp_wk (l' := [none, none, none]) trivial (by have K := K; first | (simp only [if_neg (Int.not_lt.mpr h2), if_pos h4, if_neg (Int.not_lt.mpr h6), if_pos h7] at K ⊢; exact K) | (exfalso; omega))))))))))))) (fun (h8 : 32 ≤ x2) => (x_ci c424_25 (x_goto c424_26 (wp_wk (l' := [none, none, none]) trivial (by have K := K; first | (simp only [if_neg (Int.not_lt.mpr h2), if_pos h4, if_neg (Int.not_lt.mpr h6), if_neg (Int.not_lt.mpr h8)] at K ⊢; exact K) | (exfalso; omega)))))))))))))))))))))))
theorem s424 {kc : List va_E} {d : Nat} {x1 x2 : Int} {M : fx_M} {Q : Option fx_V → fx_M → Prop} (H : ((fx_in32 x1)) ∧ (0 ≤ x1 → (fx_in32 x1)) ∧ (0 ≤ x1 → x1 < 32 → (fx_in32 x2)) ∧ (0 ≤ x1 → x1 < 32 → 0 ≤ x2 → (fx_in32 x2)) ∧ (0 ≤ x1 → x1 < 32 → 0 ≤ x2 → x2 < 32 → ((((0 : Int) ≤ (32 * x1) + x2 ∧ (32 * x1) + x2 < 1024)))) ∧ Q (some (jI (if x1 < 0 then ((-1) : Int) else (if x1 < 32 then ((if x2 < 0 then ((-1) : Int) else (if x2 < 32 then (M 188 ((32 * x1) + x2) : Int) else (-1))) : Int) else (-1))))) (fx_up M 133 0 0)) : wc kc (d + 1) 424 [jR 133, jI x1, jI x2] M Q :=
  wc_of (wp_wk (l' := [some (jR 133), some (jI x1), some (jI x2)]) ⟨rfl, ⟨rfl, ⟨rfl, trivial⟩⟩⟩ (s424_0 H))

theorem c425_0 : fx_op 425 0 = some (.aload_n 0, 1, 0) := by decide +kernel
theorem c425_1 : fx_ci 425 1 = some (0, 2) := by decide +kernel
theorem c425_2 : fx_pf 425 2 = some (12, 0, 0, 5) := by decide +kernel
theorem c425_5 : fx_op 425 5 = some (.iload_n 1, 6, 5) := by decide +kernel
theorem c425_6 : fx_op 425 6 = some (.ifCond .lt 31, 9, 37) := by decide +kernel
theorem c425_37 : fx_ci 425 37 = some (0, 38) := by decide +kernel
theorem c425_9 : fx_op 425 9 = some (.iload_n 1, 10, 9) := by decide +kernel
theorem c425_10 : fx_ci 425 10 = some (32, 12) := by decide +kernel
theorem c425_12 : fx_op 425 12 = some (.if_icmp .ge 25, 15, 37) := by decide +kernel
theorem c425_15 : fx_op 425 15 = some (.iload_n 2, 16, 15) := by decide +kernel
theorem c425_16 : fx_op 425 16 = some (.ifCond .lt 21, 19, 37) := by decide +kernel
theorem c425_19 : fx_op 425 19 = some (.iload_n 2, 20, 19) := by decide +kernel
theorem c425_20 : fx_ci 425 20 = some (32, 22) := by decide +kernel
theorem c425_22 : fx_op 425 22 = some (.if_icmp .ge 15, 25, 37) := by decide +kernel
theorem c425_25 : fx_op 425 25 = some (.iload_n 3, 26, 25) := by decide +kernel
theorem c425_26 : fx_ci 425 26 = some (1, 27) := by decide +kernel
theorem c425_27 : fx_op 425 27 = some (.if_icmp .lt 10, 30, 37) := by decide +kernel
theorem c425_30 : fx_op 425 30 = some (.iload_n 3, 31, 30) := by decide +kernel
theorem c425_31 : fx_ci 425 31 = some (255, 34) := by decide +kernel
theorem c425_34 : fx_op 425 34 = some (.if_icmp .le 5, 37, 39) := by decide +kernel
theorem c425_39 : fx_op 425 39 = some (.aload_n 0, 40, 39) := by decide +kernel
theorem c425_40 : fx_gf 425 40 = some (12, 97, 43) := by decide +kernel
theorem c425_43 : fx_ci 425 43 = some (32, 45) := by decide +kernel
theorem c425_45 : fx_op 425 45 = some (.iload_n 1, 46, 45) := by decide +kernel
theorem c425_46 : fx_op 425 46 = some (.imul, 47, 46) := by decide +kernel
theorem c425_47 : fx_op 425 47 = some (.iload_n 2, 48, 47) := by decide +kernel
theorem c425_48 : fx_op 425 48 = some (.iadd, 49, 48) := by decide +kernel
theorem c425_49 : fx_op 425 49 = some (.aload_n 0, 50, 49) := by decide +kernel
theorem c425_50 : fx_gf 425 50 = some (12, 97, 53) := by decide +kernel
theorem c425_53 : fx_ci 425 53 = some (32, 55) := by decide +kernel
theorem c425_55 : fx_op 425 55 = some (.iload_n 1, 56, 55) := by decide +kernel
theorem c425_56 : fx_op 425 56 = some (.imul, 57, 56) := by decide +kernel
theorem c425_57 : fx_op 425 57 = some (.iload_n 2, 58, 57) := by decide +kernel
theorem c425_58 : fx_op 425 58 = some (.iadd, 59, 58) := by decide +kernel
theorem c425_60 : fx_op 425 60 = some (.iload_n 3, 61, 60) := by decide +kernel
theorem c425_61 : fx_op 425 61 = some (.ixor, 62, 61) := by decide +kernel
theorem c425_63 : fx_op 425 63 = some (.aload_n 0, 64, 63) := by decide +kernel
theorem c425_64 : fx_ci 425 64 = some (0, 65) := by decide +kernel
theorem c425_65 : fx_pf 425 65 = some (12, 96, 2, 68) := by decide +kernel
theorem c425_68 : fx_ci 425 68 = some (1, 69) := by decide +kernel
theorem c425_38 : fx_op 425 38 = some (.ireturn, 39, 38) := by decide +kernel
theorem c425_59 : fx_op 425 59 = some (.iaload, 60, 59) := by decide +kernel
theorem c425_62 : fx_op 425 62 = some (.iastore, 63, 62) := by decide +kernel
theorem c425_69 : fx_op 425 69 = some (.ireturn, 70, 69) := by decide +kernel
theorem s425_0 {kc : List va_E} {d : Nat} {x1 x2 x3 : Int} {M : fx_M} {Q : Option fx_V → fx_M → Prop} (H : ((fx_in32 x1)) ∧ (x1 < 0 → Q (some (jI 0)) (fx_up M 133 0 0)) ∧ (0 ≤ x1 → ((fx_in32 x1)) ∧ (32 ≤ x1 → Q (some (jI 0)) (fx_up M 133 0 0)) ∧ (x1 < 32 → ((fx_in32 x2)) ∧ (x2 < 0 → Q (some (jI 0)) (fx_up M 133 0 0)) ∧ (0 ≤ x2 → ((fx_in32 x2)) ∧ (32 ≤ x2 → Q (some (jI 0)) (fx_up M 133 0 0)) ∧ (x2 < 32 → ((fx_in32 x3)) ∧ (x3 < 1 → Q (some (jI 0)) (fx_up M 133 0 0)) ∧ (1 ≤ x3 → ((fx_in32 x3)) ∧ (x3 ≤ 255 → (((0 : Int) ≤ (32 * x1) + x2 ∧ (32 * x1) + x2 < 1024)) ∧ (((0 : Int) ≤ (32 * x1) + x2 ∧ (32 * x1) + x2 < 1024)) ∧ Q (some (jI 1)) (fx_up (fx_up (fx_up M 133 0 0) 188 ((32 * x1) + x2) (fx_xor (M 188 ((32 * x1) + x2)) x3)) 133 96 0)) ∧ (255 < x3 → Q (some (jI 0)) (fx_up M 133 0 0)))))))) : wp kc (d + 1) 425 0 [some (jR 133), some (jI x1), some (jI x2), some (jI x3)] [] M Q :=
  (x_aldn c425_0 rfl (x_ci c425_1 (x_pfi c425_2 k_133_0 (x_ildn c425_5 rfl (x_zlt c425_6 H.1 (fun h11 => (x_ci c425_37 (x_zrt c425_38 r425 (by decide) (H.2.1 h11)))) (fun h12 => (x_ildn c425_9 rfl (x_ci c425_10 (x_cge c425_12 (H.2.2 h12).1 (by decide) (fun h9 => (x_ci c425_37 (x_zrt c425_38 r425 (by decide) ((H.2.2 h12).2.1 h9)))) (fun h10 => (x_ildn c425_15 rfl (x_zlt c425_16 ((H.2.2 h12).2.2 h10).1 (fun h7 => (x_ci c425_37 (x_zrt c425_38 r425 (by decide) (((H.2.2 h12).2.2 h10).2.1 h7)))) (fun h8 => (x_ildn c425_19 rfl (x_ci c425_20 (x_cge c425_22 (((H.2.2 h12).2.2 h10).2.2 h8).1 (by decide) (fun h5 => (x_ci c425_37 (x_zrt c425_38 r425 (by decide) ((((H.2.2 h12).2.2 h10).2.2 h8).2.1 h5)))) (fun h6 => (x_ildn c425_25 rfl (x_ci c425_26 (x_clt c425_27 ((((H.2.2 h12).2.2 h10).2.2 h8).2.2 h6).1 (by decide) (fun h3 => (x_ci c425_37 (x_zrt c425_38 r425 (by decide) (((((H.2.2 h12).2.2 h10).2.2 h8).2.2 h6).2.1 h3)))) (fun h4 => (x_ildn c425_30 rfl (x_ci c425_31 (x_cle c425_34 (((((H.2.2 h12).2.2 h10).2.2 h8).2.2 h6).2.2 h4).1 (by decide) (fun h1 => (x_aldn c425_39 rfl (x_gfr c425_40 k_133_97 (x_ci c425_43 (x_ildn c425_45 rfl (x_imul c425_46 (x_ildn c425_47 rfl (x_iadd c425_48 (x_aldn c425_49 rfl (x_gfr c425_50 k_133_97 (x_ci c425_53 (x_ildn c425_55 rfl (x_imul c425_56 (x_ildn c425_57 rfl (x_iadd c425_58 (x_iald c425_59 a_188 ((((((H.2.2 h12).2.2 h10).2.2 h8).2.2 h6).2.2 h4).2.1 h1).1 (by decide) (wp_vI (fx_upA (by decide)) (x_ildn c425_60 rfl (x_ixor c425_61 (x_iast c425_62 a_188 ((((((H.2.2 h12).2.2 h10).2.2 h8).2.2 h6).2.2 h4).2.1 h1).2.1 (by decide) (x_aldn c425_63 rfl (x_ci c425_64 (x_pfz c425_65 k_133_96 (by decide) (x_ci c425_68 (x_zrt c425_69 r425 (by decide) ((((((H.2.2 h12).2.2 h10).2.2 h8).2.2 h6).2.2 h4).2.1 h1).2.2))))))))))))))))))))))))) (fun h2 => (x_ci c425_37 (x_zrt c425_38 r425 (by decide) ((((((H.2.2 h12).2.2 h10).2.2 h8).2.2 h6).2.2 h4).2.2 h2))))))))))))))))))))))))))))
theorem s425 {kc : List va_E} {d : Nat} {x1 x2 x3 : Int} {M : fx_M} {Q : Option fx_V → fx_M → Prop} (H : ((fx_in32 x1)) ∧ (x1 < 0 → Q (some (jI 0)) (fx_up M 133 0 0)) ∧ (0 ≤ x1 → ((fx_in32 x1)) ∧ (32 ≤ x1 → Q (some (jI 0)) (fx_up M 133 0 0)) ∧ (x1 < 32 → ((fx_in32 x2)) ∧ (x2 < 0 → Q (some (jI 0)) (fx_up M 133 0 0)) ∧ (0 ≤ x2 → ((fx_in32 x2)) ∧ (32 ≤ x2 → Q (some (jI 0)) (fx_up M 133 0 0)) ∧ (x2 < 32 → ((fx_in32 x3)) ∧ (x3 < 1 → Q (some (jI 0)) (fx_up M 133 0 0)) ∧ (1 ≤ x3 → ((fx_in32 x3)) ∧ (x3 ≤ 255 → (((0 : Int) ≤ (32 * x1) + x2 ∧ (32 * x1) + x2 < 1024)) ∧ (((0 : Int) ≤ (32 * x1) + x2 ∧ (32 * x1) + x2 < 1024)) ∧ Q (some (jI 1)) (fx_up (fx_up (fx_up M 133 0 0) 188 ((32 * x1) + x2) (fx_xor (M 188 ((32 * x1) + x2)) x3)) 133 96 0)) ∧ (255 < x3 → Q (some (jI 0)) (fx_up M 133 0 0)))))))) : wc kc (d + 1) 425 [jR 133, jI x1, jI x2, jI x3] M Q :=
  wc_of (wp_wk (l' := [some (jR 133), some (jI x1), some (jI x2), some (jI x3)]) ⟨rfl, ⟨rfl, ⟨rfl, ⟨rfl, trivial⟩⟩⟩⟩ (s425_0 H))

