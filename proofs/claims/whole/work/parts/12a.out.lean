/-! SEGMENTS of Out (by gen/emit_segs.py) -/
/- PuzzleHouse$Out.clear()V -/
theorem c63_0 : fx_op 63 0 = some (.aload_n 0, 1, 0) := by decide +kernel
theorem c63_1 : fx_ci 63 1 = some (0, 2) := by decide +kernel
theorem c63_2 : fx_pf 63 2 = some (1, 1, 0, 5) := by decide +kernel
theorem c63_5 : fx_op 63 5 = some (.return_, 6, 5) := by decide +kernel
theorem s63_0 {kc : List va_E} {d : Nat} {o : Nat} {M : fx_M} {Q : Option fx_V → fx_M → Prop} (Ho : fx_out o) (H : Q none (fx_up M o 1 0)) : wp kc (d + 1) 63 0 [some (jR o)] [] M Q :=
  (x_aldn c63_0 rfl (x_ci c63_1 (x_pfi c63_2 (ko_1 Ho) (x_vr c63_5 r63 H))))
theorem s63 {kc : List va_E} {d : Nat} {o : Nat} {M : fx_M} {Q : Option fx_V → fx_M → Prop} (Ho : fx_out o) (H : Q none (fx_up M o 1 0)) : wc kc (d + 1) 63 [jR o] M Q :=
  wc_of (wp_wk (l' := [some (jR o)]) ⟨rfl, trivial⟩ (s63_0 Ho H))

/- PuzzleHouse$Out.put(Ljava/lang/String;)V -/
theorem c64_0 : fx_ci 64 0 = some (0, 1) := by decide +kernel
theorem c64_1 : fx_op 64 1 = some (.istore_n 2, 2, 1) := by decide +kernel
theorem c64_2 : fx_op 64 2 = some (.iload_n 2, 3, 2) := by decide +kernel
theorem c64_3 : fx_op 64 3 = some (.aload_n 1, 4, 3) := by decide +kernel
theorem c64_4 : fx_ca 64 4 = some (21, 1, 2, 7) := by decide +kernel
theorem c64_7 : fx_op 64 7 = some (.if_icmp .ge 45, 10, 52) := by decide +kernel
theorem c64_10 : fx_op 64 10 = some (.aload_n 0, 11, 10) := by decide +kernel
theorem c64_11 : fx_gf 64 11 = some (1, 1, 14) := by decide +kernel
theorem c64_14 : fx_op 64 14 = some (.aload_n 0, 15, 14) := by decide +kernel
theorem c64_15 : fx_gf 64 15 = some (1, 0, 18) := by decide +kernel
theorem c64_18 : fx_op 64 18 = some (.arraylength, 19, 18) := by decide +kernel
theorem c64_19 : fx_op 64 19 = some (.if_icmp .ge 33, 22, 52) := by decide +kernel
theorem c64_22 : fx_op 64 22 = some (.aload_n 0, 23, 22) := by decide +kernel
theorem c64_23 : fx_gf 64 23 = some (1, 0, 26) := by decide +kernel
theorem c64_26 : fx_op 64 26 = some (.aload_n 0, 27, 26) := by decide +kernel
theorem c64_27 : fx_gf 64 27 = some (1, 1, 30) := by decide +kernel
theorem c64_30 : fx_op 64 30 = some (.aload_n 1, 31, 30) := by decide +kernel
theorem c64_31 : fx_op 64 31 = some (.iload_n 2, 32, 31) := by decide +kernel
theorem c64_52 : fx_op 64 52 = some (.return_, 53, 52) := by decide +kernel
theorem c64_32 : fx_ca 64 32 = some (23, 2, 2, 35) := by decide +kernel
theorem c64_36 : fx_op 64 36 = some (.aload_n 0, 37, 36) := by decide +kernel
theorem c64_37 : fx_op 64 37 = some (.dup, 38, 37) := by decide +kernel
theorem c64_38 : fx_gf 64 38 = some (1, 1, 41) := by decide +kernel
theorem c64_41 : fx_ci 64 41 = some (1, 42) := by decide +kernel
theorem c64_42 : fx_op 64 42 = some (.iadd, 43, 42) := by decide +kernel
theorem c64_43 : fx_pf 64 43 = some (1, 1, 0, 46) := by decide +kernel
theorem c64_46 : fx_op 64 46 = some (.iinc 2 1, 49, 46) := by decide +kernel
theorem c64_35 : fx_op 64 35 = some (.castore, 36, 35) := by decide +kernel
theorem c64_49 : fx_op 64 49 = some (.goto (-47), 52, 2) := by decide +kernel
theorem s64_0 {kc : List va_E} {d : Nat} {o w : Nat} {M : fx_M} {Q : Option fx_V → fx_M → Prop} (Ho : fx_out o) (H : wp kc (d + 1) 64 2 [some (jR o), some (jR w), some (jI 0)] [] M Q) : wp kc (d + 1) 64 0 [some (jR o), some (jR w), none] [] M Q :=
  (x_ci c64_0 (x_istn (l' := [some (jR o), some (jR w), some (jI 0)]) c64_1 rfl (wp_wk (l' := [some (jR o), some (jR w), some (jI 0)]) ⟨rfl, ⟨rfl, ⟨rfl, trivial⟩⟩⟩ H)))
theorem s64_2 {kc : List va_E} {d : Nat} {o w : Nat} {v2 : Int} {M : fx_M} {Q : Option fx_V → fx_M → Prop} (Ho : fx_out o) (H : fx_lit kc w ∧ wc kc d 21 [jR w] M (fun v M1 => wp kc (d + 1) 64 7 [some (jR o), some (jR w), some (jI v2)] (v.toList ++ [jI v2]) M1 Q)) : wp kc (d + 1) 64 2 [some (jR o), some (jR w), some (jI v2)] [] M Q :=
  (x_ildn c64_2 rfl (x_aldn c64_3 rfl (wp_wk (l' := [some (jR o), some (jR w), some (jI v2)]) ⟨rfl, ⟨rfl, ⟨rfl, trivial⟩⟩⟩ (x_cl (b := w) (As := []) (st := [jI v2]) c64_4 kl21 H.1 rfl (Nat.le_of_ble_eq_true rfl) mx21 (Nat.le_refl _) H.2))))
theorem s64_7 {kc : List va_E} {d : Nat} {o w : Nat} {v2 u0 u1 : Int} {M : fx_M} {Q : Option fx_V → fx_M → Prop} (Ho : fx_out o) (H : ((fx_in32 u1) ∧ (fx_in32 u0)) ∧ (u0 ≤ u1 → Q none M) ∧ (u1 < u0 → ((fx_in32 (M o 1)) ∧ (fx_in32 ((fx_ol o : Nat) : Int))) ∧ (((fx_ol o : Nat) : Int) ≤ M o 1 → Q none M) ∧ (M o 1 < ((fx_ol o : Nat) : Int) → fx_lit kc w ∧ wc kc d 23 [jR w, jI v2] M (fun v M1 => wp kc (d + 1) 64 35 [some (jR o), some (jR w), some (jI v2)] (v.toList ++ [jI (M o 1), jR (o + 1)]) M1 Q)))) : wp kc (d + 1) 64 7 [some (jR o), some (jR w), some (jI v2)] [jI u0, jI u1] M Q :=
  (x_cge c64_7 H.1.1 H.1.2 (fun h3 => (x_vr c64_52 r64 (H.2.1 h3))) (fun h4 => (x_aldn c64_10 rfl (x_gfi c64_11 (ko_1 Ho) (x_aldn c64_14 rfl (x_gfr c64_15 (ko_0 Ho) (x_len c64_18 (ao_1 Ho) (x_cge c64_19 (H.2.2 h4).1.1 (H.2.2 h4).1.2 (fun h1 => (x_vr c64_52 r64 ((H.2.2 h4).2.1 h1))) (fun h2 => (x_aldn c64_22 rfl (x_gfr c64_23 (ko_0 Ho) (x_aldn c64_26 rfl (x_gfi c64_27 (ko_1 Ho) (x_aldn c64_30 rfl (x_ildn c64_31 rfl (wp_wk (l' := [some (jR o), some (jR w), some (jI v2)]) ⟨rfl, ⟨rfl, ⟨rfl, trivial⟩⟩⟩ (x_cl (b := w) (As := [jI v2]) (st := [jI (M o 1), jR (o + 1)]) c64_32 kl23 ((H.2.2 h4).2.2 h2).1 rfl (Nat.le_of_ble_eq_true rfl) mx23 (Nat.le_refl _) ((H.2.2 h4).2.2 h2).2)))))))))))))))))
theorem s64_35 {kc : List va_E} {d : Nat} {o w : Nat} {v2 u0 u1 : Int} {M : fx_M} {Q : Option fx_V → fx_M → Prop} (Ho : fx_out o) (H : (((0 : Int) ≤ u1 ∧ u1 < (fx_ol o : Nat)) ∧ ((0 : Int) ≤ u0 ∧ u0 ≤ 65535)) ∧ wp kc (d + 1) 64 2 [some (jR o), some (jR w), some (jI (v2 + 1))] [] (fx_up (fx_up M (o + 1) u1 u0) o 1 ((M o 1) + 1)) Q) : wp kc (d + 1) 64 35 [some (jR o), some (jR w), some (jI v2)] [jI u0, jI u1, jR (o + 1)] M Q :=
  (x_cast c64_35 (ao_1 Ho) H.1.1 (fx_ol_le _) H.1.2 (x_aldn c64_36 rfl (x_dupr c64_37 (x_gfi c64_38 (ko_1 Ho) (wp_vI (fx_upA (by omega)) (x_ci c64_41 (x_iadd c64_42 (x_pfi c64_43 (ko_1 Ho) (x_inc (l' := [some (jR o), some (jR w), some (jI (v2 + 1))]) c64_46 rfl rfl (x_goto c64_49 (wp_wk (l' := [some (jR o), some (jR w), some (jI (v2 + 1))]) ⟨rfl, ⟨rfl, ⟨rfl, trivial⟩⟩⟩ H.2)))))))))))
theorem s64 {kc : List va_E} {d : Nat} {o w : Nat} {M : fx_M} {Q : Option fx_V → fx_M → Prop} (Ho : fx_out o) (H : wp kc (d + 1) 64 2 [some (jR o), some (jR w), some (jI 0)] [] M Q) : wc kc (d + 1) 64 [jR o, jR w] M Q :=
  wc_of (wp_wk (l' := [some (jR o), some (jR w), none]) ⟨rfl, ⟨rfl, trivial⟩⟩ (s64_0 Ho H))

/- PuzzleHouse$Out.number(I)V -/
theorem c65_0 : fx_ci 65 0 = some (1, 1) := by decide +kernel
theorem c65_1 : fx_op 65 1 = some (.istore_n 2, 2, 1) := by decide +kernel
theorem c65_2 : fx_ci 65 2 = some (0, 3) := by decide +kernel
theorem c65_3 : fx_op 65 3 = some (.istore_n 3, 4, 3) := by decide +kernel
theorem c65_4 : fx_op 65 4 = some (.iload_n 3, 5, 4) := by decide +kernel
theorem c65_5 : fx_ci 65 5 = some (8, 7) := by decide +kernel
theorem c65_7 : fx_op 65 7 = some (.if_icmp .ge 22, 10, 29) := by decide +kernel
theorem c65_10 : fx_op 65 10 = some (.iload_n 1, 11, 10) := by decide +kernel
theorem c65_11 : fx_op 65 11 = some (.iload_n 2, 12, 11) := by decide +kernel
theorem c65_12 : fx_op 65 12 = some (.idiv, 13, 12) := by decide +kernel
theorem c65_13 : fx_ci 65 13 = some (10, 15) := by decide +kernel
theorem c65_15 : fx_op 65 15 = some (.if_icmp .lt 14, 18, 29) := by decide +kernel
theorem c65_18 : fx_op 65 18 = some (.iload_n 2, 19, 18) := by decide +kernel
theorem c65_19 : fx_ci 65 19 = some (10, 21) := by decide +kernel
theorem c65_21 : fx_op 65 21 = some (.imul, 22, 21) := by decide +kernel
theorem c65_22 : fx_op 65 22 = some (.istore_n 2, 23, 22) := by decide +kernel
theorem c65_23 : fx_op 65 23 = some (.iinc 3 1, 26, 23) := by decide +kernel
theorem c65_26 : fx_op 65 26 = some (.goto (-22), 29, 4) := by decide +kernel
theorem c65_29 : fx_op 65 29 = some (.iload_n 2, 30, 29) := by decide +kernel
theorem c65_30 : fx_op 65 30 = some (.ifCond .le 52, 33, 82) := by decide +kernel
theorem c65_33 : fx_op 65 33 = some (.aload_n 0, 34, 33) := by decide +kernel
theorem c65_34 : fx_gf 65 34 = some (1, 1, 37) := by decide +kernel
theorem c65_37 : fx_op 65 37 = some (.aload_n 0, 38, 37) := by decide +kernel
theorem c65_38 : fx_gf 65 38 = some (1, 0, 41) := by decide +kernel
theorem c65_41 : fx_op 65 41 = some (.arraylength, 42, 41) := by decide +kernel
theorem c65_42 : fx_op 65 42 = some (.if_icmp .ge 40, 45, 82) := by decide +kernel
theorem c65_45 : fx_op 65 45 = some (.aload_n 0, 46, 45) := by decide +kernel
theorem c65_46 : fx_gf 65 46 = some (1, 0, 49) := by decide +kernel
theorem c65_49 : fx_op 65 49 = some (.aload_n 0, 50, 49) := by decide +kernel
theorem c65_50 : fx_gf 65 50 = some (1, 1, 53) := by decide +kernel
theorem c65_53 : fx_ci 65 53 = some (48, 55) := by decide +kernel
theorem c65_55 : fx_op 65 55 = some (.iload_n 1, 56, 55) := by decide +kernel
theorem c65_56 : fx_op 65 56 = some (.iload_n 2, 57, 56) := by decide +kernel
theorem c65_57 : fx_op 65 57 = some (.idiv, 58, 57) := by decide +kernel
theorem c65_58 : fx_ci 65 58 = some (10, 60) := by decide +kernel
theorem c65_60 : fx_op 65 60 = some (.irem, 61, 60) := by decide +kernel
theorem c65_61 : fx_op 65 61 = some (.iadd, 62, 61) := by decide +kernel
theorem c65_62 : fx_op 65 62 = some (.i2c, 63, 62) := by decide +kernel
theorem c65_64 : fx_op 65 64 = some (.aload_n 0, 65, 64) := by decide +kernel
theorem c65_65 : fx_op 65 65 = some (.dup, 66, 65) := by decide +kernel
theorem c65_66 : fx_gf 65 66 = some (1, 1, 69) := by decide +kernel
theorem c65_69 : fx_ci 65 69 = some (1, 70) := by decide +kernel
theorem c65_70 : fx_op 65 70 = some (.iadd, 71, 70) := by decide +kernel
theorem c65_71 : fx_pf 65 71 = some (1, 1, 0, 74) := by decide +kernel
theorem c65_74 : fx_op 65 74 = some (.iload_n 2, 75, 74) := by decide +kernel
theorem c65_75 : fx_ci 65 75 = some (10, 77) := by decide +kernel
theorem c65_78 : fx_op 65 78 = some (.istore_n 2, 79, 78) := by decide +kernel
theorem c65_82 : fx_op 65 82 = some (.return_, 83, 82) := by decide +kernel
theorem c65_63 : fx_op 65 63 = some (.castore, 64, 63) := by decide +kernel
theorem c65_77 : fx_op 65 77 = some (.idiv, 78, 77) := by decide +kernel
theorem c65_79 : fx_op 65 79 = some (.goto (-50), 82, 29) := by decide +kernel
theorem s65_0 {kc : List va_E} {d : Nat} {o : Nat} {x1 : Int} {M : fx_M} {Q : Option fx_V → fx_M → Prop} (Ho : fx_out o) (H : wp kc (d + 1) 65 4 [some (jR o), some (jI x1), some (jI 1), some (jI 0)] [] M Q) : wp kc (d + 1) 65 0 [some (jR o), some (jI x1), none, none] [] M Q :=
  (x_ci c65_0 (x_istn (l' := [some (jR o), some (jI x1), some (jI 1), none]) c65_1 rfl (x_ci c65_2 (x_istn (l' := [some (jR o), some (jI x1), some (jI 1), some (jI 0)]) c65_3 rfl (wp_wk (l' := [some (jR o), some (jI x1), some (jI 1), some (jI 0)]) ⟨rfl, ⟨rfl, ⟨rfl, ⟨rfl, trivial⟩⟩⟩⟩ H)))))
theorem s65_4 {kc : List va_E} {d : Nat} {o : Nat} {v1 v2 v3 : Int} {M : fx_M} {Q : Option fx_V → fx_M → Prop} (Ho : fx_out o) (H : ((fx_in32 v3)) ∧ (8 ≤ v3 → wp kc (d + 1) 65 29 [some (jR o), some (jI v1), some (jI v2), none] [] M Q) ∧ (v3 < 8 → (((0 : Int) ≤ v1 ∧ v1 ≤ 2147483647) ∧ ((0 : Int) < v2 ∧ v2 ≤ 2147483647)) ∧ ((fx_in32 (v1 / v2))) ∧ (v1 / v2 < 10 → wp kc (d + 1) 65 29 [some (jR o), some (jI v1), some (jI v2), none] [] M Q) ∧ (10 ≤ v1 / v2 → wp kc (d + 1) 65 4 [some (jR o), some (jI v1), some (jI (v2 * 10)), some (jI (v3 + 1))] [] M Q))) : wp kc (d + 1) 65 4 [some (jR o), some (jI v1), some (jI v2), some (jI v3)] [] M Q :=
  (x_ildn c65_4 rfl (x_ci c65_5 (x_cge c65_7 H.1 (by decide) (fun h3 => (wp_wk (l' := [some (jR o), some (jI v1), some (jI v2), none]) ⟨rfl, ⟨rfl, ⟨rfl, trivial⟩⟩⟩ (H.2.1 h3))) (fun h4 => (x_ildn c65_10 rfl (x_ildn c65_11 rfl (x_idiv c65_12 (H.2.2 h4).1.1 (H.2.2 h4).1.2 (x_ci c65_13 (x_clt c65_15 (H.2.2 h4).2.1 (by decide) (fun h1 => (wp_wk (l' := [some (jR o), some (jI v1), some (jI v2), none]) ⟨rfl, ⟨rfl, ⟨rfl, trivial⟩⟩⟩ ((H.2.2 h4).2.2.1 h1))) (fun h2 => (x_ildn c65_18 rfl (x_ci c65_19 (x_imul c65_21 (x_istn (l' := [some (jR o), some (jI v1), some (jI (v2 * 10)), some (jI v3)]) c65_22 rfl (x_inc (l' := [some (jR o), some (jI v1), some (jI (v2 * 10)), some (jI (v3 + 1))]) c65_23 rfl rfl (x_goto c65_26 (wp_wk (l' := [some (jR o), some (jI v1), some (jI (v2 * 10)), some (jI (v3 + 1))]) ⟨rfl, ⟨rfl, ⟨rfl, ⟨rfl, trivial⟩⟩⟩⟩ ((H.2.2 h4).2.2.2 h2))))))))))))))))))
theorem s65_29 {kc : List va_E} {d : Nat} {o : Nat} {v1 v2 : Int} {M : fx_M} {Q : Option fx_V → fx_M → Prop} (Ho : fx_out o) (H : ((fx_in32 v2)) ∧ (v2 ≤ 0 → Q none M) ∧ (0 < v2 → ((fx_in32 (M o 1)) ∧ (fx_in32 ((fx_ol o : Nat) : Int))) ∧ (((fx_ol o : Nat) : Int) ≤ M o 1 → Q none M) ∧ (M o 1 < ((fx_ol o : Nat) : Int) → (((0 : Int) ≤ v1 ∧ v1 ≤ 2147483647) ∧ ((0 : Int) < v2 ∧ v2 ≤ 2147483647)) ∧ (((0 : Int) ≤ v1 / v2 ∧ v1 / v2 ≤ 2147483647)) ∧ (((0 : Int) ≤ M o 1 ∧ M o 1 < (fx_ol o : Nat)) ∧ ((0 : Int) ≤ (48 + ((v1 / v2) % 10)) % 65536 ∧ (48 + ((v1 / v2) % 10)) % 65536 ≤ 65535)) ∧ (((0 : Int) ≤ v2 ∧ v2 ≤ 2147483647)) ∧ wp kc (d + 1) 65 29 [some (jR o), some (jI v1), some (jI (v2 / 10)), none] [] (fx_up (fx_up M (o + 1) (M o 1) ((48 + ((v1 / v2) % 10)) % 65536)) o 1 ((M o 1) + 1)) Q))) : wp kc (d + 1) 65 29 [some (jR o), some (jI v1), some (jI v2), none] [] M Q :=
  (x_ildn c65_29 rfl (x_zle c65_30 H.1 (fun h3 => (x_vr c65_82 r65 (H.2.1 h3))) (fun h4 => (x_aldn c65_33 rfl (x_gfi c65_34 (ko_1 Ho) (x_aldn c65_37 rfl (x_gfr c65_38 (ko_0 Ho) (x_len c65_41 (ao_1 Ho) (x_cge c65_42 (H.2.2 h4).1.1 (H.2.2 h4).1.2 (fun h1 => (x_vr c65_82 r65 ((H.2.2 h4).2.1 h1))) (fun h2 => (x_aldn c65_45 rfl (x_gfr c65_46 (ko_0 Ho) (x_aldn c65_49 rfl (x_gfi c65_50 (ko_1 Ho) (x_ci c65_53 (x_ildn c65_55 rfl (x_ildn c65_56 rfl (x_idiv c65_57 ((H.2.2 h4).2.2 h2).1.1 ((H.2.2 h4).2.2 h2).1.2 (x_ci c65_58 (x_irem c65_60 ((H.2.2 h4).2.2 h2).2.1 (by decide) (x_iadd c65_61 (x_i2c c65_62 (x_cast c65_63 (ao_1 Ho) ((H.2.2 h4).2.2 h2).2.2.1.1 (fx_ol_le _) ((H.2.2 h4).2.2 h2).2.2.1.2 (x_aldn c65_64 rfl (x_dupr c65_65 (x_gfi c65_66 (ko_1 Ho) (wp_vI (fx_upA (by omega)) (x_ci c65_69 (x_iadd c65_70 (x_pfi c65_71 (ko_1 Ho) (x_ildn c65_74 rfl (x_ci c65_75 (x_idiv c65_77 ((H.2.2 h4).2.2 h2).2.2.2.1 (by decide) (x_istn (l' := [some (jR o), some (jI v1), some (jI (v2 / 10)), none]) c65_78 rfl (x_goto c65_79 (wp_wk (l' := [some (jR o), some (jI v1), some (jI (v2 / 10)), none]) ⟨rfl, ⟨rfl, ⟨rfl, trivial⟩⟩⟩ ((H.2.2 h4).2.2 h2).2.2.2.2))))))))))))))))))))))))))))))))))))
theorem s65 {kc : List va_E} {d : Nat} {o : Nat} {x1 : Int} {M : fx_M} {Q : Option fx_V → fx_M → Prop} (Ho : fx_out o) (H : wp kc (d + 1) 65 4 [some (jR o), some (jI x1), some (jI 1), some (jI 0)] [] M Q) : wc kc (d + 1) 65 [jR o, jI x1] M Q :=
  wc_of (wp_wk (l' := [some (jR o), some (jI x1), none, none]) ⟨rfl, ⟨rfl, trivial⟩⟩ (s65_0 Ho H))

/- PuzzleHouse$Out.put(C)V -/
theorem c69_0 : fx_op 69 0 = some (.aload_n 0, 1, 0) := by decide +kernel
theorem c69_1 : fx_gf 69 1 = some (1, 1, 4) := by decide +kernel
theorem c69_4 : fx_op 69 4 = some (.aload_n 0, 5, 4) := by decide +kernel
theorem c69_5 : fx_gf 69 5 = some (1, 0, 8) := by decide +kernel
theorem c69_8 : fx_op 69 8 = some (.arraylength, 9, 8) := by decide +kernel
theorem c69_9 : fx_op 69 9 = some (.if_icmp .ge 23, 12, 32) := by decide +kernel
theorem c69_12 : fx_op 69 12 = some (.aload_n 0, 13, 12) := by decide +kernel
theorem c69_13 : fx_gf 69 13 = some (1, 0, 16) := by decide +kernel
theorem c69_16 : fx_op 69 16 = some (.aload_n 0, 17, 16) := by decide +kernel
theorem c69_17 : fx_gf 69 17 = some (1, 1, 20) := by decide +kernel
theorem c69_20 : fx_op 69 20 = some (.iload_n 1, 21, 20) := by decide +kernel
theorem c69_22 : fx_op 69 22 = some (.aload_n 0, 23, 22) := by decide +kernel
theorem c69_23 : fx_op 69 23 = some (.dup, 24, 23) := by decide +kernel
theorem c69_24 : fx_gf 69 24 = some (1, 1, 27) := by decide +kernel
theorem c69_27 : fx_ci 69 27 = some (1, 28) := by decide +kernel
theorem c69_28 : fx_op 69 28 = some (.iadd, 29, 28) := by decide +kernel
theorem c69_29 : fx_pf 69 29 = some (1, 1, 0, 32) := by decide +kernel
theorem c69_32 : fx_op 69 32 = some (.return_, 33, 32) := by decide +kernel
theorem c69_21 : fx_op 69 21 = some (.castore, 22, 21) := by decide +kernel
theorem s69_0 {kc : List va_E} {d : Nat} {o : Nat} {x1 : Int} {M : fx_M} {Q : Option fx_V → fx_M → Prop} (Ho : fx_out o) (H : ((fx_in32 (M o 1)) ∧ (fx_in32 ((fx_ol o : Nat) : Int))) ∧ (((fx_ol o : Nat) : Int) ≤ M o 1 → Q none M) ∧ (M o 1 < ((fx_ol o : Nat) : Int) → (((0 : Int) ≤ M o 1 ∧ M o 1 < (fx_ol o : Nat)) ∧ ((0 : Int) ≤ x1 ∧ x1 ≤ 65535)) ∧ Q none (fx_up (fx_up M (o + 1) (M o 1) x1) o 1 ((M o 1) + 1)))) : wp kc (d + 1) 69 0 [some (jR o), some (jI x1)] [] M Q :=
  (x_aldn c69_0 rfl (x_gfi c69_1 (ko_1 Ho) (x_aldn c69_4 rfl (x_gfr c69_5 (ko_0 Ho) (x_len c69_8 (ao_1 Ho) (x_cge c69_9 H.1.1 H.1.2 (fun h1 => (x_vr c69_32 r69 (H.2.1 h1))) (fun h2 => (x_aldn c69_12 rfl (x_gfr c69_13 (ko_0 Ho) (x_aldn c69_16 rfl (x_gfi c69_17 (ko_1 Ho) (x_ildn c69_20 rfl (x_cast c69_21 (ao_1 Ho) (H.2.2 h2).1.1 (fx_ol_le _) (H.2.2 h2).1.2 (x_aldn c69_22 rfl (x_dupr c69_23 (x_gfi c69_24 (ko_1 Ho) (wp_vI (fx_upA (by omega)) (x_ci c69_27 (x_iadd c69_28 (x_pfi c69_29 (ko_1 Ho) (x_vr c69_32 r69 (H.2.2 h2).2)))))))))))))))))))))
theorem s69 {kc : List va_E} {d : Nat} {o : Nat} {x1 : Int} {M : fx_M} {Q : Option fx_V → fx_M → Prop} (Ho : fx_out o) (H : ((fx_in32 (M o 1)) ∧ (fx_in32 ((fx_ol o : Nat) : Int))) ∧ (((fx_ol o : Nat) : Int) ≤ M o 1 → Q none M) ∧ (M o 1 < ((fx_ol o : Nat) : Int) → (((0 : Int) ≤ M o 1 ∧ M o 1 < (fx_ol o : Nat)) ∧ ((0 : Int) ≤ x1 ∧ x1 ≤ 65535)) ∧ Q none (fx_up (fx_up M (o + 1) (M o 1) x1) o 1 ((M o 1) + 1)))) : wc kc (d + 1) 69 [jR o, jI x1] M Q :=
  wc_of (wp_wk (l' := [some (jR o), some (jI x1)]) ⟨rfl, ⟨rfl, trivial⟩⟩ (s69_0 Ho H))

/- PuzzleHouse$Out.literals(CII)V -/
theorem c107_0 : fx_ci 107 0 = some (0, 1) := by decide +kernel
theorem c107_1 : fx_op 107 1 = some (.istore 4, 3, 1) := by decide +kernel
theorem c107_3 : fx_op 107 3 = some (.iload 4, 5, 3) := by decide +kernel
theorem c107_5 : fx_ci 107 5 = some (4, 6) := by decide +kernel
theorem c107_6 : fx_op 107 6 = some (.if_icmp .ge 111, 9, 117) := by decide +kernel
theorem c107_9 : fx_op 107 9 = some (.iload_n 3, 10, 9) := by decide +kernel
theorem c107_10 : fx_op 107 10 = some (.iload 4, 12, 10) := by decide +kernel
theorem c107_12 : fx_op 107 12 = some (.ishr, 13, 12) := by decide +kernel
theorem c107_13 : fx_ci 107 13 = some (1, 14) := by decide +kernel
theorem c107_14 : fx_op 107 14 = some (.iand, 15, 14) := by decide +kernel
theorem c107_15 : fx_op 107 15 = some (.ifCond .eq 96, 18, 111) := by decide +kernel
theorem c107_111 : fx_op 107 111 = some (.iinc 4 1, 114, 111) := by decide +kernel
theorem c107_18 : fx_op 107 18 = some (.aload_n 0, 19, 18) := by decide +kernel
theorem c107_19 : fx_gf 107 19 = some (1, 1, 22) := by decide +kernel
theorem c107_22 : fx_ci 107 22 = some (5, 23) := by decide +kernel
theorem c107_23 : fx_op 107 23 = some (.iadd, 24, 23) := by decide +kernel
theorem c107_24 : fx_op 107 24 = some (.aload_n 0, 25, 24) := by decide +kernel
theorem c107_25 : fx_gf 107 25 = some (1, 0, 28) := by decide +kernel
theorem c107_28 : fx_op 107 28 = some (.arraylength, 29, 28) := by decide +kernel
theorem c107_29 : fx_op 107 29 = some (.if_icmp .gt 82, 32, 111) := by decide +kernel
theorem c107_32 : fx_op 107 32 = some (.aload_n 0, 33, 32) := by decide +kernel
theorem c107_33 : fx_gf 107 33 = some (1, 0, 36) := by decide +kernel
theorem c107_36 : fx_op 107 36 = some (.aload_n 0, 37, 36) := by decide +kernel
theorem c107_37 : fx_gf 107 37 = some (1, 1, 40) := by decide +kernel
theorem c107_40 : fx_ci 107 40 = some (32, 42) := by decide +kernel
theorem c107_43 : fx_op 107 43 = some (.aload_n 0, 44, 43) := by decide +kernel
theorem c107_44 : fx_gf 107 44 = some (1, 0, 47) := by decide +kernel
theorem c107_47 : fx_op 107 47 = some (.aload_n 0, 48, 47) := by decide +kernel
theorem c107_48 : fx_gf 107 48 = some (1, 1, 51) := by decide +kernel
theorem c107_51 : fx_ci 107 51 = some (1, 52) := by decide +kernel
theorem c107_52 : fx_op 107 52 = some (.iadd, 53, 52) := by decide +kernel
theorem c107_53 : fx_op 107 53 = some (.iload_n 1, 54, 53) := by decide +kernel
theorem c107_55 : fx_op 107 55 = some (.aload_n 0, 56, 55) := by decide +kernel
theorem c107_56 : fx_gf 107 56 = some (1, 0, 59) := by decide +kernel
theorem c107_59 : fx_op 107 59 = some (.aload_n 0, 60, 59) := by decide +kernel
theorem c107_60 : fx_gf 107 60 = some (1, 1, 63) := by decide +kernel
theorem c107_63 : fx_ci 107 63 = some (2, 64) := by decide +kernel
theorem c107_64 : fx_op 107 64 = some (.iadd, 65, 64) := by decide +kernel
theorem c107_65 : fx_ci 107 65 = some (48, 67) := by decide +kernel
theorem c107_67 : fx_op 107 67 = some (.iload_n 2, 68, 67) := by decide +kernel
theorem c107_68 : fx_op 107 68 = some (.iadd, 69, 68) := by decide +kernel
theorem c107_69 : fx_op 107 69 = some (.i2c, 70, 69) := by decide +kernel
theorem c107_71 : fx_op 107 71 = some (.aload_n 0, 72, 71) := by decide +kernel
theorem c107_72 : fx_gf 107 72 = some (1, 0, 75) := by decide +kernel
theorem c107_75 : fx_op 107 75 = some (.aload_n 0, 76, 75) := by decide +kernel
theorem c107_76 : fx_gf 107 76 = some (1, 1, 79) := by decide +kernel
theorem c107_79 : fx_ci 107 79 = some (3, 80) := by decide +kernel
theorem c107_80 : fx_op 107 80 = some (.iadd, 81, 80) := by decide +kernel
theorem c107_81 : fx_ci 107 81 = some (46, 83) := by decide +kernel
theorem c107_84 : fx_op 107 84 = some (.aload_n 0, 85, 84) := by decide +kernel
theorem c107_85 : fx_gf 107 85 = some (1, 0, 88) := by decide +kernel
theorem c107_88 : fx_op 107 88 = some (.aload_n 0, 89, 88) := by decide +kernel
theorem c107_89 : fx_gf 107 89 = some (1, 1, 92) := by decide +kernel
theorem c107_92 : fx_ci 107 92 = some (4, 93) := by decide +kernel
theorem c107_93 : fx_op 107 93 = some (.iadd, 94, 93) := by decide +kernel
theorem c107_94 : fx_ci 107 94 = some (48, 96) := by decide +kernel
theorem c107_96 : fx_op 107 96 = some (.iload 4, 98, 96) := by decide +kernel
theorem c107_98 : fx_op 107 98 = some (.iadd, 99, 98) := by decide +kernel
theorem c107_99 : fx_op 107 99 = some (.i2c, 100, 99) := by decide +kernel
theorem c107_101 : fx_op 107 101 = some (.aload_n 0, 102, 101) := by decide +kernel
theorem c107_102 : fx_op 107 102 = some (.dup, 103, 102) := by decide +kernel
theorem c107_103 : fx_gf 107 103 = some (1, 1, 106) := by decide +kernel
theorem c107_106 : fx_ci 107 106 = some (5, 107) := by decide +kernel
theorem c107_107 : fx_op 107 107 = some (.iadd, 108, 107) := by decide +kernel
theorem c107_108 : fx_pf 107 108 = some (1, 1, 0, 111) := by decide +kernel
theorem c107_117 : fx_op 107 117 = some (.return_, 118, 117) := by decide +kernel
theorem c107_114 : fx_op 107 114 = some (.goto (-111), 117, 3) := by decide +kernel
theorem c107_42 : fx_op 107 42 = some (.castore, 43, 42) := by decide +kernel
theorem c107_54 : fx_op 107 54 = some (.castore, 55, 54) := by decide +kernel
theorem c107_70 : fx_op 107 70 = some (.castore, 71, 70) := by decide +kernel
theorem c107_83 : fx_op 107 83 = some (.castore, 84, 83) := by decide +kernel
theorem c107_100 : fx_op 107 100 = some (.castore, 101, 100) := by decide +kernel
theorem s107_0 {kc : List va_E} {d : Nat} {o : Nat} {x1 x2 x3 : Int} {M : fx_M} {Q : Option fx_V → fx_M → Prop} (Ho : fx_out o) (H : wp kc (d + 1) 107 3 [some (jR o), some (jI x1), some (jI x2), some (jI x3), some (jI 0)] [] M Q) : wp kc (d + 1) 107 0 [some (jR o), some (jI x1), some (jI x2), some (jI x3), none] [] M Q :=
  (x_ci c107_0 (x_ist (l' := [some (jR o), some (jI x1), some (jI x2), some (jI x3), some (jI 0)]) c107_1 rfl (wp_wk (l' := [some (jR o), some (jI x1), some (jI x2), some (jI x3), some (jI 0)]) ⟨rfl, ⟨rfl, ⟨rfl, ⟨rfl, ⟨rfl, trivial⟩⟩⟩⟩⟩ H)))
theorem s107_3 {kc : List va_E} {d : Nat} {o : Nat} {v1 v2 v3 v4 : Int} {M : fx_M} {Q : Option fx_V → fx_M → Prop} (Ho : fx_out o) (H : ((fx_in32 v4)) ∧ (4 ≤ v4 → Q none M) ∧ (v4 < 4 → ((fx_in32 (fx_and (fx_shr v3 v4) 1))) ∧ (fx_and (fx_shr v3 v4) 1 = 0 → wp kc (d + 1) 107 3 [some (jR o), some (jI v1), some (jI v2), some (jI v3), some (jI (v4 + 1))] [] M Q) ∧ (fx_and (fx_shr v3 v4) 1 ≠ 0 → ((fx_in32 ((M o 1) + 5)) ∧ (fx_in32 ((fx_ol o : Nat) : Int))) ∧ (((fx_ol o : Nat) : Int) < (M o 1) + 5 → wp kc (d + 1) 107 3 [some (jR o), some (jI v1), some (jI v2), some (jI v3), some (jI (v4 + 1))] [] M Q) ∧ ((M o 1) + 5 ≤ ((fx_ol o : Nat) : Int) → (((0 : Int) ≤ M o 1 ∧ M o 1 < (fx_ol o : Nat))) ∧ (((0 : Int) ≤ (M o 1) + 1 ∧ (M o 1) + 1 < (fx_ol o : Nat)) ∧ ((0 : Int) ≤ v1 ∧ v1 ≤ 65535)) ∧ (((0 : Int) ≤ (M o 1) + 2 ∧ (M o 1) + 2 < (fx_ol o : Nat)) ∧ ((0 : Int) ≤ (48 + v2) % 65536 ∧ (48 + v2) % 65536 ≤ 65535)) ∧ (((0 : Int) ≤ (M o 1) + 3 ∧ (M o 1) + 3 < (fx_ol o : Nat))) ∧ (((0 : Int) ≤ (M o 1) + 4 ∧ (M o 1) + 4 < (fx_ol o : Nat)) ∧ ((0 : Int) ≤ (48 + v4) % 65536 ∧ (48 + v4) % 65536 ≤ 65535)) ∧ wp kc (d + 1) 107 3 [some (jR o), some (jI v1), some (jI v2), some (jI v3), some (jI (v4 + 1))] [] (fx_up (fx_up (fx_up (fx_up (fx_up (fx_up M (o + 1) (M o 1) 32) (o + 1) ((M o 1) + 1) v1) (o + 1) ((M o 1) + 2) ((48 + v2) % 65536)) (o + 1) ((M o 1) + 3) 46) (o + 1) ((M o 1) + 4) ((48 + v4) % 65536)) o 1 ((M o 1) + 5)) Q)))) : wp kc (d + 1) 107 3 [some (jR o), some (jI v1), some (jI v2), some (jI v3), some (jI v4)] [] M Q :=
  (x_ild c107_3 rfl (x_ci c107_5 (x_cge c107_6 H.1 (by decide) (fun h5 => (x_vr c107_117 r107 (H.2.1 h5))) (fun h6 => (x_ildn c107_9 rfl (x_ild c107_10 rfl (x_ishr c107_12 (x_ci c107_13 (x_iand c107_14 (x_zeq c107_15 (H.2.2 h6).1 (fun h3 => (x_inc (l' := [some (jR o), some (jI v1), some (jI v2), some (jI v3), some (jI (v4 + 1))]) c107_111 rfl rfl (x_goto c107_114 (wp_wk (l' := [some (jR o), some (jI v1), some (jI v2), some (jI v3), some (jI (v4 + 1))]) ⟨rfl, ⟨rfl, ⟨rfl, ⟨rfl, ⟨rfl, trivial⟩⟩⟩⟩⟩ ((H.2.2 h6).2.1 h3))))) (fun h4 => (x_aldn c107_18 rfl (x_gfi c107_19 (ko_1 Ho) (x_ci c107_22 (x_iadd c107_23 (x_aldn c107_24 rfl (x_gfr c107_25 (ko_0 Ho) (x_len c107_28 (ao_1 Ho) (x_cgt c107_29 ((H.2.2 h6).2.2 h4).1.1 ((H.2.2 h6).2.2 h4).1.2 (fun h1 => (x_inc (l' := [some (jR o), some (jI v1), some (jI v2), some (jI v3), some (jI (v4 + 1))]) c107_111 rfl rfl (x_goto c107_114 (wp_wk (l' := [some (jR o), some (jI v1), some (jI v2), some (jI v3), some (jI (v4 + 1))]) ⟨rfl, ⟨rfl, ⟨rfl, ⟨rfl, ⟨rfl, trivial⟩⟩⟩⟩⟩ (((H.2.2 h6).2.2 h4).2.1 h1))))) (fun h2 => (x_aldn c107_32 rfl (x_gfr c107_33 (ko_0 Ho) (x_aldn c107_36 rfl (x_gfi c107_37 (ko_1 Ho) (x_ci c107_40 (x_cast c107_42 (ao_1 Ho) (((H.2.2 h6).2.2 h4).2.2 h2).1 (fx_ol_le _) (by decide) (x_aldn c107_43 rfl (x_gfr c107_44 (ko_0 Ho) (x_aldn c107_47 rfl (x_gfi c107_48 (ko_1 Ho) (wp_vI (fx_upA (by omega)) (x_ci c107_51 (x_iadd c107_52 (x_ildn c107_53 rfl (x_cast c107_54 (ao_1 Ho) (((H.2.2 h6).2.2 h4).2.2 h2).2.1.1 (fx_ol_le _) (((H.2.2 h6).2.2 h4).2.2 h2).2.1.2 (x_aldn c107_55 rfl (x_gfr c107_56 (ko_0 Ho) (x_aldn c107_59 rfl (x_gfi c107_60 (ko_1 Ho) (wp_vI (((fx_upA (by omega)).trans (fx_upA (by omega)))) (x_ci c107_63 (x_iadd c107_64 (x_ci c107_65 (x_ildn c107_67 rfl (x_iadd c107_68 (x_i2c c107_69 (x_cast c107_70 (ao_1 Ho) (((H.2.2 h6).2.2 h4).2.2 h2).2.2.1.1 (fx_ol_le _) (((H.2.2 h6).2.2 h4).2.2 h2).2.2.1.2 (x_aldn c107_71 rfl (x_gfr c107_72 (ko_0 Ho) (x_aldn c107_75 rfl (x_gfi c107_76 (ko_1 Ho) (wp_vI (((fx_upA (by omega)).trans ((fx_upA (by omega)).trans (fx_upA (by omega))))) (x_ci c107_79 (x_iadd c107_80 (x_ci c107_81 (x_cast c107_83 (ao_1 Ho) (((H.2.2 h6).2.2 h4).2.2 h2).2.2.2.1 (fx_ol_le _) (by decide) (x_aldn c107_84 rfl (x_gfr c107_85 (ko_0 Ho) (x_aldn c107_88 rfl (x_gfi c107_89 (ko_1 Ho) (wp_vI (((fx_upA (by omega)).trans ((fx_upA (by omega)).trans ((fx_upA (by omega)).trans (fx_upA (by omega)))))) (x_ci c107_92 (x_iadd c107_93 (x_ci c107_94 (x_ild c107_96 rfl (x_iadd c107_98 (x_i2c c107_99 (x_cast c107_100 (ao_1 Ho) (((H.2.2 h6).2.2 h4).2.2 h2).2.2.2.2.1.1 (fx_ol_le _) (((H.2.2 h6).2.2 h4).2.2 h2).2.2.2.2.1.2 (x_aldn c107_101 rfl (x_dupr c107_102 (x_gfi c107_103 (ko_1 Ho) (wp_vI (((fx_upA (by omega)).trans ((fx_upA (by omega)).trans ((fx_upA (by omega)).trans ((fx_upA (by omega)).trans (fx_upA (by omega))))))) (x_ci c107_106 (x_iadd c107_107 (x_pfi c107_108 (ko_1 Ho) (x_inc (l' := [some (jR o), some (jI v1), some (jI v2), some (jI v3), some (jI (v4 + 1))]) c107_111 rfl rfl (x_goto c107_114 (wp_wk (l' := [some (jR o), some (jI v1), some (jI v2), some (jI v3), some (jI (v4 + 1))]) ⟨rfl, ⟨rfl, ⟨rfl, ⟨rfl, ⟨rfl, trivial⟩⟩⟩⟩⟩ (((H.2.2 h6).2.2 h4).2.2 h2).2.2.2.2.2))))))))))))))))))))))))))))))))))))))))))))))))))))))))))))))))))))))))))))))
theorem s107 {kc : List va_E} {d : Nat} {o : Nat} {x1 x2 x3 : Int} {M : fx_M} {Q : Option fx_V → fx_M → Prop} (Ho : fx_out o) (H : wp kc (d + 1) 107 3 [some (jR o), some (jI x1), some (jI x2), some (jI x3), some (jI 0)] [] M Q) : wc kc (d + 1) 107 [jR o, jI x1, jI x2, jI x3] M Q :=
  wc_of (wp_wk (l' := [some (jR o), some (jI x1), some (jI x2), some (jI x3), none]) ⟨rfl, ⟨rfl, ⟨rfl, ⟨rfl, trivial⟩⟩⟩⟩ (s107_0 Ho H))
