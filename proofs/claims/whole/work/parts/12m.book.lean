/-! SEGMENTS of Book (by gen/emit_segs.py) -/
/- PuzzleHouse$Book.entryOf([CII)I -/
theorem c178_0 : fx_ci 178 0 = some (0, 1) := by decide +kernel
theorem c178_1 : fx_op 178 1 = some (.istore 4, 3, 1) := by decide +kernel
theorem c178_3 : fx_op 178 3 = some (.iload 4, 5, 3) := by decide +kernel
theorem c178_5 : fx_op 178 5 = some (.aload_n 0, 6, 5) := by decide +kernel
theorem c178_6 : fx_ca 178 6 = some (179, 1, 2, 9) := by decide +kernel
theorem c178_9 : fx_op 178 9 = some (.if_icmp .ge 73, 12, 82) := by decide +kernel
theorem c178_82 : fx_ci 178 82 = some ((-1), 83) := by decide +kernel
theorem c178_12 : fx_op 178 12 = some (.aload_n 0, 13, 12) := by decide +kernel
theorem c178_13 : fx_op 178 13 = some (.iload 4, 15, 13) := by decide +kernel
theorem c178_83 : fx_op 178 83 = some (.ireturn, 84, 83) := by decide +kernel
theorem c178_15 : fx_ca 178 15 = some (428, 2, 2, 18) := by decide +kernel
theorem c178_18 : fx_op 178 18 = some (.istore 5, 20, 18) := by decide +kernel
theorem c178_20 : fx_ci 178 20 = some (0, 21) := by decide +kernel
theorem c178_21 : fx_op 178 21 = some (.istore 6, 23, 21) := by decide +kernel
theorem c178_23 : fx_op 178 23 = some (.iload 6, 25, 23) := by decide +kernel
theorem c178_25 : fx_op 178 25 = some (.iload_n 3, 26, 25) := by decide +kernel
theorem c178_26 : fx_op 178 26 = some (.if_icmp .ge 30, 29, 56) := by decide +kernel
theorem c178_29 : fx_op 178 29 = some (.aload_n 0, 30, 29) := by decide +kernel
theorem c178_30 : fx_gf 178 30 = some (11, 0, 33) := by decide +kernel
theorem c178_33 : fx_op 178 33 = some (.iload 5, 35, 33) := by decide +kernel
theorem c178_35 : fx_ci 178 35 = some (1, 36) := by decide +kernel
theorem c178_36 : fx_op 178 36 = some (.iadd, 37, 36) := by decide +kernel
theorem c178_37 : fx_op 178 37 = some (.iload 6, 39, 37) := by decide +kernel
theorem c178_39 : fx_op 178 39 = some (.iadd, 40, 39) := by decide +kernel
theorem c178_40 : fx_op 178 40 = some (.caload, 41, 40) := by decide +kernel
theorem c178_41 : fx_op 178 41 = some (.aload_n 1, 42, 41) := by decide +kernel
theorem c178_42 : fx_op 178 42 = some (.iload_n 2, 43, 42) := by decide +kernel
theorem c178_43 : fx_op 178 43 = some (.iload 6, 45, 43) := by decide +kernel
theorem c178_45 : fx_op 178 45 = some (.iadd, 46, 45) := by decide +kernel
theorem c178_46 : fx_op 178 46 = some (.caload, 47, 46) := by decide +kernel
theorem c178_47 : fx_op 178 47 = some (.if_icmp .ne 9, 50, 56) := by decide +kernel
theorem c178_50 : fx_op 178 50 = some (.iinc 6 1, 53, 50) := by decide +kernel
theorem c178_56 : fx_op 178 56 = some (.iload 6, 58, 56) := by decide +kernel
theorem c178_58 : fx_op 178 58 = some (.iload_n 3, 59, 58) := by decide +kernel
theorem c178_59 : fx_op 178 59 = some (.if_icmp .ne 17, 62, 76) := by decide +kernel
theorem c178_76 : fx_op 178 76 = some (.iinc 4 1, 79, 76) := by decide +kernel
theorem c178_62 : fx_op 178 62 = some (.aload_n 0, 63, 62) := by decide +kernel
theorem c178_63 : fx_gf 178 63 = some (11, 0, 66) := by decide +kernel
theorem c178_66 : fx_op 178 66 = some (.iload 5, 68, 66) := by decide +kernel
theorem c178_69 : fx_op 178 69 = some (.iload_n 3, 70, 69) := by decide +kernel
theorem c178_70 : fx_op 178 70 = some (.if_icmp .ne 6, 73, 76) := by decide +kernel
theorem c178_73 : fx_op 178 73 = some (.iload 4, 75, 73) := by decide +kernel
theorem c178_79 : fx_op 178 79 = some (.goto (-76), 82, 3) := by decide +kernel
theorem c178_68 : fx_op 178 68 = some (.caload, 69, 68) := by decide +kernel
theorem c178_75 : fx_op 178 75 = some (.ireturn, 76, 75) := by decide +kernel
theorem c178_53 : fx_op 178 53 = some (.goto (-30), 56, 23) := by decide +kernel
theorem s178_0 {kc : List va_E} {d : Nat} {x2 x3 : Int} {M : fx_M} {Q : Option fx_V → fx_M → Prop} (H : wp kc (d + 1) 178 3 [some (jR 125), some (jR 2), some (jI x2), some (jI x3), some (jI 0), none, none] [] M Q) : wp kc (d + 1) 178 0 [some (jR 125), some (jR 2), some (jI x2), some (jI x3), none, none, none] [] M Q :=
  (x_ci c178_0 (x_ist (l' := [some (jR 125), some (jR 2), some (jI x2), some (jI x3), some (jI 0), none, none]) c178_1 rfl (wp_wk (l' := [some (jR 125), some (jR 2), some (jI x2), some (jI x3), some (jI 0), none, none]) ⟨rfl, ⟨rfl, ⟨rfl, ⟨rfl, ⟨rfl, trivial⟩⟩⟩⟩⟩ H)))
theorem s178_3 {kc : List va_E} {d : Nat} {v2 v3 v4 : Int} {M : fx_M} {Q : Option fx_V → fx_M → Prop} (H : wc kc d 179 [jR 125] M (fun v M1 => wp kc (d + 1) 178 9 [some (jR 125), some (jR 2), some (jI v2), some (jI v3), some (jI v4), none, none] (v.toList ++ [jI v4]) M1 Q)) : wp kc (d + 1) 178 3 [some (jR 125), some (jR 2), some (jI v2), some (jI v3), some (jI v4), none, none] [] M Q :=
  (x_ild c178_3 rfl (x_aldn c178_5 rfl (wp_wk (l' := [some (jR 125), some (jR 2), some (jI v2), some (jI v3), some (jI v4), none, none]) ⟨rfl, ⟨rfl, ⟨rfl, ⟨rfl, ⟨rfl, trivial⟩⟩⟩⟩⟩ (x_cv (As := []) (st := [jI v4]) c178_6 cl_125 kl179 rfl (Nat.le_of_ble_eq_true rfl) mx179 (Nat.le_refl _) H))))
theorem s178_9 {kc : List va_E} {d : Nat} {v2 v3 v4 u0 u1 : Int} {M : fx_M} {Q : Option fx_V → fx_M → Prop} (H : ((fx_in32 u1) ∧ (fx_in32 u0)) ∧ (u0 ≤ u1 → Q (some (jI (-1))) M) ∧ (u1 < u0 → wc kc d 428 [jR 125, jI v4] M (fun v M1 => wp kc (d + 1) 178 18 [some (jR 125), some (jR 2), some (jI v2), some (jI v3), some (jI v4), none, none] (v.toList ++ []) M1 Q))) : wp kc (d + 1) 178 9 [some (jR 125), some (jR 2), some (jI v2), some (jI v3), some (jI v4), none, none] [jI u0, jI u1] M Q :=
  (x_cge c178_9 H.1.1 H.1.2 (fun h1 => (x_ci c178_82 (x_irt c178_83 r178 (H.2.1 h1)))) (fun h2 => (x_aldn c178_12 rfl (x_ild c178_13 rfl (wp_wk (l' := [some (jR 125), some (jR 2), some (jI v2), some (jI v3), some (jI v4), none, none]) ⟨rfl, ⟨rfl, ⟨rfl, ⟨rfl, ⟨rfl, trivial⟩⟩⟩⟩⟩ (x_cv (As := [jI v4]) (st := []) c178_15 cl_125 kl428 rfl (Nat.le_of_ble_eq_true rfl) mx428 (Nat.le_refl _) (H.2.2 h2)))))))
theorem s178_18 {kc : List va_E} {d : Nat} {v2 v3 v4 u0 : Int} {M : fx_M} {Q : Option fx_V → fx_M → Prop} (H : wp kc (d + 1) 178 23 [some (jR 125), some (jR 2), some (jI v2), some (jI v3), some (jI v4), some (jI u0), some (jI 0)] [] M Q) : wp kc (d + 1) 178 18 [some (jR 125), some (jR 2), some (jI v2), some (jI v3), some (jI v4), none, none] [jI u0] M Q :=
  (x_ist (l' := [some (jR 125), some (jR 2), some (jI v2), some (jI v3), some (jI v4), some (jI u0), none]) c178_18 rfl (x_ci c178_20 (x_ist (l' := [some (jR 125), some (jR 2), some (jI v2), some (jI v3), some (jI v4), some (jI u0), some (jI 0)]) c178_21 rfl (wp_wk (l' := [some (jR 125), some (jR 2), some (jI v2), some (jI v3), some (jI v4), some (jI u0), some (jI 0)]) ⟨rfl, ⟨rfl, ⟨rfl, ⟨rfl, ⟨rfl, ⟨rfl, ⟨rfl, trivial⟩⟩⟩⟩⟩⟩⟩ H))))
theorem s178_23 {kc : List va_E} {d : Nat} {v2 v3 v4 v5 v6 : Int} {M : fx_M} {Q : Option fx_V → fx_M → Prop} (H : ((fx_in32 v6) ∧ (fx_in32 v3)) ∧ (v3 ≤ v6 → ((fx_in32 v6) ∧ (fx_in32 v3)) ∧ (v6 ≠ v3 → wp kc (d + 1) 178 3 [some (jR 125), some (jR 2), some (jI v2), some (jI v3), some (jI (v4 + 1)), none, none] [] M Q) ∧ (v6 = v3 → (((0 : Int) ≤ v5 ∧ v5 < 1024)) ∧ ((fx_in32 (M 126 v5)) ∧ (fx_in32 v3)) ∧ (M 126 v5 ≠ v3 → wp kc (d + 1) 178 3 [some (jR 125), some (jR 2), some (jI v2), some (jI v3), some (jI (v4 + 1)), none, none] [] M Q) ∧ (M 126 v5 = v3 → Q (some (jI v4)) M))) ∧ (v6 < v3 → (((0 : Int) ≤ (v5 + 1) + v6 ∧ (v5 + 1) + v6 < 1024)) ∧ (((0 : Int) ≤ v2 + v6 ∧ v2 + v6 < 5606)) ∧ ((fx_in32 (M 126 ((v5 + 1) + v6))) ∧ (fx_in32 (M 2 (v2 + v6)))) ∧ (M 126 ((v5 + 1) + v6) ≠ M 2 (v2 + v6) → ((fx_in32 v6) ∧ (fx_in32 v3)) ∧ (v6 ≠ v3 → wp kc (d + 1) 178 3 [some (jR 125), some (jR 2), some (jI v2), some (jI v3), some (jI (v4 + 1)), none, none] [] M Q) ∧ (v6 = v3 → (((0 : Int) ≤ v5 ∧ v5 < 1024)) ∧ ((fx_in32 (M 126 v5)) ∧ (fx_in32 v3)) ∧ (M 126 v5 ≠ v3 → wp kc (d + 1) 178 3 [some (jR 125), some (jR 2), some (jI v2), some (jI v3), some (jI (v4 + 1)), none, none] [] M Q) ∧ (M 126 v5 = v3 → Q (some (jI v4)) M))) ∧ (M 126 ((v5 + 1) + v6) = M 2 (v2 + v6) → wp kc (d + 1) 178 23 [some (jR 125), some (jR 2), some (jI v2), some (jI v3), some (jI v4), some (jI v5), some (jI (v6 + 1))] [] M Q))) : wp kc (d + 1) 178 23 [some (jR 125), some (jR 2), some (jI v2), some (jI v3), some (jI v4), some (jI v5), some (jI v6)] [] M Q :=
  (x_ild c178_23 rfl (x_ildn c178_25 rfl (x_cge c178_26 H.1.1 H.1.2 (fun h11 => (x_ild c178_56 rfl (x_ildn c178_58 rfl (x_cne c178_59 (H.2.1 h11).1.1 (H.2.1 h11).1.2 (fun h3 => (x_inc (l' := [some (jR 125), some (jR 2), some (jI v2), some (jI v3), some (jI (v4 + 1)), some (jI v5), some (jI v6)]) c178_76 rfl rfl (x_goto c178_79 (wp_wk (l' := [some (jR 125), some (jR 2), some (jI v2), some (jI v3), some (jI (v4 + 1)), none, none]) ⟨rfl, ⟨rfl, ⟨rfl, ⟨rfl, ⟨rfl, trivial⟩⟩⟩⟩⟩ ((H.2.1 h11).2.1 h3))))) (fun h4 => (x_aldn c178_62 rfl (x_gfr c178_63 k_125_0 (x_ild c178_66 rfl (x_cald c178_68 a_126 ((H.2.1 h11).2.2 h4).1 (by decide) (x_ildn c178_69 rfl (x_cne c178_70 ((H.2.1 h11).2.2 h4).2.1.1 ((H.2.1 h11).2.2 h4).2.1.2 (fun h1 => (x_inc (l' := [some (jR 125), some (jR 2), some (jI v2), some (jI v3), some (jI (v4 + 1)), some (jI v5), some (jI v6)]) c178_76 rfl rfl (x_goto c178_79 (wp_wk (l' := [some (jR 125), some (jR 2), some (jI v2), some (jI v3), some (jI (v4 + 1)), none, none]) ⟨rfl, ⟨rfl, ⟨rfl, ⟨rfl, ⟨rfl, trivial⟩⟩⟩⟩⟩ (((H.2.1 h11).2.2 h4).2.2.1 h1))))) (fun h2 => (x_ild c178_73 rfl (x_irt c178_75 r178 (((H.2.1 h11).2.2 h4).2.2.2 h2))))))))))))))) (fun h12 => (x_aldn c178_29 rfl (x_gfr c178_30 k_125_0 (x_ild c178_33 rfl (x_ci c178_35 (x_iadd c178_36 (x_ild c178_37 rfl (x_iadd c178_39 (x_cald c178_40 a_126 (H.2.2 h12).1 (by decide) (x_aldn c178_41 rfl (x_ildn c178_42 rfl (x_ild c178_43 rfl (x_iadd c178_45 (x_cald c178_46 a_2 (H.2.2 h12).2.1 (by decide) (x_cne c178_47 (H.2.2 h12).2.2.1.1 (H.2.2 h12).2.2.1.2 (fun h9 => (x_ild c178_56 rfl (x_ildn c178_58 rfl (x_cne c178_59 ((H.2.2 h12).2.2.2.1 h9).1.1 ((H.2.2 h12).2.2.2.1 h9).1.2 (fun h7 => (x_inc (l' := [some (jR 125), some (jR 2), some (jI v2), some (jI v3), some (jI (v4 + 1)), some (jI v5), some (jI v6)]) c178_76 rfl rfl (x_goto c178_79 (wp_wk (l' := [some (jR 125), some (jR 2), some (jI v2), some (jI v3), some (jI (v4 + 1)), none, none]) ⟨rfl, ⟨rfl, ⟨rfl, ⟨rfl, ⟨rfl, trivial⟩⟩⟩⟩⟩ (((H.2.2 h12).2.2.2.1 h9).2.1 h7))))) (fun h8 => (x_aldn c178_62 rfl (x_gfr c178_63 k_125_0 (x_ild c178_66 rfl (x_cald c178_68 a_126 (((H.2.2 h12).2.2.2.1 h9).2.2 h8).1 (by decide) (x_ildn c178_69 rfl (x_cne c178_70 (((H.2.2 h12).2.2.2.1 h9).2.2 h8).2.1.1 (((H.2.2 h12).2.2.2.1 h9).2.2 h8).2.1.2 (fun h5 => (x_inc (l' := [some (jR 125), some (jR 2), some (jI v2), some (jI v3), some (jI (v4 + 1)), some (jI v5), some (jI v6)]) c178_76 rfl rfl (x_goto c178_79 (wp_wk (l' := [some (jR 125), some (jR 2), some (jI v2), some (jI v3), some (jI (v4 + 1)), none, none]) ⟨rfl, ⟨rfl, ⟨rfl, ⟨rfl, ⟨rfl, trivial⟩⟩⟩⟩⟩ ((((H.2.2 h12).2.2.2.1 h9).2.2 h8).2.2.1 h5))))) (fun h6 => (x_ild c178_73 rfl (x_irt c178_75 r178 ((((H.2.2 h12).2.2.2.1 h9).2.2 h8).2.2.2 h6))))))))))))))) (fun h10 => (x_inc (l' := [some (jR 125), some (jR 2), some (jI v2), some (jI v3), some (jI v4), some (jI v5), some (jI (v6 + 1))]) c178_50 rfl rfl (x_goto c178_53 (wp_wk (l' := [some (jR 125), some (jR 2), some (jI v2), some (jI v3), some (jI v4), some (jI v5), some (jI (v6 + 1))]) ⟨rfl, ⟨rfl, ⟨rfl, ⟨rfl, ⟨rfl, ⟨rfl, ⟨rfl, trivial⟩⟩⟩⟩⟩⟩⟩ ((H.2.2 h12).2.2.2.2 h10)))))))))))))))))))))))
theorem s178 {kc : List va_E} {d : Nat} {x2 x3 : Int} {M : fx_M} {Q : Option fx_V → fx_M → Prop} (H : wp kc (d + 1) 178 3 [some (jR 125), some (jR 2), some (jI x2), some (jI x3), some (jI 0), none, none] [] M Q) : wc kc (d + 1) 178 [jR 125, jR 2, jI x2, jI x3] M Q :=
  wc_of (wp_wk (l' := [some (jR 125), some (jR 2), some (jI x2), some (jI x3), none, none, none]) ⟨rfl, ⟨rfl, ⟨rfl, ⟨rfl, trivial⟩⟩⟩⟩ (s178_0 H))

/- PuzzleHouse$Book.entries()I -/
theorem c179_0 : fx_op 179 0 = some (.aload_n 0, 1, 0) := by decide +kernel
theorem c179_1 : fx_gf 179 1 = some (11, 0, 4) := by decide +kernel
theorem c179_4 : fx_op 179 4 = some (.aload_n 0, 5, 4) := by decide +kernel
theorem c179_5 : fx_ca 179 5 = some (180, 1, 2, 8) := by decide +kernel
theorem c179_9 : fx_ci 179 9 = some (15, 11) := by decide +kernel
theorem c179_8 : fx_op 179 8 = some (.caload, 9, 8) := by decide +kernel
theorem c179_11 : fx_nt 179 11 = some (2, 14) := by decide +kernel
theorem c179_14 : fx_op 179 14 = some (.ireturn, 15, 14) := by decide +kernel
theorem n179_11 : xS 179 ((xI 179 11).getD .nop) = none := by decide +kernel
theorem s179_0 {kc : List va_E} {d : Nat} {M : fx_M} {Q : Option fx_V → fx_M → Prop} (H : wc kc d 180 [jR 125] M (fun v M1 => wp kc (d + 1) 179 8 [none] (v.toList ++ [jR 126]) M1 Q)) : wp kc (d + 1) 179 0 [some (jR 125)] [] M Q :=
  (x_aldn c179_0 rfl (x_gfr c179_1 k_125_0 (x_aldn c179_4 rfl (wp_wk (l' := [none]) trivial (x_cv (As := []) (st := [jR 126]) c179_5 cl_125 kl180 rfl (Nat.le_of_ble_eq_true rfl) mx180 (Nat.le_refl _) H)))))
theorem s179_8 {kc : List va_E} {d : Nat} {u0 : Int} {M : fx_M} {Q : Option fx_V → fx_M → Prop} (H : (((0 : Int) ≤ u0 ∧ u0 < 1024)) ∧ ((fx_in32 (M 126 u0))) ∧ Q (some (jI (if 15 < M 126 u0 then (15 : Int) else M 126 u0))) M) : wp kc (d + 1) 179 8 [none] [jI u0, jR 126] M Q :=
  (x_cald c179_8 a_126 H.1 (by decide) (x_ci c179_9 (x_min c179_11 n179_11 H.2.1 (by decide) (Nat.le_of_ble_eq_true rfl) (x_irt c179_14 r179 H.2.2))))
theorem s179 {kc : List va_E} {d : Nat} {M : fx_M} {Q : Option fx_V → fx_M → Prop} (H : wc kc d 180 [jR 125] M (fun v M1 => wp kc (d + 1) 179 8 [none] (v.toList ++ [jR 126]) M1 Q)) : wc kc (d + 1) 179 [jR 125] M Q :=
  wc_of (wp_wk (l' := [some (jR 125)]) ⟨rfl, trivial⟩ (s179_0 H))

/- PuzzleHouse$Book.root()I -/
theorem c180_0 : fx_op 180 0 = some (.aload_n 0, 1, 0) := by decide +kernel
theorem c180_1 : fx_gf 180 1 = some (11, 0, 4) := by decide +kernel
theorem c180_4 : fx_ci 180 4 = some (0, 5) := by decide +kernel
theorem c180_5 : fx_op 180 5 = some (.caload, 6, 5) := by decide +kernel
theorem c180_6 : fx_ci 180 6 = some (2, 7) := by decide +kernel
theorem c180_7 : fx_op 180 7 = some (.if_icmp .ne 8, 10, 15) := by decide +kernel
theorem c180_15 : fx_ci 180 15 = some (32, 17) := by decide +kernel
theorem c180_10 : fx_ci 180 10 = some (64, 12) := by decide +kernel
theorem c180_12 : fx_op 180 12 = some (.goto 5, 15, 17) := by decide +kernel
theorem c180_17 : fx_op 180 17 = some (.ireturn, 18, 17) := by decide +kernel
theorem s180_0 {kc : List va_E} {d : Nat} {M : fx_M} {Q : Option fx_V → fx_M → Prop} (H : ((fx_in32 (M 126 0))) ∧ Q (some (jI (if M 126 0 = 2 then (64 : Int) else 32))) M) : wp kc (d + 1) 180 0 [some (jR 125)] [] M Q :=
  (x_aldn c180_0 rfl (x_gfr c180_1 k_125_0 (x_ci c180_4 (x_cald c180_5 a_126 (by decide) (by decide) (x_ci c180_6 (have K : wp kc (d + 1) 180 17 [none] [jI (if M 126 0 = 2 then (64 : Int) else 32)] M Q := (x_irt c180_17 r180 H.2); (x_cne c180_7 H.1 (by decide) (fun (h1 : M 126 0 ≠ 2) => (x_ci c180_15 (wp_wk (l' := [none]) trivial (by have K := K; first | (simp only [if_neg h1] at K ⊢; exact K) | (exfalso; omega))))) (fun (h2 : M 126 0 = 2) => (x_ci c180_10 (x_goto c180_12 (wp_wk (l' := [none]) trivial (by have K := K; first | (simp only [if_pos h2] at K ⊢; exact K) | (exfalso; omega)))))))))))))
theorem s180 {kc : List va_E} {d : Nat} {M : fx_M} {Q : Option fx_V → fx_M → Prop} (H : ((fx_in32 (M 126 0))) ∧ Q (some (jI (if M 126 0 = 2 then (64 : Int) else 32))) M) : wc kc (d + 1) 180 [jR 125] M Q :=
  wc_of (wp_wk (l' := [some (jR 125)]) ⟨rfl, trivial⟩ (s180_0 H))

/- PuzzleHouse$Book.chainOf(I)I -/
theorem c181_0 : fx_op 181 0 = some (.aload_n 0, 1, 0) := by decide +kernel
theorem c181_1 : fx_gf 181 1 = some (11, 0, 4) := by decide +kernel
theorem c181_4 : fx_op 181 4 = some (.aload_n 0, 5, 4) := by decide +kernel
theorem c181_5 : fx_ca 181 5 = some (180, 1, 2, 8) := by decide +kernel
theorem c181_8 : fx_ci 181 8 = some (1, 9) := by decide +kernel
theorem c181_9 : fx_op 181 9 = some (.iadd, 10, 9) := by decide +kernel
theorem c181_10 : fx_ci 181 10 = some (2, 11) := by decide +kernel
theorem c181_11 : fx_op 181 11 = some (.iload_n 1, 12, 11) := by decide +kernel
theorem c181_12 : fx_op 181 12 = some (.imul, 13, 12) := by decide +kernel
theorem c181_13 : fx_op 181 13 = some (.iadd, 14, 13) := by decide +kernel
theorem c181_14 : fx_op 181 14 = some (.caload, 15, 14) := by decide +kernel
theorem c181_15 : fx_op 181 15 = some (.ireturn, 16, 15) := by decide +kernel
theorem s181_0 {kc : List va_E} {d : Nat} {x1 : Int} {M : fx_M} {Q : Option fx_V → fx_M → Prop} (H : wc kc d 180 [jR 125] M (fun v M1 => wp kc (d + 1) 181 8 [none, some (jI x1)] (v.toList ++ [jR 126]) M1 Q)) : wp kc (d + 1) 181 0 [some (jR 125), some (jI x1)] [] M Q :=
  (x_aldn c181_0 rfl (x_gfr c181_1 k_125_0 (x_aldn c181_4 rfl (wp_wk (l' := [none, some (jI x1)]) ⟨rfl, trivial⟩ (x_cv (As := []) (st := [jR 126]) c181_5 cl_125 kl180 rfl (Nat.le_of_ble_eq_true rfl) mx180 (Nat.le_refl _) H)))))
theorem s181_8 {kc : List va_E} {d : Nat} {v1 u0 : Int} {M : fx_M} {Q : Option fx_V → fx_M → Prop} (H : (((0 : Int) ≤ (u0 + 1) + (2 * v1) ∧ (u0 + 1) + (2 * v1) < 1024)) ∧ Q (some (jI (M 126 ((u0 + 1) + (2 * v1))))) M) : wp kc (d + 1) 181 8 [none, some (jI v1)] [jI u0, jR 126] M Q :=
  (x_ci c181_8 (x_iadd c181_9 (x_ci c181_10 (x_ildn c181_11 rfl (x_imul c181_12 (x_iadd c181_13 (x_cald c181_14 a_126 H.1 (by decide) (x_irt c181_15 r181 H.2))))))))
theorem s181 {kc : List va_E} {d : Nat} {x1 : Int} {M : fx_M} {Q : Option fx_V → fx_M → Prop} (H : wc kc d 180 [jR 125] M (fun v M1 => wp kc (d + 1) 181 8 [none, some (jI x1)] (v.toList ++ [jR 126]) M1 Q)) : wc kc (d + 1) 181 [jR 125, jI x1] M Q :=
  wc_of (wp_wk (l' := [some (jR 125), some (jI x1)]) ⟨rfl, ⟨rfl, trivial⟩⟩ (s181_0 H))

/- PuzzleHouse$Book.read(ILPuzzleHouse$Puzzle;)Z -/
theorem c182_0 : fx_op 182 0 = some (.aload_n 0, 1, 0) := by decide +kernel
theorem c182_1 : fx_op 182 1 = some (.iload_n 1, 2, 1) := by decide +kernel
theorem c182_2 : fx_ca 182 2 = some (181, 2, 2, 5) := by decide +kernel
theorem c182_5 : fx_op 182 5 = some (.istore_n 3, 6, 5) := by decide +kernel
theorem c182_6 : fx_op 182 6 = some (.aload_n 0, 7, 6) := by decide +kernel
theorem c182_7 : fx_op 182 7 = some (.iload_n 1, 8, 7) := by decide +kernel
theorem c182_8 : fx_ca 182 8 = some (183, 2, 2, 11) := by decide +kernel
theorem c182_11 : fx_op 182 11 = some (.istore 4, 13, 11) := by decide +kernel
theorem c182_13 : fx_op 182 13 = some (.iload_n 3, 14, 13) := by decide +kernel
theorem c182_14 : fx_ci 182 14 = some (3, 15) := by decide +kernel
theorem c182_15 : fx_op 182 15 = some (.if_icmp .lt 18, 18, 33) := by decide +kernel
theorem c182_33 : fx_ci 182 33 = some (0, 34) := by decide +kernel
theorem c182_18 : fx_op 182 18 = some (.iload 4, 20, 18) := by decide +kernel
theorem c182_20 : fx_ci 182 20 = some (1, 21) := by decide +kernel
theorem c182_21 : fx_op 182 21 = some (.if_icmp .lt 12, 24, 33) := by decide +kernel
theorem c182_24 : fx_op 182 24 = some (.iload_n 3, 25, 24) := by decide +kernel
theorem c182_25 : fx_op 182 25 = some (.iload 4, 27, 25) := by decide +kernel
theorem c182_27 : fx_op 182 27 = some (.iadd, 28, 27) := by decide +kernel
theorem c182_28 : fx_ci 182 28 = some (32, 30) := by decide +kernel
theorem c182_30 : fx_op 182 30 = some (.if_icmp .le 5, 33, 35) := by decide +kernel
theorem c182_35 : fx_ci 182 35 = some (32, 37) := by decide +kernel
theorem c182_37 : fx_op 182 37 = some (.iload_n 3, 38, 37) := by decide +kernel
theorem c182_38 : fx_op 182 38 = some (.imul, 39, 38) := by decide +kernel
theorem c182_39 : fx_op 182 39 = some (.istore 5, 41, 39) := by decide +kernel
theorem c182_41 : fx_op 182 41 = some (.aload_n 0, 42, 41) := by decide +kernel
theorem c182_42 : fx_gf 182 42 = some (11, 0, 45) := by decide +kernel
theorem c182_45 : fx_op 182 45 = some (.iload 5, 47, 45) := by decide +kernel
theorem c182_48 : fx_op 182 48 = some (.istore 6, 50, 48) := by decide +kernel
theorem c182_50 : fx_op 182 50 = some (.iload 6, 52, 50) := by decide +kernel
theorem c182_52 : fx_ci 182 52 = some (1, 53) := by decide +kernel
theorem c182_53 : fx_op 182 53 = some (.if_icmp .lt 10, 56, 63) := by decide +kernel
theorem c182_63 : fx_ci 182 63 = some (0, 64) := by decide +kernel
theorem c182_56 : fx_op 182 56 = some (.iload 6, 58, 56) := by decide +kernel
theorem c182_58 : fx_ci 182 58 = some (8, 60) := by decide +kernel
theorem c182_60 : fx_op 182 60 = some (.if_icmp .le 5, 63, 65) := by decide +kernel
theorem c182_65 : fx_ci 182 65 = some (1, 66) := by decide +kernel
theorem c182_66 : fx_op 182 66 = some (.istore 7, 68, 66) := by decide +kernel
theorem c182_34 : fx_op 182 34 = some (.ireturn, 35, 34) := by decide +kernel
theorem c182_47 : fx_op 182 47 = some (.caload, 48, 47) := by decide +kernel
theorem c182_64 : fx_op 182 64 = some (.ireturn, 65, 64) := by decide +kernel
theorem c182_68 : fx_op 182 68 = some (.iload 7, 70, 68) := by decide +kernel
theorem c182_70 : fx_op 182 70 = some (.iload 6, 72, 70) := by decide +kernel
theorem c182_72 : fx_op 182 72 = some (.if_icmp .gt 27, 75, 99) := by decide +kernel
theorem c182_99 : fx_op 182 99 = some (.iload 5, 101, 99) := by decide +kernel
theorem c182_101 : fx_op 182 101 = some (.iload 6, 103, 101) := by decide +kernel
theorem c182_103 : fx_op 182 103 = some (.iadd, 104, 103) := by decide +kernel
theorem c182_104 : fx_ci 182 104 = some (3, 105) := by decide +kernel
theorem c182_105 : fx_op 182 105 = some (.iadd, 106, 105) := by decide +kernel
theorem c182_106 : fx_op 182 106 = some (.istore 7, 108, 106) := by decide +kernel
theorem c182_108 : fx_op 182 108 = some (.iload 7, 110, 108) := by decide +kernel
theorem c182_110 : fx_op 182 110 = some (.aload_n 0, 111, 110) := by decide +kernel
theorem c182_111 : fx_gf 182 111 = some (11, 0, 114) := by decide +kernel
theorem c182_114 : fx_op 182 114 = some (.iload 7, 116, 114) := by decide +kernel
theorem c182_116 : fx_ci 182 116 = some (2, 117) := by decide +kernel
theorem c182_117 : fx_op 182 117 = some (.isub, 118, 117) := by decide +kernel
theorem c182_119 : fx_op 182 119 = some (.iadd, 120, 119) := by decide +kernel
theorem c182_120 : fx_ci 182 120 = some (256, 123) := by decide +kernel
theorem c182_123 : fx_op 182 123 = some (.aload_n 0, 124, 123) := by decide +kernel
theorem c182_124 : fx_gf 182 124 = some (11, 0, 127) := by decide +kernel
theorem c182_127 : fx_op 182 127 = some (.iload 7, 129, 127) := by decide +kernel
theorem c182_129 : fx_ci 182 129 = some (1, 130) := by decide +kernel
theorem c182_130 : fx_op 182 130 = some (.isub, 131, 130) := by decide +kernel
theorem c182_132 : fx_op 182 132 = some (.imul, 133, 132) := by decide +kernel
theorem c182_133 : fx_op 182 133 = some (.iadd, 134, 133) := by decide +kernel
theorem c182_134 : fx_op 182 134 = some (.istore 8, 136, 134) := by decide +kernel
theorem c182_136 : fx_op 182 136 = some (.iload 8, 138, 136) := by decide +kernel
theorem c182_138 : fx_op 182 138 = some (.iload 5, 140, 138) := by decide +kernel
theorem c182_140 : fx_ci 182 140 = some (32, 142) := by decide +kernel
theorem c182_142 : fx_op 182 142 = some (.iload 4, 144, 142) := by decide +kernel
theorem c182_144 : fx_op 182 144 = some (.imul, 145, 144) := by decide +kernel
theorem c182_145 : fx_op 182 145 = some (.iadd, 146, 145) := by decide +kernel
theorem c182_146 : fx_op 182 146 = some (.if_icmp .le 5, 149, 151) := by decide +kernel
theorem c182_151 : fx_op 182 151 = some (.aload_n 0, 152, 151) := by decide +kernel
theorem c182_152 : fx_gf 182 152 = some (11, 5, 155) := by decide +kernel
theorem c182_155 : fx_op 182 155 = some (.aload_n 0, 156, 155) := by decide +kernel
theorem c182_156 : fx_gf 182 156 = some (11, 0, 159) := by decide +kernel
theorem c182_159 : fx_op 182 159 = some (.iload 7, 161, 159) := by decide +kernel
theorem c182_161 : fx_op 182 161 = some (.iload 8, 163, 161) := by decide +kernel
theorem c182_149 : fx_ci 182 149 = some (0, 150) := by decide +kernel
theorem c182_75 : fx_op 182 75 = some (.aload_n 0, 76, 75) := by decide +kernel
theorem c182_76 : fx_gf 182 76 = some (11, 0, 79) := by decide +kernel
theorem c182_79 : fx_op 182 79 = some (.iload 5, 81, 79) := by decide +kernel
theorem c182_81 : fx_op 182 81 = some (.iload 7, 83, 81) := by decide +kernel
theorem c182_83 : fx_op 182 83 = some (.iadd, 84, 83) := by decide +kernel
theorem c182_118 : fx_op 182 118 = some (.caload, 119, 118) := by decide +kernel
theorem c182_131 : fx_op 182 131 = some (.caload, 132, 131) := by decide +kernel
theorem c182_163 : fx_ca 182 163 = some (18, 4, 2, 166) := by decide +kernel
theorem c182_150 : fx_op 182 150 = some (.ireturn, 151, 150) := by decide +kernel
theorem c182_84 : fx_op 182 84 = some (.caload, 85, 84) := by decide +kernel
theorem c182_85 : fx_ca 182 85 = some (41, 1, 1, 88) := by decide +kernel
theorem c182_166 : fx_op 182 166 = some (.aload_n 0, 167, 166) := by decide +kernel
theorem c182_167 : fx_gf 182 167 = some (11, 5, 170) := by decide +kernel
theorem c182_170 : fx_op 182 170 = some (.aload_n 2, 171, 170) := by decide +kernel
theorem c182_171 : fx_ca 182 171 = some (49, 2, 2, 174) := by decide +kernel
theorem c182_88 : fx_op 182 88 = some (.ifCond .ne 5, 91, 93) := by decide +kernel
theorem c182_93 : fx_op 182 93 = some (.iinc 7 1, 96, 93) := by decide +kernel
theorem c182_91 : fx_ci 182 91 = some (0, 92) := by decide +kernel
theorem c182_96 : fx_op 182 96 = some (.goto (-28), 99, 68) := by decide +kernel
theorem c182_92 : fx_op 182 92 = some (.ireturn, 93, 92) := by decide +kernel
theorem c182_174 : fx_op 182 174 = some (.aload_n 0, 175, 174) := by decide +kernel
theorem c182_175 : fx_gf 182 175 = some (11, 5, 178) := by decide +kernel
theorem c182_178 : fx_gf 182 178 = some (2, 3, 181) := by decide +kernel
theorem c182_181 : fx_op 182 181 = some (.ifCond .ne 32, 184, 213) := by decide +kernel
theorem c182_213 : fx_ci 182 213 = some (0, 214) := by decide +kernel
theorem c182_184 : fx_op 182 184 = some (.aload_n 0, 185, 184) := by decide +kernel
theorem c182_185 : fx_gf 182 185 = some (11, 5, 188) := by decide +kernel
theorem c182_188 : fx_gf 182 188 = some (2, 1, 191) := by decide +kernel
theorem c182_191 : fx_op 182 191 = some (.iload 8, 193, 191) := by decide +kernel
theorem c182_193 : fx_op 182 193 = some (.if_icmp .ne 20, 196, 213) := by decide +kernel
theorem c182_196 : fx_op 182 196 = some (.aload_n 0, 197, 196) := by decide +kernel
theorem c182_197 : fx_gf 182 197 = some (11, 5, 200) := by decide +kernel
theorem c182_200 : fx_gf 182 200 = some (2, 4, 203) := by decide +kernel
theorem c182_214 : fx_op 182 214 = some (.ireturn, 215, 214) := by decide +kernel
theorem c182_203 : fx_ca 182 203 = some (50, 1, 2, 206) := by decide +kernel
theorem c182_206 : fx_op 182 206 = some (.ifCond .eq 7, 209, 213) := by decide +kernel
theorem c182_209 : fx_ci 182 209 = some (1, 210) := by decide +kernel
theorem c182_210 : fx_op 182 210 = some (.goto 4, 213, 214) := by decide +kernel
theorem s182_0 {kc : List va_E} {d : Nat} {p : Nat} {x1 : Int} {M : fx_M} {Q : Option fx_V → fx_M → Prop} (Hp : fx_puz p) (H : wc kc d 181 [jR 125, jI x1] M (fun v M1 => wp kc (d + 1) 182 5 [some (jR 125), some (jI x1), some (jR p), none, none, none, none, none, none] (v.toList ++ []) M1 Q)) : wp kc (d + 1) 182 0 [some (jR 125), some (jI x1), some (jR p), none, none, none, none, none, none] [] M Q :=
  (x_aldn c182_0 rfl (x_ildn c182_1 rfl (wp_wk (l' := [some (jR 125), some (jI x1), some (jR p), none, none, none, none, none, none]) ⟨rfl, ⟨rfl, ⟨rfl, trivial⟩⟩⟩ (x_cv (As := [jI x1]) (st := []) c182_2 cl_125 kl181 rfl (Nat.le_of_ble_eq_true rfl) mx181 (Nat.le_refl _) H))))
theorem s182_5 {kc : List va_E} {d : Nat} {p : Nat} {v1 u0 : Int} {M : fx_M} {Q : Option fx_V → fx_M → Prop} (Hp : fx_puz p) (H : wc kc d 183 [jR 125, jI v1] M (fun v M1 => wp kc (d + 1) 182 11 [some (jR 125), none, some (jR p), some (jI u0), none, none, none, none, none] (v.toList ++ []) M1 Q)) : wp kc (d + 1) 182 5 [some (jR 125), some (jI v1), some (jR p), none, none, none, none, none, none] [jI u0] M Q :=
  (x_istn (l' := [some (jR 125), some (jI v1), some (jR p), some (jI u0), none, none, none, none, none]) c182_5 rfl (x_aldn c182_6 rfl (x_ildn c182_7 rfl (wp_wk (l' := [some (jR 125), none, some (jR p), some (jI u0), none, none, none, none, none]) ⟨rfl, ⟨rfl, ⟨rfl, trivial⟩⟩⟩ (x_cv (As := [jI v1]) (st := []) c182_8 cl_125 kl183 rfl (Nat.le_of_ble_eq_true rfl) mx183 (Nat.le_refl _) H)))))
theorem s182_11 {kc : List va_E} {d : Nat} {p : Nat} {v3 u0 : Int} {M : fx_M} {Q : Option fx_V → fx_M → Prop} (Hp : fx_puz p) (H : ((fx_in32 v3)) ∧ (v3 < 3 → Q (some (jI 0)) M) ∧ (3 ≤ v3 → ((fx_in32 u0)) ∧ (u0 < 1 → Q (some (jI 0)) M) ∧ (1 ≤ u0 → ((fx_in32 (v3 + u0))) ∧ (v3 + u0 ≤ 32 → (((0 : Int) ≤ 32 * v3 ∧ 32 * v3 < 1024)) ∧ ((fx_in32 (M 126 (32 * v3)))) ∧ (M 126 (32 * v3) < 1 → Q (some (jI 0)) M) ∧ (1 ≤ M 126 (32 * v3) → ((fx_in32 (M 126 (32 * v3)))) ∧ (M 126 (32 * v3) ≤ 8 → wp kc (d + 1) 182 68 [some (jR 125), none, some (jR p), none, some (jI u0), some (jI (32 * v3)), some (jI (M 126 (32 * v3))), some (jI 1), none] [] M Q) ∧ (8 < M 126 (32 * v3) → Q (some (jI 0)) M))) ∧ (32 < v3 + u0 → Q (some (jI 0)) M)))) : wp kc (d + 1) 182 11 [some (jR 125), none, some (jR p), some (jI v3), none, none, none, none, none] [jI u0] M Q :=
  (x_ist (l' := [some (jR 125), none, some (jR p), some (jI v3), some (jI u0), none, none, none, none]) c182_11 rfl (x_ildn c182_13 rfl (x_ci c182_14 (x_clt c182_15 H.1 (by decide) (fun h9 => (x_ci c182_33 (x_zrt c182_34 r182 (by decide) (H.2.1 h9)))) (fun h10 => (x_ild c182_18 rfl (x_ci c182_20 (x_clt c182_21 (H.2.2 h10).1 (by decide) (fun h7 => (x_ci c182_33 (x_zrt c182_34 r182 (by decide) ((H.2.2 h10).2.1 h7)))) (fun h8 => (x_ildn c182_24 rfl (x_ild c182_25 rfl (x_iadd c182_27 (x_ci c182_28 (x_cle c182_30 ((H.2.2 h10).2.2 h8).1 (by decide) (fun h5 => (x_ci c182_35 (x_ildn c182_37 rfl (x_imul c182_38 (x_ist (l' := [some (jR 125), none, some (jR p), some (jI v3), some (jI u0), some (jI (32 * v3)), none, none, none]) c182_39 rfl (x_aldn c182_41 rfl (x_gfr c182_42 k_125_0 (x_ild c182_45 rfl (x_cald c182_47 a_126 (((H.2.2 h10).2.2 h8).2.1 h5).1 (by decide) (x_ist (l' := [some (jR 125), none, some (jR p), some (jI v3), some (jI u0), some (jI (32 * v3)), some (jI (M 126 (32 * v3))), none, none]) c182_48 rfl (x_ild c182_50 rfl (x_ci c182_52 (x_clt c182_53 (((H.2.2 h10).2.2 h8).2.1 h5).2.1 (by decide) (fun h3 => (x_ci c182_63 (x_zrt c182_64 r182 (by decide) ((((H.2.2 h10).2.2 h8).2.1 h5).2.2.1 h3)))) (fun h4 => (x_ild c182_56 rfl (x_ci c182_58 (x_cle c182_60 ((((H.2.2 h10).2.2 h8).2.1 h5).2.2.2 h4).1 (by decide) (fun h1 => (x_ci c182_65 (x_ist (l' := [some (jR 125), none, some (jR p), some (jI v3), some (jI u0), some (jI (32 * v3)), some (jI (M 126 (32 * v3))), some (jI 1), none]) c182_66 rfl (wp_wk (l' := [some (jR 125), none, some (jR p), none, some (jI u0), some (jI (32 * v3)), some (jI (M 126 (32 * v3))), some (jI 1), none]) ⟨rfl, ⟨rfl, ⟨rfl, ⟨rfl, ⟨rfl, ⟨rfl, trivial⟩⟩⟩⟩⟩⟩ (((((H.2.2 h10).2.2 h8).2.1 h5).2.2.2 h4).2.1 h1))))) (fun h2 => (x_ci c182_63 (x_zrt c182_64 r182 (by decide) (((((H.2.2 h10).2.2 h8).2.1 h5).2.2.2 h4).2.2 h2))))))))))))))))))))) (fun h6 => (x_ci c182_33 (x_zrt c182_34 r182 (by decide) (((H.2.2 h10).2.2 h8).2.2 h6))))))))))))))))))
theorem s182_68 {kc : List va_E} {d : Nat} {p : Nat} {v4 v5 v6 v7 : Int} {M : fx_M} {Q : Option fx_V → fx_M → Prop} (Hp : fx_puz p) (H : ((fx_in32 v7) ∧ (fx_in32 v6)) ∧ (v6 < v7 → (((0 : Int) ≤ ((v5 + v6) + 3) - 2 ∧ ((v5 + v6) + 3) - 2 < 1024)) ∧ (((0 : Int) ≤ ((v5 + v6) + 3) - 1 ∧ ((v5 + v6) + 3) - 1 < 1024)) ∧ ((fx_in32 ((((v5 + v6) + 3) + (M 126 (((v5 + v6) + 3) - 2))) + (256 * (M 126 (((v5 + v6) + 3) - 1))))) ∧ (fx_in32 (v5 + (32 * v4)))) ∧ ((((v5 + v6) + 3) + (M 126 (((v5 + v6) + 3) - 2))) + (256 * (M 126 (((v5 + v6) + 3) - 1))) ≤ v5 + (32 * v4) → wc kc d 18 [jR 129, jR 126, jI ((v5 + v6) + 3), jI ((((v5 + v6) + 3) + (M 126 (((v5 + v6) + 3) - 2))) + (256 * (M 126 (((v5 + v6) + 3) - 1))))] M (fun v M1 => wp kc (d + 1) 182 166 [some (jR 125), none, some (jR p), none, none, none, none, none, some (jI ((((v5 + v6) + 3) + (M 126 (((v5 + v6) + 3) - 2))) + (256 * (M 126 (((v5 + v6) + 3) - 1)))))] (v.toList ++ []) M1 Q)) ∧ (v5 + (32 * v4) < (((v5 + v6) + 3) + (M 126 (((v5 + v6) + 3) - 2))) + (256 * (M 126 (((v5 + v6) + 3) - 1))) → Q (some (jI 0)) M)) ∧ (v7 ≤ v6 → (((0 : Int) ≤ v5 + v7 ∧ v5 + v7 < 1024)) ∧ wc kc d 41 [jI (M 126 (v5 + v7))] M (fun v M1 => wp kc (d + 1) 182 88 [some (jR 125), none, some (jR p), none, some (jI v4), some (jI v5), some (jI v6), some (jI v7), none] (v.toList ++ []) M1 Q))) : wp kc (d + 1) 182 68 [some (jR 125), none, some (jR p), none, some (jI v4), some (jI v5), some (jI v6), some (jI v7), none] [] M Q :=
  (x_ild c182_68 rfl (x_ild c182_70 rfl (x_cgt c182_72 H.1.1 H.1.2 (fun h3 => (x_ild c182_99 rfl (x_ild c182_101 rfl (x_iadd c182_103 (x_ci c182_104 (x_iadd c182_105 (x_ist (l' := [some (jR 125), none, some (jR p), none, some (jI v4), some (jI v5), some (jI v6), some (jI ((v5 + v6) + 3)), none]) c182_106 rfl (x_ild c182_108 rfl (x_aldn c182_110 rfl (x_gfr c182_111 k_125_0 (x_ild c182_114 rfl (x_ci c182_116 (x_isub c182_117 (x_cald c182_118 a_126 (H.2.1 h3).1 (by decide) (x_iadd c182_119 (x_ci c182_120 (x_aldn c182_123 rfl (x_gfr c182_124 k_125_0 (x_ild c182_127 rfl (x_ci c182_129 (x_isub c182_130 (x_cald c182_131 a_126 (H.2.1 h3).2.1 (by decide) (x_imul c182_132 (x_iadd c182_133 (x_ist (l' := [some (jR 125), none, some (jR p), none, some (jI v4), some (jI v5), some (jI v6), some (jI ((v5 + v6) + 3)), some (jI ((((v5 + v6) + 3) + (M 126 (((v5 + v6) + 3) - 2))) + (256 * (M 126 (((v5 + v6) + 3) - 1)))))]) c182_134 rfl (x_ild c182_136 rfl (x_ild c182_138 rfl (x_ci c182_140 (x_ild c182_142 rfl (x_imul c182_144 (x_iadd c182_145 (x_cle c182_146 (H.2.1 h3).2.2.1.1 (H.2.1 h3).2.2.1.2 (fun h1 => (x_aldn c182_151 rfl (x_gfr c182_152 k_125_5 (x_aldn c182_155 rfl (x_gfr c182_156 k_125_0 (x_ild c182_159 rfl (x_ild c182_161 rfl (wp_wk (l' := [some (jR 125), none, some (jR p), none, none, none, none, none, some (jI ((((v5 + v6) + 3) + (M 126 (((v5 + v6) + 3) - 2))) + (256 * (M 126 (((v5 + v6) + 3) - 1)))))]) ⟨rfl, ⟨rfl, ⟨rfl, trivial⟩⟩⟩ (x_cv (As := [jR 126, jI ((v5 + v6) + 3), jI ((((v5 + v6) + 3) + (M 126 (((v5 + v6) + 3) - 2))) + (256 * (M 126 (((v5 + v6) + 3) - 1))))]) (st := []) c182_163 cl_129 kl18 rfl (Nat.le_of_ble_eq_true rfl) mx18 (Nat.le_refl _) ((H.2.1 h3).2.2.2.1 h1)))))))))) (fun h2 => (x_ci c182_149 (x_zrt c182_150 r182 (by decide) ((H.2.1 h3).2.2.2.2 h2)))))))))))))))))))))))))))))))))))) (fun h4 => (x_aldn c182_75 rfl (x_gfr c182_76 k_125_0 (x_ild c182_79 rfl (x_ild c182_81 rfl (x_iadd c182_83 (x_cald c182_84 a_126 (H.2.2 h4).1 (by decide) (wp_wk (l' := [some (jR 125), none, some (jR p), none, some (jI v4), some (jI v5), some (jI v6), some (jI v7), none]) ⟨rfl, ⟨rfl, ⟨rfl, ⟨rfl, ⟨rfl, ⟨rfl, trivial⟩⟩⟩⟩⟩⟩ (x_cs (As := [jI (M 126 (v5 + v7))]) (st := []) c182_85 (by decide) rfl (Nat.le_of_ble_eq_true rfl) mx41 (Nat.le_refl _) (H.2.2 h4).2))))))))))))
theorem s182_88 {kc : List va_E} {d : Nat} {p : Nat} {v4 v5 v6 v7 u0 : Int} {M : fx_M} {Q : Option fx_V → fx_M → Prop} (Hp : fx_puz p) (H : ((fx_in32 u0)) ∧ (u0 ≠ 0 → wp kc (d + 1) 182 68 [some (jR 125), none, some (jR p), none, some (jI v4), some (jI v5), some (jI v6), some (jI (v7 + 1)), none] [] M Q) ∧ (u0 = 0 → Q (some (jI 0)) M)) : wp kc (d + 1) 182 88 [some (jR 125), none, some (jR p), none, some (jI v4), some (jI v5), some (jI v6), some (jI v7), none] [jI u0] M Q :=
  (x_zne c182_88 H.1 (fun h1 => (x_inc (l' := [some (jR 125), none, some (jR p), none, some (jI v4), some (jI v5), some (jI v6), some (jI (v7 + 1)), none]) c182_93 rfl rfl (x_goto c182_96 (wp_wk (l' := [some (jR 125), none, some (jR p), none, some (jI v4), some (jI v5), some (jI v6), some (jI (v7 + 1)), none]) ⟨rfl, ⟨rfl, ⟨rfl, ⟨rfl, ⟨rfl, ⟨rfl, trivial⟩⟩⟩⟩⟩⟩ (H.2.1 h1))))) (fun h2 => (x_ci c182_91 (x_zrt c182_92 r182 (by decide) (H.2.2 h2)))))
theorem s182_166 {kc : List va_E} {d : Nat} {p : Nat} {v8 : Int} {M : fx_M} {Q : Option fx_V → fx_M → Prop} (Hp : fx_puz p) (H : wc kc d 49 [jR 129, jR p] M (fun v M1 => wp kc (d + 1) 182 174 [some (jR 125), none, none, none, none, none, none, none, some (jI v8)] (v.toList ++ []) M1 Q)) : wp kc (d + 1) 182 166 [some (jR 125), none, some (jR p), none, none, none, none, none, some (jI v8)] [] M Q :=
  (x_aldn c182_166 rfl (x_gfr c182_167 k_125_5 (x_aldn c182_170 rfl (wp_wk (l' := [some (jR 125), none, none, none, none, none, none, none, some (jI v8)]) ⟨rfl, ⟨rfl, trivial⟩⟩ (x_cv (As := [jR p]) (st := []) c182_171 cl_129 kl49 rfl (Nat.le_of_ble_eq_true rfl) mx49 (Nat.le_refl _) H)))))
theorem s182_174 {kc : List va_E} {d : Nat} {p : Nat} {v8 : Int} {M : fx_M} {Q : Option fx_V → fx_M → Prop} (Hp : fx_puz p) (H : ((fx_in32 (M 129 3))) ∧ (M 129 3 ≠ 0 → Q (some (jI 0)) M) ∧ (M 129 3 = 0 → ((fx_in32 (M 129 1)) ∧ (fx_in32 v8)) ∧ (M 129 1 ≠ v8 → Q (some (jI 0)) M) ∧ (M 129 1 = v8 → fx_lit kc ((M 129 4).toNat) ∧ wc kc d 50 [jR ((M 129 4).toNat)] M (fun v M1 => wp kc (d + 1) 182 206 [none, none, none, none, none, none, none, none, none] (v.toList ++ []) M1 Q)))) : wp kc (d + 1) 182 174 [some (jR 125), none, none, none, none, none, none, none, some (jI v8)] [] M Q :=
  (x_aldn c182_174 rfl (x_gfr c182_175 k_125_5 (x_gfi c182_178 k_129_3 (x_zne c182_181 H.1 (fun h3 => (x_ci c182_213 (x_zrt c182_214 r182 (by decide) (H.2.1 h3)))) (fun h4 => (x_aldn c182_184 rfl (x_gfr c182_185 k_125_5 (x_gfi c182_188 k_129_1 (x_ild c182_191 rfl (x_cne c182_193 (H.2.2 h4).1.1 (H.2.2 h4).1.2 (fun h1 => (x_ci c182_213 (x_zrt c182_214 r182 (by decide) ((H.2.2 h4).2.1 h1)))) (fun h2 => (x_aldn c182_196 rfl (x_gfr c182_197 k_125_5 (x_gfd c182_200 k_129_4 (wp_wk (l' := [none, none, none, none, none, none, none, none, none]) trivial (x_cl (b := (M 129 4).toNat) (As := []) (st := []) c182_203 kl50 ((H.2.2 h4).2.2 h2).1 rfl (Nat.le_of_ble_eq_true rfl) mx50 (Nat.le_refl _) ((H.2.2 h4).2.2 h2).2))))))))))))))))
theorem s182_206 {kc : List va_E} {d : Nat} {p : Nat} {u0 : Int} {M : fx_M} {Q : Option fx_V → fx_M → Prop} (Hp : fx_puz p) (H : ((fx_in32 u0)) ∧ ((0 : Int) ≤ (if u0 = 0 then (0 : Int) else 1) ∧ (if u0 = 0 then (0 : Int) else 1) ≤ 1) ∧ Q (some (jI (if u0 = 0 then (0 : Int) else 1))) M) : wp kc (d + 1) 182 206 [none, none, none, none, none, none, none, none, none] [jI u0] M Q :=
  (have K : wp kc (d + 1) 182 214 [none, none, none, none, none, none, none, none, none] [jI (if u0 = 0 then (0 : Int) else 1)] M Q := (x_zrt c182_214 r182 H.2.1 H.2.2); (x_zeq c182_206 H.1 (fun (h1 : u0 = 0) => (x_ci c182_213 (wp_wk (l' := [none, none, none, none, none, none, none, none, none]) trivial (by have K := K; first | (simp only [if_pos h1] at K ⊢; exact K) | (exfalso; omega))))) (fun (h2 : u0 ≠ 0) => (x_ci c182_209 (x_goto c182_210 (wp_wk (l' := [none, none, none, none, none, none, none, none, none]) trivial (by have K := K; first | (simp only [if_neg h2] at K ⊢; exact K) | (exfalso; omega))))))))
theorem s182 {kc : List va_E} {d : Nat} {p : Nat} {x1 : Int} {M : fx_M} {Q : Option fx_V → fx_M → Prop} (Hp : fx_puz p) (H : wc kc d 181 [jR 125, jI x1] M (fun v M1 => wp kc (d + 1) 182 5 [some (jR 125), some (jI x1), some (jR p), none, none, none, none, none, none] (v.toList ++ []) M1 Q)) : wc kc (d + 1) 182 [jR 125, jI x1, jR p] M Q :=
  wc_of (wp_wk (l' := [some (jR 125), some (jI x1), some (jR p), none, none, none, none, none, none]) ⟨rfl, ⟨rfl, ⟨rfl, trivial⟩⟩⟩ (s182_0 Hp H))

/- PuzzleHouse$Book.pagesOf(I)I -/
theorem c183_0 : fx_op 183 0 = some (.aload_n 0, 1, 0) := by decide +kernel
theorem c183_1 : fx_gf 183 1 = some (11, 0, 4) := by decide +kernel
theorem c183_4 : fx_op 183 4 = some (.aload_n 0, 5, 4) := by decide +kernel
theorem c183_5 : fx_ca 183 5 = some (180, 1, 2, 8) := by decide +kernel
theorem c183_8 : fx_ci 183 8 = some (2, 9) := by decide +kernel
theorem c183_9 : fx_op 183 9 = some (.iadd, 10, 9) := by decide +kernel
theorem c183_10 : fx_ci 183 10 = some (2, 11) := by decide +kernel
theorem c183_11 : fx_op 183 11 = some (.iload_n 1, 12, 11) := by decide +kernel
theorem c183_12 : fx_op 183 12 = some (.imul, 13, 12) := by decide +kernel
theorem c183_13 : fx_op 183 13 = some (.iadd, 14, 13) := by decide +kernel
theorem c183_14 : fx_op 183 14 = some (.caload, 15, 14) := by decide +kernel
theorem c183_15 : fx_op 183 15 = some (.ireturn, 16, 15) := by decide +kernel
theorem s183_0 {kc : List va_E} {d : Nat} {x1 : Int} {M : fx_M} {Q : Option fx_V → fx_M → Prop} (H : wc kc d 180 [jR 125] M (fun v M1 => wp kc (d + 1) 183 8 [none, some (jI x1)] (v.toList ++ [jR 126]) M1 Q)) : wp kc (d + 1) 183 0 [some (jR 125), some (jI x1)] [] M Q :=
  (x_aldn c183_0 rfl (x_gfr c183_1 k_125_0 (x_aldn c183_4 rfl (wp_wk (l' := [none, some (jI x1)]) ⟨rfl, trivial⟩ (x_cv (As := []) (st := [jR 126]) c183_5 cl_125 kl180 rfl (Nat.le_of_ble_eq_true rfl) mx180 (Nat.le_refl _) H)))))
theorem s183_8 {kc : List va_E} {d : Nat} {v1 u0 : Int} {M : fx_M} {Q : Option fx_V → fx_M → Prop} (H : (((0 : Int) ≤ (u0 + 2) + (2 * v1) ∧ (u0 + 2) + (2 * v1) < 1024)) ∧ Q (some (jI (M 126 ((u0 + 2) + (2 * v1))))) M) : wp kc (d + 1) 183 8 [none, some (jI v1)] [jI u0, jR 126] M Q :=
  (x_ci c183_8 (x_iadd c183_9 (x_ci c183_10 (x_ildn c183_11 rfl (x_imul c183_12 (x_iadd c183_13 (x_cald c183_14 a_126 H.1 (by decide) (x_irt c183_15 r183 H.2))))))))
theorem s183 {kc : List va_E} {d : Nat} {x1 : Int} {M : fx_M} {Q : Option fx_V → fx_M → Prop} (H : wc kc d 180 [jR 125] M (fun v M1 => wp kc (d + 1) 183 8 [none, some (jI x1)] (v.toList ++ [jR 126]) M1 Q)) : wc kc (d + 1) 183 [jR 125, jI x1] M Q :=
  wc_of (wp_wk (l' := [some (jR 125), some (jI x1)]) ⟨rfl, ⟨rfl, trivial⟩⟩ (s183_0 H))

/- PuzzleHouse$Book.keep([CIILPuzzleHouse$Out;)Z -/
theorem c191_0 : fx_op 191 0 = some (.aload_n 0, 1, 0) := by decide +kernel
theorem c191_1 : fx_op 191 1 = some (.aload_n 1, 2, 1) := by decide +kernel
theorem c191_2 : fx_op 191 2 = some (.iload_n 2, 3, 2) := by decide +kernel
theorem c191_3 : fx_op 191 3 = some (.iload_n 3, 4, 3) := by decide +kernel
theorem c191_4 : fx_ca 191 4 = some (178, 4, 2, 7) := by decide +kernel
theorem c191_7 : fx_op 191 7 = some (.istore 5, 9, 7) := by decide +kernel
theorem c191_9 : fx_op 191 9 = some (.iload_n 3, 10, 9) := by decide +kernel
theorem c191_10 : fx_ci 191 10 = some (3, 11) := by decide +kernel
theorem c191_11 : fx_op 191 11 = some (.iadd, 12, 11) := by decide +kernel
theorem c191_12 : fx_op 191 12 = some (.aload 4, 14, 12) := by decide +kernel
theorem c191_14 : fx_gf 191 14 = some (1, 1, 17) := by decide +kernel
theorem c191_17 : fx_op 191 17 = some (.iadd, 18, 17) := by decide +kernel
theorem c191_18 : fx_ci 191 18 = some (32, 20) := by decide +kernel
theorem c191_20 : fx_op 191 20 = some (.iadd, 21, 20) := by decide +kernel
theorem c191_21 : fx_ci 191 21 = some (1, 22) := by decide +kernel
theorem c191_22 : fx_op 191 22 = some (.isub, 23, 22) := by decide +kernel
theorem c191_23 : fx_ci 191 23 = some (32, 25) := by decide +kernel
theorem c191_26 : fx_op 191 26 = some (.istore 6, 28, 26) := by decide +kernel
theorem c191_28 : fx_op 191 28 = some (.aload_n 0, 29, 28) := by decide +kernel
theorem c191_29 : fx_op 191 29 = some (.iload 6, 31, 29) := by decide +kernel
theorem c191_25 : fx_op 191 25 = some (.idiv, 26, 25) := by decide +kernel
theorem c191_31 : fx_ca 191 31 = some (192, 2, 2, 34) := by decide +kernel
theorem c191_34 : fx_op 191 34 = some (.istore 7, 36, 34) := by decide +kernel
theorem c191_36 : fx_op 191 36 = some (.aload_n 0, 37, 36) := by decide +kernel
theorem c191_37 : fx_ca 191 37 = some (179, 1, 2, 40) := by decide +kernel
theorem c191_40 : fx_op 191 40 = some (.iload 5, 42, 40) := by decide +kernel
theorem c191_42 : fx_op 191 42 = some (.ifCond .ge 7, 45, 49) := by decide +kernel
theorem c191_49 : fx_ci 191 49 = some (1, 50) := by decide +kernel
theorem c191_45 : fx_ci 191 45 = some (0, 46) := by decide +kernel
theorem c191_46 : fx_op 191 46 = some (.goto 4, 49, 50) := by decide +kernel
theorem c191_50 : fx_op 191 50 = some (.isub, 51, 50) := by decide +kernel
theorem c191_51 : fx_ci 191 51 = some (15, 53) := by decide +kernel
theorem c191_53 : fx_op 191 53 = some (.if_icmp .ge 8, 56, 61) := by decide +kernel
theorem c191_61 : fx_ci 191 61 = some (0, 62) := by decide +kernel
theorem c191_56 : fx_op 191 56 = some (.iload 7, 58, 56) := by decide +kernel
theorem c191_58 : fx_op 191 58 = some (.ifCond .ge 5, 61, 63) := by decide +kernel
theorem c191_63 : fx_op 191 63 = some (.aload_n 0, 64, 63) := by decide +kernel
theorem c191_64 : fx_ci 191 64 = some (0, 65) := by decide +kernel
theorem c191_65 : fx_pf 191 65 = some (11, 2, 0, 68) := by decide +kernel
theorem c191_68 : fx_ci 191 68 = some (32, 70) := by decide +kernel
theorem c191_70 : fx_op 191 70 = some (.iload 7, 72, 70) := by decide +kernel
theorem c191_72 : fx_op 191 72 = some (.imul, 73, 72) := by decide +kernel
theorem c191_73 : fx_op 191 73 = some (.istore 8, 75, 73) := by decide +kernel
theorem c191_75 : fx_op 191 75 = some (.aload_n 0, 76, 75) := by decide +kernel
theorem c191_76 : fx_op 191 76 = some (.iload 8, 78, 76) := by decide +kernel
theorem c191_78 : fx_op 191 78 = some (.iload_n 3, 79, 78) := by decide +kernel
theorem c191_62 : fx_op 191 62 = some (.ireturn, 63, 62) := by decide +kernel
theorem c191_79 : fx_ca 191 79 = some (193, 3, 2, 82) := by decide +kernel
theorem c191_82 : fx_ci 191 82 = some (0, 83) := by decide +kernel
theorem c191_83 : fx_op 191 83 = some (.istore 9, 85, 83) := by decide +kernel
theorem c191_85 : fx_op 191 85 = some (.iload 9, 87, 85) := by decide +kernel
theorem c191_87 : fx_op 191 87 = some (.iload_n 3, 88, 87) := by decide +kernel
theorem c191_88 : fx_op 191 88 = some (.if_icmp .ge 26, 91, 114) := by decide +kernel
theorem c191_91 : fx_op 191 91 = some (.aload_n 0, 92, 91) := by decide +kernel
theorem c191_92 : fx_op 191 92 = some (.iload 8, 94, 92) := by decide +kernel
theorem c191_94 : fx_ci 191 94 = some (1, 95) := by decide +kernel
theorem c191_95 : fx_op 191 95 = some (.iadd, 96, 95) := by decide +kernel
theorem c191_96 : fx_op 191 96 = some (.iload 9, 98, 96) := by decide +kernel
theorem c191_98 : fx_op 191 98 = some (.iadd, 99, 98) := by decide +kernel
theorem c191_99 : fx_op 191 99 = some (.aload_n 1, 100, 99) := by decide +kernel
theorem c191_100 : fx_op 191 100 = some (.iload_n 2, 101, 100) := by decide +kernel
theorem c191_101 : fx_op 191 101 = some (.iload 9, 103, 101) := by decide +kernel
theorem c191_103 : fx_op 191 103 = some (.iadd, 104, 103) := by decide +kernel
theorem c191_104 : fx_op 191 104 = some (.caload, 105, 104) := by decide +kernel
theorem c191_114 : fx_op 191 114 = some (.aload_n 0, 115, 114) := by decide +kernel
theorem c191_115 : fx_op 191 115 = some (.iload 8, 117, 115) := by decide +kernel
theorem c191_117 : fx_op 191 117 = some (.iload_n 3, 118, 117) := by decide +kernel
theorem c191_118 : fx_op 191 118 = some (.iadd, 119, 118) := by decide +kernel
theorem c191_119 : fx_ci 191 119 = some (1, 120) := by decide +kernel
theorem c191_120 : fx_op 191 120 = some (.iadd, 121, 120) := by decide +kernel
theorem c191_121 : fx_op 191 121 = some (.aload 4, 123, 121) := by decide +kernel
theorem c191_123 : fx_gf 191 123 = some (1, 1, 126) := by decide +kernel
theorem c191_126 : fx_ci 191 126 = some (255, 129) := by decide +kernel
theorem c191_129 : fx_op 191 129 = some (.iand, 130, 129) := by decide +kernel
theorem c191_130 : fx_ca 191 130 = some (193, 3, 2, 133) := by decide +kernel
theorem c191_105 : fx_ca 191 105 = some (193, 3, 2, 108) := by decide +kernel
theorem c191_133 : fx_op 191 133 = some (.aload_n 0, 134, 133) := by decide +kernel
theorem c191_134 : fx_op 191 134 = some (.iload 8, 136, 134) := by decide +kernel
theorem c191_136 : fx_op 191 136 = some (.iload_n 3, 137, 136) := by decide +kernel
theorem c191_137 : fx_op 191 137 = some (.iadd, 138, 137) := by decide +kernel
theorem c191_138 : fx_ci 191 138 = some (2, 139) := by decide +kernel
theorem c191_139 : fx_op 191 139 = some (.iadd, 140, 139) := by decide +kernel
theorem c191_140 : fx_op 191 140 = some (.aload 4, 142, 140) := by decide +kernel
theorem c191_142 : fx_gf 191 142 = some (1, 1, 145) := by decide +kernel
theorem c191_145 : fx_ci 191 145 = some (8, 147) := by decide +kernel
theorem c191_147 : fx_op 191 147 = some (.ishr, 148, 147) := by decide +kernel
theorem c191_148 : fx_ca 191 148 = some (193, 3, 2, 151) := by decide +kernel
theorem c191_108 : fx_op 191 108 = some (.iinc 9 1, 111, 108) := by decide +kernel
theorem c191_111 : fx_op 191 111 = some (.goto (-26), 114, 85) := by decide +kernel
theorem c191_151 : fx_op 191 151 = some (.iload_n 3, 152, 151) := by decide +kernel
theorem c191_152 : fx_ci 191 152 = some (3, 153) := by decide +kernel
theorem c191_153 : fx_op 191 153 = some (.iadd, 154, 153) := by decide +kernel
theorem c191_154 : fx_op 191 154 = some (.istore 9, 156, 154) := by decide +kernel
theorem c191_156 : fx_op 191 156 = some (.iload 9, 158, 156) := by decide +kernel
theorem c191_158 : fx_ci 191 158 = some (32, 160) := by decide +kernel
theorem c191_160 : fx_op 191 160 = some (.iload 6, 162, 160) := by decide +kernel
theorem c191_162 : fx_op 191 162 = some (.imul, 163, 162) := by decide +kernel
theorem c191_163 : fx_op 191 163 = some (.if_icmp .ge 48, 166, 211) := by decide +kernel
theorem c191_166 : fx_op 191 166 = some (.aload_n 0, 167, 166) := by decide +kernel
theorem c191_167 : fx_op 191 167 = some (.iload 8, 169, 167) := by decide +kernel
theorem c191_169 : fx_op 191 169 = some (.iload 9, 171, 169) := by decide +kernel
theorem c191_171 : fx_op 191 171 = some (.iadd, 172, 171) := by decide +kernel
theorem c191_172 : fx_op 191 172 = some (.iload 9, 174, 172) := by decide +kernel
theorem c191_174 : fx_op 191 174 = some (.iload_n 3, 175, 174) := by decide +kernel
theorem c191_175 : fx_op 191 175 = some (.isub, 176, 175) := by decide +kernel
theorem c191_176 : fx_ci 191 176 = some (3, 177) := by decide +kernel
theorem c191_177 : fx_op 191 177 = some (.isub, 178, 177) := by decide +kernel
theorem c191_178 : fx_op 191 178 = some (.aload 4, 180, 178) := by decide +kernel
theorem c191_180 : fx_gf 191 180 = some (1, 1, 183) := by decide +kernel
theorem c191_183 : fx_op 191 183 = some (.if_icmp .ge 18, 186, 201) := by decide +kernel
theorem c191_201 : fx_ci 191 201 = some (0, 202) := by decide +kernel
theorem c191_211 : fx_op 191 211 = some (.aload_n 0, 212, 211) := by decide +kernel
theorem c191_212 : fx_op 191 212 = some (.iload 5, 214, 212) := by decide +kernel
theorem c191_214 : fx_op 191 214 = some (.iload 7, 216, 214) := by decide +kernel
theorem c191_216 : fx_op 191 216 = some (.iload 6, 218, 216) := by decide +kernel
theorem c191_186 : fx_op 191 186 = some (.aload 4, 188, 186) := by decide +kernel
theorem c191_188 : fx_gf 191 188 = some (1, 0, 191) := by decide +kernel
theorem c191_191 : fx_op 191 191 = some (.iload 9, 193, 191) := by decide +kernel
theorem c191_193 : fx_op 191 193 = some (.iload_n 3, 194, 193) := by decide +kernel
theorem c191_194 : fx_op 191 194 = some (.isub, 195, 194) := by decide +kernel
theorem c191_195 : fx_ci 191 195 = some (3, 196) := by decide +kernel
theorem c191_196 : fx_op 191 196 = some (.isub, 197, 196) := by decide +kernel
theorem c191_197 : fx_op 191 197 = some (.caload, 198, 197) := by decide +kernel
theorem c191_198 : fx_op 191 198 = some (.goto 4, 201, 202) := by decide +kernel
theorem c191_218 : fx_ca 191 218 = some (194, 4, 2, 221) := by decide +kernel
theorem c191_202 : fx_ca 191 202 = some (193, 3, 2, 205) := by decide +kernel
theorem c191_221 : fx_ci 191 221 = some (1, 222) := by decide +kernel
theorem c191_222 : fx_op 191 222 = some (.ireturn, 223, 222) := by decide +kernel
theorem c191_205 : fx_op 191 205 = some (.iinc 9 1, 208, 205) := by decide +kernel
theorem c191_208 : fx_op 191 208 = some (.goto (-52), 211, 156) := by decide +kernel
theorem s191_0 {kc : List va_E} {d : Nat} {o : Nat} {x2 x3 : Int} {M : fx_M} {Q : Option fx_V → fx_M → Prop} (Ho : fx_out o) (H : wc kc d 178 [jR 125, jR 2, jI x2, jI x3] M (fun v M1 => wp kc (d + 1) 191 7 [some (jR 125), some (jR 2), some (jI x2), some (jI x3), some (jR o), none, none, none, none, none] (v.toList ++ []) M1 Q)) : wp kc (d + 1) 191 0 [some (jR 125), some (jR 2), some (jI x2), some (jI x3), some (jR o), none, none, none, none, none] [] M Q :=
  (x_aldn c191_0 rfl (x_aldn c191_1 rfl (x_ildn c191_2 rfl (x_ildn c191_3 rfl (wp_wk (l' := [some (jR 125), some (jR 2), some (jI x2), some (jI x3), some (jR o), none, none, none, none, none]) ⟨rfl, ⟨rfl, ⟨rfl, ⟨rfl, ⟨rfl, trivial⟩⟩⟩⟩⟩ (x_cv (As := [jR 2, jI x2, jI x3]) (st := []) c191_4 cl_125 kl178 rfl (Nat.le_of_ble_eq_true rfl) mx178 (Nat.le_refl _) H))))))
theorem s191_7 {kc : List va_E} {d : Nat} {o : Nat} {v2 v3 u0 : Int} {M : fx_M} {Q : Option fx_V → fx_M → Prop} (Ho : fx_out o) (H : (((0 : Int) ≤ (((v3 + 3) + (M o 1)) + 32) - 1 ∧ (((v3 + 3) + (M o 1)) + 32) - 1 ≤ 2147483647)) ∧ wc kc d 192 [jR 125, jI (((((v3 + 3) + (M o 1)) + 32) - 1) / 32)] M (fun v M1 => wp kc (d + 1) 191 34 [some (jR 125), some (jR 2), some (jI v2), some (jI v3), some (jR o), some (jI u0), some (jI (((((v3 + 3) + (M o 1)) + 32) - 1) / 32)), none, none, none] (v.toList ++ []) M1 Q)) : wp kc (d + 1) 191 7 [some (jR 125), some (jR 2), some (jI v2), some (jI v3), some (jR o), none, none, none, none, none] [jI u0] M Q :=
  (x_ist (l' := [some (jR 125), some (jR 2), some (jI v2), some (jI v3), some (jR o), some (jI u0), none, none, none, none]) c191_7 rfl (x_ildn c191_9 rfl (x_ci c191_10 (x_iadd c191_11 (x_ald c191_12 rfl (x_gfi c191_14 (ko_1 Ho) (x_iadd c191_17 (x_ci c191_18 (x_iadd c191_20 (x_ci c191_21 (x_isub c191_22 (x_ci c191_23 (x_idiv c191_25 H.1 (by decide) (x_ist (l' := [some (jR 125), some (jR 2), some (jI v2), some (jI v3), some (jR o), some (jI u0), some (jI (((((v3 + 3) + (M o 1)) + 32) - 1) / 32)), none, none, none]) c191_26 rfl (x_aldn c191_28 rfl (x_ild c191_29 rfl (wp_wk (l' := [some (jR 125), some (jR 2), some (jI v2), some (jI v3), some (jR o), some (jI u0), some (jI (((((v3 + 3) + (M o 1)) + 32) - 1) / 32)), none, none, none]) ⟨rfl, ⟨rfl, ⟨rfl, ⟨rfl, ⟨rfl, ⟨rfl, ⟨rfl, trivial⟩⟩⟩⟩⟩⟩⟩ (x_cv (As := [jI (((((v3 + 3) + (M o 1)) + 32) - 1) / 32)]) (st := []) c191_31 cl_125 kl192 rfl (Nat.le_of_ble_eq_true rfl) mx192 (Nat.le_refl _) H.2))))))))))))))))))
theorem s191_34 {kc : List va_E} {d : Nat} {o : Nat} {v2 v3 v5 v6 u0 : Int} {M : fx_M} {Q : Option fx_V → fx_M → Prop} (Ho : fx_out o) (H : wc kc d 179 [jR 125] M (fun v M1 => wp kc (d + 1) 191 40 [some (jR 125), some (jR 2), some (jI v2), some (jI v3), some (jR o), some (jI v5), some (jI v6), some (jI u0), none, none] (v.toList ++ []) M1 Q)) : wp kc (d + 1) 191 34 [some (jR 125), some (jR 2), some (jI v2), some (jI v3), some (jR o), some (jI v5), some (jI v6), none, none, none] [jI u0] M Q :=
  (x_ist (l' := [some (jR 125), some (jR 2), some (jI v2), some (jI v3), some (jR o), some (jI v5), some (jI v6), some (jI u0), none, none]) c191_34 rfl (x_aldn c191_36 rfl (wp_wk (l' := [some (jR 125), some (jR 2), some (jI v2), some (jI v3), some (jR o), some (jI v5), some (jI v6), some (jI u0), none, none]) ⟨rfl, ⟨rfl, ⟨rfl, ⟨rfl, ⟨rfl, ⟨rfl, ⟨rfl, ⟨rfl, trivial⟩⟩⟩⟩⟩⟩⟩⟩ (x_cv (As := []) (st := []) c191_37 cl_125 kl179 rfl (Nat.le_of_ble_eq_true rfl) mx179 (Nat.le_refl _) H))))
theorem s191_40 {kc : List va_E} {d : Nat} {o : Nat} {v2 v3 v5 v6 v7 u0 : Int} {M : fx_M} {Q : Option fx_V → fx_M → Prop} (Ho : fx_out o) (H : ((fx_in32 v5)) ∧ ((fx_in32 (u0 - (if v5 < 0 then (0 : Int) else 1)))) ∧ (15 ≤ u0 - (if v5 < 0 then (0 : Int) else 1) → Q (some (jI 0)) M) ∧ (u0 - (if v5 < 0 then (0 : Int) else 1) < 15 → ((fx_in32 v7)) ∧ (0 ≤ v7 → wc kc d 193 [jR 125, jI (32 * v7), jI v3] (fx_up M 125 2 0) (fun v M1 => wp kc (d + 1) 191 82 [some (jR 125), some (jR 2), some (jI v2), some (jI v3), some (jR o), some (jI v5), some (jI v6), some (jI v7), some (jI (32 * v7)), none] (v.toList ++ []) M1 Q)) ∧ (v7 < 0 → Q (some (jI 0)) M))) : wp kc (d + 1) 191 40 [some (jR 125), some (jR 2), some (jI v2), some (jI v3), some (jR o), some (jI v5), some (jI v6), some (jI v7), none, none] [jI u0] M Q :=
  (x_ild c191_40 rfl (have K : wp kc (d + 1) 191 50 [some (jR 125), some (jR 2), some (jI v2), some (jI v3), some (jR o), some (jI v5), some (jI v6), some (jI v7), none, none] [jI (if v5 < 0 then (0 : Int) else 1), jI u0] M Q := (x_isub c191_50 (x_ci c191_51 (x_cge c191_53 H.2.1 (by decide) (fun h3 => (x_ci c191_61 (x_zrt c191_62 r191 (by decide) (H.2.2.1 h3)))) (fun h4 => (x_ild c191_56 rfl (x_zge c191_58 (H.2.2.2 h4).1 (fun h1 => (x_aldn c191_63 rfl (x_ci c191_64 (x_pfi c191_65 k_125_2 (x_ci c191_68 (x_ild c191_70 rfl (x_imul c191_72 (x_ist (l' := [some (jR 125), some (jR 2), some (jI v2), some (jI v3), some (jR o), some (jI v5), some (jI v6), some (jI v7), some (jI (32 * v7)), none]) c191_73 rfl (x_aldn c191_75 rfl (x_ild c191_76 rfl (x_ildn c191_78 rfl (wp_wk (l' := [some (jR 125), some (jR 2), some (jI v2), some (jI v3), some (jR o), some (jI v5), some (jI v6), some (jI v7), some (jI (32 * v7)), none]) ⟨rfl, ⟨rfl, ⟨rfl, ⟨rfl, ⟨rfl, ⟨rfl, ⟨rfl, ⟨rfl, ⟨rfl, trivial⟩⟩⟩⟩⟩⟩⟩⟩⟩ (x_cv (As := [jI (32 * v7), jI v3]) (st := []) c191_79 cl_125 kl193 rfl (Nat.le_of_ble_eq_true rfl) mx193 (Nat.le_refl _) ((H.2.2.2 h4).2.1 h1)))))))))))))) (fun h2 => (x_ci c191_61 (x_zrt c191_62 r191 (by decide) ((H.2.2.2 h4).2.2 h2)))))))))); (x_zge c191_42 H.1 (fun (h5 : 0 ≤ v5) => (x_ci c191_49 (wp_wk (l' := [some (jR 125), some (jR 2), some (jI v2), some (jI v3), some (jR o), some (jI v5), some (jI v6), some (jI v7), none, none]) ⟨rfl, ⟨rfl, ⟨rfl, ⟨rfl, ⟨rfl, ⟨rfl, ⟨rfl, ⟨rfl, trivial⟩⟩⟩⟩⟩⟩⟩⟩ (by have K := K; first | (simp only [if_neg (Int.not_lt.mpr h5)] at K ⊢; exact K) | (exfalso; omega))))) (fun (h6 : v5 < 0) => (x_ci c191_45 (x_goto c191_46 (wp_wk (l' := [some (jR 125), some (jR 2), some (jI v2), some (jI v3), some (jR o), some (jI v5), some (jI v6), some (jI v7), none, none]) ⟨rfl, ⟨rfl, ⟨rfl, ⟨rfl, ⟨rfl, ⟨rfl, ⟨rfl, ⟨rfl, trivial⟩⟩⟩⟩⟩⟩⟩⟩ (by have K := K; first | (simp only [if_pos h6] at K ⊢; exact K) | (exfalso; omega)))))))))
theorem s191_82 {kc : List va_E} {d : Nat} {o : Nat} {v2 v3 v5 v6 v7 v8 : Int} {M : fx_M} {Q : Option fx_V → fx_M → Prop} (Ho : fx_out o) (H : wp kc (d + 1) 191 85 [some (jR 125), some (jR 2), some (jI v2), some (jI v3), some (jR o), some (jI v5), some (jI v6), some (jI v7), some (jI v8), some (jI 0)] [] M Q) : wp kc (d + 1) 191 82 [some (jR 125), some (jR 2), some (jI v2), some (jI v3), some (jR o), some (jI v5), some (jI v6), some (jI v7), some (jI v8), none] [] M Q :=
  (x_ci c191_82 (x_ist (l' := [some (jR 125), some (jR 2), some (jI v2), some (jI v3), some (jR o), some (jI v5), some (jI v6), some (jI v7), some (jI v8), some (jI 0)]) c191_83 rfl (wp_wk (l' := [some (jR 125), some (jR 2), some (jI v2), some (jI v3), some (jR o), some (jI v5), some (jI v6), some (jI v7), some (jI v8), some (jI 0)]) ⟨rfl, ⟨rfl, ⟨rfl, ⟨rfl, ⟨rfl, ⟨rfl, ⟨rfl, ⟨rfl, ⟨rfl, ⟨rfl, trivial⟩⟩⟩⟩⟩⟩⟩⟩⟩⟩ H)))
theorem s191_85 {kc : List va_E} {d : Nat} {o : Nat} {v2 v3 v5 v6 v7 v8 v9 : Int} {M : fx_M} {Q : Option fx_V → fx_M → Prop} (Ho : fx_out o) (H : ((fx_in32 v9) ∧ (fx_in32 v3)) ∧ (v3 ≤ v9 → wc kc d 193 [jR 125, jI ((v8 + v3) + 1), jI (fx_and (M o 1) 255)] M (fun v M1 => wp kc (d + 1) 191 133 [some (jR 125), none, none, some (jI v3), some (jR o), some (jI v5), some (jI v6), some (jI v7), some (jI v8), none] (v.toList ++ []) M1 Q)) ∧ (v9 < v3 → (((0 : Int) ≤ v2 + v9 ∧ v2 + v9 < 5606)) ∧ wc kc d 193 [jR 125, jI ((v8 + 1) + v9), jI (M 2 (v2 + v9))] M (fun v M1 => wp kc (d + 1) 191 108 [some (jR 125), some (jR 2), some (jI v2), some (jI v3), some (jR o), some (jI v5), some (jI v6), some (jI v7), some (jI v8), some (jI v9)] (v.toList ++ []) M1 Q))) : wp kc (d + 1) 191 85 [some (jR 125), some (jR 2), some (jI v2), some (jI v3), some (jR o), some (jI v5), some (jI v6), some (jI v7), some (jI v8), some (jI v9)] [] M Q :=
  (x_ild c191_85 rfl (x_ildn c191_87 rfl (x_cge c191_88 H.1.1 H.1.2 (fun h1 => (x_aldn c191_114 rfl (x_ild c191_115 rfl (x_ildn c191_117 rfl (x_iadd c191_118 (x_ci c191_119 (x_iadd c191_120 (x_ald c191_121 rfl (x_gfi c191_123 (ko_1 Ho) (x_ci c191_126 (x_iand c191_129 (wp_wk (l' := [some (jR 125), none, none, some (jI v3), some (jR o), some (jI v5), some (jI v6), some (jI v7), some (jI v8), none]) ⟨rfl, ⟨rfl, ⟨rfl, ⟨rfl, ⟨rfl, ⟨rfl, ⟨rfl, trivial⟩⟩⟩⟩⟩⟩⟩ (x_cv (As := [jI ((v8 + v3) + 1), jI (fx_and (M o 1) 255)]) (st := []) c191_130 cl_125 kl193 rfl (Nat.le_of_ble_eq_true rfl) mx193 (Nat.le_refl _) (H.2.1 h1)))))))))))))) (fun h2 => (x_aldn c191_91 rfl (x_ild c191_92 rfl (x_ci c191_94 (x_iadd c191_95 (x_ild c191_96 rfl (x_iadd c191_98 (x_aldn c191_99 rfl (x_ildn c191_100 rfl (x_ild c191_101 rfl (x_iadd c191_103 (x_cald c191_104 a_2 (H.2.2 h2).1 (by decide) (wp_wk (l' := [some (jR 125), some (jR 2), some (jI v2), some (jI v3), some (jR o), some (jI v5), some (jI v6), some (jI v7), some (jI v8), some (jI v9)]) ⟨rfl, ⟨rfl, ⟨rfl, ⟨rfl, ⟨rfl, ⟨rfl, ⟨rfl, ⟨rfl, ⟨rfl, ⟨rfl, trivial⟩⟩⟩⟩⟩⟩⟩⟩⟩⟩ (x_cv (As := [jI ((v8 + 1) + v9), jI (M 2 (v2 + v9))]) (st := []) c191_105 cl_125 kl193 rfl (Nat.le_of_ble_eq_true rfl) mx193 (Nat.le_refl _) (H.2.2 h2).2)))))))))))))))))
theorem s191_108 {kc : List va_E} {d : Nat} {o : Nat} {v2 v3 v5 v6 v7 v8 v9 : Int} {M : fx_M} {Q : Option fx_V → fx_M → Prop} (Ho : fx_out o) (H : wp kc (d + 1) 191 85 [some (jR 125), some (jR 2), some (jI v2), some (jI v3), some (jR o), some (jI v5), some (jI v6), some (jI v7), some (jI v8), some (jI (v9 + 1))] [] M Q) : wp kc (d + 1) 191 108 [some (jR 125), some (jR 2), some (jI v2), some (jI v3), some (jR o), some (jI v5), some (jI v6), some (jI v7), some (jI v8), some (jI v9)] [] M Q :=
  (x_inc (l' := [some (jR 125), some (jR 2), some (jI v2), some (jI v3), some (jR o), some (jI v5), some (jI v6), some (jI v7), some (jI v8), some (jI (v9 + 1))]) c191_108 rfl rfl (x_goto c191_111 (wp_wk (l' := [some (jR 125), some (jR 2), some (jI v2), some (jI v3), some (jR o), some (jI v5), some (jI v6), some (jI v7), some (jI v8), some (jI (v9 + 1))]) ⟨rfl, ⟨rfl, ⟨rfl, ⟨rfl, ⟨rfl, ⟨rfl, ⟨rfl, ⟨rfl, ⟨rfl, ⟨rfl, trivial⟩⟩⟩⟩⟩⟩⟩⟩⟩⟩ H)))
theorem s191_133 {kc : List va_E} {d : Nat} {o : Nat} {v3 v5 v6 v7 v8 : Int} {M : fx_M} {Q : Option fx_V → fx_M → Prop} (Ho : fx_out o) (H : wc kc d 193 [jR 125, jI ((v8 + v3) + 2), jI (fx_shr (M o 1) 8)] M (fun v M1 => wp kc (d + 1) 191 151 [some (jR 125), none, none, some (jI v3), some (jR o), some (jI v5), some (jI v6), some (jI v7), some (jI v8), none] (v.toList ++ []) M1 Q)) : wp kc (d + 1) 191 133 [some (jR 125), none, none, some (jI v3), some (jR o), some (jI v5), some (jI v6), some (jI v7), some (jI v8), none] [] M Q :=
  (x_aldn c191_133 rfl (x_ild c191_134 rfl (x_ildn c191_136 rfl (x_iadd c191_137 (x_ci c191_138 (x_iadd c191_139 (x_ald c191_140 rfl (x_gfi c191_142 (ko_1 Ho) (x_ci c191_145 (x_ishr c191_147 (wp_wk (l' := [some (jR 125), none, none, some (jI v3), some (jR o), some (jI v5), some (jI v6), some (jI v7), some (jI v8), none]) ⟨rfl, ⟨rfl, ⟨rfl, ⟨rfl, ⟨rfl, ⟨rfl, ⟨rfl, trivial⟩⟩⟩⟩⟩⟩⟩ (x_cv (As := [jI ((v8 + v3) + 2), jI (fx_shr (M o 1) 8)]) (st := []) c191_148 cl_125 kl193 rfl (Nat.le_of_ble_eq_true rfl) mx193 (Nat.le_refl _) H))))))))))))
theorem s191_151 {kc : List va_E} {d : Nat} {o : Nat} {v3 v5 v6 v7 v8 : Int} {M : fx_M} {Q : Option fx_V → fx_M → Prop} (Ho : fx_out o) (H : wp kc (d + 1) 191 156 [some (jR 125), none, none, some (jI v3), some (jR o), some (jI v5), some (jI v6), some (jI v7), some (jI v8), some (jI (v3 + 3))] [] M Q) : wp kc (d + 1) 191 151 [some (jR 125), none, none, some (jI v3), some (jR o), some (jI v5), some (jI v6), some (jI v7), some (jI v8), none] [] M Q :=
  (x_ildn c191_151 rfl (x_ci c191_152 (x_iadd c191_153 (x_ist (l' := [some (jR 125), none, none, some (jI v3), some (jR o), some (jI v5), some (jI v6), some (jI v7), some (jI v8), some (jI (v3 + 3))]) c191_154 rfl (wp_wk (l' := [some (jR 125), none, none, some (jI v3), some (jR o), some (jI v5), some (jI v6), some (jI v7), some (jI v8), some (jI (v3 + 3))]) ⟨rfl, ⟨rfl, ⟨rfl, ⟨rfl, ⟨rfl, ⟨rfl, ⟨rfl, ⟨rfl, trivial⟩⟩⟩⟩⟩⟩⟩⟩ H)))))
theorem s191_156 {kc : List va_E} {d : Nat} {o : Nat} {v3 v5 v6 v7 v8 v9 : Int} {M : fx_M} {Q : Option fx_V → fx_M → Prop} (Ho : fx_out o) (H : ((fx_in32 v9) ∧ (fx_in32 (32 * v6))) ∧ (32 * v6 ≤ v9 → wc kc d 194 [jR 125, jI v5, jI v7, jI v6] M (fun v M1 => wp kc (d + 1) 191 221 [none, none, none, none, none, none, none, none, none, none] (v.toList ++ []) M1 Q)) ∧ (v9 < 32 * v6 → ((fx_in32 ((v9 - v3) - 3))) ∧ ((fx_in32 (M o 1))) ∧ ((v9 - v3) - 3 < M o 1 → ((((0 : Int) ≤ (v9 - v3) - 3 ∧ (v9 - v3) - 3 < (fx_ol o : Nat))))) ∧ wc kc d 193 [jR 125, jI (v8 + v9), jI (if (v9 - v3) - 3 < M o 1 then (M (o + 1) ((v9 - v3) - 3) : Int) else 0)] M (fun v M1 => wp kc (d + 1) 191 205 [some (jR 125), none, none, some (jI v3), some (jR o), some (jI v5), some (jI v6), some (jI v7), some (jI v8), some (jI v9)] (v.toList ++ []) M1 Q))) : wp kc (d + 1) 191 156 [some (jR 125), none, none, some (jI v3), some (jR o), some (jI v5), some (jI v6), some (jI v7), some (jI v8), some (jI v9)] [] M Q :=
  (x_ild c191_156 rfl (x_ci c191_158 (x_ild c191_160 rfl (x_imul c191_162 (x_cge c191_163 H.1.1 H.1.2 (fun h1 => (x_aldn c191_211 rfl (x_ild c191_212 rfl (x_ild c191_214 rfl (x_ild c191_216 rfl (wp_wk (l' := [none, none, none, none, none, none, none, none, none, none]) trivial (x_cv (As := [jI v5, jI v7, jI v6]) (st := []) c191_218 cl_125 kl194 rfl (Nat.le_of_ble_eq_true rfl) mx194 (Nat.le_refl _) (H.2.1 h1)))))))) (fun h2 => (x_aldn c191_166 rfl (x_ild c191_167 rfl (x_ild c191_169 rfl (x_iadd c191_171 (x_ild c191_172 rfl (x_ildn c191_174 rfl (x_isub c191_175 (x_ci c191_176 (x_isub c191_177 (x_ald c191_178 rfl (x_gfi c191_180 (ko_1 Ho) (have K : wp kc (d + 1) 191 202 [some (jR 125), none, none, some (jI v3), some (jR o), some (jI v5), some (jI v6), some (jI v7), some (jI v8), some (jI v9)] [jI (if (v9 - v3) - 3 < M o 1 then (M (o + 1) ((v9 - v3) - 3) : Int) else 0), jI (v8 + v9), jR 125] M Q := (wp_wk (l' := [some (jR 125), none, none, some (jI v3), some (jR o), some (jI v5), some (jI v6), some (jI v7), some (jI v8), some (jI v9)]) ⟨rfl, ⟨rfl, ⟨rfl, ⟨rfl, ⟨rfl, ⟨rfl, ⟨rfl, ⟨rfl, trivial⟩⟩⟩⟩⟩⟩⟩⟩ (x_cv (As := [jI (v8 + v9), jI (if (v9 - v3) - 3 < M o 1 then (M (o + 1) ((v9 - v3) - 3) : Int) else 0)]) (st := []) c191_202 cl_125 kl193 rfl (Nat.le_of_ble_eq_true rfl) mx193 (Nat.le_refl _) (H.2.2 h2).2.2.2)); (x_cge c191_183 (H.2.2 h2).1 (H.2.2 h2).2.1 (fun (h3 : M o 1 ≤ (v9 - v3) - 3) => (x_ci c191_201 (wp_wk (l' := [some (jR 125), none, none, some (jI v3), some (jR o), some (jI v5), some (jI v6), some (jI v7), some (jI v8), some (jI v9)]) ⟨rfl, ⟨rfl, ⟨rfl, ⟨rfl, ⟨rfl, ⟨rfl, ⟨rfl, ⟨rfl, trivial⟩⟩⟩⟩⟩⟩⟩⟩ (by have K := K; first | (simp only [if_neg (Int.not_lt.mpr h3)] at K ⊢; exact K) | (exfalso; omega))))) (fun (h4 : (v9 - v3) - 3 < M o 1) => (x_ald c191_186 rfl (x_gfr c191_188 (ko_0 Ho) (x_ild c191_191 rfl (x_ildn c191_193 rfl (x_isub c191_194 (x_ci c191_195 (x_isub c191_196 (x_cald c191_197 (ao_1 Ho) ((H.2.2 h2).2.2.1 h4) (fx_ol_le _) (x_goto c191_198 (wp_wk (l' := [some (jR 125), none, none, some (jI v3), some (jR o), some (jI v5), some (jI v6), some (jI v7), some (jI v8), some (jI v9)]) ⟨rfl, ⟨rfl, ⟨rfl, ⟨rfl, ⟨rfl, ⟨rfl, ⟨rfl, ⟨rfl, trivial⟩⟩⟩⟩⟩⟩⟩⟩ (by have K := K; first | (simp only [if_pos h4] at K ⊢; exact K) | (exfalso; omega))))))))))))))))))))))))))))))))
theorem s191_205 {kc : List va_E} {d : Nat} {o : Nat} {v3 v5 v6 v7 v8 v9 : Int} {M : fx_M} {Q : Option fx_V → fx_M → Prop} (Ho : fx_out o) (H : wp kc (d + 1) 191 156 [some (jR 125), none, none, some (jI v3), some (jR o), some (jI v5), some (jI v6), some (jI v7), some (jI v8), some (jI (v9 + 1))] [] M Q) : wp kc (d + 1) 191 205 [some (jR 125), none, none, some (jI v3), some (jR o), some (jI v5), some (jI v6), some (jI v7), some (jI v8), some (jI v9)] [] M Q :=
  (x_inc (l' := [some (jR 125), none, none, some (jI v3), some (jR o), some (jI v5), some (jI v6), some (jI v7), some (jI v8), some (jI (v9 + 1))]) c191_205 rfl rfl (x_goto c191_208 (wp_wk (l' := [some (jR 125), none, none, some (jI v3), some (jR o), some (jI v5), some (jI v6), some (jI v7), some (jI v8), some (jI (v9 + 1))]) ⟨rfl, ⟨rfl, ⟨rfl, ⟨rfl, ⟨rfl, ⟨rfl, ⟨rfl, ⟨rfl, trivial⟩⟩⟩⟩⟩⟩⟩⟩ H)))
theorem s191_221 {kc : List va_E} {d : Nat} {o : Nat} {M : fx_M} {Q : Option fx_V → fx_M → Prop} (Ho : fx_out o) (H : Q (some (jI 1)) M) : wp kc (d + 1) 191 221 [none, none, none, none, none, none, none, none, none, none] [] M Q :=
  (x_ci c191_221 (x_zrt c191_222 r191 (by decide) H))
theorem s191 {kc : List va_E} {d : Nat} {o : Nat} {x2 x3 : Int} {M : fx_M} {Q : Option fx_V → fx_M → Prop} (Ho : fx_out o) (H : wc kc d 178 [jR 125, jR 2, jI x2, jI x3] M (fun v M1 => wp kc (d + 1) 191 7 [some (jR 125), some (jR 2), some (jI x2), some (jI x3), some (jR o), none, none, none, none, none] (v.toList ++ []) M1 Q)) : wc kc (d + 1) 191 [jR 125, jR 2, jI x2, jI x3, jR o] M Q :=
  wc_of (wp_wk (l' := [some (jR 125), some (jR 2), some (jI x2), some (jI x3), some (jR o), none, none, none, none, none]) ⟨rfl, ⟨rfl, ⟨rfl, ⟨rfl, ⟨rfl, trivial⟩⟩⟩⟩⟩ (s191_0 Ho H))

/- PuzzleHouse$Book.freePages(I)I -/
theorem c192_0 : fx_ci 192 0 = some (0, 1) := by decide +kernel
theorem c192_1 : fx_op 192 1 = some (.istore_n 2, 2, 1) := by decide +kernel
theorem c192_2 : fx_ci 192 2 = some (0, 3) := by decide +kernel
theorem c192_3 : fx_op 192 3 = some (.istore_n 3, 4, 3) := by decide +kernel
theorem c192_4 : fx_op 192 4 = some (.iload_n 3, 5, 4) := by decide +kernel
theorem c192_5 : fx_op 192 5 = some (.aload_n 0, 6, 5) := by decide +kernel
theorem c192_6 : fx_ca 192 6 = some (179, 1, 2, 9) := by decide +kernel
theorem c192_9 : fx_op 192 9 = some (.if_icmp .ge 41, 12, 50) := by decide +kernel
theorem c192_12 : fx_ci 192 12 = some (0, 13) := by decide +kernel
theorem c192_13 : fx_op 192 13 = some (.istore 4, 15, 13) := by decide +kernel
theorem c192_50 : fx_ci 192 50 = some (0, 51) := by decide +kernel
theorem c192_51 : fx_op 192 51 = some (.istore_n 3, 52, 51) := by decide +kernel
theorem c192_52 : fx_ci 192 52 = some (3, 53) := by decide +kernel
theorem c192_53 : fx_op 192 53 = some (.istore 4, 55, 53) := by decide +kernel
theorem c192_55 : fx_op 192 55 = some (.iload 4, 57, 55) := by decide +kernel
theorem c192_57 : fx_ci 192 57 = some (32, 59) := by decide +kernel
theorem c192_59 : fx_op 192 59 = some (.if_icmp .ge 38, 62, 97) := by decide +kernel
theorem c192_97 : fx_ci 192 97 = some ((-1), 98) := by decide +kernel
theorem c192_62 : fx_op 192 62 = some (.iload_n 2, 63, 62) := by decide +kernel
theorem c192_63 : fx_op 192 63 = some (.iload 4, 65, 63) := by decide +kernel
theorem c192_65 : fx_op 192 65 = some (.ishr, 66, 65) := by decide +kernel
theorem c192_66 : fx_ci 192 66 = some (1, 67) := by decide +kernel
theorem c192_67 : fx_op 192 67 = some (.iand, 68, 67) := by decide +kernel
theorem c192_68 : fx_op 192 68 = some (.ifCond .ne 9, 71, 77) := by decide +kernel
theorem c192_77 : fx_ci 192 77 = some (0, 78) := by decide +kernel
theorem c192_71 : fx_op 192 71 = some (.iload_n 3, 72, 71) := by decide +kernel
theorem c192_72 : fx_ci 192 72 = some (1, 73) := by decide +kernel
theorem c192_73 : fx_op 192 73 = some (.iadd, 74, 73) := by decide +kernel
theorem c192_74 : fx_op 192 74 = some (.goto 4, 77, 78) := by decide +kernel
theorem c192_78 : fx_op 192 78 = some (.istore_n 3, 79, 78) := by decide +kernel
theorem c192_79 : fx_op 192 79 = some (.iload_n 3, 80, 79) := by decide +kernel
theorem c192_80 : fx_op 192 80 = some (.iload_n 1, 81, 80) := by decide +kernel
theorem c192_81 : fx_op 192 81 = some (.if_icmp .ne 10, 84, 91) := by decide +kernel
theorem c192_91 : fx_op 192 91 = some (.iinc 4 1, 94, 91) := by decide +kernel
theorem c192_84 : fx_op 192 84 = some (.iload 4, 86, 84) := by decide +kernel
theorem c192_86 : fx_op 192 86 = some (.iload_n 1, 87, 86) := by decide +kernel
theorem c192_87 : fx_op 192 87 = some (.isub, 88, 87) := by decide +kernel
theorem c192_88 : fx_ci 192 88 = some (1, 89) := by decide +kernel
theorem c192_89 : fx_op 192 89 = some (.iadd, 90, 89) := by decide +kernel
theorem c192_98 : fx_op 192 98 = some (.ireturn, 99, 98) := by decide +kernel
theorem c192_94 : fx_op 192 94 = some (.goto (-39), 97, 55) := by decide +kernel
theorem c192_90 : fx_op 192 90 = some (.ireturn, 91, 90) := by decide +kernel
theorem c192_15 : fx_op 192 15 = some (.iload 4, 17, 15) := by decide +kernel
theorem c192_17 : fx_op 192 17 = some (.aload_n 0, 18, 17) := by decide +kernel
theorem c192_18 : fx_op 192 18 = some (.iload_n 3, 19, 18) := by decide +kernel
theorem c192_19 : fx_ca 192 19 = some (183, 2, 2, 22) := by decide +kernel
theorem c192_22 : fx_op 192 22 = some (.if_icmp .ge 22, 25, 44) := by decide +kernel
theorem c192_25 : fx_op 192 25 = some (.iload_n 2, 26, 25) := by decide +kernel
theorem c192_26 : fx_ci 192 26 = some (1, 27) := by decide +kernel
theorem c192_27 : fx_op 192 27 = some (.aload_n 0, 28, 27) := by decide +kernel
theorem c192_28 : fx_op 192 28 = some (.iload_n 3, 29, 28) := by decide +kernel
theorem c192_44 : fx_op 192 44 = some (.iinc 3 1, 47, 44) := by decide +kernel
theorem c192_47 : fx_op 192 47 = some (.goto (-43), 50, 4) := by decide +kernel
theorem c192_29 : fx_ca 192 29 = some (181, 2, 2, 32) := by decide +kernel
theorem c192_32 : fx_op 192 32 = some (.iload 4, 34, 32) := by decide +kernel
theorem c192_34 : fx_op 192 34 = some (.iadd, 35, 34) := by decide +kernel
theorem c192_35 : fx_op 192 35 = some (.ishl, 36, 35) := by decide +kernel
theorem c192_36 : fx_op 192 36 = some (.ior, 37, 36) := by decide +kernel
theorem c192_37 : fx_op 192 37 = some (.istore_n 2, 38, 37) := by decide +kernel
theorem c192_38 : fx_op 192 38 = some (.iinc 4 1, 41, 38) := by decide +kernel
theorem c192_41 : fx_op 192 41 = some (.goto (-26), 44, 15) := by decide +kernel
theorem s192_0 {kc : List va_E} {d : Nat} {x1 : Int} {M : fx_M} {Q : Option fx_V → fx_M → Prop} (H : wp kc (d + 1) 192 4 [some (jR 125), some (jI x1), some (jI 0), some (jI 0), none] [] M Q) : wp kc (d + 1) 192 0 [some (jR 125), some (jI x1), none, none, none] [] M Q :=
  (x_ci c192_0 (x_istn (l' := [some (jR 125), some (jI x1), some (jI 0), none, none]) c192_1 rfl (x_ci c192_2 (x_istn (l' := [some (jR 125), some (jI x1), some (jI 0), some (jI 0), none]) c192_3 rfl (wp_wk (l' := [some (jR 125), some (jI x1), some (jI 0), some (jI 0), none]) ⟨rfl, ⟨rfl, ⟨rfl, ⟨rfl, trivial⟩⟩⟩⟩ H)))))
theorem s192_4 {kc : List va_E} {d : Nat} {v1 v2 v3 : Int} {M : fx_M} {Q : Option fx_V → fx_M → Prop} (H : wc kc d 179 [jR 125] M (fun v M1 => wp kc (d + 1) 192 9 [some (jR 125), some (jI v1), some (jI v2), some (jI v3), none] (v.toList ++ [jI v3]) M1 Q)) : wp kc (d + 1) 192 4 [some (jR 125), some (jI v1), some (jI v2), some (jI v3), none] [] M Q :=
  (x_ildn c192_4 rfl (x_aldn c192_5 rfl (wp_wk (l' := [some (jR 125), some (jI v1), some (jI v2), some (jI v3), none]) ⟨rfl, ⟨rfl, ⟨rfl, ⟨rfl, trivial⟩⟩⟩⟩ (x_cv (As := []) (st := [jI v3]) c192_6 cl_125 kl179 rfl (Nat.le_of_ble_eq_true rfl) mx179 (Nat.le_refl _) H))))
theorem s192_9 {kc : List va_E} {d : Nat} {v1 v2 v3 u0 u1 : Int} {M : fx_M} {Q : Option fx_V → fx_M → Prop} (H : ((fx_in32 u1) ∧ (fx_in32 u0)) ∧ (u0 ≤ u1 → wp kc (d + 1) 192 55 [none, some (jI v1), some (jI v2), some (jI 0), some (jI 3)] [] M Q) ∧ (u1 < u0 → wp kc (d + 1) 192 15 [some (jR 125), some (jI v1), some (jI v2), some (jI v3), some (jI 0)] [] M Q)) : wp kc (d + 1) 192 9 [some (jR 125), some (jI v1), some (jI v2), some (jI v3), none] [jI u0, jI u1] M Q :=
  (x_cge c192_9 H.1.1 H.1.2 (fun h1 => (x_ci c192_50 (x_istn (l' := [some (jR 125), some (jI v1), some (jI v2), some (jI 0), none]) c192_51 rfl (x_ci c192_52 (x_ist (l' := [some (jR 125), some (jI v1), some (jI v2), some (jI 0), some (jI 3)]) c192_53 rfl (wp_wk (l' := [none, some (jI v1), some (jI v2), some (jI 0), some (jI 3)]) ⟨rfl, ⟨rfl, ⟨rfl, ⟨rfl, trivial⟩⟩⟩⟩ (H.2.1 h1))))))) (fun h2 => (x_ci c192_12 (x_ist (l' := [some (jR 125), some (jI v1), some (jI v2), some (jI v3), some (jI 0)]) c192_13 rfl (wp_wk (l' := [some (jR 125), some (jI v1), some (jI v2), some (jI v3), some (jI 0)]) ⟨rfl, ⟨rfl, ⟨rfl, ⟨rfl, ⟨rfl, trivial⟩⟩⟩⟩⟩ (H.2.2 h2))))))
theorem s192_15 {kc : List va_E} {d : Nat} {v1 v2 v3 v4 : Int} {M : fx_M} {Q : Option fx_V → fx_M → Prop} (H : wc kc d 183 [jR 125, jI v3] M (fun v M1 => wp kc (d + 1) 192 22 [some (jR 125), some (jI v1), some (jI v2), some (jI v3), some (jI v4)] (v.toList ++ [jI v4]) M1 Q)) : wp kc (d + 1) 192 15 [some (jR 125), some (jI v1), some (jI v2), some (jI v3), some (jI v4)] [] M Q :=
  (x_ild c192_15 rfl (x_aldn c192_17 rfl (x_ildn c192_18 rfl (wp_wk (l' := [some (jR 125), some (jI v1), some (jI v2), some (jI v3), some (jI v4)]) ⟨rfl, ⟨rfl, ⟨rfl, ⟨rfl, ⟨rfl, trivial⟩⟩⟩⟩⟩ (x_cv (As := [jI v3]) (st := [jI v4]) c192_19 cl_125 kl183 rfl (Nat.le_of_ble_eq_true rfl) mx183 (Nat.le_refl _) H)))))
theorem s192_22 {kc : List va_E} {d : Nat} {v1 v2 v3 v4 u0 u1 : Int} {M : fx_M} {Q : Option fx_V → fx_M → Prop} (H : ((fx_in32 u1) ∧ (fx_in32 u0)) ∧ (u0 ≤ u1 → wp kc (d + 1) 192 4 [some (jR 125), some (jI v1), some (jI v2), some (jI (v3 + 1)), none] [] M Q) ∧ (u1 < u0 → wc kc d 181 [jR 125, jI v3] M (fun v M1 => wp kc (d + 1) 192 32 [some (jR 125), some (jI v1), none, some (jI v3), some (jI v4)] (v.toList ++ [jI 1, jI v2]) M1 Q))) : wp kc (d + 1) 192 22 [some (jR 125), some (jI v1), some (jI v2), some (jI v3), some (jI v4)] [jI u0, jI u1] M Q :=
  (x_cge c192_22 H.1.1 H.1.2 (fun h1 => (x_inc (l' := [some (jR 125), some (jI v1), some (jI v2), some (jI (v3 + 1)), some (jI v4)]) c192_44 rfl rfl (x_goto c192_47 (wp_wk (l' := [some (jR 125), some (jI v1), some (jI v2), some (jI (v3 + 1)), none]) ⟨rfl, ⟨rfl, ⟨rfl, ⟨rfl, trivial⟩⟩⟩⟩ (H.2.1 h1))))) (fun h2 => (x_ildn c192_25 rfl (x_ci c192_26 (x_aldn c192_27 rfl (x_ildn c192_28 rfl (wp_wk (l' := [some (jR 125), some (jI v1), none, some (jI v3), some (jI v4)]) ⟨rfl, ⟨rfl, ⟨rfl, ⟨rfl, trivial⟩⟩⟩⟩ (x_cv (As := [jI v3]) (st := [jI 1, jI v2]) c192_29 cl_125 kl181 rfl (Nat.le_of_ble_eq_true rfl) mx181 (Nat.le_refl _) (H.2.2 h2)))))))))
theorem s192_32 {kc : List va_E} {d : Nat} {v1 v3 v4 u0 u1 u2 : Int} {M : fx_M} {Q : Option fx_V → fx_M → Prop} (H : wp kc (d + 1) 192 15 [some (jR 125), some (jI v1), some (jI (fx_or u2 (fx_shl u1 (u0 + v4)))), some (jI v3), some (jI (v4 + 1))] [] M Q) : wp kc (d + 1) 192 32 [some (jR 125), some (jI v1), none, some (jI v3), some (jI v4)] [jI u0, jI u1, jI u2] M Q :=
  (x_ild c192_32 rfl (x_iadd c192_34 (x_ishl c192_35 (x_ior c192_36 (x_istn (l' := [some (jR 125), some (jI v1), some (jI (fx_or u2 (fx_shl u1 (u0 + v4)))), some (jI v3), some (jI v4)]) c192_37 rfl (x_inc (l' := [some (jR 125), some (jI v1), some (jI (fx_or u2 (fx_shl u1 (u0 + v4)))), some (jI v3), some (jI (v4 + 1))]) c192_38 rfl rfl (x_goto c192_41 (wp_wk (l' := [some (jR 125), some (jI v1), some (jI (fx_or u2 (fx_shl u1 (u0 + v4)))), some (jI v3), some (jI (v4 + 1))]) ⟨rfl, ⟨rfl, ⟨rfl, ⟨rfl, ⟨rfl, trivial⟩⟩⟩⟩⟩ H))))))))
theorem s192_55 {kc : List va_E} {d : Nat} {v1 v2 v3 v4 : Int} {M : fx_M} {Q : Option fx_V → fx_M → Prop} (H : ((fx_in32 v4)) ∧ (32 ≤ v4 → Q (some (jI (-1))) M) ∧ (v4 < 32 → ((fx_in32 (fx_and (fx_shr v2 v4) 1))) ∧ ((fx_in32 (if fx_and (fx_shr v2 v4) 1 = 0 then (v3 + 1 : Int) else 0)) ∧ (fx_in32 v1)) ∧ ((if fx_and (fx_shr v2 v4) 1 = 0 then (v3 + 1 : Int) else 0) ≠ v1 → wp kc (d + 1) 192 55 [none, some (jI v1), some (jI v2), some (jI (if fx_and (fx_shr v2 v4) 1 = 0 then (v3 + 1 : Int) else 0)), some (jI (v4 + 1))] [] M Q) ∧ ((if fx_and (fx_shr v2 v4) 1 = 0 then (v3 + 1 : Int) else 0) = v1 → Q (some (jI ((v4 - v1) + 1))) M))) : wp kc (d + 1) 192 55 [none, some (jI v1), some (jI v2), some (jI v3), some (jI v4)] [] M Q :=
  (x_ild c192_55 rfl (x_ci c192_57 (x_cge c192_59 H.1 (by decide) (fun h3 => (x_ci c192_97 (x_irt c192_98 r192 (H.2.1 h3)))) (fun h4 => (x_ildn c192_62 rfl (x_ild c192_63 rfl (x_ishr c192_65 (x_ci c192_66 (x_iand c192_67 (have K : wp kc (d + 1) 192 78 [none, some (jI v1), some (jI v2), none, some (jI v4)] [jI (if fx_and (fx_shr v2 v4) 1 = 0 then (v3 + 1 : Int) else 0)] M Q := (x_istn (l' := [none, some (jI v1), some (jI v2), some (jI (if fx_and (fx_shr v2 v4) 1 = 0 then (v3 + 1 : Int) else 0)), some (jI v4)]) c192_78 rfl (x_ildn c192_79 rfl (x_ildn c192_80 rfl (x_cne c192_81 (H.2.2 h4).2.1.1 (H.2.2 h4).2.1.2 (fun h1 => (x_inc (l' := [none, some (jI v1), some (jI v2), some (jI (if fx_and (fx_shr v2 v4) 1 = 0 then (v3 + 1 : Int) else 0)), some (jI (v4 + 1))]) c192_91 rfl rfl (x_goto c192_94 (wp_wk (l' := [none, some (jI v1), some (jI v2), some (jI (if fx_and (fx_shr v2 v4) 1 = 0 then (v3 + 1 : Int) else 0)), some (jI (v4 + 1))]) ⟨rfl, ⟨rfl, ⟨rfl, ⟨rfl, trivial⟩⟩⟩⟩ ((H.2.2 h4).2.2.1 h1))))) (fun h2 => (x_ild c192_84 rfl (x_ildn c192_86 rfl (x_isub c192_87 (x_ci c192_88 (x_iadd c192_89 (x_irt c192_90 r192 ((H.2.2 h4).2.2.2 h2)))))))))))); (x_zne c192_68 (H.2.2 h4).1 (fun (h5 : fx_and (fx_shr v2 v4) 1 ≠ 0) => (x_ci c192_77 (wp_wk (l' := [none, some (jI v1), some (jI v2), none, some (jI v4)]) ⟨rfl, ⟨rfl, ⟨rfl, trivial⟩⟩⟩ (by have K := K; first | (simp only [if_neg h5] at K ⊢; exact K) | (exfalso; omega))))) (fun (h6 : fx_and (fx_shr v2 v4) 1 = 0) => (x_ildn c192_71 rfl (x_ci c192_72 (x_iadd c192_73 (x_goto c192_74 (wp_wk (l' := [none, some (jI v1), some (jI v2), none, some (jI v4)]) ⟨rfl, ⟨rfl, ⟨rfl, trivial⟩⟩⟩ (by have K := K; first | (simp only [if_pos h6] at K ⊢; exact K) | (exfalso; omega)))))))))))))))))))
theorem s192 {kc : List va_E} {d : Nat} {x1 : Int} {M : fx_M} {Q : Option fx_V → fx_M → Prop} (H : wp kc (d + 1) 192 4 [some (jR 125), some (jI x1), some (jI 0), some (jI 0), none] [] M Q) : wc kc (d + 1) 192 [jR 125, jI x1] M Q :=
  wc_of (wp_wk (l' := [some (jR 125), some (jI x1), none, none, none]) ⟨rfl, ⟨rfl, trivial⟩⟩ (s192_0 H))

/- PuzzleHouse$Book.write(II)V -/
theorem c193_0 : fx_op 193 0 = some (.aload_n 0, 1, 0) := by decide +kernel
theorem c193_1 : fx_gf 193 1 = some (11, 2, 4) := by decide +kernel
theorem c193_4 : fx_op 193 4 = some (.aload_n 0, 5, 4) := by decide +kernel
theorem c193_5 : fx_gf 193 5 = some (11, 3, 8) := by decide +kernel
theorem c193_8 : fx_op 193 8 = some (.arraylength, 9, 8) := by decide +kernel
theorem c193_9 : fx_op 193 9 = some (.if_icmp .ge 46, 12, 55) := by decide +kernel
theorem c193_12 : fx_op 193 12 = some (.aload_n 0, 13, 12) := by decide +kernel
theorem c193_13 : fx_gf 193 13 = some (11, 3, 16) := by decide +kernel
theorem c193_16 : fx_op 193 16 = some (.aload_n 0, 17, 16) := by decide +kernel
theorem c193_17 : fx_gf 193 17 = some (11, 2, 20) := by decide +kernel
theorem c193_20 : fx_op 193 20 = some (.iload_n 1, 21, 20) := by decide +kernel
theorem c193_22 : fx_op 193 22 = some (.aload_n 0, 23, 22) := by decide +kernel
theorem c193_23 : fx_gf 193 23 = some (11, 4, 26) := by decide +kernel
theorem c193_26 : fx_op 193 26 = some (.aload_n 0, 27, 26) := by decide +kernel
theorem c193_27 : fx_gf 193 27 = some (11, 2, 30) := by decide +kernel
theorem c193_30 : fx_op 193 30 = some (.aload_n 0, 31, 30) := by decide +kernel
theorem c193_31 : fx_gf 193 31 = some (11, 0, 34) := by decide +kernel
theorem c193_34 : fx_op 193 34 = some (.iload_n 1, 35, 34) := by decide +kernel
theorem c193_37 : fx_op 193 37 = some (.aload_n 0, 38, 37) := by decide +kernel
theorem c193_38 : fx_op 193 38 = some (.dup, 39, 38) := by decide +kernel
theorem c193_39 : fx_gf 193 39 = some (11, 2, 42) := by decide +kernel
theorem c193_42 : fx_ci 193 42 = some (1, 43) := by decide +kernel
theorem c193_43 : fx_op 193 43 = some (.iadd, 44, 43) := by decide +kernel
theorem c193_44 : fx_pf 193 44 = some (11, 2, 0, 47) := by decide +kernel
theorem c193_47 : fx_op 193 47 = some (.aload_n 0, 48, 47) := by decide +kernel
theorem c193_48 : fx_gf 193 48 = some (11, 0, 51) := by decide +kernel
theorem c193_51 : fx_op 193 51 = some (.iload_n 1, 52, 51) := by decide +kernel
theorem c193_52 : fx_op 193 52 = some (.iload_n 2, 53, 52) := by decide +kernel
theorem c193_53 : fx_op 193 53 = some (.i2c, 54, 53) := by decide +kernel
theorem c193_55 : fx_op 193 55 = some (.return_, 56, 55) := by decide +kernel
theorem c193_21 : fx_op 193 21 = some (.iastore, 22, 21) := by decide +kernel
theorem c193_35 : fx_op 193 35 = some (.caload, 36, 35) := by decide +kernel
theorem c193_36 : fx_op 193 36 = some (.castore, 37, 36) := by decide +kernel
theorem c193_54 : fx_op 193 54 = some (.castore, 55, 54) := by decide +kernel
theorem s193_0 {kc : List va_E} {d : Nat} {x1 x2 : Int} {M : fx_M} {Q : Option fx_V → fx_M → Prop} (H : ((fx_in32 (M 125 2))) ∧ (1024 ≤ M 125 2 → Q none M) ∧ (M 125 2 < 1024 → (((0 : Int) ≤ M 125 2 ∧ M 125 2 < 1024)) ∧ (((0 : Int) ≤ x1 ∧ x1 < 1024)) ∧ (((0 : Int) ≤ M 125 2 ∧ M 125 2 < 1024) ∧ ((0 : Int) ≤ M 126 x1 ∧ M 126 x1 ≤ 65535)) ∧ (((0 : Int) ≤ x1 ∧ x1 < 1024) ∧ ((0 : Int) ≤ x2 % 65536 ∧ x2 % 65536 ≤ 65535)) ∧ Q none (fx_up (fx_up (fx_up (fx_up M 127 (M 125 2) x1) 128 (M 125 2) (M 126 x1)) 125 2 ((M 125 2) + 1)) 126 x1 (x2 % 65536)))) : wp kc (d + 1) 193 0 [some (jR 125), some (jI x1), some (jI x2)] [] M Q :=
  (x_aldn c193_0 rfl (x_gfi c193_1 k_125_2 (x_aldn c193_4 rfl (x_gfr c193_5 k_125_3 (x_len c193_8 a_127 (x_cge c193_9 H.1 (by decide) (fun h1 => (x_vr c193_55 r193 (H.2.1 h1))) (fun h2 => (x_aldn c193_12 rfl (x_gfr c193_13 k_125_3 (x_aldn c193_16 rfl (x_gfi c193_17 k_125_2 (x_ildn c193_20 rfl (x_iast c193_21 a_127 (H.2.2 h2).1 (by decide) (x_aldn c193_22 rfl (x_gfr c193_23 k_125_4 (x_aldn c193_26 rfl (x_gfi c193_27 k_125_2 (wp_vI (fx_upA (by decide)) (x_aldn c193_30 rfl (x_gfr c193_31 k_125_0 (x_ildn c193_34 rfl (x_cald c193_35 a_126 (H.2.2 h2).2.1 (by decide) (wp_vI (fx_upA (by decide)) (x_cast c193_36 a_128 (H.2.2 h2).2.2.1.1 (by decide) (H.2.2 h2).2.2.1.2 (x_aldn c193_37 rfl (x_dupr c193_38 (x_gfi c193_39 k_125_2 (wp_vI (((fx_upA (by decide)).trans (fx_upA (by decide)))) (x_ci c193_42 (x_iadd c193_43 (x_pfi c193_44 k_125_2 (x_aldn c193_47 rfl (x_gfr c193_48 k_125_0 (x_ildn c193_51 rfl (x_ildn c193_52 rfl (x_i2c c193_53 (x_cast c193_54 a_126 (H.2.2 h2).2.2.2.1.1 (by decide) (H.2.2 h2).2.2.2.1.2 (x_vr c193_55 r193 (H.2.2 h2).2.2.2.2))))))))))))))))))))))))))))))))))))))
theorem s193 {kc : List va_E} {d : Nat} {x1 x2 : Int} {M : fx_M} {Q : Option fx_V → fx_M → Prop} (H : ((fx_in32 (M 125 2))) ∧ (1024 ≤ M 125 2 → Q none M) ∧ (M 125 2 < 1024 → (((0 : Int) ≤ M 125 2 ∧ M 125 2 < 1024)) ∧ (((0 : Int) ≤ x1 ∧ x1 < 1024)) ∧ (((0 : Int) ≤ M 125 2 ∧ M 125 2 < 1024) ∧ ((0 : Int) ≤ M 126 x1 ∧ M 126 x1 ≤ 65535)) ∧ (((0 : Int) ≤ x1 ∧ x1 < 1024) ∧ ((0 : Int) ≤ x2 % 65536 ∧ x2 % 65536 ≤ 65535)) ∧ Q none (fx_up (fx_up (fx_up (fx_up M 127 (M 125 2) x1) 128 (M 125 2) (M 126 x1)) 125 2 ((M 125 2) + 1)) 126 x1 (x2 % 65536)))) : wc kc (d + 1) 193 [jR 125, jI x1, jI x2] M Q :=
  wc_of (wp_wk (l' := [some (jR 125), some (jI x1), some (jI x2)]) ⟨rfl, ⟨rfl, ⟨rfl, trivial⟩⟩⟩ (s193_0 H))

/- PuzzleHouse$Book.turn(III)V -/
theorem c194_0 : fx_ci 194 0 = some (3, 1) := by decide +kernel
theorem c194_1 : fx_op 194 1 = some (.aload_n 0, 2, 1) := by decide +kernel
theorem c194_2 : fx_ca 194 2 = some (180, 1, 2, 5) := by decide +kernel
theorem c194_5 : fx_ci 194 5 = some (32, 7) := by decide +kernel
theorem c194_8 : fx_op 194 8 = some (.isub, 9, 8) := by decide +kernel
theorem c194_9 : fx_op 194 9 = some (.istore 4, 11, 9) := by decide +kernel
theorem c194_11 : fx_ci 194 11 = some (32, 13) := by decide +kernel
theorem c194_13 : fx_op 194 13 = some (.iload 4, 15, 13) := by decide +kernel
theorem c194_15 : fx_op 194 15 = some (.imul, 16, 15) := by decide +kernel
theorem c194_16 : fx_op 194 16 = some (.istore 5, 18, 16) := by decide +kernel
theorem c194_18 : fx_op 194 18 = some (.aload_n 0, 19, 18) := by decide +kernel
theorem c194_7 : fx_op 194 7 = some (.idiv, 8, 7) := by decide +kernel
theorem c194_19 : fx_ca 194 19 = some (179, 1, 2, 22) := by decide +kernel
theorem c194_22 : fx_op 194 22 = some (.istore 6, 24, 22) := by decide +kernel
theorem c194_24 : fx_op 194 24 = some (.iload 6, 26, 24) := by decide +kernel
theorem c194_26 : fx_op 194 26 = some (.iload_n 1, 27, 26) := by decide +kernel
theorem c194_27 : fx_op 194 27 = some (.ifCond .ge 7, 30, 34) := by decide +kernel
theorem c194_34 : fx_ci 194 34 = some (1, 35) := by decide +kernel
theorem c194_30 : fx_ci 194 30 = some (0, 31) := by decide +kernel
theorem c194_31 : fx_op 194 31 = some (.goto 4, 34, 35) := by decide +kernel
theorem c194_35 : fx_op 194 35 = some (.isub, 36, 35) := by decide +kernel
theorem c194_36 : fx_op 194 36 = some (.iload_n 3, 37, 36) := by decide +kernel
theorem c194_37 : fx_op 194 37 = some (.ifCond .le 7, 40, 44) := by decide +kernel
theorem c194_44 : fx_ci 194 44 = some (0, 45) := by decide +kernel
theorem c194_40 : fx_ci 194 40 = some (1, 41) := by decide +kernel
theorem c194_41 : fx_op 194 41 = some (.goto 4, 44, 45) := by decide +kernel
theorem c194_45 : fx_op 194 45 = some (.iadd, 46, 45) := by decide +kernel
theorem c194_46 : fx_op 194 46 = some (.istore 7, 48, 46) := by decide +kernel
theorem c194_48 : fx_op 194 48 = some (.iload 7, 50, 48) := by decide +kernel
theorem c194_50 : fx_op 194 50 = some (.istore 8, 52, 50) := by decide +kernel
theorem c194_52 : fx_op 194 52 = some (.iload 5, 54, 52) := by decide +kernel
theorem c194_54 : fx_ci 194 54 = some (1, 55) := by decide +kernel
theorem c194_55 : fx_op 194 55 = some (.iadd, 56, 55) := by decide +kernel
theorem c194_56 : fx_op 194 56 = some (.istore 9, 58, 56) := by decide +kernel
theorem c194_58 : fx_op 194 58 = some (.aload_n 0, 59, 58) := by decide +kernel
theorem c194_59 : fx_op 194 59 = some (.iload 5, 61, 59) := by decide +kernel
theorem c194_61 : fx_op 194 61 = some (.iload 7, 63, 61) := by decide +kernel
theorem c194_63 : fx_ca 194 63 = some (193, 3, 2, 66) := by decide +kernel
theorem c194_66 : fx_ci 194 66 = some (0, 67) := by decide +kernel
theorem c194_67 : fx_op 194 67 = some (.istore 10, 69, 67) := by decide +kernel
theorem c194_69 : fx_op 194 69 = some (.iload 10, 71, 69) := by decide +kernel
theorem c194_71 : fx_op 194 71 = some (.iload 6, 73, 71) := by decide +kernel
theorem c194_73 : fx_op 194 73 = some (.if_icmp .ge 62, 76, 135) := by decide +kernel
theorem c194_76 : fx_op 194 76 = some (.iload 10, 78, 76) := by decide +kernel
theorem c194_78 : fx_op 194 78 = some (.iload_n 1, 79, 78) := by decide +kernel
theorem c194_79 : fx_op 194 79 = some (.if_icmp .eq 50, 82, 129) := by decide +kernel
theorem c194_129 : fx_op 194 129 = some (.iinc 10 1, 132, 129) := by decide +kernel
theorem c194_135 : fx_op 194 135 = some (.iload_n 3, 136, 135) := by decide +kernel
theorem c194_136 : fx_op 194 136 = some (.ifCond .le 30, 139, 166) := by decide +kernel
theorem c194_139 : fx_op 194 139 = some (.aload_n 0, 140, 139) := by decide +kernel
theorem c194_140 : fx_op 194 140 = some (.iload 9, 142, 140) := by decide +kernel
theorem c194_142 : fx_op 194 142 = some (.iload_n 2, 143, 142) := by decide +kernel
theorem c194_166 : fx_op 194 166 = some (.iload 9, 168, 166) := by decide +kernel
theorem c194_168 : fx_op 194 168 = some (.istore 10, 170, 168) := by decide +kernel
theorem c194_82 : fx_op 194 82 = some (.aload_n 0, 83, 82) := by decide +kernel
theorem c194_83 : fx_op 194 83 = some (.iload 9, 85, 83) := by decide +kernel
theorem c194_85 : fx_op 194 85 = some (.aload_n 0, 86, 85) := by decide +kernel
theorem c194_86 : fx_op 194 86 = some (.iload 10, 88, 86) := by decide +kernel
theorem c194_143 : fx_ca 194 143 = some (193, 3, 2, 146) := by decide +kernel
theorem c194_132 : fx_op 194 132 = some (.goto (-63), 135, 69) := by decide +kernel
theorem c194_88 : fx_ca 194 88 = some (181, 2, 2, 91) := by decide +kernel
theorem c194_170 : fx_op 194 170 = some (.iload 10, 172, 170) := by decide +kernel
theorem c194_172 : fx_op 194 172 = some (.iload 5, 174, 172) := by decide +kernel
theorem c194_174 : fx_ci 194 174 = some (32, 176) := by decide +kernel
theorem c194_176 : fx_op 194 176 = some (.iadd, 177, 176) := by decide +kernel
theorem c194_177 : fx_ci 194 177 = some (1, 178) := by decide +kernel
theorem c194_178 : fx_op 194 178 = some (.isub, 179, 178) := by decide +kernel
theorem c194_179 : fx_op 194 179 = some (.if_icmp .ge 16, 182, 195) := by decide +kernel
theorem c194_182 : fx_op 194 182 = some (.aload_n 0, 183, 182) := by decide +kernel
theorem c194_183 : fx_op 194 183 = some (.iload 10, 185, 183) := by decide +kernel
theorem c194_185 : fx_ci 194 185 = some (0, 186) := by decide +kernel
theorem c194_195 : fx_op 194 195 = some (.aload_n 0, 196, 195) := by decide +kernel
theorem c194_196 : fx_op 194 196 = some (.iload 5, 198, 196) := by decide +kernel
theorem c194_198 : fx_ci 194 198 = some (32, 200) := by decide +kernel
theorem c194_200 : fx_op 194 200 = some (.iadd, 201, 200) := by decide +kernel
theorem c194_201 : fx_ci 194 201 = some (1, 202) := by decide +kernel
theorem c194_202 : fx_op 194 202 = some (.isub, 203, 202) := by decide +kernel
theorem c194_203 : fx_op 194 203 = some (.iload 8, 205, 203) := by decide +kernel
theorem c194_205 : fx_ci 194 205 = some (251, 208) := by decide +kernel
theorem c194_208 : fx_op 194 208 = some (.irem, 209, 208) := by decide +kernel
theorem c194_209 : fx_ca 194 209 = some (193, 3, 2, 212) := by decide +kernel
theorem c194_186 : fx_ca 194 186 = some (193, 3, 2, 189) := by decide +kernel
theorem c194_146 : fx_op 194 146 = some (.aload_n 0, 147, 146) := by decide +kernel
theorem c194_147 : fx_op 194 147 = some (.iload 9, 149, 147) := by decide +kernel
theorem c194_149 : fx_ci 194 149 = some (1, 150) := by decide +kernel
theorem c194_150 : fx_op 194 150 = some (.iadd, 151, 150) := by decide +kernel
theorem c194_151 : fx_op 194 151 = some (.iload_n 3, 152, 151) := by decide +kernel
theorem c194_152 : fx_ca 194 152 = some (193, 3, 2, 155) := by decide +kernel
theorem c194_91 : fx_ca 194 91 = some (193, 3, 2, 94) := by decide +kernel
theorem c194_212 : fx_op 194 212 = some (.aload_n 0, 213, 212) := by decide +kernel
theorem c194_213 : fx_ci 194 213 = some (0, 214) := by decide +kernel
theorem c194_214 : fx_op 194 214 = some (.iload 4, 216, 214) := by decide +kernel
theorem c194_216 : fx_ca 194 216 = some (193, 3, 2, 219) := by decide +kernel
theorem c194_189 : fx_op 194 189 = some (.iinc 10 1, 192, 189) := by decide +kernel
theorem c194_192 : fx_op 194 192 = some (.goto (-22), 195, 170) := by decide +kernel
theorem c194_155 : fx_op 194 155 = some (.iload 8, 157, 155) := by decide +kernel
theorem c194_157 : fx_op 194 157 = some (.iload_n 2, 158, 157) := by decide +kernel
theorem c194_158 : fx_op 194 158 = some (.iload_n 3, 159, 158) := by decide +kernel
theorem c194_159 : fx_op 194 159 = some (.iadd, 160, 159) := by decide +kernel
theorem c194_160 : fx_op 194 160 = some (.iadd, 161, 160) := by decide +kernel
theorem c194_161 : fx_op 194 161 = some (.istore 8, 163, 161) := by decide +kernel
theorem c194_163 : fx_op 194 163 = some (.iinc 9 2, 166, 163) := by decide +kernel
theorem c194_94 : fx_op 194 94 = some (.aload_n 0, 95, 94) := by decide +kernel
theorem c194_95 : fx_op 194 95 = some (.iload 9, 97, 95) := by decide +kernel
theorem c194_97 : fx_ci 194 97 = some (1, 98) := by decide +kernel
theorem c194_98 : fx_op 194 98 = some (.iadd, 99, 98) := by decide +kernel
theorem c194_99 : fx_op 194 99 = some (.aload_n 0, 100, 99) := by decide +kernel
theorem c194_100 : fx_op 194 100 = some (.iload 10, 102, 100) := by decide +kernel
theorem c194_102 : fx_ca 194 102 = some (183, 2, 2, 105) := by decide +kernel
theorem c194_219 : fx_op 194 219 = some (.return_, 220, 219) := by decide +kernel
theorem c194_105 : fx_ca 194 105 = some (193, 3, 2, 108) := by decide +kernel
theorem c194_108 : fx_op 194 108 = some (.iload 8, 110, 108) := by decide +kernel
theorem c194_110 : fx_op 194 110 = some (.aload_n 0, 111, 110) := by decide +kernel
theorem c194_111 : fx_op 194 111 = some (.iload 10, 113, 111) := by decide +kernel
theorem c194_113 : fx_ca 194 113 = some (181, 2, 2, 116) := by decide +kernel
theorem c194_116 : fx_op 194 116 = some (.aload_n 0, 117, 116) := by decide +kernel
theorem c194_117 : fx_op 194 117 = some (.iload 10, 119, 117) := by decide +kernel
theorem c194_119 : fx_ca 194 119 = some (183, 2, 2, 122) := by decide +kernel
theorem c194_122 : fx_op 194 122 = some (.iadd, 123, 122) := by decide +kernel
theorem c194_123 : fx_op 194 123 = some (.iadd, 124, 123) := by decide +kernel
theorem c194_124 : fx_op 194 124 = some (.istore 8, 126, 124) := by decide +kernel
theorem c194_126 : fx_op 194 126 = some (.iinc 9 2, 129, 126) := by decide +kernel
theorem s194_0 {kc : List va_E} {d : Nat} {x1 x2 x3 : Int} {M : fx_M} {Q : Option fx_V → fx_M → Prop} (H : wc kc d 180 [jR 125] M (fun v M1 => wp kc (d + 1) 194 5 [some (jR 125), some (jI x1), some (jI x2), some (jI x3), none, none, none, none, none, none, none] (v.toList ++ [jI 3]) M1 Q)) : wp kc (d + 1) 194 0 [some (jR 125), some (jI x1), some (jI x2), some (jI x3), none, none, none, none, none, none, none] [] M Q :=
  (x_ci c194_0 (x_aldn c194_1 rfl (wp_wk (l' := [some (jR 125), some (jI x1), some (jI x2), some (jI x3), none, none, none, none, none, none, none]) ⟨rfl, ⟨rfl, ⟨rfl, ⟨rfl, trivial⟩⟩⟩⟩ (x_cv (As := []) (st := [jI 3]) c194_2 cl_125 kl180 rfl (Nat.le_of_ble_eq_true rfl) mx180 (Nat.le_refl _) H))))
theorem s194_5 {kc : List va_E} {d : Nat} {v1 v2 v3 u0 u1 : Int} {M : fx_M} {Q : Option fx_V → fx_M → Prop} (H : (((0 : Int) ≤ u0 ∧ u0 ≤ 2147483647)) ∧ wc kc d 179 [jR 125] M (fun v M1 => wp kc (d + 1) 194 22 [some (jR 125), some (jI v1), some (jI v2), some (jI v3), some (jI (u1 - (u0 / 32))), some (jI (32 * (u1 - (u0 / 32)))), none, none, none, none, none] (v.toList ++ []) M1 Q)) : wp kc (d + 1) 194 5 [some (jR 125), some (jI v1), some (jI v2), some (jI v3), none, none, none, none, none, none, none] [jI u0, jI u1] M Q :=
  (x_ci c194_5 (x_idiv c194_7 H.1 (by decide) (x_isub c194_8 (x_ist (l' := [some (jR 125), some (jI v1), some (jI v2), some (jI v3), some (jI (u1 - (u0 / 32))), none, none, none, none, none, none]) c194_9 rfl (x_ci c194_11 (x_ild c194_13 rfl (x_imul c194_15 (x_ist (l' := [some (jR 125), some (jI v1), some (jI v2), some (jI v3), some (jI (u1 - (u0 / 32))), some (jI (32 * (u1 - (u0 / 32)))), none, none, none, none, none]) c194_16 rfl (x_aldn c194_18 rfl (wp_wk (l' := [some (jR 125), some (jI v1), some (jI v2), some (jI v3), some (jI (u1 - (u0 / 32))), some (jI (32 * (u1 - (u0 / 32)))), none, none, none, none, none]) ⟨rfl, ⟨rfl, ⟨rfl, ⟨rfl, ⟨rfl, ⟨rfl, trivial⟩⟩⟩⟩⟩⟩ (x_cv (As := []) (st := []) c194_19 cl_125 kl179 rfl (Nat.le_of_ble_eq_true rfl) mx179 (Nat.le_refl _) H.2)))))))))))
theorem s194_22 {kc : List va_E} {d : Nat} {v1 v2 v3 v4 v5 u0 : Int} {M : fx_M} {Q : Option fx_V → fx_M → Prop} (H : ((fx_in32 v1)) ∧ ((fx_in32 v3)) ∧ wc kc d 193 [jR 125, jI v5, jI ((u0 - (if v1 < 0 then (0 : Int) else 1)) + (if 0 < v3 then (1 : Int) else 0))] M (fun v M1 => wp kc (d + 1) 194 66 [some (jR 125), some (jI v1), some (jI v2), some (jI v3), some (jI v4), some (jI v5), some (jI u0), none, some (jI ((u0 - (if v1 < 0 then (0 : Int) else 1)) + (if 0 < v3 then (1 : Int) else 0))), some (jI (v5 + 1)), none] (v.toList ++ []) M1 Q)) : wp kc (d + 1) 194 22 [some (jR 125), some (jI v1), some (jI v2), some (jI v3), some (jI v4), some (jI v5), none, none, none, none, none] [jI u0] M Q :=
  (x_ist (l' := [some (jR 125), some (jI v1), some (jI v2), some (jI v3), some (jI v4), some (jI v5), some (jI u0), none, none, none, none]) c194_22 rfl (x_ild c194_24 rfl (x_ildn c194_26 rfl (have K : wp kc (d + 1) 194 35 [some (jR 125), some (jI v1), some (jI v2), some (jI v3), some (jI v4), some (jI v5), some (jI u0), none, none, none, none] [jI (if v1 < 0 then (0 : Int) else 1), jI u0] M Q := (x_isub c194_35 (x_ildn c194_36 rfl (have K : wp kc (d + 1) 194 45 [some (jR 125), some (jI v1), some (jI v2), some (jI v3), some (jI v4), some (jI v5), some (jI u0), none, none, none, none] [jI (if 0 < v3 then (1 : Int) else 0), jI (u0 - (if v1 < 0 then (0 : Int) else 1))] M Q := (x_iadd c194_45 (x_ist (l' := [some (jR 125), some (jI v1), some (jI v2), some (jI v3), some (jI v4), some (jI v5), some (jI u0), some (jI ((u0 - (if v1 < 0 then (0 : Int) else 1)) + (if 0 < v3 then (1 : Int) else 0))), none, none, none]) c194_46 rfl (x_ild c194_48 rfl (x_ist (l' := [some (jR 125), some (jI v1), some (jI v2), some (jI v3), some (jI v4), some (jI v5), some (jI u0), some (jI ((u0 - (if v1 < 0 then (0 : Int) else 1)) + (if 0 < v3 then (1 : Int) else 0))), some (jI ((u0 - (if v1 < 0 then (0 : Int) else 1)) + (if 0 < v3 then (1 : Int) else 0))), none, none]) c194_50 rfl (x_ild c194_52 rfl (x_ci c194_54 (x_iadd c194_55 (x_ist (l' := [some (jR 125), some (jI v1), some (jI v2), some (jI v3), some (jI v4), some (jI v5), some (jI u0), some (jI ((u0 - (if v1 < 0 then (0 : Int) else 1)) + (if 0 < v3 then (1 : Int) else 0))), some (jI ((u0 - (if v1 < 0 then (0 : Int) else 1)) + (if 0 < v3 then (1 : Int) else 0))), some (jI (v5 + 1)), none]) c194_56 rfl (x_aldn c194_58 rfl (x_ild c194_59 rfl (x_ild c194_61 rfl (wp_wk (l' := [some (jR 125), some (jI v1), some (jI v2), some (jI v3), some (jI v4), some (jI v5), some (jI u0), none, some (jI ((u0 - (if v1 < 0 then (0 : Int) else 1)) + (if 0 < v3 then (1 : Int) else 0))), some (jI (v5 + 1)), none]) ⟨rfl, ⟨rfl, ⟨rfl, ⟨rfl, ⟨rfl, ⟨rfl, ⟨rfl, ⟨rfl, ⟨rfl, trivial⟩⟩⟩⟩⟩⟩⟩⟩⟩ (x_cv (As := [jI v5, jI ((u0 - (if v1 < 0 then (0 : Int) else 1)) + (if 0 < v3 then (1 : Int) else 0))]) (st := []) c194_63 cl_125 kl193 rfl (Nat.le_of_ble_eq_true rfl) mx193 (Nat.le_refl _) H.2.2))))))))))))); (x_zle c194_37 H.2.1 (fun (h3 : v3 ≤ 0) => (x_ci c194_44 (wp_wk (l' := [some (jR 125), some (jI v1), some (jI v2), some (jI v3), some (jI v4), some (jI v5), some (jI u0), none, none, none, none]) ⟨rfl, ⟨rfl, ⟨rfl, ⟨rfl, ⟨rfl, ⟨rfl, ⟨rfl, trivial⟩⟩⟩⟩⟩⟩⟩ (by have K := K; first | (simp only [if_neg (Int.not_lt.mpr h3)] at K ⊢; exact K) | (exfalso; omega))))) (fun (h4 : 0 < v3) => (x_ci c194_40 (x_goto c194_41 (wp_wk (l' := [some (jR 125), some (jI v1), some (jI v2), some (jI v3), some (jI v4), some (jI v5), some (jI u0), none, none, none, none]) ⟨rfl, ⟨rfl, ⟨rfl, ⟨rfl, ⟨rfl, ⟨rfl, ⟨rfl, trivial⟩⟩⟩⟩⟩⟩⟩ (by have K := K; first | (simp only [if_pos h4] at K ⊢; exact K) | (exfalso; omega)))))))))); (x_zge c194_27 H.1 (fun (h1 : 0 ≤ v1) => (x_ci c194_34 (wp_wk (l' := [some (jR 125), some (jI v1), some (jI v2), some (jI v3), some (jI v4), some (jI v5), some (jI u0), none, none, none, none]) ⟨rfl, ⟨rfl, ⟨rfl, ⟨rfl, ⟨rfl, ⟨rfl, ⟨rfl, trivial⟩⟩⟩⟩⟩⟩⟩ (by have K := K; first | (simp only [if_neg (Int.not_lt.mpr h1)] at K ⊢; exact K) | (exfalso; omega))))) (fun (h2 : v1 < 0) => (x_ci c194_30 (x_goto c194_31 (wp_wk (l' := [some (jR 125), some (jI v1), some (jI v2), some (jI v3), some (jI v4), some (jI v5), some (jI u0), none, none, none, none]) ⟨rfl, ⟨rfl, ⟨rfl, ⟨rfl, ⟨rfl, ⟨rfl, ⟨rfl, trivial⟩⟩⟩⟩⟩⟩⟩ (by have K := K; first | (simp only [if_pos h2] at K ⊢; exact K) | (exfalso; omega)))))))))))
theorem s194_66 {kc : List va_E} {d : Nat} {v1 v2 v3 v4 v5 v6 v8 v9 : Int} {M : fx_M} {Q : Option fx_V → fx_M → Prop} (H : wp kc (d + 1) 194 69 [some (jR 125), some (jI v1), some (jI v2), some (jI v3), some (jI v4), some (jI v5), some (jI v6), none, some (jI v8), some (jI v9), some (jI 0)] [] M Q) : wp kc (d + 1) 194 66 [some (jR 125), some (jI v1), some (jI v2), some (jI v3), some (jI v4), some (jI v5), some (jI v6), none, some (jI v8), some (jI v9), none] [] M Q :=
  (x_ci c194_66 (x_ist (l' := [some (jR 125), some (jI v1), some (jI v2), some (jI v3), some (jI v4), some (jI v5), some (jI v6), none, some (jI v8), some (jI v9), some (jI 0)]) c194_67 rfl (wp_wk (l' := [some (jR 125), some (jI v1), some (jI v2), some (jI v3), some (jI v4), some (jI v5), some (jI v6), none, some (jI v8), some (jI v9), some (jI 0)]) ⟨rfl, ⟨rfl, ⟨rfl, ⟨rfl, ⟨rfl, ⟨rfl, ⟨rfl, ⟨rfl, ⟨rfl, ⟨rfl, trivial⟩⟩⟩⟩⟩⟩⟩⟩⟩⟩ H)))
theorem s194_69 {kc : List va_E} {d : Nat} {v1 v2 v3 v4 v5 v6 v8 v9 v10 : Int} {M : fx_M} {Q : Option fx_V → fx_M → Prop} (H : ((fx_in32 v10) ∧ (fx_in32 v6)) ∧ (v6 ≤ v10 → ((fx_in32 v3)) ∧ (v3 ≤ 0 → wp kc (d + 1) 194 170 [some (jR 125), none, none, none, some (jI v4), some (jI v5), none, none, some (jI v8), none, some (jI v9)] [] M Q) ∧ (0 < v3 → wc kc d 193 [jR 125, jI v9, jI v2] M (fun v M1 => wp kc (d + 1) 194 146 [some (jR 125), none, some (jI v2), some (jI v3), some (jI v4), some (jI v5), none, none, some (jI v8), some (jI v9), none] (v.toList ++ []) M1 Q))) ∧ (v10 < v6 → ((fx_in32 v10) ∧ (fx_in32 v1)) ∧ (v10 = v1 → wp kc (d + 1) 194 69 [some (jR 125), some (jI v1), some (jI v2), some (jI v3), some (jI v4), some (jI v5), some (jI v6), none, some (jI v8), some (jI v9), some (jI (v10 + 1))] [] M Q) ∧ (v10 ≠ v1 → wc kc d 181 [jR 125, jI v10] M (fun v M1 => wp kc (d + 1) 194 91 [some (jR 125), some (jI v1), some (jI v2), some (jI v3), some (jI v4), some (jI v5), some (jI v6), none, some (jI v8), some (jI v9), some (jI v10)] (v.toList ++ [jI v9, jR 125]) M1 Q)))) : wp kc (d + 1) 194 69 [some (jR 125), some (jI v1), some (jI v2), some (jI v3), some (jI v4), some (jI v5), some (jI v6), none, some (jI v8), some (jI v9), some (jI v10)] [] M Q :=
  (x_ild c194_69 rfl (x_ild c194_71 rfl (x_cge c194_73 H.1.1 H.1.2 (fun h5 => (x_ildn c194_135 rfl (x_zle c194_136 (H.2.1 h5).1 (fun h1 => (x_ild c194_166 rfl (x_ist (l' := [some (jR 125), some (jI v1), some (jI v2), some (jI v3), some (jI v4), some (jI v5), some (jI v6), none, some (jI v8), some (jI v9), some (jI v9)]) c194_168 rfl (wp_wk (l' := [some (jR 125), none, none, none, some (jI v4), some (jI v5), none, none, some (jI v8), none, some (jI v9)]) ⟨rfl, ⟨rfl, ⟨rfl, ⟨rfl, ⟨rfl, trivial⟩⟩⟩⟩⟩ ((H.2.1 h5).2.1 h1))))) (fun h2 => (x_aldn c194_139 rfl (x_ild c194_140 rfl (x_ildn c194_142 rfl (wp_wk (l' := [some (jR 125), none, some (jI v2), some (jI v3), some (jI v4), some (jI v5), none, none, some (jI v8), some (jI v9), none]) ⟨rfl, ⟨rfl, ⟨rfl, ⟨rfl, ⟨rfl, ⟨rfl, ⟨rfl, trivial⟩⟩⟩⟩⟩⟩⟩ (x_cv (As := [jI v9, jI v2]) (st := []) c194_143 cl_125 kl193 rfl (Nat.le_of_ble_eq_true rfl) mx193 (Nat.le_refl _) ((H.2.1 h5).2.2 h2)))))))))) (fun h6 => (x_ild c194_76 rfl (x_ildn c194_78 rfl (x_ceq c194_79 (H.2.2 h6).1.1 (H.2.2 h6).1.2 (fun h3 => (x_inc (l' := [some (jR 125), some (jI v1), some (jI v2), some (jI v3), some (jI v4), some (jI v5), some (jI v6), none, some (jI v8), some (jI v9), some (jI (v10 + 1))]) c194_129 rfl rfl (x_goto c194_132 (wp_wk (l' := [some (jR 125), some (jI v1), some (jI v2), some (jI v3), some (jI v4), some (jI v5), some (jI v6), none, some (jI v8), some (jI v9), some (jI (v10 + 1))]) ⟨rfl, ⟨rfl, ⟨rfl, ⟨rfl, ⟨rfl, ⟨rfl, ⟨rfl, ⟨rfl, ⟨rfl, ⟨rfl, trivial⟩⟩⟩⟩⟩⟩⟩⟩⟩⟩ ((H.2.2 h6).2.1 h3))))) (fun h4 => (x_aldn c194_82 rfl (x_ild c194_83 rfl (x_aldn c194_85 rfl (x_ild c194_86 rfl (wp_wk (l' := [some (jR 125), some (jI v1), some (jI v2), some (jI v3), some (jI v4), some (jI v5), some (jI v6), none, some (jI v8), some (jI v9), some (jI v10)]) ⟨rfl, ⟨rfl, ⟨rfl, ⟨rfl, ⟨rfl, ⟨rfl, ⟨rfl, ⟨rfl, ⟨rfl, ⟨rfl, trivial⟩⟩⟩⟩⟩⟩⟩⟩⟩⟩ (x_cv (As := [jI v10]) (st := [jI v9, jR 125]) c194_88 cl_125 kl181 rfl (Nat.le_of_ble_eq_true rfl) mx181 (Nat.le_refl _) ((H.2.2 h6).2.2 h4)))))))))))))))
theorem s194_91 {kc : List va_E} {d : Nat} {v1 v2 v3 v4 v5 v6 v8 v9 v10 u0 u1 : Int} {M : fx_M} {Q : Option fx_V → fx_M → Prop} (H : wc kc d 193 [jR 125, jI u1, jI u0] M (fun v M1 => wp kc (d + 1) 194 94 [some (jR 125), some (jI v1), some (jI v2), some (jI v3), some (jI v4), some (jI v5), some (jI v6), none, some (jI v8), some (jI v9), some (jI v10)] (v.toList ++ []) M1 Q)) : wp kc (d + 1) 194 91 [some (jR 125), some (jI v1), some (jI v2), some (jI v3), some (jI v4), some (jI v5), some (jI v6), none, some (jI v8), some (jI v9), some (jI v10)] [jI u0, jI u1, jR 125] M Q :=
  (wp_wk (l' := [some (jR 125), some (jI v1), some (jI v2), some (jI v3), some (jI v4), some (jI v5), some (jI v6), none, some (jI v8), some (jI v9), some (jI v10)]) ⟨rfl, ⟨rfl, ⟨rfl, ⟨rfl, ⟨rfl, ⟨rfl, ⟨rfl, ⟨rfl, ⟨rfl, ⟨rfl, trivial⟩⟩⟩⟩⟩⟩⟩⟩⟩⟩ (x_cv (As := [jI u1, jI u0]) (st := []) c194_91 cl_125 kl193 rfl (Nat.le_of_ble_eq_true rfl) mx193 (Nat.le_refl _) H))
theorem s194_94 {kc : List va_E} {d : Nat} {v1 v2 v3 v4 v5 v6 v8 v9 v10 : Int} {M : fx_M} {Q : Option fx_V → fx_M → Prop} (H : wc kc d 183 [jR 125, jI v10] M (fun v M1 => wp kc (d + 1) 194 105 [some (jR 125), some (jI v1), some (jI v2), some (jI v3), some (jI v4), some (jI v5), some (jI v6), none, some (jI v8), some (jI v9), some (jI v10)] (v.toList ++ [jI (v9 + 1), jR 125]) M1 Q)) : wp kc (d + 1) 194 94 [some (jR 125), some (jI v1), some (jI v2), some (jI v3), some (jI v4), some (jI v5), some (jI v6), none, some (jI v8), some (jI v9), some (jI v10)] [] M Q :=
  (x_aldn c194_94 rfl (x_ild c194_95 rfl (x_ci c194_97 (x_iadd c194_98 (x_aldn c194_99 rfl (x_ild c194_100 rfl (wp_wk (l' := [some (jR 125), some (jI v1), some (jI v2), some (jI v3), some (jI v4), some (jI v5), some (jI v6), none, some (jI v8), some (jI v9), some (jI v10)]) ⟨rfl, ⟨rfl, ⟨rfl, ⟨rfl, ⟨rfl, ⟨rfl, ⟨rfl, ⟨rfl, ⟨rfl, ⟨rfl, trivial⟩⟩⟩⟩⟩⟩⟩⟩⟩⟩ (x_cv (As := [jI v10]) (st := [jI (v9 + 1), jR 125]) c194_102 cl_125 kl183 rfl (Nat.le_of_ble_eq_true rfl) mx183 (Nat.le_refl _) H))))))))
theorem s194_105 {kc : List va_E} {d : Nat} {v1 v2 v3 v4 v5 v6 v8 v9 v10 u0 u1 : Int} {M : fx_M} {Q : Option fx_V → fx_M → Prop} (H : wc kc d 193 [jR 125, jI u1, jI u0] M (fun v M1 => wp kc (d + 1) 194 108 [some (jR 125), some (jI v1), some (jI v2), some (jI v3), some (jI v4), some (jI v5), some (jI v6), none, some (jI v8), some (jI v9), some (jI v10)] (v.toList ++ []) M1 Q)) : wp kc (d + 1) 194 105 [some (jR 125), some (jI v1), some (jI v2), some (jI v3), some (jI v4), some (jI v5), some (jI v6), none, some (jI v8), some (jI v9), some (jI v10)] [jI u0, jI u1, jR 125] M Q :=
  (wp_wk (l' := [some (jR 125), some (jI v1), some (jI v2), some (jI v3), some (jI v4), some (jI v5), some (jI v6), none, some (jI v8), some (jI v9), some (jI v10)]) ⟨rfl, ⟨rfl, ⟨rfl, ⟨rfl, ⟨rfl, ⟨rfl, ⟨rfl, ⟨rfl, ⟨rfl, ⟨rfl, trivial⟩⟩⟩⟩⟩⟩⟩⟩⟩⟩ (x_cv (As := [jI u1, jI u0]) (st := []) c194_105 cl_125 kl193 rfl (Nat.le_of_ble_eq_true rfl) mx193 (Nat.le_refl _) H))
theorem s194_108 {kc : List va_E} {d : Nat} {v1 v2 v3 v4 v5 v6 v8 v9 v10 : Int} {M : fx_M} {Q : Option fx_V → fx_M → Prop} (H : wc kc d 181 [jR 125, jI v10] M (fun v M1 => wp kc (d + 1) 194 116 [some (jR 125), some (jI v1), some (jI v2), some (jI v3), some (jI v4), some (jI v5), some (jI v6), none, none, some (jI v9), some (jI v10)] (v.toList ++ [jI v8]) M1 Q)) : wp kc (d + 1) 194 108 [some (jR 125), some (jI v1), some (jI v2), some (jI v3), some (jI v4), some (jI v5), some (jI v6), none, some (jI v8), some (jI v9), some (jI v10)] [] M Q :=
  (x_ild c194_108 rfl (x_aldn c194_110 rfl (x_ild c194_111 rfl (wp_wk (l' := [some (jR 125), some (jI v1), some (jI v2), some (jI v3), some (jI v4), some (jI v5), some (jI v6), none, none, some (jI v9), some (jI v10)]) ⟨rfl, ⟨rfl, ⟨rfl, ⟨rfl, ⟨rfl, ⟨rfl, ⟨rfl, ⟨rfl, ⟨rfl, trivial⟩⟩⟩⟩⟩⟩⟩⟩⟩ (x_cv (As := [jI v10]) (st := [jI v8]) c194_113 cl_125 kl181 rfl (Nat.le_of_ble_eq_true rfl) mx181 (Nat.le_refl _) H)))))
theorem s194_116 {kc : List va_E} {d : Nat} {v1 v2 v3 v4 v5 v6 v9 v10 u0 u1 : Int} {M : fx_M} {Q : Option fx_V → fx_M → Prop} (H : wc kc d 183 [jR 125, jI v10] M (fun v M1 => wp kc (d + 1) 194 122 [some (jR 125), some (jI v1), some (jI v2), some (jI v3), some (jI v4), some (jI v5), some (jI v6), none, none, some (jI v9), some (jI v10)] (v.toList ++ [jI u0, jI u1]) M1 Q)) : wp kc (d + 1) 194 116 [some (jR 125), some (jI v1), some (jI v2), some (jI v3), some (jI v4), some (jI v5), some (jI v6), none, none, some (jI v9), some (jI v10)] [jI u0, jI u1] M Q :=
  (x_aldn c194_116 rfl (x_ild c194_117 rfl (wp_wk (l' := [some (jR 125), some (jI v1), some (jI v2), some (jI v3), some (jI v4), some (jI v5), some (jI v6), none, none, some (jI v9), some (jI v10)]) ⟨rfl, ⟨rfl, ⟨rfl, ⟨rfl, ⟨rfl, ⟨rfl, ⟨rfl, ⟨rfl, ⟨rfl, trivial⟩⟩⟩⟩⟩⟩⟩⟩⟩ (x_cv (As := [jI v10]) (st := [jI u0, jI u1]) c194_119 cl_125 kl183 rfl (Nat.le_of_ble_eq_true rfl) mx183 (Nat.le_refl _) H))))
theorem s194_122 {kc : List va_E} {d : Nat} {v1 v2 v3 v4 v5 v6 v9 v10 u0 u1 u2 : Int} {M : fx_M} {Q : Option fx_V → fx_M → Prop} (H : wp kc (d + 1) 194 69 [some (jR 125), some (jI v1), some (jI v2), some (jI v3), some (jI v4), some (jI v5), some (jI v6), none, some (jI (u2 + (u1 + u0))), some (jI (v9 + 2)), some (jI (v10 + 1))] [] M Q) : wp kc (d + 1) 194 122 [some (jR 125), some (jI v1), some (jI v2), some (jI v3), some (jI v4), some (jI v5), some (jI v6), none, none, some (jI v9), some (jI v10)] [jI u0, jI u1, jI u2] M Q :=
  (x_iadd c194_122 (x_iadd c194_123 (x_ist (l' := [some (jR 125), some (jI v1), some (jI v2), some (jI v3), some (jI v4), some (jI v5), some (jI v6), none, some (jI (u2 + (u1 + u0))), some (jI v9), some (jI v10)]) c194_124 rfl (x_inc (l' := [some (jR 125), some (jI v1), some (jI v2), some (jI v3), some (jI v4), some (jI v5), some (jI v6), none, some (jI (u2 + (u1 + u0))), some (jI (v9 + 2)), some (jI v10)]) c194_126 rfl rfl (x_inc (l' := [some (jR 125), some (jI v1), some (jI v2), some (jI v3), some (jI v4), some (jI v5), some (jI v6), none, some (jI (u2 + (u1 + u0))), some (jI (v9 + 2)), some (jI (v10 + 1))]) c194_129 rfl rfl (x_goto c194_132 (wp_wk (l' := [some (jR 125), some (jI v1), some (jI v2), some (jI v3), some (jI v4), some (jI v5), some (jI v6), none, some (jI (u2 + (u1 + u0))), some (jI (v9 + 2)), some (jI (v10 + 1))]) ⟨rfl, ⟨rfl, ⟨rfl, ⟨rfl, ⟨rfl, ⟨rfl, ⟨rfl, ⟨rfl, ⟨rfl, ⟨rfl, trivial⟩⟩⟩⟩⟩⟩⟩⟩⟩⟩ H)))))))
theorem s194_146 {kc : List va_E} {d : Nat} {v2 v3 v4 v5 v8 v9 : Int} {M : fx_M} {Q : Option fx_V → fx_M → Prop} (H : wc kc d 193 [jR 125, jI (v9 + 1), jI v3] M (fun v M1 => wp kc (d + 1) 194 155 [some (jR 125), none, some (jI v2), some (jI v3), some (jI v4), some (jI v5), none, none, some (jI v8), some (jI v9), none] (v.toList ++ []) M1 Q)) : wp kc (d + 1) 194 146 [some (jR 125), none, some (jI v2), some (jI v3), some (jI v4), some (jI v5), none, none, some (jI v8), some (jI v9), none] [] M Q :=
  (x_aldn c194_146 rfl (x_ild c194_147 rfl (x_ci c194_149 (x_iadd c194_150 (x_ildn c194_151 rfl (wp_wk (l' := [some (jR 125), none, some (jI v2), some (jI v3), some (jI v4), some (jI v5), none, none, some (jI v8), some (jI v9), none]) ⟨rfl, ⟨rfl, ⟨rfl, ⟨rfl, ⟨rfl, ⟨rfl, ⟨rfl, trivial⟩⟩⟩⟩⟩⟩⟩ (x_cv (As := [jI (v9 + 1), jI v3]) (st := []) c194_152 cl_125 kl193 rfl (Nat.le_of_ble_eq_true rfl) mx193 (Nat.le_refl _) H)))))))
theorem s194_155 {kc : List va_E} {d : Nat} {v2 v3 v4 v5 v8 v9 : Int} {M : fx_M} {Q : Option fx_V → fx_M → Prop} (H : wp kc (d + 1) 194 170 [some (jR 125), none, none, none, some (jI v4), some (jI v5), none, none, some (jI (v8 + (v2 + v3))), none, some (jI (v9 + 2))] [] M Q) : wp kc (d + 1) 194 155 [some (jR 125), none, some (jI v2), some (jI v3), some (jI v4), some (jI v5), none, none, some (jI v8), some (jI v9), none] [] M Q :=
  (x_ild c194_155 rfl (x_ildn c194_157 rfl (x_ildn c194_158 rfl (x_iadd c194_159 (x_iadd c194_160 (x_ist (l' := [some (jR 125), none, some (jI v2), some (jI v3), some (jI v4), some (jI v5), none, none, some (jI (v8 + (v2 + v3))), some (jI v9), none]) c194_161 rfl (x_inc (l' := [some (jR 125), none, some (jI v2), some (jI v3), some (jI v4), some (jI v5), none, none, some (jI (v8 + (v2 + v3))), some (jI (v9 + 2)), none]) c194_163 rfl rfl (x_ild c194_166 rfl (x_ist (l' := [some (jR 125), none, some (jI v2), some (jI v3), some (jI v4), some (jI v5), none, none, some (jI (v8 + (v2 + v3))), some (jI (v9 + 2)), some (jI (v9 + 2))]) c194_168 rfl (wp_wk (l' := [some (jR 125), none, none, none, some (jI v4), some (jI v5), none, none, some (jI (v8 + (v2 + v3))), none, some (jI (v9 + 2))]) ⟨rfl, ⟨rfl, ⟨rfl, ⟨rfl, ⟨rfl, trivial⟩⟩⟩⟩⟩ H))))))))))
theorem s194_170 {kc : List va_E} {d : Nat} {v4 v5 v8 v10 : Int} {M : fx_M} {Q : Option fx_V → fx_M → Prop} (H : ((fx_in32 v10) ∧ (fx_in32 ((v5 + 32) - 1))) ∧ ((v5 + 32) - 1 ≤ v10 → (((0 : Int) ≤ v8 ∧ v8 ≤ 2147483647)) ∧ wc kc d 193 [jR 125, jI ((v5 + 32) - 1), jI (v8 % 251)] M (fun v M1 => wp kc (d + 1) 194 212 [some (jR 125), none, none, none, some (jI v4), none, none, none, none, none, none] (v.toList ++ []) M1 Q)) ∧ (v10 < (v5 + 32) - 1 → wc kc d 193 [jR 125, jI v10, jI 0] M (fun v M1 => wp kc (d + 1) 194 189 [some (jR 125), none, none, none, some (jI v4), some (jI v5), none, none, some (jI v8), none, some (jI v10)] (v.toList ++ []) M1 Q))) : wp kc (d + 1) 194 170 [some (jR 125), none, none, none, some (jI v4), some (jI v5), none, none, some (jI v8), none, some (jI v10)] [] M Q :=
  (x_ild c194_170 rfl (x_ild c194_172 rfl (x_ci c194_174 (x_iadd c194_176 (x_ci c194_177 (x_isub c194_178 (x_cge c194_179 H.1.1 H.1.2 (fun h1 => (x_aldn c194_195 rfl (x_ild c194_196 rfl (x_ci c194_198 (x_iadd c194_200 (x_ci c194_201 (x_isub c194_202 (x_ild c194_203 rfl (x_ci c194_205 (x_irem c194_208 (H.2.1 h1).1 (by decide) (wp_wk (l' := [some (jR 125), none, none, none, some (jI v4), none, none, none, none, none, none]) ⟨rfl, ⟨rfl, trivial⟩⟩ (x_cv (As := [jI ((v5 + 32) - 1), jI (v8 % 251)]) (st := []) c194_209 cl_125 kl193 rfl (Nat.le_of_ble_eq_true rfl) mx193 (Nat.le_refl _) (H.2.1 h1).2)))))))))))) (fun h2 => (x_aldn c194_182 rfl (x_ild c194_183 rfl (x_ci c194_185 (wp_wk (l' := [some (jR 125), none, none, none, some (jI v4), some (jI v5), none, none, some (jI v8), none, some (jI v10)]) ⟨rfl, ⟨rfl, ⟨rfl, ⟨rfl, ⟨rfl, trivial⟩⟩⟩⟩⟩ (x_cv (As := [jI v10, jI 0]) (st := []) c194_186 cl_125 kl193 rfl (Nat.le_of_ble_eq_true rfl) mx193 (Nat.le_refl _) (H.2.2 h2))))))))))))))
theorem s194_189 {kc : List va_E} {d : Nat} {v4 v5 v8 v10 : Int} {M : fx_M} {Q : Option fx_V → fx_M → Prop} (H : wp kc (d + 1) 194 170 [some (jR 125), none, none, none, some (jI v4), some (jI v5), none, none, some (jI v8), none, some (jI (v10 + 1))] [] M Q) : wp kc (d + 1) 194 189 [some (jR 125), none, none, none, some (jI v4), some (jI v5), none, none, some (jI v8), none, some (jI v10)] [] M Q :=
  (x_inc (l' := [some (jR 125), none, none, none, some (jI v4), some (jI v5), none, none, some (jI v8), none, some (jI (v10 + 1))]) c194_189 rfl rfl (x_goto c194_192 (wp_wk (l' := [some (jR 125), none, none, none, some (jI v4), some (jI v5), none, none, some (jI v8), none, some (jI (v10 + 1))]) ⟨rfl, ⟨rfl, ⟨rfl, ⟨rfl, ⟨rfl, trivial⟩⟩⟩⟩⟩ H)))
theorem s194_212 {kc : List va_E} {d : Nat} {v4 : Int} {M : fx_M} {Q : Option fx_V → fx_M → Prop} (H : wc kc d 193 [jR 125, jI 0, jI v4] M (fun v M1 => wp kc (d + 1) 194 219 [none, none, none, none, none, none, none, none, none, none, none] (v.toList ++ []) M1 Q)) : wp kc (d + 1) 194 212 [some (jR 125), none, none, none, some (jI v4), none, none, none, none, none, none] [] M Q :=
  (x_aldn c194_212 rfl (x_ci c194_213 (x_ild c194_214 rfl (wp_wk (l' := [none, none, none, none, none, none, none, none, none, none, none]) trivial (x_cv (As := [jI 0, jI v4]) (st := []) c194_216 cl_125 kl193 rfl (Nat.le_of_ble_eq_true rfl) mx193 (Nat.le_refl _) H)))))
theorem s194_219 {kc : List va_E} {d : Nat} {M : fx_M} {Q : Option fx_V → fx_M → Prop} (H : Q none M) : wp kc (d + 1) 194 219 [none, none, none, none, none, none, none, none, none, none, none] [] M Q :=
  (x_vr c194_219 r194 H)
theorem s194 {kc : List va_E} {d : Nat} {x1 x2 x3 : Int} {M : fx_M} {Q : Option fx_V → fx_M → Prop} (H : wc kc d 180 [jR 125] M (fun v M1 => wp kc (d + 1) 194 5 [some (jR 125), some (jI x1), some (jI x2), some (jI x3), none, none, none, none, none, none, none] (v.toList ++ [jI 3]) M1 Q)) : wc kc (d + 1) 194 [jR 125, jI x1, jI x2, jI x3] M Q :=
  wc_of (wp_wk (l' := [some (jR 125), some (jI x1), some (jI x2), some (jI x3), none, none, none, none, none, none, none]) ⟨rfl, ⟨rfl, ⟨rfl, ⟨rfl, trivial⟩⟩⟩⟩ (s194_0 H))

/- PuzzleHouse$Book.remove([CII)Z -/
theorem c196_0 : fx_op 196 0 = some (.aload_n 0, 1, 0) := by decide +kernel
theorem c196_1 : fx_op 196 1 = some (.aload_n 1, 2, 1) := by decide +kernel
theorem c196_2 : fx_op 196 2 = some (.iload_n 2, 3, 2) := by decide +kernel
theorem c196_3 : fx_op 196 3 = some (.iload_n 3, 4, 3) := by decide +kernel
theorem c196_4 : fx_ca 196 4 = some (178, 4, 2, 7) := by decide +kernel
theorem c196_7 : fx_op 196 7 = some (.istore 4, 9, 7) := by decide +kernel
theorem c196_9 : fx_op 196 9 = some (.iload 4, 11, 9) := by decide +kernel
theorem c196_11 : fx_op 196 11 = some (.ifCond .ge 5, 14, 16) := by decide +kernel
theorem c196_16 : fx_op 196 16 = some (.aload_n 0, 17, 16) := by decide +kernel
theorem c196_17 : fx_ci 196 17 = some (0, 18) := by decide +kernel
theorem c196_18 : fx_pf 196 18 = some (11, 2, 0, 21) := by decide +kernel
theorem c196_21 : fx_op 196 21 = some (.aload_n 0, 22, 21) := by decide +kernel
theorem c196_22 : fx_op 196 22 = some (.iload 4, 24, 22) := by decide +kernel
theorem c196_24 : fx_ci 196 24 = some (0, 25) := by decide +kernel
theorem c196_25 : fx_ci 196 25 = some (0, 26) := by decide +kernel
theorem c196_14 : fx_ci 196 14 = some (0, 15) := by decide +kernel
theorem c196_26 : fx_ca 196 26 = some (194, 4, 2, 29) := by decide +kernel
theorem c196_15 : fx_op 196 15 = some (.ireturn, 16, 15) := by decide +kernel
theorem c196_29 : fx_ci 196 29 = some (1, 30) := by decide +kernel
theorem c196_30 : fx_op 196 30 = some (.ireturn, 31, 30) := by decide +kernel
theorem s196_0 {kc : List va_E} {d : Nat} {x2 x3 : Int} {M : fx_M} {Q : Option fx_V → fx_M → Prop} (H : wc kc d 178 [jR 125, jR 2, jI x2, jI x3] M (fun v M1 => wp kc (d + 1) 196 7 [some (jR 125), none, none, none, none] (v.toList ++ []) M1 Q)) : wp kc (d + 1) 196 0 [some (jR 125), some (jR 2), some (jI x2), some (jI x3), none] [] M Q :=
  (x_aldn c196_0 rfl (x_aldn c196_1 rfl (x_ildn c196_2 rfl (x_ildn c196_3 rfl (wp_wk (l' := [some (jR 125), none, none, none, none]) ⟨rfl, trivial⟩ (x_cv (As := [jR 2, jI x2, jI x3]) (st := []) c196_4 cl_125 kl178 rfl (Nat.le_of_ble_eq_true rfl) mx178 (Nat.le_refl _) H))))))
theorem s196_7 {kc : List va_E} {d : Nat} {u0 : Int} {M : fx_M} {Q : Option fx_V → fx_M → Prop} (H : ((fx_in32 u0)) ∧ (0 ≤ u0 → wc kc d 194 [jR 125, jI u0, jI 0, jI 0] (fx_up M 125 2 0) (fun v M1 => wp kc (d + 1) 196 29 [none, none, none, none, none] (v.toList ++ []) M1 Q)) ∧ (u0 < 0 → Q (some (jI 0)) M)) : wp kc (d + 1) 196 7 [some (jR 125), none, none, none, none] [jI u0] M Q :=
  (x_ist (l' := [some (jR 125), none, none, none, some (jI u0)]) c196_7 rfl (x_ild c196_9 rfl (x_zge c196_11 H.1 (fun h1 => (x_aldn c196_16 rfl (x_ci c196_17 (x_pfi c196_18 k_125_2 (x_aldn c196_21 rfl (x_ild c196_22 rfl (x_ci c196_24 (x_ci c196_25 (wp_wk (l' := [none, none, none, none, none]) trivial (x_cv (As := [jI u0, jI 0, jI 0]) (st := []) c196_26 cl_125 kl194 rfl (Nat.le_of_ble_eq_true rfl) mx194 (Nat.le_refl _) (H.2.1 h1))))))))))) (fun h2 => (x_ci c196_14 (x_zrt c196_15 r196 (by decide) (H.2.2 h2)))))))
theorem s196_29 {kc : List va_E} {d : Nat} {M : fx_M} {Q : Option fx_V → fx_M → Prop} (H : Q (some (jI 1)) M) : wp kc (d + 1) 196 29 [none, none, none, none, none] [] M Q :=
  (x_ci c196_29 (x_zrt c196_30 r196 (by decide) H))
theorem s196 {kc : List va_E} {d : Nat} {x2 x3 : Int} {M : fx_M} {Q : Option fx_V → fx_M → Prop} (H : wc kc d 178 [jR 125, jR 2, jI x2, jI x3] M (fun v M1 => wp kc (d + 1) 196 7 [some (jR 125), none, none, none, none] (v.toList ++ []) M1 Q)) : wc kc (d + 1) 196 [jR 125, jR 2, jI x2, jI x3] M Q :=
  wc_of (wp_wk (l' := [some (jR 125), some (jR 2), some (jI x2), some (jI x3), none]) ⟨rfl, ⟨rfl, ⟨rfl, ⟨rfl, trivial⟩⟩⟩⟩ (s196_0 H))

/- PuzzleHouse$Book.writeName(ILPuzzleHouse$Out;)V -/
theorem c197_0 : fx_op 197 0 = some (.aload_n 0, 1, 0) := by decide +kernel
theorem c197_1 : fx_op 197 1 = some (.iload_n 1, 2, 1) := by decide +kernel
theorem c197_2 : fx_ca 197 2 = some (428, 2, 2, 5) := by decide +kernel
theorem c197_5 : fx_op 197 5 = some (.istore_n 3, 6, 5) := by decide +kernel
theorem c197_6 : fx_ci 197 6 = some (1, 7) := by decide +kernel
theorem c197_7 : fx_op 197 7 = some (.istore 4, 9, 7) := by decide +kernel
theorem c197_9 : fx_op 197 9 = some (.iload 4, 11, 9) := by decide +kernel
theorem c197_11 : fx_op 197 11 = some (.aload_n 0, 12, 11) := by decide +kernel
theorem c197_12 : fx_gf 197 12 = some (11, 0, 15) := by decide +kernel
theorem c197_15 : fx_op 197 15 = some (.iload_n 3, 16, 15) := by decide +kernel
theorem c197_17 : fx_op 197 17 = some (.if_icmp .gt 29, 20, 46) := by decide +kernel
theorem c197_20 : fx_op 197 20 = some (.iload 4, 22, 20) := by decide +kernel
theorem c197_22 : fx_ci 197 22 = some (8, 24) := by decide +kernel
theorem c197_24 : fx_op 197 24 = some (.if_icmp .gt 22, 27, 46) := by decide +kernel
theorem c197_27 : fx_op 197 27 = some (.aload_n 2, 28, 27) := by decide +kernel
theorem c197_28 : fx_op 197 28 = some (.aload_n 0, 29, 28) := by decide +kernel
theorem c197_29 : fx_gf 197 29 = some (11, 0, 32) := by decide +kernel
theorem c197_32 : fx_op 197 32 = some (.iload_n 3, 33, 32) := by decide +kernel
theorem c197_33 : fx_op 197 33 = some (.iload 4, 35, 33) := by decide +kernel
theorem c197_35 : fx_op 197 35 = some (.iadd, 36, 35) := by decide +kernel
theorem c197_36 : fx_op 197 36 = some (.caload, 37, 36) := by decide +kernel
theorem c197_46 : fx_op 197 46 = some (.aload_n 2, 47, 46) := by decide +kernel
theorem c197_47 : fx_ci 197 47 = some (32, 49) := by decide +kernel
theorem c197_16 : fx_op 197 16 = some (.caload, 17, 16) := by decide +kernel
theorem c197_49 : fx_ca 197 49 = some (69, 2, 2, 52) := by decide +kernel
theorem c197_37 : fx_ca 197 37 = some (69, 2, 2, 40) := by decide +kernel
theorem c197_52 : fx_op 197 52 = some (.return_, 53, 52) := by decide +kernel
theorem c197_40 : fx_op 197 40 = some (.iinc 4 1, 43, 40) := by decide +kernel
theorem c197_43 : fx_op 197 43 = some (.goto (-34), 46, 9) := by decide +kernel
theorem s197_0 {kc : List va_E} {d : Nat} {o : Nat} {x1 : Int} {M : fx_M} {Q : Option fx_V → fx_M → Prop} (Ho : fx_out o) (H : wc kc d 428 [jR 125, jI x1] M (fun v M1 => wp kc (d + 1) 197 5 [some (jR 125), none, some (jR o), none, none] (v.toList ++ []) M1 Q)) : wp kc (d + 1) 197 0 [some (jR 125), some (jI x1), some (jR o), none, none] [] M Q :=
  (x_aldn c197_0 rfl (x_ildn c197_1 rfl (wp_wk (l' := [some (jR 125), none, some (jR o), none, none]) ⟨rfl, ⟨rfl, trivial⟩⟩ (x_cv (As := [jI x1]) (st := []) c197_2 cl_125 kl428 rfl (Nat.le_of_ble_eq_true rfl) mx428 (Nat.le_refl _) H))))
theorem s197_5 {kc : List va_E} {d : Nat} {o : Nat} {u0 : Int} {M : fx_M} {Q : Option fx_V → fx_M → Prop} (Ho : fx_out o) (H : wp kc (d + 1) 197 9 [some (jR 125), none, some (jR o), some (jI u0), some (jI 1)] [] M Q) : wp kc (d + 1) 197 5 [some (jR 125), none, some (jR o), none, none] [jI u0] M Q :=
  (x_istn (l' := [some (jR 125), none, some (jR o), some (jI u0), none]) c197_5 rfl (x_ci c197_6 (x_ist (l' := [some (jR 125), none, some (jR o), some (jI u0), some (jI 1)]) c197_7 rfl (wp_wk (l' := [some (jR 125), none, some (jR o), some (jI u0), some (jI 1)]) ⟨rfl, ⟨rfl, ⟨rfl, ⟨rfl, trivial⟩⟩⟩⟩ H))))
theorem s197_9 {kc : List va_E} {d : Nat} {o : Nat} {v3 v4 : Int} {M : fx_M} {Q : Option fx_V → fx_M → Prop} (Ho : fx_out o) (H : (((0 : Int) ≤ v3 ∧ v3 < 1024)) ∧ ((fx_in32 v4) ∧ (fx_in32 (M 126 v3))) ∧ (M 126 v3 < v4 → wc kc d 69 [jR o, jI 32] M (fun v M1 => wp kc (d + 1) 197 52 [none, none, none, none, none] (v.toList ++ []) M1 Q)) ∧ (v4 ≤ M 126 v3 → ((fx_in32 v4)) ∧ (8 < v4 → wc kc d 69 [jR o, jI 32] M (fun v M1 => wp kc (d + 1) 197 52 [none, none, none, none, none] (v.toList ++ []) M1 Q)) ∧ (v4 ≤ 8 → (((0 : Int) ≤ v3 + v4 ∧ v3 + v4 < 1024)) ∧ wc kc d 69 [jR o, jI (M 126 (v3 + v4))] M (fun v M1 => wp kc (d + 1) 197 40 [some (jR 125), none, some (jR o), some (jI v3), some (jI v4)] (v.toList ++ []) M1 Q)))) : wp kc (d + 1) 197 9 [some (jR 125), none, some (jR o), some (jI v3), some (jI v4)] [] M Q :=
  (x_ild c197_9 rfl (x_aldn c197_11 rfl (x_gfr c197_12 k_125_0 (x_ildn c197_15 rfl (x_cald c197_16 a_126 H.1 (by decide) (x_cgt c197_17 H.2.1.1 H.2.1.2 (fun h3 => (x_aldn c197_46 rfl (x_ci c197_47 (wp_wk (l' := [none, none, none, none, none]) trivial (x_cv (As := [jI 32]) (st := []) c197_49 (clo Ho) kl69 rfl (Nat.le_of_ble_eq_true rfl) mx69 (Nat.le_refl _) (H.2.2.1 h3)))))) (fun h4 => (x_ild c197_20 rfl (x_ci c197_22 (x_cgt c197_24 (H.2.2.2 h4).1 (by decide) (fun h1 => (x_aldn c197_46 rfl (x_ci c197_47 (wp_wk (l' := [none, none, none, none, none]) trivial (x_cv (As := [jI 32]) (st := []) c197_49 (clo Ho) kl69 rfl (Nat.le_of_ble_eq_true rfl) mx69 (Nat.le_refl _) ((H.2.2.2 h4).2.1 h1)))))) (fun h2 => (x_aldn c197_27 rfl (x_aldn c197_28 rfl (x_gfr c197_29 k_125_0 (x_ildn c197_32 rfl (x_ild c197_33 rfl (x_iadd c197_35 (x_cald c197_36 a_126 ((H.2.2.2 h4).2.2 h2).1 (by decide) (wp_wk (l' := [some (jR 125), none, some (jR o), some (jI v3), some (jI v4)]) ⟨rfl, ⟨rfl, ⟨rfl, ⟨rfl, trivial⟩⟩⟩⟩ (x_cv (As := [jI (M 126 (v3 + v4))]) (st := []) c197_37 (clo Ho) kl69 rfl (Nat.le_of_ble_eq_true rfl) mx69 (Nat.le_refl _) ((H.2.2.2 h4).2.2 h2).2))))))))))))))))))))
theorem s197_40 {kc : List va_E} {d : Nat} {o : Nat} {v3 v4 : Int} {M : fx_M} {Q : Option fx_V → fx_M → Prop} (Ho : fx_out o) (H : wp kc (d + 1) 197 9 [some (jR 125), none, some (jR o), some (jI v3), some (jI (v4 + 1))] [] M Q) : wp kc (d + 1) 197 40 [some (jR 125), none, some (jR o), some (jI v3), some (jI v4)] [] M Q :=
  (x_inc (l' := [some (jR 125), none, some (jR o), some (jI v3), some (jI (v4 + 1))]) c197_40 rfl rfl (x_goto c197_43 (wp_wk (l' := [some (jR 125), none, some (jR o), some (jI v3), some (jI (v4 + 1))]) ⟨rfl, ⟨rfl, ⟨rfl, ⟨rfl, trivial⟩⟩⟩⟩ H)))
theorem s197_52 {kc : List va_E} {d : Nat} {o : Nat} {M : fx_M} {Q : Option fx_V → fx_M → Prop} (Ho : fx_out o) (H : Q none M) : wp kc (d + 1) 197 52 [none, none, none, none, none] [] M Q :=
  (x_vr c197_52 r197 H)
theorem s197 {kc : List va_E} {d : Nat} {o : Nat} {x1 : Int} {M : fx_M} {Q : Option fx_V → fx_M → Prop} (Ho : fx_out o) (H : wc kc d 428 [jR 125, jI x1] M (fun v M1 => wp kc (d + 1) 197 5 [some (jR 125), none, some (jR o), none, none] (v.toList ++ []) M1 Q)) : wc kc (d + 1) 197 [jR 125, jI x1, jR o] M Q :=
  wc_of (wp_wk (l' := [some (jR 125), some (jI x1), some (jR o), none, none]) ⟨rfl, ⟨rfl, ⟨rfl, trivial⟩⟩⟩ (s197_0 Ho H))

/- PuzzleHouse$Book.cut(I)Z -/
theorem c198_0 : fx_op 198 0 = some (.aload_n 0, 1, 0) := by decide +kernel
theorem c198_1 : fx_gf 198 1 = some (11, 1, 4) := by decide +kernel
theorem c198_4 : fx_op 198 4 = some (.ifCond .eq 18, 7, 22) := by decide +kernel
theorem c198_22 : fx_ci 198 22 = some (0, 23) := by decide +kernel
theorem c198_7 : fx_op 198 7 = some (.aload_n 0, 8, 7) := by decide +kernel
theorem c198_8 : fx_gf 198 8 = some (11, 2, 11) := by decide +kernel
theorem c198_11 : fx_op 198 11 = some (.ifCond .eq 11, 14, 22) := by decide +kernel
theorem c198_14 : fx_op 198 14 = some (.aload_n 0, 15, 14) := by decide +kernel
theorem c198_15 : fx_gf 198 15 = some (11, 2, 18) := by decide +kernel
theorem c198_18 : fx_op 198 18 = some (.iload_n 1, 19, 18) := by decide +kernel
theorem c198_19 : fx_op 198 19 = some (.if_icmp .ge 5, 22, 24) := by decide +kernel
theorem c198_24 : fx_op 198 24 = some (.iload_n 1, 25, 24) := by decide +kernel
theorem c198_25 : fx_ci 198 25 = some (0, 26) := by decide +kernel
theorem c198_29 : fx_op 198 29 = some (.istore_n 2, 30, 29) := by decide +kernel
theorem c198_23 : fx_op 198 23 = some (.ireturn, 24, 23) := by decide +kernel
theorem c198_26 : fx_nt 198 26 = some (1, 29) := by decide +kernel
theorem c198_30 : fx_op 198 30 = some (.iload_n 2, 31, 30) := by decide +kernel
theorem c198_31 : fx_op 198 31 = some (.aload_n 0, 32, 31) := by decide +kernel
theorem c198_32 : fx_gf 198 32 = some (11, 2, 35) := by decide +kernel
theorem c198_35 : fx_op 198 35 = some (.if_icmp .ge 26, 38, 61) := by decide +kernel
theorem c198_38 : fx_op 198 38 = some (.aload_n 0, 39, 38) := by decide +kernel
theorem c198_39 : fx_gf 198 39 = some (11, 0, 42) := by decide +kernel
theorem c198_42 : fx_op 198 42 = some (.aload_n 0, 43, 42) := by decide +kernel
theorem c198_43 : fx_gf 198 43 = some (11, 3, 46) := by decide +kernel
theorem c198_46 : fx_op 198 46 = some (.iload_n 2, 47, 46) := by decide +kernel
theorem c198_47 : fx_op 198 47 = some (.iaload, 48, 47) := by decide +kernel
theorem c198_48 : fx_op 198 48 = some (.aload_n 0, 49, 48) := by decide +kernel
theorem c198_49 : fx_gf 198 49 = some (11, 4, 52) := by decide +kernel
theorem c198_52 : fx_op 198 52 = some (.iload_n 2, 53, 52) := by decide +kernel
theorem c198_53 : fx_op 198 53 = some (.caload, 54, 53) := by decide +kernel
theorem c198_61 : fx_op 198 61 = some (.aload_n 0, 62, 61) := by decide +kernel
theorem c198_62 : fx_ci 198 62 = some (0, 63) := by decide +kernel
theorem c198_63 : fx_pf 198 63 = some (11, 1, 2, 66) := by decide +kernel
theorem c198_66 : fx_ci 198 66 = some (1, 67) := by decide +kernel
theorem c198_55 : fx_op 198 55 = some (.iinc 2 1, 58, 55) := by decide +kernel
theorem c198_67 : fx_op 198 67 = some (.ireturn, 68, 67) := by decide +kernel
theorem c198_54 : fx_op 198 54 = some (.castore, 55, 54) := by decide +kernel
theorem c198_58 : fx_op 198 58 = some (.goto (-28), 61, 30) := by decide +kernel
theorem n198_26 : xS 198 ((xI 198 26).getD .nop) = none := by decide +kernel
theorem s198_0 {kc : List va_E} {d : Nat} {x1 : Int} {M : fx_M} {Q : Option fx_V → fx_M → Prop} (H : ((fx_in32 (M 125 1))) ∧ (M 125 1 = 0 → Q (some (jI 0)) M) ∧ (M 125 1 ≠ 0 → ((fx_in32 (M 125 2))) ∧ (M 125 2 = 0 → Q (some (jI 0)) M) ∧ (M 125 2 ≠ 0 → ((fx_in32 (M 125 2)) ∧ (fx_in32 x1)) ∧ (x1 ≤ M 125 2 → ((fx_in32 x1)) ∧ wp kc (d + 1) 198 30 [some (jR 125), none, some (jI (if x1 < 0 then (0 : Int) else x1))] [] M Q) ∧ (M 125 2 < x1 → Q (some (jI 0)) M)))) : wp kc (d + 1) 198 0 [some (jR 125), some (jI x1), none] [] M Q :=
  (x_aldn c198_0 rfl (x_gfi c198_1 k_125_1 (x_zeq c198_4 H.1 (fun h5 => (x_ci c198_22 (x_zrt c198_23 r198 (by decide) (H.2.1 h5)))) (fun h6 => (x_aldn c198_7 rfl (x_gfi c198_8 k_125_2 (x_zeq c198_11 (H.2.2 h6).1 (fun h3 => (x_ci c198_22 (x_zrt c198_23 r198 (by decide) ((H.2.2 h6).2.1 h3)))) (fun h4 => (x_aldn c198_14 rfl (x_gfi c198_15 k_125_2 (x_ildn c198_18 rfl (x_cge c198_19 ((H.2.2 h6).2.2 h4).1.1 ((H.2.2 h6).2.2 h4).1.2 (fun h1 => (x_ildn c198_24 rfl (x_ci c198_25 (x_max c198_26 n198_26 (((H.2.2 h6).2.2 h4).2.1 h1).1 (by decide) (Nat.le_of_ble_eq_true rfl) (x_istn (l' := [some (jR 125), some (jI x1), some (jI (if x1 < 0 then (0 : Int) else x1))]) c198_29 rfl (wp_wk (l' := [some (jR 125), none, some (jI (if x1 < 0 then (0 : Int) else x1))]) ⟨rfl, ⟨rfl, trivial⟩⟩ (((H.2.2 h6).2.2 h4).2.1 h1).2)))))) (fun h2 => (x_ci c198_22 (x_zrt c198_23 r198 (by decide) (((H.2.2 h6).2.2 h4).2.2 h2))))))))))))))))
theorem s198_30 {kc : List va_E} {d : Nat} {v2 : Int} {M : fx_M} {Q : Option fx_V → fx_M → Prop} (H : ((fx_in32 v2) ∧ (fx_in32 (M 125 2))) ∧ (M 125 2 ≤ v2 → Q (some (jI 1)) (fx_up M 125 1 0)) ∧ (v2 < M 125 2 → (((0 : Int) ≤ v2 ∧ v2 < 1024)) ∧ (((0 : Int) ≤ v2 ∧ v2 < 1024)) ∧ (((0 : Int) ≤ M 127 v2 ∧ M 127 v2 < 1024) ∧ ((0 : Int) ≤ M 128 v2 ∧ M 128 v2 ≤ 65535)) ∧ wp kc (d + 1) 198 30 [some (jR 125), none, some (jI (v2 + 1))] [] (fx_up M 126 (M 127 v2) (M 128 v2)) Q)) : wp kc (d + 1) 198 30 [some (jR 125), none, some (jI v2)] [] M Q :=
  (x_ildn c198_30 rfl (x_aldn c198_31 rfl (x_gfi c198_32 k_125_2 (x_cge c198_35 H.1.1 H.1.2 (fun h1 => (x_aldn c198_61 rfl (x_ci c198_62 (x_pfz c198_63 k_125_1 (by decide) (x_ci c198_66 (x_zrt c198_67 r198 (by decide) (H.2.1 h1))))))) (fun h2 => (x_aldn c198_38 rfl (x_gfr c198_39 k_125_0 (x_aldn c198_42 rfl (x_gfr c198_43 k_125_3 (x_ildn c198_46 rfl (x_iald c198_47 a_127 (H.2.2 h2).1 (by decide) (x_aldn c198_48 rfl (x_gfr c198_49 k_125_4 (x_ildn c198_52 rfl (x_cald c198_53 a_128 (H.2.2 h2).2.1 (by decide) (x_cast c198_54 a_126 (H.2.2 h2).2.2.1.1 (by decide) (H.2.2 h2).2.2.1.2 (x_inc (l' := [some (jR 125), none, some (jI (v2 + 1))]) c198_55 rfl rfl (x_goto c198_58 (wp_wk (l' := [some (jR 125), none, some (jI (v2 + 1))]) ⟨rfl, ⟨rfl, trivial⟩⟩ (H.2.2 h2).2.2.2)))))))))))))))))))
theorem s198 {kc : List va_E} {d : Nat} {x1 : Int} {M : fx_M} {Q : Option fx_V → fx_M → Prop} (H : ((fx_in32 (M 125 1))) ∧ (M 125 1 = 0 → Q (some (jI 0)) M) ∧ (M 125 1 ≠ 0 → ((fx_in32 (M 125 2))) ∧ (M 125 2 = 0 → Q (some (jI 0)) M) ∧ (M 125 2 ≠ 0 → ((fx_in32 (M 125 2)) ∧ (fx_in32 x1)) ∧ (x1 ≤ M 125 2 → ((fx_in32 x1)) ∧ wp kc (d + 1) 198 30 [some (jR 125), none, some (jI (if x1 < 0 then (0 : Int) else x1))] [] M Q) ∧ (M 125 2 < x1 → Q (some (jI 0)) M)))) : wc kc (d + 1) 198 [jR 125, jI x1] M Q :=
  wc_of (wp_wk (l' := [some (jR 125), some (jI x1), none]) ⟨rfl, ⟨rfl, trivial⟩⟩ (s198_0 H))

/- PuzzleHouse$Book.mend(LPuzzleHouse$Puzzle;)Z -/
theorem c199_0 : fx_op 199 0 = some (.aload_n 0, 1, 0) := by decide +kernel
theorem c199_1 : fx_ci 199 1 = some (0, 2) := by decide +kernel
theorem c199_2 : fx_pf 199 2 = some (11, 1, 2, 5) := by decide +kernel
theorem c199_5 : fx_op 199 5 = some (.aload_n 0, 6, 5) := by decide +kernel
theorem c199_6 : fx_ci 199 6 = some (0, 7) := by decide +kernel
theorem c199_7 : fx_pf 199 7 = some (11, 2, 0, 10) := by decide +kernel
theorem c199_10 : fx_op 199 10 = some (.aload_n 0, 11, 10) := by decide +kernel
theorem c199_11 : fx_gf 199 11 = some (11, 0, 14) := by decide +kernel
theorem c199_14 : fx_ci 199 14 = some (0, 15) := by decide +kernel
theorem c199_15 : fx_op 199 15 = some (.caload, 16, 15) := by decide +kernel
theorem c199_16 : fx_ci 199 16 = some (1, 17) := by decide +kernel
theorem c199_17 : fx_op 199 17 = some (.if_icmp .eq 13, 20, 30) := by decide +kernel
theorem c199_30 : fx_op 199 30 = some (.aload_n 0, 31, 30) := by decide +kernel
theorem c199_31 : fx_gf 199 31 = some (11, 0, 34) := by decide +kernel
theorem c199_34 : fx_op 199 34 = some (.aload_n 0, 35, 34) := by decide +kernel
theorem c199_20 : fx_op 199 20 = some (.aload_n 0, 21, 20) := by decide +kernel
theorem c199_21 : fx_gf 199 21 = some (11, 0, 24) := by decide +kernel
theorem c199_24 : fx_ci 199 24 = some (0, 25) := by decide +kernel
theorem c199_25 : fx_op 199 25 = some (.caload, 26, 25) := by decide +kernel
theorem c199_26 : fx_ci 199 26 = some (2, 27) := by decide +kernel
theorem c199_27 : fx_op 199 27 = some (.if_icmp .ne 17, 30, 44) := by decide +kernel
theorem c199_44 : fx_ci 199 44 = some (0, 45) := by decide +kernel
theorem c199_35 : fx_ca 199 35 = some (180, 1, 2, 38) := by decide +kernel
theorem c199_45 : fx_op 199 45 = some (.ireturn, 46, 45) := by decide +kernel
theorem c199_39 : fx_ci 199 39 = some (15, 41) := by decide +kernel
theorem c199_41 : fx_op 199 41 = some (.if_icmp .le 5, 44, 46) := by decide +kernel
theorem c199_46 : fx_ci 199 46 = some (0, 47) := by decide +kernel
theorem c199_47 : fx_op 199 47 = some (.istore_n 2, 48, 47) := by decide +kernel
theorem c199_48 : fx_ci 199 48 = some (0, 49) := by decide +kernel
theorem c199_49 : fx_op 199 49 = some (.istore_n 3, 50, 49) := by decide +kernel
theorem c199_38 : fx_op 199 38 = some (.caload, 39, 38) := by decide +kernel
theorem c199_50 : fx_op 199 50 = some (.iload_n 3, 51, 50) := by decide +kernel
theorem c199_51 : fx_ci 199 51 = some (31, 53) := by decide +kernel
theorem c199_53 : fx_op 199 53 = some (.if_icmp .ge 23, 56, 76) := by decide +kernel
theorem c199_56 : fx_op 199 56 = some (.iload_n 2, 57, 56) := by decide +kernel
theorem c199_57 : fx_op 199 57 = some (.aload_n 0, 58, 57) := by decide +kernel
theorem c199_58 : fx_gf 199 58 = some (11, 0, 61) := by decide +kernel
theorem c199_61 : fx_op 199 61 = some (.aload_n 0, 62, 61) := by decide +kernel
theorem c199_76 : fx_op 199 76 = some (.iload_n 2, 77, 76) := by decide +kernel
theorem c199_77 : fx_ci 199 77 = some (251, 80) := by decide +kernel
theorem c199_81 : fx_op 199 81 = some (.aload_n 0, 82, 81) := by decide +kernel
theorem c199_82 : fx_gf 199 82 = some (11, 0, 85) := by decide +kernel
theorem c199_85 : fx_op 199 85 = some (.aload_n 0, 86, 85) := by decide +kernel
theorem c199_80 : fx_op 199 80 = some (.irem, 81, 80) := by decide +kernel
theorem c199_86 : fx_ca 199 86 = some (180, 1, 2, 89) := by decide +kernel
theorem c199_62 : fx_ca 199 62 = some (180, 1, 2, 65) := by decide +kernel
theorem c199_89 : fx_ci 199 89 = some (32, 91) := by decide +kernel
theorem c199_91 : fx_op 199 91 = some (.iadd, 92, 91) := by decide +kernel
theorem c199_92 : fx_ci 199 92 = some (1, 93) := by decide +kernel
theorem c199_93 : fx_op 199 93 = some (.isub, 94, 93) := by decide +kernel
theorem c199_95 : fx_op 199 95 = some (.if_icmp .eq 5, 98, 100) := by decide +kernel
theorem c199_100 : fx_ci 199 100 = some (0, 101) := by decide +kernel
theorem c199_101 : fx_op 199 101 = some (.istore_n 3, 102, 101) := by decide +kernel
theorem c199_98 : fx_ci 199 98 = some (0, 99) := by decide +kernel
theorem c199_94 : fx_op 199 94 = some (.caload, 95, 94) := by decide +kernel
theorem c199_99 : fx_op 199 99 = some (.ireturn, 100, 99) := by decide +kernel
theorem c199_65 : fx_op 199 65 = some (.iload_n 3, 66, 65) := by decide +kernel
theorem c199_66 : fx_op 199 66 = some (.iadd, 67, 66) := by decide +kernel
theorem c199_68 : fx_op 199 68 = some (.iadd, 69, 68) := by decide +kernel
theorem c199_69 : fx_op 199 69 = some (.istore_n 2, 70, 69) := by decide +kernel
theorem c199_70 : fx_op 199 70 = some (.iinc 3 1, 73, 70) := by decide +kernel
theorem c199_67 : fx_op 199 67 = some (.caload, 68, 67) := by decide +kernel
theorem c199_73 : fx_op 199 73 = some (.goto (-23), 76, 50) := by decide +kernel
theorem c199_102 : fx_op 199 102 = some (.iload_n 3, 103, 102) := by decide +kernel
theorem c199_103 : fx_op 199 103 = some (.aload_n 0, 104, 103) := by decide +kernel
theorem c199_104 : fx_ca 199 104 = some (179, 1, 2, 107) := by decide +kernel
theorem c199_107 : fx_op 199 107 = some (.if_icmp .ge 20, 110, 127) := by decide +kernel
theorem c199_127 : fx_op 199 127 = some (.aload_n 0, 128, 127) := by decide +kernel
theorem c199_128 : fx_ci 199 128 = some (1, 129) := by decide +kernel
theorem c199_129 : fx_pf 199 129 = some (11, 1, 2, 132) := by decide +kernel
theorem c199_132 : fx_ci 199 132 = some (1, 133) := by decide +kernel
theorem c199_110 : fx_op 199 110 = some (.aload_n 0, 111, 110) := by decide +kernel
theorem c199_111 : fx_op 199 111 = some (.iload_n 3, 112, 111) := by decide +kernel
theorem c199_112 : fx_op 199 112 = some (.aload_n 1, 113, 112) := by decide +kernel
theorem c199_133 : fx_op 199 133 = some (.ireturn, 134, 133) := by decide +kernel
theorem c199_113 : fx_ca 199 113 = some (182, 3, 2, 116) := by decide +kernel
theorem c199_116 : fx_op 199 116 = some (.ifCond .ne 5, 119, 121) := by decide +kernel
theorem c199_121 : fx_op 199 121 = some (.iinc 3 1, 124, 121) := by decide +kernel
theorem c199_119 : fx_ci 199 119 = some (0, 120) := by decide +kernel
theorem c199_124 : fx_op 199 124 = some (.goto (-22), 127, 102) := by decide +kernel
theorem c199_120 : fx_op 199 120 = some (.ireturn, 121, 120) := by decide +kernel
theorem s199_0 {kc : List va_E} {d : Nat} {p : Nat} {M : fx_M} {Q : Option fx_V → fx_M → Prop} (Hp : fx_puz p) (H : ((fx_in32 (M 126 0))) ∧ (M 126 0 = 1 → wc kc d 180 [jR 125] (fx_up (fx_up M 125 1 0) 125 2 0) (fun v M1 => wp kc (d + 1) 199 38 [some (jR 125), some (jR p), none, none] (v.toList ++ [jR 126]) M1 Q)) ∧ (M 126 0 ≠ 1 → ((fx_in32 (M 126 0))) ∧ (M 126 0 ≠ 2 → Q (some (jI 0)) (fx_up (fx_up M 125 1 0) 125 2 0)) ∧ (M 126 0 = 2 → wc kc d 180 [jR 125] (fx_up (fx_up M 125 1 0) 125 2 0) (fun v M1 => wp kc (d + 1) 199 38 [some (jR 125), some (jR p), none, none] (v.toList ++ [jR 126]) M1 Q)))) : wp kc (d + 1) 199 0 [some (jR 125), some (jR p), none, none] [] M Q :=
  (x_aldn c199_0 rfl (x_ci c199_1 (x_pfz c199_2 k_125_1 (by decide) (x_aldn c199_5 rfl (x_ci c199_6 (x_pfi c199_7 k_125_2 (x_aldn c199_10 rfl (x_gfr c199_11 k_125_0 (x_ci c199_14 (x_cald c199_15 a_126 (by decide) (by decide) (wp_vI (((fx_upA (by decide)).trans (fx_upA (by decide)))) (x_ci c199_16 (x_ceq c199_17 H.1 (by decide) (fun h3 => (x_aldn c199_30 rfl (x_gfr c199_31 k_125_0 (x_aldn c199_34 rfl (wp_wk (l' := [some (jR 125), some (jR p), none, none]) ⟨rfl, ⟨rfl, trivial⟩⟩ (x_cv (As := []) (st := [jR 126]) c199_35 cl_125 kl180 rfl (Nat.le_of_ble_eq_true rfl) mx180 (Nat.le_refl _) (H.2.1 h3))))))) (fun h4 => (x_aldn c199_20 rfl (x_gfr c199_21 k_125_0 (x_ci c199_24 (x_cald c199_25 a_126 (by decide) (by decide) (wp_vI (((fx_upA (by decide)).trans (fx_upA (by decide)))) (x_ci c199_26 (x_cne c199_27 (H.2.2 h4).1 (by decide) (fun h1 => (x_ci c199_44 (x_zrt c199_45 r199 (by decide) ((H.2.2 h4).2.1 h1)))) (fun h2 => (x_aldn c199_30 rfl (x_gfr c199_31 k_125_0 (x_aldn c199_34 rfl (wp_wk (l' := [some (jR 125), some (jR p), none, none]) ⟨rfl, ⟨rfl, trivial⟩⟩ (x_cv (As := []) (st := [jR 126]) c199_35 cl_125 kl180 rfl (Nat.le_of_ble_eq_true rfl) mx180 (Nat.le_refl _) ((H.2.2 h4).2.2 h2))))))))))))))))))))))))))))
theorem s199_38 {kc : List va_E} {d : Nat} {p : Nat} {u0 : Int} {M : fx_M} {Q : Option fx_V → fx_M → Prop} (Hp : fx_puz p) (H : (((0 : Int) ≤ u0 ∧ u0 < 1024)) ∧ ((fx_in32 (M 126 u0))) ∧ (M 126 u0 ≤ 15 → wp kc (d + 1) 199 50 [some (jR 125), some (jR p), some (jI 0), some (jI 0)] [] M Q) ∧ (15 < M 126 u0 → Q (some (jI 0)) M)) : wp kc (d + 1) 199 38 [some (jR 125), some (jR p), none, none] [jI u0, jR 126] M Q :=
  (x_cald c199_38 a_126 H.1 (by decide) (x_ci c199_39 (x_cle c199_41 H.2.1 (by decide) (fun h1 => (x_ci c199_46 (x_istn (l' := [some (jR 125), some (jR p), some (jI 0), none]) c199_47 rfl (x_ci c199_48 (x_istn (l' := [some (jR 125), some (jR p), some (jI 0), some (jI 0)]) c199_49 rfl (wp_wk (l' := [some (jR 125), some (jR p), some (jI 0), some (jI 0)]) ⟨rfl, ⟨rfl, ⟨rfl, ⟨rfl, trivial⟩⟩⟩⟩ (H.2.2.1 h1))))))) (fun h2 => (x_ci c199_44 (x_zrt c199_45 r199 (by decide) (H.2.2.2 h2)))))))
theorem s199_50 {kc : List va_E} {d : Nat} {p : Nat} {v2 v3 : Int} {M : fx_M} {Q : Option fx_V → fx_M → Prop} (Hp : fx_puz p) (H : ((fx_in32 v3)) ∧ (31 ≤ v3 → (((0 : Int) ≤ v2 ∧ v2 ≤ 2147483647)) ∧ wc kc d 180 [jR 125] M (fun v M1 => wp kc (d + 1) 199 89 [some (jR 125), some (jR p), none, none] (v.toList ++ [jR 126, jI (v2 % 251)]) M1 Q)) ∧ (v3 < 31 → wc kc d 180 [jR 125] M (fun v M1 => wp kc (d + 1) 199 65 [some (jR 125), some (jR p), none, some (jI v3)] (v.toList ++ [jR 126, jI v2]) M1 Q))) : wp kc (d + 1) 199 50 [some (jR 125), some (jR p), some (jI v2), some (jI v3)] [] M Q :=
  (x_ildn c199_50 rfl (x_ci c199_51 (x_cge c199_53 H.1 (by decide) (fun h1 => (x_ildn c199_76 rfl (x_ci c199_77 (x_irem c199_80 (H.2.1 h1).1 (by decide) (x_aldn c199_81 rfl (x_gfr c199_82 k_125_0 (x_aldn c199_85 rfl (wp_wk (l' := [some (jR 125), some (jR p), none, none]) ⟨rfl, ⟨rfl, trivial⟩⟩ (x_cv (As := []) (st := [jR 126, jI (v2 % 251)]) c199_86 cl_125 kl180 rfl (Nat.le_of_ble_eq_true rfl) mx180 (Nat.le_refl _) (H.2.1 h1).2))))))))) (fun h2 => (x_ildn c199_56 rfl (x_aldn c199_57 rfl (x_gfr c199_58 k_125_0 (x_aldn c199_61 rfl (wp_wk (l' := [some (jR 125), some (jR p), none, some (jI v3)]) ⟨rfl, ⟨rfl, ⟨rfl, trivial⟩⟩⟩ (x_cv (As := []) (st := [jR 126, jI v2]) c199_62 cl_125 kl180 rfl (Nat.le_of_ble_eq_true rfl) mx180 (Nat.le_refl _) (H.2.2 h2)))))))))))
theorem s199_65 {kc : List va_E} {d : Nat} {p : Nat} {v3 u0 u2 : Int} {M : fx_M} {Q : Option fx_V → fx_M → Prop} (Hp : fx_puz p) (H : (((0 : Int) ≤ u0 + v3 ∧ u0 + v3 < 1024)) ∧ wp kc (d + 1) 199 50 [some (jR 125), some (jR p), some (jI (u2 + (M 126 (u0 + v3)))), some (jI (v3 + 1))] [] M Q) : wp kc (d + 1) 199 65 [some (jR 125), some (jR p), none, some (jI v3)] [jI u0, jR 126, jI u2] M Q :=
  (x_ildn c199_65 rfl (x_iadd c199_66 (x_cald c199_67 a_126 H.1 (by decide) (x_iadd c199_68 (x_istn (l' := [some (jR 125), some (jR p), some (jI (u2 + (M 126 (u0 + v3)))), some (jI v3)]) c199_69 rfl (x_inc (l' := [some (jR 125), some (jR p), some (jI (u2 + (M 126 (u0 + v3)))), some (jI (v3 + 1))]) c199_70 rfl rfl (x_goto c199_73 (wp_wk (l' := [some (jR 125), some (jR p), some (jI (u2 + (M 126 (u0 + v3)))), some (jI (v3 + 1))]) ⟨rfl, ⟨rfl, ⟨rfl, ⟨rfl, trivial⟩⟩⟩⟩ H.2))))))))
theorem s199_89 {kc : List va_E} {d : Nat} {p : Nat} {u0 u2 : Int} {M : fx_M} {Q : Option fx_V → fx_M → Prop} (Hp : fx_puz p) (H : (((0 : Int) ≤ (u0 + 32) - 1 ∧ (u0 + 32) - 1 < 1024)) ∧ ((fx_in32 u2) ∧ (fx_in32 (M 126 ((u0 + 32) - 1)))) ∧ (u2 = M 126 ((u0 + 32) - 1) → wp kc (d + 1) 199 102 [some (jR 125), some (jR p), none, some (jI 0)] [] M Q) ∧ (u2 ≠ M 126 ((u0 + 32) - 1) → Q (some (jI 0)) M)) : wp kc (d + 1) 199 89 [some (jR 125), some (jR p), none, none] [jI u0, jR 126, jI u2] M Q :=
  (x_ci c199_89 (x_iadd c199_91 (x_ci c199_92 (x_isub c199_93 (x_cald c199_94 a_126 H.1 (by decide) (x_ceq c199_95 H.2.1.1 H.2.1.2 (fun h1 => (x_ci c199_100 (x_istn (l' := [some (jR 125), some (jR p), none, some (jI 0)]) c199_101 rfl (wp_wk (l' := [some (jR 125), some (jR p), none, some (jI 0)]) ⟨rfl, ⟨rfl, ⟨rfl, trivial⟩⟩⟩ (H.2.2.1 h1))))) (fun h2 => (x_ci c199_98 (x_zrt c199_99 r199 (by decide) (H.2.2.2 h2))))))))))
theorem s199_102 {kc : List va_E} {d : Nat} {p : Nat} {v3 : Int} {M : fx_M} {Q : Option fx_V → fx_M → Prop} (Hp : fx_puz p) (H : wc kc d 179 [jR 125] M (fun v M1 => wp kc (d + 1) 199 107 [some (jR 125), some (jR p), none, some (jI v3)] (v.toList ++ [jI v3]) M1 Q)) : wp kc (d + 1) 199 102 [some (jR 125), some (jR p), none, some (jI v3)] [] M Q :=
  (x_ildn c199_102 rfl (x_aldn c199_103 rfl (wp_wk (l' := [some (jR 125), some (jR p), none, some (jI v3)]) ⟨rfl, ⟨rfl, ⟨rfl, trivial⟩⟩⟩ (x_cv (As := []) (st := [jI v3]) c199_104 cl_125 kl179 rfl (Nat.le_of_ble_eq_true rfl) mx179 (Nat.le_refl _) H))))
theorem s199_107 {kc : List va_E} {d : Nat} {p : Nat} {v3 u0 u1 : Int} {M : fx_M} {Q : Option fx_V → fx_M → Prop} (Hp : fx_puz p) (H : ((fx_in32 u1) ∧ (fx_in32 u0)) ∧ (u0 ≤ u1 → Q (some (jI 1)) (fx_up M 125 1 1)) ∧ (u1 < u0 → wc kc d 182 [jR 125, jI v3, jR p] M (fun v M1 => wp kc (d + 1) 199 116 [some (jR 125), some (jR p), none, some (jI v3)] (v.toList ++ []) M1 Q))) : wp kc (d + 1) 199 107 [some (jR 125), some (jR p), none, some (jI v3)] [jI u0, jI u1] M Q :=
  (x_cge c199_107 H.1.1 H.1.2 (fun h1 => (x_aldn c199_127 rfl (x_ci c199_128 (x_pfz c199_129 k_125_1 (by decide) (x_ci c199_132 (x_zrt c199_133 r199 (by decide) (H.2.1 h1))))))) (fun h2 => (x_aldn c199_110 rfl (x_ildn c199_111 rfl (x_aldn c199_112 rfl (wp_wk (l' := [some (jR 125), some (jR p), none, some (jI v3)]) ⟨rfl, ⟨rfl, ⟨rfl, trivial⟩⟩⟩ (x_cv (As := [jI v3, jR p]) (st := []) c199_113 cl_125 kl182 rfl (Nat.le_of_ble_eq_true rfl) mx182 (Nat.le_refl _) (H.2.2 h2))))))))
theorem s199_116 {kc : List va_E} {d : Nat} {p : Nat} {v3 u0 : Int} {M : fx_M} {Q : Option fx_V → fx_M → Prop} (Hp : fx_puz p) (H : ((fx_in32 u0)) ∧ (u0 ≠ 0 → wp kc (d + 1) 199 102 [some (jR 125), some (jR p), none, some (jI (v3 + 1))] [] M Q) ∧ (u0 = 0 → Q (some (jI 0)) M)) : wp kc (d + 1) 199 116 [some (jR 125), some (jR p), none, some (jI v3)] [jI u0] M Q :=
  (x_zne c199_116 H.1 (fun h1 => (x_inc (l' := [some (jR 125), some (jR p), none, some (jI (v3 + 1))]) c199_121 rfl rfl (x_goto c199_124 (wp_wk (l' := [some (jR 125), some (jR p), none, some (jI (v3 + 1))]) ⟨rfl, ⟨rfl, ⟨rfl, trivial⟩⟩⟩ (H.2.1 h1))))) (fun h2 => (x_ci c199_119 (x_zrt c199_120 r199 (by decide) (H.2.2 h2)))))
theorem s199 {kc : List va_E} {d : Nat} {p : Nat} {M : fx_M} {Q : Option fx_V → fx_M → Prop} (Hp : fx_puz p) (H : ((fx_in32 (M 126 0))) ∧ (M 126 0 = 1 → wc kc d 180 [jR 125] (fx_up (fx_up M 125 1 0) 125 2 0) (fun v M1 => wp kc (d + 1) 199 38 [some (jR 125), some (jR p), none, none] (v.toList ++ [jR 126]) M1 Q)) ∧ (M 126 0 ≠ 1 → ((fx_in32 (M 126 0))) ∧ (M 126 0 ≠ 2 → Q (some (jI 0)) (fx_up (fx_up M 125 1 0) 125 2 0)) ∧ (M 126 0 = 2 → wc kc d 180 [jR 125] (fx_up (fx_up M 125 1 0) 125 2 0) (fun v M1 => wp kc (d + 1) 199 38 [some (jR 125), some (jR p), none, none] (v.toList ++ [jR 126]) M1 Q)))) : wc kc (d + 1) 199 [jR 125, jR p] M Q :=
  wc_of (wp_wk (l' := [some (jR 125), some (jR p), none, none]) ⟨rfl, ⟨rfl, trivial⟩⟩ (s199_0 Hp H))

/- PuzzleHouse$Book.hasByte(II)Z -/
theorem c210_0 : fx_op 210 0 = some (.iload_n 0, 1, 0) := by decide +kernel
theorem c210_1 : fx_op 210 1 = some (.ifCond .lt 23, 4, 24) := by decide +kernel
theorem c210_24 : fx_ci 210 24 = some (0, 25) := by decide +kernel
theorem c210_4 : fx_op 210 4 = some (.iload_n 0, 5, 4) := by decide +kernel
theorem c210_5 : fx_ci 210 5 = some (32, 7) := by decide +kernel
theorem c210_7 : fx_op 210 7 = some (.if_icmp .ge 17, 10, 24) := by decide +kernel
theorem c210_10 : fx_op 210 10 = some (.iload_n 1, 11, 10) := by decide +kernel
theorem c210_11 : fx_op 210 11 = some (.ifCond .lt 13, 14, 24) := by decide +kernel
theorem c210_14 : fx_op 210 14 = some (.iload_n 1, 15, 14) := by decide +kernel
theorem c210_15 : fx_ci 210 15 = some (32, 17) := by decide +kernel
theorem c210_17 : fx_op 210 17 = some (.if_icmp .ge 7, 20, 24) := by decide +kernel
theorem c210_20 : fx_ci 210 20 = some (1, 21) := by decide +kernel
theorem c210_21 : fx_op 210 21 = some (.goto 4, 24, 25) := by decide +kernel
theorem c210_25 : fx_op 210 25 = some (.ireturn, 26, 25) := by decide +kernel
theorem s210_0 {kc : List va_E} {d : Nat} {x0 x1 : Int} {M : fx_M} {Q : Option fx_V → fx_M → Prop} (H : ((fx_in32 x0)) ∧ (0 ≤ x0 → (fx_in32 x0)) ∧ (0 ≤ x0 → x0 < 32 → (fx_in32 x1)) ∧ (0 ≤ x0 → x0 < 32 → 0 ≤ x1 → (fx_in32 x1)) ∧ ((0 : Int) ≤ (if x0 < 0 then (0 : Int) else (if x0 < 32 then ((if x1 < 0 then (0 : Int) else (if x1 < 32 then (1 : Int) else 0)) : Int) else 0)) ∧ (if x0 < 0 then (0 : Int) else (if x0 < 32 then ((if x1 < 0 then (0 : Int) else (if x1 < 32 then (1 : Int) else 0)) : Int) else 0)) ≤ 1) ∧ Q (some (jI (if x0 < 0 then (0 : Int) else (if x0 < 32 then ((if x1 < 0 then (0 : Int) else (if x1 < 32 then (1 : Int) else 0)) : Int) else 0)))) M) : wp kc (d + 1) 210 0 [some (jI x0), some (jI x1)] [] M Q :=
  (x_ildn c210_0 rfl (have K : wp kc (d + 1) 210 25 [none, none] [jI (if x0 < 0 then (0 : Int) else (if x0 < 32 then ((if x1 < 0 then (0 : Int) else (if x1 < 32 then (1 : Int) else 0)) : Int) else 0))] M Q := (x_zrt c210_25 r210 H.2.2.2.2.1 H.2.2.2.2.2); (x_zlt c210_1 H.1 (fun (h1 : x0 < 0) => (x_ci c210_24 (wp_wk (l' := [none, none]) trivial (by have K := K; first | (simp only [if_pos h1] at K ⊢; exact K) | (exfalso; omega))))) (fun (h2 : 0 ≤ x0) => (x_ildn c210_4 rfl (x_ci c210_5 (x_cge c210_7 (H.2.1 h2) (by decide) (fun (h3 : 32 ≤ x0) => (x_ci c210_24 (wp_wk (l' := [none, none]) trivial (by have K := K; first | (simp only [if_neg (Int.not_lt.mpr h2), if_neg (Int.not_lt.mpr h3)] at K ⊢; exact K) | (exfalso; omega))))) (fun (h4 : x0 < 32) => (x_ildn c210_10 rfl (x_zlt c210_11 (H.2.2.1 h2 h4) (fun (h5 : x1 < 0) => (x_ci c210_24 (wp_wk (l' := [none, none]) trivial (by have K := K; first | (simp only [if_neg (Int.not_lt.mpr h2), if_pos h4, if_pos h5] at K ⊢; exact K) | (exfalso; omega))))) (fun (h6 : 0 ≤ x1) => (x_ildn c210_14 rfl (x_ci c210_15 (x_cge c210_17 (H.2.2.2.1 h2 h4 h6) (by decide) (fun (h7 : 32 ≤ x1) => (x_ci c210_24 (wp_wk (l' := [none, none]) trivial (by have K := K; first | (simp only [if_neg (Int.not_lt.mpr h2), if_pos h4, if_neg (Int.not_lt.mpr h6), if_neg (Int.not_lt.mpr h7)] at K ⊢; exact K) | (exfalso; omega))))) (fun (h8 : x1 < 32) => (x_ci c210_20 (x_goto c210_21 (wp_wk (l' := [none, none]) trivial (by have K := K; first | (simp only [if_neg (Int.not_lt.mpr h2), if_pos h4, if_neg (Int.not_lt.mpr h6), if_pos h8] at K ⊢; exact K) | (exfalso; omega))))))))))))))))))))
theorem s210 {kc : List va_E} {d : Nat} {x0 x1 : Int} {M : fx_M} {Q : Option fx_V → fx_M → Prop} (H : ((fx_in32 x0)) ∧ (0 ≤ x0 → (fx_in32 x0)) ∧ (0 ≤ x0 → x0 < 32 → (fx_in32 x1)) ∧ (0 ≤ x0 → x0 < 32 → 0 ≤ x1 → (fx_in32 x1)) ∧ ((0 : Int) ≤ (if x0 < 0 then (0 : Int) else (if x0 < 32 then ((if x1 < 0 then (0 : Int) else (if x1 < 32 then (1 : Int) else 0)) : Int) else 0)) ∧ (if x0 < 0 then (0 : Int) else (if x0 < 32 then ((if x1 < 0 then (0 : Int) else (if x1 < 32 then (1 : Int) else 0)) : Int) else 0)) ≤ 1) ∧ Q (some (jI (if x0 < 0 then (0 : Int) else (if x0 < 32 then ((if x1 < 0 then (0 : Int) else (if x1 < 32 then (1 : Int) else 0)) : Int) else 0)))) M) : wc kc (d + 1) 210 [jI x0, jI x1] M Q :=
  wc_of (wp_wk (l' := [some (jI x0), some (jI x1)]) ⟨rfl, ⟨rfl, trivial⟩⟩ (s210_0 H))

/- PuzzleHouse$Book.spoil(II)V -/
theorem c212_0 : fx_op 212 0 = some (.aload_n 0, 1, 0) := by decide +kernel
theorem c212_1 : fx_gf 212 1 = some (11, 0, 4) := by decide +kernel
theorem c212_4 : fx_op 212 4 = some (.iload_n 1, 5, 4) := by decide +kernel
theorem c212_5 : fx_op 212 5 = some (.aload_n 0, 6, 5) := by decide +kernel
theorem c212_6 : fx_gf 212 6 = some (11, 0, 9) := by decide +kernel
theorem c212_9 : fx_op 212 9 = some (.iload_n 1, 10, 9) := by decide +kernel
theorem c212_11 : fx_op 212 11 = some (.iload_n 2, 12, 11) := by decide +kernel
theorem c212_12 : fx_op 212 12 = some (.ixor, 13, 12) := by decide +kernel
theorem c212_13 : fx_op 212 13 = some (.i2c, 14, 13) := by decide +kernel
theorem c212_15 : fx_op 212 15 = some (.aload_n 0, 16, 15) := by decide +kernel
theorem c212_16 : fx_ci 212 16 = some (0, 17) := by decide +kernel
theorem c212_17 : fx_pf 212 17 = some (11, 1, 2, 20) := by decide +kernel
theorem c212_10 : fx_op 212 10 = some (.caload, 11, 10) := by decide +kernel
theorem c212_14 : fx_op 212 14 = some (.castore, 15, 14) := by decide +kernel
theorem c212_20 : fx_op 212 20 = some (.return_, 21, 20) := by decide +kernel
theorem s212_0 {kc : List va_E} {d : Nat} {x1 x2 : Int} {M : fx_M} {Q : Option fx_V → fx_M → Prop} (H : (((0 : Int) ≤ x1 ∧ x1 < 1024)) ∧ (((0 : Int) ≤ x1 ∧ x1 < 1024) ∧ ((0 : Int) ≤ (fx_xor (M 126 x1) x2) % 65536 ∧ (fx_xor (M 126 x1) x2) % 65536 ≤ 65535)) ∧ Q none (fx_up (fx_up M 126 x1 ((fx_xor (M 126 x1) x2) % 65536)) 125 1 0)) : wp kc (d + 1) 212 0 [some (jR 125), some (jI x1), some (jI x2)] [] M Q :=
  (x_aldn c212_0 rfl (x_gfr c212_1 k_125_0 (x_ildn c212_4 rfl (x_aldn c212_5 rfl (x_gfr c212_6 k_125_0 (x_ildn c212_9 rfl (x_cald c212_10 a_126 H.1 (by decide) (x_ildn c212_11 rfl (x_ixor c212_12 (x_i2c c212_13 (x_cast c212_14 a_126 H.2.1.1 (by decide) H.2.1.2 (x_aldn c212_15 rfl (x_ci c212_16 (x_pfz c212_17 k_125_1 (by decide) (x_vr c212_20 r212 H.2.2)))))))))))))))
theorem s212 {kc : List va_E} {d : Nat} {x1 x2 : Int} {M : fx_M} {Q : Option fx_V → fx_M → Prop} (H : (((0 : Int) ≤ x1 ∧ x1 < 1024)) ∧ (((0 : Int) ≤ x1 ∧ x1 < 1024) ∧ ((0 : Int) ≤ (fx_xor (M 126 x1) x2) % 65536 ∧ (fx_xor (M 126 x1) x2) % 65536 ≤ 65535)) ∧ Q none (fx_up (fx_up M 126 x1 ((fx_xor (M 126 x1) x2) % 65536)) 125 1 0)) : wc kc (d + 1) 212 [jR 125, jI x1, jI x2] M Q :=
  wc_of (wp_wk (l' := [some (jR 125), some (jI x1), some (jI x2)]) ⟨rfl, ⟨rfl, ⟨rfl, trivial⟩⟩⟩ (s212_0 H))

/- PuzzleHouse$Book.placeOf(I)I -/
theorem c428_0 : fx_ci 428 0 = some (32, 2) := by decide +kernel
theorem c428_2 : fx_op 428 2 = some (.aload_n 0, 3, 2) := by decide +kernel
theorem c428_3 : fx_gf 428 3 = some (11, 0, 6) := by decide +kernel
theorem c428_6 : fx_op 428 6 = some (.aload_n 0, 7, 6) := by decide +kernel
theorem c428_7 : fx_ca 428 7 = some (180, 1, 2, 10) := by decide +kernel
theorem c428_10 : fx_ci 428 10 = some (1, 11) := by decide +kernel
theorem c428_11 : fx_op 428 11 = some (.iadd, 12, 11) := by decide +kernel
theorem c428_12 : fx_ci 428 12 = some (2, 13) := by decide +kernel
theorem c428_13 : fx_op 428 13 = some (.iload_n 1, 14, 13) := by decide +kernel
theorem c428_14 : fx_op 428 14 = some (.imul, 15, 14) := by decide +kernel
theorem c428_15 : fx_op 428 15 = some (.iadd, 16, 15) := by decide +kernel
theorem c428_17 : fx_ci 428 17 = some (31, 19) := by decide +kernel
theorem c428_22 : fx_op 428 22 = some (.imul, 23, 22) := by decide +kernel
theorem c428_16 : fx_op 428 16 = some (.caload, 17, 16) := by decide +kernel
theorem c428_19 : fx_nt 428 19 = some (2, 22) := by decide +kernel
theorem c428_23 : fx_op 428 23 = some (.ireturn, 24, 23) := by decide +kernel
theorem n428_19 : xS 428 ((xI 428 19).getD .nop) = none := by decide +kernel
theorem s428_0 {kc : List va_E} {d : Nat} {x1 : Int} {M : fx_M} {Q : Option fx_V → fx_M → Prop} (H : wc kc d 180 [jR 125] M (fun v M1 => wp kc (d + 1) 428 10 [none, some (jI x1)] (v.toList ++ [jR 126, jI 32]) M1 Q)) : wp kc (d + 1) 428 0 [some (jR 125), some (jI x1)] [] M Q :=
  (x_ci c428_0 (x_aldn c428_2 rfl (x_gfr c428_3 k_125_0 (x_aldn c428_6 rfl (wp_wk (l' := [none, some (jI x1)]) ⟨rfl, trivial⟩ (x_cv (As := []) (st := [jR 126, jI 32]) c428_7 cl_125 kl180 rfl (Nat.le_of_ble_eq_true rfl) mx180 (Nat.le_refl _) H))))))
theorem s428_10 {kc : List va_E} {d : Nat} {v1 u0 u2 : Int} {M : fx_M} {Q : Option fx_V → fx_M → Prop} (H : (((0 : Int) ≤ (u0 + 1) + (2 * v1) ∧ (u0 + 1) + (2 * v1) < 1024)) ∧ ((fx_in32 (M 126 ((u0 + 1) + (2 * v1))))) ∧ Q (some (jI (u2 * (if 31 < M 126 ((u0 + 1) + (2 * v1)) then (31 : Int) else M 126 ((u0 + 1) + (2 * v1)))))) M) : wp kc (d + 1) 428 10 [none, some (jI v1)] [jI u0, jR 126, jI u2] M Q :=
  (x_ci c428_10 (x_iadd c428_11 (x_ci c428_12 (x_ildn c428_13 rfl (x_imul c428_14 (x_iadd c428_15 (x_cald c428_16 a_126 H.1 (by decide) (x_ci c428_17 (x_min c428_19 n428_19 H.2.1 (by decide) (Nat.le_of_ble_eq_true rfl) (x_imul c428_22 (x_irt c428_23 r428 H.2.2)))))))))))
theorem s428 {kc : List va_E} {d : Nat} {x1 : Int} {M : fx_M} {Q : Option fx_V → fx_M → Prop} (H : wc kc d 180 [jR 125] M (fun v M1 => wp kc (d + 1) 428 10 [none, some (jI x1)] (v.toList ++ [jR 126, jI 32]) M1 Q)) : wc kc (d + 1) 428 [jR 125, jI x1] M Q :=
  wc_of (wp_wk (l' := [some (jR 125), some (jI x1)]) ⟨rfl, ⟨rfl, trivial⟩⟩ (s428_0 H))
