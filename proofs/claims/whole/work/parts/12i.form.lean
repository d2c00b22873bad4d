/-! SEGMENTS of Form (by gen/emit_segs.py) -/
/- PuzzleHouse$Form.take(LPuzzleHouse$Puzzle;)V -/
theorem c146_0 : fx_op 146 0 = some (.aload_n 0, 1, 0) := by decide +kernel
theorem c146_1 : fx_op 146 1 = some (.aload_n 1, 2, 1) := by decide +kernel
theorem c146_2 : fx_gf 146 2 = some (3, 0, 5) := by decide +kernel
theorem c146_5 : fx_pf 146 5 = some (7, 0, 0, 8) := by decide +kernel
theorem c146_8 : fx_op 146 8 = some (.aload_n 0, 9, 8) := by decide +kernel
theorem c146_9 : fx_op 146 9 = some (.aload_n 1, 10, 9) := by decide +kernel
theorem c146_10 : fx_gf 146 10 = some (3, 1, 13) := by decide +kernel
theorem c146_13 : fx_pf 146 13 = some (7, 1, 0, 16) := by decide +kernel
theorem c146_16 : fx_op 146 16 = some (.aload_n 0, 17, 16) := by decide +kernel
theorem c146_17 : fx_op 146 17 = some (.aload_n 1, 18, 17) := by decide +kernel
theorem c146_18 : fx_gf 146 18 = some (3, 3, 21) := by decide +kernel
theorem c146_21 : fx_pf 146 21 = some (7, 2, 0, 24) := by decide +kernel
theorem c146_24 : fx_op 146 24 = some (.aload_n 1, 25, 24) := by decide +kernel
theorem c146_25 : fx_ca 146 25 = some (147, 1, 0, 28) := by decide +kernel
theorem c146_28 : fx_op 146 28 = some (.istore_n 2, 29, 28) := by decide +kernel
theorem c146_29 : fx_ci 146 29 = some (0, 30) := by decide +kernel
theorem c146_30 : fx_op 146 30 = some (.istore_n 3, 31, 30) := by decide +kernel
theorem c146_31 : fx_op 146 31 = some (.iload_n 3, 32, 31) := by decide +kernel
theorem c146_32 : fx_op 146 32 = some (.aload_n 1, 33, 32) := by decide +kernel
theorem c146_33 : fx_ca 146 33 = some (148, 1, 0, 36) := by decide +kernel
theorem c146_36 : fx_op 146 36 = some (.if_icmp .ge 111, 39, 147) := by decide +kernel
theorem c146_39 : fx_op 146 39 = some (.aload_n 0, 40, 39) := by decide +kernel
theorem c146_40 : fx_op 146 40 = some (.aload_n 1, 41, 40) := by decide +kernel
theorem c146_41 : fx_op 146 41 = some (.iload_n 3, 42, 41) := by decide +kernel
theorem c146_147 : fx_op 146 147 = some (.return_, 148, 147) := by decide +kernel
theorem c146_42 : fx_ca 146 42 = some (149, 3, 2, 45) := by decide +kernel
theorem c146_45 : fx_op 146 45 = some (.iload_n 3, 46, 45) := by decide +kernel
theorem c146_46 : fx_op 146 46 = some (.ifCond .ne 7, 49, 53) := by decide +kernel
theorem c146_53 : fx_op 146 53 = some (.aload_n 0, 54, 53) := by decide +kernel
theorem c146_49 : fx_ci 146 49 = some ((-1), 50) := by decide +kernel
theorem c146_57 : fx_op 146 57 = some (.istore 4, 59, 57) := by decide +kernel
theorem c146_59 : fx_op 146 59 = some (.iload 4, 61, 59) := by decide +kernel
theorem c146_61 : fx_op 146 61 = some (.ifCond .ge 33, 64, 94) := by decide +kernel
theorem c146_64 : fx_op 146 64 = some (.aload_n 0, 65, 64) := by decide +kernel
theorem c146_65 : fx_gf 146 65 = some (7, 7, 68) := by decide +kernel
theorem c146_68 : fx_ci 146 68 = some (0, 69) := by decide +kernel
theorem c146_69 : fx_op 146 69 = some (.aload_n 0, 70, 69) := by decide +kernel
theorem c146_70 : fx_gf 146 70 = some (7, 4, 73) := by decide +kernel
theorem c146_73 : fx_ci 146 73 = some (0, 74) := by decide +kernel
theorem c146_74 : fx_ci 146 74 = some (12, 76) := by decide +kernel
theorem c146_79 : fx_op 146 79 = some (.aload_n 0, 80, 79) := by decide +kernel
theorem c146_80 : fx_op 146 80 = some (.aload_n 0, 81, 80) := by decide +kernel
theorem c146_81 : fx_gf 146 81 = some (7, 6, 84) := by decide +kernel
theorem c146_84 : fx_pf 146 84 = some (7, 3, 0, 87) := by decide +kernel
theorem c146_87 : fx_op 146 87 = some (.aload_n 0, 88, 87) := by decide +kernel
theorem c146_88 : fx_cj 146 88 = some (1099511627776, 91) := by decide +kernel
theorem c146_91 : fx_pf 146 91 = some (7, 5, 1, 94) := by decide +kernel
theorem c146_94 : fx_ci 146 94 = some (0, 95) := by decide +kernel
theorem c146_95 : fx_op 146 95 = some (.istore 5, 97, 95) := by decide +kernel
theorem c146_54 : fx_ca 146 54 = some (152, 1, 2, 57) := by decide +kernel
theorem c146_50 : fx_op 146 50 = some (.goto 7, 53, 57) := by decide +kernel
theorem c146_76 : fx_nt 146 76 = some (0, 79) := by decide +kernel
theorem c146_97 : fx_op 146 97 = some (.iload 5, 99, 97) := by decide +kernel
theorem c146_99 : fx_op 146 99 = some (.iload_n 2, 100, 99) := by decide +kernel
theorem c146_100 : fx_op 146 100 = some (.if_icmp .ge 41, 103, 141) := by decide +kernel
theorem c146_103 : fx_op 146 103 = some (.iload 4, 105, 103) := by decide +kernel
theorem c146_105 : fx_op 146 105 = some (.ifCond .gt 36, 108, 141) := by decide +kernel
theorem c146_108 : fx_op 146 108 = some (.aload_n 0, 109, 108) := by decide +kernel
theorem c146_109 : fx_op 146 109 = some (.iload 5, 111, 109) := by decide +kernel
theorem c146_111 : fx_op 146 111 = some (.aload_n 0, 112, 111) := by decide +kernel
theorem c146_112 : fx_gf 146 112 = some (7, 2, 115) := by decide +kernel
theorem c146_141 : fx_op 146 141 = some (.iinc 3 1, 144, 141) := by decide +kernel
theorem c146_144 : fx_op 146 144 = some (.goto (-113), 147, 31) := by decide +kernel
theorem c146_115 : fx_ca 146 115 = some (155, 3, 2, 118) := by decide +kernel
theorem c146_118 : fx_op 146 118 = some (.aload_n 0, 119, 118) := by decide +kernel
theorem c146_119 : fx_op 146 119 = some (.aload_n 0, 120, 119) := by decide +kernel
theorem c146_120 : fx_gf 146 120 = some (7, 5, 123) := by decide +kernel
theorem c146_123 : fx_op 146 123 = some (.aload_n 0, 124, 123) := by decide +kernel
theorem c146_124 : fx_op 146 124 = some (.aload_n 1, 125, 124) := by decide +kernel
theorem c146_125 : fx_op 146 125 = some (.iload_n 3, 126, 125) := by decide +kernel
theorem c146_126 : fx_ca 146 126 = some (156, 3, 2, 129) := by decide +kernel
theorem c146_132 : fx_pf 146 132 = some (7, 5, 1, 135) := by decide +kernel
theorem c146_135 : fx_op 146 135 = some (.iinc 5 1, 138, 135) := by decide +kernel
theorem c146_129 : fx_nt 146 129 = some (5, 132) := by decide +kernel
theorem c146_138 : fx_op 146 138 = some (.goto (-41), 141, 97) := by decide +kernel
theorem n146_76 : xS 146 ((xI 146 76).getD .nop) = none := by decide +kernel
theorem n146_129 : xS 146 ((xI 146 129).getD .nop) = none := by decide +kernel
theorem s146_0 {kc : List va_E} {d : Nat} {f p : Nat} {M : fx_M} {Q : Option fx_V → fx_M → Prop} (Hf : fx_frm f) (Hp : fx_puz p) (H : wc kc d 147 [jR p] (fx_up (fx_up (fx_up M f 0 (M p 0)) f 1 (M p 1)) f 2 (M p 3)) (fun v M1 => wp kc (d + 1) 146 28 [some (jR f), some (jR p), none, none, none, none] (v.toList ++ []) M1 Q)) : wp kc (d + 1) 146 0 [some (jR f), some (jR p), none, none, none, none] [] M Q :=
  (x_aldn c146_0 rfl (x_aldn c146_1 rfl (x_gfi c146_2 (kp_0 Hp) (x_pfi c146_5 (kf_0 Hf) (x_aldn c146_8 rfl (x_aldn c146_9 rfl (x_gfi c146_10 (kp_1 Hp) (wp_vI (fx_upK (by decide)) (x_pfi c146_13 (kf_1 Hf) (x_aldn c146_16 rfl (x_aldn c146_17 rfl (x_gfi c146_18 (kp_3 Hp) (wp_vI (((fx_upK (by decide)).trans (fx_upK (by decide)))) (x_pfi c146_21 (kf_2 Hf) (x_aldn c146_24 rfl (wp_wk (l' := [some (jR f), some (jR p), none, none, none, none]) ⟨rfl, ⟨rfl, trivial⟩⟩ (x_cs (As := [jR p]) (st := []) c146_25 (by decide) rfl (Nat.le_of_ble_eq_true rfl) mx147 (Nat.le_refl _) H)))))))))))))))))
theorem s146_28 {kc : List va_E} {d : Nat} {f p : Nat} {u0 : Int} {M : fx_M} {Q : Option fx_V → fx_M → Prop} (Hf : fx_frm f) (Hp : fx_puz p) (H : wp kc (d + 1) 146 31 [some (jR f), some (jR p), some (jI u0), some (jI 0), none, none] [] M Q) : wp kc (d + 1) 146 28 [some (jR f), some (jR p), none, none, none, none] [jI u0] M Q :=
  (x_istn (l' := [some (jR f), some (jR p), some (jI u0), none, none, none]) c146_28 rfl (x_ci c146_29 (x_istn (l' := [some (jR f), some (jR p), some (jI u0), some (jI 0), none, none]) c146_30 rfl (wp_wk (l' := [some (jR f), some (jR p), some (jI u0), some (jI 0), none, none]) ⟨rfl, ⟨rfl, ⟨rfl, ⟨rfl, trivial⟩⟩⟩⟩ H))))
theorem s146_31 {kc : List va_E} {d : Nat} {f p : Nat} {v2 v3 : Int} {M : fx_M} {Q : Option fx_V → fx_M → Prop} (Hf : fx_frm f) (Hp : fx_puz p) (H : wc kc d 148 [jR p] M (fun v M1 => wp kc (d + 1) 146 36 [some (jR f), some (jR p), some (jI v2), some (jI v3), none, none] (v.toList ++ [jI v3]) M1 Q)) : wp kc (d + 1) 146 31 [some (jR f), some (jR p), some (jI v2), some (jI v3), none, none] [] M Q :=
  (x_ildn c146_31 rfl (x_aldn c146_32 rfl (wp_wk (l' := [some (jR f), some (jR p), some (jI v2), some (jI v3), none, none]) ⟨rfl, ⟨rfl, ⟨rfl, ⟨rfl, trivial⟩⟩⟩⟩ (x_cs (As := [jR p]) (st := [jI v3]) c146_33 (by decide) rfl (Nat.le_of_ble_eq_true rfl) mx148 (Nat.le_refl _) H))))
theorem s146_36 {kc : List va_E} {d : Nat} {f p : Nat} {v2 v3 u0 u1 : Int} {M : fx_M} {Q : Option fx_V → fx_M → Prop} (Hf : fx_frm f) (Hp : fx_puz p) (H : ((fx_in32 u1) ∧ (fx_in32 u0)) ∧ (u0 ≤ u1 → Q none M) ∧ (u1 < u0 → wc kc d 149 [jR f, jR p, jI v3] M (fun v M1 => wp kc (d + 1) 146 45 [some (jR f), some (jR p), some (jI v2), some (jI v3), none, none] (v.toList ++ []) M1 Q))) : wp kc (d + 1) 146 36 [some (jR f), some (jR p), some (jI v2), some (jI v3), none, none] [jI u0, jI u1] M Q :=
  (x_cge c146_36 H.1.1 H.1.2 (fun h1 => (x_vr c146_147 r146 (H.2.1 h1))) (fun h2 => (x_aldn c146_39 rfl (x_aldn c146_40 rfl (x_ildn c146_41 rfl (wp_wk (l' := [some (jR f), some (jR p), some (jI v2), some (jI v3), none, none]) ⟨rfl, ⟨rfl, ⟨rfl, ⟨rfl, trivial⟩⟩⟩⟩ (x_cv (As := [jR p, jI v3]) (st := []) c146_42 (clf Hf) kl149 rfl (Nat.le_of_ble_eq_true rfl) mx149 (Nat.le_refl _) (H.2.2 h2))))))))
theorem s146_45 {kc : List va_E} {d : Nat} {f p : Nat} {v2 v3 : Int} {M : fx_M} {Q : Option fx_V → fx_M → Prop} (Hf : fx_frm f) (Hp : fx_puz p) (H : ((fx_in32 v3)) ∧ (v3 ≠ 0 → wc kc d 152 [jR f] M (fun v M1 => wp kc (d + 1) 146 57 [some (jR f), some (jR p), some (jI v2), some (jI v3), none, none] (v.toList ++ []) M1 Q)) ∧ (v3 = 0 → (((0 : Int) ≤ 12 ∧ (0 : Int) ≤ 0 ∧ (0 : Int) ≤ 0 ∧ (0 : Int) + 12 ≤ 12 ∧ (0 : Int) + 12 ≤ 12)) ∧ wp kc (d + 1) 146 97 [some (jR f), some (jR p), some (jI v2), some (jI v3), some (jI (-1)), some (jI 0)] [] (fx_up (fx_up (fx_cpy M (f + 2) 0 (f + 1) 0 12) f 3 ((fx_cpy M (f + 2) 0 (f + 1) 0 12) f 6)) f 5 1099511627776) Q)) : wp kc (d + 1) 146 45 [some (jR f), some (jR p), some (jI v2), some (jI v3), none, none] [] M Q :=
  (x_ildn c146_45 rfl (x_zne c146_46 H.1 (fun h1 => (x_aldn c146_53 rfl (wp_wk (l' := [some (jR f), some (jR p), some (jI v2), some (jI v3), none, none]) ⟨rfl, ⟨rfl, ⟨rfl, ⟨rfl, trivial⟩⟩⟩⟩ (x_cv (As := []) (st := []) c146_54 (clf Hf) kl152 rfl (Nat.le_of_ble_eq_true rfl) mx152 (Nat.le_refl _) (H.2.1 h1))))) (fun h2 => (x_ci c146_49 (x_goto c146_50 (x_ist (l' := [some (jR f), some (jR p), some (jI v2), some (jI v3), some (jI (-1)), none]) c146_57 rfl (x_ild c146_59 rfl (x_zge c146_61 (by decide) (fun h => absurd h (by decide)) (fun _ => (x_aldn c146_64 rfl (x_gfr c146_65 (kf_7 Hf) (x_ci c146_68 (x_aldn c146_69 rfl (x_gfr c146_70 (kf_4 Hf) (x_ci c146_73 (x_ci c146_74 (x_cpy c146_76 n146_76 (af_2 Hf) (af_1 Hf) (by decide) (H.2.2 h2).1 ⟨(by decide), (by decide)⟩ (Nat.le_of_ble_eq_true rfl) (x_aldn c146_79 rfl (x_aldn c146_80 rfl (x_gfi c146_81 (kf_6 Hf) (x_pfi c146_84 (kf_3 Hf) (x_aldn c146_87 rfl (x_cj c146_88 (x_pfl c146_91 (kf_5 Hf) (x_ci c146_94 (x_ist (l' := [some (jR f), some (jR p), some (jI v2), some (jI v3), some (jI (-1)), some (jI 0)]) c146_95 rfl (wp_wk (l' := [some (jR f), some (jR p), some (jI v2), some (jI v3), some (jI (-1)), some (jI 0)]) ⟨rfl, ⟨rfl, ⟨rfl, ⟨rfl, ⟨rfl, ⟨rfl, trivial⟩⟩⟩⟩⟩⟩ (H.2.2 h2).2)))))))))))))))))))))))))))
theorem s146_57 {kc : List va_E} {d : Nat} {f p : Nat} {v2 v3 u0 : Int} {M : fx_M} {Q : Option fx_V → fx_M → Prop} (Hf : fx_frm f) (Hp : fx_puz p) (H : ((fx_in32 u0)) ∧ (0 ≤ u0 → wp kc (d + 1) 146 97 [some (jR f), some (jR p), some (jI v2), some (jI v3), some (jI u0), some (jI 0)] [] M Q) ∧ (u0 < 0 → (((0 : Int) ≤ 12 ∧ (0 : Int) ≤ 0 ∧ (0 : Int) ≤ 0 ∧ (0 : Int) + 12 ≤ 12 ∧ (0 : Int) + 12 ≤ 12)) ∧ wp kc (d + 1) 146 97 [some (jR f), some (jR p), some (jI v2), some (jI v3), some (jI u0), some (jI 0)] [] (fx_up (fx_up (fx_cpy M (f + 2) 0 (f + 1) 0 12) f 3 ((fx_cpy M (f + 2) 0 (f + 1) 0 12) f 6)) f 5 1099511627776) Q)) : wp kc (d + 1) 146 57 [some (jR f), some (jR p), some (jI v2), some (jI v3), none, none] [jI u0] M Q :=
  (x_ist (l' := [some (jR f), some (jR p), some (jI v2), some (jI v3), some (jI u0), none]) c146_57 rfl (x_ild c146_59 rfl (x_zge c146_61 H.1 (fun h1 => (x_ci c146_94 (x_ist (l' := [some (jR f), some (jR p), some (jI v2), some (jI v3), some (jI u0), some (jI 0)]) c146_95 rfl (wp_wk (l' := [some (jR f), some (jR p), some (jI v2), some (jI v3), some (jI u0), some (jI 0)]) ⟨rfl, ⟨rfl, ⟨rfl, ⟨rfl, ⟨rfl, ⟨rfl, trivial⟩⟩⟩⟩⟩⟩ (H.2.1 h1))))) (fun h2 => (x_aldn c146_64 rfl (x_gfr c146_65 (kf_7 Hf) (x_ci c146_68 (x_aldn c146_69 rfl (x_gfr c146_70 (kf_4 Hf) (x_ci c146_73 (x_ci c146_74 (x_cpy c146_76 n146_76 (af_2 Hf) (af_1 Hf) (by decide) (H.2.2 h2).1 ⟨(by decide), (by decide)⟩ (Nat.le_of_ble_eq_true rfl) (x_aldn c146_79 rfl (x_aldn c146_80 rfl (x_gfi c146_81 (kf_6 Hf) (x_pfi c146_84 (kf_3 Hf) (x_aldn c146_87 rfl (x_cj c146_88 (x_pfl c146_91 (kf_5 Hf) (x_ci c146_94 (x_ist (l' := [some (jR f), some (jR p), some (jI v2), some (jI v3), some (jI u0), some (jI 0)]) c146_95 rfl (wp_wk (l' := [some (jR f), some (jR p), some (jI v2), some (jI v3), some (jI u0), some (jI 0)]) ⟨rfl, ⟨rfl, ⟨rfl, ⟨rfl, ⟨rfl, ⟨rfl, trivial⟩⟩⟩⟩⟩⟩ (H.2.2 h2).2))))))))))))))))))))))
theorem s146_97 {kc : List va_E} {d : Nat} {f p : Nat} {v2 v3 v4 v5 : Int} {M : fx_M} {Q : Option fx_V → fx_M → Prop} (Hf : fx_frm f) (Hp : fx_puz p) (H : ((fx_in32 v5) ∧ (fx_in32 v2)) ∧ (v2 ≤ v5 → wp kc (d + 1) 146 31 [some (jR f), some (jR p), some (jI v2), some (jI (v3 + 1)), none, none] [] M Q) ∧ (v5 < v2 → ((fx_in32 v4)) ∧ (0 < v4 → wp kc (d + 1) 146 31 [some (jR f), some (jR p), some (jI v2), some (jI (v3 + 1)), none, none] [] M Q) ∧ (v4 ≤ 0 → wc kc d 155 [jR f, jI v5, jI (M f 2)] M (fun v M1 => wp kc (d + 1) 146 118 [some (jR f), some (jR p), some (jI v2), some (jI v3), some (jI v4), some (jI v5)] (v.toList ++ []) M1 Q)))) : wp kc (d + 1) 146 97 [some (jR f), some (jR p), some (jI v2), some (jI v3), some (jI v4), some (jI v5)] [] M Q :=
  (x_ild c146_97 rfl (x_ildn c146_99 rfl (x_cge c146_100 H.1.1 H.1.2 (fun h3 => (x_inc (l' := [some (jR f), some (jR p), some (jI v2), some (jI (v3 + 1)), some (jI v4), some (jI v5)]) c146_141 rfl rfl (x_goto c146_144 (wp_wk (l' := [some (jR f), some (jR p), some (jI v2), some (jI (v3 + 1)), none, none]) ⟨rfl, ⟨rfl, ⟨rfl, ⟨rfl, trivial⟩⟩⟩⟩ (H.2.1 h3))))) (fun h4 => (x_ild c146_103 rfl (x_zgt c146_105 (H.2.2 h4).1 (fun h1 => (x_inc (l' := [some (jR f), some (jR p), some (jI v2), some (jI (v3 + 1)), some (jI v4), some (jI v5)]) c146_141 rfl rfl (x_goto c146_144 (wp_wk (l' := [some (jR f), some (jR p), some (jI v2), some (jI (v3 + 1)), none, none]) ⟨rfl, ⟨rfl, ⟨rfl, ⟨rfl, trivial⟩⟩⟩⟩ ((H.2.2 h4).2.1 h1))))) (fun h2 => (x_aldn c146_108 rfl (x_ild c146_109 rfl (x_aldn c146_111 rfl (x_gfi c146_112 (kf_2 Hf) (wp_wk (l' := [some (jR f), some (jR p), some (jI v2), some (jI v3), some (jI v4), some (jI v5)]) ⟨rfl, ⟨rfl, ⟨rfl, ⟨rfl, ⟨rfl, ⟨rfl, trivial⟩⟩⟩⟩⟩⟩ (x_cv (As := [jI v5, jI (M f 2)]) (st := []) c146_115 (clf Hf) kl155 rfl (Nat.le_of_ble_eq_true rfl) mx155 (Nat.le_refl _) ((H.2.2 h4).2.2 h2))))))))))))))
theorem s146_118 {kc : List va_E} {d : Nat} {f p : Nat} {v2 v3 v4 v5 : Int} {M : fx_M} {Q : Option fx_V → fx_M → Prop} (Hf : fx_frm f) (Hp : fx_puz p) (H : wc kc d 156 [jR f, jR p, jI v3] M (fun v M1 => wp kc (d + 1) 146 129 [some (jR f), some (jR p), some (jI v2), some (jI v3), some (jI v4), some (jI v5)] (v.toList ++ [jL (M f 5), jR f]) M1 Q)) : wp kc (d + 1) 146 118 [some (jR f), some (jR p), some (jI v2), some (jI v3), some (jI v4), some (jI v5)] [] M Q :=
  (x_aldn c146_118 rfl (x_aldn c146_119 rfl (x_gfl c146_120 (kf_5 Hf) (x_aldn c146_123 rfl (x_aldn c146_124 rfl (x_ildn c146_125 rfl (wp_wk (l' := [some (jR f), some (jR p), some (jI v2), some (jI v3), some (jI v4), some (jI v5)]) ⟨rfl, ⟨rfl, ⟨rfl, ⟨rfl, ⟨rfl, ⟨rfl, trivial⟩⟩⟩⟩⟩⟩ (x_cv (As := [jR p, jI v3]) (st := [jL (M f 5), jR f]) c146_126 (clf Hf) kl156 rfl (Nat.le_of_ble_eq_true rfl) mx156 (Nat.le_refl _) H))))))))
theorem s146_129 {kc : List va_E} {d : Nat} {f p : Nat} {v2 v3 v4 v5 u0 u1 : Int} {M : fx_M} {Q : Option fx_V → fx_M → Prop} (Hf : fx_frm f) (Hp : fx_puz p) (H : ((fx_in64 u1) ∧ (fx_in64 u0)) ∧ wp kc (d + 1) 146 97 [some (jR f), some (jR p), some (jI v2), some (jI v3), some (jI v4), some (jI (v5 + 1))] [] (fx_up M f 5 (if u0 < u1 then (u0 : Int) else u1)) Q) : wp kc (d + 1) 146 129 [some (jR f), some (jR p), some (jI v2), some (jI v3), some (jI v4), some (jI v5)] [jL u0, jL u1, jR f] M Q :=
  (x_minl c146_129 n146_129 H.1.1 H.1.2 (Nat.le_of_ble_eq_true rfl) (x_pfl c146_132 (kf_5 Hf) (x_inc (l' := [some (jR f), some (jR p), some (jI v2), some (jI v3), some (jI v4), some (jI (v5 + 1))]) c146_135 rfl rfl (x_goto c146_138 (wp_wk (l' := [some (jR f), some (jR p), some (jI v2), some (jI v3), some (jI v4), some (jI (v5 + 1))]) ⟨rfl, ⟨rfl, ⟨rfl, ⟨rfl, ⟨rfl, ⟨rfl, trivial⟩⟩⟩⟩⟩⟩ H.2)))))
theorem s146 {kc : List va_E} {d : Nat} {f p : Nat} {M : fx_M} {Q : Option fx_V → fx_M → Prop} (Hf : fx_frm f) (Hp : fx_puz p) (H : wc kc d 147 [jR p] (fx_up (fx_up (fx_up M f 0 (M p 0)) f 1 (M p 1)) f 2 (M p 3)) (fun v M1 => wp kc (d + 1) 146 28 [some (jR f), some (jR p), none, none, none, none] (v.toList ++ []) M1 Q)) : wc kc (d + 1) 146 [jR f, jR p] M Q :=
  wc_of (wp_wk (l' := [some (jR f), some (jR p), none, none, none, none]) ⟨rfl, ⟨rfl, trivial⟩⟩ (s146_0 Hf Hp H))

/- PuzzleHouse$Form.renamings(LPuzzleHouse$Puzzle;)I -/
theorem c147_0 : fx_ci 147 0 = some (0, 1) := by decide +kernel
theorem c147_1 : fx_op 147 1 = some (.istore_n 1, 2, 1) := by decide +kernel
theorem c147_2 : fx_op 147 2 = some (.iload_n 1, 3, 2) := by decide +kernel
theorem c147_3 : fx_op 147 3 = some (.aload_n 0, 4, 3) := by decide +kernel
theorem c147_4 : fx_gf 147 4 = some (3, 4, 7) := by decide +kernel
theorem c147_7 : fx_op 147 7 = some (.if_icmp .ge 33, 10, 40) := by decide +kernel
theorem c147_40 : fx_ci 147 40 = some (1, 41) := by decide +kernel
theorem c147_41 : fx_op 147 41 = some (.istore_n 1, 42, 41) := by decide +kernel
theorem c147_42 : fx_ci 147 42 = some (2, 43) := by decide +kernel
theorem c147_43 : fx_op 147 43 = some (.istore_n 2, 44, 43) := by decide +kernel
theorem c147_10 : fx_op 147 10 = some (.aload_n 0, 11, 10) := by decide +kernel
theorem c147_11 : fx_gf 147 11 = some (3, 5, 14) := by decide +kernel
theorem c147_14 : fx_op 147 14 = some (.iload_n 1, 15, 14) := by decide +kernel
theorem c147_16 : fx_op 147 16 = some (.istore_n 2, 17, 16) := by decide +kernel
theorem c147_17 : fx_op 147 17 = some (.iload_n 2, 18, 17) := by decide +kernel
theorem c147_18 : fx_ci 147 18 = some (7, 20) := by decide +kernel
theorem c147_20 : fx_op 147 20 = some (.if_icmp .eq 14, 23, 34) := by decide +kernel
theorem c147_34 : fx_op 147 34 = some (.iinc 1 1, 37, 34) := by decide +kernel
theorem c147_23 : fx_op 147 23 = some (.iload_n 2, 24, 23) := by decide +kernel
theorem c147_24 : fx_op 147 24 = some (.ifCond .eq 10, 27, 34) := by decide +kernel
theorem c147_27 : fx_op 147 27 = some (.iload_n 2, 28, 27) := by decide +kernel
theorem c147_28 : fx_ci 147 28 = some (2, 29) := by decide +kernel
theorem c147_29 : fx_op 147 29 = some (.if_icmp .eq 5, 32, 34) := by decide +kernel
theorem c147_32 : fx_ci 147 32 = some (1, 33) := by decide +kernel
theorem c147_15 : fx_op 147 15 = some (.iaload, 16, 15) := by decide +kernel
theorem c147_37 : fx_op 147 37 = some (.goto (-35), 40, 2) := by decide +kernel
theorem c147_33 : fx_op 147 33 = some (.ireturn, 34, 33) := by decide +kernel
theorem c147_44 : fx_op 147 44 = some (.iload_n 2, 45, 44) := by decide +kernel
theorem c147_45 : fx_op 147 45 = some (.aload_n 0, 46, 45) := by decide +kernel
theorem c147_46 : fx_gf 147 46 = some (3, 3, 49) := by decide +kernel
theorem c147_49 : fx_op 147 49 = some (.if_icmp .gt 13, 52, 62) := by decide +kernel
theorem c147_52 : fx_op 147 52 = some (.iload_n 1, 53, 52) := by decide +kernel
theorem c147_53 : fx_op 147 53 = some (.iload_n 2, 54, 53) := by decide +kernel
theorem c147_54 : fx_op 147 54 = some (.imul, 55, 54) := by decide +kernel
theorem c147_55 : fx_op 147 55 = some (.istore_n 1, 56, 55) := by decide +kernel
theorem c147_56 : fx_op 147 56 = some (.iinc 2 1, 59, 56) := by decide +kernel
theorem c147_62 : fx_op 147 62 = some (.iload_n 1, 63, 62) := by decide +kernel
theorem c147_63 : fx_op 147 63 = some (.ireturn, 64, 63) := by decide +kernel
theorem c147_59 : fx_op 147 59 = some (.goto (-15), 62, 44) := by decide +kernel
theorem s147_0 {kc : List va_E} {d : Nat} {p : Nat} {M : fx_M} {Q : Option fx_V → fx_M → Prop} (Hp : fx_puz p) (H : wp kc (d + 1) 147 2 [some (jR p), some (jI 0), none] [] M Q) : wp kc (d + 1) 147 0 [some (jR p), none, none] [] M Q :=
  (x_ci c147_0 (x_istn (l' := [some (jR p), some (jI 0), none]) c147_1 rfl (wp_wk (l' := [some (jR p), some (jI 0), none]) ⟨rfl, ⟨rfl, trivial⟩⟩ H)))
theorem s147_2 {kc : List va_E} {d : Nat} {p : Nat} {v1 : Int} {M : fx_M} {Q : Option fx_V → fx_M → Prop} (Hp : fx_puz p) (H : ((fx_in32 v1) ∧ (fx_in32 (M p 4))) ∧ (M p 4 ≤ v1 → wp kc (d + 1) 147 44 [some (jR p), some (jI 1), some (jI 2)] [] M Q) ∧ (v1 < M p 4 → (((0 : Int) ≤ v1 ∧ v1 < 12)) ∧ ((fx_in32 (M (p + 1) v1))) ∧ (M (p + 1) v1 = 7 → wp kc (d + 1) 147 2 [some (jR p), some (jI (v1 + 1)), none] [] M Q) ∧ (M (p + 1) v1 ≠ 7 → ((fx_in32 (M (p + 1) v1))) ∧ (M (p + 1) v1 = 0 → wp kc (d + 1) 147 2 [some (jR p), some (jI (v1 + 1)), none] [] M Q) ∧ (M (p + 1) v1 ≠ 0 → ((fx_in32 (M (p + 1) v1))) ∧ (M (p + 1) v1 = 2 → wp kc (d + 1) 147 2 [some (jR p), some (jI (v1 + 1)), none] [] M Q) ∧ (M (p + 1) v1 ≠ 2 → Q (some (jI 1)) M))))) : wp kc (d + 1) 147 2 [some (jR p), some (jI v1), none] [] M Q :=
  (x_ildn c147_2 rfl (x_aldn c147_3 rfl (x_gfi c147_4 (kp_4 Hp) (x_cge c147_7 H.1.1 H.1.2 (fun h7 => (x_ci c147_40 (x_istn (l' := [some (jR p), some (jI 1), none]) c147_41 rfl (x_ci c147_42 (x_istn (l' := [some (jR p), some (jI 1), some (jI 2)]) c147_43 rfl (wp_wk (l' := [some (jR p), some (jI 1), some (jI 2)]) ⟨rfl, ⟨rfl, ⟨rfl, trivial⟩⟩⟩ (H.2.1 h7))))))) (fun h8 => (x_aldn c147_10 rfl (x_gfr c147_11 (kp_5 Hp) (x_ildn c147_14 rfl (x_iald c147_15 (ap_1 Hp) (H.2.2 h8).1 (by decide) (x_istn (l' := [some (jR p), some (jI v1), some (jI (M (p + 1) v1))]) c147_16 rfl (x_ildn c147_17 rfl (x_ci c147_18 (x_ceq c147_20 (H.2.2 h8).2.1 (by decide) (fun h5 => (x_inc (l' := [some (jR p), some (jI (v1 + 1)), some (jI (M (p + 1) v1))]) c147_34 rfl rfl (x_goto c147_37 (wp_wk (l' := [some (jR p), some (jI (v1 + 1)), none]) ⟨rfl, ⟨rfl, trivial⟩⟩ ((H.2.2 h8).2.2.1 h5))))) (fun h6 => (x_ildn c147_23 rfl (x_zeq c147_24 ((H.2.2 h8).2.2.2 h6).1 (fun h3 => (x_inc (l' := [some (jR p), some (jI (v1 + 1)), some (jI (M (p + 1) v1))]) c147_34 rfl rfl (x_goto c147_37 (wp_wk (l' := [some (jR p), some (jI (v1 + 1)), none]) ⟨rfl, ⟨rfl, trivial⟩⟩ (((H.2.2 h8).2.2.2 h6).2.1 h3))))) (fun h4 => (x_ildn c147_27 rfl (x_ci c147_28 (x_ceq c147_29 (((H.2.2 h8).2.2.2 h6).2.2 h4).1 (by decide) (fun h1 => (x_inc (l' := [some (jR p), some (jI (v1 + 1)), some (jI (M (p + 1) v1))]) c147_34 rfl rfl (x_goto c147_37 (wp_wk (l' := [some (jR p), some (jI (v1 + 1)), none]) ⟨rfl, ⟨rfl, trivial⟩⟩ ((((H.2.2 h8).2.2.2 h6).2.2 h4).2.1 h1))))) (fun h2 => (x_ci c147_32 (x_irt c147_33 r147 ((((H.2.2 h8).2.2.2 h6).2.2 h4).2.2 h2))))))))))))))))))))))))
theorem s147_44 {kc : List va_E} {d : Nat} {p : Nat} {v1 v2 : Int} {M : fx_M} {Q : Option fx_V → fx_M → Prop} (Hp : fx_puz p) (H : ((fx_in32 v2) ∧ (fx_in32 (M p 3))) ∧ (M p 3 < v2 → Q (some (jI v1)) M) ∧ (v2 ≤ M p 3 → wp kc (d + 1) 147 44 [some (jR p), some (jI (v1 * v2)), some (jI (v2 + 1))] [] M Q)) : wp kc (d + 1) 147 44 [some (jR p), some (jI v1), some (jI v2)] [] M Q :=
  (x_ildn c147_44 rfl (x_aldn c147_45 rfl (x_gfi c147_46 (kp_3 Hp) (x_cgt c147_49 H.1.1 H.1.2 (fun h1 => (x_ildn c147_62 rfl (x_irt c147_63 r147 (H.2.1 h1)))) (fun h2 => (x_ildn c147_52 rfl (x_ildn c147_53 rfl (x_imul c147_54 (x_istn (l' := [some (jR p), some (jI (v1 * v2)), some (jI v2)]) c147_55 rfl (x_inc (l' := [some (jR p), some (jI (v1 * v2)), some (jI (v2 + 1))]) c147_56 rfl rfl (x_goto c147_59 (wp_wk (l' := [some (jR p), some (jI (v1 * v2)), some (jI (v2 + 1))]) ⟨rfl, ⟨rfl, ⟨rfl, trivial⟩⟩⟩ (H.2.2 h2)))))))))))))
theorem s147 {kc : List va_E} {d : Nat} {p : Nat} {M : fx_M} {Q : Option fx_V → fx_M → Prop} (Hp : fx_puz p) (H : wp kc (d + 1) 147 2 [some (jR p), some (jI 0), none] [] M Q) : wc kc (d + 1) 147 [jR p] M Q :=
  wc_of (wp_wk (l' := [some (jR p), none, none]) ⟨rfl, trivial⟩ (s147_0 Hp H))

/- PuzzleHouse$Form.maps(LPuzzleHouse$Puzzle;)I -/
theorem c148_0 : fx_op 148 0 = some (.aload_n 0, 1, 0) := by decide +kernel
theorem c148_1 : fx_gf 148 1 = some (3, 0, 4) := by decide +kernel
theorem c148_4 : fx_op 148 4 = some (.aload_n 0, 5, 4) := by decide +kernel
theorem c148_5 : fx_gf 148 5 = some (3, 1, 8) := by decide +kernel
theorem c148_8 : fx_op 148 8 = some (.if_icmp .ne 8, 11, 16) := by decide +kernel
theorem c148_16 : fx_ci 148 16 = some (4, 17) := by decide +kernel
theorem c148_11 : fx_ci 148 11 = some (8, 13) := by decide +kernel
theorem c148_13 : fx_op 148 13 = some (.goto 4, 16, 17) := by decide +kernel
theorem c148_17 : fx_op 148 17 = some (.ireturn, 18, 17) := by decide +kernel
theorem s148_0 {kc : List va_E} {d : Nat} {p : Nat} {M : fx_M} {Q : Option fx_V → fx_M → Prop} (Hp : fx_puz p) (H : ((fx_in32 (M p 0))) ∧ ((fx_in32 (M p 1))) ∧ Q (some (jI (if M p 0 = M p 1 then (8 : Int) else 4))) M) : wp kc (d + 1) 148 0 [some (jR p)] [] M Q :=
  (x_aldn c148_0 rfl (x_gfi c148_1 (kp_0 Hp) (x_aldn c148_4 rfl (x_gfi c148_5 (kp_1 Hp) (have K : wp kc (d + 1) 148 17 [none] [jI (if M p 0 = M p 1 then (8 : Int) else 4)] M Q := (x_irt c148_17 r148 H.2.2); (x_cne c148_8 H.1 H.2.1 (fun (h1 : M p 0 ≠ M p 1) => (x_ci c148_16 (wp_wk (l' := [none]) trivial (by have K := K; first | (simp only [if_neg h1] at K ⊢; exact K) | (exfalso; omega))))) (fun (h2 : M p 0 = M p 1) => (x_ci c148_11 (x_goto c148_13 (wp_wk (l' := [none]) trivial (by have K := K; first | (simp only [if_pos h2] at K ⊢; exact K) | (exfalso; omega))))))))))))
theorem s148 {kc : List va_E} {d : Nat} {p : Nat} {M : fx_M} {Q : Option fx_V → fx_M → Prop} (Hp : fx_puz p) (H : ((fx_in32 (M p 0))) ∧ ((fx_in32 (M p 1))) ∧ Q (some (jI (if M p 0 = M p 1 then (8 : Int) else 4))) M) : wc kc (d + 1) 148 [jR p] M Q :=
  wc_of (wp_wk (l' := [some (jR p)]) ⟨rfl, trivial⟩ (s148_0 Hp H))

/- PuzzleHouse$Form.orderRules(LPuzzleHouse$Puzzle;I)V -/
theorem c149_0 : fx_op 149 0 = some (.aload_n 0, 1, 0) := by decide +kernel
theorem c149_1 : fx_ci 149 1 = some (0, 2) := by decide +kernel
theorem c149_2 : fx_pf 149 2 = some (7, 6, 0, 5) := by decide +kernel
theorem c149_5 : fx_ci 149 5 = some (0, 6) := by decide +kernel
theorem c149_6 : fx_op 149 6 = some (.istore_n 3, 7, 6) := by decide +kernel
theorem c149_7 : fx_op 149 7 = some (.iload_n 3, 8, 7) := by decide +kernel
theorem c149_8 : fx_op 149 8 = some (.aload_n 1, 9, 8) := by decide +kernel
theorem c149_9 : fx_gf 149 9 = some (3, 4, 12) := by decide +kernel
theorem c149_12 : fx_op 149 12 = some (.if_icmp .ge 123, 15, 135) := by decide +kernel
theorem c149_15 : fx_op 149 15 = some (.aload_n 0, 16, 15) := by decide +kernel
theorem c149_16 : fx_op 149 16 = some (.aload_n 1, 17, 16) := by decide +kernel
theorem c149_17 : fx_op 149 17 = some (.iload_n 2, 18, 17) := by decide +kernel
theorem c149_18 : fx_op 149 18 = some (.iload_n 3, 19, 18) := by decide +kernel
theorem c149_135 : fx_op 149 135 = some (.return_, 136, 135) := by decide +kernel
theorem c149_19 : fx_ca 149 19 = some (150, 4, 2, 22) := by decide +kernel
theorem c149_22 : fx_op 149 22 = some (.istore 4, 24, 22) := by decide +kernel
theorem c149_24 : fx_ci 149 24 = some (0, 25) := by decide +kernel
theorem c149_25 : fx_op 149 25 = some (.istore 5, 27, 25) := by decide +kernel
theorem c149_27 : fx_op 149 27 = some (.iload 5, 29, 27) := by decide +kernel
theorem c149_29 : fx_op 149 29 = some (.aload_n 0, 30, 29) := by decide +kernel
theorem c149_30 : fx_gf 149 30 = some (7, 6, 33) := by decide +kernel
theorem c149_33 : fx_op 149 33 = some (.if_icmp .ge 21, 36, 54) := by decide +kernel
theorem c149_36 : fx_op 149 36 = some (.aload_n 0, 37, 36) := by decide +kernel
theorem c149_37 : fx_gf 149 37 = some (7, 7, 40) := by decide +kernel
theorem c149_40 : fx_op 149 40 = some (.iload 5, 42, 40) := by decide +kernel
theorem c149_42 : fx_op 149 42 = some (.iaload, 43, 42) := by decide +kernel
theorem c149_43 : fx_op 149 43 = some (.iload 4, 45, 43) := by decide +kernel
theorem c149_45 : fx_op 149 45 = some (.if_icmp .ge 9, 48, 54) := by decide +kernel
theorem c149_48 : fx_op 149 48 = some (.iinc 5 1, 51, 48) := by decide +kernel
theorem c149_54 : fx_op 149 54 = some (.iload 5, 56, 54) := by decide +kernel
theorem c149_56 : fx_op 149 56 = some (.aload_n 0, 57, 56) := by decide +kernel
theorem c149_57 : fx_gf 149 57 = some (7, 6, 60) := by decide +kernel
theorem c149_60 : fx_op 149 60 = some (.if_icmp .eq 15, 63, 75) := by decide +kernel
theorem c149_75 : fx_op 149 75 = some (.aload_n 0, 76, 75) := by decide +kernel
theorem c149_76 : fx_gf 149 76 = some (7, 6, 79) := by decide +kernel
theorem c149_79 : fx_op 149 79 = some (.istore 6, 81, 79) := by decide +kernel
theorem c149_63 : fx_op 149 63 = some (.aload_n 0, 64, 63) := by decide +kernel
theorem c149_64 : fx_gf 149 64 = some (7, 7, 67) := by decide +kernel
theorem c149_67 : fx_op 149 67 = some (.iload 5, 69, 67) := by decide +kernel
theorem c149_70 : fx_op 149 70 = some (.iload 4, 72, 70) := by decide +kernel
theorem c149_72 : fx_op 149 72 = some (.if_icmp .eq 57, 75, 129) := by decide +kernel
theorem c149_129 : fx_op 149 129 = some (.iinc 3 1, 132, 129) := by decide +kernel
theorem c149_69 : fx_op 149 69 = some (.iaload, 70, 69) := by decide +kernel
theorem c149_132 : fx_op 149 132 = some (.goto (-125), 135, 7) := by decide +kernel
theorem c149_51 : fx_op 149 51 = some (.goto (-24), 54, 27) := by decide +kernel
theorem c149_81 : fx_op 149 81 = some (.iload 6, 83, 81) := by decide +kernel
theorem c149_83 : fx_op 149 83 = some (.iload 5, 85, 83) := by decide +kernel
theorem c149_85 : fx_op 149 85 = some (.if_icmp .le 25, 88, 110) := by decide +kernel
theorem c149_88 : fx_op 149 88 = some (.aload_n 0, 89, 88) := by decide +kernel
theorem c149_89 : fx_gf 149 89 = some (7, 7, 92) := by decide +kernel
theorem c149_92 : fx_op 149 92 = some (.iload 6, 94, 92) := by decide +kernel
theorem c149_94 : fx_op 149 94 = some (.aload_n 0, 95, 94) := by decide +kernel
theorem c149_95 : fx_gf 149 95 = some (7, 7, 98) := by decide +kernel
theorem c149_98 : fx_op 149 98 = some (.iload 6, 100, 98) := by decide +kernel
theorem c149_100 : fx_ci 149 100 = some (1, 101) := by decide +kernel
theorem c149_101 : fx_op 149 101 = some (.isub, 102, 101) := by decide +kernel
theorem c149_102 : fx_op 149 102 = some (.iaload, 103, 102) := by decide +kernel
theorem c149_110 : fx_op 149 110 = some (.aload_n 0, 111, 110) := by decide +kernel
theorem c149_111 : fx_gf 149 111 = some (7, 7, 114) := by decide +kernel
theorem c149_114 : fx_op 149 114 = some (.iload 5, 116, 114) := by decide +kernel
theorem c149_116 : fx_op 149 116 = some (.iload 4, 118, 116) := by decide +kernel
theorem c149_119 : fx_op 149 119 = some (.aload_n 0, 120, 119) := by decide +kernel
theorem c149_120 : fx_op 149 120 = some (.dup, 121, 120) := by decide +kernel
theorem c149_121 : fx_gf 149 121 = some (7, 6, 124) := by decide +kernel
theorem c149_124 : fx_ci 149 124 = some (1, 125) := by decide +kernel
theorem c149_125 : fx_op 149 125 = some (.iadd, 126, 125) := by decide +kernel
theorem c149_126 : fx_pf 149 126 = some (7, 6, 0, 129) := by decide +kernel
theorem c149_104 : fx_op 149 104 = some (.iinc 6 (-1), 107, 104) := by decide +kernel
theorem c149_118 : fx_op 149 118 = some (.iastore, 119, 118) := by decide +kernel
theorem c149_103 : fx_op 149 103 = some (.iastore, 104, 103) := by decide +kernel
theorem c149_107 : fx_op 149 107 = some (.goto (-26), 110, 81) := by decide +kernel
theorem s149_0 {kc : List va_E} {d : Nat} {f p : Nat} {x2 : Int} {M : fx_M} {Q : Option fx_V → fx_M → Prop} (Hf : fx_frm f) (Hp : fx_puz p) (H : wp kc (d + 1) 149 7 [some (jR f), some (jR p), some (jI x2), some (jI 0), none, none, none] [] (fx_up M f 6 0) Q) : wp kc (d + 1) 149 0 [some (jR f), some (jR p), some (jI x2), none, none, none, none] [] M Q :=
  (x_aldn c149_0 rfl (x_ci c149_1 (x_pfi c149_2 (kf_6 Hf) (x_ci c149_5 (x_istn (l' := [some (jR f), some (jR p), some (jI x2), some (jI 0), none, none, none]) c149_6 rfl (wp_wk (l' := [some (jR f), some (jR p), some (jI x2), some (jI 0), none, none, none]) ⟨rfl, ⟨rfl, ⟨rfl, ⟨rfl, trivial⟩⟩⟩⟩ H))))))
theorem s149_7 {kc : List va_E} {d : Nat} {f p : Nat} {v2 v3 : Int} {M : fx_M} {Q : Option fx_V → fx_M → Prop} (Hf : fx_frm f) (Hp : fx_puz p) (H : ((fx_in32 v3) ∧ (fx_in32 (M p 4))) ∧ (M p 4 ≤ v3 → Q none M) ∧ (v3 < M p 4 → wc kc d 150 [jR f, jR p, jI v2, jI v3] M (fun v M1 => wp kc (d + 1) 149 22 [some (jR f), some (jR p), some (jI v2), some (jI v3), none, none, none] (v.toList ++ []) M1 Q))) : wp kc (d + 1) 149 7 [some (jR f), some (jR p), some (jI v2), some (jI v3), none, none, none] [] M Q :=
  (x_ildn c149_7 rfl (x_aldn c149_8 rfl (x_gfi c149_9 (kp_4 Hp) (x_cge c149_12 H.1.1 H.1.2 (fun h1 => (x_vr c149_135 r149 (H.2.1 h1))) (fun h2 => (x_aldn c149_15 rfl (x_aldn c149_16 rfl (x_ildn c149_17 rfl (x_ildn c149_18 rfl (wp_wk (l' := [some (jR f), some (jR p), some (jI v2), some (jI v3), none, none, none]) ⟨rfl, ⟨rfl, ⟨rfl, ⟨rfl, trivial⟩⟩⟩⟩ (x_cv (As := [jR p, jI v2, jI v3]) (st := []) c149_19 (clf Hf) kl150 rfl (Nat.le_of_ble_eq_true rfl) mx150 (Nat.le_refl _) (H.2.2 h2))))))))))))
theorem s149_22 {kc : List va_E} {d : Nat} {f p : Nat} {v2 v3 u0 : Int} {M : fx_M} {Q : Option fx_V → fx_M → Prop} (Hf : fx_frm f) (Hp : fx_puz p) (H : wp kc (d + 1) 149 27 [some (jR f), some (jR p), some (jI v2), some (jI v3), some (jI u0), some (jI 0), none] [] M Q) : wp kc (d + 1) 149 22 [some (jR f), some (jR p), some (jI v2), some (jI v3), none, none, none] [jI u0] M Q :=
  (x_ist (l' := [some (jR f), some (jR p), some (jI v2), some (jI v3), some (jI u0), none, none]) c149_22 rfl (x_ci c149_24 (x_ist (l' := [some (jR f), some (jR p), some (jI v2), some (jI v3), some (jI u0), some (jI 0), none]) c149_25 rfl (wp_wk (l' := [some (jR f), some (jR p), some (jI v2), some (jI v3), some (jI u0), some (jI 0), none]) ⟨rfl, ⟨rfl, ⟨rfl, ⟨rfl, ⟨rfl, ⟨rfl, trivial⟩⟩⟩⟩⟩⟩ H))))
theorem s149_27 {kc : List va_E} {d : Nat} {f p : Nat} {v2 v3 v4 v5 : Int} {M : fx_M} {Q : Option fx_V → fx_M → Prop} (Hf : fx_frm f) (Hp : fx_puz p) (H : ((fx_in32 v5) ∧ (fx_in32 (M f 6))) ∧ (M f 6 ≤ v5 → ((fx_in32 v5) ∧ (fx_in32 (M f 6))) ∧ (v5 = M f 6 → wp kc (d + 1) 149 81 [some (jR f), some (jR p), some (jI v2), some (jI v3), some (jI v4), some (jI v5), some (jI (M f 6))] [] M Q) ∧ (v5 ≠ M f 6 → (((0 : Int) ≤ v5 ∧ v5 < 12)) ∧ ((fx_in32 (M (f + 2) v5)) ∧ (fx_in32 v4)) ∧ (M (f + 2) v5 = v4 → wp kc (d + 1) 149 7 [some (jR f), some (jR p), some (jI v2), some (jI (v3 + 1)), none, none, none] [] M Q) ∧ (M (f + 2) v5 ≠ v4 → wp kc (d + 1) 149 81 [some (jR f), some (jR p), some (jI v2), some (jI v3), some (jI v4), some (jI v5), some (jI (M f 6))] [] M Q))) ∧ (v5 < M f 6 → (((0 : Int) ≤ v5 ∧ v5 < 12)) ∧ ((fx_in32 (M (f + 2) v5)) ∧ (fx_in32 v4)) ∧ (v4 ≤ M (f + 2) v5 → ((fx_in32 v5) ∧ (fx_in32 (M f 6))) ∧ (v5 = M f 6 → wp kc (d + 1) 149 81 [some (jR f), some (jR p), some (jI v2), some (jI v3), some (jI v4), some (jI v5), some (jI (M f 6))] [] M Q) ∧ (v5 ≠ M f 6 → (((0 : Int) ≤ v5 ∧ v5 < 12)) ∧ ((fx_in32 (M (f + 2) v5)) ∧ (fx_in32 v4)) ∧ (M (f + 2) v5 = v4 → wp kc (d + 1) 149 7 [some (jR f), some (jR p), some (jI v2), some (jI (v3 + 1)), none, none, none] [] M Q) ∧ (M (f + 2) v5 ≠ v4 → wp kc (d + 1) 149 81 [some (jR f), some (jR p), some (jI v2), some (jI v3), some (jI v4), some (jI v5), some (jI (M f 6))] [] M Q))) ∧ (M (f + 2) v5 < v4 → wp kc (d + 1) 149 27 [some (jR f), some (jR p), some (jI v2), some (jI v3), some (jI v4), some (jI (v5 + 1)), none] [] M Q))) : wp kc (d + 1) 149 27 [some (jR f), some (jR p), some (jI v2), some (jI v3), some (jI v4), some (jI v5), none] [] M Q :=
  (x_ild c149_27 rfl (x_aldn c149_29 rfl (x_gfi c149_30 (kf_6 Hf) (x_cge c149_33 H.1.1 H.1.2 (fun h11 => (x_ild c149_54 rfl (x_aldn c149_56 rfl (x_gfi c149_57 (kf_6 Hf) (x_ceq c149_60 (H.2.1 h11).1.1 (H.2.1 h11).1.2 (fun h3 => (x_aldn c149_75 rfl (x_gfi c149_76 (kf_6 Hf) (x_ist (l' := [some (jR f), some (jR p), some (jI v2), some (jI v3), some (jI v4), some (jI v5), some (jI (M f 6))]) c149_79 rfl (wp_wk (l' := [some (jR f), some (jR p), some (jI v2), some (jI v3), some (jI v4), some (jI v5), some (jI (M f 6))]) ⟨rfl, ⟨rfl, ⟨rfl, ⟨rfl, ⟨rfl, ⟨rfl, ⟨rfl, trivial⟩⟩⟩⟩⟩⟩⟩ ((H.2.1 h11).2.1 h3)))))) (fun h4 => (x_aldn c149_63 rfl (x_gfr c149_64 (kf_7 Hf) (x_ild c149_67 rfl (x_iald c149_69 (af_2 Hf) ((H.2.1 h11).2.2 h4).1 (by decide) (x_ild c149_70 rfl (x_ceq c149_72 ((H.2.1 h11).2.2 h4).2.1.1 ((H.2.1 h11).2.2 h4).2.1.2 (fun h1 => (x_inc (l' := [some (jR f), some (jR p), some (jI v2), some (jI (v3 + 1)), some (jI v4), some (jI v5), none]) c149_129 rfl rfl (x_goto c149_132 (wp_wk (l' := [some (jR f), some (jR p), some (jI v2), some (jI (v3 + 1)), none, none, none]) ⟨rfl, ⟨rfl, ⟨rfl, ⟨rfl, trivial⟩⟩⟩⟩ (((H.2.1 h11).2.2 h4).2.2.1 h1))))) (fun h2 => (x_aldn c149_75 rfl (x_gfi c149_76 (kf_6 Hf) (x_ist (l' := [some (jR f), some (jR p), some (jI v2), some (jI v3), some (jI v4), some (jI v5), some (jI (M f 6))]) c149_79 rfl (wp_wk (l' := [some (jR f), some (jR p), some (jI v2), some (jI v3), some (jI v4), some (jI v5), some (jI (M f 6))]) ⟨rfl, ⟨rfl, ⟨rfl, ⟨rfl, ⟨rfl, ⟨rfl, ⟨rfl, trivial⟩⟩⟩⟩⟩⟩⟩ (((H.2.1 h11).2.2 h4).2.2.2 h2)))))))))))))))))) (fun h12 => (x_aldn c149_36 rfl (x_gfr c149_37 (kf_7 Hf) (x_ild c149_40 rfl (x_iald c149_42 (af_2 Hf) (H.2.2 h12).1 (by decide) (x_ild c149_43 rfl (x_cge c149_45 (H.2.2 h12).2.1.1 (H.2.2 h12).2.1.2 (fun h9 => (x_ild c149_54 rfl (x_aldn c149_56 rfl (x_gfi c149_57 (kf_6 Hf) (x_ceq c149_60 ((H.2.2 h12).2.2.1 h9).1.1 ((H.2.2 h12).2.2.1 h9).1.2 (fun h7 => (x_aldn c149_75 rfl (x_gfi c149_76 (kf_6 Hf) (x_ist (l' := [some (jR f), some (jR p), some (jI v2), some (jI v3), some (jI v4), some (jI v5), some (jI (M f 6))]) c149_79 rfl (wp_wk (l' := [some (jR f), some (jR p), some (jI v2), some (jI v3), some (jI v4), some (jI v5), some (jI (M f 6))]) ⟨rfl, ⟨rfl, ⟨rfl, ⟨rfl, ⟨rfl, ⟨rfl, ⟨rfl, trivial⟩⟩⟩⟩⟩⟩⟩ (((H.2.2 h12).2.2.1 h9).2.1 h7)))))) (fun h8 => (x_aldn c149_63 rfl (x_gfr c149_64 (kf_7 Hf) (x_ild c149_67 rfl (x_iald c149_69 (af_2 Hf) (((H.2.2 h12).2.2.1 h9).2.2 h8).1 (by decide) (x_ild c149_70 rfl (x_ceq c149_72 (((H.2.2 h12).2.2.1 h9).2.2 h8).2.1.1 (((H.2.2 h12).2.2.1 h9).2.2 h8).2.1.2 (fun h5 => (x_inc (l' := [some (jR f), some (jR p), some (jI v2), some (jI (v3 + 1)), some (jI v4), some (jI v5), none]) c149_129 rfl rfl (x_goto c149_132 (wp_wk (l' := [some (jR f), some (jR p), some (jI v2), some (jI (v3 + 1)), none, none, none]) ⟨rfl, ⟨rfl, ⟨rfl, ⟨rfl, trivial⟩⟩⟩⟩ ((((H.2.2 h12).2.2.1 h9).2.2 h8).2.2.1 h5))))) (fun h6 => (x_aldn c149_75 rfl (x_gfi c149_76 (kf_6 Hf) (x_ist (l' := [some (jR f), some (jR p), some (jI v2), some (jI v3), some (jI v4), some (jI v5), some (jI (M f 6))]) c149_79 rfl (wp_wk (l' := [some (jR f), some (jR p), some (jI v2), some (jI v3), some (jI v4), some (jI v5), some (jI (M f 6))]) ⟨rfl, ⟨rfl, ⟨rfl, ⟨rfl, ⟨rfl, ⟨rfl, ⟨rfl, trivial⟩⟩⟩⟩⟩⟩⟩ ((((H.2.2 h12).2.2.1 h9).2.2 h8).2.2.2 h6)))))))))))))))))) (fun h10 => (x_inc (l' := [some (jR f), some (jR p), some (jI v2), some (jI v3), some (jI v4), some (jI (v5 + 1)), none]) c149_48 rfl rfl (x_goto c149_51 (wp_wk (l' := [some (jR f), some (jR p), some (jI v2), some (jI v3), some (jI v4), some (jI (v5 + 1)), none]) ⟨rfl, ⟨rfl, ⟨rfl, ⟨rfl, ⟨rfl, ⟨rfl, trivial⟩⟩⟩⟩⟩⟩ ((H.2.2 h12).2.2.2 h10))))))))))))))))
theorem s149_81 {kc : List va_E} {d : Nat} {f p : Nat} {v2 v3 v4 v5 v6 : Int} {M : fx_M} {Q : Option fx_V → fx_M → Prop} (Hf : fx_frm f) (Hp : fx_puz p) (H : ((fx_in32 v6) ∧ (fx_in32 v5)) ∧ (v6 ≤ v5 → (((0 : Int) ≤ v5 ∧ v5 < 12)) ∧ wp kc (d + 1) 149 7 [some (jR f), some (jR p), some (jI v2), some (jI (v3 + 1)), none, none, none] [] (fx_up (fx_up M (f + 2) v5 v4) f 6 ((M f 6) + 1)) Q) ∧ (v5 < v6 → (((0 : Int) ≤ v6 - 1 ∧ v6 - 1 < 12)) ∧ (((0 : Int) ≤ v6 ∧ v6 < 12)) ∧ wp kc (d + 1) 149 81 [some (jR f), some (jR p), some (jI v2), some (jI v3), some (jI v4), some (jI v5), some (jI (v6 + (-1)))] [] (fx_up M (f + 2) v6 (M (f + 2) (v6 - 1))) Q)) : wp kc (d + 1) 149 81 [some (jR f), some (jR p), some (jI v2), some (jI v3), some (jI v4), some (jI v5), some (jI v6)] [] M Q :=
  (x_ild c149_81 rfl (x_ild c149_83 rfl (x_cle c149_85 H.1.1 H.1.2 (fun h1 => (x_aldn c149_110 rfl (x_gfr c149_111 (kf_7 Hf) (x_ild c149_114 rfl (x_ild c149_116 rfl (x_iast c149_118 (af_2 Hf) (H.2.1 h1).1 (by decide) (x_aldn c149_119 rfl (x_dupr c149_120 (x_gfi c149_121 (kf_6 Hf) (wp_vI (fx_upA (by omega)) (x_ci c149_124 (x_iadd c149_125 (x_pfi c149_126 (kf_6 Hf) (x_inc (l' := [some (jR f), some (jR p), some (jI v2), some (jI (v3 + 1)), some (jI v4), some (jI v5), some (jI v6)]) c149_129 rfl rfl (x_goto c149_132 (wp_wk (l' := [some (jR f), some (jR p), some (jI v2), some (jI (v3 + 1)), none, none, none]) ⟨rfl, ⟨rfl, ⟨rfl, ⟨rfl, trivial⟩⟩⟩⟩ (H.2.1 h1).2)))))))))))))))) (fun h2 => (x_aldn c149_88 rfl (x_gfr c149_89 (kf_7 Hf) (x_ild c149_92 rfl (x_aldn c149_94 rfl (x_gfr c149_95 (kf_7 Hf) (x_ild c149_98 rfl (x_ci c149_100 (x_isub c149_101 (x_iald c149_102 (af_2 Hf) (H.2.2 h2).1 (by decide) (x_iast c149_103 (af_2 Hf) (H.2.2 h2).2.1 (by decide) (x_inc (l' := [some (jR f), some (jR p), some (jI v2), some (jI v3), some (jI v4), some (jI v5), some (jI (v6 + (-1)))]) c149_104 rfl rfl (x_goto c149_107 (wp_wk (l' := [some (jR f), some (jR p), some (jI v2), some (jI v3), some (jI v4), some (jI v5), some (jI (v6 + (-1)))]) ⟨rfl, ⟨rfl, ⟨rfl, ⟨rfl, ⟨rfl, ⟨rfl, ⟨rfl, trivial⟩⟩⟩⟩⟩⟩⟩ (H.2.2 h2).2.2)))))))))))))))))
theorem s149 {kc : List va_E} {d : Nat} {f p : Nat} {x2 : Int} {M : fx_M} {Q : Option fx_V → fx_M → Prop} (Hf : fx_frm f) (Hp : fx_puz p) (H : wp kc (d + 1) 149 7 [some (jR f), some (jR p), some (jI x2), some (jI 0), none, none, none] [] (fx_up M f 6 0) Q) : wc kc (d + 1) 149 [jR f, jR p, jI x2] M Q :=
  wc_of (wp_wk (l' := [some (jR f), some (jR p), some (jI x2), none, none, none, none]) ⟨rfl, ⟨rfl, ⟨rfl, trivial⟩⟩⟩ (s149_0 Hf Hp H))

/- PuzzleHouse$Form.keyOf(LPuzzleHouse$Puzzle;II)I -/
theorem c150_0 : fx_op 150 0 = some (.aload_n 1, 1, 0) := by decide +kernel
theorem c150_1 : fx_gf 150 1 = some (3, 5, 4) := by decide +kernel
theorem c150_4 : fx_op 150 4 = some (.iload_n 3, 5, 4) := by decide +kernel
theorem c150_6 : fx_op 150 6 = some (.istore 4, 8, 6) := by decide +kernel
theorem c150_8 : fx_op 150 8 = some (.aload_n 1, 9, 8) := by decide +kernel
theorem c150_9 : fx_gf 150 9 = some (3, 6, 12) := by decide +kernel
theorem c150_12 : fx_op 150 12 = some (.iload_n 3, 13, 12) := by decide +kernel
theorem c150_14 : fx_op 150 14 = some (.istore 5, 16, 14) := by decide +kernel
theorem c150_16 : fx_op 150 16 = some (.iload 5, 18, 16) := by decide +kernel
theorem c150_18 : fx_ci 150 18 = some (10, 20) := by decide +kernel
theorem c150_20 : fx_op 150 20 = some (.if_icmp .ge 10, 23, 30) := by decide +kernel
theorem c150_30 : fx_op 150 30 = some (.iload 5, 32, 30) := by decide +kernel
theorem c150_32 : fx_ci 150 32 = some (10, 34) := by decide +kernel
theorem c150_34 : fx_op 150 34 = some (.idiv, 35, 34) := by decide +kernel
theorem c150_35 : fx_ci 150 35 = some (4, 36) := by decide +kernel
theorem c150_36 : fx_op 150 36 = some (.ishl, 37, 36) := by decide +kernel
theorem c150_37 : fx_op 150 37 = some (.iload 5, 39, 37) := by decide +kernel
theorem c150_39 : fx_ci 150 39 = some (10, 41) := by decide +kernel
theorem c150_41 : fx_op 150 41 = some (.irem, 42, 41) := by decide +kernel
theorem c150_42 : fx_ci 150 42 = some (1, 43) := by decide +kernel
theorem c150_43 : fx_op 150 43 = some (.iadd, 44, 43) := by decide +kernel
theorem c150_44 : fx_op 150 44 = some (.ior, 45, 44) := by decide +kernel
theorem c150_23 : fx_op 150 23 = some (.iload 5, 25, 23) := by decide +kernel
theorem c150_25 : fx_ci 150 25 = some (4, 26) := by decide +kernel
theorem c150_26 : fx_op 150 26 = some (.ishl, 27, 26) := by decide +kernel
theorem c150_27 : fx_op 150 27 = some (.goto 18, 30, 45) := by decide +kernel
theorem c150_45 : fx_op 150 45 = some (.istore 6, 47, 45) := by decide +kernel
theorem c150_47 : fx_ci 150 47 = some (0, 48) := by decide +kernel
theorem c150_48 : fx_op 150 48 = some (.istore 7, 50, 48) := by decide +kernel
theorem c150_50 : fx_ci 150 50 = some (0, 51) := by decide +kernel
theorem c150_51 : fx_op 150 51 = some (.istore 8, 53, 51) := by decide +kernel
theorem c150_53 : fx_op 150 53 = some (.aload_n 1, 54, 53) := by decide +kernel
theorem c150_54 : fx_gf 150 54 = some (3, 7, 57) := by decide +kernel
theorem c150_57 : fx_op 150 57 = some (.iload_n 3, 58, 57) := by decide +kernel
theorem c150_59 : fx_op 150 59 = some (.istore 9, 61, 59) := by decide +kernel
theorem c150_61 : fx_ci 150 61 = some (0, 62) := by decide +kernel
theorem c150_62 : fx_op 150 62 = some (.istore 10, 64, 62) := by decide +kernel
theorem c150_5 : fx_op 150 5 = some (.iaload, 6, 5) := by decide +kernel
theorem c150_13 : fx_op 150 13 = some (.iaload, 14, 13) := by decide +kernel
theorem c150_58 : fx_op 150 58 = some (.iaload, 59, 58) := by decide +kernel
theorem c150_64 : fx_op 150 64 = some (.iload 10, 66, 64) := by decide +kernel
theorem c150_66 : fx_op 150 66 = some (.iload 9, 68, 66) := by decide +kernel
theorem c150_68 : fx_op 150 68 = some (.if_icmp .ge 79, 71, 147) := by decide +kernel
theorem c150_71 : fx_op 150 71 = some (.aload_n 1, 72, 71) := by decide +kernel
theorem c150_72 : fx_op 150 72 = some (.iload_n 2, 73, 72) := by decide +kernel
theorem c150_73 : fx_op 150 73 = some (.aload_n 1, 74, 73) := by decide +kernel
theorem c150_74 : fx_gf 150 74 = some (3, 8, 77) := by decide +kernel
theorem c150_77 : fx_ci 150 77 = some (4, 78) := by decide +kernel
theorem c150_78 : fx_op 150 78 = some (.iload_n 3, 79, 78) := by decide +kernel
theorem c150_79 : fx_op 150 79 = some (.imul, 80, 79) := by decide +kernel
theorem c150_80 : fx_op 150 80 = some (.iload 10, 82, 80) := by decide +kernel
theorem c150_82 : fx_op 150 82 = some (.iadd, 83, 82) := by decide +kernel
theorem c150_83 : fx_op 150 83 = some (.iaload, 84, 83) := by decide +kernel
theorem c150_147 : fx_ci 150 147 = some (0, 148) := by decide +kernel
theorem c150_148 : fx_op 150 148 = some (.istore 10, 150, 148) := by decide +kernel
theorem c150_84 : fx_ca 150 84 = some (151, 3, 0, 87) := by decide +kernel
theorem c150_150 : fx_op 150 150 = some (.iload 10, 152, 150) := by decide +kernel
theorem c150_152 : fx_ci 150 152 = some (9, 154) := by decide +kernel
theorem c150_154 : fx_op 150 154 = some (.if_icmp .ge 35, 157, 189) := by decide +kernel
theorem c150_157 : fx_op 150 157 = some (.iload 7, 159, 157) := by decide +kernel
theorem c150_159 : fx_op 150 159 = some (.iload 10, 161, 159) := by decide +kernel
theorem c150_161 : fx_op 150 161 = some (.ishr, 162, 161) := by decide +kernel
theorem c150_162 : fx_ci 150 162 = some (1, 163) := by decide +kernel
theorem c150_163 : fx_op 150 163 = some (.iand, 164, 163) := by decide +kernel
theorem c150_164 : fx_op 150 164 = some (.ifCond .eq 15, 167, 179) := by decide +kernel
theorem c150_179 : fx_op 150 179 = some (.iload 8, 181, 179) := by decide +kernel
theorem c150_181 : fx_op 150 181 = some (.istore 8, 183, 181) := by decide +kernel
theorem c150_183 : fx_op 150 183 = some (.iinc 10 1, 186, 183) := by decide +kernel
theorem c150_189 : fx_op 150 189 = some (.iload 4, 191, 189) := by decide +kernel
theorem c150_191 : fx_ci 150 191 = some (24, 193) := by decide +kernel
theorem c150_193 : fx_op 150 193 = some (.ishl, 194, 193) := by decide +kernel
theorem c150_194 : fx_op 150 194 = some (.iload 6, 196, 194) := by decide +kernel
theorem c150_196 : fx_ci 150 196 = some (16, 198) := by decide +kernel
theorem c150_198 : fx_op 150 198 = some (.ishl, 199, 198) := by decide +kernel
theorem c150_199 : fx_op 150 199 = some (.ior, 200, 199) := by decide +kernel
theorem c150_200 : fx_op 150 200 = some (.iload 8, 202, 200) := by decide +kernel
theorem c150_202 : fx_ci 150 202 = some (16, 204) := by decide +kernel
theorem c150_204 : fx_ci 150 204 = some (4, 205) := by decide +kernel
theorem c150_205 : fx_op 150 205 = some (.iload 9, 207, 205) := by decide +kernel
theorem c150_207 : fx_op 150 207 = some (.imul, 208, 207) := by decide +kernel
theorem c150_208 : fx_op 150 208 = some (.isub, 209, 208) := by decide +kernel
theorem c150_209 : fx_op 150 209 = some (.ishl, 210, 209) := by decide +kernel
theorem c150_210 : fx_op 150 210 = some (.ior, 211, 210) := by decide +kernel
theorem c150_167 : fx_op 150 167 = some (.iload 8, 169, 167) := by decide +kernel
theorem c150_169 : fx_ci 150 169 = some (4, 170) := by decide +kernel
theorem c150_170 : fx_op 150 170 = some (.ishl, 171, 170) := by decide +kernel
theorem c150_171 : fx_op 150 171 = some (.iload 10, 173, 171) := by decide +kernel
theorem c150_173 : fx_ci 150 173 = some (1, 174) := by decide +kernel
theorem c150_174 : fx_op 150 174 = some (.iadd, 175, 174) := by decide +kernel
theorem c150_175 : fx_op 150 175 = some (.ior, 176, 175) := by decide +kernel
theorem c150_176 : fx_op 150 176 = some (.goto 5, 179, 181) := by decide +kernel
theorem c150_211 : fx_op 150 211 = some (.ireturn, 212, 211) := by decide +kernel
theorem c150_186 : fx_op 150 186 = some (.goto (-36), 189, 150) := by decide +kernel
theorem c150_87 : fx_op 150 87 = some (.istore 11, 89, 87) := by decide +kernel
theorem c150_89 : fx_op 150 89 = some (.iload 4, 91, 89) := by decide +kernel
theorem c150_91 : fx_ci 150 91 = some (4, 92) := by decide +kernel
theorem c150_92 : fx_op 150 92 = some (.if_icmp .eq 26, 95, 118) := by decide +kernel
theorem c150_118 : fx_op 150 118 = some (.iload 8, 120, 118) := by decide +kernel
theorem c150_120 : fx_ci 150 120 = some (4, 121) := by decide +kernel
theorem c150_121 : fx_op 150 121 = some (.ishl, 122, 121) := by decide +kernel
theorem c150_122 : fx_op 150 122 = some (.iload 11, 124, 122) := by decide +kernel
theorem c150_124 : fx_ci 150 124 = some (1, 125) := by decide +kernel
theorem c150_125 : fx_op 150 125 = some (.iadd, 126, 125) := by decide +kernel
theorem c150_126 : fx_op 150 126 = some (.ior, 127, 126) := by decide +kernel
theorem c150_127 : fx_op 150 127 = some (.istore 8, 129, 127) := by decide +kernel
theorem c150_129 : fx_op 150 129 = some (.goto 12, 132, 141) := by decide +kernel
theorem c150_95 : fx_op 150 95 = some (.iload 4, 97, 95) := by decide +kernel
theorem c150_97 : fx_ci 150 97 = some (1, 98) := by decide +kernel
theorem c150_98 : fx_op 150 98 = some (.if_icmp .eq 20, 101, 118) := by decide +kernel
theorem c150_101 : fx_op 150 101 = some (.iload 4, 103, 101) := by decide +kernel
theorem c150_103 : fx_ci 150 103 = some (5, 104) := by decide +kernel
theorem c150_104 : fx_op 150 104 = some (.if_icmp .eq 14, 107, 118) := by decide +kernel
theorem c150_107 : fx_op 150 107 = some (.iload 4, 109, 107) := by decide +kernel
theorem c150_109 : fx_ci 150 109 = some (2, 110) := by decide +kernel
theorem c150_110 : fx_op 150 110 = some (.if_icmp .ne 22, 113, 132) := by decide +kernel
theorem c150_132 : fx_op 150 132 = some (.iload 7, 134, 132) := by decide +kernel
theorem c150_134 : fx_ci 150 134 = some (1, 135) := by decide +kernel
theorem c150_135 : fx_op 150 135 = some (.iload 11, 137, 135) := by decide +kernel
theorem c150_137 : fx_op 150 137 = some (.ishl, 138, 137) := by decide +kernel
theorem c150_138 : fx_op 150 138 = some (.ior, 139, 138) := by decide +kernel
theorem c150_139 : fx_op 150 139 = some (.istore 7, 141, 139) := by decide +kernel
theorem c150_113 : fx_op 150 113 = some (.iload 10, 115, 113) := by decide +kernel
theorem c150_115 : fx_op 150 115 = some (.ifCond .ne 17, 118, 132) := by decide +kernel
theorem c150_141 : fx_op 150 141 = some (.iinc 10 1, 144, 141) := by decide +kernel
theorem c150_144 : fx_op 150 144 = some (.goto (-80), 147, 64) := by decide +kernel
theorem s150_0 {kc : List va_E} {d : Nat} {f p : Nat} {x2 x3 : Int} {M : fx_M} {Q : Option fx_V → fx_M → Prop} (Hf : fx_frm f) (Hp : fx_puz p) (H : (((0 : Int) ≤ x3 ∧ x3 < 12)) ∧ (((0 : Int) ≤ x3 ∧ x3 < 12)) ∧ ((fx_in32 (M (p + 2) x3))) ∧ (10 ≤ M (p + 2) x3 → ((((0 : Int) ≤ M (p + 2) x3 ∧ M (p + 2) x3 ≤ 2147483647)))) ∧ (10 ≤ M (p + 2) x3 → ((((0 : Int) ≤ M (p + 2) x3 ∧ M (p + 2) x3 ≤ 2147483647)))) ∧ (((0 : Int) ≤ x3 ∧ x3 < 12)) ∧ wp kc (d + 1) 150 64 [none, some (jR p), some (jI x2), some (jI x3), some (jI (M (p + 1) x3)), none, some (jI (if M (p + 2) x3 < 10 then (fx_shl (M (p + 2) x3) 4 : Int) else fx_or (fx_shl ((M (p + 2) x3) / 10) 4) (((M (p + 2) x3) % 10) + 1))), some (jI 0), some (jI 0), some (jI (M (p + 3) x3)), some (jI 0), none] [] M Q) : wp kc (d + 1) 150 0 [some (jR f), some (jR p), some (jI x2), some (jI x3), none, none, none, none, none, none, none, none] [] M Q :=
  (x_aldn c150_0 rfl (x_gfr c150_1 (kp_5 Hp) (x_ildn c150_4 rfl (x_iald c150_5 (ap_1 Hp) H.1 (by decide) (x_ist (l' := [some (jR f), some (jR p), some (jI x2), some (jI x3), some (jI (M (p + 1) x3)), none, none, none, none, none, none, none]) c150_6 rfl (x_aldn c150_8 rfl (x_gfr c150_9 (kp_6 Hp) (x_ildn c150_12 rfl (x_iald c150_13 (ap_2 Hp) H.2.1 (by decide) (x_ist (l' := [some (jR f), some (jR p), some (jI x2), some (jI x3), some (jI (M (p + 1) x3)), some (jI (M (p + 2) x3)), none, none, none, none, none, none]) c150_14 rfl (x_ild c150_16 rfl (x_ci c150_18 (have K : wp kc (d + 1) 150 45 [none, some (jR p), some (jI x2), some (jI x3), some (jI (M (p + 1) x3)), none, none, none, none, none, none, none] [jI (if M (p + 2) x3 < 10 then (fx_shl (M (p + 2) x3) 4 : Int) else fx_or (fx_shl ((M (p + 2) x3) / 10) 4) (((M (p + 2) x3) % 10) + 1))] M Q := (x_ist (l' := [none, some (jR p), some (jI x2), some (jI x3), some (jI (M (p + 1) x3)), none, some (jI (if M (p + 2) x3 < 10 then (fx_shl (M (p + 2) x3) 4 : Int) else fx_or (fx_shl ((M (p + 2) x3) / 10) 4) (((M (p + 2) x3) % 10) + 1))), none, none, none, none, none]) c150_45 rfl (x_ci c150_47 (x_ist (l' := [none, some (jR p), some (jI x2), some (jI x3), some (jI (M (p + 1) x3)), none, some (jI (if M (p + 2) x3 < 10 then (fx_shl (M (p + 2) x3) 4 : Int) else fx_or (fx_shl ((M (p + 2) x3) / 10) 4) (((M (p + 2) x3) % 10) + 1))), some (jI 0), none, none, none, none]) c150_48 rfl (x_ci c150_50 (x_ist (l' := [none, some (jR p), some (jI x2), some (jI x3), some (jI (M (p + 1) x3)), none, some (jI (if M (p + 2) x3 < 10 then (fx_shl (M (p + 2) x3) 4 : Int) else fx_or (fx_shl ((M (p + 2) x3) / 10) 4) (((M (p + 2) x3) % 10) + 1))), some (jI 0), some (jI 0), none, none, none]) c150_51 rfl (x_aldn c150_53 rfl (x_gfr c150_54 (kp_7 Hp) (x_ildn c150_57 rfl (x_iald c150_58 (ap_3 Hp) H.2.2.2.2.2.1 (by decide) (x_ist (l' := [none, some (jR p), some (jI x2), some (jI x3), some (jI (M (p + 1) x3)), none, some (jI (if M (p + 2) x3 < 10 then (fx_shl (M (p + 2) x3) 4 : Int) else fx_or (fx_shl ((M (p + 2) x3) / 10) 4) (((M (p + 2) x3) % 10) + 1))), some (jI 0), some (jI 0), some (jI (M (p + 3) x3)), none, none]) c150_59 rfl (x_ci c150_61 (x_ist (l' := [none, some (jR p), some (jI x2), some (jI x3), some (jI (M (p + 1) x3)), none, some (jI (if M (p + 2) x3 < 10 then (fx_shl (M (p + 2) x3) 4 : Int) else fx_or (fx_shl ((M (p + 2) x3) / 10) 4) (((M (p + 2) x3) % 10) + 1))), some (jI 0), some (jI 0), some (jI (M (p + 3) x3)), some (jI 0), none]) c150_62 rfl (wp_wk (l' := [none, some (jR p), some (jI x2), some (jI x3), some (jI (M (p + 1) x3)), none, some (jI (if M (p + 2) x3 < 10 then (fx_shl (M (p + 2) x3) 4 : Int) else fx_or (fx_shl ((M (p + 2) x3) / 10) 4) (((M (p + 2) x3) % 10) + 1))), some (jI 0), some (jI 0), some (jI (M (p + 3) x3)), some (jI 0), none]) ⟨rfl, ⟨rfl, ⟨rfl, ⟨rfl, ⟨rfl, ⟨rfl, ⟨rfl, ⟨rfl, ⟨rfl, trivial⟩⟩⟩⟩⟩⟩⟩⟩⟩ H.2.2.2.2.2.2))))))))))))); (x_cge c150_20 H.2.2.1 (by decide) (fun (h1 : 10 ≤ M (p + 2) x3) => (x_ild c150_30 rfl (x_ci c150_32 (x_idiv c150_34 (H.2.2.2.1 h1) (by decide) (x_ci c150_35 (x_ishl c150_36 (x_ild c150_37 rfl (x_ci c150_39 (x_irem c150_41 (H.2.2.2.2.1 h1) (by decide) (x_ci c150_42 (x_iadd c150_43 (x_ior c150_44 (wp_wk (l' := [none, some (jR p), some (jI x2), some (jI x3), some (jI (M (p + 1) x3)), none, none, none, none, none, none, none]) ⟨rfl, ⟨rfl, ⟨rfl, ⟨rfl, trivial⟩⟩⟩⟩ (by have K := K; first | (simp only [if_neg (Int.not_lt.mpr h1)] at K ⊢; exact K) | (exfalso; omega))))))))))))))) (fun (h2 : M (p + 2) x3 < 10) => (x_ild c150_23 rfl (x_ci c150_25 (x_ishl c150_26 (x_goto c150_27 (wp_wk (l' := [none, some (jR p), some (jI x2), some (jI x3), some (jI (M (p + 1) x3)), none, none, none, none, none, none, none]) ⟨rfl, ⟨rfl, ⟨rfl, ⟨rfl, trivial⟩⟩⟩⟩ (by have K := K; first | (simp only [if_pos h2] at K ⊢; exact K) | (exfalso; omega))))))))))))))))))))))
theorem s150_64 {kc : List va_E} {d : Nat} {f p : Nat} {v2 v3 v4 v6 v7 v8 v9 v10 : Int} {M : fx_M} {Q : Option fx_V → fx_M → Prop} (Hf : fx_frm f) (Hp : fx_puz p) (H : ((fx_in32 v10) ∧ (fx_in32 v9)) ∧ (v9 ≤ v10 → wp kc (d + 1) 150 150 [none, none, none, none, some (jI v4), none, some (jI v6), some (jI v7), some (jI v8), some (jI v9), some (jI 0), none] [] M Q) ∧ (v10 < v9 → (((0 : Int) ≤ (4 * v3) + v10 ∧ (4 * v3) + v10 < 48)) ∧ wc kc d 151 [jR p, jI v2, jI (M (p + 4) ((4 * v3) + v10))] M (fun v M1 => wp kc (d + 1) 150 87 [none, some (jR p), some (jI v2), some (jI v3), some (jI v4), none, some (jI v6), some (jI v7), some (jI v8), some (jI v9), some (jI v10), none] (v.toList ++ []) M1 Q))) : wp kc (d + 1) 150 64 [none, some (jR p), some (jI v2), some (jI v3), some (jI v4), none, some (jI v6), some (jI v7), some (jI v8), some (jI v9), some (jI v10), none] [] M Q :=
  (x_ild c150_64 rfl (x_ild c150_66 rfl (x_cge c150_68 H.1.1 H.1.2 (fun h1 => (x_ci c150_147 (x_ist (l' := [none, some (jR p), some (jI v2), some (jI v3), some (jI v4), none, some (jI v6), some (jI v7), some (jI v8), some (jI v9), some (jI 0), none]) c150_148 rfl (wp_wk (l' := [none, none, none, none, some (jI v4), none, some (jI v6), some (jI v7), some (jI v8), some (jI v9), some (jI 0), none]) ⟨rfl, ⟨rfl, ⟨rfl, ⟨rfl, ⟨rfl, ⟨rfl, trivial⟩⟩⟩⟩⟩⟩ (H.2.1 h1))))) (fun h2 => (x_aldn c150_71 rfl (x_ildn c150_72 rfl (x_aldn c150_73 rfl (x_gfr c150_74 (kp_8 Hp) (x_ci c150_77 (x_ildn c150_78 rfl (x_imul c150_79 (x_ild c150_80 rfl (x_iadd c150_82 (x_iald c150_83 (ap_4 Hp) (H.2.2 h2).1 (by decide) (wp_wk (l' := [none, some (jR p), some (jI v2), some (jI v3), some (jI v4), none, some (jI v6), some (jI v7), some (jI v8), some (jI v9), some (jI v10), none]) ⟨rfl, ⟨rfl, ⟨rfl, ⟨rfl, ⟨rfl, ⟨rfl, ⟨rfl, ⟨rfl, ⟨rfl, trivial⟩⟩⟩⟩⟩⟩⟩⟩⟩ (x_cs (As := [jR p, jI v2, jI (M (p + 4) ((4 * v3) + v10))]) (st := []) c150_84 (by decide) rfl (Nat.le_of_ble_eq_true rfl) mx151 (Nat.le_refl _) (H.2.2 h2).2))))))))))))))))
theorem s150_87 {kc : List va_E} {d : Nat} {f p : Nat} {v2 v3 v4 v6 v7 v8 v9 v10 u0 : Int} {M : fx_M} {Q : Option fx_V → fx_M → Prop} (Hf : fx_frm f) (Hp : fx_puz p) (H : ((fx_in32 v4)) ∧ (v4 ≠ 4 → (fx_in32 v4)) ∧ (v4 ≠ 4 → v4 ≠ 1 → (fx_in32 v4)) ∧ (v4 ≠ 4 → v4 ≠ 1 → v4 ≠ 5 → (fx_in32 v4)) ∧ (v4 ≠ 4 → v4 ≠ 1 → v4 ≠ 5 → v4 = 2 → (fx_in32 v10)) ∧ wp kc (d + 1) 150 64 [none, some (jR p), some (jI v2), some (jI v3), some (jI v4), none, some (jI v6), some (jI (if v4 = 4 then (v7 : Int) else (if v4 = 1 then (v7 : Int) else (if v4 = 5 then (v7 : Int) else (if v4 = 2 then ((if v10 = 0 then (v7 : Int) else fx_or v7 (fx_shl 1 u0)) : Int) else fx_or v7 (fx_shl 1 u0)))))), some (jI (if v4 = 4 then (fx_or (fx_shl v8 4) (u0 + 1) : Int) else (if v4 = 1 then (fx_or (fx_shl v8 4) (u0 + 1) : Int) else (if v4 = 5 then (fx_or (fx_shl v8 4) (u0 + 1) : Int) else (if v4 = 2 then ((if v10 = 0 then (fx_or (fx_shl v8 4) (u0 + 1) : Int) else v8) : Int) else v8))))), some (jI v9), some (jI (v10 + 1)), none] [] M Q) : wp kc (d + 1) 150 87 [none, some (jR p), some (jI v2), some (jI v3), some (jI v4), none, some (jI v6), some (jI v7), some (jI v8), some (jI v9), some (jI v10), none] [jI u0] M Q :=
  (x_ist (l' := [none, some (jR p), some (jI v2), some (jI v3), some (jI v4), none, some (jI v6), some (jI v7), some (jI v8), some (jI v9), some (jI v10), some (jI u0)]) c150_87 rfl (x_ild c150_89 rfl (x_ci c150_91 (have K : wp kc (d + 1) 150 141 [none, some (jR p), some (jI v2), some (jI v3), some (jI v4), none, some (jI v6), some (jI (if v4 = 4 then (v7 : Int) else (if v4 = 1 then (v7 : Int) else (if v4 = 5 then (v7 : Int) else (if v4 = 2 then ((if v10 = 0 then (v7 : Int) else fx_or v7 (fx_shl 1 u0)) : Int) else fx_or v7 (fx_shl 1 u0)))))), some (jI (if v4 = 4 then (fx_or (fx_shl v8 4) (u0 + 1) : Int) else (if v4 = 1 then (fx_or (fx_shl v8 4) (u0 + 1) : Int) else (if v4 = 5 then (fx_or (fx_shl v8 4) (u0 + 1) : Int) else (if v4 = 2 then ((if v10 = 0 then (fx_or (fx_shl v8 4) (u0 + 1) : Int) else v8) : Int) else v8))))), some (jI v9), some (jI v10), none] [] M Q := (x_inc (l' := [none, some (jR p), some (jI v2), some (jI v3), some (jI v4), none, some (jI v6), some (jI (if v4 = 4 then (v7 : Int) else (if v4 = 1 then (v7 : Int) else (if v4 = 5 then (v7 : Int) else (if v4 = 2 then ((if v10 = 0 then (v7 : Int) else fx_or v7 (fx_shl 1 u0)) : Int) else fx_or v7 (fx_shl 1 u0)))))), some (jI (if v4 = 4 then (fx_or (fx_shl v8 4) (u0 + 1) : Int) else (if v4 = 1 then (fx_or (fx_shl v8 4) (u0 + 1) : Int) else (if v4 = 5 then (fx_or (fx_shl v8 4) (u0 + 1) : Int) else (if v4 = 2 then ((if v10 = 0 then (fx_or (fx_shl v8 4) (u0 + 1) : Int) else v8) : Int) else v8))))), some (jI v9), some (jI (v10 + 1)), none]) c150_141 rfl rfl (x_goto c150_144 (wp_wk (l' := [none, some (jR p), some (jI v2), some (jI v3), some (jI v4), none, some (jI v6), some (jI (if v4 = 4 then (v7 : Int) else (if v4 = 1 then (v7 : Int) else (if v4 = 5 then (v7 : Int) else (if v4 = 2 then ((if v10 = 0 then (v7 : Int) else fx_or v7 (fx_shl 1 u0)) : Int) else fx_or v7 (fx_shl 1 u0)))))), some (jI (if v4 = 4 then (fx_or (fx_shl v8 4) (u0 + 1) : Int) else (if v4 = 1 then (fx_or (fx_shl v8 4) (u0 + 1) : Int) else (if v4 = 5 then (fx_or (fx_shl v8 4) (u0 + 1) : Int) else (if v4 = 2 then ((if v10 = 0 then (fx_or (fx_shl v8 4) (u0 + 1) : Int) else v8) : Int) else v8))))), some (jI v9), some (jI (v10 + 1)), none]) ⟨rfl, ⟨rfl, ⟨rfl, ⟨rfl, ⟨rfl, ⟨rfl, ⟨rfl, ⟨rfl, ⟨rfl, trivial⟩⟩⟩⟩⟩⟩⟩⟩⟩ H.2.2.2.2.2))); (x_ceq c150_92 H.1 (by decide) (fun (h1 : v4 = 4) => (x_ild c150_118 rfl (x_ci c150_120 (x_ishl c150_121 (x_ild c150_122 rfl (x_ci c150_124 (x_iadd c150_125 (x_ior c150_126 (x_ist (l' := [none, some (jR p), some (jI v2), some (jI v3), some (jI v4), none, some (jI v6), some (jI v7), some (jI (fx_or (fx_shl v8 4) (u0 + 1))), some (jI v9), some (jI v10), some (jI u0)]) c150_127 rfl (x_goto c150_129 (wp_wk (l' := [none, some (jR p), some (jI v2), some (jI v3), some (jI v4), none, some (jI v6), some (jI v7), some (jI (fx_or (fx_shl v8 4) (u0 + 1))), some (jI v9), some (jI v10), none]) ⟨rfl, ⟨rfl, ⟨rfl, ⟨rfl, ⟨rfl, ⟨rfl, ⟨rfl, ⟨rfl, ⟨rfl, trivial⟩⟩⟩⟩⟩⟩⟩⟩⟩ (by have K := K; first | (simp only [if_pos h1] at K ⊢; exact K) | (exfalso; omega))))))))))))) (fun (h2 : v4 ≠ 4) => (x_ild c150_95 rfl (x_ci c150_97 (x_ceq c150_98 (H.2.1 h2) (by decide) (fun (h3 : v4 = 1) => (x_ild c150_118 rfl (x_ci c150_120 (x_ishl c150_121 (x_ild c150_122 rfl (x_ci c150_124 (x_iadd c150_125 (x_ior c150_126 (x_ist (l' := [none, some (jR p), some (jI v2), some (jI v3), some (jI v4), none, some (jI v6), some (jI v7), some (jI (fx_or (fx_shl v8 4) (u0 + 1))), some (jI v9), some (jI v10), some (jI u0)]) c150_127 rfl (x_goto c150_129 (wp_wk (l' := [none, some (jR p), some (jI v2), some (jI v3), some (jI v4), none, some (jI v6), some (jI v7), some (jI (fx_or (fx_shl v8 4) (u0 + 1))), some (jI v9), some (jI v10), none]) ⟨rfl, ⟨rfl, ⟨rfl, ⟨rfl, ⟨rfl, ⟨rfl, ⟨rfl, ⟨rfl, ⟨rfl, trivial⟩⟩⟩⟩⟩⟩⟩⟩⟩ (by have K := K; first | (simp only [if_neg h2, if_pos h3] at K ⊢; exact K) | (exfalso; omega))))))))))))) (fun (h4 : v4 ≠ 1) => (x_ild c150_101 rfl (x_ci c150_103 (x_ceq c150_104 (H.2.2.1 h2 h4) (by decide) (fun (h5 : v4 = 5) => (x_ild c150_118 rfl (x_ci c150_120 (x_ishl c150_121 (x_ild c150_122 rfl (x_ci c150_124 (x_iadd c150_125 (x_ior c150_126 (x_ist (l' := [none, some (jR p), some (jI v2), some (jI v3), some (jI v4), none, some (jI v6), some (jI v7), some (jI (fx_or (fx_shl v8 4) (u0 + 1))), some (jI v9), some (jI v10), some (jI u0)]) c150_127 rfl (x_goto c150_129 (wp_wk (l' := [none, some (jR p), some (jI v2), some (jI v3), some (jI v4), none, some (jI v6), some (jI v7), some (jI (fx_or (fx_shl v8 4) (u0 + 1))), some (jI v9), some (jI v10), none]) ⟨rfl, ⟨rfl, ⟨rfl, ⟨rfl, ⟨rfl, ⟨rfl, ⟨rfl, ⟨rfl, ⟨rfl, trivial⟩⟩⟩⟩⟩⟩⟩⟩⟩ (by have K := K; first | (simp only [if_neg h2, if_neg h4, if_pos h5] at K ⊢; exact K) | (exfalso; omega))))))))))))) (fun (h6 : v4 ≠ 5) => (x_ild c150_107 rfl (x_ci c150_109 (x_cne c150_110 (H.2.2.2.1 h2 h4 h6) (by decide) (fun (h7 : v4 ≠ 2) => (x_ild c150_132 rfl (x_ci c150_134 (x_ild c150_135 rfl (x_ishl c150_137 (x_ior c150_138 (x_ist (l' := [none, some (jR p), some (jI v2), some (jI v3), some (jI v4), none, some (jI v6), some (jI (fx_or v7 (fx_shl 1 u0))), some (jI v8), some (jI v9), some (jI v10), some (jI u0)]) c150_139 rfl (wp_wk (l' := [none, some (jR p), some (jI v2), some (jI v3), some (jI v4), none, some (jI v6), some (jI (fx_or v7 (fx_shl 1 u0))), some (jI v8), some (jI v9), some (jI v10), none]) ⟨rfl, ⟨rfl, ⟨rfl, ⟨rfl, ⟨rfl, ⟨rfl, ⟨rfl, ⟨rfl, ⟨rfl, trivial⟩⟩⟩⟩⟩⟩⟩⟩⟩ (by have K := K; first | (simp only [if_neg h2, if_neg h4, if_neg h6, if_neg h7] at K ⊢; exact K) | (exfalso; omega)))))))))) (fun (h8 : v4 = 2) => (x_ild c150_113 rfl (x_zne c150_115 (H.2.2.2.2.1 h2 h4 h6 h8) (fun (h9 : v10 ≠ 0) => (x_ild c150_132 rfl (x_ci c150_134 (x_ild c150_135 rfl (x_ishl c150_137 (x_ior c150_138 (x_ist (l' := [none, some (jR p), some (jI v2), some (jI v3), some (jI v4), none, some (jI v6), some (jI (fx_or v7 (fx_shl 1 u0))), some (jI v8), some (jI v9), some (jI v10), some (jI u0)]) c150_139 rfl (wp_wk (l' := [none, some (jR p), some (jI v2), some (jI v3), some (jI v4), none, some (jI v6), some (jI (fx_or v7 (fx_shl 1 u0))), some (jI v8), some (jI v9), some (jI v10), none]) ⟨rfl, ⟨rfl, ⟨rfl, ⟨rfl, ⟨rfl, ⟨rfl, ⟨rfl, ⟨rfl, ⟨rfl, trivial⟩⟩⟩⟩⟩⟩⟩⟩⟩ (by have K := K; first | (simp only [if_neg h2, if_neg h4, if_neg h6, if_pos h8, if_neg h9] at K ⊢; exact K) | (exfalso; omega)))))))))) (fun (h10 : v10 = 0) => (x_ild c150_118 rfl (x_ci c150_120 (x_ishl c150_121 (x_ild c150_122 rfl (x_ci c150_124 (x_iadd c150_125 (x_ior c150_126 (x_ist (l' := [none, some (jR p), some (jI v2), some (jI v3), some (jI v4), none, some (jI v6), some (jI v7), some (jI (fx_or (fx_shl v8 4) (u0 + 1))), some (jI v9), some (jI v10), some (jI u0)]) c150_127 rfl (x_goto c150_129 (wp_wk (l' := [none, some (jR p), some (jI v2), some (jI v3), some (jI v4), none, some (jI v6), some (jI v7), some (jI (fx_or (fx_shl v8 4) (u0 + 1))), some (jI v9), some (jI v10), none]) ⟨rfl, ⟨rfl, ⟨rfl, ⟨rfl, ⟨rfl, ⟨rfl, ⟨rfl, ⟨rfl, ⟨rfl, trivial⟩⟩⟩⟩⟩⟩⟩⟩⟩ (by have K := K; first | (simp only [if_neg h2, if_neg h4, if_neg h6, if_pos h8, if_pos h10] at K ⊢; exact K) | (exfalso; omega)))))))))))))))))))))))))))))))))
theorem s150_150 {kc : List va_E} {d : Nat} {f p : Nat} {v4 v6 v7 v8 v9 v10 : Int} {M : fx_M} {Q : Option fx_V → fx_M → Prop} (Hf : fx_frm f) (Hp : fx_puz p) (H : ((fx_in32 v10)) ∧ (9 ≤ v10 → Q (some (jI (fx_or (fx_or (fx_shl v4 24) (fx_shl v6 16)) (fx_shl v8 (16 - (4 * v9)))))) M) ∧ (v10 < 9 → ((fx_in32 (fx_and (fx_shr v7 v10) 1))) ∧ wp kc (d + 1) 150 150 [none, none, none, none, some (jI v4), none, some (jI v6), some (jI v7), some (jI (if fx_and (fx_shr v7 v10) 1 = 0 then (v8 : Int) else fx_or (fx_shl v8 4) (v10 + 1))), some (jI v9), some (jI (v10 + 1)), none] [] M Q)) : wp kc (d + 1) 150 150 [none, none, none, none, some (jI v4), none, some (jI v6), some (jI v7), some (jI v8), some (jI v9), some (jI v10), none] [] M Q :=
  (x_ild c150_150 rfl (x_ci c150_152 (x_cge c150_154 H.1 (by decide) (fun h1 => (x_ild c150_189 rfl (x_ci c150_191 (x_ishl c150_193 (x_ild c150_194 rfl (x_ci c150_196 (x_ishl c150_198 (x_ior c150_199 (x_ild c150_200 rfl (x_ci c150_202 (x_ci c150_204 (x_ild c150_205 rfl (x_imul c150_207 (x_isub c150_208 (x_ishl c150_209 (x_ior c150_210 (x_irt c150_211 r150 (H.2.1 h1)))))))))))))))))) (fun h2 => (x_ild c150_157 rfl (x_ild c150_159 rfl (x_ishr c150_161 (x_ci c150_162 (x_iand c150_163 (have K : wp kc (d + 1) 150 181 [none, none, none, none, some (jI v4), none, some (jI v6), some (jI v7), none, some (jI v9), some (jI v10), none] [jI (if fx_and (fx_shr v7 v10) 1 = 0 then (v8 : Int) else fx_or (fx_shl v8 4) (v10 + 1))] M Q := (x_ist (l' := [none, none, none, none, some (jI v4), none, some (jI v6), some (jI v7), some (jI (if fx_and (fx_shr v7 v10) 1 = 0 then (v8 : Int) else fx_or (fx_shl v8 4) (v10 + 1))), some (jI v9), some (jI v10), none]) c150_181 rfl (x_inc (l' := [none, none, none, none, some (jI v4), none, some (jI v6), some (jI v7), some (jI (if fx_and (fx_shr v7 v10) 1 = 0 then (v8 : Int) else fx_or (fx_shl v8 4) (v10 + 1))), some (jI v9), some (jI (v10 + 1)), none]) c150_183 rfl rfl (x_goto c150_186 (wp_wk (l' := [none, none, none, none, some (jI v4), none, some (jI v6), some (jI v7), some (jI (if fx_and (fx_shr v7 v10) 1 = 0 then (v8 : Int) else fx_or (fx_shl v8 4) (v10 + 1))), some (jI v9), some (jI (v10 + 1)), none]) ⟨rfl, ⟨rfl, ⟨rfl, ⟨rfl, ⟨rfl, ⟨rfl, trivial⟩⟩⟩⟩⟩⟩ (H.2.2 h2).2)))); (x_zeq c150_164 (H.2.2 h2).1 (fun (h3 : fx_and (fx_shr v7 v10) 1 = 0) => (x_ild c150_179 rfl (wp_wk (l' := [none, none, none, none, some (jI v4), none, some (jI v6), some (jI v7), none, some (jI v9), some (jI v10), none]) ⟨rfl, ⟨rfl, ⟨rfl, ⟨rfl, ⟨rfl, trivial⟩⟩⟩⟩⟩ (by have K := K; first | (simp only [if_pos h3] at K ⊢; exact K) | (exfalso; omega))))) (fun (h4 : fx_and (fx_shr v7 v10) 1 ≠ 0) => (x_ild c150_167 rfl (x_ci c150_169 (x_ishl c150_170 (x_ild c150_171 rfl (x_ci c150_173 (x_iadd c150_174 (x_ior c150_175 (x_goto c150_176 (wp_wk (l' := [none, none, none, none, some (jI v4), none, some (jI v6), some (jI v7), none, some (jI v9), some (jI v10), none]) ⟨rfl, ⟨rfl, ⟨rfl, ⟨rfl, ⟨rfl, trivial⟩⟩⟩⟩⟩ (by have K := K; first | (simp only [if_neg h4] at K ⊢; exact K) | (exfalso; omega)))))))))))))))))))))))
theorem s150 {kc : List va_E} {d : Nat} {f p : Nat} {x2 x3 : Int} {M : fx_M} {Q : Option fx_V → fx_M → Prop} (Hf : fx_frm f) (Hp : fx_puz p) (H : (((0 : Int) ≤ x3 ∧ x3 < 12)) ∧ (((0 : Int) ≤ x3 ∧ x3 < 12)) ∧ ((fx_in32 (M (p + 2) x3))) ∧ (10 ≤ M (p + 2) x3 → ((((0 : Int) ≤ M (p + 2) x3 ∧ M (p + 2) x3 ≤ 2147483647)))) ∧ (10 ≤ M (p + 2) x3 → ((((0 : Int) ≤ M (p + 2) x3 ∧ M (p + 2) x3 ≤ 2147483647)))) ∧ (((0 : Int) ≤ x3 ∧ x3 < 12)) ∧ wp kc (d + 1) 150 64 [none, some (jR p), some (jI x2), some (jI x3), some (jI (M (p + 1) x3)), none, some (jI (if M (p + 2) x3 < 10 then (fx_shl (M (p + 2) x3) 4 : Int) else fx_or (fx_shl ((M (p + 2) x3) / 10) 4) (((M (p + 2) x3) % 10) + 1))), some (jI 0), some (jI 0), some (jI (M (p + 3) x3)), some (jI 0), none] [] M Q) : wc kc (d + 1) 150 [jR f, jR p, jI x2, jI x3] M Q :=
  wc_of (wp_wk (l' := [some (jR f), some (jR p), some (jI x2), some (jI x3), none, none, none, none, none, none, none, none]) ⟨rfl, ⟨rfl, ⟨rfl, ⟨rfl, trivial⟩⟩⟩⟩ (s150_0 Hf Hp H))

/- PuzzleHouse$Form.mapped(LPuzzleHouse$Puzzle;II)I -/
theorem c151_0 : fx_op 151 0 = some (.iload_n 2, 1, 0) := by decide +kernel
theorem c151_1 : fx_op 151 1 = some (.aload_n 0, 2, 1) := by decide +kernel
theorem c151_2 : fx_gf 151 2 = some (3, 2, 5) := by decide +kernel
theorem c151_5 : fx_op 151 5 = some (.if_icmp .lt 5, 8, 10) := by decide +kernel
theorem c151_10 : fx_op 151 10 = some (.aload_n 0, 11, 10) := by decide +kernel
theorem c151_11 : fx_gf 151 11 = some (3, 0, 14) := by decide +kernel
theorem c151_14 : fx_ci 151 14 = some (1, 15) := by decide +kernel
theorem c151_18 : fx_op 151 18 = some (.istore_n 3, 19, 18) := by decide +kernel
theorem c151_19 : fx_op 151 19 = some (.iload_n 2, 20, 19) := by decide +kernel
theorem c151_20 : fx_op 151 20 = some (.iload_n 3, 21, 20) := by decide +kernel
theorem c151_22 : fx_op 151 22 = some (.istore 4, 24, 22) := by decide +kernel
theorem c151_24 : fx_op 151 24 = some (.iload_n 2, 25, 24) := by decide +kernel
theorem c151_25 : fx_op 151 25 = some (.iload_n 3, 26, 25) := by decide +kernel
theorem c151_27 : fx_op 151 27 = some (.istore 5, 29, 27) := by decide +kernel
theorem c151_29 : fx_op 151 29 = some (.iload_n 1, 30, 29) := by decide +kernel
theorem c151_30 : fx_ci 151 30 = some (1, 31) := by decide +kernel
theorem c151_31 : fx_op 151 31 = some (.iand, 32, 31) := by decide +kernel
theorem c151_32 : fx_op 151 32 = some (.ifCond .eq 12, 35, 44) := by decide +kernel
theorem c151_44 : fx_op 151 44 = some (.iload 4, 46, 44) := by decide +kernel
theorem c151_35 : fx_op 151 35 = some (.iload_n 3, 36, 35) := by decide +kernel
theorem c151_36 : fx_ci 151 36 = some (1, 37) := by decide +kernel
theorem c151_37 : fx_op 151 37 = some (.isub, 38, 37) := by decide +kernel
theorem c151_38 : fx_op 151 38 = some (.iload 4, 40, 38) := by decide +kernel
theorem c151_40 : fx_op 151 40 = some (.isub, 41, 40) := by decide +kernel
theorem c151_41 : fx_op 151 41 = some (.goto 5, 44, 46) := by decide +kernel
theorem c151_46 : fx_op 151 46 = some (.istore 4, 48, 46) := by decide +kernel
theorem c151_48 : fx_op 151 48 = some (.iload_n 1, 49, 48) := by decide +kernel
theorem c151_49 : fx_ci 151 49 = some (2, 50) := by decide +kernel
theorem c151_50 : fx_op 151 50 = some (.iand, 51, 50) := by decide +kernel
theorem c151_51 : fx_op 151 51 = some (.ifCond .eq 15, 54, 66) := by decide +kernel
theorem c151_66 : fx_op 151 66 = some (.iload 5, 68, 66) := by decide +kernel
theorem c151_54 : fx_op 151 54 = some (.aload_n 0, 55, 54) := by decide +kernel
theorem c151_55 : fx_gf 151 55 = some (3, 1, 58) := by decide +kernel
theorem c151_58 : fx_ci 151 58 = some (1, 59) := by decide +kernel
theorem c151_59 : fx_op 151 59 = some (.isub, 60, 59) := by decide +kernel
theorem c151_60 : fx_op 151 60 = some (.iload 5, 62, 60) := by decide +kernel
theorem c151_62 : fx_op 151 62 = some (.isub, 63, 62) := by decide +kernel
theorem c151_63 : fx_op 151 63 = some (.goto 5, 66, 68) := by decide +kernel
theorem c151_68 : fx_op 151 68 = some (.istore 5, 70, 68) := by decide +kernel
theorem c151_70 : fx_op 151 70 = some (.iload_n 1, 71, 70) := by decide +kernel
theorem c151_71 : fx_ci 151 71 = some (4, 72) := by decide +kernel
theorem c151_72 : fx_op 151 72 = some (.iand, 73, 72) := by decide +kernel
theorem c151_73 : fx_op 151 73 = some (.ifCond .eq 13, 76, 86) := by decide +kernel
theorem c151_86 : fx_op 151 86 = some (.iload 4, 88, 86) := by decide +kernel
theorem c151_88 : fx_op 151 88 = some (.iload_n 3, 89, 88) := by decide +kernel
theorem c151_89 : fx_op 151 89 = some (.iload 5, 91, 89) := by decide +kernel
theorem c151_91 : fx_op 151 91 = some (.imul, 92, 91) := by decide +kernel
theorem c151_92 : fx_op 151 92 = some (.iadd, 93, 92) := by decide +kernel
theorem c151_76 : fx_op 151 76 = some (.iload 5, 78, 76) := by decide +kernel
theorem c151_78 : fx_op 151 78 = some (.iload_n 3, 79, 78) := by decide +kernel
theorem c151_79 : fx_op 151 79 = some (.iload 4, 81, 79) := by decide +kernel
theorem c151_81 : fx_op 151 81 = some (.imul, 82, 81) := by decide +kernel
theorem c151_82 : fx_op 151 82 = some (.iadd, 83, 82) := by decide +kernel
theorem c151_83 : fx_op 151 83 = some (.goto 10, 86, 93) := by decide +kernel
theorem c151_8 : fx_op 151 8 = some (.iload_n 2, 9, 8) := by decide +kernel
theorem c151_15 : fx_nt 151 15 = some (1, 18) := by decide +kernel
theorem c151_21 : fx_op 151 21 = some (.irem, 22, 21) := by decide +kernel
theorem c151_26 : fx_op 151 26 = some (.idiv, 27, 26) := by decide +kernel
theorem c151_93 : fx_op 151 93 = some (.ireturn, 94, 93) := by decide +kernel
theorem c151_9 : fx_op 151 9 = some (.ireturn, 10, 9) := by decide +kernel
theorem n151_15 : xS 151 ((xI 151 15).getD .nop) = none := by decide +kernel
theorem s151_0 {kc : List va_E} {d : Nat} {p : Nat} {x1 x2 : Int} {M : fx_M} {Q : Option fx_V → fx_M → Prop} (Hp : fx_puz p) (H : ((fx_in32 x2) ∧ (fx_in32 (M p 2))) ∧ (x2 < M p 2 → ((fx_in32 (M p 0))) ∧ (((0 : Int) ≤ x2 ∧ x2 ≤ 2147483647) ∧ ((0 : Int) < (if M p 0 < 1 then (1 : Int) else M p 0) ∧ (if M p 0 < 1 then (1 : Int) else M p 0) ≤ 2147483647)) ∧ (((0 : Int) ≤ x2 ∧ x2 ≤ 2147483647) ∧ ((0 : Int) < (if M p 0 < 1 then (1 : Int) else M p 0) ∧ (if M p 0 < 1 then (1 : Int) else M p 0) ≤ 2147483647)) ∧ ((fx_in32 (fx_and x1 1))) ∧ ((fx_in32 (fx_and x1 2))) ∧ ((fx_in32 (fx_and x1 4))) ∧ Q (some (jI (if fx_and x1 4 = 0 then ((if fx_and x1 1 = 0 then (x2 % (if M p 0 < 1 then (1 : Int) else M p 0) : Int) else ((if M p 0 < 1 then (1 : Int) else M p 0) - 1) - (x2 % (if M p 0 < 1 then (1 : Int) else M p 0))) + ((if M p 0 < 1 then (1 : Int) else M p 0) * (if fx_and x1 2 = 0 then (x2 / (if M p 0 < 1 then (1 : Int) else M p 0) : Int) else ((M p 1) - 1) - (x2 / (if M p 0 < 1 then (1 : Int) else M p 0)))) : Int) else (if fx_and x1 2 = 0 then (x2 / (if M p 0 < 1 then (1 : Int) else M p 0) : Int) else ((M p 1) - 1) - (x2 / (if M p 0 < 1 then (1 : Int) else M p 0))) + ((if M p 0 < 1 then (1 : Int) else M p 0) * (if fx_and x1 1 = 0 then (x2 % (if M p 0 < 1 then (1 : Int) else M p 0) : Int) else ((if M p 0 < 1 then (1 : Int) else M p 0) - 1) - (x2 % (if M p 0 < 1 then (1 : Int) else M p 0))))))) M) ∧ (M p 2 ≤ x2 → Q (some (jI x2)) M)) : wp kc (d + 1) 151 0 [some (jR p), some (jI x1), some (jI x2), none, none, none] [] M Q :=
  (x_ildn c151_0 rfl (x_aldn c151_1 rfl (x_gfi c151_2 (kp_2 Hp) (x_clt c151_5 H.1.1 H.1.2 (fun h1 => (x_aldn c151_10 rfl (x_gfi c151_11 (kp_0 Hp) (x_ci c151_14 (x_max c151_15 n151_15 (H.2.1 h1).1 (by decide) (Nat.le_of_ble_eq_true rfl) (x_istn (l' := [some (jR p), some (jI x1), some (jI x2), some (jI (if M p 0 < 1 then (1 : Int) else M p 0)), none, none]) c151_18 rfl (x_ildn c151_19 rfl (x_ildn c151_20 rfl (x_irem c151_21 (H.2.1 h1).2.1.1 (H.2.1 h1).2.1.2 (x_ist (l' := [some (jR p), some (jI x1), some (jI x2), some (jI (if M p 0 < 1 then (1 : Int) else M p 0)), some (jI (x2 % (if M p 0 < 1 then (1 : Int) else M p 0))), none]) c151_22 rfl (x_ildn c151_24 rfl (x_ildn c151_25 rfl (x_idiv c151_26 (H.2.1 h1).2.2.1.1 (H.2.1 h1).2.2.1.2 (x_ist (l' := [some (jR p), some (jI x1), some (jI x2), some (jI (if M p 0 < 1 then (1 : Int) else M p 0)), some (jI (x2 % (if M p 0 < 1 then (1 : Int) else M p 0))), some (jI (x2 / (if M p 0 < 1 then (1 : Int) else M p 0)))]) c151_27 rfl (x_ildn c151_29 rfl (x_ci c151_30 (x_iand c151_31 (have K : wp kc (d + 1) 151 46 [some (jR p), some (jI x1), none, some (jI (if M p 0 < 1 then (1 : Int) else M p 0)), none, some (jI (x2 / (if M p 0 < 1 then (1 : Int) else M p 0)))] [jI (if fx_and x1 1 = 0 then (x2 % (if M p 0 < 1 then (1 : Int) else M p 0) : Int) else ((if M p 0 < 1 then (1 : Int) else M p 0) - 1) - (x2 % (if M p 0 < 1 then (1 : Int) else M p 0)))] M Q := (x_ist (l' := [some (jR p), some (jI x1), none, some (jI (if M p 0 < 1 then (1 : Int) else M p 0)), some (jI (if fx_and x1 1 = 0 then (x2 % (if M p 0 < 1 then (1 : Int) else M p 0) : Int) else ((if M p 0 < 1 then (1 : Int) else M p 0) - 1) - (x2 % (if M p 0 < 1 then (1 : Int) else M p 0)))), some (jI (x2 / (if M p 0 < 1 then (1 : Int) else M p 0)))]) c151_46 rfl (x_ildn c151_48 rfl (x_ci c151_49 (x_iand c151_50 (have K : wp kc (d + 1) 151 68 [none, some (jI x1), none, some (jI (if M p 0 < 1 then (1 : Int) else M p 0)), some (jI (if fx_and x1 1 = 0 then (x2 % (if M p 0 < 1 then (1 : Int) else M p 0) : Int) else ((if M p 0 < 1 then (1 : Int) else M p 0) - 1) - (x2 % (if M p 0 < 1 then (1 : Int) else M p 0)))), none] [jI (if fx_and x1 2 = 0 then (x2 / (if M p 0 < 1 then (1 : Int) else M p 0) : Int) else ((M p 1) - 1) - (x2 / (if M p 0 < 1 then (1 : Int) else M p 0)))] M Q := (x_ist (l' := [none, some (jI x1), none, some (jI (if M p 0 < 1 then (1 : Int) else M p 0)), some (jI (if fx_and x1 1 = 0 then (x2 % (if M p 0 < 1 then (1 : Int) else M p 0) : Int) else ((if M p 0 < 1 then (1 : Int) else M p 0) - 1) - (x2 % (if M p 0 < 1 then (1 : Int) else M p 0)))), some (jI (if fx_and x1 2 = 0 then (x2 / (if M p 0 < 1 then (1 : Int) else M p 0) : Int) else ((M p 1) - 1) - (x2 / (if M p 0 < 1 then (1 : Int) else M p 0))))]) c151_68 rfl (x_ildn c151_70 rfl (x_ci c151_71 (x_iand c151_72 (have K : wp kc (d + 1) 151 93 [none, none, none, none, none, none] [jI (if fx_and x1 4 = 0 then ((if fx_and x1 1 = 0 then (x2 % (if M p 0 < 1 then (1 : Int) else M p 0) : Int) else ((if M p 0 < 1 then (1 : Int) else M p 0) - 1) - (x2 % (if M p 0 < 1 then (1 : Int) else M p 0))) + ((if M p 0 < 1 then (1 : Int) else M p 0) * (if fx_and x1 2 = 0 then (x2 / (if M p 0 < 1 then (1 : Int) else M p 0) : Int) else ((M p 1) - 1) - (x2 / (if M p 0 < 1 then (1 : Int) else M p 0)))) : Int) else (if fx_and x1 2 = 0 then (x2 / (if M p 0 < 1 then (1 : Int) else M p 0) : Int) else ((M p 1) - 1) - (x2 / (if M p 0 < 1 then (1 : Int) else M p 0))) + ((if M p 0 < 1 then (1 : Int) else M p 0) * (if fx_and x1 1 = 0 then (x2 % (if M p 0 < 1 then (1 : Int) else M p 0) : Int) else ((if M p 0 < 1 then (1 : Int) else M p 0) - 1) - (x2 % (if M p 0 < 1 then (1 : Int) else M p 0)))))] M Q := (x_irt c151_93 r151 (H.2.1 h1).2.2.2.2.2.2); (x_zeq c151_73 (H.2.1 h1).2.2.2.2.2.1 (fun (h7 : fx_and x1 4 = 0) => (x_ild c151_86 rfl (x_ildn c151_88 rfl (x_ild c151_89 rfl (x_imul c151_91 (x_iadd c151_92 (wp_wk (l' := [none, none, none, none, none, none]) trivial (by have K := K; first | (simp only [if_pos h7] at K ⊢; exact K) | (exfalso; omega))))))))) (fun (h8 : fx_and x1 4 ≠ 0) => (x_ild c151_76 rfl (x_ildn c151_78 rfl (x_ild c151_79 rfl (x_imul c151_81 (x_iadd c151_82 (x_goto c151_83 (wp_wk (l' := [none, none, none, none, none, none]) trivial (by have K := K; first | (simp only [if_neg h8] at K ⊢; exact K) | (exfalso; omega)))))))))))))))); (x_zeq c151_51 (H.2.1 h1).2.2.2.2.1 (fun (h5 : fx_and x1 2 = 0) => (x_ild c151_66 rfl (wp_wk (l' := [none, some (jI x1), none, some (jI (if M p 0 < 1 then (1 : Int) else M p 0)), some (jI (if fx_and x1 1 = 0 then (x2 % (if M p 0 < 1 then (1 : Int) else M p 0) : Int) else ((if M p 0 < 1 then (1 : Int) else M p 0) - 1) - (x2 % (if M p 0 < 1 then (1 : Int) else M p 0)))), none]) ⟨rfl, ⟨rfl, ⟨rfl, trivial⟩⟩⟩ (by have K := K; first | (simp only [if_pos h5] at K ⊢; exact K) | (exfalso; omega))))) (fun (h6 : fx_and x1 2 ≠ 0) => (x_aldn c151_54 rfl (x_gfi c151_55 (kp_1 Hp) (x_ci c151_58 (x_isub c151_59 (x_ild c151_60 rfl (x_isub c151_62 (x_goto c151_63 (wp_wk (l' := [none, some (jI x1), none, some (jI (if M p 0 < 1 then (1 : Int) else M p 0)), some (jI (if fx_and x1 1 = 0 then (x2 % (if M p 0 < 1 then (1 : Int) else M p 0) : Int) else ((if M p 0 < 1 then (1 : Int) else M p 0) - 1) - (x2 % (if M p 0 < 1 then (1 : Int) else M p 0)))), none]) ⟨rfl, ⟨rfl, ⟨rfl, trivial⟩⟩⟩ (by have K := K; first | (simp only [if_neg h6] at K ⊢; exact K) | (exfalso; omega))))))))))))))))); (x_zeq c151_32 (H.2.1 h1).2.2.2.1 (fun (h3 : fx_and x1 1 = 0) => (x_ild c151_44 rfl (wp_wk (l' := [some (jR p), some (jI x1), none, some (jI (if M p 0 < 1 then (1 : Int) else M p 0)), none, some (jI (x2 / (if M p 0 < 1 then (1 : Int) else M p 0)))]) ⟨rfl, ⟨rfl, ⟨rfl, ⟨rfl, trivial⟩⟩⟩⟩ (by have K := K; first | (simp only [if_pos h3] at K ⊢; exact K) | (exfalso; omega))))) (fun (h4 : fx_and x1 1 ≠ 0) => (x_ildn c151_35 rfl (x_ci c151_36 (x_isub c151_37 (x_ild c151_38 rfl (x_isub c151_40 (x_goto c151_41 (wp_wk (l' := [some (jR p), some (jI x1), none, some (jI (if M p 0 < 1 then (1 : Int) else M p 0)), none, some (jI (x2 / (if M p 0 < 1 then (1 : Int) else M p 0)))]) ⟨rfl, ⟨rfl, ⟨rfl, ⟨rfl, trivial⟩⟩⟩⟩ (by have K := K; first | (simp only [if_neg h4] at K ⊢; exact K) | (exfalso; omega))))))))))))))))))))))))))))) (fun h2 => (x_ildn c151_8 rfl (x_irt c151_9 r151 (H.2.2 h2))))))))
theorem s151 {kc : List va_E} {d : Nat} {p : Nat} {x1 x2 : Int} {M : fx_M} {Q : Option fx_V → fx_M → Prop} (Hp : fx_puz p) (H : ((fx_in32 x2) ∧ (fx_in32 (M p 2))) ∧ (x2 < M p 2 → ((fx_in32 (M p 0))) ∧ (((0 : Int) ≤ x2 ∧ x2 ≤ 2147483647) ∧ ((0 : Int) < (if M p 0 < 1 then (1 : Int) else M p 0) ∧ (if M p 0 < 1 then (1 : Int) else M p 0) ≤ 2147483647)) ∧ (((0 : Int) ≤ x2 ∧ x2 ≤ 2147483647) ∧ ((0 : Int) < (if M p 0 < 1 then (1 : Int) else M p 0) ∧ (if M p 0 < 1 then (1 : Int) else M p 0) ≤ 2147483647)) ∧ ((fx_in32 (fx_and x1 1))) ∧ ((fx_in32 (fx_and x1 2))) ∧ ((fx_in32 (fx_and x1 4))) ∧ Q (some (jI (if fx_and x1 4 = 0 then ((if fx_and x1 1 = 0 then (x2 % (if M p 0 < 1 then (1 : Int) else M p 0) : Int) else ((if M p 0 < 1 then (1 : Int) else M p 0) - 1) - (x2 % (if M p 0 < 1 then (1 : Int) else M p 0))) + ((if M p 0 < 1 then (1 : Int) else M p 0) * (if fx_and x1 2 = 0 then (x2 / (if M p 0 < 1 then (1 : Int) else M p 0) : Int) else ((M p 1) - 1) - (x2 / (if M p 0 < 1 then (1 : Int) else M p 0)))) : Int) else (if fx_and x1 2 = 0 then (x2 / (if M p 0 < 1 then (1 : Int) else M p 0) : Int) else ((M p 1) - 1) - (x2 / (if M p 0 < 1 then (1 : Int) else M p 0))) + ((if M p 0 < 1 then (1 : Int) else M p 0) * (if fx_and x1 1 = 0 then (x2 % (if M p 0 < 1 then (1 : Int) else M p 0) : Int) else ((if M p 0 < 1 then (1 : Int) else M p 0) - 1) - (x2 % (if M p 0 < 1 then (1 : Int) else M p 0))))))) M) ∧ (M p 2 ≤ x2 → Q (some (jI x2)) M)) : wc kc (d + 1) 151 [jR p, jI x1, jI x2] M Q :=
  wc_of (wp_wk (l' := [some (jR p), some (jI x1), some (jI x2), none, none, none]) ⟨rfl, ⟨rfl, ⟨rfl, trivial⟩⟩⟩ (s151_0 Hp H))

/- PuzzleHouse$Form.compareTrial()I -/
theorem c152_0 : fx_ci 152 0 = some (0, 1) := by decide +kernel
theorem c152_1 : fx_op 152 1 = some (.istore_n 1, 2, 1) := by decide +kernel
theorem c152_2 : fx_op 152 2 = some (.iload_n 1, 3, 2) := by decide +kernel
theorem c152_3 : fx_op 152 3 = some (.aload_n 0, 4, 3) := by decide +kernel
theorem c152_4 : fx_gf 152 4 = some (7, 6, 7) := by decide +kernel
theorem c152_7 : fx_op 152 7 = some (.if_icmp .ge 54, 10, 61) := by decide +kernel
theorem c152_61 : fx_op 152 61 = some (.aload_n 0, 62, 61) := by decide +kernel
theorem c152_62 : fx_gf 152 62 = some (7, 6, 65) := by decide +kernel
theorem c152_65 : fx_op 152 65 = some (.aload_n 0, 66, 65) := by decide +kernel
theorem c152_66 : fx_gf 152 66 = some (7, 3, 69) := by decide +kernel
theorem c152_10 : fx_op 152 10 = some (.iload_n 1, 11, 10) := by decide +kernel
theorem c152_11 : fx_op 152 11 = some (.aload_n 0, 12, 11) := by decide +kernel
theorem c152_12 : fx_gf 152 12 = some (7, 3, 15) := by decide +kernel
theorem c152_15 : fx_op 152 15 = some (.if_icmp .ge 46, 18, 61) := by decide +kernel
theorem c152_18 : fx_op 152 18 = some (.aload_n 0, 19, 18) := by decide +kernel
theorem c152_19 : fx_gf 152 19 = some (7, 7, 22) := by decide +kernel
theorem c152_22 : fx_op 152 22 = some (.iload_n 1, 23, 22) := by decide +kernel
theorem c152_24 : fx_op 152 24 = some (.aload_n 0, 25, 24) := by decide +kernel
theorem c152_25 : fx_gf 152 25 = some (7, 4, 28) := by decide +kernel
theorem c152_28 : fx_op 152 28 = some (.iload_n 1, 29, 28) := by decide +kernel
theorem c152_30 : fx_op 152 30 = some (.if_icmp .eq 25, 33, 55) := by decide +kernel
theorem c152_55 : fx_op 152 55 = some (.iinc 1 1, 58, 55) := by decide +kernel
theorem c152_33 : fx_op 152 33 = some (.aload_n 0, 34, 33) := by decide +kernel
theorem c152_34 : fx_gf 152 34 = some (7, 7, 37) := by decide +kernel
theorem c152_37 : fx_op 152 37 = some (.iload_n 1, 38, 37) := by decide +kernel
theorem c152_69 : fx_ca 152 69 = some (154, 2, 0, 72) := by decide +kernel
theorem c152_23 : fx_op 152 23 = some (.iaload, 24, 23) := by decide +kernel
theorem c152_29 : fx_op 152 29 = some (.iaload, 30, 29) := by decide +kernel
theorem c152_58 : fx_op 152 58 = some (.goto (-56), 61, 2) := by decide +kernel
theorem c152_38 : fx_op 152 38 = some (.iaload, 39, 38) := by decide +kernel
theorem c152_39 : fx_ca 152 39 = some (153, 1, 0, 42) := by decide +kernel
theorem c152_72 : fx_op 152 72 = some (.ireturn, 73, 72) := by decide +kernel
theorem c152_42 : fx_op 152 42 = some (.aload_n 0, 43, 42) := by decide +kernel
theorem c152_43 : fx_gf 152 43 = some (7, 4, 46) := by decide +kernel
theorem c152_46 : fx_op 152 46 = some (.iload_n 1, 47, 46) := by decide +kernel
theorem c152_47 : fx_op 152 47 = some (.iaload, 48, 47) := by decide +kernel
theorem c152_48 : fx_ca 152 48 = some (153, 1, 0, 51) := by decide +kernel
theorem c152_51 : fx_ca 152 51 = some (154, 2, 0, 54) := by decide +kernel
theorem c152_54 : fx_op 152 54 = some (.ireturn, 55, 54) := by decide +kernel
theorem s152_0 {kc : List va_E} {d : Nat} {f : Nat} {M : fx_M} {Q : Option fx_V → fx_M → Prop} (Hf : fx_frm f) (H : wp kc (d + 1) 152 2 [some (jR f), some (jI 0)] [] M Q) : wp kc (d + 1) 152 0 [some (jR f), none] [] M Q :=
  (x_ci c152_0 (x_istn (l' := [some (jR f), some (jI 0)]) c152_1 rfl (wp_wk (l' := [some (jR f), some (jI 0)]) ⟨rfl, ⟨rfl, trivial⟩⟩ H)))
theorem s152_2 {kc : List va_E} {d : Nat} {f : Nat} {v1 : Int} {M : fx_M} {Q : Option fx_V → fx_M → Prop} (Hf : fx_frm f) (H : ((fx_in32 v1) ∧ (fx_in32 (M f 6))) ∧ (M f 6 ≤ v1 → wc kc d 154 [jI (M f 6), jI (M f 3)] M (fun v M1 => wp kc (d + 1) 152 72 [none, none] (v.toList ++ []) M1 Q)) ∧ (v1 < M f 6 → ((fx_in32 v1) ∧ (fx_in32 (M f 3))) ∧ (M f 3 ≤ v1 → wc kc d 154 [jI (M f 6), jI (M f 3)] M (fun v M1 => wp kc (d + 1) 152 72 [none, none] (v.toList ++ []) M1 Q)) ∧ (v1 < M f 3 → (((0 : Int) ≤ v1 ∧ v1 < 12)) ∧ (((0 : Int) ≤ v1 ∧ v1 < 12)) ∧ ((fx_in32 (M (f + 2) v1)) ∧ (fx_in32 (M (f + 1) v1))) ∧ (M (f + 2) v1 = M (f + 1) v1 → wp kc (d + 1) 152 2 [some (jR f), some (jI (v1 + 1))] [] M Q) ∧ (M (f + 2) v1 ≠ M (f + 1) v1 → (((0 : Int) ≤ v1 ∧ v1 < 12)) ∧ wc kc d 153 [jI (M (f + 2) v1)] M (fun v M1 => wp kc (d + 1) 152 42 [some (jR f), some (jI v1)] (v.toList ++ []) M1 Q))))) : wp kc (d + 1) 152 2 [some (jR f), some (jI v1)] [] M Q :=
  (x_ildn c152_2 rfl (x_aldn c152_3 rfl (x_gfi c152_4 (kf_6 Hf) (x_cge c152_7 H.1.1 H.1.2 (fun h5 => (x_aldn c152_61 rfl (x_gfi c152_62 (kf_6 Hf) (x_aldn c152_65 rfl (x_gfi c152_66 (kf_3 Hf) (wp_wk (l' := [none, none]) trivial (x_cs (As := [jI (M f 6), jI (M f 3)]) (st := []) c152_69 (by decide) rfl (Nat.le_of_ble_eq_true rfl) mx154 (Nat.le_refl _) (H.2.1 h5)))))))) (fun h6 => (x_ildn c152_10 rfl (x_aldn c152_11 rfl (x_gfi c152_12 (kf_3 Hf) (x_cge c152_15 (H.2.2 h6).1.1 (H.2.2 h6).1.2 (fun h3 => (x_aldn c152_61 rfl (x_gfi c152_62 (kf_6 Hf) (x_aldn c152_65 rfl (x_gfi c152_66 (kf_3 Hf) (wp_wk (l' := [none, none]) trivial (x_cs (As := [jI (M f 6), jI (M f 3)]) (st := []) c152_69 (by decide) rfl (Nat.le_of_ble_eq_true rfl) mx154 (Nat.le_refl _) ((H.2.2 h6).2.1 h3)))))))) (fun h4 => (x_aldn c152_18 rfl (x_gfr c152_19 (kf_7 Hf) (x_ildn c152_22 rfl (x_iald c152_23 (af_2 Hf) ((H.2.2 h6).2.2 h4).1 (by decide) (x_aldn c152_24 rfl (x_gfr c152_25 (kf_4 Hf) (x_ildn c152_28 rfl (x_iald c152_29 (af_1 Hf) ((H.2.2 h6).2.2 h4).2.1 (by decide) (x_ceq c152_30 ((H.2.2 h6).2.2 h4).2.2.1.1 ((H.2.2 h6).2.2 h4).2.2.1.2 (fun h1 => (x_inc (l' := [some (jR f), some (jI (v1 + 1))]) c152_55 rfl rfl (x_goto c152_58 (wp_wk (l' := [some (jR f), some (jI (v1 + 1))]) ⟨rfl, ⟨rfl, trivial⟩⟩ (((H.2.2 h6).2.2 h4).2.2.2.1 h1))))) (fun h2 => (x_aldn c152_33 rfl (x_gfr c152_34 (kf_7 Hf) (x_ildn c152_37 rfl (x_iald c152_38 (af_2 Hf) (((H.2.2 h6).2.2 h4).2.2.2.2 h2).1 (by decide) (wp_wk (l' := [some (jR f), some (jI v1)]) ⟨rfl, ⟨rfl, trivial⟩⟩ (x_cs (As := [jI (M (f + 2) v1)]) (st := []) c152_39 (by decide) rfl (Nat.le_of_ble_eq_true rfl) mx153 (Nat.le_refl _) (((H.2.2 h6).2.2 h4).2.2.2.2 h2).2))))))))))))))))))))))))))
theorem s152_42 {kc : List va_E} {d : Nat} {f : Nat} {v1 u0 : Int} {M : fx_M} {Q : Option fx_V → fx_M → Prop} (Hf : fx_frm f) (H : (((0 : Int) ≤ v1 ∧ v1 < 12)) ∧ wc kc d 153 [jI (M (f + 1) v1)] M (fun v M1 => wp kc (d + 1) 152 51 [none, none] (v.toList ++ [jI u0]) M1 Q)) : wp kc (d + 1) 152 42 [some (jR f), some (jI v1)] [jI u0] M Q :=
  (x_aldn c152_42 rfl (x_gfr c152_43 (kf_4 Hf) (x_ildn c152_46 rfl (x_iald c152_47 (af_1 Hf) H.1 (by decide) (wp_wk (l' := [none, none]) trivial (x_cs (As := [jI (M (f + 1) v1)]) (st := [jI u0]) c152_48 (by decide) rfl (Nat.le_of_ble_eq_true rfl) mx153 (Nat.le_refl _) H.2))))))
theorem s152_51 {kc : List va_E} {d : Nat} {f : Nat} {u0 u1 : Int} {M : fx_M} {Q : Option fx_V → fx_M → Prop} (Hf : fx_frm f) (H : wc kc d 154 [jI u1, jI u0] M (fun v M1 => wp kc (d + 1) 152 54 [none, none] (v.toList ++ []) M1 Q)) : wp kc (d + 1) 152 51 [none, none] [jI u0, jI u1] M Q :=
  (wp_wk (l' := [none, none]) trivial (x_cs (As := [jI u1, jI u0]) (st := []) c152_51 (by decide) rfl (Nat.le_of_ble_eq_true rfl) mx154 (Nat.le_refl _) H))
theorem s152_54 {kc : List va_E} {d : Nat} {f : Nat} {u0 : Int} {M : fx_M} {Q : Option fx_V → fx_M → Prop} (Hf : fx_frm f) (H : Q (some (jI u0)) M) : wp kc (d + 1) 152 54 [none, none] [jI u0] M Q :=
  (x_irt c152_54 r152 H)
theorem s152_72 {kc : List va_E} {d : Nat} {f : Nat} {u0 : Int} {M : fx_M} {Q : Option fx_V → fx_M → Prop} (Hf : fx_frm f) (H : Q (some (jI u0)) M) : wp kc (d + 1) 152 72 [none, none] [jI u0] M Q :=
  (x_irt c152_72 r152 H)
theorem s152 {kc : List va_E} {d : Nat} {f : Nat} {M : fx_M} {Q : Option fx_V → fx_M → Prop} (Hf : fx_frm f) (H : wp kc (d + 1) 152 2 [some (jR f), some (jI 0)] [] M Q) : wc kc (d + 1) 152 [jR f] M Q :=
  wc_of (wp_wk (l' := [some (jR f), none]) ⟨rfl, trivial⟩ (s152_0 Hf H))

/- PuzzleHouse$Form.closed(I)I -/
theorem c153_0 : fx_op 153 0 = some (.iload_n 0, 1, 0) := by decide +kernel
theorem c153_1 : fx_op 153 1 = some (.istore_n 1, 2, 1) := by decide +kernel
theorem c153_2 : fx_ci 153 2 = some (0, 3) := by decide +kernel
theorem c153_3 : fx_op 153 3 = some (.istore_n 2, 4, 3) := by decide +kernel
theorem c153_4 : fx_op 153 4 = some (.iload_n 2, 5, 4) := by decide +kernel
theorem c153_5 : fx_ci 153 5 = some (16, 7) := by decide +kernel
theorem c153_7 : fx_op 153 7 = some (.if_icmp .ge 29, 10, 36) := by decide +kernel
theorem c153_10 : fx_op 153 10 = some (.iload_n 1, 11, 10) := by decide +kernel
theorem c153_11 : fx_op 153 11 = some (.iload_n 0, 12, 11) := by decide +kernel
theorem c153_12 : fx_op 153 12 = some (.iload_n 2, 13, 12) := by decide +kernel
theorem c153_13 : fx_op 153 13 = some (.ishr, 14, 13) := by decide +kernel
theorem c153_14 : fx_ci 153 14 = some (15, 16) := by decide +kernel
theorem c153_16 : fx_op 153 16 = some (.iand, 17, 16) := by decide +kernel
theorem c153_17 : fx_op 153 17 = some (.ifCond .ne 10, 20, 27) := by decide +kernel
theorem c153_27 : fx_ci 153 27 = some (0, 28) := by decide +kernel
theorem c153_28 : fx_op 153 28 = some (.ior, 29, 28) := by decide +kernel
theorem c153_29 : fx_op 153 29 = some (.istore_n 1, 30, 29) := by decide +kernel
theorem c153_30 : fx_op 153 30 = some (.iinc 2 4, 33, 30) := by decide +kernel
theorem c153_36 : fx_op 153 36 = some (.iload_n 1, 37, 36) := by decide +kernel
theorem c153_20 : fx_ci 153 20 = some (15, 22) := by decide +kernel
theorem c153_22 : fx_op 153 22 = some (.iload_n 2, 23, 22) := by decide +kernel
theorem c153_23 : fx_op 153 23 = some (.ishl, 24, 23) := by decide +kernel
theorem c153_24 : fx_op 153 24 = some (.goto 4, 27, 28) := by decide +kernel
theorem c153_37 : fx_op 153 37 = some (.ireturn, 38, 37) := by decide +kernel
theorem c153_33 : fx_op 153 33 = some (.goto (-29), 36, 4) := by decide +kernel
theorem s153_0 {kc : List va_E} {d : Nat} {x0 : Int} {M : fx_M} {Q : Option fx_V → fx_M → Prop} (H : wp kc (d + 1) 153 4 [some (jI x0), some (jI x0), some (jI 0)] [] M Q) : wp kc (d + 1) 153 0 [some (jI x0), none, none] [] M Q :=
  (x_ildn c153_0 rfl (x_istn (l' := [some (jI x0), some (jI x0), none]) c153_1 rfl (x_ci c153_2 (x_istn (l' := [some (jI x0), some (jI x0), some (jI 0)]) c153_3 rfl (wp_wk (l' := [some (jI x0), some (jI x0), some (jI 0)]) ⟨rfl, ⟨rfl, ⟨rfl, trivial⟩⟩⟩ H)))))
theorem s153_4 {kc : List va_E} {d : Nat} {v0 v1 v2 : Int} {M : fx_M} {Q : Option fx_V → fx_M → Prop} (H : ((fx_in32 v2)) ∧ (16 ≤ v2 → Q (some (jI v1)) M) ∧ (v2 < 16 → ((fx_in32 (fx_and (fx_shr v0 v2) 15))) ∧ wp kc (d + 1) 153 4 [some (jI v0), some (jI (fx_or v1 (if fx_and (fx_shr v0 v2) 15 = 0 then (fx_shl 15 v2 : Int) else 0))), some (jI (v2 + 4))] [] M Q)) : wp kc (d + 1) 153 4 [some (jI v0), some (jI v1), some (jI v2)] [] M Q :=
  (x_ildn c153_4 rfl (x_ci c153_5 (x_cge c153_7 H.1 (by decide) (fun h1 => (x_ildn c153_36 rfl (x_irt c153_37 r153 (H.2.1 h1)))) (fun h2 => (x_ildn c153_10 rfl (x_ildn c153_11 rfl (x_ildn c153_12 rfl (x_ishr c153_13 (x_ci c153_14 (x_iand c153_16 (have K : wp kc (d + 1) 153 28 [some (jI v0), none, some (jI v2)] [jI (if fx_and (fx_shr v0 v2) 15 = 0 then (fx_shl 15 v2 : Int) else 0), jI v1] M Q := (x_ior c153_28 (x_istn (l' := [some (jI v0), some (jI (fx_or v1 (if fx_and (fx_shr v0 v2) 15 = 0 then (fx_shl 15 v2 : Int) else 0))), some (jI v2)]) c153_29 rfl (x_inc (l' := [some (jI v0), some (jI (fx_or v1 (if fx_and (fx_shr v0 v2) 15 = 0 then (fx_shl 15 v2 : Int) else 0))), some (jI (v2 + 4))]) c153_30 rfl rfl (x_goto c153_33 (wp_wk (l' := [some (jI v0), some (jI (fx_or v1 (if fx_and (fx_shr v0 v2) 15 = 0 then (fx_shl 15 v2 : Int) else 0))), some (jI (v2 + 4))]) ⟨rfl, ⟨rfl, ⟨rfl, trivial⟩⟩⟩ (H.2.2 h2).2))))); (x_zne c153_17 (H.2.2 h2).1 (fun (h3 : fx_and (fx_shr v0 v2) 15 ≠ 0) => (x_ci c153_27 (wp_wk (l' := [some (jI v0), none, some (jI v2)]) ⟨rfl, ⟨rfl, trivial⟩⟩ (by have K := K; first | (simp only [if_neg h3] at K ⊢; exact K) | (exfalso; omega))))) (fun (h4 : fx_and (fx_shr v0 v2) 15 = 0) => (x_ci c153_20 (x_ildn c153_22 rfl (x_ishl c153_23 (x_goto c153_24 (wp_wk (l' := [some (jI v0), none, some (jI v2)]) ⟨rfl, ⟨rfl, trivial⟩⟩ (by have K := K; first | (simp only [if_pos h4] at K ⊢; exact K) | (exfalso; omega))))))))))))))))))))
theorem s153 {kc : List va_E} {d : Nat} {x0 : Int} {M : fx_M} {Q : Option fx_V → fx_M → Prop} (H : wp kc (d + 1) 153 4 [some (jI x0), some (jI x0), some (jI 0)] [] M Q) : wc kc (d + 1) 153 [jI x0] M Q :=
  wc_of (wp_wk (l' := [some (jI x0), none, none]) ⟨rfl, trivial⟩ (s153_0 H))

/- PuzzleHouse$Form.rename(II)V -/
theorem c155_0 : fx_ci 155 0 = some (15, 2) := by decide +kernel
theorem c155_2 : fx_op 155 2 = some (.istore_n 3, 3, 2) := by decide +kernel
theorem c155_3 : fx_op 155 3 = some (.iload_n 1, 4, 3) := by decide +kernel
theorem c155_4 : fx_op 155 4 = some (.istore 4, 6, 4) := by decide +kernel
theorem c155_6 : fx_ci 155 6 = some (1, 7) := by decide +kernel
theorem c155_7 : fx_op 155 7 = some (.istore 5, 9, 7) := by decide +kernel
theorem c155_9 : fx_ci 155 9 = some (2, 10) := by decide +kernel
theorem c155_10 : fx_op 155 10 = some (.istore 6, 12, 10) := by decide +kernel
theorem c155_12 : fx_op 155 12 = some (.iload 6, 14, 12) := by decide +kernel
theorem c155_14 : fx_op 155 14 = some (.iload_n 2, 15, 14) := by decide +kernel
theorem c155_15 : fx_op 155 15 = some (.if_icmp .ge 16, 18, 31) := by decide +kernel
theorem c155_18 : fx_op 155 18 = some (.iload 5, 20, 18) := by decide +kernel
theorem c155_20 : fx_op 155 20 = some (.iload 6, 22, 20) := by decide +kernel
theorem c155_22 : fx_op 155 22 = some (.imul, 23, 22) := by decide +kernel
theorem c155_23 : fx_op 155 23 = some (.istore 5, 25, 23) := by decide +kernel
theorem c155_25 : fx_op 155 25 = some (.iinc 6 1, 28, 25) := by decide +kernel
theorem c155_31 : fx_ci 155 31 = some (0, 32) := by decide +kernel
theorem c155_32 : fx_op 155 32 = some (.istore 6, 34, 32) := by decide +kernel
theorem c155_28 : fx_op 155 28 = some (.goto (-16), 31, 12) := by decide +kernel
theorem c155_34 : fx_op 155 34 = some (.iload 6, 36, 34) := by decide +kernel
theorem c155_36 : fx_op 155 36 = some (.iload_n 2, 37, 36) := by decide +kernel
theorem c155_37 : fx_op 155 37 = some (.if_icmp .ge 117, 40, 154) := by decide +kernel
theorem c155_40 : fx_op 155 40 = some (.iload 6, 42, 40) := by decide +kernel
theorem c155_42 : fx_op 155 42 = some (.aload_n 0, 43, 42) := by decide +kernel
theorem c155_43 : fx_gf 155 43 = some (7, 8, 46) := by decide +kernel
theorem c155_46 : fx_op 155 46 = some (.arraylength, 47, 46) := by decide +kernel
theorem c155_47 : fx_op 155 47 = some (.if_icmp .ge 107, 50, 154) := by decide +kernel
theorem c155_50 : fx_op 155 50 = some (.iload 4, 52, 50) := by decide +kernel
theorem c155_52 : fx_op 155 52 = some (.iload 5, 54, 52) := by decide +kernel
theorem c155_54 : fx_ci 155 54 = some (1, 55) := by decide +kernel
theorem c155_55 : fx_nt 155 55 = some (1, 58) := by decide +kernel
theorem c155_58 : fx_op 155 58 = some (.idiv, 59, 58) := by decide +kernel
theorem c155_59 : fx_op 155 59 = some (.istore 7, 61, 59) := by decide +kernel
theorem c155_61 : fx_op 155 61 = some (.iload 4, 63, 61) := by decide +kernel
theorem c155_63 : fx_op 155 63 = some (.iload 7, 65, 63) := by decide +kernel
theorem c155_65 : fx_op 155 65 = some (.iload 5, 67, 65) := by decide +kernel
theorem c155_67 : fx_op 155 67 = some (.imul, 68, 67) := by decide +kernel
theorem c155_68 : fx_op 155 68 = some (.isub, 69, 68) := by decide +kernel
theorem c155_69 : fx_op 155 69 = some (.istore 4, 71, 69) := by decide +kernel
theorem c155_71 : fx_op 155 71 = some (.iload 5, 73, 71) := by decide +kernel
theorem c155_73 : fx_op 155 73 = some (.iload_n 2, 74, 73) := by decide +kernel
theorem c155_74 : fx_ci 155 74 = some (1, 75) := by decide +kernel
theorem c155_75 : fx_op 155 75 = some (.isub, 76, 75) := by decide +kernel
theorem c155_76 : fx_op 155 76 = some (.iload 6, 78, 76) := by decide +kernel
theorem c155_78 : fx_op 155 78 = some (.isub, 79, 78) := by decide +kernel
theorem c155_79 : fx_ci 155 79 = some (1, 80) := by decide +kernel
theorem c155_80 : fx_nt 155 80 = some (1, 83) := by decide +kernel
theorem c155_83 : fx_op 155 83 = some (.idiv, 84, 83) := by decide +kernel
theorem c155_84 : fx_op 155 84 = some (.istore 5, 86, 84) := by decide +kernel
theorem c155_86 : fx_op 155 86 = some (.iload_n 3, 87, 86) := by decide +kernel
theorem c155_87 : fx_op 155 87 = some (.istore 8, 89, 87) := by decide +kernel
theorem c155_89 : fx_ci 155 89 = some (0, 90) := by decide +kernel
theorem c155_90 : fx_op 155 90 = some (.istore 9, 92, 90) := by decide +kernel
theorem c155_154 : fx_op 155 154 = some (.return_, 155, 154) := by decide +kernel
theorem c155_92 : fx_op 155 92 = some (.iload 9, 94, 92) := by decide +kernel
theorem c155_94 : fx_op 155 94 = some (.iload 7, 96, 94) := by decide +kernel
theorem c155_96 : fx_op 155 96 = some (.if_icmp .ge 24, 99, 120) := by decide +kernel
theorem c155_99 : fx_op 155 99 = some (.iload 9, 101, 99) := by decide +kernel
theorem c155_101 : fx_ci 155 101 = some (4, 102) := by decide +kernel
theorem c155_102 : fx_op 155 102 = some (.if_icmp .ge 18, 105, 120) := by decide +kernel
theorem c155_105 : fx_op 155 105 = some (.iload 8, 107, 105) := by decide +kernel
theorem c155_107 : fx_op 155 107 = some (.iload 8, 109, 107) := by decide +kernel
theorem c155_109 : fx_ci 155 109 = some (1, 110) := by decide +kernel
theorem c155_110 : fx_op 155 110 = some (.isub, 111, 110) := by decide +kernel
theorem c155_111 : fx_op 155 111 = some (.iand, 112, 111) := by decide +kernel
theorem c155_112 : fx_op 155 112 = some (.istore 8, 114, 112) := by decide +kernel
theorem c155_114 : fx_op 155 114 = some (.iinc 9 1, 117, 114) := by decide +kernel
theorem c155_120 : fx_op 155 120 = some (.aload_n 0, 121, 120) := by decide +kernel
theorem c155_121 : fx_gf 155 121 = some (7, 8, 124) := by decide +kernel
theorem c155_124 : fx_op 155 124 = some (.iload 6, 126, 124) := by decide +kernel
theorem c155_126 : fx_op 155 126 = some (.iload 8, 128, 126) := by decide +kernel
theorem c155_128 : fx_ca 155 128 = some (87, 1, 1, 131) := by decide +kernel
theorem c155_117 : fx_op 155 117 = some (.goto (-25), 120, 92) := by decide +kernel
theorem c155_131 : fx_ci 155 131 = some (3, 132) := by decide +kernel
theorem c155_132 : fx_op 155 132 = some (.iand, 133, 132) := by decide +kernel
theorem c155_134 : fx_op 155 134 = some (.iload_n 3, 135, 134) := by decide +kernel
theorem c155_135 : fx_ci 155 135 = some (1, 136) := by decide +kernel
theorem c155_136 : fx_op 155 136 = some (.aload_n 0, 137, 136) := by decide +kernel
theorem c155_137 : fx_gf 155 137 = some (7, 8, 140) := by decide +kernel
theorem c155_140 : fx_op 155 140 = some (.iload 6, 142, 140) := by decide +kernel
theorem c155_143 : fx_op 155 143 = some (.ishl, 144, 143) := by decide +kernel
theorem c155_144 : fx_ci 155 144 = some ((-1), 145) := by decide +kernel
theorem c155_145 : fx_op 155 145 = some (.ixor, 146, 145) := by decide +kernel
theorem c155_146 : fx_op 155 146 = some (.iand, 147, 146) := by decide +kernel
theorem c155_147 : fx_op 155 147 = some (.istore_n 3, 148, 147) := by decide +kernel
theorem c155_148 : fx_op 155 148 = some (.iinc 6 1, 151, 148) := by decide +kernel
theorem c155_133 : fx_op 155 133 = some (.iastore, 134, 133) := by decide +kernel
theorem c155_142 : fx_op 155 142 = some (.iaload, 143, 142) := by decide +kernel
theorem c155_151 : fx_op 155 151 = some (.goto (-117), 154, 34) := by decide +kernel
theorem n155_55 : xS 155 ((xI 155 55).getD .nop) = none := by decide +kernel
theorem n155_80 : xS 155 ((xI 155 80).getD .nop) = none := by decide +kernel
theorem s155_0 {kc : List va_E} {d : Nat} {f : Nat} {x1 x2 : Int} {M : fx_M} {Q : Option fx_V → fx_M → Prop} (Hf : fx_frm f) (H : wp kc (d + 1) 155 12 [some (jR f), none, some (jI x2), some (jI 15), some (jI x1), some (jI 1), some (jI 2), none, none, none] [] M Q) : wp kc (d + 1) 155 0 [some (jR f), some (jI x1), some (jI x2), none, none, none, none, none, none, none] [] M Q :=
  (x_ci c155_0 (x_istn (l' := [some (jR f), some (jI x1), some (jI x2), some (jI 15), none, none, none, none, none, none]) c155_2 rfl (x_ildn c155_3 rfl (x_ist (l' := [some (jR f), some (jI x1), some (jI x2), some (jI 15), some (jI x1), none, none, none, none, none]) c155_4 rfl (x_ci c155_6 (x_ist (l' := [some (jR f), some (jI x1), some (jI x2), some (jI 15), some (jI x1), some (jI 1), none, none, none, none]) c155_7 rfl (x_ci c155_9 (x_ist (l' := [some (jR f), some (jI x1), some (jI x2), some (jI 15), some (jI x1), some (jI 1), some (jI 2), none, none, none]) c155_10 rfl (wp_wk (l' := [some (jR f), none, some (jI x2), some (jI 15), some (jI x1), some (jI 1), some (jI 2), none, none, none]) ⟨rfl, ⟨rfl, ⟨rfl, ⟨rfl, ⟨rfl, ⟨rfl, trivial⟩⟩⟩⟩⟩⟩ H)))))))))
theorem s155_12 {kc : List va_E} {d : Nat} {f : Nat} {v2 v3 v4 v5 v6 : Int} {M : fx_M} {Q : Option fx_V → fx_M → Prop} (Hf : fx_frm f) (H : ((fx_in32 v6) ∧ (fx_in32 v2)) ∧ (v2 ≤ v6 → wp kc (d + 1) 155 34 [some (jR f), none, some (jI v2), some (jI v3), some (jI v4), some (jI v5), some (jI 0), none, none, none] [] M Q) ∧ (v6 < v2 → wp kc (d + 1) 155 12 [some (jR f), none, some (jI v2), some (jI v3), some (jI v4), some (jI (v5 * v6)), some (jI (v6 + 1)), none, none, none] [] M Q)) : wp kc (d + 1) 155 12 [some (jR f), none, some (jI v2), some (jI v3), some (jI v4), some (jI v5), some (jI v6), none, none, none] [] M Q :=
  (x_ild c155_12 rfl (x_ildn c155_14 rfl (x_cge c155_15 H.1.1 H.1.2 (fun h1 => (x_ci c155_31 (x_ist (l' := [some (jR f), none, some (jI v2), some (jI v3), some (jI v4), some (jI v5), some (jI 0), none, none, none]) c155_32 rfl (wp_wk (l' := [some (jR f), none, some (jI v2), some (jI v3), some (jI v4), some (jI v5), some (jI 0), none, none, none]) ⟨rfl, ⟨rfl, ⟨rfl, ⟨rfl, ⟨rfl, ⟨rfl, trivial⟩⟩⟩⟩⟩⟩ (H.2.1 h1))))) (fun h2 => (x_ild c155_18 rfl (x_ild c155_20 rfl (x_imul c155_22 (x_ist (l' := [some (jR f), none, some (jI v2), some (jI v3), some (jI v4), some (jI (v5 * v6)), some (jI v6), none, none, none]) c155_23 rfl (x_inc (l' := [some (jR f), none, some (jI v2), some (jI v3), some (jI v4), some (jI (v5 * v6)), some (jI (v6 + 1)), none, none, none]) c155_25 rfl rfl (x_goto c155_28 (wp_wk (l' := [some (jR f), none, some (jI v2), some (jI v3), some (jI v4), some (jI (v5 * v6)), some (jI (v6 + 1)), none, none, none]) ⟨rfl, ⟨rfl, ⟨rfl, ⟨rfl, ⟨rfl, ⟨rfl, trivial⟩⟩⟩⟩⟩⟩ (H.2.2 h2))))))))))))
theorem s155_34 {kc : List va_E} {d : Nat} {f : Nat} {v2 v3 v4 v5 v6 : Int} {M : fx_M} {Q : Option fx_V → fx_M → Prop} (Hf : fx_frm f) (H : ((fx_in32 v6) ∧ (fx_in32 v2)) ∧ (v2 ≤ v6 → Q none M) ∧ (v6 < v2 → ((fx_in32 v6)) ∧ (4 ≤ v6 → Q none M) ∧ (v6 < 4 → ((fx_in32 v5)) ∧ (((0 : Int) ≤ v4 ∧ v4 ≤ 2147483647) ∧ ((0 : Int) < (if v5 < 1 then (1 : Int) else v5) ∧ (if v5 < 1 then (1 : Int) else v5) ≤ 2147483647)) ∧ ((fx_in32 ((v2 - 1) - v6))) ∧ (((0 : Int) ≤ v5 ∧ v5 ≤ 2147483647) ∧ ((0 : Int) < (if (v2 - 1) - v6 < 1 then (1 : Int) else (v2 - 1) - v6) ∧ (if (v2 - 1) - v6 < 1 then (1 : Int) else (v2 - 1) - v6) ≤ 2147483647)) ∧ wp kc (d + 1) 155 92 [some (jR f), none, some (jI v2), some (jI v3), some (jI (v4 - ((v4 / (if v5 < 1 then (1 : Int) else v5)) * v5))), some (jI (v5 / (if (v2 - 1) - v6 < 1 then (1 : Int) else (v2 - 1) - v6))), some (jI v6), some (jI (v4 / (if v5 < 1 then (1 : Int) else v5))), some (jI v3), some (jI 0)] [] M Q))) : wp kc (d + 1) 155 34 [some (jR f), none, some (jI v2), some (jI v3), some (jI v4), some (jI v5), some (jI v6), none, none, none] [] M Q :=
  (x_ild c155_34 rfl (x_ildn c155_36 rfl (x_cge c155_37 H.1.1 H.1.2 (fun h3 => (x_vr c155_154 r155 (H.2.1 h3))) (fun h4 => (x_ild c155_40 rfl (x_aldn c155_42 rfl (x_gfr c155_43 (kf_8 Hf) (x_len c155_46 (af_3 Hf) (x_cge c155_47 (H.2.2 h4).1 (by decide) (fun h1 => (x_vr c155_154 r155 ((H.2.2 h4).2.1 h1))) (fun h2 => (x_ild c155_50 rfl (x_ild c155_52 rfl (x_ci c155_54 (x_max c155_55 n155_55 ((H.2.2 h4).2.2 h2).1 (by decide) (Nat.le_of_ble_eq_true rfl) (x_idiv c155_58 ((H.2.2 h4).2.2 h2).2.1.1 ((H.2.2 h4).2.2 h2).2.1.2 (x_ist (l' := [some (jR f), none, some (jI v2), some (jI v3), some (jI v4), some (jI v5), some (jI v6), some (jI (v4 / (if v5 < 1 then (1 : Int) else v5))), none, none]) c155_59 rfl (x_ild c155_61 rfl (x_ild c155_63 rfl (x_ild c155_65 rfl (x_imul c155_67 (x_isub c155_68 (x_ist (l' := [some (jR f), none, some (jI v2), some (jI v3), some (jI (v4 - ((v4 / (if v5 < 1 then (1 : Int) else v5)) * v5))), some (jI v5), some (jI v6), some (jI (v4 / (if v5 < 1 then (1 : Int) else v5))), none, none]) c155_69 rfl (x_ild c155_71 rfl (x_ildn c155_73 rfl (x_ci c155_74 (x_isub c155_75 (x_ild c155_76 rfl (x_isub c155_78 (x_ci c155_79 (x_max c155_80 n155_80 ((H.2.2 h4).2.2 h2).2.2.1 (by decide) (Nat.le_of_ble_eq_true rfl) (x_idiv c155_83 ((H.2.2 h4).2.2 h2).2.2.2.1.1 ((H.2.2 h4).2.2 h2).2.2.2.1.2 (x_ist (l' := [some (jR f), none, some (jI v2), some (jI v3), some (jI (v4 - ((v4 / (if v5 < 1 then (1 : Int) else v5)) * v5))), some (jI (v5 / (if (v2 - 1) - v6 < 1 then (1 : Int) else (v2 - 1) - v6))), some (jI v6), some (jI (v4 / (if v5 < 1 then (1 : Int) else v5))), none, none]) c155_84 rfl (x_ildn c155_86 rfl (x_ist (l' := [some (jR f), none, some (jI v2), some (jI v3), some (jI (v4 - ((v4 / (if v5 < 1 then (1 : Int) else v5)) * v5))), some (jI (v5 / (if (v2 - 1) - v6 < 1 then (1 : Int) else (v2 - 1) - v6))), some (jI v6), some (jI (v4 / (if v5 < 1 then (1 : Int) else v5))), some (jI v3), none]) c155_87 rfl (x_ci c155_89 (x_ist (l' := [some (jR f), none, some (jI v2), some (jI v3), some (jI (v4 - ((v4 / (if v5 < 1 then (1 : Int) else v5)) * v5))), some (jI (v5 / (if (v2 - 1) - v6 < 1 then (1 : Int) else (v2 - 1) - v6))), some (jI v6), some (jI (v4 / (if v5 < 1 then (1 : Int) else v5))), some (jI v3), some (jI 0)]) c155_90 rfl (wp_wk (l' := [some (jR f), none, some (jI v2), some (jI v3), some (jI (v4 - ((v4 / (if v5 < 1 then (1 : Int) else v5)) * v5))), some (jI (v5 / (if (v2 - 1) - v6 < 1 then (1 : Int) else (v2 - 1) - v6))), some (jI v6), some (jI (v4 / (if v5 < 1 then (1 : Int) else v5))), some (jI v3), some (jI 0)]) ⟨rfl, ⟨rfl, ⟨rfl, ⟨rfl, ⟨rfl, ⟨rfl, ⟨rfl, ⟨rfl, ⟨rfl, trivial⟩⟩⟩⟩⟩⟩⟩⟩⟩ ((H.2.2 h4).2.2 h2).2.2.2.2)))))))))))))))))))))))))))))))))))))
theorem s155_92 {kc : List va_E} {d : Nat} {f : Nat} {v2 v3 v4 v5 v6 v7 v8 v9 : Int} {M : fx_M} {Q : Option fx_V → fx_M → Prop} (Hf : fx_frm f) (H : ((fx_in32 v9) ∧ (fx_in32 v7)) ∧ (v7 ≤ v9 → wc kc d 87 [jI v8] M (fun v M1 => wp kc (d + 1) 155 131 [some (jR f), none, some (jI v2), some (jI v3), some (jI v4), some (jI v5), some (jI v6), none, none, none] (v.toList ++ [jI v6, jR (f + 3)]) M1 Q)) ∧ (v9 < v7 → ((fx_in32 v9)) ∧ (4 ≤ v9 → wc kc d 87 [jI v8] M (fun v M1 => wp kc (d + 1) 155 131 [some (jR f), none, some (jI v2), some (jI v3), some (jI v4), some (jI v5), some (jI v6), none, none, none] (v.toList ++ [jI v6, jR (f + 3)]) M1 Q)) ∧ (v9 < 4 → wp kc (d + 1) 155 92 [some (jR f), none, some (jI v2), some (jI v3), some (jI v4), some (jI v5), some (jI v6), some (jI v7), some (jI (fx_and v8 (v8 - 1))), some (jI (v9 + 1))] [] M Q))) : wp kc (d + 1) 155 92 [some (jR f), none, some (jI v2), some (jI v3), some (jI v4), some (jI v5), some (jI v6), some (jI v7), some (jI v8), some (jI v9)] [] M Q :=
  (x_ild c155_92 rfl (x_ild c155_94 rfl (x_cge c155_96 H.1.1 H.1.2 (fun h3 => (x_aldn c155_120 rfl (x_gfr c155_121 (kf_8 Hf) (x_ild c155_124 rfl (x_ild c155_126 rfl (wp_wk (l' := [some (jR f), none, some (jI v2), some (jI v3), some (jI v4), some (jI v5), some (jI v6), none, none, none]) ⟨rfl, ⟨rfl, ⟨rfl, ⟨rfl, ⟨rfl, ⟨rfl, trivial⟩⟩⟩⟩⟩⟩ (x_cs (As := [jI v8]) (st := [jI v6, jR (f + 3)]) c155_128 (by decide) rfl (Nat.le_of_ble_eq_true rfl) mx87 (Nat.le_refl _) (H.2.1 h3)))))))) (fun h4 => (x_ild c155_99 rfl (x_ci c155_101 (x_cge c155_102 (H.2.2 h4).1 (by decide) (fun h1 => (x_aldn c155_120 rfl (x_gfr c155_121 (kf_8 Hf) (x_ild c155_124 rfl (x_ild c155_126 rfl (wp_wk (l' := [some (jR f), none, some (jI v2), some (jI v3), some (jI v4), some (jI v5), some (jI v6), none, none, none]) ⟨rfl, ⟨rfl, ⟨rfl, ⟨rfl, ⟨rfl, ⟨rfl, trivial⟩⟩⟩⟩⟩⟩ (x_cs (As := [jI v8]) (st := [jI v6, jR (f + 3)]) c155_128 (by decide) rfl (Nat.le_of_ble_eq_true rfl) mx87 (Nat.le_refl _) ((H.2.2 h4).2.1 h1)))))))) (fun h2 => (x_ild c155_105 rfl (x_ild c155_107 rfl (x_ci c155_109 (x_isub c155_110 (x_iand c155_111 (x_ist (l' := [some (jR f), none, some (jI v2), some (jI v3), some (jI v4), some (jI v5), some (jI v6), some (jI v7), some (jI (fx_and v8 (v8 - 1))), some (jI v9)]) c155_112 rfl (x_inc (l' := [some (jR f), none, some (jI v2), some (jI v3), some (jI v4), some (jI v5), some (jI v6), some (jI v7), some (jI (fx_and v8 (v8 - 1))), some (jI (v9 + 1))]) c155_114 rfl rfl (x_goto c155_117 (wp_wk (l' := [some (jR f), none, some (jI v2), some (jI v3), some (jI v4), some (jI v5), some (jI v6), some (jI v7), some (jI (fx_and v8 (v8 - 1))), some (jI (v9 + 1))]) ⟨rfl, ⟨rfl, ⟨rfl, ⟨rfl, ⟨rfl, ⟨rfl, ⟨rfl, ⟨rfl, ⟨rfl, trivial⟩⟩⟩⟩⟩⟩⟩⟩⟩ ((H.2.2 h4).2.2 h2))))))))))))))))))
theorem s155_131 {kc : List va_E} {d : Nat} {f : Nat} {v2 v3 v4 v5 v6 u0 u1 : Int} {M : fx_M} {Q : Option fx_V → fx_M → Prop} (Hf : fx_frm f) (H : (((0 : Int) ≤ u1 ∧ u1 < 4)) ∧ (((0 : Int) ≤ v6 ∧ v6 < 4)) ∧ wp kc (d + 1) 155 34 [some (jR f), none, some (jI v2), some (jI (fx_and v3 (fx_xor (fx_shl 1 ((fx_up M (f + 3) u1 (fx_and u0 3)) (f + 3) v6)) (-1)))), some (jI v4), some (jI v5), some (jI (v6 + 1)), none, none, none] [] (fx_up M (f + 3) u1 (fx_and u0 3)) Q) : wp kc (d + 1) 155 131 [some (jR f), none, some (jI v2), some (jI v3), some (jI v4), some (jI v5), some (jI v6), none, none, none] [jI u0, jI u1, jR (f + 3)] M Q :=
  (x_ci c155_131 (x_iand c155_132 (x_iast c155_133 (af_3 Hf) H.1 (by decide) (x_ildn c155_134 rfl (x_ci c155_135 (x_aldn c155_136 rfl (x_gfr c155_137 (kf_8 Hf) (x_ild c155_140 rfl (x_iald c155_142 (af_3 Hf) H.2.1 (by decide) (x_ishl c155_143 (x_ci c155_144 (x_ixor c155_145 (x_iand c155_146 (x_istn (l' := [some (jR f), none, some (jI v2), some (jI (fx_and v3 (fx_xor (fx_shl 1 ((fx_up M (f + 3) u1 (fx_and u0 3)) (f + 3) v6)) (-1)))), some (jI v4), some (jI v5), some (jI v6), none, none, none]) c155_147 rfl (x_inc (l' := [some (jR f), none, some (jI v2), some (jI (fx_and v3 (fx_xor (fx_shl 1 ((fx_up M (f + 3) u1 (fx_and u0 3)) (f + 3) v6)) (-1)))), some (jI v4), some (jI v5), some (jI (v6 + 1)), none, none, none]) c155_148 rfl rfl (x_goto c155_151 (wp_wk (l' := [some (jR f), none, some (jI v2), some (jI (fx_and v3 (fx_xor (fx_shl 1 ((fx_up M (f + 3) u1 (fx_and u0 3)) (f + 3) v6)) (-1)))), some (jI v4), some (jI v5), some (jI (v6 + 1)), none, none, none]) ⟨rfl, ⟨rfl, ⟨rfl, ⟨rfl, ⟨rfl, ⟨rfl, trivial⟩⟩⟩⟩⟩⟩ H.2.2)))))))))))))))))
theorem s155 {kc : List va_E} {d : Nat} {f : Nat} {x1 x2 : Int} {M : fx_M} {Q : Option fx_V → fx_M → Prop} (Hf : fx_frm f) (H : wp kc (d + 1) 155 12 [some (jR f), none, some (jI x2), some (jI 15), some (jI x1), some (jI 1), some (jI 2), none, none, none] [] M Q) : wc kc (d + 1) 155 [jR f, jI x1, jI x2] M Q :=
  wc_of (wp_wk (l' := [some (jR f), some (jI x1), some (jI x2), none, none, none, none, none, none, none]) ⟨rfl, ⟨rfl, ⟨rfl, trivial⟩⟩⟩ (s155_0 Hf H))

/- PuzzleHouse$Form.givensOf(LPuzzleHouse$Puzzle;I)J -/
theorem c156_0 : fx_cj 156 0 = some (68719476735, 3) := by decide +kernel
theorem c156_3 : fx_op 156 3 = some (.lstore_n 3, 4, 3) := by decide +kernel
theorem c156_4 : fx_ci 156 4 = some (0, 5) := by decide +kernel
theorem c156_5 : fx_op 156 5 = some (.istore 5, 7, 5) := by decide +kernel
theorem c156_7 : fx_op 156 7 = some (.iload 5, 9, 7) := by decide +kernel
theorem c156_9 : fx_op 156 9 = some (.aload_n 1, 10, 9) := by decide +kernel
theorem c156_10 : fx_gf 156 10 = some (3, 2, 13) := by decide +kernel
theorem c156_13 : fx_op 156 13 = some (.if_icmp .ge 65, 16, 78) := by decide +kernel
theorem c156_16 : fx_op 156 16 = some (.aload_n 1, 17, 16) := by decide +kernel
theorem c156_17 : fx_gf 156 17 = some (3, 10, 20) := by decide +kernel
theorem c156_20 : fx_op 156 20 = some (.iload 5, 22, 20) := by decide +kernel
theorem c156_22 : fx_op 156 22 = some (.iaload, 23, 22) := by decide +kernel
theorem c156_23 : fx_op 156 23 = some (.ifCond .lt 49, 26, 72) := by decide +kernel
theorem c156_72 : fx_op 156 72 = some (.iinc 5 1, 75, 72) := by decide +kernel
theorem c156_78 : fx_op 156 78 = some (.lload_n 3, 79, 78) := by decide +kernel
theorem c156_26 : fx_ci 156 26 = some (32, 28) := by decide +kernel
theorem c156_28 : fx_ci 156 28 = some (4, 29) := by decide +kernel
theorem c156_29 : fx_op 156 29 = some (.aload_n 1, 30, 29) := by decide +kernel
theorem c156_30 : fx_op 156 30 = some (.iload_n 2, 31, 30) := by decide +kernel
theorem c156_31 : fx_op 156 31 = some (.iload 5, 33, 31) := by decide +kernel
theorem c156_79 : fx_op 156 79 = some (.lreturn, 80, 79) := by decide +kernel
theorem c156_75 : fx_op 156 75 = some (.goto (-68), 78, 7) := by decide +kernel
theorem c156_33 : fx_ca 156 33 = some (151, 3, 0, 36) := by decide +kernel
theorem c156_36 : fx_op 156 36 = some (.imul, 37, 36) := by decide +kernel
theorem c156_37 : fx_op 156 37 = some (.isub, 38, 37) := by decide +kernel
theorem c156_38 : fx_op 156 38 = some (.istore 6, 40, 38) := by decide +kernel
theorem c156_40 : fx_op 156 40 = some (.lload_n 3, 41, 40) := by decide +kernel
theorem c156_41 : fx_cj 156 41 = some (15, 44) := by decide +kernel
theorem c156_44 : fx_op 156 44 = some (.iload 6, 46, 44) := by decide +kernel
theorem c156_46 : fx_op 156 46 = some (.lshl, 47, 46) := by decide +kernel
theorem c156_47 : fx_cj 156 47 = some ((-1), 50) := by decide +kernel
theorem c156_50 : fx_op 156 50 = some (.lxor, 51, 50) := by decide +kernel
theorem c156_51 : fx_op 156 51 = some (.land, 52, 51) := by decide +kernel
theorem c156_52 : fx_op 156 52 = some (.aload_n 0, 53, 52) := by decide +kernel
theorem c156_53 : fx_gf 156 53 = some (7, 8, 56) := by decide +kernel
theorem c156_56 : fx_op 156 56 = some (.aload_n 1, 57, 56) := by decide +kernel
theorem c156_57 : fx_gf 156 57 = some (3, 10, 60) := by decide +kernel
theorem c156_60 : fx_op 156 60 = some (.iload 5, 62, 60) := by decide +kernel
theorem c156_63 : fx_ci 156 63 = some (3, 64) := by decide +kernel
theorem c156_64 : fx_op 156 64 = some (.iand, 65, 64) := by decide +kernel
theorem c156_67 : fx_op 156 67 = some (.iload 6, 69, 67) := by decide +kernel
theorem c156_69 : fx_op 156 69 = some (.lshl, 70, 69) := by decide +kernel
theorem c156_70 : fx_op 156 70 = some (.lor, 71, 70) := by decide +kernel
theorem c156_71 : fx_op 156 71 = some (.lstore_n 3, 72, 71) := by decide +kernel
theorem c156_62 : fx_op 156 62 = some (.iaload, 63, 62) := by decide +kernel
theorem c156_65 : fx_op 156 65 = some (.iaload, 66, 65) := by decide +kernel
theorem c156_66 : fx_op 156 66 = some (.i2l, 67, 66) := by decide +kernel
theorem s156_0 {kc : List va_E} {d : Nat} {f p : Nat} {x2 : Int} {M : fx_M} {Q : Option fx_V → fx_M → Prop} (Hf : fx_frm f) (Hp : fx_puz p) (H : wp kc (d + 1) 156 7 [some (jR f), some (jR p), some (jI x2), some (jL 68719476735), none, some (jI 0), none] [] M Q) : wp kc (d + 1) 156 0 [some (jR f), some (jR p), some (jI x2), none, none, none, none] [] M Q :=
  (x_cj c156_0 (x_lstn (l' := [some (jR f), some (jR p), some (jI x2), some (jL 68719476735), none, none, none]) c156_3 rfl (x_ci c156_4 (x_ist (l' := [some (jR f), some (jR p), some (jI x2), some (jL 68719476735), none, some (jI 0), none]) c156_5 rfl (wp_wk (l' := [some (jR f), some (jR p), some (jI x2), some (jL 68719476735), none, some (jI 0), none]) ⟨rfl, ⟨rfl, ⟨rfl, ⟨rfl, ⟨rfl, trivial⟩⟩⟩⟩⟩ H)))))
theorem s156_7 {kc : List va_E} {d : Nat} {f p : Nat} {v2 v3 v5 : Int} {M : fx_M} {Q : Option fx_V → fx_M → Prop} (Hf : fx_frm f) (Hp : fx_puz p) (H : ((fx_in32 v5) ∧ (fx_in32 (M p 2))) ∧ (M p 2 ≤ v5 → Q (some (jL v3)) M) ∧ (v5 < M p 2 → (((0 : Int) ≤ v5 ∧ v5 < 9)) ∧ ((fx_in32 (M (p + 6) v5))) ∧ (M (p + 6) v5 < 0 → wp kc (d + 1) 156 7 [some (jR f), some (jR p), some (jI v2), some (jL v3), none, some (jI (v5 + 1)), none] [] M Q) ∧ (0 ≤ M (p + 6) v5 → wc kc d 151 [jR p, jI v2, jI v5] M (fun v M1 => wp kc (d + 1) 156 36 [some (jR f), some (jR p), some (jI v2), some (jL v3), none, some (jI v5), none] (v.toList ++ [jI 4, jI 32]) M1 Q)))) : wp kc (d + 1) 156 7 [some (jR f), some (jR p), some (jI v2), some (jL v3), none, some (jI v5), none] [] M Q :=
  (x_ild c156_7 rfl (x_aldn c156_9 rfl (x_gfi c156_10 (kp_2 Hp) (x_cge c156_13 H.1.1 H.1.2 (fun h3 => (x_lldn c156_78 rfl (x_lrt c156_79 r156 (H.2.1 h3)))) (fun h4 => (x_aldn c156_16 rfl (x_gfr c156_17 (kp_10 Hp) (x_ild c156_20 rfl (x_iald c156_22 (ap_6 Hp) (H.2.2 h4).1 (by decide) (x_zlt c156_23 (H.2.2 h4).2.1 (fun h1 => (x_inc (l' := [some (jR f), some (jR p), some (jI v2), some (jL v3), none, some (jI (v5 + 1)), none]) c156_72 rfl rfl (x_goto c156_75 (wp_wk (l' := [some (jR f), some (jR p), some (jI v2), some (jL v3), none, some (jI (v5 + 1)), none]) ⟨rfl, ⟨rfl, ⟨rfl, ⟨rfl, ⟨rfl, trivial⟩⟩⟩⟩⟩ ((H.2.2 h4).2.2.1 h1))))) (fun h2 => (x_ci c156_26 (x_ci c156_28 (x_aldn c156_29 rfl (x_ildn c156_30 rfl (x_ild c156_31 rfl (wp_wk (l' := [some (jR f), some (jR p), some (jI v2), some (jL v3), none, some (jI v5), none]) ⟨rfl, ⟨rfl, ⟨rfl, ⟨rfl, ⟨rfl, trivial⟩⟩⟩⟩⟩ (x_cs (As := [jR p, jI v2, jI v5]) (st := [jI 4, jI 32]) c156_33 (by decide) rfl (Nat.le_of_ble_eq_true rfl) mx151 (Nat.le_refl _) ((H.2.2 h4).2.2.2 h2)))))))))))))))))))
theorem s156_36 {kc : List va_E} {d : Nat} {f p : Nat} {v2 v3 v5 u0 u1 u2 : Int} {M : fx_M} {Q : Option fx_V → fx_M → Prop} (Hf : fx_frm f) (Hp : fx_puz p) (H : (((0 : Int) ≤ v5 ∧ v5 < 9)) ∧ (((0 : Int) ≤ fx_and (M (p + 6) v5) 3 ∧ fx_and (M (p + 6) v5) 3 < 4)) ∧ ((fx_in32 (M (f + 3) (fx_and (M (p + 6) v5) 3)))) ∧ wp kc (d + 1) 156 7 [some (jR f), some (jR p), some (jI v2), some (jL (fx_lor (fx_land v3 (fx_lxor (fx_lshl 15 (u2 - (u1 * u0))) (-1))) (fx_lshl (M (f + 3) (fx_and (M (p + 6) v5) 3)) (u2 - (u1 * u0))))), none, some (jI (v5 + 1)), none] [] M Q) : wp kc (d + 1) 156 36 [some (jR f), some (jR p), some (jI v2), some (jL v3), none, some (jI v5), none] [jI u0, jI u1, jI u2] M Q :=
  (x_imul c156_36 (x_isub c156_37 (x_ist (l' := [some (jR f), some (jR p), some (jI v2), some (jL v3), none, some (jI v5), some (jI (u2 - (u1 * u0)))]) c156_38 rfl (x_lldn c156_40 rfl (x_cj c156_41 (x_ild c156_44 rfl (x_lshl c156_46 (x_cj c156_47 (x_lxor c156_50 (x_land c156_51 (x_aldn c156_52 rfl (x_gfr c156_53 (kf_8 Hf) (x_aldn c156_56 rfl (x_gfr c156_57 (kp_10 Hp) (x_ild c156_60 rfl (x_iald c156_62 (ap_6 Hp) H.1 (by decide) (x_ci c156_63 (x_iand c156_64 (x_iald c156_65 (af_3 Hf) H.2.1 (by decide) (x_i2l c156_66 H.2.2.1 (x_ild c156_67 rfl (x_lshl c156_69 (x_lor c156_70 (x_lstn (l' := [some (jR f), some (jR p), some (jI v2), some (jL (fx_lor (fx_land v3 (fx_lxor (fx_lshl 15 (u2 - (u1 * u0))) (-1))) (fx_lshl (M (f + 3) (fx_and (M (p + 6) v5) 3)) (u2 - (u1 * u0))))), none, some (jI v5), some (jI (u2 - (u1 * u0)))]) c156_71 rfl (x_inc (l' := [some (jR f), some (jR p), some (jI v2), some (jL (fx_lor (fx_land v3 (fx_lxor (fx_lshl 15 (u2 - (u1 * u0))) (-1))) (fx_lshl (M (f + 3) (fx_and (M (p + 6) v5) 3)) (u2 - (u1 * u0))))), none, some (jI (v5 + 1)), some (jI (u2 - (u1 * u0)))]) c156_72 rfl rfl (x_goto c156_75 (wp_wk (l' := [some (jR f), some (jR p), some (jI v2), some (jL (fx_lor (fx_land v3 (fx_lxor (fx_lshl 15 (u2 - (u1 * u0))) (-1))) (fx_lshl (M (f + 3) (fx_and (M (p + 6) v5) 3)) (u2 - (u1 * u0))))), none, some (jI (v5 + 1)), none]) ⟨rfl, ⟨rfl, ⟨rfl, ⟨rfl, ⟨rfl, trivial⟩⟩⟩⟩⟩ H.2.2.2)))))))))))))))))))))))))))
theorem s156 {kc : List va_E} {d : Nat} {f p : Nat} {x2 : Int} {M : fx_M} {Q : Option fx_V → fx_M → Prop} (Hf : fx_frm f) (Hp : fx_puz p) (H : wp kc (d + 1) 156 7 [some (jR f), some (jR p), some (jI x2), some (jL 68719476735), none, some (jI 0), none] [] M Q) : wc kc (d + 1) 156 [jR f, jR p, jI x2] M Q :=
  wc_of (wp_wk (l' := [some (jR f), some (jR p), some (jI x2), none, none, none, none]) ⟨rfl, ⟨rfl, ⟨rfl, trivial⟩⟩⟩ (s156_0 Hf Hp H))

/- PuzzleHouse$Form.restore(LPuzzleHouse$Puzzle;)V -/
theorem c158_0 : fx_op 158 0 = some (.aload_n 1, 1, 0) := by decide +kernel
theorem c158_1 : fx_op 158 1 = some (.aload_n 0, 2, 1) := by decide +kernel
theorem c158_2 : fx_gf 158 2 = some (7, 0, 5) := by decide +kernel
theorem c158_5 : fx_op 158 5 = some (.aload_n 0, 6, 5) := by decide +kernel
theorem c158_6 : fx_gf 158 6 = some (7, 1, 9) := by decide +kernel
theorem c158_9 : fx_op 158 9 = some (.aload_n 0, 10, 9) := by decide +kernel
theorem c158_10 : fx_gf 158 10 = some (7, 2, 13) := by decide +kernel
theorem c158_13 : fx_ca 158 13 = some (51, 4, 2, 16) := by decide +kernel
theorem c158_16 : fx_op 158 16 = some (.pop, 17, 16) := by decide +kernel
theorem c158_17 : fx_ci 158 17 = some (0, 18) := by decide +kernel
theorem c158_18 : fx_op 158 18 = some (.istore_n 2, 19, 18) := by decide +kernel
theorem c158_19 : fx_op 158 19 = some (.iload_n 2, 20, 19) := by decide +kernel
theorem c158_20 : fx_op 158 20 = some (.aload_n 0, 21, 20) := by decide +kernel
theorem c158_21 : fx_gf 158 21 = some (7, 3, 24) := by decide +kernel
theorem c158_24 : fx_op 158 24 = some (.if_icmp .ge 136, 27, 160) := by decide +kernel
theorem c158_27 : fx_op 158 27 = some (.aload_n 0, 28, 27) := by decide +kernel
theorem c158_28 : fx_gf 158 28 = some (7, 4, 31) := by decide +kernel
theorem c158_31 : fx_op 158 31 = some (.iload_n 2, 32, 31) := by decide +kernel
theorem c158_32 : fx_op 158 32 = some (.iaload, 33, 32) := by decide +kernel
theorem c158_33 : fx_ci 158 33 = some (16, 35) := by decide +kernel
theorem c158_35 : fx_op 158 35 = some (.ishr, 36, 35) := by decide +kernel
theorem c158_36 : fx_ci 158 36 = some (255, 39) := by decide +kernel
theorem c158_39 : fx_op 158 39 = some (.iand, 40, 39) := by decide +kernel
theorem c158_40 : fx_op 158 40 = some (.istore_n 3, 41, 40) := by decide +kernel
theorem c158_41 : fx_op 158 41 = some (.iload_n 3, 42, 41) := by decide +kernel
theorem c158_42 : fx_ci 158 42 = some (15, 44) := by decide +kernel
theorem c158_44 : fx_op 158 44 = some (.iand, 45, 44) := by decide +kernel
theorem c158_45 : fx_op 158 45 = some (.ifCond .ne 9, 48, 54) := by decide +kernel
theorem c158_54 : fx_op 158 54 = some (.iload_n 3, 55, 54) := by decide +kernel
theorem c158_55 : fx_ci 158 55 = some (4, 56) := by decide +kernel
theorem c158_56 : fx_op 158 56 = some (.ishr, 57, 56) := by decide +kernel
theorem c158_57 : fx_ci 158 57 = some (10, 59) := by decide +kernel
theorem c158_59 : fx_op 158 59 = some (.imul, 60, 59) := by decide +kernel
theorem c158_60 : fx_op 158 60 = some (.iload_n 3, 61, 60) := by decide +kernel
theorem c158_61 : fx_ci 158 61 = some (15, 63) := by decide +kernel
theorem c158_63 : fx_op 158 63 = some (.iand, 64, 63) := by decide +kernel
theorem c158_64 : fx_op 158 64 = some (.iadd, 65, 64) := by decide +kernel
theorem c158_65 : fx_ci 158 65 = some (1, 66) := by decide +kernel
theorem c158_66 : fx_op 158 66 = some (.isub, 67, 66) := by decide +kernel
theorem c158_67 : fx_op 158 67 = some (.istore 4, 69, 67) := by decide +kernel
theorem c158_69 : fx_ci 158 69 = some (0, 70) := by decide +kernel
theorem c158_70 : fx_op 158 70 = some (.istore 5, 72, 70) := by decide +kernel
theorem c158_72 : fx_ci 158 72 = some (0, 73) := by decide +kernel
theorem c158_73 : fx_op 158 73 = some (.istore 6, 75, 73) := by decide +kernel
theorem c158_160 : fx_ci 158 160 = some (0, 161) := by decide +kernel
theorem c158_161 : fx_op 158 161 = some (.istore_n 2, 162, 161) := by decide +kernel
theorem c158_48 : fx_op 158 48 = some (.iload_n 3, 49, 48) := by decide +kernel
theorem c158_49 : fx_ci 158 49 = some (4, 50) := by decide +kernel
theorem c158_50 : fx_op 158 50 = some (.ishr, 51, 50) := by decide +kernel
theorem c158_51 : fx_op 158 51 = some (.goto 16, 54, 67) := by decide +kernel
theorem c158_162 : fx_op 158 162 = some (.iload_n 2, 163, 162) := by decide +kernel
theorem c158_163 : fx_op 158 163 = some (.aload_n 1, 164, 163) := by decide +kernel
theorem c158_164 : fx_gf 158 164 = some (3, 2, 167) := by decide +kernel
theorem c158_167 : fx_op 158 167 = some (.if_icmp .ge 40, 170, 207) := by decide +kernel
theorem c158_170 : fx_op 158 170 = some (.aload_n 0, 171, 170) := by decide +kernel
theorem c158_171 : fx_gf 158 171 = some (7, 5, 174) := by decide +kernel
theorem c158_174 : fx_ci 158 174 = some (32, 176) := by decide +kernel
theorem c158_176 : fx_ci 158 176 = some (4, 177) := by decide +kernel
theorem c158_177 : fx_op 158 177 = some (.iload_n 2, 178, 177) := by decide +kernel
theorem c158_178 : fx_op 158 178 = some (.imul, 179, 178) := by decide +kernel
theorem c158_179 : fx_op 158 179 = some (.isub, 180, 179) := by decide +kernel
theorem c158_180 : fx_op 158 180 = some (.lushr, 181, 180) := by decide +kernel
theorem c158_181 : fx_op 158 181 = some (.l2i, 182, 181) := by decide +kernel
theorem c158_182 : fx_ci 158 182 = some (15, 184) := by decide +kernel
theorem c158_184 : fx_op 158 184 = some (.iand, 185, 184) := by decide +kernel
theorem c158_185 : fx_op 158 185 = some (.istore_n 3, 186, 185) := by decide +kernel
theorem c158_186 : fx_op 158 186 = some (.iload_n 3, 187, 186) := by decide +kernel
theorem c158_187 : fx_op 158 187 = some (.aload_n 0, 188, 187) := by decide +kernel
theorem c158_188 : fx_gf 158 188 = some (7, 2, 191) := by decide +kernel
theorem c158_191 : fx_op 158 191 = some (.if_icmp .ge 10, 194, 201) := by decide +kernel
theorem c158_201 : fx_op 158 201 = some (.iinc 2 1, 204, 201) := by decide +kernel
theorem c158_194 : fx_op 158 194 = some (.aload_n 1, 195, 194) := by decide +kernel
theorem c158_195 : fx_op 158 195 = some (.iload_n 2, 196, 195) := by decide +kernel
theorem c158_196 : fx_op 158 196 = some (.iload_n 3, 197, 196) := by decide +kernel
theorem c158_207 : fx_op 158 207 = some (.return_, 208, 207) := by decide +kernel
theorem c158_204 : fx_op 158 204 = some (.goto (-42), 207, 162) := by decide +kernel
theorem c158_197 : fx_ca 158 197 = some (57, 3, 2, 200) := by decide +kernel
theorem c158_75 : fx_op 158 75 = some (.iload 6, 77, 75) := by decide +kernel
theorem c158_77 : fx_ci 158 77 = some (4, 78) := by decide +kernel
theorem c158_78 : fx_op 158 78 = some (.if_icmp .ge 54, 81, 132) := by decide +kernel
theorem c158_81 : fx_op 158 81 = some (.aload_n 0, 82, 81) := by decide +kernel
theorem c158_82 : fx_gf 158 82 = some (7, 4, 85) := by decide +kernel
theorem c158_85 : fx_op 158 85 = some (.iload_n 2, 86, 85) := by decide +kernel
theorem c158_86 : fx_op 158 86 = some (.iaload, 87, 86) := by decide +kernel
theorem c158_87 : fx_ci 158 87 = some (12, 89) := by decide +kernel
theorem c158_89 : fx_ci 158 89 = some (4, 90) := by decide +kernel
theorem c158_90 : fx_op 158 90 = some (.iload 6, 92, 90) := by decide +kernel
theorem c158_92 : fx_op 158 92 = some (.imul, 93, 92) := by decide +kernel
theorem c158_93 : fx_op 158 93 = some (.isub, 94, 93) := by decide +kernel
theorem c158_94 : fx_op 158 94 = some (.ishr, 95, 94) := by decide +kernel
theorem c158_95 : fx_ci 158 95 = some (15, 97) := by decide +kernel
theorem c158_97 : fx_op 158 97 = some (.iand, 98, 97) := by decide +kernel
theorem c158_98 : fx_op 158 98 = some (.istore 7, 100, 98) := by decide +kernel
theorem c158_100 : fx_op 158 100 = some (.aload_n 0, 101, 100) := by decide +kernel
theorem c158_101 : fx_gf 158 101 = some (7, 9, 104) := by decide +kernel
theorem c158_104 : fx_op 158 104 = some (.iload 6, 106, 104) := by decide +kernel
theorem c158_106 : fx_op 158 106 = some (.iload 7, 108, 106) := by decide +kernel
theorem c158_108 : fx_ci 158 108 = some (1, 109) := by decide +kernel
theorem c158_109 : fx_op 158 109 = some (.isub, 110, 109) := by decide +kernel
theorem c158_132 : fx_op 158 132 = some (.aload_n 1, 133, 132) := by decide +kernel
theorem c158_133 : fx_op 158 133 = some (.aload_n 0, 134, 133) := by decide +kernel
theorem c158_134 : fx_gf 158 134 = some (7, 4, 137) := by decide +kernel
theorem c158_137 : fx_op 158 137 = some (.iload_n 2, 138, 137) := by decide +kernel
theorem c158_139 : fx_ci 158 139 = some (24, 141) := by decide +kernel
theorem c158_141 : fx_op 158 141 = some (.ishr, 142, 141) := by decide +kernel
theorem c158_142 : fx_op 158 142 = some (.iload 4, 144, 142) := by decide +kernel
theorem c158_144 : fx_op 158 144 = some (.aload_n 0, 145, 144) := by decide +kernel
theorem c158_145 : fx_gf 158 145 = some (7, 9, 148) := by decide +kernel
theorem c158_148 : fx_op 158 148 = some (.iload 5, 150, 148) := by decide +kernel
theorem c158_111 : fx_op 158 111 = some (.iload 5, 113, 111) := by decide +kernel
theorem c158_113 : fx_op 158 113 = some (.iload 7, 115, 113) := by decide +kernel
theorem c158_115 : fx_op 158 115 = some (.ifCond .le 7, 118, 122) := by decide +kernel
theorem c158_122 : fx_ci 158 122 = some (0, 123) := by decide +kernel
theorem c158_118 : fx_ci 158 118 = some (1, 119) := by decide +kernel
theorem c158_119 : fx_op 158 119 = some (.goto 4, 122, 123) := by decide +kernel
theorem c158_123 : fx_op 158 123 = some (.iadd, 124, 123) := by decide +kernel
theorem c158_124 : fx_op 158 124 = some (.istore 5, 126, 124) := by decide +kernel
theorem c158_126 : fx_op 158 126 = some (.iinc 6 1, 129, 126) := by decide +kernel
theorem c158_138 : fx_op 158 138 = some (.iaload, 139, 138) := by decide +kernel
theorem c158_150 : fx_ca 158 150 = some (52, 5, 2, 153) := by decide +kernel
theorem c158_110 : fx_op 158 110 = some (.iastore, 111, 110) := by decide +kernel
theorem c158_129 : fx_op 158 129 = some (.goto (-54), 132, 75) := by decide +kernel
theorem c158_200 : fx_op 158 200 = some (.pop, 201, 200) := by decide +kernel
theorem c158_153 : fx_op 158 153 = some (.pop, 154, 153) := by decide +kernel
theorem c158_154 : fx_op 158 154 = some (.iinc 2 1, 157, 154) := by decide +kernel
theorem c158_157 : fx_op 158 157 = some (.goto (-138), 160, 19) := by decide +kernel
theorem s158_0 {kc : List va_E} {d : Nat} {f p : Nat} {M : fx_M} {Q : Option fx_V → fx_M → Prop} (Hf : fx_frm f) (Hp : fx_puz p) (H : wc kc d 51 [jR p, jI (M f 0), jI (M f 1), jI (M f 2)] M (fun v M1 => wp kc (d + 1) 158 16 [some (jR f), some (jR p), none, none, none, none, none, none] (v.toList ++ []) M1 Q)) : wp kc (d + 1) 158 0 [some (jR f), some (jR p), none, none, none, none, none, none] [] M Q :=
  (x_aldn c158_0 rfl (x_aldn c158_1 rfl (x_gfi c158_2 (kf_0 Hf) (x_aldn c158_5 rfl (x_gfi c158_6 (kf_1 Hf) (x_aldn c158_9 rfl (x_gfi c158_10 (kf_2 Hf) (wp_wk (l' := [some (jR f), some (jR p), none, none, none, none, none, none]) ⟨rfl, ⟨rfl, trivial⟩⟩ (x_cv (As := [jI (M f 0), jI (M f 1), jI (M f 2)]) (st := []) c158_13 (clp Hp) kl51 rfl (Nat.le_of_ble_eq_true rfl) mx51 (Nat.le_refl _) H)))))))))
theorem s158_16 {kc : List va_E} {d : Nat} {f p u0 : Nat} {M : fx_M} {Q : Option fx_V → fx_M → Prop} (Hf : fx_frm f) (Hp : fx_puz p) (H : wp kc (d + 1) 158 19 [some (jR f), some (jR p), some (jI 0), none, none, none, none, none] [] M Q) : wp kc (d + 1) 158 16 [some (jR f), some (jR p), none, none, none, none, none, none] [jR u0] M Q :=
  (x_popr c158_16 (x_ci c158_17 (x_istn (l' := [some (jR f), some (jR p), some (jI 0), none, none, none, none, none]) c158_18 rfl (wp_wk (l' := [some (jR f), some (jR p), some (jI 0), none, none, none, none, none]) ⟨rfl, ⟨rfl, ⟨rfl, trivial⟩⟩⟩ H))))
theorem s158_19 {kc : List va_E} {d : Nat} {f p : Nat} {v2 : Int} {M : fx_M} {Q : Option fx_V → fx_M → Prop} (Hf : fx_frm f) (Hp : fx_puz p) (H : ((fx_in32 v2) ∧ (fx_in32 (M f 3))) ∧ (M f 3 ≤ v2 → wp kc (d + 1) 158 162 [some (jR f), some (jR p), some (jI 0), none, none, none, none, none] [] M Q) ∧ (v2 < M f 3 → (((0 : Int) ≤ v2 ∧ v2 < 12)) ∧ ((fx_in32 (fx_and (fx_and (fx_shr (M (f + 1) v2) 16) 255) 15))) ∧ wp kc (d + 1) 158 75 [some (jR f), some (jR p), some (jI v2), none, some (jI (if fx_and (fx_and (fx_shr (M (f + 1) v2) 16) 255) 15 = 0 then (fx_shr (fx_and (fx_shr (M (f + 1) v2) 16) 255) 4 : Int) else (((fx_shr (fx_and (fx_shr (M (f + 1) v2) 16) 255) 4) * 10) + (fx_and (fx_and (fx_shr (M (f + 1) v2) 16) 255) 15)) - 1)), some (jI 0), some (jI 0), none] [] M Q)) : wp kc (d + 1) 158 19 [some (jR f), some (jR p), some (jI v2), none, none, none, none, none] [] M Q :=
  (x_ildn c158_19 rfl (x_aldn c158_20 rfl (x_gfi c158_21 (kf_3 Hf) (x_cge c158_24 H.1.1 H.1.2 (fun h1 => (x_ci c158_160 (x_istn (l' := [some (jR f), some (jR p), some (jI 0), none, none, none, none, none]) c158_161 rfl (wp_wk (l' := [some (jR f), some (jR p), some (jI 0), none, none, none, none, none]) ⟨rfl, ⟨rfl, ⟨rfl, trivial⟩⟩⟩ (H.2.1 h1))))) (fun h2 => (x_aldn c158_27 rfl (x_gfr c158_28 (kf_4 Hf) (x_ildn c158_31 rfl (x_iald c158_32 (af_1 Hf) (H.2.2 h2).1 (by decide) (x_ci c158_33 (x_ishr c158_35 (x_ci c158_36 (x_iand c158_39 (x_istn (l' := [some (jR f), some (jR p), some (jI v2), some (jI (fx_and (fx_shr (M (f + 1) v2) 16) 255)), none, none, none, none]) c158_40 rfl (x_ildn c158_41 rfl (x_ci c158_42 (x_iand c158_44 (have K : wp kc (d + 1) 158 67 [some (jR f), some (jR p), some (jI v2), none, none, none, none, none] [jI (if fx_and (fx_and (fx_shr (M (f + 1) v2) 16) 255) 15 = 0 then (fx_shr (fx_and (fx_shr (M (f + 1) v2) 16) 255) 4 : Int) else (((fx_shr (fx_and (fx_shr (M (f + 1) v2) 16) 255) 4) * 10) + (fx_and (fx_and (fx_shr (M (f + 1) v2) 16) 255) 15)) - 1)] M Q := (x_ist (l' := [some (jR f), some (jR p), some (jI v2), none, some (jI (if fx_and (fx_and (fx_shr (M (f + 1) v2) 16) 255) 15 = 0 then (fx_shr (fx_and (fx_shr (M (f + 1) v2) 16) 255) 4 : Int) else (((fx_shr (fx_and (fx_shr (M (f + 1) v2) 16) 255) 4) * 10) + (fx_and (fx_and (fx_shr (M (f + 1) v2) 16) 255) 15)) - 1)), none, none, none]) c158_67 rfl (x_ci c158_69 (x_ist (l' := [some (jR f), some (jR p), some (jI v2), none, some (jI (if fx_and (fx_and (fx_shr (M (f + 1) v2) 16) 255) 15 = 0 then (fx_shr (fx_and (fx_shr (M (f + 1) v2) 16) 255) 4 : Int) else (((fx_shr (fx_and (fx_shr (M (f + 1) v2) 16) 255) 4) * 10) + (fx_and (fx_and (fx_shr (M (f + 1) v2) 16) 255) 15)) - 1)), some (jI 0), none, none]) c158_70 rfl (x_ci c158_72 (x_ist (l' := [some (jR f), some (jR p), some (jI v2), none, some (jI (if fx_and (fx_and (fx_shr (M (f + 1) v2) 16) 255) 15 = 0 then (fx_shr (fx_and (fx_shr (M (f + 1) v2) 16) 255) 4 : Int) else (((fx_shr (fx_and (fx_shr (M (f + 1) v2) 16) 255) 4) * 10) + (fx_and (fx_and (fx_shr (M (f + 1) v2) 16) 255) 15)) - 1)), some (jI 0), some (jI 0), none]) c158_73 rfl (wp_wk (l' := [some (jR f), some (jR p), some (jI v2), none, some (jI (if fx_and (fx_and (fx_shr (M (f + 1) v2) 16) 255) 15 = 0 then (fx_shr (fx_and (fx_shr (M (f + 1) v2) 16) 255) 4 : Int) else (((fx_shr (fx_and (fx_shr (M (f + 1) v2) 16) 255) 4) * 10) + (fx_and (fx_and (fx_shr (M (f + 1) v2) 16) 255) 15)) - 1)), some (jI 0), some (jI 0), none]) ⟨rfl, ⟨rfl, ⟨rfl, ⟨rfl, ⟨rfl, ⟨rfl, trivial⟩⟩⟩⟩⟩⟩ (H.2.2 h2).2.2)))))); (x_zne c158_45 (H.2.2 h2).2.1 (fun (h3 : fx_and (fx_and (fx_shr (M (f + 1) v2) 16) 255) 15 ≠ 0) => (x_ildn c158_54 rfl (x_ci c158_55 (x_ishr c158_56 (x_ci c158_57 (x_imul c158_59 (x_ildn c158_60 rfl (x_ci c158_61 (x_iand c158_63 (x_iadd c158_64 (x_ci c158_65 (x_isub c158_66 (wp_wk (l' := [some (jR f), some (jR p), some (jI v2), none, none, none, none, none]) ⟨rfl, ⟨rfl, ⟨rfl, trivial⟩⟩⟩ (by have K := K; first | (simp only [if_neg h3] at K ⊢; exact K) | (exfalso; omega))))))))))))))) (fun (h4 : fx_and (fx_and (fx_shr (M (f + 1) v2) 16) 255) 15 = 0) => (x_ildn c158_48 rfl (x_ci c158_49 (x_ishr c158_50 (x_goto c158_51 (wp_wk (l' := [some (jR f), some (jR p), some (jI v2), none, none, none, none, none]) ⟨rfl, ⟨rfl, ⟨rfl, trivial⟩⟩⟩ (by have K := K; first | (simp only [if_pos h4] at K ⊢; exact K) | (exfalso; omega)))))))))))))))))))))))))))
theorem s158_75 {kc : List va_E} {d : Nat} {f p : Nat} {v2 v4 v5 v6 : Int} {M : fx_M} {Q : Option fx_V → fx_M → Prop} (Hf : fx_frm f) (Hp : fx_puz p) (H : ((fx_in32 v6)) ∧ (4 ≤ v6 → (((0 : Int) ≤ v2 ∧ v2 < 12)) ∧ wc kc d 52 [jR p, jI (fx_shr (M (f + 1) v2) 24), jI v4, jR (f + 4), jI v5] M (fun v M1 => wp kc (d + 1) 158 153 [some (jR f), some (jR p), some (jI v2), none, none, none, none, none] (v.toList ++ []) M1 Q)) ∧ (v6 < 4 → (((0 : Int) ≤ v2 ∧ v2 < 12)) ∧ (((0 : Int) ≤ v6 ∧ v6 < 4)) ∧ ((fx_in32 (fx_and (fx_shr (M (f + 1) v2) (12 - (4 * v6))) 15))) ∧ wp kc (d + 1) 158 75 [some (jR f), some (jR p), some (jI v2), none, some (jI v4), some (jI (v5 + (if 0 < fx_and (fx_shr (M (f + 1) v2) (12 - (4 * v6))) 15 then (1 : Int) else 0))), some (jI (v6 + 1)), none] [] (fx_up M (f + 4) v6 ((fx_and (fx_shr (M (f + 1) v2) (12 - (4 * v6))) 15) - 1)) Q)) : wp kc (d + 1) 158 75 [some (jR f), some (jR p), some (jI v2), none, some (jI v4), some (jI v5), some (jI v6), none] [] M Q :=
  (x_ild c158_75 rfl (x_ci c158_77 (x_cge c158_78 H.1 (by decide) (fun h1 => (x_aldn c158_132 rfl (x_aldn c158_133 rfl (x_gfr c158_134 (kf_4 Hf) (x_ildn c158_137 rfl (x_iald c158_138 (af_1 Hf) (H.2.1 h1).1 (by decide) (x_ci c158_139 (x_ishr c158_141 (x_ild c158_142 rfl (x_aldn c158_144 rfl (x_gfr c158_145 (kf_9 Hf) (x_ild c158_148 rfl (wp_wk (l' := [some (jR f), some (jR p), some (jI v2), none, none, none, none, none]) ⟨rfl, ⟨rfl, ⟨rfl, trivial⟩⟩⟩ (x_cv (As := [jI (fx_shr (M (f + 1) v2) 24), jI v4, jR (f + 4), jI v5]) (st := []) c158_150 (clp Hp) kl52 rfl (Nat.le_of_ble_eq_true rfl) mx52 (Nat.le_refl _) (H.2.1 h1).2)))))))))))))) (fun h2 => (x_aldn c158_81 rfl (x_gfr c158_82 (kf_4 Hf) (x_ildn c158_85 rfl (x_iald c158_86 (af_1 Hf) (H.2.2 h2).1 (by decide) (x_ci c158_87 (x_ci c158_89 (x_ild c158_90 rfl (x_imul c158_92 (x_isub c158_93 (x_ishr c158_94 (x_ci c158_95 (x_iand c158_97 (x_ist (l' := [some (jR f), some (jR p), some (jI v2), none, some (jI v4), some (jI v5), some (jI v6), some (jI (fx_and (fx_shr (M (f + 1) v2) (12 - (4 * v6))) 15))]) c158_98 rfl (x_aldn c158_100 rfl (x_gfr c158_101 (kf_9 Hf) (x_ild c158_104 rfl (x_ild c158_106 rfl (x_ci c158_108 (x_isub c158_109 (x_iast c158_110 (af_4 Hf) (H.2.2 h2).2.1 (by decide) (x_ild c158_111 rfl (x_ild c158_113 rfl (have K : wp kc (d + 1) 158 123 [some (jR f), some (jR p), some (jI v2), none, some (jI v4), none, some (jI v6), none] [jI (if 0 < fx_and (fx_shr (M (f + 1) v2) (12 - (4 * v6))) 15 then (1 : Int) else 0), jI v5] (fx_up M (f + 4) v6 ((fx_and (fx_shr (M (f + 1) v2) (12 - (4 * v6))) 15) - 1)) Q := (x_iadd c158_123 (x_ist (l' := [some (jR f), some (jR p), some (jI v2), none, some (jI v4), some (jI (v5 + (if 0 < fx_and (fx_shr (M (f + 1) v2) (12 - (4 * v6))) 15 then (1 : Int) else 0))), some (jI v6), none]) c158_124 rfl (x_inc (l' := [some (jR f), some (jR p), some (jI v2), none, some (jI v4), some (jI (v5 + (if 0 < fx_and (fx_shr (M (f + 1) v2) (12 - (4 * v6))) 15 then (1 : Int) else 0))), some (jI (v6 + 1)), none]) c158_126 rfl rfl (x_goto c158_129 (wp_wk (l' := [some (jR f), some (jR p), some (jI v2), none, some (jI v4), some (jI (v5 + (if 0 < fx_and (fx_shr (M (f + 1) v2) (12 - (4 * v6))) 15 then (1 : Int) else 0))), some (jI (v6 + 1)), none]) ⟨rfl, ⟨rfl, ⟨rfl, ⟨rfl, ⟨rfl, ⟨rfl, trivial⟩⟩⟩⟩⟩⟩ (H.2.2 h2).2.2.2))))); (x_zle c158_115 (H.2.2 h2).2.2.1 (fun (h3 : fx_and (fx_shr (M (f + 1) v2) (12 - (4 * v6))) 15 ≤ 0) => (x_ci c158_122 (wp_wk (l' := [some (jR f), some (jR p), some (jI v2), none, some (jI v4), none, some (jI v6), none]) ⟨rfl, ⟨rfl, ⟨rfl, ⟨rfl, ⟨rfl, trivial⟩⟩⟩⟩⟩ (by have K := K; first | (simp only [if_neg (Int.not_lt.mpr h3)] at K ⊢; exact K) | (exfalso; omega))))) (fun (h4 : 0 < fx_and (fx_shr (M (f + 1) v2) (12 - (4 * v6))) 15) => (x_ci c158_118 (x_goto c158_119 (wp_wk (l' := [some (jR f), some (jR p), some (jI v2), none, some (jI v4), none, some (jI v6), none]) ⟨rfl, ⟨rfl, ⟨rfl, ⟨rfl, ⟨rfl, trivial⟩⟩⟩⟩⟩ (by have K := K; first | (simp only [if_pos h4] at K ⊢; exact K) | (exfalso; omega))))))))))))))))))))))))))))))))))
theorem s158_153 {kc : List va_E} {d : Nat} {f p u0 : Nat} {v2 : Int} {M : fx_M} {Q : Option fx_V → fx_M → Prop} (Hf : fx_frm f) (Hp : fx_puz p) (H : wp kc (d + 1) 158 19 [some (jR f), some (jR p), some (jI (v2 + 1)), none, none, none, none, none] [] M Q) : wp kc (d + 1) 158 153 [some (jR f), some (jR p), some (jI v2), none, none, none, none, none] [jR u0] M Q :=
  (x_popr c158_153 (x_inc (l' := [some (jR f), some (jR p), some (jI (v2 + 1)), none, none, none, none, none]) c158_154 rfl rfl (x_goto c158_157 (wp_wk (l' := [some (jR f), some (jR p), some (jI (v2 + 1)), none, none, none, none, none]) ⟨rfl, ⟨rfl, ⟨rfl, trivial⟩⟩⟩ H))))
theorem s158_162 {kc : List va_E} {d : Nat} {f p : Nat} {v2 : Int} {M : fx_M} {Q : Option fx_V → fx_M → Prop} (Hf : fx_frm f) (Hp : fx_puz p) (H : ((fx_in32 v2) ∧ (fx_in32 (M p 2))) ∧ (M p 2 ≤ v2 → Q none M) ∧ (v2 < M p 2 → ((fx_in32 (fx_and (fx_lushr (M f 5) (32 - (4 * v2))) 15)) ∧ (fx_in32 (M f 2))) ∧ (M f 2 ≤ fx_and (fx_lushr (M f 5) (32 - (4 * v2))) 15 → wp kc (d + 1) 158 162 [some (jR f), some (jR p), some (jI (v2 + 1)), none, none, none, none, none] [] M Q) ∧ (fx_and (fx_lushr (M f 5) (32 - (4 * v2))) 15 < M f 2 → wc kc d 57 [jR p, jI v2, jI (fx_and (fx_lushr (M f 5) (32 - (4 * v2))) 15)] M (fun v M1 => wp kc (d + 1) 158 200 [some (jR f), some (jR p), some (jI v2), none, none, none, none, none] (v.toList ++ []) M1 Q)))) : wp kc (d + 1) 158 162 [some (jR f), some (jR p), some (jI v2), none, none, none, none, none] [] M Q :=
  (x_ildn c158_162 rfl (x_aldn c158_163 rfl (x_gfi c158_164 (kp_2 Hp) (x_cge c158_167 H.1.1 H.1.2 (fun h3 => (x_vr c158_207 r158 (H.2.1 h3))) (fun h4 => (x_aldn c158_170 rfl (x_gfl c158_171 (kf_5 Hf) (x_ci c158_174 (x_ci c158_176 (x_ildn c158_177 rfl (x_imul c158_178 (x_isub c158_179 (x_lushr c158_180 (x_l2i c158_181 (x_ci c158_182 (x_iand c158_184 (x_istn (l' := [some (jR f), some (jR p), some (jI v2), some (jI (fx_and (fx_lushr (M f 5) (32 - (4 * v2))) 15)), none, none, none, none]) c158_185 rfl (x_ildn c158_186 rfl (x_aldn c158_187 rfl (x_gfi c158_188 (kf_2 Hf) (x_cge c158_191 (H.2.2 h4).1.1 (H.2.2 h4).1.2 (fun h1 => (x_inc (l' := [some (jR f), some (jR p), some (jI (v2 + 1)), some (jI (fx_and (fx_lushr (M f 5) (32 - (4 * v2))) 15)), none, none, none, none]) c158_201 rfl rfl (x_goto c158_204 (wp_wk (l' := [some (jR f), some (jR p), some (jI (v2 + 1)), none, none, none, none, none]) ⟨rfl, ⟨rfl, ⟨rfl, trivial⟩⟩⟩ ((H.2.2 h4).2.1 h1))))) (fun h2 => (x_aldn c158_194 rfl (x_ildn c158_195 rfl (x_ildn c158_196 rfl (wp_wk (l' := [some (jR f), some (jR p), some (jI v2), none, none, none, none, none]) ⟨rfl, ⟨rfl, ⟨rfl, trivial⟩⟩⟩ (x_cv (As := [jI v2, jI (fx_and (fx_lushr (M f 5) (32 - (4 * v2))) 15)]) (st := []) c158_197 (clp Hp) kl57 rfl (Nat.le_of_ble_eq_true rfl) mx57 (Nat.le_refl _) ((H.2.2 h4).2.2 h2))))))))))))))))))))))))))))
theorem s158_200 {kc : List va_E} {d : Nat} {f p u0 : Nat} {v2 : Int} {M : fx_M} {Q : Option fx_V → fx_M → Prop} (Hf : fx_frm f) (Hp : fx_puz p) (H : wp kc (d + 1) 158 162 [some (jR f), some (jR p), some (jI (v2 + 1)), none, none, none, none, none] [] M Q) : wp kc (d + 1) 158 200 [some (jR f), some (jR p), some (jI v2), none, none, none, none, none] [jR u0] M Q :=
  (x_popr c158_200 (x_inc (l' := [some (jR f), some (jR p), some (jI (v2 + 1)), none, none, none, none, none]) c158_201 rfl rfl (x_goto c158_204 (wp_wk (l' := [some (jR f), some (jR p), some (jI (v2 + 1)), none, none, none, none, none]) ⟨rfl, ⟨rfl, ⟨rfl, trivial⟩⟩⟩ H))))
theorem s158 {kc : List va_E} {d : Nat} {f p : Nat} {M : fx_M} {Q : Option fx_V → fx_M → Prop} (Hf : fx_frm f) (Hp : fx_puz p) (H : wc kc d 51 [jR p, jI (M f 0), jI (M f 1), jI (M f 2)] M (fun v M1 => wp kc (d + 1) 158 16 [some (jR f), some (jR p), none, none, none, none, none, none] (v.toList ++ []) M1 Q)) : wc kc (d + 1) 158 [jR f, jR p] M Q :=
  wc_of (wp_wk (l' := [some (jR f), some (jR p), none, none, none, none, none, none]) ⟨rfl, ⟨rfl, trivial⟩⟩ (s158_0 Hf Hp H))

/- PuzzleHouse$Form.vary(LPuzzleHouse$Puzzle;ILPuzzleHouse$Puzzle;)V -/
theorem c159_0 : fx_op 159 0 = some (.aload_n 1, 1, 0) := by decide +kernel
theorem c159_1 : fx_ca 159 1 = some (148, 1, 0, 4) := by decide +kernel
theorem c159_4 : fx_ci 159 4 = some (1, 5) := by decide +kernel
theorem c159_8 : fx_op 159 8 = some (.istore 4, 10, 8) := by decide +kernel
theorem c159_10 : fx_op 159 10 = some (.aload_n 1, 11, 10) := by decide +kernel
theorem c159_5 : fx_nt 159 5 = some (1, 8) := by decide +kernel
theorem c159_11 : fx_ca 159 11 = some (147, 1, 0, 14) := by decide +kernel
theorem c159_14 : fx_ci 159 14 = some (1, 15) := by decide +kernel
theorem c159_18 : fx_op 159 18 = some (.istore 5, 20, 18) := by decide +kernel
theorem c159_20 : fx_op 159 20 = some (.iload_n 2, 21, 20) := by decide +kernel
theorem c159_21 : fx_op 159 21 = some (.iload 4, 23, 21) := by decide +kernel
theorem c159_24 : fx_op 159 24 = some (.istore 6, 26, 24) := by decide +kernel
theorem c159_26 : fx_op 159 26 = some (.aload_n 0, 27, 26) := by decide +kernel
theorem c159_27 : fx_op 159 27 = some (.iload_n 2, 28, 27) := by decide +kernel
theorem c159_28 : fx_op 159 28 = some (.iload 4, 30, 28) := by decide +kernel
theorem c159_31 : fx_op 159 31 = some (.iload 5, 33, 31) := by decide +kernel
theorem c159_34 : fx_op 159 34 = some (.aload_n 1, 35, 34) := by decide +kernel
theorem c159_35 : fx_gf 159 35 = some (3, 3, 38) := by decide +kernel
theorem c159_15 : fx_nt 159 15 = some (1, 18) := by decide +kernel
theorem c159_23 : fx_op 159 23 = some (.irem, 24, 23) := by decide +kernel
theorem c159_30 : fx_op 159 30 = some (.idiv, 31, 30) := by decide +kernel
theorem c159_33 : fx_op 159 33 = some (.irem, 34, 33) := by decide +kernel
theorem c159_38 : fx_ca 159 38 = some (155, 3, 2, 41) := by decide +kernel
theorem c159_41 : fx_op 159 41 = some (.aload_n 3, 42, 41) := by decide +kernel
theorem c159_42 : fx_op 159 42 = some (.aload_n 1, 43, 42) := by decide +kernel
theorem c159_43 : fx_gf 159 43 = some (3, 0, 46) := by decide +kernel
theorem c159_46 : fx_op 159 46 = some (.aload_n 1, 47, 46) := by decide +kernel
theorem c159_47 : fx_gf 159 47 = some (3, 1, 50) := by decide +kernel
theorem c159_50 : fx_op 159 50 = some (.aload_n 1, 51, 50) := by decide +kernel
theorem c159_51 : fx_gf 159 51 = some (3, 3, 54) := by decide +kernel
theorem c159_54 : fx_ca 159 54 = some (51, 4, 2, 57) := by decide +kernel
theorem c159_57 : fx_op 159 57 = some (.pop, 58, 57) := by decide +kernel
theorem c159_58 : fx_ci 159 58 = some (0, 59) := by decide +kernel
theorem c159_59 : fx_op 159 59 = some (.istore 7, 61, 59) := by decide +kernel
theorem c159_61 : fx_op 159 61 = some (.iload 7, 63, 61) := by decide +kernel
theorem c159_63 : fx_op 159 63 = some (.aload_n 1, 64, 63) := by decide +kernel
theorem c159_64 : fx_gf 159 64 = some (3, 4, 67) := by decide +kernel
theorem c159_67 : fx_op 159 67 = some (.if_icmp .ge 79, 70, 146) := by decide +kernel
theorem c159_70 : fx_ci 159 70 = some (0, 71) := by decide +kernel
theorem c159_71 : fx_op 159 71 = some (.istore 8, 73, 71) := by decide +kernel
theorem c159_146 : fx_ci 159 146 = some (0, 147) := by decide +kernel
theorem c159_147 : fx_op 159 147 = some (.istore 7, 149, 147) := by decide +kernel
theorem c159_149 : fx_op 159 149 = some (.iload 7, 151, 149) := by decide +kernel
theorem c159_151 : fx_op 159 151 = some (.aload_n 1, 152, 151) := by decide +kernel
theorem c159_152 : fx_gf 159 152 = some (3, 2, 155) := by decide +kernel
theorem c159_155 : fx_op 159 155 = some (.if_icmp .ge 46, 158, 201) := by decide +kernel
theorem c159_158 : fx_op 159 158 = some (.aload_n 1, 159, 158) := by decide +kernel
theorem c159_159 : fx_gf 159 159 = some (3, 10, 162) := by decide +kernel
theorem c159_162 : fx_op 159 162 = some (.iload 7, 164, 162) := by decide +kernel
theorem c159_164 : fx_op 159 164 = some (.iaload, 165, 164) := by decide +kernel
theorem c159_165 : fx_op 159 165 = some (.ifCond .lt 30, 168, 195) := by decide +kernel
theorem c159_195 : fx_op 159 195 = some (.iinc 7 1, 198, 195) := by decide +kernel
theorem c159_168 : fx_op 159 168 = some (.aload_n 3, 169, 168) := by decide +kernel
theorem c159_169 : fx_op 159 169 = some (.aload_n 1, 170, 169) := by decide +kernel
theorem c159_170 : fx_op 159 170 = some (.iload 6, 172, 170) := by decide +kernel
theorem c159_172 : fx_op 159 172 = some (.iload 7, 174, 172) := by decide +kernel
theorem c159_201 : fx_op 159 201 = some (.return_, 202, 201) := by decide +kernel
theorem c159_198 : fx_op 159 198 = some (.goto (-49), 201, 149) := by decide +kernel
theorem c159_174 : fx_ca 159 174 = some (151, 3, 0, 177) := by decide +kernel
theorem c159_73 : fx_op 159 73 = some (.iload 8, 75, 73) := by decide +kernel
theorem c159_75 : fx_ci 159 75 = some (4, 76) := by decide +kernel
theorem c159_76 : fx_op 159 76 = some (.if_icmp .ge 34, 79, 110) := by decide +kernel
theorem c159_79 : fx_op 159 79 = some (.aload_n 0, 80, 79) := by decide +kernel
theorem c159_80 : fx_gf 159 80 = some (7, 9, 83) := by decide +kernel
theorem c159_83 : fx_op 159 83 = some (.iload 8, 85, 83) := by decide +kernel
theorem c159_85 : fx_op 159 85 = some (.aload_n 1, 86, 85) := by decide +kernel
theorem c159_86 : fx_op 159 86 = some (.iload 6, 88, 86) := by decide +kernel
theorem c159_88 : fx_op 159 88 = some (.aload_n 1, 89, 88) := by decide +kernel
theorem c159_89 : fx_gf 159 89 = some (3, 8, 92) := by decide +kernel
theorem c159_92 : fx_ci 159 92 = some (4, 93) := by decide +kernel
theorem c159_93 : fx_op 159 93 = some (.iload 7, 95, 93) := by decide +kernel
theorem c159_95 : fx_op 159 95 = some (.imul, 96, 95) := by decide +kernel
theorem c159_96 : fx_op 159 96 = some (.iload 8, 98, 96) := by decide +kernel
theorem c159_98 : fx_op 159 98 = some (.iadd, 99, 98) := by decide +kernel
theorem c159_99 : fx_op 159 99 = some (.iaload, 100, 99) := by decide +kernel
theorem c159_110 : fx_op 159 110 = some (.aload_n 3, 111, 110) := by decide +kernel
theorem c159_111 : fx_op 159 111 = some (.aload_n 1, 112, 111) := by decide +kernel
theorem c159_112 : fx_gf 159 112 = some (3, 5, 115) := by decide +kernel
theorem c159_115 : fx_op 159 115 = some (.iload 7, 117, 115) := by decide +kernel
theorem c159_118 : fx_op 159 118 = some (.aload_n 1, 119, 118) := by decide +kernel
theorem c159_119 : fx_gf 159 119 = some (3, 6, 122) := by decide +kernel
theorem c159_122 : fx_op 159 122 = some (.iload 7, 124, 122) := by decide +kernel
theorem c159_125 : fx_op 159 125 = some (.aload_n 0, 126, 125) := by decide +kernel
theorem c159_126 : fx_gf 159 126 = some (7, 9, 129) := by decide +kernel
theorem c159_129 : fx_op 159 129 = some (.aload_n 1, 130, 129) := by decide +kernel
theorem c159_130 : fx_gf 159 130 = some (3, 7, 133) := by decide +kernel
theorem c159_133 : fx_op 159 133 = some (.iload 7, 135, 133) := by decide +kernel
theorem c159_117 : fx_op 159 117 = some (.iaload, 118, 117) := by decide +kernel
theorem c159_124 : fx_op 159 124 = some (.iaload, 125, 124) := by decide +kernel
theorem c159_135 : fx_op 159 135 = some (.iaload, 136, 135) := by decide +kernel
theorem c159_136 : fx_ca 159 136 = some (52, 5, 2, 139) := by decide +kernel
theorem c159_100 : fx_ca 159 100 = some (151, 3, 0, 103) := by decide +kernel
theorem c159_177 : fx_op 159 177 = some (.aload_n 0, 178, 177) := by decide +kernel
theorem c159_178 : fx_gf 159 178 = some (7, 8, 181) := by decide +kernel
theorem c159_181 : fx_op 159 181 = some (.aload_n 1, 182, 181) := by decide +kernel
theorem c159_182 : fx_gf 159 182 = some (3, 10, 185) := by decide +kernel
theorem c159_185 : fx_op 159 185 = some (.iload 7, 187, 185) := by decide +kernel
theorem c159_188 : fx_ci 159 188 = some (3, 189) := by decide +kernel
theorem c159_189 : fx_op 159 189 = some (.iand, 190, 189) := by decide +kernel
theorem c159_187 : fx_op 159 187 = some (.iaload, 188, 187) := by decide +kernel
theorem c159_190 : fx_op 159 190 = some (.iaload, 191, 190) := by decide +kernel
theorem c159_191 : fx_ca 159 191 = some (57, 3, 2, 194) := by decide +kernel
theorem c159_139 : fx_op 159 139 = some (.pop, 140, 139) := by decide +kernel
theorem c159_140 : fx_op 159 140 = some (.iinc 7 1, 143, 140) := by decide +kernel
theorem c159_143 : fx_op 159 143 = some (.goto (-82), 146, 61) := by decide +kernel
theorem c159_104 : fx_op 159 104 = some (.iinc 8 1, 107, 104) := by decide +kernel
theorem c159_103 : fx_op 159 103 = some (.iastore, 104, 103) := by decide +kernel
theorem c159_107 : fx_op 159 107 = some (.goto (-34), 110, 73) := by decide +kernel
theorem c159_194 : fx_op 159 194 = some (.pop, 195, 194) := by decide +kernel
theorem n159_5 : xS 159 ((xI 159 5).getD .nop) = none := by decide +kernel
theorem n159_15 : xS 159 ((xI 159 15).getD .nop) = none := by decide +kernel
theorem s159_0 {kc : List va_E} {d : Nat} {f p q : Nat} {x2 : Int} {M : fx_M} {Q : Option fx_V → fx_M → Prop} (Hf : fx_frm f) (Hp : fx_puz p) (Hq : fx_puz q) (H : wc kc d 148 [jR p] M (fun v M1 => wp kc (d + 1) 159 4 [some (jR f), some (jR p), some (jI x2), some (jR q), none, none, none, none, none] (v.toList ++ []) M1 Q)) : wp kc (d + 1) 159 0 [some (jR f), some (jR p), some (jI x2), some (jR q), none, none, none, none, none] [] M Q :=
  (x_aldn c159_0 rfl (wp_wk (l' := [some (jR f), some (jR p), some (jI x2), some (jR q), none, none, none, none, none]) ⟨rfl, ⟨rfl, ⟨rfl, ⟨rfl, trivial⟩⟩⟩⟩ (x_cs (As := [jR p]) (st := []) c159_1 (by decide) rfl (Nat.le_of_ble_eq_true rfl) mx148 (Nat.le_refl _) H)))
theorem s159_4 {kc : List va_E} {d : Nat} {f p q : Nat} {v2 u0 : Int} {M : fx_M} {Q : Option fx_V → fx_M → Prop} (Hf : fx_frm f) (Hp : fx_puz p) (Hq : fx_puz q) (H : ((fx_in32 u0)) ∧ wc kc d 147 [jR p] M (fun v M1 => wp kc (d + 1) 159 14 [some (jR f), some (jR p), some (jI v2), some (jR q), some (jI (if u0 < 1 then (1 : Int) else u0)), none, none, none, none] (v.toList ++ []) M1 Q)) : wp kc (d + 1) 159 4 [some (jR f), some (jR p), some (jI v2), some (jR q), none, none, none, none, none] [jI u0] M Q :=
  (x_ci c159_4 (x_max c159_5 n159_5 H.1 (by decide) (Nat.le_of_ble_eq_true rfl) (x_ist (l' := [some (jR f), some (jR p), some (jI v2), some (jR q), some (jI (if u0 < 1 then (1 : Int) else u0)), none, none, none, none]) c159_8 rfl (x_aldn c159_10 rfl (wp_wk (l' := [some (jR f), some (jR p), some (jI v2), some (jR q), some (jI (if u0 < 1 then (1 : Int) else u0)), none, none, none, none]) ⟨rfl, ⟨rfl, ⟨rfl, ⟨rfl, ⟨rfl, trivial⟩⟩⟩⟩⟩ (x_cs (As := [jR p]) (st := []) c159_11 (by decide) rfl (Nat.le_of_ble_eq_true rfl) mx147 (Nat.le_refl _) H.2))))))
theorem s159_14 {kc : List va_E} {d : Nat} {f p q : Nat} {v2 v4 u0 : Int} {M : fx_M} {Q : Option fx_V → fx_M → Prop} (Hf : fx_frm f) (Hp : fx_puz p) (Hq : fx_puz q) (H : ((fx_in32 u0)) ∧ (((0 : Int) ≤ v2 ∧ v2 ≤ 2147483647) ∧ ((0 : Int) < v4 ∧ v4 ≤ 2147483647)) ∧ (((0 : Int) ≤ v2 ∧ v2 ≤ 2147483647) ∧ ((0 : Int) < v4 ∧ v4 ≤ 2147483647)) ∧ (((0 : Int) ≤ v2 / v4 ∧ v2 / v4 ≤ 2147483647) ∧ ((0 : Int) < (if u0 < 1 then (1 : Int) else u0) ∧ (if u0 < 1 then (1 : Int) else u0) ≤ 2147483647)) ∧ wc kc d 155 [jR f, jI ((v2 / v4) % (if u0 < 1 then (1 : Int) else u0)), jI (M p 3)] M (fun v M1 => wp kc (d + 1) 159 41 [some (jR f), some (jR p), none, some (jR q), none, none, some (jI (v2 % v4)), none, none] (v.toList ++ []) M1 Q)) : wp kc (d + 1) 159 14 [some (jR f), some (jR p), some (jI v2), some (jR q), some (jI v4), none, none, none, none] [jI u0] M Q :=
  (x_ci c159_14 (x_max c159_15 n159_15 H.1 (by decide) (Nat.le_of_ble_eq_true rfl) (x_ist (l' := [some (jR f), some (jR p), some (jI v2), some (jR q), some (jI v4), some (jI (if u0 < 1 then (1 : Int) else u0)), none, none, none]) c159_18 rfl (x_ildn c159_20 rfl (x_ild c159_21 rfl (x_irem c159_23 H.2.1.1 H.2.1.2 (x_ist (l' := [some (jR f), some (jR p), some (jI v2), some (jR q), some (jI v4), some (jI (if u0 < 1 then (1 : Int) else u0)), some (jI (v2 % v4)), none, none]) c159_24 rfl (x_aldn c159_26 rfl (x_ildn c159_27 rfl (x_ild c159_28 rfl (x_idiv c159_30 H.2.2.1.1 H.2.2.1.2 (x_ild c159_31 rfl (x_irem c159_33 H.2.2.2.1.1 H.2.2.2.1.2 (x_aldn c159_34 rfl (x_gfi c159_35 (kp_3 Hp) (wp_wk (l' := [some (jR f), some (jR p), none, some (jR q), none, none, some (jI (v2 % v4)), none, none]) ⟨rfl, ⟨rfl, ⟨rfl, ⟨rfl, trivial⟩⟩⟩⟩ (x_cv (As := [jI ((v2 / v4) % (if u0 < 1 then (1 : Int) else u0)), jI (M p 3)]) (st := []) c159_38 (clf Hf) kl155 rfl (Nat.le_of_ble_eq_true rfl) mx155 (Nat.le_refl _) H.2.2.2.2)))))))))))))))))
theorem s159_41 {kc : List va_E} {d : Nat} {f p q : Nat} {v6 : Int} {M : fx_M} {Q : Option fx_V → fx_M → Prop} (Hf : fx_frm f) (Hp : fx_puz p) (Hq : fx_puz q) (H : wc kc d 51 [jR q, jI (M p 0), jI (M p 1), jI (M p 3)] M (fun v M1 => wp kc (d + 1) 159 57 [some (jR f), some (jR p), none, some (jR q), none, none, some (jI v6), none, none] (v.toList ++ []) M1 Q)) : wp kc (d + 1) 159 41 [some (jR f), some (jR p), none, some (jR q), none, none, some (jI v6), none, none] [] M Q :=
  (x_aldn c159_41 rfl (x_aldn c159_42 rfl (x_gfi c159_43 (kp_0 Hp) (x_aldn c159_46 rfl (x_gfi c159_47 (kp_1 Hp) (x_aldn c159_50 rfl (x_gfi c159_51 (kp_3 Hp) (wp_wk (l' := [some (jR f), some (jR p), none, some (jR q), none, none, some (jI v6), none, none]) ⟨rfl, ⟨rfl, ⟨rfl, ⟨rfl, trivial⟩⟩⟩⟩ (x_cv (As := [jI (M p 0), jI (M p 1), jI (M p 3)]) (st := []) c159_54 (clp Hq) kl51 rfl (Nat.le_of_ble_eq_true rfl) mx51 (Nat.le_refl _) H)))))))))
theorem s159_57 {kc : List va_E} {d : Nat} {f p q u0 : Nat} {v6 : Int} {M : fx_M} {Q : Option fx_V → fx_M → Prop} (Hf : fx_frm f) (Hp : fx_puz p) (Hq : fx_puz q) (H : wp kc (d + 1) 159 61 [some (jR f), some (jR p), none, some (jR q), none, none, some (jI v6), some (jI 0), none] [] M Q) : wp kc (d + 1) 159 57 [some (jR f), some (jR p), none, some (jR q), none, none, some (jI v6), none, none] [jR u0] M Q :=
  (x_popr c159_57 (x_ci c159_58 (x_ist (l' := [some (jR f), some (jR p), none, some (jR q), none, none, some (jI v6), some (jI 0), none]) c159_59 rfl (wp_wk (l' := [some (jR f), some (jR p), none, some (jR q), none, none, some (jI v6), some (jI 0), none]) ⟨rfl, ⟨rfl, ⟨rfl, ⟨rfl, ⟨rfl, trivial⟩⟩⟩⟩⟩ H))))
theorem s159_61 {kc : List va_E} {d : Nat} {f p q : Nat} {v6 v7 : Int} {M : fx_M} {Q : Option fx_V → fx_M → Prop} (Hf : fx_frm f) (Hp : fx_puz p) (Hq : fx_puz q) (H : ((fx_in32 v7) ∧ (fx_in32 (M p 4))) ∧ (M p 4 ≤ v7 → wp kc (d + 1) 159 149 [some (jR f), some (jR p), none, some (jR q), none, none, some (jI v6), some (jI 0), none] [] M Q) ∧ (v7 < M p 4 → wp kc (d + 1) 159 73 [some (jR f), some (jR p), none, some (jR q), none, none, some (jI v6), some (jI v7), some (jI 0)] [] M Q)) : wp kc (d + 1) 159 61 [some (jR f), some (jR p), none, some (jR q), none, none, some (jI v6), some (jI v7), none] [] M Q :=
  (x_ild c159_61 rfl (x_aldn c159_63 rfl (x_gfi c159_64 (kp_4 Hp) (x_cge c159_67 H.1.1 H.1.2 (fun h1 => (x_ci c159_146 (x_ist (l' := [some (jR f), some (jR p), none, some (jR q), none, none, some (jI v6), some (jI 0), none]) c159_147 rfl (wp_wk (l' := [some (jR f), some (jR p), none, some (jR q), none, none, some (jI v6), some (jI 0), none]) ⟨rfl, ⟨rfl, ⟨rfl, ⟨rfl, ⟨rfl, trivial⟩⟩⟩⟩⟩ (H.2.1 h1))))) (fun h2 => (x_ci c159_70 (x_ist (l' := [some (jR f), some (jR p), none, some (jR q), none, none, some (jI v6), some (jI v7), some (jI 0)]) c159_71 rfl (wp_wk (l' := [some (jR f), some (jR p), none, some (jR q), none, none, some (jI v6), some (jI v7), some (jI 0)]) ⟨rfl, ⟨rfl, ⟨rfl, ⟨rfl, ⟨rfl, ⟨rfl, trivial⟩⟩⟩⟩⟩⟩ (H.2.2 h2)))))))))
theorem s159_73 {kc : List va_E} {d : Nat} {f p q : Nat} {v6 v7 v8 : Int} {M : fx_M} {Q : Option fx_V → fx_M → Prop} (Hf : fx_frm f) (Hp : fx_puz p) (Hq : fx_puz q) (H : ((fx_in32 v8)) ∧ (4 ≤ v8 → (((0 : Int) ≤ v7 ∧ v7 < 12)) ∧ (((0 : Int) ≤ v7 ∧ v7 < 12)) ∧ (((0 : Int) ≤ v7 ∧ v7 < 12)) ∧ wc kc d 52 [jR q, jI (M (p + 1) v7), jI (M (p + 2) v7), jR (f + 4), jI (M (p + 3) v7)] M (fun v M1 => wp kc (d + 1) 159 139 [some (jR f), some (jR p), none, some (jR q), none, none, some (jI v6), some (jI v7), none] (v.toList ++ []) M1 Q)) ∧ (v8 < 4 → (((0 : Int) ≤ (4 * v7) + v8 ∧ (4 * v7) + v8 < 48)) ∧ wc kc d 151 [jR p, jI v6, jI (M (p + 4) ((4 * v7) + v8))] M (fun v M1 => wp kc (d + 1) 159 103 [some (jR f), some (jR p), none, some (jR q), none, none, some (jI v6), some (jI v7), some (jI v8)] (v.toList ++ [jI v8, jR (f + 4)]) M1 Q))) : wp kc (d + 1) 159 73 [some (jR f), some (jR p), none, some (jR q), none, none, some (jI v6), some (jI v7), some (jI v8)] [] M Q :=
  (x_ild c159_73 rfl (x_ci c159_75 (x_cge c159_76 H.1 (by decide) (fun h1 => (x_aldn c159_110 rfl (x_aldn c159_111 rfl (x_gfr c159_112 (kp_5 Hp) (x_ild c159_115 rfl (x_iald c159_117 (ap_1 Hp) (H.2.1 h1).1 (by decide) (x_aldn c159_118 rfl (x_gfr c159_119 (kp_6 Hp) (x_ild c159_122 rfl (x_iald c159_124 (ap_2 Hp) (H.2.1 h1).2.1 (by decide) (x_aldn c159_125 rfl (x_gfr c159_126 (kf_9 Hf) (x_aldn c159_129 rfl (x_gfr c159_130 (kp_7 Hp) (x_ild c159_133 rfl (x_iald c159_135 (ap_3 Hp) (H.2.1 h1).2.2.1 (by decide) (wp_wk (l' := [some (jR f), some (jR p), none, some (jR q), none, none, some (jI v6), some (jI v7), none]) ⟨rfl, ⟨rfl, ⟨rfl, ⟨rfl, ⟨rfl, trivial⟩⟩⟩⟩⟩ (x_cv (As := [jI (M (p + 1) v7), jI (M (p + 2) v7), jR (f + 4), jI (M (p + 3) v7)]) (st := []) c159_136 (clp Hq) kl52 rfl (Nat.le_of_ble_eq_true rfl) mx52 (Nat.le_refl _) (H.2.1 h1).2.2.2)))))))))))))))))) (fun h2 => (x_aldn c159_79 rfl (x_gfr c159_80 (kf_9 Hf) (x_ild c159_83 rfl (x_aldn c159_85 rfl (x_ild c159_86 rfl (x_aldn c159_88 rfl (x_gfr c159_89 (kp_8 Hp) (x_ci c159_92 (x_ild c159_93 rfl (x_imul c159_95 (x_ild c159_96 rfl (x_iadd c159_98 (x_iald c159_99 (ap_4 Hp) (H.2.2 h2).1 (by decide) (wp_wk (l' := [some (jR f), some (jR p), none, some (jR q), none, none, some (jI v6), some (jI v7), some (jI v8)]) ⟨rfl, ⟨rfl, ⟨rfl, ⟨rfl, ⟨rfl, ⟨rfl, trivial⟩⟩⟩⟩⟩⟩ (x_cs (As := [jR p, jI v6, jI (M (p + 4) ((4 * v7) + v8))]) (st := [jI v8, jR (f + 4)]) c159_100 (by decide) rfl (Nat.le_of_ble_eq_true rfl) mx151 (Nat.le_refl _) (H.2.2 h2).2)))))))))))))))))))
theorem s159_103 {kc : List va_E} {d : Nat} {f p q : Nat} {v6 v7 v8 u0 u1 : Int} {M : fx_M} {Q : Option fx_V → fx_M → Prop} (Hf : fx_frm f) (Hp : fx_puz p) (Hq : fx_puz q) (H : (((0 : Int) ≤ u1 ∧ u1 < 4)) ∧ wp kc (d + 1) 159 73 [some (jR f), some (jR p), none, some (jR q), none, none, some (jI v6), some (jI v7), some (jI (v8 + 1))] [] (fx_up M (f + 4) u1 u0) Q) : wp kc (d + 1) 159 103 [some (jR f), some (jR p), none, some (jR q), none, none, some (jI v6), some (jI v7), some (jI v8)] [jI u0, jI u1, jR (f + 4)] M Q :=
  (x_iast c159_103 (af_4 Hf) H.1 (by decide) (x_inc (l' := [some (jR f), some (jR p), none, some (jR q), none, none, some (jI v6), some (jI v7), some (jI (v8 + 1))]) c159_104 rfl rfl (x_goto c159_107 (wp_wk (l' := [some (jR f), some (jR p), none, some (jR q), none, none, some (jI v6), some (jI v7), some (jI (v8 + 1))]) ⟨rfl, ⟨rfl, ⟨rfl, ⟨rfl, ⟨rfl, ⟨rfl, trivial⟩⟩⟩⟩⟩⟩ H.2))))
theorem s159_139 {kc : List va_E} {d : Nat} {f p q u0 : Nat} {v6 v7 : Int} {M : fx_M} {Q : Option fx_V → fx_M → Prop} (Hf : fx_frm f) (Hp : fx_puz p) (Hq : fx_puz q) (H : wp kc (d + 1) 159 61 [some (jR f), some (jR p), none, some (jR q), none, none, some (jI v6), some (jI (v7 + 1)), none] [] M Q) : wp kc (d + 1) 159 139 [some (jR f), some (jR p), none, some (jR q), none, none, some (jI v6), some (jI v7), none] [jR u0] M Q :=
  (x_popr c159_139 (x_inc (l' := [some (jR f), some (jR p), none, some (jR q), none, none, some (jI v6), some (jI (v7 + 1)), none]) c159_140 rfl rfl (x_goto c159_143 (wp_wk (l' := [some (jR f), some (jR p), none, some (jR q), none, none, some (jI v6), some (jI (v7 + 1)), none]) ⟨rfl, ⟨rfl, ⟨rfl, ⟨rfl, ⟨rfl, trivial⟩⟩⟩⟩⟩ H))))
theorem s159_149 {kc : List va_E} {d : Nat} {f p q : Nat} {v6 v7 : Int} {M : fx_M} {Q : Option fx_V → fx_M → Prop} (Hf : fx_frm f) (Hp : fx_puz p) (Hq : fx_puz q) (H : ((fx_in32 v7) ∧ (fx_in32 (M p 2))) ∧ (M p 2 ≤ v7 → Q none M) ∧ (v7 < M p 2 → (((0 : Int) ≤ v7 ∧ v7 < 9)) ∧ ((fx_in32 (M (p + 6) v7))) ∧ (M (p + 6) v7 < 0 → wp kc (d + 1) 159 149 [some (jR f), some (jR p), none, some (jR q), none, none, some (jI v6), some (jI (v7 + 1)), none] [] M Q) ∧ (0 ≤ M (p + 6) v7 → wc kc d 151 [jR p, jI v6, jI v7] M (fun v M1 => wp kc (d + 1) 159 177 [some (jR f), some (jR p), none, some (jR q), none, none, some (jI v6), some (jI v7), none] (v.toList ++ [jR q]) M1 Q)))) : wp kc (d + 1) 159 149 [some (jR f), some (jR p), none, some (jR q), none, none, some (jI v6), some (jI v7), none] [] M Q :=
  (x_ild c159_149 rfl (x_aldn c159_151 rfl (x_gfi c159_152 (kp_2 Hp) (x_cge c159_155 H.1.1 H.1.2 (fun h3 => (x_vr c159_201 r159 (H.2.1 h3))) (fun h4 => (x_aldn c159_158 rfl (x_gfr c159_159 (kp_10 Hp) (x_ild c159_162 rfl (x_iald c159_164 (ap_6 Hp) (H.2.2 h4).1 (by decide) (x_zlt c159_165 (H.2.2 h4).2.1 (fun h1 => (x_inc (l' := [some (jR f), some (jR p), none, some (jR q), none, none, some (jI v6), some (jI (v7 + 1)), none]) c159_195 rfl rfl (x_goto c159_198 (wp_wk (l' := [some (jR f), some (jR p), none, some (jR q), none, none, some (jI v6), some (jI (v7 + 1)), none]) ⟨rfl, ⟨rfl, ⟨rfl, ⟨rfl, ⟨rfl, trivial⟩⟩⟩⟩⟩ ((H.2.2 h4).2.2.1 h1))))) (fun h2 => (x_aldn c159_168 rfl (x_aldn c159_169 rfl (x_ild c159_170 rfl (x_ild c159_172 rfl (wp_wk (l' := [some (jR f), some (jR p), none, some (jR q), none, none, some (jI v6), some (jI v7), none]) ⟨rfl, ⟨rfl, ⟨rfl, ⟨rfl, ⟨rfl, trivial⟩⟩⟩⟩⟩ (x_cs (As := [jR p, jI v6, jI v7]) (st := [jR q]) c159_174 (by decide) rfl (Nat.le_of_ble_eq_true rfl) mx151 (Nat.le_refl _) ((H.2.2 h4).2.2.2 h2))))))))))))))))))
theorem s159_177 {kc : List va_E} {d : Nat} {f p q : Nat} {v6 v7 u0 : Int} {M : fx_M} {Q : Option fx_V → fx_M → Prop} (Hf : fx_frm f) (Hp : fx_puz p) (Hq : fx_puz q) (H : (((0 : Int) ≤ v7 ∧ v7 < 9)) ∧ (((0 : Int) ≤ fx_and (M (p + 6) v7) 3 ∧ fx_and (M (p + 6) v7) 3 < 4)) ∧ wc kc d 57 [jR q, jI u0, jI (M (f + 3) (fx_and (M (p + 6) v7) 3))] M (fun v M1 => wp kc (d + 1) 159 194 [some (jR f), some (jR p), none, some (jR q), none, none, some (jI v6), some (jI v7), none] (v.toList ++ []) M1 Q)) : wp kc (d + 1) 159 177 [some (jR f), some (jR p), none, some (jR q), none, none, some (jI v6), some (jI v7), none] [jI u0, jR q] M Q :=
  (x_aldn c159_177 rfl (x_gfr c159_178 (kf_8 Hf) (x_aldn c159_181 rfl (x_gfr c159_182 (kp_10 Hp) (x_ild c159_185 rfl (x_iald c159_187 (ap_6 Hp) H.1 (by decide) (x_ci c159_188 (x_iand c159_189 (x_iald c159_190 (af_3 Hf) H.2.1 (by decide) (wp_wk (l' := [some (jR f), some (jR p), none, some (jR q), none, none, some (jI v6), some (jI v7), none]) ⟨rfl, ⟨rfl, ⟨rfl, ⟨rfl, ⟨rfl, trivial⟩⟩⟩⟩⟩ (x_cv (As := [jI u0, jI (M (f + 3) (fx_and (M (p + 6) v7) 3))]) (st := []) c159_191 (clp Hq) kl57 rfl (Nat.le_of_ble_eq_true rfl) mx57 (Nat.le_refl _) H.2.2)))))))))))
theorem s159_194 {kc : List va_E} {d : Nat} {f p q u0 : Nat} {v6 v7 : Int} {M : fx_M} {Q : Option fx_V → fx_M → Prop} (Hf : fx_frm f) (Hp : fx_puz p) (Hq : fx_puz q) (H : wp kc (d + 1) 159 149 [some (jR f), some (jR p), none, some (jR q), none, none, some (jI v6), some (jI (v7 + 1)), none] [] M Q) : wp kc (d + 1) 159 194 [some (jR f), some (jR p), none, some (jR q), none, none, some (jI v6), some (jI v7), none] [jR u0] M Q :=
  (x_popr c159_194 (x_inc (l' := [some (jR f), some (jR p), none, some (jR q), none, none, some (jI v6), some (jI (v7 + 1)), none]) c159_195 rfl rfl (x_goto c159_198 (wp_wk (l' := [some (jR f), some (jR p), none, some (jR q), none, none, some (jI v6), some (jI (v7 + 1)), none]) ⟨rfl, ⟨rfl, ⟨rfl, ⟨rfl, ⟨rfl, trivial⟩⟩⟩⟩⟩ H))))
theorem s159 {kc : List va_E} {d : Nat} {f p q : Nat} {x2 : Int} {M : fx_M} {Q : Option fx_V → fx_M → Prop} (Hf : fx_frm f) (Hp : fx_puz p) (Hq : fx_puz q) (H : wc kc d 148 [jR p] M (fun v M1 => wp kc (d + 1) 159 4 [some (jR f), some (jR p), some (jI x2), some (jR q), none, none, none, none, none] (v.toList ++ []) M1 Q)) : wc kc (d + 1) 159 [jR f, jR p, jI x2, jR q] M Q :=
  wc_of (wp_wk (l' := [some (jR f), some (jR p), some (jI x2), some (jR q), none, none, none, none, none]) ⟨rfl, ⟨rfl, ⟨rfl, ⟨rfl, trivial⟩⟩⟩⟩ (s159_0 Hf Hp Hq H))

/- PuzzleHouse$Form.same(LPuzzleHouse$Form;)Z -/
theorem c204_0 : fx_op 204 0 = some (.aload_n 0, 1, 0) := by decide +kernel
theorem c204_1 : fx_gf 204 1 = some (7, 0, 4) := by decide +kernel
theorem c204_4 : fx_op 204 4 = some (.aload_n 1, 5, 4) := by decide +kernel
theorem c204_5 : fx_gf 204 5 = some (7, 0, 8) := by decide +kernel
theorem c204_8 : fx_op 204 8 = some (.if_icmp .ne 48, 11, 56) := by decide +kernel
theorem c204_56 : fx_ci 204 56 = some (0, 57) := by decide +kernel
theorem c204_11 : fx_op 204 11 = some (.aload_n 0, 12, 11) := by decide +kernel
theorem c204_12 : fx_gf 204 12 = some (7, 1, 15) := by decide +kernel
theorem c204_15 : fx_op 204 15 = some (.aload_n 1, 16, 15) := by decide +kernel
theorem c204_16 : fx_gf 204 16 = some (7, 1, 19) := by decide +kernel
theorem c204_19 : fx_op 204 19 = some (.if_icmp .ne 37, 22, 56) := by decide +kernel
theorem c204_22 : fx_op 204 22 = some (.aload_n 0, 23, 22) := by decide +kernel
theorem c204_23 : fx_gf 204 23 = some (7, 2, 26) := by decide +kernel
theorem c204_26 : fx_op 204 26 = some (.aload_n 1, 27, 26) := by decide +kernel
theorem c204_27 : fx_gf 204 27 = some (7, 2, 30) := by decide +kernel
theorem c204_30 : fx_op 204 30 = some (.if_icmp .ne 26, 33, 56) := by decide +kernel
theorem c204_33 : fx_op 204 33 = some (.aload_n 0, 34, 33) := by decide +kernel
theorem c204_34 : fx_gf 204 34 = some (7, 3, 37) := by decide +kernel
theorem c204_37 : fx_op 204 37 = some (.aload_n 1, 38, 37) := by decide +kernel
theorem c204_38 : fx_gf 204 38 = some (7, 3, 41) := by decide +kernel
theorem c204_41 : fx_op 204 41 = some (.if_icmp .ne 15, 44, 56) := by decide +kernel
theorem c204_44 : fx_op 204 44 = some (.aload_n 0, 45, 44) := by decide +kernel
theorem c204_45 : fx_gf 204 45 = some (7, 5, 48) := by decide +kernel
theorem c204_48 : fx_op 204 48 = some (.aload_n 1, 49, 48) := by decide +kernel
theorem c204_49 : fx_gf 204 49 = some (7, 5, 52) := by decide +kernel
theorem c204_53 : fx_op 204 53 = some (.ifCond .eq 5, 56, 58) := by decide +kernel
theorem c204_58 : fx_ci 204 58 = some (0, 59) := by decide +kernel
theorem c204_59 : fx_op 204 59 = some (.istore_n 2, 60, 59) := by decide +kernel
theorem c204_57 : fx_op 204 57 = some (.ireturn, 58, 57) := by decide +kernel
theorem c204_52 : fx_op 204 52 = some (.lcmp, 53, 52) := by decide +kernel
theorem c204_60 : fx_op 204 60 = some (.iload_n 2, 61, 60) := by decide +kernel
theorem c204_61 : fx_op 204 61 = some (.aload_n 0, 62, 61) := by decide +kernel
theorem c204_62 : fx_gf 204 62 = some (7, 3, 65) := by decide +kernel
theorem c204_65 : fx_op 204 65 = some (.if_icmp .ge 26, 68, 91) := by decide +kernel
theorem c204_91 : fx_ci 204 91 = some (1, 92) := by decide +kernel
theorem c204_68 : fx_op 204 68 = some (.aload_n 0, 69, 68) := by decide +kernel
theorem c204_69 : fx_gf 204 69 = some (7, 4, 72) := by decide +kernel
theorem c204_72 : fx_op 204 72 = some (.iload_n 2, 73, 72) := by decide +kernel
theorem c204_74 : fx_op 204 74 = some (.aload_n 1, 75, 74) := by decide +kernel
theorem c204_75 : fx_gf 204 75 = some (7, 4, 78) := by decide +kernel
theorem c204_78 : fx_op 204 78 = some (.iload_n 2, 79, 78) := by decide +kernel
theorem c204_80 : fx_op 204 80 = some (.if_icmp .eq 5, 83, 85) := by decide +kernel
theorem c204_85 : fx_op 204 85 = some (.iinc 2 1, 88, 85) := by decide +kernel
theorem c204_83 : fx_ci 204 83 = some (0, 84) := by decide +kernel
theorem c204_92 : fx_op 204 92 = some (.ireturn, 93, 92) := by decide +kernel
theorem c204_73 : fx_op 204 73 = some (.iaload, 74, 73) := by decide +kernel
theorem c204_79 : fx_op 204 79 = some (.iaload, 80, 79) := by decide +kernel
theorem c204_88 : fx_op 204 88 = some (.goto (-28), 91, 60) := by decide +kernel
theorem c204_84 : fx_op 204 84 = some (.ireturn, 85, 84) := by decide +kernel
theorem s204_0 {kc : List va_E} {d : Nat} {f g : Nat} {M : fx_M} {Q : Option fx_V → fx_M → Prop} (Hf : fx_frm f) (Hg : fx_frm g) (H : ((fx_in32 (M f 0)) ∧ (fx_in32 (M g 0))) ∧ (M f 0 ≠ M g 0 → Q (some (jI 0)) M) ∧ (M f 0 = M g 0 → ((fx_in32 (M f 1)) ∧ (fx_in32 (M g 1))) ∧ (M f 1 ≠ M g 1 → Q (some (jI 0)) M) ∧ (M f 1 = M g 1 → ((fx_in32 (M f 2)) ∧ (fx_in32 (M g 2))) ∧ (M f 2 ≠ M g 2 → Q (some (jI 0)) M) ∧ (M f 2 = M g 2 → ((fx_in32 (M f 3)) ∧ (fx_in32 (M g 3))) ∧ (M f 3 ≠ M g 3 → Q (some (jI 0)) M) ∧ (M f 3 = M g 3 → ((fx_in64 (M f 5)) ∧ (fx_in64 (M g 5))) ∧ (fx_cmp (M f 5) (M g 5) = 0 → wp kc (d + 1) 204 60 [some (jR f), some (jR g), some (jI 0)] [] M Q) ∧ (fx_cmp (M f 5) (M g 5) ≠ 0 → Q (some (jI 0)) M)))))) : wp kc (d + 1) 204 0 [some (jR f), some (jR g), none] [] M Q :=
  (x_aldn c204_0 rfl (x_gfi c204_1 (kf_0 Hf) (x_aldn c204_4 rfl (x_gfi c204_5 (kf_0 Hg) (x_cne c204_8 H.1.1 H.1.2 (fun h9 => (x_ci c204_56 (x_zrt c204_57 r204 (by decide) (H.2.1 h9)))) (fun h10 => (x_aldn c204_11 rfl (x_gfi c204_12 (kf_1 Hf) (x_aldn c204_15 rfl (x_gfi c204_16 (kf_1 Hg) (x_cne c204_19 (H.2.2 h10).1.1 (H.2.2 h10).1.2 (fun h7 => (x_ci c204_56 (x_zrt c204_57 r204 (by decide) ((H.2.2 h10).2.1 h7)))) (fun h8 => (x_aldn c204_22 rfl (x_gfi c204_23 (kf_2 Hf) (x_aldn c204_26 rfl (x_gfi c204_27 (kf_2 Hg) (x_cne c204_30 ((H.2.2 h10).2.2 h8).1.1 ((H.2.2 h10).2.2 h8).1.2 (fun h5 => (x_ci c204_56 (x_zrt c204_57 r204 (by decide) (((H.2.2 h10).2.2 h8).2.1 h5)))) (fun h6 => (x_aldn c204_33 rfl (x_gfi c204_34 (kf_3 Hf) (x_aldn c204_37 rfl (x_gfi c204_38 (kf_3 Hg) (x_cne c204_41 (((H.2.2 h10).2.2 h8).2.2 h6).1.1 (((H.2.2 h10).2.2 h8).2.2 h6).1.2 (fun h3 => (x_ci c204_56 (x_zrt c204_57 r204 (by decide) ((((H.2.2 h10).2.2 h8).2.2 h6).2.1 h3)))) (fun h4 => (x_aldn c204_44 rfl (x_gfl c204_45 (kf_5 Hf) (x_aldn c204_48 rfl (x_gfl c204_49 (kf_5 Hg) (x_lcmp c204_52 ((((H.2.2 h10).2.2 h8).2.2 h6).2.2 h4).1.1 ((((H.2.2 h10).2.2 h8).2.2 h6).2.2 h4).1.2 (x_zeq c204_53 (fx_cmp_in _ _) (fun h1 => (x_ci c204_58 (x_istn (l' := [some (jR f), some (jR g), some (jI 0)]) c204_59 rfl (wp_wk (l' := [some (jR f), some (jR g), some (jI 0)]) ⟨rfl, ⟨rfl, ⟨rfl, trivial⟩⟩⟩ (((((H.2.2 h10).2.2 h8).2.2 h6).2.2 h4).2.1 h1))))) (fun h2 => (x_ci c204_56 (x_zrt c204_57 r204 (by decide) (((((H.2.2 h10).2.2 h8).2.2 h6).2.2 h4).2.2 h2))))))))))))))))))))))))))))))))))
theorem s204_60 {kc : List va_E} {d : Nat} {f g : Nat} {v2 : Int} {M : fx_M} {Q : Option fx_V → fx_M → Prop} (Hf : fx_frm f) (Hg : fx_frm g) (H : ((fx_in32 v2) ∧ (fx_in32 (M f 3))) ∧ (M f 3 ≤ v2 → Q (some (jI 1)) M) ∧ (v2 < M f 3 → (((0 : Int) ≤ v2 ∧ v2 < 12)) ∧ (((0 : Int) ≤ v2 ∧ v2 < 12)) ∧ ((fx_in32 (M (f + 1) v2)) ∧ (fx_in32 (M (g + 1) v2))) ∧ (M (f + 1) v2 = M (g + 1) v2 → wp kc (d + 1) 204 60 [some (jR f), some (jR g), some (jI (v2 + 1))] [] M Q) ∧ (M (f + 1) v2 ≠ M (g + 1) v2 → Q (some (jI 0)) M))) : wp kc (d + 1) 204 60 [some (jR f), some (jR g), some (jI v2)] [] M Q :=
  (x_ildn c204_60 rfl (x_aldn c204_61 rfl (x_gfi c204_62 (kf_3 Hf) (x_cge c204_65 H.1.1 H.1.2 (fun h3 => (x_ci c204_91 (x_zrt c204_92 r204 (by decide) (H.2.1 h3)))) (fun h4 => (x_aldn c204_68 rfl (x_gfr c204_69 (kf_4 Hf) (x_ildn c204_72 rfl (x_iald c204_73 (af_1 Hf) (H.2.2 h4).1 (by decide) (x_aldn c204_74 rfl (x_gfr c204_75 (kf_4 Hg) (x_ildn c204_78 rfl (x_iald c204_79 (af_1 Hg) (H.2.2 h4).2.1 (by decide) (x_ceq c204_80 (H.2.2 h4).2.2.1.1 (H.2.2 h4).2.2.1.2 (fun h1 => (x_inc (l' := [some (jR f), some (jR g), some (jI (v2 + 1))]) c204_85 rfl rfl (x_goto c204_88 (wp_wk (l' := [some (jR f), some (jR g), some (jI (v2 + 1))]) ⟨rfl, ⟨rfl, ⟨rfl, trivial⟩⟩⟩ ((H.2.2 h4).2.2.2.1 h1))))) (fun h2 => (x_ci c204_83 (x_zrt c204_84 r204 (by decide) ((H.2.2 h4).2.2.2.2 h2))))))))))))))))))
theorem s204 {kc : List va_E} {d : Nat} {f g : Nat} {M : fx_M} {Q : Option fx_V → fx_M → Prop} (Hf : fx_frm f) (Hg : fx_frm g) (H : ((fx_in32 (M f 0)) ∧ (fx_in32 (M g 0))) ∧ (M f 0 ≠ M g 0 → Q (some (jI 0)) M) ∧ (M f 0 = M g 0 → ((fx_in32 (M f 1)) ∧ (fx_in32 (M g 1))) ∧ (M f 1 ≠ M g 1 → Q (some (jI 0)) M) ∧ (M f 1 = M g 1 → ((fx_in32 (M f 2)) ∧ (fx_in32 (M g 2))) ∧ (M f 2 ≠ M g 2 → Q (some (jI 0)) M) ∧ (M f 2 = M g 2 → ((fx_in32 (M f 3)) ∧ (fx_in32 (M g 3))) ∧ (M f 3 ≠ M g 3 → Q (some (jI 0)) M) ∧ (M f 3 = M g 3 → ((fx_in64 (M f 5)) ∧ (fx_in64 (M g 5))) ∧ (fx_cmp (M f 5) (M g 5) = 0 → wp kc (d + 1) 204 60 [some (jR f), some (jR g), some (jI 0)] [] M Q) ∧ (fx_cmp (M f 5) (M g 5) ≠ 0 → Q (some (jI 0)) M)))))) : wc kc (d + 1) 204 [jR f, jR g] M Q :=
  wc_of (wp_wk (l' := [some (jR f), some (jR g), none]) ⟨rfl, ⟨rfl, trivial⟩⟩ (s204_0 Hf Hg H))
