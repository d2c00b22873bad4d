/-! SEGMENTS of Scan (by gen/emit_segs.py) -/
/- PuzzleHouse$Scan.start([CII)V -/
theorem c18_0 : fx_op 18 0 = some (.aload_n 0, 1, 0) := by decide +kernel
theorem c18_1 : fx_op 18 1 = some (.aload_n 1, 2, 1) := by decide +kernel
theorem c18_2 : fx_pf 18 2 = some (2, 0, 3, 5) := by decide +kernel
theorem c18_5 : fx_op 18 5 = some (.aload_n 0, 6, 5) := by decide +kernel
theorem c18_6 : fx_op 18 6 = some (.iload_n 2, 7, 6) := by decide +kernel
theorem c18_7 : fx_ci 18 7 = some (0, 8) := by decide +kernel
theorem c18_11 : fx_pf 18 11 = some (2, 1, 0, 14) := by decide +kernel
theorem c18_14 : fx_op 18 14 = some (.aload_n 0, 15, 14) := by decide +kernel
theorem c18_15 : fx_op 18 15 = some (.iload_n 3, 16, 15) := by decide +kernel
theorem c18_16 : fx_op 18 16 = some (.aload_n 1, 17, 16) := by decide +kernel
theorem c18_17 : fx_op 18 17 = some (.arraylength, 18, 17) := by decide +kernel
theorem c18_21 : fx_pf 18 21 = some (2, 2, 0, 24) := by decide +kernel
theorem c18_24 : fx_op 18 24 = some (.aload_n 0, 25, 24) := by decide +kernel
theorem c18_25 : fx_ci 18 25 = some (0, 26) := by decide +kernel
theorem c18_26 : fx_pf 18 26 = some (2, 3, 2, 29) := by decide +kernel
theorem c18_29 : fx_op 18 29 = some (.aload_n 0, 30, 29) := by decide +kernel
theorem c18_30 : fx_cr 18 30 = some (1000001, 32) := by decide +kernel
theorem c18_32 : fx_pf 18 32 = some (2, 4, 3, 35) := by decide +kernel
theorem c18_8 : fx_nt 18 8 = some (1, 11) := by decide +kernel
theorem c18_18 : fx_nt 18 18 = some (2, 21) := by decide +kernel
theorem c18_35 : fx_op 18 35 = some (.return_, 36, 35) := by decide +kernel
theorem n18_8 : xS 18 ((xI 18 8).getD .nop) = none := by decide +kernel
theorem n18_18 : xS 18 ((xI 18 18).getD .nop) = none := by decide +kernel
theorem s18_0 {kc : List va_E} {d : Nat} {s a n : Nat} {x2 x3 : Int} {M : fx_M} {Q : Option fx_V → fx_M → Prop} (Hs : fx_scn s) (Ha : fx_a a = some (1, n)) (Han : n ≤ 2147483647) (H : ((fx_in32 x2)) ∧ ((fx_in32 x3) ∧ (fx_in32 ((n : Nat) : Int))) ∧ Q none (fx_up (fx_up (fx_up (fx_up (fx_up M s 0 ((a : Nat) : Int)) s 1 (if x2 < 0 then (0 : Int) else x2)) s 2 (if ((n : Nat) : Int) < x3 then (((n : Nat) : Int) : Int) else x3)) s 3 0) s 4 ((1000001 : Nat) : Int))) : wp kc (d + 1) 18 0 [some (jR s), some (jR a), some (jI x2), some (jI x3)] [] M Q :=
  (x_aldn c18_0 rfl (x_aldn c18_1 rfl (x_pfd c18_2 (ks_0 Hs) (x_aldn c18_5 rfl (x_ildn c18_6 rfl (x_ci c18_7 (x_max c18_8 n18_8 H.1 (by decide) (Nat.le_of_ble_eq_true rfl) (x_pfi c18_11 (ks_1 Hs) (x_aldn c18_14 rfl (x_ildn c18_15 rfl (x_aldn c18_16 rfl (x_len c18_17 Ha (x_min c18_18 n18_18 H.2.1.1 H.2.1.2 (Nat.le_of_ble_eq_true rfl) (x_pfi c18_21 (ks_2 Hs) (x_aldn c18_24 rfl (x_ci c18_25 (x_pfz c18_26 (ks_3 Hs) (by decide) (x_aldn c18_29 rfl (x_cr c18_30 (x_pfd c18_32 (ks_4 Hs) (x_vr c18_35 r18 H.2.2)))))))))))))))))))))
theorem s18 {kc : List va_E} {d : Nat} {s a n : Nat} {x2 x3 : Int} {M : fx_M} {Q : Option fx_V → fx_M → Prop} (Hs : fx_scn s) (Ha : fx_a a = some (1, n)) (Han : n ≤ 2147483647) (H : ((fx_in32 x2)) ∧ ((fx_in32 x3) ∧ (fx_in32 ((n : Nat) : Int))) ∧ Q none (fx_up (fx_up (fx_up (fx_up (fx_up M s 0 ((a : Nat) : Int)) s 1 (if x2 < 0 then (0 : Int) else x2)) s 2 (if ((n : Nat) : Int) < x3 then (((n : Nat) : Int) : Int) else x3)) s 3 0) s 4 ((1000001 : Nat) : Int))) : wc kc (d + 1) 18 [jR s, jR a, jI x2, jI x3] M Q :=
  wc_of (wp_wk (l' := [some (jR s), some (jR a), some (jI x2), some (jI x3)]) ⟨rfl, ⟨rfl, ⟨rfl, ⟨rfl, trivial⟩⟩⟩⟩ (s18_0 Hs Ha Han H))

/- PuzzleHouse$Scan.choose(Ljava/lang/String;)I -/
theorem c20_0 : fx_ci 20 0 = some ((-1), 1) := by decide +kernel
theorem c20_1 : fx_op 20 1 = some (.istore_n 2, 2, 1) := by decide +kernel
theorem c20_2 : fx_ci 20 2 = some (0, 3) := by decide +kernel
theorem c20_3 : fx_op 20 3 = some (.istore_n 3, 4, 3) := by decide +kernel
theorem c20_4 : fx_ci 20 4 = some (0, 5) := by decide +kernel
theorem c20_5 : fx_op 20 5 = some (.istore 4, 7, 5) := by decide +kernel
theorem c20_7 : fx_ci 20 7 = some (0, 8) := by decide +kernel
theorem c20_8 : fx_op 20 8 = some (.istore 5, 10, 8) := by decide +kernel
theorem c20_10 : fx_ci 20 10 = some (0, 11) := by decide +kernel
theorem c20_11 : fx_op 20 11 = some (.istore 6, 13, 11) := by decide +kernel
theorem c20_13 : fx_ci 20 13 = some (0, 14) := by decide +kernel
theorem c20_14 : fx_op 20 14 = some (.istore 7, 16, 14) := by decide +kernel
theorem c20_16 : fx_ci 20 16 = some (0, 17) := by decide +kernel
theorem c20_17 : fx_op 20 17 = some (.istore 8, 19, 17) := by decide +kernel
theorem c20_19 : fx_op 20 19 = some (.iload 8, 21, 19) := by decide +kernel
theorem c20_21 : fx_op 20 21 = some (.aload_n 1, 22, 21) := by decide +kernel
theorem c20_22 : fx_ca 20 22 = some (21, 1, 2, 25) := by decide +kernel
theorem c20_25 : fx_op 20 25 = some (.if_icmp .gt 130, 28, 155) := by decide +kernel
theorem c20_28 : fx_op 20 28 = some (.aload_n 0, 29, 28) := by decide +kernel
theorem c20_29 : fx_gf 20 29 = some (2, 3, 32) := by decide +kernel
theorem c20_32 : fx_op 20 32 = some (.ifCond .ne 123, 35, 155) := by decide +kernel
theorem c20_35 : fx_op 20 35 = some (.iload 8, 37, 35) := by decide +kernel
theorem c20_37 : fx_op 20 37 = some (.aload_n 1, 38, 37) := by decide +kernel
theorem c20_155 : fx_op 20 155 = some (.aload_n 0, 156, 155) := by decide +kernel
theorem c20_156 : fx_op 20 156 = some (.aload_n 0, 157, 156) := by decide +kernel
theorem c20_157 : fx_gf 20 157 = some (2, 3, 160) := by decide +kernel
theorem c20_160 : fx_op 20 160 = some (.ifCond .ne 7, 163, 167) := by decide +kernel
theorem c20_167 : fx_ci 20 167 = some (1, 168) := by decide +kernel
theorem c20_168 : fx_op 20 168 = some (.goto 4, 171, 172) := by decide +kernel
theorem c20_163 : fx_op 20 163 = some (.iload_n 2, 164, 163) := by decide +kernel
theorem c20_164 : fx_op 20 164 = some (.ifCond .ge 7, 167, 171) := by decide +kernel
theorem c20_171 : fx_ci 20 171 = some (0, 172) := by decide +kernel
theorem c20_175 : fx_op 20 175 = some (.aload_n 0, 176, 175) := by decide +kernel
theorem c20_176 : fx_op 20 176 = some (.dup, 177, 176) := by decide +kernel
theorem c20_177 : fx_gf 20 177 = some (2, 1, 180) := by decide +kernel
theorem c20_180 : fx_op 20 180 = some (.iload_n 2, 181, 180) := by decide +kernel
theorem c20_181 : fx_op 20 181 = some (.ifCond .ge 8, 184, 189) := by decide +kernel
theorem c20_189 : fx_op 20 189 = some (.iload_n 3, 190, 189) := by decide +kernel
theorem c20_184 : fx_op 20 184 = some (.iload 4, 186, 184) := by decide +kernel
theorem c20_186 : fx_op 20 186 = some (.goto 4, 189, 190) := by decide +kernel
theorem c20_190 : fx_op 20 190 = some (.iadd, 191, 190) := by decide +kernel
theorem c20_191 : fx_pf 20 191 = some (2, 1, 0, 194) := by decide +kernel
theorem c20_194 : fx_op 20 194 = some (.iload_n 2, 195, 194) := by decide +kernel
theorem c20_172 : fx_pf 20 172 = some (2, 3, 2, 175) := by decide +kernel
theorem c20_195 : fx_op 20 195 = some (.ireturn, 196, 195) := by decide +kernel
theorem c20_38 : fx_ca 20 38 = some (21, 1, 2, 41) := by decide +kernel
theorem c20_41 : fx_op 20 41 = some (.if_icmp .eq 14, 44, 55) := by decide +kernel
theorem c20_55 : fx_op 20 55 = some (.iload 7, 57, 55) := by decide +kernel
theorem c20_57 : fx_op 20 57 = some (.iload 6, 59, 57) := by decide +kernel
theorem c20_59 : fx_op 20 59 = some (.if_icmp .ne 15, 62, 74) := by decide +kernel
theorem c20_74 : fx_op 20 74 = some (.iload 4, 76, 74) := by decide +kernel
theorem c20_76 : fx_op 20 76 = some (.iload 7, 78, 76) := by decide +kernel
theorem c20_78 : fx_nt 20 78 = some (1, 81) := by decide +kernel
theorem c20_81 : fx_op 20 81 = some (.istore 4, 83, 81) := by decide +kernel
theorem c20_83 : fx_op 20 83 = some (.iinc 5 1, 86, 83) := by decide +kernel
theorem c20_86 : fx_ci 20 86 = some (0, 87) := by decide +kernel
theorem c20_87 : fx_op 20 87 = some (.istore 6, 89, 87) := by decide +kernel
theorem c20_89 : fx_ci 20 89 = some (0, 90) := by decide +kernel
theorem c20_90 : fx_op 20 90 = some (.istore 7, 92, 90) := by decide +kernel
theorem c20_92 : fx_op 20 92 = some (.goto 57, 95, 149) := by decide +kernel
theorem c20_62 : fx_op 20 62 = some (.iload 7, 64, 62) := by decide +kernel
theorem c20_64 : fx_op 20 64 = some (.iload_n 3, 65, 64) := by decide +kernel
theorem c20_65 : fx_op 20 65 = some (.if_icmp .le 9, 68, 74) := by decide +kernel
theorem c20_68 : fx_op 20 68 = some (.iload 5, 70, 68) := by decide +kernel
theorem c20_70 : fx_op 20 70 = some (.istore_n 2, 71, 70) := by decide +kernel
theorem c20_71 : fx_op 20 71 = some (.iload 7, 73, 71) := by decide +kernel
theorem c20_73 : fx_op 20 73 = some (.istore_n 3, 74, 73) := by decide +kernel
theorem c20_44 : fx_op 20 44 = some (.aload_n 1, 45, 44) := by decide +kernel
theorem c20_45 : fx_op 20 45 = some (.iload 8, 47, 45) := by decide +kernel
theorem c20_149 : fx_op 20 149 = some (.iinc 8 1, 152, 149) := by decide +kernel
theorem c20_152 : fx_op 20 152 = some (.goto (-133), 155, 19) := by decide +kernel
theorem c20_47 : fx_ca 20 47 = some (23, 2, 2, 50) := by decide +kernel
theorem c20_50 : fx_ci 20 50 = some (32, 52) := by decide +kernel
theorem c20_52 : fx_op 20 52 = some (.if_icmp .ne 43, 55, 95) := by decide +kernel
theorem c20_95 : fx_op 20 95 = some (.aload_n 0, 96, 95) := by decide +kernel
theorem c20_96 : fx_gf 20 96 = some (2, 1, 99) := by decide +kernel
theorem c20_99 : fx_op 20 99 = some (.iload 7, 101, 99) := by decide +kernel
theorem c20_101 : fx_op 20 101 = some (.iadd, 102, 101) := by decide +kernel
theorem c20_102 : fx_op 20 102 = some (.istore 9, 104, 102) := by decide +kernel
theorem c20_104 : fx_op 20 104 = some (.iload 7, 106, 104) := by decide +kernel
theorem c20_106 : fx_op 20 106 = some (.iload 7, 108, 106) := by decide +kernel
theorem c20_108 : fx_op 20 108 = some (.iload 6, 110, 108) := by decide +kernel
theorem c20_110 : fx_op 20 110 = some (.if_icmp .ne 32, 113, 142) := by decide +kernel
theorem c20_142 : fx_ci 20 142 = some (0, 143) := by decide +kernel
theorem c20_143 : fx_op 20 143 = some (.iadd, 144, 143) := by decide +kernel
theorem c20_144 : fx_op 20 144 = some (.istore 7, 146, 144) := by decide +kernel
theorem c20_146 : fx_op 20 146 = some (.iinc 6 1, 149, 146) := by decide +kernel
theorem c20_113 : fx_op 20 113 = some (.iload 9, 115, 113) := by decide +kernel
theorem c20_115 : fx_op 20 115 = some (.aload_n 0, 116, 115) := by decide +kernel
theorem c20_116 : fx_gf 20 116 = some (2, 2, 119) := by decide +kernel
theorem c20_119 : fx_op 20 119 = some (.if_icmp .ge 23, 122, 142) := by decide +kernel
theorem c20_122 : fx_op 20 122 = some (.aload_n 0, 123, 122) := by decide +kernel
theorem c20_123 : fx_gf 20 123 = some (2, 0, 126) := by decide +kernel
theorem c20_126 : fx_op 20 126 = some (.iload 9, 128, 126) := by decide +kernel
theorem c20_128 : fx_op 20 128 = some (.caload, 129, 128) := by decide +kernel
theorem c20_129 : fx_op 20 129 = some (.aload_n 1, 130, 129) := by decide +kernel
theorem c20_130 : fx_op 20 130 = some (.iload 8, 132, 130) := by decide +kernel
theorem c20_132 : fx_ca 20 132 = some (23, 2, 2, 135) := by decide +kernel
theorem c20_135 : fx_op 20 135 = some (.if_icmp .ne 7, 138, 142) := by decide +kernel
theorem c20_138 : fx_ci 20 138 = some (1, 139) := by decide +kernel
theorem c20_139 : fx_op 20 139 = some (.goto 4, 142, 143) := by decide +kernel
theorem n20_78 : xS 20 ((xI 20 78).getD .nop) = none := by decide +kernel
theorem s20_0 {kc : List va_E} {d : Nat} {s w : Nat} {M : fx_M} {Q : Option fx_V → fx_M → Prop} (Hs : fx_scn s) (H : wp kc (d + 1) 20 19 [some (jR s), some (jR w), some (jI (-1)), some (jI 0), some (jI 0), some (jI 0), some (jI 0), some (jI 0), some (jI 0), none] [] M Q) : wp kc (d + 1) 20 0 [some (jR s), some (jR w), none, none, none, none, none, none, none, none] [] M Q :=
  (x_ci c20_0 (x_istn (l' := [some (jR s), some (jR w), some (jI (-1)), none, none, none, none, none, none, none]) c20_1 rfl (x_ci c20_2 (x_istn (l' := [some (jR s), some (jR w), some (jI (-1)), some (jI 0), none, none, none, none, none, none]) c20_3 rfl (x_ci c20_4 (x_ist (l' := [some (jR s), some (jR w), some (jI (-1)), some (jI 0), some (jI 0), none, none, none, none, none]) c20_5 rfl (x_ci c20_7 (x_ist (l' := [some (jR s), some (jR w), some (jI (-1)), some (jI 0), some (jI 0), some (jI 0), none, none, none, none]) c20_8 rfl (x_ci c20_10 (x_ist (l' := [some (jR s), some (jR w), some (jI (-1)), some (jI 0), some (jI 0), some (jI 0), some (jI 0), none, none, none]) c20_11 rfl (x_ci c20_13 (x_ist (l' := [some (jR s), some (jR w), some (jI (-1)), some (jI 0), some (jI 0), some (jI 0), some (jI 0), some (jI 0), none, none]) c20_14 rfl (x_ci c20_16 (x_ist (l' := [some (jR s), some (jR w), some (jI (-1)), some (jI 0), some (jI 0), some (jI 0), some (jI 0), some (jI 0), some (jI 0), none]) c20_17 rfl (wp_wk (l' := [some (jR s), some (jR w), some (jI (-1)), some (jI 0), some (jI 0), some (jI 0), some (jI 0), some (jI 0), some (jI 0), none]) ⟨rfl, ⟨rfl, ⟨rfl, ⟨rfl, ⟨rfl, ⟨rfl, ⟨rfl, ⟨rfl, ⟨rfl, trivial⟩⟩⟩⟩⟩⟩⟩⟩⟩ H)))))))))))))))
theorem s20_19 {kc : List va_E} {d : Nat} {s w : Nat} {v2 v3 v4 v5 v6 v7 v8 : Int} {M : fx_M} {Q : Option fx_V → fx_M → Prop} (Hs : fx_scn s) (H : fx_lit kc w ∧ wc kc d 21 [jR w] M (fun v M1 => wp kc (d + 1) 20 25 [some (jR s), some (jR w), some (jI v2), some (jI v3), some (jI v4), some (jI v5), some (jI v6), some (jI v7), some (jI v8), none] (v.toList ++ [jI v8]) M1 Q)) : wp kc (d + 1) 20 19 [some (jR s), some (jR w), some (jI v2), some (jI v3), some (jI v4), some (jI v5), some (jI v6), some (jI v7), some (jI v8), none] [] M Q :=
  (x_ild c20_19 rfl (x_aldn c20_21 rfl (wp_wk (l' := [some (jR s), some (jR w), some (jI v2), some (jI v3), some (jI v4), some (jI v5), some (jI v6), some (jI v7), some (jI v8), none]) ⟨rfl, ⟨rfl, ⟨rfl, ⟨rfl, ⟨rfl, ⟨rfl, ⟨rfl, ⟨rfl, ⟨rfl, trivial⟩⟩⟩⟩⟩⟩⟩⟩⟩ (x_cl (b := w) (As := []) (st := [jI v8]) c20_22 kl21 H.1 rfl (Nat.le_of_ble_eq_true rfl) mx21 (Nat.le_refl _) H.2))))
theorem s20_25 {kc : List va_E} {d : Nat} {s w : Nat} {v2 v3 v4 v5 v6 v7 v8 u0 u1 : Int} {M : fx_M} {Q : Option fx_V → fx_M → Prop} (Hs : fx_scn s) (H : ((fx_in32 u1) ∧ (fx_in32 u0)) ∧ (u0 < u1 → ((fx_in32 (M s 3))) ∧ (M s 3 = 0 → (fx_in32 v2)) ∧ (((0 : Int) ≤ (if M s 3 = 0 then ((if v2 < 0 then (1 : Int) else 0) : Int) else 1) ∧ (if M s 3 = 0 then ((if v2 < 0 then (1 : Int) else 0) : Int) else 1) ≤ 1)) ∧ ((fx_in32 v2)) ∧ Q (some (jI v2)) (fx_up (fx_up M s 3 (if M s 3 = 0 then ((if v2 < 0 then (1 : Int) else 0) : Int) else 1)) s 1 ((M s 1) + (if v2 < 0 then (v4 : Int) else v3)))) ∧ (u1 ≤ u0 → ((fx_in32 (M s 3))) ∧ (M s 3 ≠ 0 → ((fx_in32 (M s 3))) ∧ (M s 3 = 0 → (fx_in32 v2)) ∧ (((0 : Int) ≤ (if M s 3 = 0 then ((if v2 < 0 then (1 : Int) else 0) : Int) else 1) ∧ (if M s 3 = 0 then ((if v2 < 0 then (1 : Int) else 0) : Int) else 1) ≤ 1)) ∧ ((fx_in32 v2)) ∧ Q (some (jI v2)) (fx_up (fx_up M s 3 (if M s 3 = 0 then ((if v2 < 0 then (1 : Int) else 0) : Int) else 1)) s 1 ((M s 1) + (if v2 < 0 then (v4 : Int) else v3)))) ∧ (M s 3 = 0 → fx_lit kc w ∧ wc kc d 21 [jR w] M (fun v M1 => wp kc (d + 1) 20 41 [some (jR s), some (jR w), some (jI v2), some (jI v3), some (jI v4), some (jI v5), some (jI v6), some (jI v7), some (jI v8), none] (v.toList ++ [jI v8]) M1 Q)))) : wp kc (d + 1) 20 25 [some (jR s), some (jR w), some (jI v2), some (jI v3), some (jI v4), some (jI v5), some (jI v6), some (jI v7), some (jI v8), none] [jI u0, jI u1] M Q :=
  (x_cgt c20_25 H.1.1 H.1.2 (fun h3 => (x_aldn c20_155 rfl (x_aldn c20_156 rfl (x_gfi c20_157 (ks_3 Hs) (have K : wp kc (d + 1) 20 172 [some (jR s), none, some (jI v2), some (jI v3), some (jI v4), none, none, none, none, none] [jI (if M s 3 = 0 then ((if v2 < 0 then (1 : Int) else 0) : Int) else 1), jR s] M Q := (x_pfz c20_172 (ks_3 Hs) (H.2.1 h3).2.2.1 (x_aldn c20_175 rfl (x_dupr c20_176 (x_gfi c20_177 (ks_1 Hs) (wp_vI (fx_upK (by decide)) (x_ildn c20_180 rfl (have K : wp kc (d + 1) 20 190 [none, none, some (jI v2), none, none, none, none, none, none, none] [jI (if v2 < 0 then (v4 : Int) else v3), jI (M s 1), jR s] (fx_up M s 3 (if M s 3 = 0 then ((if v2 < 0 then (1 : Int) else 0) : Int) else 1)) Q := (x_iadd c20_190 (x_pfi c20_191 (ks_1 Hs) (x_ildn c20_194 rfl (x_irt c20_195 r20 (H.2.1 h3).2.2.2.2)))); (x_zge c20_181 (H.2.1 h3).2.2.2.1 (fun (h9 : 0 ≤ v2) => (x_ildn c20_189 rfl (wp_wk (l' := [none, none, some (jI v2), none, none, none, none, none, none, none]) ⟨rfl, trivial⟩ (by have K := K; first | (simp only [if_neg (Int.not_lt.mpr h9)] at K ⊢; exact K) | (exfalso; omega))))) (fun (h10 : v2 < 0) => (x_ild c20_184 rfl (x_goto c20_186 (wp_wk (l' := [none, none, some (jI v2), none, none, none, none, none, none, none]) ⟨rfl, trivial⟩ (by have K := K; first | (simp only [if_pos h10] at K ⊢; exact K) | (exfalso; omega)))))))))))))); (x_zne c20_160 (H.2.1 h3).1 (fun (h5 : M s 3 ≠ 0) => (x_ci c20_167 (x_goto c20_168 (wp_wk (l' := [some (jR s), none, some (jI v2), some (jI v3), some (jI v4), none, none, none, none, none]) ⟨rfl, ⟨rfl, ⟨rfl, ⟨rfl, trivial⟩⟩⟩⟩ (by have K := K; first | (simp only [if_neg h5] at K ⊢; exact K) | (exfalso; omega)))))) (fun (h6 : M s 3 = 0) => (x_ildn c20_163 rfl (x_zge c20_164 ((H.2.1 h3).2.1 h6) (fun (h7 : 0 ≤ v2) => (x_ci c20_171 (wp_wk (l' := [some (jR s), none, some (jI v2), some (jI v3), some (jI v4), none, none, none, none, none]) ⟨rfl, ⟨rfl, ⟨rfl, ⟨rfl, trivial⟩⟩⟩⟩ (by have K := K; first | (simp only [if_pos h6, if_neg (Int.not_lt.mpr h7)] at K ⊢; exact K) | (exfalso; omega))))) (fun (h8 : v2 < 0) => (x_ci c20_167 (x_goto c20_168 (wp_wk (l' := [some (jR s), none, some (jI v2), some (jI v3), some (jI v4), none, none, none, none, none]) ⟨rfl, ⟨rfl, ⟨rfl, ⟨rfl, trivial⟩⟩⟩⟩ (by have K := K; first | (simp only [if_pos h6, if_pos h8] at K ⊢; exact K) | (exfalso; omega))))))))))))))) (fun h4 => (x_aldn c20_28 rfl (x_gfi c20_29 (ks_3 Hs) (x_zne c20_32 (H.2.2 h4).1 (fun h1 => (x_aldn c20_155 rfl (x_aldn c20_156 rfl (x_gfi c20_157 (ks_3 Hs) (have K : wp kc (d + 1) 20 172 [some (jR s), none, some (jI v2), some (jI v3), some (jI v4), none, none, none, none, none] [jI (if M s 3 = 0 then ((if v2 < 0 then (1 : Int) else 0) : Int) else 1), jR s] M Q := (x_pfz c20_172 (ks_3 Hs) ((H.2.2 h4).2.1 h1).2.2.1 (x_aldn c20_175 rfl (x_dupr c20_176 (x_gfi c20_177 (ks_1 Hs) (wp_vI (fx_upK (by decide)) (x_ildn c20_180 rfl (have K : wp kc (d + 1) 20 190 [none, none, some (jI v2), none, none, none, none, none, none, none] [jI (if v2 < 0 then (v4 : Int) else v3), jI (M s 1), jR s] (fx_up M s 3 (if M s 3 = 0 then ((if v2 < 0 then (1 : Int) else 0) : Int) else 1)) Q := (x_iadd c20_190 (x_pfi c20_191 (ks_1 Hs) (x_ildn c20_194 rfl (x_irt c20_195 r20 ((H.2.2 h4).2.1 h1).2.2.2.2)))); (x_zge c20_181 ((H.2.2 h4).2.1 h1).2.2.2.1 (fun (h15 : 0 ≤ v2) => (x_ildn c20_189 rfl (wp_wk (l' := [none, none, some (jI v2), none, none, none, none, none, none, none]) ⟨rfl, trivial⟩ (by have K := K; first | (simp only [if_neg (Int.not_lt.mpr h15)] at K ⊢; exact K) | (exfalso; omega))))) (fun (h16 : v2 < 0) => (x_ild c20_184 rfl (x_goto c20_186 (wp_wk (l' := [none, none, some (jI v2), none, none, none, none, none, none, none]) ⟨rfl, trivial⟩ (by have K := K; first | (simp only [if_pos h16] at K ⊢; exact K) | (exfalso; omega)))))))))))))); (x_zne c20_160 ((H.2.2 h4).2.1 h1).1 (fun (h11 : M s 3 ≠ 0) => (x_ci c20_167 (x_goto c20_168 (wp_wk (l' := [some (jR s), none, some (jI v2), some (jI v3), some (jI v4), none, none, none, none, none]) ⟨rfl, ⟨rfl, ⟨rfl, ⟨rfl, trivial⟩⟩⟩⟩ (by have K := K; first | (simp only [if_neg h11] at K ⊢; exact K) | (exfalso; omega)))))) (fun (h12 : M s 3 = 0) => (x_ildn c20_163 rfl (x_zge c20_164 (((H.2.2 h4).2.1 h1).2.1 h12) (fun (h13 : 0 ≤ v2) => (x_ci c20_171 (wp_wk (l' := [some (jR s), none, some (jI v2), some (jI v3), some (jI v4), none, none, none, none, none]) ⟨rfl, ⟨rfl, ⟨rfl, ⟨rfl, trivial⟩⟩⟩⟩ (by have K := K; first | (simp only [if_pos h12, if_neg (Int.not_lt.mpr h13)] at K ⊢; exact K) | (exfalso; omega))))) (fun (h14 : v2 < 0) => (x_ci c20_167 (x_goto c20_168 (wp_wk (l' := [some (jR s), none, some (jI v2), some (jI v3), some (jI v4), none, none, none, none, none]) ⟨rfl, ⟨rfl, ⟨rfl, ⟨rfl, trivial⟩⟩⟩⟩ (by have K := K; first | (simp only [if_pos h12, if_pos h14] at K ⊢; exact K) | (exfalso; omega))))))))))))))) (fun h2 => (x_ild c20_35 rfl (x_aldn c20_37 rfl (wp_wk (l' := [some (jR s), some (jR w), some (jI v2), some (jI v3), some (jI v4), some (jI v5), some (jI v6), some (jI v7), some (jI v8), none]) ⟨rfl, ⟨rfl, ⟨rfl, ⟨rfl, ⟨rfl, ⟨rfl, ⟨rfl, ⟨rfl, ⟨rfl, trivial⟩⟩⟩⟩⟩⟩⟩⟩⟩ (x_cl (b := w) (As := []) (st := [jI v8]) c20_38 kl21 ((H.2.2 h4).2.2 h2).1 rfl (Nat.le_of_ble_eq_true rfl) mx21 (Nat.le_refl _) ((H.2.2 h4).2.2 h2).2))))))))))
theorem s20_41 {kc : List va_E} {d : Nat} {s w : Nat} {v2 v3 v4 v5 v6 v7 v8 u0 u1 : Int} {M : fx_M} {Q : Option fx_V → fx_M → Prop} (Hs : fx_scn s) (H : ((fx_in32 u1) ∧ (fx_in32 u0)) ∧ (u1 = u0 → ((fx_in32 v7)) ∧ ((fx_in32 v6)) ∧ (v7 = v6 → (fx_in32 v7)) ∧ (v7 = v6 → (fx_in32 v3)) ∧ ((fx_in32 v4) ∧ (fx_in32 v7)) ∧ wp kc (d + 1) 20 19 [some (jR s), some (jR w), some (jI (if v7 = v6 then ((if v3 < v7 then (v5 : Int) else v2) : Int) else v2)), some (jI (if v7 = v6 then ((if v3 < v7 then (v7 : Int) else v3) : Int) else v3)), some (jI (if v4 < v7 then (v7 : Int) else v4)), some (jI (v5 + 1)), some (jI 0), some (jI 0), some (jI (v8 + 1)), none] [] M Q) ∧ (u1 ≠ u0 → fx_lit kc w ∧ wc kc d 23 [jR w, jI v8] M (fun v M1 => wp kc (d + 1) 20 50 [some (jR s), some (jR w), some (jI v2), some (jI v3), some (jI v4), some (jI v5), some (jI v6), some (jI v7), some (jI v8), none] (v.toList ++ []) M1 Q))) : wp kc (d + 1) 20 41 [some (jR s), some (jR w), some (jI v2), some (jI v3), some (jI v4), some (jI v5), some (jI v6), some (jI v7), some (jI v8), none] [jI u0, jI u1] M Q :=
  (x_ceq c20_41 H.1.1 H.1.2 (fun h1 => (x_ild c20_55 rfl (x_ild c20_57 rfl (have K : wp kc (d + 1) 20 74 [some (jR s), some (jR w), some (jI (if v7 = v6 then ((if v3 < v7 then (v5 : Int) else v2) : Int) else v2)), some (jI (if v7 = v6 then ((if v3 < v7 then (v7 : Int) else v3) : Int) else v3)), some (jI v4), some (jI v5), none, some (jI v7), some (jI v8), none] [] M Q := (x_ild c20_74 rfl (x_ild c20_76 rfl (x_max c20_78 n20_78 (H.2.1 h1).2.2.2.2.1.1 (H.2.1 h1).2.2.2.2.1.2 (Nat.le_of_ble_eq_true rfl) (x_ist (l' := [some (jR s), some (jR w), some (jI (if v7 = v6 then ((if v3 < v7 then (v5 : Int) else v2) : Int) else v2)), some (jI (if v7 = v6 then ((if v3 < v7 then (v7 : Int) else v3) : Int) else v3)), some (jI (if v4 < v7 then (v7 : Int) else v4)), some (jI v5), none, some (jI v7), some (jI v8), none]) c20_81 rfl (x_inc (l' := [some (jR s), some (jR w), some (jI (if v7 = v6 then ((if v3 < v7 then (v5 : Int) else v2) : Int) else v2)), some (jI (if v7 = v6 then ((if v3 < v7 then (v7 : Int) else v3) : Int) else v3)), some (jI (if v4 < v7 then (v7 : Int) else v4)), some (jI (v5 + 1)), none, some (jI v7), some (jI v8), none]) c20_83 rfl rfl (x_ci c20_86 (x_ist (l' := [some (jR s), some (jR w), some (jI (if v7 = v6 then ((if v3 < v7 then (v5 : Int) else v2) : Int) else v2)), some (jI (if v7 = v6 then ((if v3 < v7 then (v7 : Int) else v3) : Int) else v3)), some (jI (if v4 < v7 then (v7 : Int) else v4)), some (jI (v5 + 1)), some (jI 0), some (jI v7), some (jI v8), none]) c20_87 rfl (x_ci c20_89 (x_ist (l' := [some (jR s), some (jR w), some (jI (if v7 = v6 then ((if v3 < v7 then (v5 : Int) else v2) : Int) else v2)), some (jI (if v7 = v6 then ((if v3 < v7 then (v7 : Int) else v3) : Int) else v3)), some (jI (if v4 < v7 then (v7 : Int) else v4)), some (jI (v5 + 1)), some (jI 0), some (jI 0), some (jI v8), none]) c20_90 rfl (x_goto c20_92 (x_inc (l' := [some (jR s), some (jR w), some (jI (if v7 = v6 then ((if v3 < v7 then (v5 : Int) else v2) : Int) else v2)), some (jI (if v7 = v6 then ((if v3 < v7 then (v7 : Int) else v3) : Int) else v3)), some (jI (if v4 < v7 then (v7 : Int) else v4)), some (jI (v5 + 1)), some (jI 0), some (jI 0), some (jI (v8 + 1)), none]) c20_149 rfl rfl (x_goto c20_152 (wp_wk (l' := [some (jR s), some (jR w), some (jI (if v7 = v6 then ((if v3 < v7 then (v5 : Int) else v2) : Int) else v2)), some (jI (if v7 = v6 then ((if v3 < v7 then (v7 : Int) else v3) : Int) else v3)), some (jI (if v4 < v7 then (v7 : Int) else v4)), some (jI (v5 + 1)), some (jI 0), some (jI 0), some (jI (v8 + 1)), none]) ⟨rfl, ⟨rfl, ⟨rfl, ⟨rfl, ⟨rfl, ⟨rfl, ⟨rfl, ⟨rfl, ⟨rfl, trivial⟩⟩⟩⟩⟩⟩⟩⟩⟩ (H.2.1 h1).2.2.2.2.2))))))))))))); (x_cne c20_59 (H.2.1 h1).1 (H.2.1 h1).2.1 (fun (h3 : v7 ≠ v6) => (wp_wk (l' := [some (jR s), some (jR w), some (jI v2), some (jI v3), some (jI v4), some (jI v5), none, some (jI v7), some (jI v8), none]) ⟨rfl, ⟨rfl, ⟨rfl, ⟨rfl, ⟨rfl, ⟨rfl, ⟨rfl, ⟨rfl, trivial⟩⟩⟩⟩⟩⟩⟩⟩ (by have K := K; first | (simp only [if_neg h3] at K ⊢; exact K) | (exfalso; omega)))) (fun (h4 : v7 = v6) => (x_ild c20_62 rfl (x_ildn c20_64 rfl (x_cle c20_65 ((H.2.1 h1).2.2.1 h4) ((H.2.1 h1).2.2.2.1 h4) (fun (h5 : v7 ≤ v3) => (wp_wk (l' := [some (jR s), some (jR w), some (jI v2), some (jI v3), some (jI v4), some (jI v5), none, some (jI v7), some (jI v8), none]) ⟨rfl, ⟨rfl, ⟨rfl, ⟨rfl, ⟨rfl, ⟨rfl, ⟨rfl, ⟨rfl, trivial⟩⟩⟩⟩⟩⟩⟩⟩ (by have K := K; first | (simp only [if_pos h4, if_neg (Int.not_lt.mpr h5)] at K ⊢; exact K) | (exfalso; omega)))) (fun (h6 : v3 < v7) => (x_ild c20_68 rfl (x_istn (l' := [some (jR s), some (jR w), some (jI v5), some (jI v3), some (jI v4), some (jI v5), some (jI v6), some (jI v7), some (jI v8), none]) c20_70 rfl (x_ild c20_71 rfl (x_istn (l' := [some (jR s), some (jR w), some (jI v5), some (jI v7), some (jI v4), some (jI v5), some (jI v6), some (jI v7), some (jI v8), none]) c20_73 rfl (wp_wk (l' := [some (jR s), some (jR w), some (jI v5), some (jI v7), some (jI v4), some (jI v5), none, some (jI v7), some (jI v8), none]) ⟨rfl, ⟨rfl, ⟨rfl, ⟨rfl, ⟨rfl, ⟨rfl, ⟨rfl, ⟨rfl, trivial⟩⟩⟩⟩⟩⟩⟩⟩ (by have K := K; first | (simp only [if_pos h4, if_pos h6] at K ⊢; exact K) | (exfalso; omega))))))))))))))))) (fun h2 => (x_aldn c20_44 rfl (x_ild c20_45 rfl (wp_wk (l' := [some (jR s), some (jR w), some (jI v2), some (jI v3), some (jI v4), some (jI v5), some (jI v6), some (jI v7), some (jI v8), none]) ⟨rfl, ⟨rfl, ⟨rfl, ⟨rfl, ⟨rfl, ⟨rfl, ⟨rfl, ⟨rfl, ⟨rfl, trivial⟩⟩⟩⟩⟩⟩⟩⟩⟩ (x_cl (b := w) (As := [jI v8]) (st := []) c20_47 kl23 (H.2.2 h2).1 rfl (Nat.le_of_ble_eq_true rfl) mx23 (Nat.le_refl _) (H.2.2 h2).2))))))
theorem s20_50 {kc : List va_E} {d : Nat} {s w : Nat} {v2 v3 v4 v5 v6 v7 v8 u0 : Int} {h1n h2n h3n h4n : Nat} {M : fx_M} {Q : Option fx_V → fx_M → Prop} (Hs : fx_scn s) (H : ((fx_in32 u0)) ∧ (u0 ≠ 32 → ((fx_in32 v7) ∧ (fx_in32 v6)) ∧ (v7 ≠ v6 → wp kc (d + 1) 20 19 [some (jR s), some (jR w), some (jI v2), some (jI v3), some (jI v4), some (jI v5), some (jI (v6 + 1)), some (jI (v7 + 0)), some (jI (v8 + 1)), none] [] M Q) ∧ (v7 = v6 → ((fx_in32 ((M s 1) + v7)) ∧ (fx_in32 (M s 2))) ∧ (M s 2 ≤ (M s 1) + v7 → wp kc (d + 1) 20 19 [some (jR s), some (jR w), some (jI v2), some (jI v3), some (jI v4), some (jI v5), some (jI (v6 + 1)), some (jI (v7 + 0)), some (jI (v8 + 1)), none] [] M Q) ∧ ((M s 1) + v7 < M s 2 → ((fx_a ((M s 0).toNat) = some (1, h4n) ∧ h4n ≤ 2147483647) ∧ ((0 : Int) ≤ (M s 1) + v7 ∧ (M s 1) + v7 < (h4n : Nat))) ∧ fx_lit kc w ∧ wc kc d 23 [jR w, jI v8] M (fun v M1 => wp kc (d + 1) 20 135 [some (jR s), some (jR w), some (jI v2), some (jI v3), some (jI v4), some (jI v5), some (jI v6), none, some (jI v8), none] (v.toList ++ [jI (M ((M s 0).toNat) ((M s 1) + v7)), jI v7]) M1 Q)))) ∧ (u0 = 32 → ((fx_in32 v7)) ∧ ((fx_in32 v6)) ∧ (v7 = v6 → (fx_in32 v7)) ∧ (v7 = v6 → (fx_in32 v3)) ∧ ((fx_in32 v4) ∧ (fx_in32 v7)) ∧ wp kc (d + 1) 20 19 [some (jR s), some (jR w), some (jI (if v7 = v6 then ((if v3 < v7 then (v5 : Int) else v2) : Int) else v2)), some (jI (if v7 = v6 then ((if v3 < v7 then (v7 : Int) else v3) : Int) else v3)), some (jI (if v4 < v7 then (v7 : Int) else v4)), some (jI (v5 + 1)), some (jI 0), some (jI 0), some (jI (v8 + 1)), none] [] M Q)) : wp kc (d + 1) 20 50 [some (jR s), some (jR w), some (jI v2), some (jI v3), some (jI v4), some (jI v5), some (jI v6), some (jI v7), some (jI v8), none] [jI u0] M Q :=
  (x_ci c20_50 (x_cne c20_52 H.1 (by decide) (fun h9 => (x_aldn c20_95 rfl (x_gfi c20_96 (ks_1 Hs) (x_ild c20_99 rfl (x_iadd c20_101 (x_ist (l' := [some (jR s), some (jR w), some (jI v2), some (jI v3), some (jI v4), some (jI v5), some (jI v6), some (jI v7), some (jI v8), some (jI ((M s 1) + v7))]) c20_102 rfl (x_ild c20_104 rfl (x_ild c20_106 rfl (x_ild c20_108 rfl (x_cne c20_110 (H.2.1 h9).1.1 (H.2.1 h9).1.2 (fun h7 => (x_ci c20_142 (x_iadd c20_143 (x_ist (l' := [some (jR s), some (jR w), some (jI v2), some (jI v3), some (jI v4), some (jI v5), some (jI v6), some (jI (v7 + 0)), some (jI v8), some (jI ((M s 1) + v7))]) c20_144 rfl (x_inc (l' := [some (jR s), some (jR w), some (jI v2), some (jI v3), some (jI v4), some (jI v5), some (jI (v6 + 1)), some (jI (v7 + 0)), some (jI v8), some (jI ((M s 1) + v7))]) c20_146 rfl rfl (x_inc (l' := [some (jR s), some (jR w), some (jI v2), some (jI v3), some (jI v4), some (jI v5), some (jI (v6 + 1)), some (jI (v7 + 0)), some (jI (v8 + 1)), some (jI ((M s 1) + v7))]) c20_149 rfl rfl (x_goto c20_152 (wp_wk (l' := [some (jR s), some (jR w), some (jI v2), some (jI v3), some (jI v4), some (jI v5), some (jI (v6 + 1)), some (jI (v7 + 0)), some (jI (v8 + 1)), none]) ⟨rfl, ⟨rfl, ⟨rfl, ⟨rfl, ⟨rfl, ⟨rfl, ⟨rfl, ⟨rfl, ⟨rfl, trivial⟩⟩⟩⟩⟩⟩⟩⟩⟩ ((H.2.1 h9).2.1 h7))))))))) (fun h8 => (x_ild c20_113 rfl (x_aldn c20_115 rfl (x_gfi c20_116 (ks_2 Hs) (x_cge c20_119 ((H.2.1 h9).2.2 h8).1.1 ((H.2.1 h9).2.2 h8).1.2 (fun h5 => (x_ci c20_142 (x_iadd c20_143 (x_ist (l' := [some (jR s), some (jR w), some (jI v2), some (jI v3), some (jI v4), some (jI v5), some (jI v6), some (jI (v7 + 0)), some (jI v8), some (jI ((M s 1) + v7))]) c20_144 rfl (x_inc (l' := [some (jR s), some (jR w), some (jI v2), some (jI v3), some (jI v4), some (jI v5), some (jI (v6 + 1)), some (jI (v7 + 0)), some (jI v8), some (jI ((M s 1) + v7))]) c20_146 rfl rfl (x_inc (l' := [some (jR s), some (jR w), some (jI v2), some (jI v3), some (jI v4), some (jI v5), some (jI (v6 + 1)), some (jI (v7 + 0)), some (jI (v8 + 1)), some (jI ((M s 1) + v7))]) c20_149 rfl rfl (x_goto c20_152 (wp_wk (l' := [some (jR s), some (jR w), some (jI v2), some (jI v3), some (jI v4), some (jI v5), some (jI (v6 + 1)), some (jI (v7 + 0)), some (jI (v8 + 1)), none]) ⟨rfl, ⟨rfl, ⟨rfl, ⟨rfl, ⟨rfl, ⟨rfl, ⟨rfl, ⟨rfl, ⟨rfl, trivial⟩⟩⟩⟩⟩⟩⟩⟩⟩ (((H.2.1 h9).2.2 h8).2.1 h5))))))))) (fun h6 => (x_aldn c20_122 rfl (x_gfd c20_123 (ks_0 Hs) (x_ild c20_126 rfl (x_cald c20_128 (((H.2.1 h9).2.2 h8).2.2 h6).1.1.1 (((H.2.1 h9).2.2 h8).2.2 h6).1.2 (((H.2.1 h9).2.2 h8).2.2 h6).1.1.2 (x_aldn c20_129 rfl (x_ild c20_130 rfl (wp_wk (l' := [some (jR s), some (jR w), some (jI v2), some (jI v3), some (jI v4), some (jI v5), some (jI v6), none, some (jI v8), none]) ⟨rfl, ⟨rfl, ⟨rfl, ⟨rfl, ⟨rfl, ⟨rfl, ⟨rfl, ⟨rfl, trivial⟩⟩⟩⟩⟩⟩⟩⟩ (x_cl (b := w) (As := [jI v8]) (st := [jI (M ((M s 0).toNat) ((M s 1) + v7)), jI v7]) c20_132 kl23 (((H.2.1 h9).2.2 h8).2.2 h6).2.1 rfl (Nat.le_of_ble_eq_true rfl) mx23 (Nat.le_refl _) (((H.2.1 h9).2.2 h8).2.2 h6).2.2)))))))))))))))))))))))) (fun h10 => (x_ild c20_55 rfl (x_ild c20_57 rfl (have K : wp kc (d + 1) 20 74 [some (jR s), some (jR w), some (jI (if v7 = v6 then ((if v3 < v7 then (v5 : Int) else v2) : Int) else v2)), some (jI (if v7 = v6 then ((if v3 < v7 then (v7 : Int) else v3) : Int) else v3)), some (jI v4), some (jI v5), none, some (jI v7), some (jI v8), none] [] M Q := (x_ild c20_74 rfl (x_ild c20_76 rfl (x_max c20_78 n20_78 (H.2.2 h10).2.2.2.2.1.1 (H.2.2 h10).2.2.2.2.1.2 (Nat.le_of_ble_eq_true rfl) (x_ist (l' := [some (jR s), some (jR w), some (jI (if v7 = v6 then ((if v3 < v7 then (v5 : Int) else v2) : Int) else v2)), some (jI (if v7 = v6 then ((if v3 < v7 then (v7 : Int) else v3) : Int) else v3)), some (jI (if v4 < v7 then (v7 : Int) else v4)), some (jI v5), none, some (jI v7), some (jI v8), none]) c20_81 rfl (x_inc (l' := [some (jR s), some (jR w), some (jI (if v7 = v6 then ((if v3 < v7 then (v5 : Int) else v2) : Int) else v2)), some (jI (if v7 = v6 then ((if v3 < v7 then (v7 : Int) else v3) : Int) else v3)), some (jI (if v4 < v7 then (v7 : Int) else v4)), some (jI (v5 + 1)), none, some (jI v7), some (jI v8), none]) c20_83 rfl rfl (x_ci c20_86 (x_ist (l' := [some (jR s), some (jR w), some (jI (if v7 = v6 then ((if v3 < v7 then (v5 : Int) else v2) : Int) else v2)), some (jI (if v7 = v6 then ((if v3 < v7 then (v7 : Int) else v3) : Int) else v3)), some (jI (if v4 < v7 then (v7 : Int) else v4)), some (jI (v5 + 1)), some (jI 0), some (jI v7), some (jI v8), none]) c20_87 rfl (x_ci c20_89 (x_ist (l' := [some (jR s), some (jR w), some (jI (if v7 = v6 then ((if v3 < v7 then (v5 : Int) else v2) : Int) else v2)), some (jI (if v7 = v6 then ((if v3 < v7 then (v7 : Int) else v3) : Int) else v3)), some (jI (if v4 < v7 then (v7 : Int) else v4)), some (jI (v5 + 1)), some (jI 0), some (jI 0), some (jI v8), none]) c20_90 rfl (x_goto c20_92 (x_inc (l' := [some (jR s), some (jR w), some (jI (if v7 = v6 then ((if v3 < v7 then (v5 : Int) else v2) : Int) else v2)), some (jI (if v7 = v6 then ((if v3 < v7 then (v7 : Int) else v3) : Int) else v3)), some (jI (if v4 < v7 then (v7 : Int) else v4)), some (jI (v5 + 1)), some (jI 0), some (jI 0), some (jI (v8 + 1)), none]) c20_149 rfl rfl (x_goto c20_152 (wp_wk (l' := [some (jR s), some (jR w), some (jI (if v7 = v6 then ((if v3 < v7 then (v5 : Int) else v2) : Int) else v2)), some (jI (if v7 = v6 then ((if v3 < v7 then (v7 : Int) else v3) : Int) else v3)), some (jI (if v4 < v7 then (v7 : Int) else v4)), some (jI (v5 + 1)), some (jI 0), some (jI 0), some (jI (v8 + 1)), none]) ⟨rfl, ⟨rfl, ⟨rfl, ⟨rfl, ⟨rfl, ⟨rfl, ⟨rfl, ⟨rfl, ⟨rfl, trivial⟩⟩⟩⟩⟩⟩⟩⟩⟩ (H.2.2 h10).2.2.2.2.2))))))))))))); (x_cne c20_59 (H.2.2 h10).1 (H.2.2 h10).2.1 (fun (h11 : v7 ≠ v6) => (wp_wk (l' := [some (jR s), some (jR w), some (jI v2), some (jI v3), some (jI v4), some (jI v5), none, some (jI v7), some (jI v8), none]) ⟨rfl, ⟨rfl, ⟨rfl, ⟨rfl, ⟨rfl, ⟨rfl, ⟨rfl, ⟨rfl, trivial⟩⟩⟩⟩⟩⟩⟩⟩ (by have K := K; first | (simp only [if_neg h11] at K ⊢; exact K) | (exfalso; omega)))) (fun (h12 : v7 = v6) => (x_ild c20_62 rfl (x_ildn c20_64 rfl (x_cle c20_65 ((H.2.2 h10).2.2.1 h12) ((H.2.2 h10).2.2.2.1 h12) (fun (h13 : v7 ≤ v3) => (wp_wk (l' := [some (jR s), some (jR w), some (jI v2), some (jI v3), some (jI v4), some (jI v5), none, some (jI v7), some (jI v8), none]) ⟨rfl, ⟨rfl, ⟨rfl, ⟨rfl, ⟨rfl, ⟨rfl, ⟨rfl, ⟨rfl, trivial⟩⟩⟩⟩⟩⟩⟩⟩ (by have K := K; first | (simp only [if_pos h12, if_neg (Int.not_lt.mpr h13)] at K ⊢; exact K) | (exfalso; omega)))) (fun (h14 : v3 < v7) => (x_ild c20_68 rfl (x_istn (l' := [some (jR s), some (jR w), some (jI v5), some (jI v3), some (jI v4), some (jI v5), some (jI v6), some (jI v7), some (jI v8), none]) c20_70 rfl (x_ild c20_71 rfl (x_istn (l' := [some (jR s), some (jR w), some (jI v5), some (jI v7), some (jI v4), some (jI v5), some (jI v6), some (jI v7), some (jI v8), none]) c20_73 rfl (wp_wk (l' := [some (jR s), some (jR w), some (jI v5), some (jI v7), some (jI v4), some (jI v5), none, some (jI v7), some (jI v8), none]) ⟨rfl, ⟨rfl, ⟨rfl, ⟨rfl, ⟨rfl, ⟨rfl, ⟨rfl, ⟨rfl, trivial⟩⟩⟩⟩⟩⟩⟩⟩ (by have K := K; first | (simp only [if_pos h12, if_pos h14] at K ⊢; exact K) | (exfalso; omega)))))))))))))))))))
theorem s20_135 {kc : List va_E} {d : Nat} {s w : Nat} {v2 v3 v4 v5 v6 v8 u0 u1 u2 : Int} {M : fx_M} {Q : Option fx_V → fx_M → Prop} (Hs : fx_scn s) (H : ((fx_in32 u1)) ∧ ((fx_in32 u0)) ∧ wp kc (d + 1) 20 19 [some (jR s), some (jR w), some (jI v2), some (jI v3), some (jI v4), some (jI v5), some (jI (v6 + 1)), some (jI (u2 + (if u1 = u0 then (1 : Int) else 0))), some (jI (v8 + 1)), none] [] M Q) : wp kc (d + 1) 20 135 [some (jR s), some (jR w), some (jI v2), some (jI v3), some (jI v4), some (jI v5), some (jI v6), none, some (jI v8), none] [jI u0, jI u1, jI u2] M Q :=
  (have K : wp kc (d + 1) 20 143 [some (jR s), some (jR w), some (jI v2), some (jI v3), some (jI v4), some (jI v5), some (jI v6), none, some (jI v8), none] [jI (if u1 = u0 then (1 : Int) else 0), jI u2] M Q := (x_iadd c20_143 (x_ist (l' := [some (jR s), some (jR w), some (jI v2), some (jI v3), some (jI v4), some (jI v5), some (jI v6), some (jI (u2 + (if u1 = u0 then (1 : Int) else 0))), some (jI v8), none]) c20_144 rfl (x_inc (l' := [some (jR s), some (jR w), some (jI v2), some (jI v3), some (jI v4), some (jI v5), some (jI (v6 + 1)), some (jI (u2 + (if u1 = u0 then (1 : Int) else 0))), some (jI v8), none]) c20_146 rfl rfl (x_inc (l' := [some (jR s), some (jR w), some (jI v2), some (jI v3), some (jI v4), some (jI v5), some (jI (v6 + 1)), some (jI (u2 + (if u1 = u0 then (1 : Int) else 0))), some (jI (v8 + 1)), none]) c20_149 rfl rfl (x_goto c20_152 (wp_wk (l' := [some (jR s), some (jR w), some (jI v2), some (jI v3), some (jI v4), some (jI v5), some (jI (v6 + 1)), some (jI (u2 + (if u1 = u0 then (1 : Int) else 0))), some (jI (v8 + 1)), none]) ⟨rfl, ⟨rfl, ⟨rfl, ⟨rfl, ⟨rfl, ⟨rfl, ⟨rfl, ⟨rfl, ⟨rfl, trivial⟩⟩⟩⟩⟩⟩⟩⟩⟩ H.2.2)))))); (x_cne c20_135 H.1 H.2.1 (fun (h1 : u1 ≠ u0) => (x_ci c20_142 (wp_wk (l' := [some (jR s), some (jR w), some (jI v2), some (jI v3), some (jI v4), some (jI v5), some (jI v6), none, some (jI v8), none]) ⟨rfl, ⟨rfl, ⟨rfl, ⟨rfl, ⟨rfl, ⟨rfl, ⟨rfl, ⟨rfl, trivial⟩⟩⟩⟩⟩⟩⟩⟩ (by have K := K; first | (simp only [if_neg h1] at K ⊢; exact K) | (exfalso; omega))))) (fun (h2 : u1 = u0) => (x_ci c20_138 (x_goto c20_139 (wp_wk (l' := [some (jR s), some (jR w), some (jI v2), some (jI v3), some (jI v4), some (jI v5), some (jI v6), none, some (jI v8), none]) ⟨rfl, ⟨rfl, ⟨rfl, ⟨rfl, ⟨rfl, ⟨rfl, ⟨rfl, ⟨rfl, trivial⟩⟩⟩⟩⟩⟩⟩⟩ (by have K := K; first | (simp only [if_pos h2] at K ⊢; exact K) | (exfalso; omega))))))))
theorem s20 {kc : List va_E} {d : Nat} {s w : Nat} {M : fx_M} {Q : Option fx_V → fx_M → Prop} (Hs : fx_scn s) (H : wp kc (d + 1) 20 19 [some (jR s), some (jR w), some (jI (-1)), some (jI 0), some (jI 0), some (jI 0), some (jI 0), some (jI 0), some (jI 0), none] [] M Q) : wc kc (d + 1) 20 [jR s, jR w] M Q :=
  wc_of (wp_wk (l' := [some (jR s), some (jR w), none, none, none, none, none, none, none, none]) ⟨rfl, ⟨rfl, trivial⟩⟩ (s20_0 Hs H))

/- PuzzleHouse$Scan.tellDigit(I)V -/
theorem c33_0 : fx_op 33 0 = some (.aload_n 0, 1, 0) := by decide +kernel
theorem c33_1 : fx_ci 33 1 = some (32, 3) := by decide +kernel
theorem c33_3 : fx_ca 33 3 = some (34, 2, 2, 6) := by decide +kernel
theorem c33_6 : fx_op 33 6 = some (.aload_n 0, 7, 6) := by decide +kernel
theorem c33_7 : fx_gf 33 7 = some (2, 5, 10) := by decide +kernel
theorem c33_10 : fx_op 33 10 = some (.iload_n 1, 11, 10) := by decide +kernel
theorem c33_11 : fx_op 33 11 = some (.aload_n 0, 12, 11) := by decide +kernel
theorem c33_12 : fx_ci 33 12 = some (1, 13) := by decide +kernel
theorem c33_13 : fx_ca 33 13 = some (35, 2, 2, 16) := by decide +kernel
theorem c33_16 : fx_op 33 16 = some (.iastore, 17, 16) := by decide +kernel
theorem c33_17 : fx_op 33 17 = some (.return_, 18, 17) := by decide +kernel
theorem s33_0 {kc : List va_E} {d : Nat} {s : Nat} {x1 : Int} {M : fx_M} {Q : Option fx_V → fx_M → Prop} (Hs : fx_scn s) (H : wc kc d 34 [jR s, jI 32] M (fun v M1 => wp kc (d + 1) 33 6 [some (jR s), some (jI x1)] (v.toList ++ []) M1 Q)) : wp kc (d + 1) 33 0 [some (jR s), some (jI x1)] [] M Q :=
  (x_aldn c33_0 rfl (x_ci c33_1 (wp_wk (l' := [some (jR s), some (jI x1)]) ⟨rfl, ⟨rfl, trivial⟩⟩ (x_cv (As := [jI 32]) (st := []) c33_3 (cls Hs) kl34 rfl (Nat.le_of_ble_eq_true rfl) mx34 (Nat.le_refl _) H))))
theorem s33_6 {kc : List va_E} {d : Nat} {s : Nat} {v1 : Int} {M : fx_M} {Q : Option fx_V → fx_M → Prop} (Hs : fx_scn s) (H : wc kc d 35 [jR s, jI 1] M (fun v M1 => wp kc (d + 1) 33 16 [none, none] (v.toList ++ [jI v1, jR (s + 2)]) M1 Q)) : wp kc (d + 1) 33 6 [some (jR s), some (jI v1)] [] M Q :=
  (x_aldn c33_6 rfl (x_gfr c33_7 (ks_5 Hs) (x_ildn c33_10 rfl (x_aldn c33_11 rfl (x_ci c33_12 (wp_wk (l' := [none, none]) trivial (x_cv (As := [jI 1]) (st := [jI v1, jR (s + 2)]) c33_13 (cls Hs) kl35 rfl (Nat.le_of_ble_eq_true rfl) mx35 (Nat.le_refl _) H)))))))
theorem s33_16 {kc : List va_E} {d : Nat} {s : Nat} {u0 u1 : Int} {M : fx_M} {Q : Option fx_V → fx_M → Prop} (Hs : fx_scn s) (H : (((0 : Int) ≤ u1 ∧ u1 < 4)) ∧ Q none (fx_up M (s + 2) u1 u0)) : wp kc (d + 1) 33 16 [none, none] [jI u0, jI u1, jR (s + 2)] M Q :=
  (x_iast c33_16 (as_2 Hs) H.1 (by decide) (x_vr c33_17 r33 H.2))
theorem s33 {kc : List va_E} {d : Nat} {s : Nat} {x1 : Int} {M : fx_M} {Q : Option fx_V → fx_M → Prop} (Hs : fx_scn s) (H : wc kc d 34 [jR s, jI 32] M (fun v M1 => wp kc (d + 1) 33 6 [some (jR s), some (jI x1)] (v.toList ++ []) M1 Q)) : wc kc (d + 1) 33 [jR s, jI x1] M Q :=
  wc_of (wp_wk (l' := [some (jR s), some (jI x1)]) ⟨rfl, ⟨rfl, trivial⟩⟩ (s33_0 Hs H))

/- PuzzleHouse$Scan.take(C)V -/
theorem c34_0 : fx_op 34 0 = some (.aload_n 0, 1, 0) := by decide +kernel
theorem c34_1 : fx_gf 34 1 = some (2, 3, 4) := by decide +kernel
theorem c34_4 : fx_op 34 4 = some (.ifCond .ne 27, 7, 31) := by decide +kernel
theorem c34_31 : fx_op 34 31 = some (.aload_n 0, 32, 31) := by decide +kernel
theorem c34_32 : fx_ci 34 32 = some (1, 33) := by decide +kernel
theorem c34_33 : fx_pf 34 33 = some (2, 3, 2, 36) := by decide +kernel
theorem c34_7 : fx_op 34 7 = some (.aload_n 0, 8, 7) := by decide +kernel
theorem c34_8 : fx_gf 34 8 = some (2, 1, 11) := by decide +kernel
theorem c34_11 : fx_op 34 11 = some (.aload_n 0, 12, 11) := by decide +kernel
theorem c34_12 : fx_gf 34 12 = some (2, 2, 15) := by decide +kernel
theorem c34_15 : fx_op 34 15 = some (.if_icmp .ge 16, 18, 31) := by decide +kernel
theorem c34_18 : fx_op 34 18 = some (.aload_n 0, 19, 18) := by decide +kernel
theorem c34_19 : fx_gf 34 19 = some (2, 0, 22) := by decide +kernel
theorem c34_22 : fx_op 34 22 = some (.aload_n 0, 23, 22) := by decide +kernel
theorem c34_23 : fx_gf 34 23 = some (2, 1, 26) := by decide +kernel
theorem c34_27 : fx_op 34 27 = some (.iload_n 1, 28, 27) := by decide +kernel
theorem c34_28 : fx_op 34 28 = some (.if_icmp .eq 11, 31, 39) := by decide +kernel
theorem c34_39 : fx_op 34 39 = some (.aload_n 0, 40, 39) := by decide +kernel
theorem c34_40 : fx_op 34 40 = some (.dup, 41, 40) := by decide +kernel
theorem c34_41 : fx_gf 34 41 = some (2, 1, 44) := by decide +kernel
theorem c34_44 : fx_ci 34 44 = some (1, 45) := by decide +kernel
theorem c34_45 : fx_op 34 45 = some (.iadd, 46, 45) := by decide +kernel
theorem c34_46 : fx_pf 34 46 = some (2, 1, 0, 49) := by decide +kernel
theorem c34_36 : fx_op 34 36 = some (.goto 13, 39, 49) := by decide +kernel
theorem c34_49 : fx_op 34 49 = some (.return_, 50, 49) := by decide +kernel
theorem c34_26 : fx_op 34 26 = some (.caload, 27, 26) := by decide +kernel
theorem s34_0 {kc : List va_E} {d : Nat} {s : Nat} {x1 : Int} {h1n : Nat} {M : fx_M} {Q : Option fx_V → fx_M → Prop} (Hs : fx_scn s) (H : ((fx_in32 (M s 3))) ∧ (M s 3 ≠ 0 → Q none (fx_up M s 3 1)) ∧ (M s 3 = 0 → ((fx_in32 (M s 1)) ∧ (fx_in32 (M s 2))) ∧ (M s 2 ≤ M s 1 → Q none (fx_up M s 3 1)) ∧ (M s 1 < M s 2 → ((fx_a ((M s 0).toNat) = some (1, h1n) ∧ h1n ≤ 2147483647) ∧ ((0 : Int) ≤ M s 1 ∧ M s 1 < (h1n : Nat))) ∧ ((fx_in32 (M ((M s 0).toNat) (M s 1))) ∧ (fx_in32 x1)) ∧ (M ((M s 0).toNat) (M s 1) = x1 → Q none (fx_up M s 1 ((M s 1) + 1))) ∧ (M ((M s 0).toNat) (M s 1) ≠ x1 → Q none (fx_up M s 3 1))))) : wp kc (d + 1) 34 0 [some (jR s), some (jI x1)] [] M Q :=
  (x_aldn c34_0 rfl (x_gfi c34_1 (ks_3 Hs) (x_zne c34_4 H.1 (fun h6 => (x_aldn c34_31 rfl (x_ci c34_32 (x_pfz c34_33 (ks_3 Hs) (by decide) (x_goto c34_36 (x_vr c34_49 r34 (H.2.1 h6))))))) (fun h7 => (x_aldn c34_7 rfl (x_gfi c34_8 (ks_1 Hs) (x_aldn c34_11 rfl (x_gfi c34_12 (ks_2 Hs) (x_cge c34_15 (H.2.2 h7).1.1 (H.2.2 h7).1.2 (fun h4 => (x_aldn c34_31 rfl (x_ci c34_32 (x_pfz c34_33 (ks_3 Hs) (by decide) (x_goto c34_36 (x_vr c34_49 r34 ((H.2.2 h7).2.1 h4))))))) (fun h5 => (x_aldn c34_18 rfl (x_gfd c34_19 (ks_0 Hs) (x_aldn c34_22 rfl (x_gfi c34_23 (ks_1 Hs) (x_cald c34_26 ((H.2.2 h7).2.2 h5).1.1.1 ((H.2.2 h7).2.2 h5).1.2 ((H.2.2 h7).2.2 h5).1.1.2 (x_ildn c34_27 rfl (x_ceq c34_28 ((H.2.2 h7).2.2 h5).2.1.1 ((H.2.2 h7).2.2 h5).2.1.2 (fun h2 => (x_aldn c34_39 rfl (x_dupr c34_40 (x_gfi c34_41 (ks_1 Hs) (x_ci c34_44 (x_iadd c34_45 (x_pfi c34_46 (ks_1 Hs) (x_vr c34_49 r34 (((H.2.2 h7).2.2 h5).2.2.1 h2))))))))) (fun h3 => (x_aldn c34_31 rfl (x_ci c34_32 (x_pfz c34_33 (ks_3 Hs) (by decide) (x_goto c34_36 (x_vr c34_49 r34 (((H.2.2 h7).2.2 h5).2.2.2 h3))))))))))))))))))))))))
theorem s34 {kc : List va_E} {d : Nat} {s : Nat} {x1 : Int} {h1n : Nat} {M : fx_M} {Q : Option fx_V → fx_M → Prop} (Hs : fx_scn s) (H : ((fx_in32 (M s 3))) ∧ (M s 3 ≠ 0 → Q none (fx_up M s 3 1)) ∧ (M s 3 = 0 → ((fx_in32 (M s 1)) ∧ (fx_in32 (M s 2))) ∧ (M s 2 ≤ M s 1 → Q none (fx_up M s 3 1)) ∧ (M s 1 < M s 2 → ((fx_a ((M s 0).toNat) = some (1, h1n) ∧ h1n ≤ 2147483647) ∧ ((0 : Int) ≤ M s 1 ∧ M s 1 < (h1n : Nat))) ∧ ((fx_in32 (M ((M s 0).toNat) (M s 1))) ∧ (fx_in32 x1)) ∧ (M ((M s 0).toNat) (M s 1) = x1 → Q none (fx_up M s 1 ((M s 1) + 1))) ∧ (M ((M s 0).toNat) (M s 1) ≠ x1 → Q none (fx_up M s 3 1))))) : wc kc (d + 1) 34 [jR s, jI x1] M Q :=
  wc_of (wp_wk (l' := [some (jR s), some (jI x1)]) ⟨rfl, ⟨rfl, trivial⟩⟩ (s34_0 Hs H))

/- PuzzleHouse$Scan.number(I)I -/
theorem c35_0 : fx_op 35 0 = some (.aload_n 0, 1, 0) := by decide +kernel
theorem c35_1 : fx_gf 35 1 = some (2, 3, 4) := by decide +kernel
theorem c35_4 : fx_op 35 4 = some (.ifCond .ne 42, 7, 46) := by decide +kernel
theorem c35_46 : fx_op 35 46 = some (.aload_n 0, 47, 46) := by decide +kernel
theorem c35_47 : fx_ci 35 47 = some (1, 48) := by decide +kernel
theorem c35_48 : fx_pf 35 48 = some (2, 3, 2, 51) := by decide +kernel
theorem c35_51 : fx_ci 35 51 = some (0, 52) := by decide +kernel
theorem c35_7 : fx_op 35 7 = some (.aload_n 0, 8, 7) := by decide +kernel
theorem c35_8 : fx_gf 35 8 = some (2, 1, 11) := by decide +kernel
theorem c35_11 : fx_op 35 11 = some (.aload_n 0, 12, 11) := by decide +kernel
theorem c35_12 : fx_gf 35 12 = some (2, 2, 15) := by decide +kernel
theorem c35_15 : fx_op 35 15 = some (.if_icmp .ge 31, 18, 46) := by decide +kernel
theorem c35_18 : fx_op 35 18 = some (.aload_n 0, 19, 18) := by decide +kernel
theorem c35_19 : fx_gf 35 19 = some (2, 0, 22) := by decide +kernel
theorem c35_22 : fx_op 35 22 = some (.aload_n 0, 23, 22) := by decide +kernel
theorem c35_23 : fx_gf 35 23 = some (2, 1, 26) := by decide +kernel
theorem c35_27 : fx_ci 35 27 = some (48, 29) := by decide +kernel
theorem c35_29 : fx_op 35 29 = some (.if_icmp .lt 17, 32, 46) := by decide +kernel
theorem c35_32 : fx_op 35 32 = some (.aload_n 0, 33, 32) := by decide +kernel
theorem c35_33 : fx_gf 35 33 = some (2, 0, 36) := by decide +kernel
theorem c35_36 : fx_op 35 36 = some (.aload_n 0, 37, 36) := by decide +kernel
theorem c35_37 : fx_gf 35 37 = some (2, 1, 40) := by decide +kernel
theorem c35_41 : fx_ci 35 41 = some (57, 43) := by decide +kernel
theorem c35_43 : fx_op 35 43 = some (.if_icmp .le 10, 46, 53) := by decide +kernel
theorem c35_53 : fx_op 35 53 = some (.aload_n 0, 54, 53) := by decide +kernel
theorem c35_54 : fx_gf 35 54 = some (2, 0, 57) := by decide +kernel
theorem c35_57 : fx_op 35 57 = some (.aload_n 0, 58, 57) := by decide +kernel
theorem c35_58 : fx_gf 35 58 = some (2, 1, 61) := by decide +kernel
theorem c35_62 : fx_ci 35 62 = some (48, 64) := by decide +kernel
theorem c35_64 : fx_op 35 64 = some (.isub, 65, 64) := by decide +kernel
theorem c35_65 : fx_op 35 65 = some (.istore_n 2, 66, 65) := by decide +kernel
theorem c35_66 : fx_op 35 66 = some (.aload_n 0, 67, 66) := by decide +kernel
theorem c35_67 : fx_op 35 67 = some (.dup, 68, 67) := by decide +kernel
theorem c35_68 : fx_gf 35 68 = some (2, 1, 71) := by decide +kernel
theorem c35_71 : fx_ci 35 71 = some (1, 72) := by decide +kernel
theorem c35_72 : fx_op 35 72 = some (.iadd, 73, 72) := by decide +kernel
theorem c35_73 : fx_pf 35 73 = some (2, 1, 0, 76) := by decide +kernel
theorem c35_76 : fx_ci 35 76 = some (1, 77) := by decide +kernel
theorem c35_77 : fx_op 35 77 = some (.istore_n 3, 78, 77) := by decide +kernel
theorem c35_52 : fx_op 35 52 = some (.ireturn, 53, 52) := by decide +kernel
theorem c35_26 : fx_op 35 26 = some (.caload, 27, 26) := by decide +kernel
theorem c35_40 : fx_op 35 40 = some (.caload, 41, 40) := by decide +kernel
theorem c35_61 : fx_op 35 61 = some (.caload, 62, 61) := by decide +kernel
theorem c35_78 : fx_op 35 78 = some (.iload_n 3, 79, 78) := by decide +kernel
theorem c35_79 : fx_op 35 79 = some (.iload_n 1, 80, 79) := by decide +kernel
theorem c35_80 : fx_op 35 80 = some (.if_icmp .ge 82, 83, 162) := by decide +kernel
theorem c35_162 : fx_op 35 162 = some (.iload_n 2, 163, 162) := by decide +kernel
theorem c35_83 : fx_op 35 83 = some (.iload_n 2, 84, 83) := by decide +kernel
theorem c35_84 : fx_op 35 84 = some (.ifCond .le 78, 87, 162) := by decide +kernel
theorem c35_87 : fx_op 35 87 = some (.aload_n 0, 88, 87) := by decide +kernel
theorem c35_88 : fx_gf 35 88 = some (2, 1, 91) := by decide +kernel
theorem c35_91 : fx_op 35 91 = some (.aload_n 0, 92, 91) := by decide +kernel
theorem c35_92 : fx_gf 35 92 = some (2, 2, 95) := by decide +kernel
theorem c35_95 : fx_op 35 95 = some (.if_icmp .ge 67, 98, 162) := by decide +kernel
theorem c35_98 : fx_op 35 98 = some (.aload_n 0, 99, 98) := by decide +kernel
theorem c35_99 : fx_gf 35 99 = some (2, 0, 102) := by decide +kernel
theorem c35_102 : fx_op 35 102 = some (.aload_n 0, 103, 102) := by decide +kernel
theorem c35_103 : fx_gf 35 103 = some (2, 1, 106) := by decide +kernel
theorem c35_107 : fx_ci 35 107 = some (48, 109) := by decide +kernel
theorem c35_109 : fx_op 35 109 = some (.if_icmp .lt 17, 112, 126) := by decide +kernel
theorem c35_126 : fx_op 35 126 = some (.iload_n 2, 127, 126) := by decide +kernel
theorem c35_112 : fx_op 35 112 = some (.aload_n 0, 113, 112) := by decide +kernel
theorem c35_113 : fx_gf 35 113 = some (2, 0, 116) := by decide +kernel
theorem c35_116 : fx_op 35 116 = some (.aload_n 0, 117, 116) := by decide +kernel
theorem c35_117 : fx_gf 35 117 = some (2, 1, 120) := by decide +kernel
theorem c35_121 : fx_ci 35 121 = some (57, 123) := by decide +kernel
theorem c35_123 : fx_op 35 123 = some (.if_icmp .le 5, 126, 128) := by decide +kernel
theorem c35_128 : fx_op 35 128 = some (.iload_n 2, 129, 128) := by decide +kernel
theorem c35_129 : fx_ci 35 129 = some (10, 131) := by decide +kernel
theorem c35_131 : fx_op 35 131 = some (.imul, 132, 131) := by decide +kernel
theorem c35_132 : fx_op 35 132 = some (.aload_n 0, 133, 132) := by decide +kernel
theorem c35_133 : fx_gf 35 133 = some (2, 0, 136) := by decide +kernel
theorem c35_136 : fx_op 35 136 = some (.aload_n 0, 137, 136) := by decide +kernel
theorem c35_137 : fx_gf 35 137 = some (2, 1, 140) := by decide +kernel
theorem c35_141 : fx_op 35 141 = some (.iadd, 142, 141) := by decide +kernel
theorem c35_142 : fx_ci 35 142 = some (48, 144) := by decide +kernel
theorem c35_144 : fx_op 35 144 = some (.isub, 145, 144) := by decide +kernel
theorem c35_145 : fx_op 35 145 = some (.istore_n 2, 146, 145) := by decide +kernel
theorem c35_146 : fx_op 35 146 = some (.aload_n 0, 147, 146) := by decide +kernel
theorem c35_147 : fx_op 35 147 = some (.dup, 148, 147) := by decide +kernel
theorem c35_148 : fx_gf 35 148 = some (2, 1, 151) := by decide +kernel
theorem c35_151 : fx_ci 35 151 = some (1, 152) := by decide +kernel
theorem c35_152 : fx_op 35 152 = some (.iadd, 153, 152) := by decide +kernel
theorem c35_153 : fx_pf 35 153 = some (2, 1, 0, 156) := by decide +kernel
theorem c35_156 : fx_op 35 156 = some (.iinc 3 1, 159, 156) := by decide +kernel
theorem c35_163 : fx_op 35 163 = some (.ireturn, 164, 163) := by decide +kernel
theorem c35_106 : fx_op 35 106 = some (.caload, 107, 106) := by decide +kernel
theorem c35_127 : fx_op 35 127 = some (.ireturn, 128, 127) := by decide +kernel
theorem c35_120 : fx_op 35 120 = some (.caload, 121, 120) := by decide +kernel
theorem c35_140 : fx_op 35 140 = some (.caload, 141, 140) := by decide +kernel
theorem c35_159 : fx_op 35 159 = some (.goto (-81), 162, 78) := by decide +kernel
theorem s35_0 {kc : List va_E} {d : Nat} {s : Nat} {x1 : Int} {h1n h2n h3n : Nat} {M : fx_M} {Q : Option fx_V → fx_M → Prop} (Hs : fx_scn s) (H : ((fx_in32 (M s 3))) ∧ (M s 3 ≠ 0 → Q (some (jI 0)) (fx_up M s 3 1)) ∧ (M s 3 = 0 → ((fx_in32 (M s 1)) ∧ (fx_in32 (M s 2))) ∧ (M s 2 ≤ M s 1 → Q (some (jI 0)) (fx_up M s 3 1)) ∧ (M s 1 < M s 2 → ((fx_a ((M s 0).toNat) = some (1, h1n) ∧ h1n ≤ 2147483647) ∧ ((0 : Int) ≤ M s 1 ∧ M s 1 < (h1n : Nat))) ∧ ((fx_in32 (M ((M s 0).toNat) (M s 1)))) ∧ (M ((M s 0).toNat) (M s 1) < 48 → Q (some (jI 0)) (fx_up M s 3 1)) ∧ (48 ≤ M ((M s 0).toNat) (M s 1) → ((fx_a ((M s 0).toNat) = some (1, h2n) ∧ h2n ≤ 2147483647) ∧ ((0 : Int) ≤ M s 1 ∧ M s 1 < (h2n : Nat))) ∧ ((fx_in32 (M ((M s 0).toNat) (M s 1)))) ∧ (M ((M s 0).toNat) (M s 1) ≤ 57 → ((fx_a ((M s 0).toNat) = some (1, h3n) ∧ h3n ≤ 2147483647) ∧ ((0 : Int) ≤ M s 1 ∧ M s 1 < (h3n : Nat))) ∧ wp kc (d + 1) 35 78 [some (jR s), some (jI x1), some (jI ((M ((M s 0).toNat) (M s 1)) - 48)), some (jI 1)] [] (fx_up M s 1 ((M s 1) + 1)) Q) ∧ (57 < M ((M s 0).toNat) (M s 1) → Q (some (jI 0)) (fx_up M s 3 1)))))) : wp kc (d + 1) 35 0 [some (jR s), some (jI x1), none, none] [] M Q :=
  (x_aldn c35_0 rfl (x_gfi c35_1 (ks_3 Hs) (x_zne c35_4 H.1 (fun h10 => (x_aldn c35_46 rfl (x_ci c35_47 (x_pfz c35_48 (ks_3 Hs) (by decide) (x_ci c35_51 (x_irt c35_52 r35 (H.2.1 h10))))))) (fun h11 => (x_aldn c35_7 rfl (x_gfi c35_8 (ks_1 Hs) (x_aldn c35_11 rfl (x_gfi c35_12 (ks_2 Hs) (x_cge c35_15 (H.2.2 h11).1.1 (H.2.2 h11).1.2 (fun h8 => (x_aldn c35_46 rfl (x_ci c35_47 (x_pfz c35_48 (ks_3 Hs) (by decide) (x_ci c35_51 (x_irt c35_52 r35 ((H.2.2 h11).2.1 h8))))))) (fun h9 => (x_aldn c35_18 rfl (x_gfd c35_19 (ks_0 Hs) (x_aldn c35_22 rfl (x_gfi c35_23 (ks_1 Hs) (x_cald c35_26 ((H.2.2 h11).2.2 h9).1.1.1 ((H.2.2 h11).2.2 h9).1.2 ((H.2.2 h11).2.2 h9).1.1.2 (x_ci c35_27 (x_clt c35_29 ((H.2.2 h11).2.2 h9).2.1 (by decide) (fun h6 => (x_aldn c35_46 rfl (x_ci c35_47 (x_pfz c35_48 (ks_3 Hs) (by decide) (x_ci c35_51 (x_irt c35_52 r35 (((H.2.2 h11).2.2 h9).2.2.1 h6))))))) (fun h7 => (x_aldn c35_32 rfl (x_gfd c35_33 (ks_0 Hs) (x_aldn c35_36 rfl (x_gfi c35_37 (ks_1 Hs) (x_cald c35_40 (((H.2.2 h11).2.2 h9).2.2.2 h7).1.1.1 (((H.2.2 h11).2.2 h9).2.2.2 h7).1.2 (((H.2.2 h11).2.2 h9).2.2.2 h7).1.1.2 (x_ci c35_41 (x_cle c35_43 (((H.2.2 h11).2.2 h9).2.2.2 h7).2.1 (by decide) (fun h4 => (x_aldn c35_53 rfl (x_gfd c35_54 (ks_0 Hs) (x_aldn c35_57 rfl (x_gfi c35_58 (ks_1 Hs) (x_cald c35_61 ((((H.2.2 h11).2.2 h9).2.2.2 h7).2.2.1 h4).1.1.1 ((((H.2.2 h11).2.2 h9).2.2.2 h7).2.2.1 h4).1.2 ((((H.2.2 h11).2.2 h9).2.2.2 h7).2.2.1 h4).1.1.2 (x_ci c35_62 (x_isub c35_64 (x_istn (l' := [some (jR s), some (jI x1), some (jI ((M ((M s 0).toNat) (M s 1)) - 48)), none]) c35_65 rfl (x_aldn c35_66 rfl (x_dupr c35_67 (x_gfi c35_68 (ks_1 Hs) (x_ci c35_71 (x_iadd c35_72 (x_pfi c35_73 (ks_1 Hs) (x_ci c35_76 (x_istn (l' := [some (jR s), some (jI x1), some (jI ((M ((M s 0).toNat) (M s 1)) - 48)), some (jI 1)]) c35_77 rfl (wp_wk (l' := [some (jR s), some (jI x1), some (jI ((M ((M s 0).toNat) (M s 1)) - 48)), some (jI 1)]) ⟨rfl, ⟨rfl, ⟨rfl, ⟨rfl, trivial⟩⟩⟩⟩ ((((H.2.2 h11).2.2 h9).2.2.2 h7).2.2.1 h4).2)))))))))))))))))) (fun h5 => (x_aldn c35_46 rfl (x_ci c35_47 (x_pfz c35_48 (ks_3 Hs) (by decide) (x_ci c35_51 (x_irt c35_52 r35 ((((H.2.2 h11).2.2 h9).2.2.2 h7).2.2.2 h5))))))))))))))))))))))))))))))))
theorem s35_78 {kc : List va_E} {d : Nat} {s : Nat} {v1 v2 v3 : Int} {h1n h2n h3n : Nat} {M : fx_M} {Q : Option fx_V → fx_M → Prop} (Hs : fx_scn s) (H : ((fx_in32 v3) ∧ (fx_in32 v1)) ∧ (v1 ≤ v3 → Q (some (jI v2)) M) ∧ (v3 < v1 → ((fx_in32 v2)) ∧ (v2 ≤ 0 → Q (some (jI v2)) M) ∧ (0 < v2 → ((fx_in32 (M s 1)) ∧ (fx_in32 (M s 2))) ∧ (M s 2 ≤ M s 1 → Q (some (jI v2)) M) ∧ (M s 1 < M s 2 → ((fx_a ((M s 0).toNat) = some (1, h1n) ∧ h1n ≤ 2147483647) ∧ ((0 : Int) ≤ M s 1 ∧ M s 1 < (h1n : Nat))) ∧ ((fx_in32 (M ((M s 0).toNat) (M s 1)))) ∧ (M ((M s 0).toNat) (M s 1) < 48 → Q (some (jI v2)) M) ∧ (48 ≤ M ((M s 0).toNat) (M s 1) → ((fx_a ((M s 0).toNat) = some (1, h2n) ∧ h2n ≤ 2147483647) ∧ ((0 : Int) ≤ M s 1 ∧ M s 1 < (h2n : Nat))) ∧ ((fx_in32 (M ((M s 0).toNat) (M s 1)))) ∧ (M ((M s 0).toNat) (M s 1) ≤ 57 → ((fx_a ((M s 0).toNat) = some (1, h3n) ∧ h3n ≤ 2147483647) ∧ ((0 : Int) ≤ M s 1 ∧ M s 1 < (h3n : Nat))) ∧ wp kc (d + 1) 35 78 [some (jR s), some (jI v1), some (jI (((v2 * 10) + (M ((M s 0).toNat) (M s 1))) - 48)), some (jI (v3 + 1))] [] (fx_up M s 1 ((M s 1) + 1)) Q) ∧ (57 < M ((M s 0).toNat) (M s 1) → Q (some (jI v2)) M)))))) : wp kc (d + 1) 35 78 [some (jR s), some (jI v1), some (jI v2), some (jI v3)] [] M Q :=
  (x_ildn c35_78 rfl (x_ildn c35_79 rfl (x_cge c35_80 H.1.1 H.1.2 (fun h12 => (x_ildn c35_162 rfl (x_irt c35_163 r35 (H.2.1 h12)))) (fun h13 => (x_ildn c35_83 rfl (x_zle c35_84 (H.2.2 h13).1 (fun h10 => (x_ildn c35_162 rfl (x_irt c35_163 r35 ((H.2.2 h13).2.1 h10)))) (fun h11 => (x_aldn c35_87 rfl (x_gfi c35_88 (ks_1 Hs) (x_aldn c35_91 rfl (x_gfi c35_92 (ks_2 Hs) (x_cge c35_95 ((H.2.2 h13).2.2 h11).1.1 ((H.2.2 h13).2.2 h11).1.2 (fun h8 => (x_ildn c35_162 rfl (x_irt c35_163 r35 (((H.2.2 h13).2.2 h11).2.1 h8)))) (fun h9 => (x_aldn c35_98 rfl (x_gfd c35_99 (ks_0 Hs) (x_aldn c35_102 rfl (x_gfi c35_103 (ks_1 Hs) (x_cald c35_106 (((H.2.2 h13).2.2 h11).2.2 h9).1.1.1 (((H.2.2 h13).2.2 h11).2.2 h9).1.2 (((H.2.2 h13).2.2 h11).2.2 h9).1.1.2 (x_ci c35_107 (x_clt c35_109 (((H.2.2 h13).2.2 h11).2.2 h9).2.1 (by decide) (fun h6 => (x_ildn c35_126 rfl (x_irt c35_127 r35 ((((H.2.2 h13).2.2 h11).2.2 h9).2.2.1 h6)))) (fun h7 => (x_aldn c35_112 rfl (x_gfd c35_113 (ks_0 Hs) (x_aldn c35_116 rfl (x_gfi c35_117 (ks_1 Hs) (x_cald c35_120 ((((H.2.2 h13).2.2 h11).2.2 h9).2.2.2 h7).1.1.1 ((((H.2.2 h13).2.2 h11).2.2 h9).2.2.2 h7).1.2 ((((H.2.2 h13).2.2 h11).2.2 h9).2.2.2 h7).1.1.2 (x_ci c35_121 (x_cle c35_123 ((((H.2.2 h13).2.2 h11).2.2 h9).2.2.2 h7).2.1 (by decide) (fun h4 => (x_ildn c35_128 rfl (x_ci c35_129 (x_imul c35_131 (x_aldn c35_132 rfl (x_gfd c35_133 (ks_0 Hs) (x_aldn c35_136 rfl (x_gfi c35_137 (ks_1 Hs) (x_cald c35_140 (((((H.2.2 h13).2.2 h11).2.2 h9).2.2.2 h7).2.2.1 h4).1.1.1 (((((H.2.2 h13).2.2 h11).2.2 h9).2.2.2 h7).2.2.1 h4).1.2 (((((H.2.2 h13).2.2 h11).2.2 h9).2.2.2 h7).2.2.1 h4).1.1.2 (x_iadd c35_141 (x_ci c35_142 (x_isub c35_144 (x_istn (l' := [some (jR s), some (jI v1), some (jI (((v2 * 10) + (M ((M s 0).toNat) (M s 1))) - 48)), some (jI v3)]) c35_145 rfl (x_aldn c35_146 rfl (x_dupr c35_147 (x_gfi c35_148 (ks_1 Hs) (x_ci c35_151 (x_iadd c35_152 (x_pfi c35_153 (ks_1 Hs) (x_inc (l' := [some (jR s), some (jI v1), some (jI (((v2 * 10) + (M ((M s 0).toNat) (M s 1))) - 48)), some (jI (v3 + 1))]) c35_156 rfl rfl (x_goto c35_159 (wp_wk (l' := [some (jR s), some (jI v1), some (jI (((v2 * 10) + (M ((M s 0).toNat) (M s 1))) - 48)), some (jI (v3 + 1))]) ⟨rfl, ⟨rfl, ⟨rfl, ⟨rfl, trivial⟩⟩⟩⟩ (((((H.2.2 h13).2.2 h11).2.2 h9).2.2.2 h7).2.2.1 h4).2)))))))))))))))))))))) (fun h5 => (x_ildn c35_126 rfl (x_irt c35_127 r35 (((((H.2.2 h13).2.2 h11).2.2 h9).2.2.2 h7).2.2.2 h5))))))))))))))))))))))))))))))))
theorem s35 {kc : List va_E} {d : Nat} {s : Nat} {x1 : Int} {h1n h2n h3n : Nat} {M : fx_M} {Q : Option fx_V → fx_M → Prop} (Hs : fx_scn s) (H : ((fx_in32 (M s 3))) ∧ (M s 3 ≠ 0 → Q (some (jI 0)) (fx_up M s 3 1)) ∧ (M s 3 = 0 → ((fx_in32 (M s 1)) ∧ (fx_in32 (M s 2))) ∧ (M s 2 ≤ M s 1 → Q (some (jI 0)) (fx_up M s 3 1)) ∧ (M s 1 < M s 2 → ((fx_a ((M s 0).toNat) = some (1, h1n) ∧ h1n ≤ 2147483647) ∧ ((0 : Int) ≤ M s 1 ∧ M s 1 < (h1n : Nat))) ∧ ((fx_in32 (M ((M s 0).toNat) (M s 1)))) ∧ (M ((M s 0).toNat) (M s 1) < 48 → Q (some (jI 0)) (fx_up M s 3 1)) ∧ (48 ≤ M ((M s 0).toNat) (M s 1) → ((fx_a ((M s 0).toNat) = some (1, h2n) ∧ h2n ≤ 2147483647) ∧ ((0 : Int) ≤ M s 1 ∧ M s 1 < (h2n : Nat))) ∧ ((fx_in32 (M ((M s 0).toNat) (M s 1)))) ∧ (M ((M s 0).toNat) (M s 1) ≤ 57 → ((fx_a ((M s 0).toNat) = some (1, h3n) ∧ h3n ≤ 2147483647) ∧ ((0 : Int) ≤ M s 1 ∧ M s 1 < (h3n : Nat))) ∧ wp kc (d + 1) 35 78 [some (jR s), some (jI x1), some (jI ((M ((M s 0).toNat) (M s 1)) - 48)), some (jI 1)] [] (fx_up M s 1 ((M s 1) + 1)) Q) ∧ (57 < M ((M s 0).toNat) (M s 1) → Q (some (jI 0)) (fx_up M s 3 1)))))) : wc kc (d + 1) 35 [jR s, jI x1] M Q :=
  wc_of (wp_wk (l' := [some (jR s), some (jI x1), none, none]) ⟨rfl, ⟨rfl, trivial⟩⟩ (s35_0 Hs H))

/- PuzzleHouse$Scan.tellNumber(II)V -/
theorem c36_0 : fx_op 36 0 = some (.aload_n 0, 1, 0) := by decide +kernel
theorem c36_1 : fx_ci 36 1 = some (32, 3) := by decide +kernel
theorem c36_3 : fx_ca 36 3 = some (34, 2, 2, 6) := by decide +kernel
theorem c36_6 : fx_op 36 6 = some (.aload_n 0, 7, 6) := by decide +kernel
theorem c36_7 : fx_gf 36 7 = some (2, 5, 10) := by decide +kernel
theorem c36_10 : fx_op 36 10 = some (.iload_n 1, 11, 10) := by decide +kernel
theorem c36_11 : fx_op 36 11 = some (.aload_n 0, 12, 11) := by decide +kernel
theorem c36_12 : fx_op 36 12 = some (.iload_n 2, 13, 12) := by decide +kernel
theorem c36_13 : fx_ca 36 13 = some (35, 2, 2, 16) := by decide +kernel
theorem c36_16 : fx_op 36 16 = some (.iastore, 17, 16) := by decide +kernel
theorem c36_17 : fx_op 36 17 = some (.return_, 18, 17) := by decide +kernel
theorem s36_0 {kc : List va_E} {d : Nat} {s : Nat} {x1 x2 : Int} {M : fx_M} {Q : Option fx_V → fx_M → Prop} (Hs : fx_scn s) (H : wc kc d 34 [jR s, jI 32] M (fun v M1 => wp kc (d + 1) 36 6 [some (jR s), some (jI x1), some (jI x2)] (v.toList ++ []) M1 Q)) : wp kc (d + 1) 36 0 [some (jR s), some (jI x1), some (jI x2)] [] M Q :=
  (x_aldn c36_0 rfl (x_ci c36_1 (wp_wk (l' := [some (jR s), some (jI x1), some (jI x2)]) ⟨rfl, ⟨rfl, ⟨rfl, trivial⟩⟩⟩ (x_cv (As := [jI 32]) (st := []) c36_3 (cls Hs) kl34 rfl (Nat.le_of_ble_eq_true rfl) mx34 (Nat.le_refl _) H))))
theorem s36_6 {kc : List va_E} {d : Nat} {s : Nat} {v1 v2 : Int} {M : fx_M} {Q : Option fx_V → fx_M → Prop} (Hs : fx_scn s) (H : wc kc d 35 [jR s, jI v2] M (fun v M1 => wp kc (d + 1) 36 16 [none, none, none] (v.toList ++ [jI v1, jR (s + 2)]) M1 Q)) : wp kc (d + 1) 36 6 [some (jR s), some (jI v1), some (jI v2)] [] M Q :=
  (x_aldn c36_6 rfl (x_gfr c36_7 (ks_5 Hs) (x_ildn c36_10 rfl (x_aldn c36_11 rfl (x_ildn c36_12 rfl (wp_wk (l' := [none, none, none]) trivial (x_cv (As := [jI v2]) (st := [jI v1, jR (s + 2)]) c36_13 (cls Hs) kl35 rfl (Nat.le_of_ble_eq_true rfl) mx35 (Nat.le_refl _) H)))))))
theorem s36_16 {kc : List va_E} {d : Nat} {s : Nat} {u0 u1 : Int} {M : fx_M} {Q : Option fx_V → fx_M → Prop} (Hs : fx_scn s) (H : (((0 : Int) ≤ u1 ∧ u1 < 4)) ∧ Q none (fx_up M (s + 2) u1 u0)) : wp kc (d + 1) 36 16 [none, none, none] [jI u0, jI u1, jR (s + 2)] M Q :=
  (x_iast c36_16 (as_2 Hs) H.1 (by decide) (x_vr c36_17 r36 H.2))
theorem s36 {kc : List va_E} {d : Nat} {s : Nat} {x1 x2 : Int} {M : fx_M} {Q : Option fx_V → fx_M → Prop} (Hs : fx_scn s) (H : wc kc d 34 [jR s, jI 32] M (fun v M1 => wp kc (d + 1) 36 6 [some (jR s), some (jI x1), some (jI x2)] (v.toList ++ []) M1 Q)) : wc kc (d + 1) 36 [jR s, jI x1, jI x2] M Q :=
  wc_of (wp_wk (l' := [some (jR s), some (jI x1), some (jI x2)]) ⟨rfl, ⟨rfl, ⟨rfl, trivial⟩⟩⟩ (s36_0 Hs H))

/- PuzzleHouse$Scan.tellSymbol(I)V -/
theorem c37_0 : fx_op 37 0 = some (.aload_n 0, 1, 0) := by decide +kernel
theorem c37_1 : fx_ci 37 1 = some (32, 3) := by decide +kernel
theorem c37_3 : fx_ca 37 3 = some (34, 2, 2, 6) := by decide +kernel
theorem c37_6 : fx_op 37 6 = some (.aload_n 0, 7, 6) := by decide +kernel
theorem c37_7 : fx_ci 37 7 = some (45, 9) := by decide +kernel
theorem c37_9 : fx_ca 37 9 = some (38, 2, 2, 12) := by decide +kernel
theorem c37_12 : fx_op 37 12 = some (.ifCond .eq 23, 15, 35) := by decide +kernel
theorem c37_35 : fx_op 37 35 = some (.aload_n 0, 36, 35) := by decide +kernel
theorem c37_36 : fx_gf 37 36 = some (2, 5, 39) := by decide +kernel
theorem c37_39 : fx_op 37 39 = some (.iload_n 1, 40, 39) := by decide +kernel
theorem c37_40 : fx_op 37 40 = some (.aload_n 0, 41, 40) := by decide +kernel
theorem c37_41 : fx_ci 37 41 = some (1, 42) := by decide +kernel
theorem c37_15 : fx_op 37 15 = some (.aload_n 0, 16, 15) := by decide +kernel
theorem c37_16 : fx_op 37 16 = some (.dup, 17, 16) := by decide +kernel
theorem c37_17 : fx_gf 37 17 = some (2, 1, 20) := by decide +kernel
theorem c37_20 : fx_ci 37 20 = some (1, 21) := by decide +kernel
theorem c37_21 : fx_op 37 21 = some (.iadd, 22, 21) := by decide +kernel
theorem c37_22 : fx_pf 37 22 = some (2, 1, 0, 25) := by decide +kernel
theorem c37_25 : fx_op 37 25 = some (.aload_n 0, 26, 25) := by decide +kernel
theorem c37_26 : fx_gf 37 26 = some (2, 5, 29) := by decide +kernel
theorem c37_29 : fx_op 37 29 = some (.iload_n 1, 30, 29) := by decide +kernel
theorem c37_30 : fx_ci 37 30 = some ((-1), 31) := by decide +kernel
theorem c37_42 : fx_ca 37 42 = some (35, 2, 2, 45) := by decide +kernel
theorem c37_31 : fx_op 37 31 = some (.iastore, 32, 31) := by decide +kernel
theorem c37_32 : fx_op 37 32 = some (.goto 14, 35, 46) := by decide +kernel
theorem c37_46 : fx_op 37 46 = some (.return_, 47, 46) := by decide +kernel
theorem c37_45 : fx_op 37 45 = some (.iastore, 46, 45) := by decide +kernel
theorem s37_0 {kc : List va_E} {d : Nat} {s : Nat} {x1 : Int} {M : fx_M} {Q : Option fx_V → fx_M → Prop} (Hs : fx_scn s) (H : wc kc d 34 [jR s, jI 32] M (fun v M1 => wp kc (d + 1) 37 6 [some (jR s), some (jI x1)] (v.toList ++ []) M1 Q)) : wp kc (d + 1) 37 0 [some (jR s), some (jI x1)] [] M Q :=
  (x_aldn c37_0 rfl (x_ci c37_1 (wp_wk (l' := [some (jR s), some (jI x1)]) ⟨rfl, ⟨rfl, trivial⟩⟩ (x_cv (As := [jI 32]) (st := []) c37_3 (cls Hs) kl34 rfl (Nat.le_of_ble_eq_true rfl) mx34 (Nat.le_refl _) H))))
theorem s37_6 {kc : List va_E} {d : Nat} {s : Nat} {v1 : Int} {M : fx_M} {Q : Option fx_V → fx_M → Prop} (Hs : fx_scn s) (H : wc kc d 38 [jR s, jI 45] M (fun v M1 => wp kc (d + 1) 37 12 [some (jR s), some (jI v1)] (v.toList ++ []) M1 Q)) : wp kc (d + 1) 37 6 [some (jR s), some (jI v1)] [] M Q :=
  (x_aldn c37_6 rfl (x_ci c37_7 (wp_wk (l' := [some (jR s), some (jI v1)]) ⟨rfl, ⟨rfl, trivial⟩⟩ (x_cv (As := [jI 45]) (st := []) c37_9 (cls Hs) kl38 rfl (Nat.le_of_ble_eq_true rfl) mx38 (Nat.le_refl _) H))))
theorem s37_12 {kc : List va_E} {d : Nat} {s : Nat} {v1 u0 : Int} {M : fx_M} {Q : Option fx_V → fx_M → Prop} (Hs : fx_scn s) (H : ((fx_in32 u0)) ∧ (u0 = 0 → wc kc d 35 [jR s, jI 1] M (fun v M1 => wp kc (d + 1) 37 45 [none, none] (v.toList ++ [jI v1, jR (s + 2)]) M1 Q)) ∧ (u0 ≠ 0 → (((0 : Int) ≤ v1 ∧ v1 < 4)) ∧ Q none (fx_up (fx_up M s 1 ((M s 1) + 1)) (s + 2) v1 (-1)))) : wp kc (d + 1) 37 12 [some (jR s), some (jI v1)] [jI u0] M Q :=
  (x_zeq c37_12 H.1 (fun h1 => (x_aldn c37_35 rfl (x_gfr c37_36 (ks_5 Hs) (x_ildn c37_39 rfl (x_aldn c37_40 rfl (x_ci c37_41 (wp_wk (l' := [none, none]) trivial (x_cv (As := [jI 1]) (st := [jI v1, jR (s + 2)]) c37_42 (cls Hs) kl35 rfl (Nat.le_of_ble_eq_true rfl) mx35 (Nat.le_refl _) (H.2.1 h1))))))))) (fun h2 => (x_aldn c37_15 rfl (x_dupr c37_16 (x_gfi c37_17 (ks_1 Hs) (x_ci c37_20 (x_iadd c37_21 (x_pfi c37_22 (ks_1 Hs) (x_aldn c37_25 rfl (x_gfr c37_26 (ks_5 Hs) (x_ildn c37_29 rfl (x_ci c37_30 (x_iast c37_31 (as_2 Hs) (H.2.2 h2).1 (by decide) (x_goto c37_32 (x_vr c37_46 r37 (H.2.2 h2).2)))))))))))))))
theorem s37_45 {kc : List va_E} {d : Nat} {s : Nat} {u0 u1 : Int} {M : fx_M} {Q : Option fx_V → fx_M → Prop} (Hs : fx_scn s) (H : (((0 : Int) ≤ u1 ∧ u1 < 4)) ∧ Q none (fx_up M (s + 2) u1 u0)) : wp kc (d + 1) 37 45 [none, none] [jI u0, jI u1, jR (s + 2)] M Q :=
  (x_iast c37_45 (as_2 Hs) H.1 (by decide) (x_vr c37_46 r37 H.2))
theorem s37 {kc : List va_E} {d : Nat} {s : Nat} {x1 : Int} {M : fx_M} {Q : Option fx_V → fx_M → Prop} (Hs : fx_scn s) (H : wc kc d 34 [jR s, jI 32] M (fun v M1 => wp kc (d + 1) 37 6 [some (jR s), some (jI x1)] (v.toList ++ []) M1 Q)) : wc kc (d + 1) 37 [jR s, jI x1] M Q :=
  wc_of (wp_wk (l' := [some (jR s), some (jI x1)]) ⟨rfl, ⟨rfl, trivial⟩⟩ (s37_0 Hs H))

/- PuzzleHouse$Scan.ahead(C)Z -/
theorem c38_0 : fx_op 38 0 = some (.aload_n 0, 1, 0) := by decide +kernel
theorem c38_1 : fx_gf 38 1 = some (2, 3, 4) := by decide +kernel
theorem c38_4 : fx_op 38 4 = some (.ifCond .ne 31, 7, 35) := by decide +kernel
theorem c38_35 : fx_ci 38 35 = some (0, 36) := by decide +kernel
theorem c38_7 : fx_op 38 7 = some (.aload_n 0, 8, 7) := by decide +kernel
theorem c38_8 : fx_gf 38 8 = some (2, 1, 11) := by decide +kernel
theorem c38_11 : fx_op 38 11 = some (.aload_n 0, 12, 11) := by decide +kernel
theorem c38_12 : fx_gf 38 12 = some (2, 2, 15) := by decide +kernel
theorem c38_15 : fx_op 38 15 = some (.if_icmp .ge 20, 18, 35) := by decide +kernel
theorem c38_18 : fx_op 38 18 = some (.aload_n 0, 19, 18) := by decide +kernel
theorem c38_19 : fx_gf 38 19 = some (2, 0, 22) := by decide +kernel
theorem c38_22 : fx_op 38 22 = some (.aload_n 0, 23, 22) := by decide +kernel
theorem c38_23 : fx_gf 38 23 = some (2, 1, 26) := by decide +kernel
theorem c38_26 : fx_op 38 26 = some (.caload, 27, 26) := by decide +kernel
theorem c38_27 : fx_op 38 27 = some (.iload_n 1, 28, 27) := by decide +kernel
theorem c38_28 : fx_op 38 28 = some (.if_icmp .ne 7, 31, 35) := by decide +kernel
theorem c38_31 : fx_ci 38 31 = some (1, 32) := by decide +kernel
theorem c38_32 : fx_op 38 32 = some (.goto 4, 35, 36) := by decide +kernel
theorem c38_36 : fx_op 38 36 = some (.ireturn, 37, 36) := by decide +kernel
theorem s38_0 {kc : List va_E} {d : Nat} {s : Nat} {x1 : Int} {h1n : Nat} {M : fx_M} {Q : Option fx_V → fx_M → Prop} (Hs : fx_scn s) (H : ((fx_in32 (M s 3))) ∧ (M s 3 = 0 → (fx_in32 (M s 1))) ∧ (M s 3 = 0 → (fx_in32 (M s 2))) ∧ (M s 3 = 0 → M s 1 < M s 2 → (((fx_a ((M s 0).toNat) = some (1, h1n) ∧ h1n ≤ 2147483647) ∧ ((0 : Int) ≤ M s 1 ∧ M s 1 < (h1n : Nat))))) ∧ (M s 3 = 0 → M s 1 < M s 2 → (fx_in32 (M ((M s 0).toNat) (M s 1)))) ∧ (M s 3 = 0 → M s 1 < M s 2 → (fx_in32 x1)) ∧ ((0 : Int) ≤ (if M s 3 = 0 then ((if M s 1 < M s 2 then ((if M ((M s 0).toNat) (M s 1) = x1 then (1 : Int) else 0) : Int) else 0) : Int) else 0) ∧ (if M s 3 = 0 then ((if M s 1 < M s 2 then ((if M ((M s 0).toNat) (M s 1) = x1 then (1 : Int) else 0) : Int) else 0) : Int) else 0) ≤ 1) ∧ Q (some (jI (if M s 3 = 0 then ((if M s 1 < M s 2 then ((if M ((M s 0).toNat) (M s 1) = x1 then (1 : Int) else 0) : Int) else 0) : Int) else 0))) M) : wp kc (d + 1) 38 0 [some (jR s), some (jI x1)] [] M Q :=
  (x_aldn c38_0 rfl (x_gfi c38_1 (ks_3 Hs) (have K : wp kc (d + 1) 38 36 [none, none] [jI (if M s 3 = 0 then ((if M s 1 < M s 2 then ((if M ((M s 0).toNat) (M s 1) = x1 then (1 : Int) else 0) : Int) else 0) : Int) else 0)] M Q := (x_zrt c38_36 r38 H.2.2.2.2.2.2.1 H.2.2.2.2.2.2.2); (x_zne c38_4 H.1 (fun (h2 : M s 3 ≠ 0) => (x_ci c38_35 (wp_wk (l' := [none, none]) trivial (by have K := K; first | (simp only [if_neg h2] at K ⊢; exact K) | (exfalso; omega))))) (fun (h3 : M s 3 = 0) => (x_aldn c38_7 rfl (x_gfi c38_8 (ks_1 Hs) (x_aldn c38_11 rfl (x_gfi c38_12 (ks_2 Hs) (x_cge c38_15 (H.2.1 h3) (H.2.2.1 h3) (fun (h4 : M s 2 ≤ M s 1) => (x_ci c38_35 (wp_wk (l' := [none, none]) trivial (by have K := K; first | (simp only [if_pos h3, if_neg (Int.not_lt.mpr h4)] at K ⊢; exact K) | (exfalso; omega))))) (fun (h5 : M s 1 < M s 2) => (x_aldn c38_18 rfl (x_gfd c38_19 (ks_0 Hs) (x_aldn c38_22 rfl (x_gfi c38_23 (ks_1 Hs) (x_cald c38_26 (H.2.2.2.1 h3 h5).1.1 (H.2.2.2.1 h3 h5).2 (H.2.2.2.1 h3 h5).1.2 (x_ildn c38_27 rfl (x_cne c38_28 (H.2.2.2.2.1 h3 h5) (H.2.2.2.2.2.1 h3 h5) (fun (h6 : M ((M s 0).toNat) (M s 1) ≠ x1) => (x_ci c38_35 (wp_wk (l' := [none, none]) trivial (by have K := K; first | (simp only [if_pos h3, if_pos h5, if_neg h6] at K ⊢; exact K) | (exfalso; omega))))) (fun (h7 : M ((M s 0).toNat) (M s 1) = x1) => (x_ci c38_31 (x_goto c38_32 (wp_wk (l' := [none, none]) trivial (by have K := K; first | (simp only [if_pos h3, if_pos h5, if_pos h7] at K ⊢; exact K) | (exfalso; omega))))))))))))))))))))))))
theorem s38 {kc : List va_E} {d : Nat} {s : Nat} {x1 : Int} {h1n : Nat} {M : fx_M} {Q : Option fx_V → fx_M → Prop} (Hs : fx_scn s) (H : ((fx_in32 (M s 3))) ∧ (M s 3 = 0 → (fx_in32 (M s 1))) ∧ (M s 3 = 0 → (fx_in32 (M s 2))) ∧ (M s 3 = 0 → M s 1 < M s 2 → (((fx_a ((M s 0).toNat) = some (1, h1n) ∧ h1n ≤ 2147483647) ∧ ((0 : Int) ≤ M s 1 ∧ M s 1 < (h1n : Nat))))) ∧ (M s 3 = 0 → M s 1 < M s 2 → (fx_in32 (M ((M s 0).toNat) (M s 1)))) ∧ (M s 3 = 0 → M s 1 < M s 2 → (fx_in32 x1)) ∧ ((0 : Int) ≤ (if M s 3 = 0 then ((if M s 1 < M s 2 then ((if M ((M s 0).toNat) (M s 1) = x1 then (1 : Int) else 0) : Int) else 0) : Int) else 0) ∧ (if M s 3 = 0 then ((if M s 1 < M s 2 then ((if M ((M s 0).toNat) (M s 1) = x1 then (1 : Int) else 0) : Int) else 0) : Int) else 0) ≤ 1) ∧ Q (some (jI (if M s 3 = 0 then ((if M s 1 < M s 2 then ((if M ((M s 0).toNat) (M s 1) = x1 then (1 : Int) else 0) : Int) else 0) : Int) else 0))) M) : wc kc (d + 1) 38 [jR s, jI x1] M Q :=
  wc_of (wp_wk (l' := [some (jR s), some (jI x1)]) ⟨rfl, ⟨rfl, trivial⟩⟩ (s38_0 Hs H))

/- PuzzleHouse$Scan.tellName()V -/
theorem c39_0 : fx_op 39 0 = some (.aload_n 0, 1, 0) := by decide +kernel
theorem c39_1 : fx_ci 39 1 = some (32, 3) := by decide +kernel
theorem c39_3 : fx_ca 39 3 = some (34, 2, 2, 6) := by decide +kernel
theorem c39_6 : fx_op 39 6 = some (.aload_n 0, 7, 6) := by decide +kernel
theorem c39_7 : fx_ca 39 7 = some (40, 1, 2, 10) := by decide +kernel
theorem c39_10 : fx_op 39 10 = some (.return_, 11, 10) := by decide +kernel
theorem s39_0 {kc : List va_E} {d : Nat} {s : Nat} {M : fx_M} {Q : Option fx_V → fx_M → Prop} (Hs : fx_scn s) (H : wc kc d 34 [jR s, jI 32] M (fun v M1 => wp kc (d + 1) 39 6 [some (jR s)] (v.toList ++ []) M1 Q)) : wp kc (d + 1) 39 0 [some (jR s)] [] M Q :=
  (x_aldn c39_0 rfl (x_ci c39_1 (wp_wk (l' := [some (jR s)]) ⟨rfl, trivial⟩ (x_cv (As := [jI 32]) (st := []) c39_3 (cls Hs) kl34 rfl (Nat.le_of_ble_eq_true rfl) mx34 (Nat.le_refl _) H))))
theorem s39_6 {kc : List va_E} {d : Nat} {s : Nat} {M : fx_M} {Q : Option fx_V → fx_M → Prop} (Hs : fx_scn s) (H : wc kc d 40 [jR s] M (fun v M1 => wp kc (d + 1) 39 10 [none] (v.toList ++ []) M1 Q)) : wp kc (d + 1) 39 6 [some (jR s)] [] M Q :=
  (x_aldn c39_6 rfl (wp_wk (l' := [none]) trivial (x_cv (As := []) (st := []) c39_7 (cls Hs) kl40 rfl (Nat.le_of_ble_eq_true rfl) mx40 (Nat.le_refl _) H)))
theorem s39_10 {kc : List va_E} {d : Nat} {s : Nat} {M : fx_M} {Q : Option fx_V → fx_M → Prop} (Hs : fx_scn s) (H : Q none M) : wp kc (d + 1) 39 10 [none] [] M Q :=
  (x_vr c39_10 r39 H)
theorem s39 {kc : List va_E} {d : Nat} {s : Nat} {M : fx_M} {Q : Option fx_V → fx_M → Prop} (Hs : fx_scn s) (H : wc kc d 34 [jR s, jI 32] M (fun v M1 => wp kc (d + 1) 39 6 [some (jR s)] (v.toList ++ []) M1 Q)) : wc kc (d + 1) 39 [jR s] M Q :=
  wc_of (wp_wk (l' := [some (jR s)]) ⟨rfl, trivial⟩ (s39_0 Hs H))

/- PuzzleHouse$Scan.name()V -/
theorem c40_0 : fx_op 40 0 = some (.aload_n 0, 1, 0) := by decide +kernel
theorem c40_1 : fx_op 40 1 = some (.aload_n 0, 2, 1) := by decide +kernel
theorem c40_2 : fx_gf 40 2 = some (2, 1, 5) := by decide +kernel
theorem c40_5 : fx_pf 40 5 = some (2, 6, 0, 8) := by decide +kernel
theorem c40_8 : fx_op 40 8 = some (.aload_n 0, 9, 8) := by decide +kernel
theorem c40_9 : fx_ci 40 9 = some (0, 10) := by decide +kernel
theorem c40_10 : fx_pf 40 10 = some (2, 7, 0, 13) := by decide +kernel
theorem c40_13 : fx_op 40 13 = some (.aload_n 0, 14, 13) := by decide +kernel
theorem c40_14 : fx_gf 40 14 = some (2, 3, 17) := by decide +kernel
theorem c40_17 : fx_op 40 17 = some (.ifCond .ne 61, 20, 78) := by decide +kernel
theorem c40_20 : fx_op 40 20 = some (.aload_n 0, 21, 20) := by decide +kernel
theorem c40_21 : fx_gf 40 21 = some (2, 7, 24) := by decide +kernel
theorem c40_24 : fx_ci 40 24 = some (8, 26) := by decide +kernel
theorem c40_26 : fx_op 40 26 = some (.if_icmp .ge 52, 29, 78) := by decide +kernel
theorem c40_29 : fx_op 40 29 = some (.aload_n 0, 30, 29) := by decide +kernel
theorem c40_30 : fx_gf 40 30 = some (2, 1, 33) := by decide +kernel
theorem c40_33 : fx_op 40 33 = some (.aload_n 0, 34, 33) := by decide +kernel
theorem c40_34 : fx_gf 40 34 = some (2, 2, 37) := by decide +kernel
theorem c40_37 : fx_op 40 37 = some (.if_icmp .ge 41, 40, 78) := by decide +kernel
theorem c40_40 : fx_op 40 40 = some (.aload_n 0, 41, 40) := by decide +kernel
theorem c40_41 : fx_gf 40 41 = some (2, 0, 44) := by decide +kernel
theorem c40_44 : fx_op 40 44 = some (.aload_n 0, 45, 44) := by decide +kernel
theorem c40_45 : fx_gf 40 45 = some (2, 1, 48) := by decide +kernel
theorem c40_48 : fx_op 40 48 = some (.caload, 49, 48) := by decide +kernel
theorem c40_78 : fx_op 40 78 = some (.aload_n 0, 79, 78) := by decide +kernel
theorem c40_79 : fx_op 40 79 = some (.aload_n 0, 80, 79) := by decide +kernel
theorem c40_80 : fx_gf 40 80 = some (2, 3, 83) := by decide +kernel
theorem c40_83 : fx_op 40 83 = some (.ifCond .ne 10, 86, 93) := by decide +kernel
theorem c40_93 : fx_ci 40 93 = some (1, 94) := by decide +kernel
theorem c40_94 : fx_op 40 94 = some (.goto 4, 97, 98) := by decide +kernel
theorem c40_86 : fx_op 40 86 = some (.aload_n 0, 87, 86) := by decide +kernel
theorem c40_87 : fx_gf 40 87 = some (2, 7, 90) := by decide +kernel
theorem c40_90 : fx_op 40 90 = some (.ifCond .ne 7, 93, 97) := by decide +kernel
theorem c40_97 : fx_ci 40 97 = some (0, 98) := by decide +kernel
theorem c40_98 : fx_pf 40 98 = some (2, 3, 2, 101) := by decide +kernel
theorem c40_101 : fx_op 40 101 = some (.return_, 102, 101) := by decide +kernel
theorem c40_49 : fx_ca 40 49 = some (41, 1, 1, 52) := by decide +kernel
theorem c40_52 : fx_op 40 52 = some (.ifCond .eq 26, 55, 78) := by decide +kernel
theorem c40_55 : fx_op 40 55 = some (.aload_n 0, 56, 55) := by decide +kernel
theorem c40_56 : fx_op 40 56 = some (.dup, 57, 56) := by decide +kernel
theorem c40_57 : fx_gf 40 57 = some (2, 1, 60) := by decide +kernel
theorem c40_60 : fx_ci 40 60 = some (1, 61) := by decide +kernel
theorem c40_61 : fx_op 40 61 = some (.iadd, 62, 61) := by decide +kernel
theorem c40_62 : fx_pf 40 62 = some (2, 1, 0, 65) := by decide +kernel
theorem c40_65 : fx_op 40 65 = some (.aload_n 0, 66, 65) := by decide +kernel
theorem c40_66 : fx_op 40 66 = some (.dup, 67, 66) := by decide +kernel
theorem c40_67 : fx_gf 40 67 = some (2, 7, 70) := by decide +kernel
theorem c40_70 : fx_ci 40 70 = some (1, 71) := by decide +kernel
theorem c40_71 : fx_op 40 71 = some (.iadd, 72, 71) := by decide +kernel
theorem c40_72 : fx_pf 40 72 = some (2, 7, 0, 75) := by decide +kernel
theorem c40_75 : fx_op 40 75 = some (.goto (-62), 78, 13) := by decide +kernel
theorem s40_0 {kc : List va_E} {d : Nat} {s : Nat} {M : fx_M} {Q : Option fx_V → fx_M → Prop} (Hs : fx_scn s) (H : wp kc (d + 1) 40 13 [some (jR s)] [] (fx_up (fx_up M s 6 (M s 1)) s 7 0) Q) : wp kc (d + 1) 40 0 [some (jR s)] [] M Q :=
  (x_aldn c40_0 rfl (x_aldn c40_1 rfl (x_gfi c40_2 (ks_1 Hs) (x_pfi c40_5 (ks_6 Hs) (x_aldn c40_8 rfl (x_ci c40_9 (x_pfi c40_10 (ks_7 Hs) (wp_wk (l' := [some (jR s)]) ⟨rfl, trivial⟩ H))))))))
theorem s40_13 {kc : List va_E} {d : Nat} {s : Nat} {h1n h2n h3n h4n : Nat} {M : fx_M} {Q : Option fx_V → fx_M → Prop} (Hs : fx_scn s) (H : ((fx_in32 (M s 3))) ∧ (M s 3 ≠ 0 → ((fx_in32 (M s 3))) ∧ (M s 3 = 0 → (fx_in32 (M s 7))) ∧ (((0 : Int) ≤ (if M s 3 = 0 then ((if M s 7 = 0 then (1 : Int) else 0) : Int) else 1) ∧ (if M s 3 = 0 then ((if M s 7 = 0 then (1 : Int) else 0) : Int) else 1) ≤ 1)) ∧ Q none (fx_up M s 3 (if M s 3 = 0 then ((if M s 7 = 0 then (1 : Int) else 0) : Int) else 1))) ∧ (M s 3 = 0 → ((fx_in32 (M s 7))) ∧ (8 ≤ M s 7 → ((fx_in32 (M s 3))) ∧ (M s 3 = 0 → (fx_in32 (M s 7))) ∧ (((0 : Int) ≤ (if M s 3 = 0 then ((if M s 7 = 0 then (1 : Int) else 0) : Int) else 1) ∧ (if M s 3 = 0 then ((if M s 7 = 0 then (1 : Int) else 0) : Int) else 1) ≤ 1)) ∧ Q none (fx_up M s 3 (if M s 3 = 0 then ((if M s 7 = 0 then (1 : Int) else 0) : Int) else 1))) ∧ (M s 7 < 8 → ((fx_in32 (M s 1)) ∧ (fx_in32 (M s 2))) ∧ (M s 2 ≤ M s 1 → ((fx_in32 (M s 3))) ∧ (M s 3 = 0 → (fx_in32 (M s 7))) ∧ (((0 : Int) ≤ (if M s 3 = 0 then ((if M s 7 = 0 then (1 : Int) else 0) : Int) else 1) ∧ (if M s 3 = 0 then ((if M s 7 = 0 then (1 : Int) else 0) : Int) else 1) ≤ 1)) ∧ Q none (fx_up M s 3 (if M s 3 = 0 then ((if M s 7 = 0 then (1 : Int) else 0) : Int) else 1))) ∧ (M s 1 < M s 2 → ((fx_a ((M s 0).toNat) = some (1, h4n) ∧ h4n ≤ 2147483647) ∧ ((0 : Int) ≤ M s 1 ∧ M s 1 < (h4n : Nat))) ∧ wc kc d 41 [jI (M ((M s 0).toNat) (M s 1))] M (fun v M1 => wp kc (d + 1) 40 52 [some (jR s)] (v.toList ++ []) M1 Q))))) : wp kc (d + 1) 40 13 [some (jR s)] [] M Q :=
  (x_aldn c40_13 rfl (x_gfi c40_14 (ks_3 Hs) (x_zne c40_17 H.1 (fun h9 => (x_aldn c40_78 rfl (x_aldn c40_79 rfl (x_gfi c40_80 (ks_3 Hs) (have K : wp kc (d + 1) 40 98 [none] [jI (if M s 3 = 0 then ((if M s 7 = 0 then (1 : Int) else 0) : Int) else 1), jR s] M Q := (x_pfz c40_98 (ks_3 Hs) (H.2.1 h9).2.2.1 (x_vr c40_101 r40 (H.2.1 h9).2.2.2)); (x_zne c40_83 (H.2.1 h9).1 (fun (h11 : M s 3 ≠ 0) => (x_ci c40_93 (x_goto c40_94 (wp_wk (l' := [none]) trivial (by have K := K; first | (simp only [if_neg h11] at K ⊢; exact K) | (exfalso; omega)))))) (fun (h12 : M s 3 = 0) => (x_aldn c40_86 rfl (x_gfi c40_87 (ks_7 Hs) (x_zne c40_90 ((H.2.1 h9).2.1 h12) (fun (h13 : M s 7 ≠ 0) => (x_ci c40_97 (wp_wk (l' := [none]) trivial (by have K := K; first | (simp only [if_pos h12, if_neg h13] at K ⊢; exact K) | (exfalso; omega))))) (fun (h14 : M s 7 = 0) => (x_ci c40_93 (x_goto c40_94 (wp_wk (l' := [none]) trivial (by have K := K; first | (simp only [if_pos h12, if_pos h14] at K ⊢; exact K) | (exfalso; omega)))))))))))))))) (fun h10 => (x_aldn c40_20 rfl (x_gfi c40_21 (ks_7 Hs) (x_ci c40_24 (x_cge c40_26 (H.2.2 h10).1 (by decide) (fun h7 => (x_aldn c40_78 rfl (x_aldn c40_79 rfl (x_gfi c40_80 (ks_3 Hs) (have K : wp kc (d + 1) 40 98 [none] [jI (if M s 3 = 0 then ((if M s 7 = 0 then (1 : Int) else 0) : Int) else 1), jR s] M Q := (x_pfz c40_98 (ks_3 Hs) ((H.2.2 h10).2.1 h7).2.2.1 (x_vr c40_101 r40 ((H.2.2 h10).2.1 h7).2.2.2)); (x_zne c40_83 ((H.2.2 h10).2.1 h7).1 (fun (h15 : M s 3 ≠ 0) => (x_ci c40_93 (x_goto c40_94 (wp_wk (l' := [none]) trivial (by have K := K; first | (simp only [if_neg h15] at K ⊢; exact K) | (exfalso; omega)))))) (fun (h16 : M s 3 = 0) => (x_aldn c40_86 rfl (x_gfi c40_87 (ks_7 Hs) (x_zne c40_90 (((H.2.2 h10).2.1 h7).2.1 h16) (fun (h17 : M s 7 ≠ 0) => (x_ci c40_97 (wp_wk (l' := [none]) trivial (by have K := K; first | (simp only [if_pos h16, if_neg h17] at K ⊢; exact K) | (exfalso; omega))))) (fun (h18 : M s 7 = 0) => (x_ci c40_93 (x_goto c40_94 (wp_wk (l' := [none]) trivial (by have K := K; first | (simp only [if_pos h16, if_pos h18] at K ⊢; exact K) | (exfalso; omega)))))))))))))))) (fun h8 => (x_aldn c40_29 rfl (x_gfi c40_30 (ks_1 Hs) (x_aldn c40_33 rfl (x_gfi c40_34 (ks_2 Hs) (x_cge c40_37 ((H.2.2 h10).2.2 h8).1.1 ((H.2.2 h10).2.2 h8).1.2 (fun h5 => (x_aldn c40_78 rfl (x_aldn c40_79 rfl (x_gfi c40_80 (ks_3 Hs) (have K : wp kc (d + 1) 40 98 [none] [jI (if M s 3 = 0 then ((if M s 7 = 0 then (1 : Int) else 0) : Int) else 1), jR s] M Q := (x_pfz c40_98 (ks_3 Hs) (((H.2.2 h10).2.2 h8).2.1 h5).2.2.1 (x_vr c40_101 r40 (((H.2.2 h10).2.2 h8).2.1 h5).2.2.2)); (x_zne c40_83 (((H.2.2 h10).2.2 h8).2.1 h5).1 (fun (h19 : M s 3 ≠ 0) => (x_ci c40_93 (x_goto c40_94 (wp_wk (l' := [none]) trivial (by have K := K; first | (simp only [if_neg h19] at K ⊢; exact K) | (exfalso; omega)))))) (fun (h20 : M s 3 = 0) => (x_aldn c40_86 rfl (x_gfi c40_87 (ks_7 Hs) (x_zne c40_90 ((((H.2.2 h10).2.2 h8).2.1 h5).2.1 h20) (fun (h21 : M s 7 ≠ 0) => (x_ci c40_97 (wp_wk (l' := [none]) trivial (by have K := K; first | (simp only [if_pos h20, if_neg h21] at K ⊢; exact K) | (exfalso; omega))))) (fun (h22 : M s 7 = 0) => (x_ci c40_93 (x_goto c40_94 (wp_wk (l' := [none]) trivial (by have K := K; first | (simp only [if_pos h20, if_pos h22] at K ⊢; exact K) | (exfalso; omega)))))))))))))))) (fun h6 => (x_aldn c40_40 rfl (x_gfd c40_41 (ks_0 Hs) (x_aldn c40_44 rfl (x_gfi c40_45 (ks_1 Hs) (x_cald c40_48 (((H.2.2 h10).2.2 h8).2.2 h6).1.1.1 (((H.2.2 h10).2.2 h8).2.2 h6).1.2 (((H.2.2 h10).2.2 h8).2.2 h6).1.1.2 (wp_wk (l' := [some (jR s)]) ⟨rfl, trivial⟩ (x_cs (As := [jI (M ((M s 0).toNat) (M s 1))]) (st := []) c40_49 (by decide) rfl (Nat.le_of_ble_eq_true rfl) mx41 (Nat.le_refl _) (((H.2.2 h10).2.2 h8).2.2 h6).2))))))))))))))))))))))
theorem s40_52 {kc : List va_E} {d : Nat} {s : Nat} {u0 : Int} {M : fx_M} {Q : Option fx_V → fx_M → Prop} (Hs : fx_scn s) (H : ((fx_in32 u0)) ∧ (u0 = 0 → ((fx_in32 (M s 3))) ∧ (M s 3 = 0 → (fx_in32 (M s 7))) ∧ (((0 : Int) ≤ (if M s 3 = 0 then ((if M s 7 = 0 then (1 : Int) else 0) : Int) else 1) ∧ (if M s 3 = 0 then ((if M s 7 = 0 then (1 : Int) else 0) : Int) else 1) ≤ 1)) ∧ Q none (fx_up M s 3 (if M s 3 = 0 then ((if M s 7 = 0 then (1 : Int) else 0) : Int) else 1))) ∧ (u0 ≠ 0 → wp kc (d + 1) 40 13 [some (jR s)] [] (fx_up (fx_up M s 1 ((M s 1) + 1)) s 7 ((M s 7) + 1)) Q)) : wp kc (d + 1) 40 52 [some (jR s)] [jI u0] M Q :=
  (x_zeq c40_52 H.1 (fun h1 => (x_aldn c40_78 rfl (x_aldn c40_79 rfl (x_gfi c40_80 (ks_3 Hs) (have K : wp kc (d + 1) 40 98 [none] [jI (if M s 3 = 0 then ((if M s 7 = 0 then (1 : Int) else 0) : Int) else 1), jR s] M Q := (x_pfz c40_98 (ks_3 Hs) (H.2.1 h1).2.2.1 (x_vr c40_101 r40 (H.2.1 h1).2.2.2)); (x_zne c40_83 (H.2.1 h1).1 (fun (h3 : M s 3 ≠ 0) => (x_ci c40_93 (x_goto c40_94 (wp_wk (l' := [none]) trivial (by have K := K; first | (simp only [if_neg h3] at K ⊢; exact K) | (exfalso; omega)))))) (fun (h4 : M s 3 = 0) => (x_aldn c40_86 rfl (x_gfi c40_87 (ks_7 Hs) (x_zne c40_90 ((H.2.1 h1).2.1 h4) (fun (h5 : M s 7 ≠ 0) => (x_ci c40_97 (wp_wk (l' := [none]) trivial (by have K := K; first | (simp only [if_pos h4, if_neg h5] at K ⊢; exact K) | (exfalso; omega))))) (fun (h6 : M s 7 = 0) => (x_ci c40_93 (x_goto c40_94 (wp_wk (l' := [none]) trivial (by have K := K; first | (simp only [if_pos h4, if_pos h6] at K ⊢; exact K) | (exfalso; omega)))))))))))))))) (fun h2 => (x_aldn c40_55 rfl (x_dupr c40_56 (x_gfi c40_57 (ks_1 Hs) (x_ci c40_60 (x_iadd c40_61 (x_pfi c40_62 (ks_1 Hs) (x_aldn c40_65 rfl (x_dupr c40_66 (x_gfi c40_67 (ks_7 Hs) (wp_vI (fx_upK (by decide)) (x_ci c40_70 (x_iadd c40_71 (x_pfi c40_72 (ks_7 Hs) (x_goto c40_75 (wp_wk (l' := [some (jR s)]) ⟨rfl, trivial⟩ (H.2.2 h2))))))))))))))))))
theorem s40 {kc : List va_E} {d : Nat} {s : Nat} {M : fx_M} {Q : Option fx_V → fx_M → Prop} (Hs : fx_scn s) (H : wp kc (d + 1) 40 13 [some (jR s)] [] (fx_up (fx_up M s 6 (M s 1)) s 7 0) Q) : wc kc (d + 1) 40 [jR s] M Q :=
  wc_of (wp_wk (l' := [some (jR s)]) ⟨rfl, trivial⟩ (s40_0 Hs H))

/- PuzzleHouse$Scan.tellDigits()V -/
theorem c42_0 : fx_op 42 0 = some (.aload_n 0, 1, 0) := by decide +kernel
theorem c42_1 : fx_ci 42 1 = some (32, 3) := by decide +kernel
theorem c42_3 : fx_ca 42 3 = some (34, 2, 2, 6) := by decide +kernel
theorem c42_6 : fx_op 42 6 = some (.aload_n 0, 7, 6) := by decide +kernel
theorem c42_7 : fx_op 42 7 = some (.aload_n 0, 8, 7) := by decide +kernel
theorem c42_8 : fx_gf 42 8 = some (2, 1, 11) := by decide +kernel
theorem c42_11 : fx_pf 42 11 = some (2, 8, 0, 14) := by decide +kernel
theorem c42_14 : fx_op 42 14 = some (.aload_n 0, 15, 14) := by decide +kernel
theorem c42_15 : fx_ci 42 15 = some (0, 16) := by decide +kernel
theorem c42_16 : fx_pf 42 16 = some (2, 9, 0, 19) := by decide +kernel
theorem c42_19 : fx_op 42 19 = some (.aload_n 0, 20, 19) := by decide +kernel
theorem c42_20 : fx_gf 42 20 = some (2, 3, 23) := by decide +kernel
theorem c42_23 : fx_op 42 23 = some (.ifCond .ne 52, 26, 75) := by decide +kernel
theorem c42_26 : fx_op 42 26 = some (.aload_n 0, 27, 26) := by decide +kernel
theorem c42_27 : fx_gf 42 27 = some (2, 1, 30) := by decide +kernel
theorem c42_30 : fx_op 42 30 = some (.aload_n 0, 31, 30) := by decide +kernel
theorem c42_31 : fx_gf 42 31 = some (2, 2, 34) := by decide +kernel
theorem c42_34 : fx_op 42 34 = some (.if_icmp .ge 41, 37, 75) := by decide +kernel
theorem c42_37 : fx_op 42 37 = some (.aload_n 0, 38, 37) := by decide +kernel
theorem c42_38 : fx_gf 42 38 = some (2, 0, 41) := by decide +kernel
theorem c42_41 : fx_op 42 41 = some (.aload_n 0, 42, 41) := by decide +kernel
theorem c42_42 : fx_gf 42 42 = some (2, 1, 45) := by decide +kernel
theorem c42_45 : fx_op 42 45 = some (.caload, 46, 45) := by decide +kernel
theorem c42_75 : fx_op 42 75 = some (.aload_n 0, 76, 75) := by decide +kernel
theorem c42_76 : fx_op 42 76 = some (.aload_n 0, 77, 76) := by decide +kernel
theorem c42_77 : fx_gf 42 77 = some (2, 3, 80) := by decide +kernel
theorem c42_80 : fx_op 42 80 = some (.ifCond .ne 10, 83, 90) := by decide +kernel
theorem c42_90 : fx_ci 42 90 = some (1, 91) := by decide +kernel
theorem c42_91 : fx_op 42 91 = some (.goto 4, 94, 95) := by decide +kernel
theorem c42_83 : fx_op 42 83 = some (.aload_n 0, 84, 83) := by decide +kernel
theorem c42_84 : fx_gf 42 84 = some (2, 9, 87) := by decide +kernel
theorem c42_87 : fx_op 42 87 = some (.ifCond .ne 7, 90, 94) := by decide +kernel
theorem c42_94 : fx_ci 42 94 = some (0, 95) := by decide +kernel
theorem c42_95 : fx_pf 42 95 = some (2, 3, 2, 98) := by decide +kernel
theorem c42_98 : fx_op 42 98 = some (.return_, 99, 98) := by decide +kernel
theorem c42_46 : fx_ca 42 46 = some (43, 1, 1, 49) := by decide +kernel
theorem c42_49 : fx_op 42 49 = some (.ifCond .eq 26, 52, 75) := by decide +kernel
theorem c42_52 : fx_op 42 52 = some (.aload_n 0, 53, 52) := by decide +kernel
theorem c42_53 : fx_op 42 53 = some (.dup, 54, 53) := by decide +kernel
theorem c42_54 : fx_gf 42 54 = some (2, 1, 57) := by decide +kernel
theorem c42_57 : fx_ci 42 57 = some (1, 58) := by decide +kernel
theorem c42_58 : fx_op 42 58 = some (.iadd, 59, 58) := by decide +kernel
theorem c42_59 : fx_pf 42 59 = some (2, 1, 0, 62) := by decide +kernel
theorem c42_62 : fx_op 42 62 = some (.aload_n 0, 63, 62) := by decide +kernel
theorem c42_63 : fx_op 42 63 = some (.dup, 64, 63) := by decide +kernel
theorem c42_64 : fx_gf 42 64 = some (2, 9, 67) := by decide +kernel
theorem c42_67 : fx_ci 42 67 = some (1, 68) := by decide +kernel
theorem c42_68 : fx_op 42 68 = some (.iadd, 69, 68) := by decide +kernel
theorem c42_69 : fx_pf 42 69 = some (2, 9, 0, 72) := by decide +kernel
theorem c42_72 : fx_op 42 72 = some (.goto (-53), 75, 19) := by decide +kernel
theorem s42_0 {kc : List va_E} {d : Nat} {s : Nat} {M : fx_M} {Q : Option fx_V → fx_M → Prop} (Hs : fx_scn s) (H : wc kc d 34 [jR s, jI 32] M (fun v M1 => wp kc (d + 1) 42 6 [some (jR s)] (v.toList ++ []) M1 Q)) : wp kc (d + 1) 42 0 [some (jR s)] [] M Q :=
  (x_aldn c42_0 rfl (x_ci c42_1 (wp_wk (l' := [some (jR s)]) ⟨rfl, trivial⟩ (x_cv (As := [jI 32]) (st := []) c42_3 (cls Hs) kl34 rfl (Nat.le_of_ble_eq_true rfl) mx34 (Nat.le_refl _) H))))
theorem s42_6 {kc : List va_E} {d : Nat} {s : Nat} {M : fx_M} {Q : Option fx_V → fx_M → Prop} (Hs : fx_scn s) (H : wp kc (d + 1) 42 19 [some (jR s)] [] (fx_up (fx_up M s 8 (M s 1)) s 9 0) Q) : wp kc (d + 1) 42 6 [some (jR s)] [] M Q :=
  (x_aldn c42_6 rfl (x_aldn c42_7 rfl (x_gfi c42_8 (ks_1 Hs) (x_pfi c42_11 (ks_8 Hs) (x_aldn c42_14 rfl (x_ci c42_15 (x_pfi c42_16 (ks_9 Hs) (wp_wk (l' := [some (jR s)]) ⟨rfl, trivial⟩ H))))))))
theorem s42_19 {kc : List va_E} {d : Nat} {s : Nat} {h1n h2n h3n : Nat} {M : fx_M} {Q : Option fx_V → fx_M → Prop} (Hs : fx_scn s) (H : ((fx_in32 (M s 3))) ∧ (M s 3 ≠ 0 → ((fx_in32 (M s 3))) ∧ (M s 3 = 0 → (fx_in32 (M s 9))) ∧ (((0 : Int) ≤ (if M s 3 = 0 then ((if M s 9 = 0 then (1 : Int) else 0) : Int) else 1) ∧ (if M s 3 = 0 then ((if M s 9 = 0 then (1 : Int) else 0) : Int) else 1) ≤ 1)) ∧ Q none (fx_up M s 3 (if M s 3 = 0 then ((if M s 9 = 0 then (1 : Int) else 0) : Int) else 1))) ∧ (M s 3 = 0 → ((fx_in32 (M s 1)) ∧ (fx_in32 (M s 2))) ∧ (M s 2 ≤ M s 1 → ((fx_in32 (M s 3))) ∧ (M s 3 = 0 → (fx_in32 (M s 9))) ∧ (((0 : Int) ≤ (if M s 3 = 0 then ((if M s 9 = 0 then (1 : Int) else 0) : Int) else 1) ∧ (if M s 3 = 0 then ((if M s 9 = 0 then (1 : Int) else 0) : Int) else 1) ≤ 1)) ∧ Q none (fx_up M s 3 (if M s 3 = 0 then ((if M s 9 = 0 then (1 : Int) else 0) : Int) else 1))) ∧ (M s 1 < M s 2 → ((fx_a ((M s 0).toNat) = some (1, h3n) ∧ h3n ≤ 2147483647) ∧ ((0 : Int) ≤ M s 1 ∧ M s 1 < (h3n : Nat))) ∧ wc kc d 43 [jI (M ((M s 0).toNat) (M s 1))] M (fun v M1 => wp kc (d + 1) 42 49 [some (jR s)] (v.toList ++ []) M1 Q)))) : wp kc (d + 1) 42 19 [some (jR s)] [] M Q :=
  (x_aldn c42_19 rfl (x_gfi c42_20 (ks_3 Hs) (x_zne c42_23 H.1 (fun h6 => (x_aldn c42_75 rfl (x_aldn c42_76 rfl (x_gfi c42_77 (ks_3 Hs) (have K : wp kc (d + 1) 42 95 [none] [jI (if M s 3 = 0 then ((if M s 9 = 0 then (1 : Int) else 0) : Int) else 1), jR s] M Q := (x_pfz c42_95 (ks_3 Hs) (H.2.1 h6).2.2.1 (x_vr c42_98 r42 (H.2.1 h6).2.2.2)); (x_zne c42_80 (H.2.1 h6).1 (fun (h8 : M s 3 ≠ 0) => (x_ci c42_90 (x_goto c42_91 (wp_wk (l' := [none]) trivial (by have K := K; first | (simp only [if_neg h8] at K ⊢; exact K) | (exfalso; omega)))))) (fun (h9 : M s 3 = 0) => (x_aldn c42_83 rfl (x_gfi c42_84 (ks_9 Hs) (x_zne c42_87 ((H.2.1 h6).2.1 h9) (fun (h10 : M s 9 ≠ 0) => (x_ci c42_94 (wp_wk (l' := [none]) trivial (by have K := K; first | (simp only [if_pos h9, if_neg h10] at K ⊢; exact K) | (exfalso; omega))))) (fun (h11 : M s 9 = 0) => (x_ci c42_90 (x_goto c42_91 (wp_wk (l' := [none]) trivial (by have K := K; first | (simp only [if_pos h9, if_pos h11] at K ⊢; exact K) | (exfalso; omega)))))))))))))))) (fun h7 => (x_aldn c42_26 rfl (x_gfi c42_27 (ks_1 Hs) (x_aldn c42_30 rfl (x_gfi c42_31 (ks_2 Hs) (x_cge c42_34 (H.2.2 h7).1.1 (H.2.2 h7).1.2 (fun h4 => (x_aldn c42_75 rfl (x_aldn c42_76 rfl (x_gfi c42_77 (ks_3 Hs) (have K : wp kc (d + 1) 42 95 [none] [jI (if M s 3 = 0 then ((if M s 9 = 0 then (1 : Int) else 0) : Int) else 1), jR s] M Q := (x_pfz c42_95 (ks_3 Hs) ((H.2.2 h7).2.1 h4).2.2.1 (x_vr c42_98 r42 ((H.2.2 h7).2.1 h4).2.2.2)); (x_zne c42_80 ((H.2.2 h7).2.1 h4).1 (fun (h12 : M s 3 ≠ 0) => (x_ci c42_90 (x_goto c42_91 (wp_wk (l' := [none]) trivial (by have K := K; first | (simp only [if_neg h12] at K ⊢; exact K) | (exfalso; omega)))))) (fun (h13 : M s 3 = 0) => (x_aldn c42_83 rfl (x_gfi c42_84 (ks_9 Hs) (x_zne c42_87 (((H.2.2 h7).2.1 h4).2.1 h13) (fun (h14 : M s 9 ≠ 0) => (x_ci c42_94 (wp_wk (l' := [none]) trivial (by have K := K; first | (simp only [if_pos h13, if_neg h14] at K ⊢; exact K) | (exfalso; omega))))) (fun (h15 : M s 9 = 0) => (x_ci c42_90 (x_goto c42_91 (wp_wk (l' := [none]) trivial (by have K := K; first | (simp only [if_pos h13, if_pos h15] at K ⊢; exact K) | (exfalso; omega)))))))))))))))) (fun h5 => (x_aldn c42_37 rfl (x_gfd c42_38 (ks_0 Hs) (x_aldn c42_41 rfl (x_gfi c42_42 (ks_1 Hs) (x_cald c42_45 ((H.2.2 h7).2.2 h5).1.1.1 ((H.2.2 h7).2.2 h5).1.2 ((H.2.2 h7).2.2 h5).1.1.2 (wp_wk (l' := [some (jR s)]) ⟨rfl, trivial⟩ (x_cs (As := [jI (M ((M s 0).toNat) (M s 1))]) (st := []) c42_46 (by decide) rfl (Nat.le_of_ble_eq_true rfl) mx43 (Nat.le_refl _) ((H.2.2 h7).2.2 h5).2)))))))))))))))))
theorem s42_49 {kc : List va_E} {d : Nat} {s : Nat} {u0 : Int} {M : fx_M} {Q : Option fx_V → fx_M → Prop} (Hs : fx_scn s) (H : ((fx_in32 u0)) ∧ (u0 = 0 → ((fx_in32 (M s 3))) ∧ (M s 3 = 0 → (fx_in32 (M s 9))) ∧ (((0 : Int) ≤ (if M s 3 = 0 then ((if M s 9 = 0 then (1 : Int) else 0) : Int) else 1) ∧ (if M s 3 = 0 then ((if M s 9 = 0 then (1 : Int) else 0) : Int) else 1) ≤ 1)) ∧ Q none (fx_up M s 3 (if M s 3 = 0 then ((if M s 9 = 0 then (1 : Int) else 0) : Int) else 1))) ∧ (u0 ≠ 0 → wp kc (d + 1) 42 19 [some (jR s)] [] (fx_up (fx_up M s 1 ((M s 1) + 1)) s 9 ((M s 9) + 1)) Q)) : wp kc (d + 1) 42 49 [some (jR s)] [jI u0] M Q :=
  (x_zeq c42_49 H.1 (fun h1 => (x_aldn c42_75 rfl (x_aldn c42_76 rfl (x_gfi c42_77 (ks_3 Hs) (have K : wp kc (d + 1) 42 95 [none] [jI (if M s 3 = 0 then ((if M s 9 = 0 then (1 : Int) else 0) : Int) else 1), jR s] M Q := (x_pfz c42_95 (ks_3 Hs) (H.2.1 h1).2.2.1 (x_vr c42_98 r42 (H.2.1 h1).2.2.2)); (x_zne c42_80 (H.2.1 h1).1 (fun (h3 : M s 3 ≠ 0) => (x_ci c42_90 (x_goto c42_91 (wp_wk (l' := [none]) trivial (by have K := K; first | (simp only [if_neg h3] at K ⊢; exact K) | (exfalso; omega)))))) (fun (h4 : M s 3 = 0) => (x_aldn c42_83 rfl (x_gfi c42_84 (ks_9 Hs) (x_zne c42_87 ((H.2.1 h1).2.1 h4) (fun (h5 : M s 9 ≠ 0) => (x_ci c42_94 (wp_wk (l' := [none]) trivial (by have K := K; first | (simp only [if_pos h4, if_neg h5] at K ⊢; exact K) | (exfalso; omega))))) (fun (h6 : M s 9 = 0) => (x_ci c42_90 (x_goto c42_91 (wp_wk (l' := [none]) trivial (by have K := K; first | (simp only [if_pos h4, if_pos h6] at K ⊢; exact K) | (exfalso; omega)))))))))))))))) (fun h2 => (x_aldn c42_52 rfl (x_dupr c42_53 (x_gfi c42_54 (ks_1 Hs) (x_ci c42_57 (x_iadd c42_58 (x_pfi c42_59 (ks_1 Hs) (x_aldn c42_62 rfl (x_dupr c42_63 (x_gfi c42_64 (ks_9 Hs) (wp_vI (fx_upK (by decide)) (x_ci c42_67 (x_iadd c42_68 (x_pfi c42_69 (ks_9 Hs) (x_goto c42_72 (wp_wk (l' := [some (jR s)]) ⟨rfl, trivial⟩ (H.2.2 h2))))))))))))))))))
theorem s42 {kc : List va_E} {d : Nat} {s : Nat} {M : fx_M} {Q : Option fx_V → fx_M → Prop} (Hs : fx_scn s) (H : wc kc d 34 [jR s, jI 32] M (fun v M1 => wp kc (d + 1) 42 6 [some (jR s)] (v.toList ++ []) M1 Q)) : wc kc (d + 1) 42 [jR s] M Q :=
  wc_of (wp_wk (l' := [some (jR s)]) ⟨rfl, trivial⟩ (s42_0 Hs H))

/- PuzzleHouse$Scan.kind()V -/
theorem c45_0 : fx_op 45 0 = some (.aload_n 0, 1, 0) := by decide +kernel
theorem c45_1 : fx_ci 45 1 = some (32, 3) := by decide +kernel
theorem c45_3 : fx_ca 45 3 = some (34, 2, 2, 6) := by decide +kernel
theorem c45_6 : fx_op 45 6 = some (.aload_n 0, 7, 6) := by decide +kernel
theorem c45_7 : fx_op 45 7 = some (.aload_n 0, 8, 7) := by decide +kernel
theorem c45_8 : fx_cr 45 8 = some (1000005, 10) := by decide +kernel
theorem c45_10 : fx_ca 45 10 = some (20, 2, 2, 13) := by decide +kernel
theorem c45_13 : fx_pf 45 13 = some (2, 11, 0, 16) := by decide +kernel
theorem c45_16 : fx_op 45 16 = some (.aload_n 0, 17, 16) := by decide +kernel
theorem c45_17 : fx_ci 45 17 = some (0, 18) := by decide +kernel
theorem c45_18 : fx_pf 45 18 = some (2, 12, 0, 21) := by decide +kernel
theorem c45_21 : fx_op 45 21 = some (.aload_n 0, 22, 21) := by decide +kernel
theorem c45_22 : fx_gf 45 22 = some (2, 11, 25) := by decide +kernel
theorem c45_25 : fx_ca 45 25 = some (46, 1, 0, 28) := by decide +kernel
theorem c45_28 : fx_op 45 28 = some (.ifCond .eq 18, 31, 46) := by decide +kernel
theorem c45_31 : fx_op 45 31 = some (.aload_n 0, 32, 31) := by decide +kernel
theorem c45_32 : fx_ci 45 32 = some (32, 34) := by decide +kernel
theorem c45_46 : fx_op 45 46 = some (.return_, 47, 46) := by decide +kernel
theorem c45_34 : fx_ca 45 34 = some (34, 2, 2, 37) := by decide +kernel
theorem c45_37 : fx_op 45 37 = some (.aload_n 0, 38, 37) := by decide +kernel
theorem c45_38 : fx_op 45 38 = some (.aload_n 0, 39, 38) := by decide +kernel
theorem c45_39 : fx_ci 45 39 = some (3, 40) := by decide +kernel
theorem c45_40 : fx_ca 45 40 = some (35, 2, 2, 43) := by decide +kernel
theorem c45_43 : fx_pf 45 43 = some (2, 12, 0, 46) := by decide +kernel
theorem s45_0 {kc : List va_E} {d : Nat} {s : Nat} {M : fx_M} {Q : Option fx_V → fx_M → Prop} (Hs : fx_scn s) (H : wc kc d 34 [jR s, jI 32] M (fun v M1 => wp kc (d + 1) 45 6 [some (jR s)] (v.toList ++ []) M1 Q)) : wp kc (d + 1) 45 0 [some (jR s)] [] M Q :=
  (x_aldn c45_0 rfl (x_ci c45_1 (wp_wk (l' := [some (jR s)]) ⟨rfl, trivial⟩ (x_cv (As := [jI 32]) (st := []) c45_3 (cls Hs) kl34 rfl (Nat.le_of_ble_eq_true rfl) mx34 (Nat.le_refl _) H))))
theorem s45_6 {kc : List va_E} {d : Nat} {s : Nat} {M : fx_M} {Q : Option fx_V → fx_M → Prop} (Hs : fx_scn s) (H : wc kc d 20 [jR s, jR 1000005] M (fun v M1 => wp kc (d + 1) 45 13 [some (jR s)] (v.toList ++ [jR s]) M1 Q)) : wp kc (d + 1) 45 6 [some (jR s)] [] M Q :=
  (x_aldn c45_6 rfl (x_aldn c45_7 rfl (x_cr c45_8 (wp_wk (l' := [some (jR s)]) ⟨rfl, trivial⟩ (x_cv (As := [jR 1000005]) (st := [jR s]) c45_10 (cls Hs) kl20 rfl (Nat.le_of_ble_eq_true rfl) mx20 (Nat.le_refl _) H)))))
theorem s45_13 {kc : List va_E} {d : Nat} {s : Nat} {u0 : Int} {M : fx_M} {Q : Option fx_V → fx_M → Prop} (Hs : fx_scn s) (H : wc kc d 46 [jI u0] (fx_up (fx_up M s 11 u0) s 12 0) (fun v M1 => wp kc (d + 1) 45 28 [some (jR s)] (v.toList ++ []) M1 Q)) : wp kc (d + 1) 45 13 [some (jR s)] [jI u0, jR s] M Q :=
  (x_pfi c45_13 (ks_11 Hs) (x_aldn c45_16 rfl (x_ci c45_17 (x_pfi c45_18 (ks_12 Hs) (x_aldn c45_21 rfl (x_gfi c45_22 (ks_11 Hs) (wp_vI (((fx_upK (by decide)).trans (fx_upS))) (wp_wk (l' := [some (jR s)]) ⟨rfl, trivial⟩ (x_cs (As := [jI u0]) (st := []) c45_25 (by decide) rfl (Nat.le_of_ble_eq_true rfl) mx46 (Nat.le_refl _) H)))))))))
theorem s45_28 {kc : List va_E} {d : Nat} {s : Nat} {u0 : Int} {M : fx_M} {Q : Option fx_V → fx_M → Prop} (Hs : fx_scn s) (H : ((fx_in32 u0)) ∧ (u0 = 0 → Q none M) ∧ (u0 ≠ 0 → wc kc d 34 [jR s, jI 32] M (fun v M1 => wp kc (d + 1) 45 37 [some (jR s)] (v.toList ++ []) M1 Q))) : wp kc (d + 1) 45 28 [some (jR s)] [jI u0] M Q :=
  (x_zeq c45_28 H.1 (fun h1 => (x_vr c45_46 r45 (H.2.1 h1))) (fun h2 => (x_aldn c45_31 rfl (x_ci c45_32 (wp_wk (l' := [some (jR s)]) ⟨rfl, trivial⟩ (x_cv (As := [jI 32]) (st := []) c45_34 (cls Hs) kl34 rfl (Nat.le_of_ble_eq_true rfl) mx34 (Nat.le_refl _) (H.2.2 h2)))))))
theorem s45_37 {kc : List va_E} {d : Nat} {s : Nat} {M : fx_M} {Q : Option fx_V → fx_M → Prop} (Hs : fx_scn s) (H : wc kc d 35 [jR s, jI 3] M (fun v M1 => wp kc (d + 1) 45 43 [none] (v.toList ++ [jR s]) M1 Q)) : wp kc (d + 1) 45 37 [some (jR s)] [] M Q :=
  (x_aldn c45_37 rfl (x_aldn c45_38 rfl (x_ci c45_39 (wp_wk (l' := [none]) trivial (x_cv (As := [jI 3]) (st := [jR s]) c45_40 (cls Hs) kl35 rfl (Nat.le_of_ble_eq_true rfl) mx35 (Nat.le_refl _) H)))))
theorem s45_43 {kc : List va_E} {d : Nat} {s : Nat} {u0 : Int} {M : fx_M} {Q : Option fx_V → fx_M → Prop} (Hs : fx_scn s) (H : Q none (fx_up M s 12 u0)) : wp kc (d + 1) 45 43 [none] [jI u0, jR s] M Q :=
  (x_pfi c45_43 (ks_12 Hs) (x_vr c45_46 r45 H))
theorem s45 {kc : List va_E} {d : Nat} {s : Nat} {M : fx_M} {Q : Option fx_V → fx_M → Prop} (Hs : fx_scn s) (H : wc kc d 34 [jR s, jI 32] M (fun v M1 => wp kc (d + 1) 45 6 [some (jR s)] (v.toList ++ []) M1 Q)) : wc kc (d + 1) 45 [jR s] M Q :=
  wc_of (wp_wk (l' := [some (jR s)]) ⟨rfl, trivial⟩ (s45_0 Hs H))

/- PuzzleHouse$Scan.ruleCells()V -/
theorem c47_0 : fx_op 47 0 = some (.aload_n 0, 1, 0) := by decide +kernel
theorem c47_1 : fx_ci 47 1 = some (0, 2) := by decide +kernel
theorem c47_2 : fx_pf 47 2 = some (2, 14, 0, 5) := by decide +kernel
theorem c47_5 : fx_op 47 5 = some (.aload_n 0, 6, 5) := by decide +kernel
theorem c47_6 : fx_gf 47 6 = some (2, 1, 9) := by decide +kernel
theorem c47_9 : fx_op 47 9 = some (.istore_n 1, 10, 9) := by decide +kernel
theorem c47_10 : fx_op 47 10 = some (.iload_n 1, 11, 10) := by decide +kernel
theorem c47_11 : fx_op 47 11 = some (.aload_n 0, 12, 11) := by decide +kernel
theorem c47_12 : fx_gf 47 12 = some (2, 2, 15) := by decide +kernel
theorem c47_15 : fx_op 47 15 = some (.if_icmp .gt 76, 18, 91) := by decide +kernel
theorem c47_18 : fx_op 47 18 = some (.aload_n 0, 19, 18) := by decide +kernel
theorem c47_19 : fx_gf 47 19 = some (2, 3, 22) := by decide +kernel
theorem c47_22 : fx_op 47 22 = some (.ifCond .ne 69, 25, 91) := by decide +kernel
theorem c47_25 : fx_op 47 25 = some (.aload_n 0, 26, 25) := by decide +kernel
theorem c47_26 : fx_gf 47 26 = some (2, 14, 29) := by decide +kernel
theorem c47_29 : fx_op 47 29 = some (.ifCond .eq 12, 32, 41) := by decide +kernel
theorem c47_41 : fx_op 47 41 = some (.aload_n 0, 42, 41) := by decide +kernel
theorem c47_42 : fx_ci 47 42 = some (32, 44) := by decide +kernel
theorem c47_32 : fx_op 47 32 = some (.aload_n 0, 33, 32) := by decide +kernel
theorem c47_33 : fx_ci 47 33 = some (32, 35) := by decide +kernel
theorem c47_91 : fx_op 47 91 = some (.return_, 92, 91) := by decide +kernel
theorem c47_44 : fx_ca 47 44 = some (34, 2, 2, 47) := by decide +kernel
theorem c47_35 : fx_ca 47 35 = some (38, 2, 2, 38) := by decide +kernel
theorem c47_47 : fx_op 47 47 = some (.aload_n 0, 48, 47) := by decide +kernel
theorem c47_48 : fx_ci 47 48 = some (3, 49) := by decide +kernel
theorem c47_49 : fx_ca 47 49 = some (35, 2, 2, 52) := by decide +kernel
theorem c47_38 : fx_op 47 38 = some (.ifCond .eq 53, 41, 91) := by decide +kernel
theorem c47_52 : fx_op 47 52 = some (.istore_n 2, 53, 52) := by decide +kernel
theorem c47_53 : fx_op 47 53 = some (.aload_n 0, 54, 53) := by decide +kernel
theorem c47_54 : fx_gf 47 54 = some (2, 14, 57) := by decide +kernel
theorem c47_57 : fx_op 47 57 = some (.aload_n 0, 58, 57) := by decide +kernel
theorem c47_58 : fx_gf 47 58 = some (2, 13, 61) := by decide +kernel
theorem c47_61 : fx_op 47 61 = some (.arraylength, 62, 61) := by decide +kernel
theorem c47_62 : fx_op 47 62 = some (.if_icmp .ge 13, 65, 75) := by decide +kernel
theorem c47_65 : fx_op 47 65 = some (.aload_n 0, 66, 65) := by decide +kernel
theorem c47_66 : fx_gf 47 66 = some (2, 13, 69) := by decide +kernel
theorem c47_69 : fx_op 47 69 = some (.aload_n 0, 70, 69) := by decide +kernel
theorem c47_70 : fx_gf 47 70 = some (2, 14, 73) := by decide +kernel
theorem c47_73 : fx_op 47 73 = some (.iload_n 2, 74, 73) := by decide +kernel
theorem c47_75 : fx_op 47 75 = some (.aload_n 0, 76, 75) := by decide +kernel
theorem c47_76 : fx_op 47 76 = some (.dup, 77, 76) := by decide +kernel
theorem c47_77 : fx_gf 47 77 = some (2, 14, 80) := by decide +kernel
theorem c47_80 : fx_ci 47 80 = some (1, 81) := by decide +kernel
theorem c47_81 : fx_op 47 81 = some (.iadd, 82, 81) := by decide +kernel
theorem c47_82 : fx_pf 47 82 = some (2, 14, 0, 85) := by decide +kernel
theorem c47_85 : fx_op 47 85 = some (.iinc 1 1, 88, 85) := by decide +kernel
theorem c47_88 : fx_op 47 88 = some (.goto (-78), 91, 10) := by decide +kernel
theorem c47_74 : fx_op 47 74 = some (.iastore, 75, 74) := by decide +kernel
theorem s47_0 {kc : List va_E} {d : Nat} {s : Nat} {M : fx_M} {Q : Option fx_V → fx_M → Prop} (Hs : fx_scn s) (H : wp kc (d + 1) 47 10 [some (jR s), some (jI (M s 1)), none] [] (fx_up M s 14 0) Q) : wp kc (d + 1) 47 0 [some (jR s), none, none] [] M Q :=
  (x_aldn c47_0 rfl (x_ci c47_1 (x_pfi c47_2 (ks_14 Hs) (x_aldn c47_5 rfl (x_gfi c47_6 (ks_1 Hs) (wp_vI (fx_upK (by decide)) (x_istn (l' := [some (jR s), some (jI (M s 1)), none]) c47_9 rfl (wp_wk (l' := [some (jR s), some (jI (M s 1)), none]) ⟨rfl, ⟨rfl, trivial⟩⟩ H))))))))
theorem s47_10 {kc : List va_E} {d : Nat} {s : Nat} {v1 : Int} {M : fx_M} {Q : Option fx_V → fx_M → Prop} (Hs : fx_scn s) (H : ((fx_in32 v1) ∧ (fx_in32 (M s 2))) ∧ (M s 2 < v1 → Q none M) ∧ (v1 ≤ M s 2 → ((fx_in32 (M s 3))) ∧ (M s 3 ≠ 0 → Q none M) ∧ (M s 3 = 0 → ((fx_in32 (M s 14))) ∧ (M s 14 = 0 → wc kc d 34 [jR s, jI 32] M (fun v M1 => wp kc (d + 1) 47 47 [some (jR s), some (jI v1), none] (v.toList ++ []) M1 Q)) ∧ (M s 14 ≠ 0 → wc kc d 38 [jR s, jI 32] M (fun v M1 => wp kc (d + 1) 47 38 [some (jR s), some (jI v1), none] (v.toList ++ []) M1 Q))))) : wp kc (d + 1) 47 10 [some (jR s), some (jI v1), none] [] M Q :=
  (x_ildn c47_10 rfl (x_aldn c47_11 rfl (x_gfi c47_12 (ks_2 Hs) (x_cgt c47_15 H.1.1 H.1.2 (fun h5 => (x_vr c47_91 r47 (H.2.1 h5))) (fun h6 => (x_aldn c47_18 rfl (x_gfi c47_19 (ks_3 Hs) (x_zne c47_22 (H.2.2 h6).1 (fun h3 => (x_vr c47_91 r47 ((H.2.2 h6).2.1 h3))) (fun h4 => (x_aldn c47_25 rfl (x_gfi c47_26 (ks_14 Hs) (x_zeq c47_29 ((H.2.2 h6).2.2 h4).1 (fun h1 => (x_aldn c47_41 rfl (x_ci c47_42 (wp_wk (l' := [some (jR s), some (jI v1), none]) ⟨rfl, ⟨rfl, trivial⟩⟩ (x_cv (As := [jI 32]) (st := []) c47_44 (cls Hs) kl34 rfl (Nat.le_of_ble_eq_true rfl) mx34 (Nat.le_refl _) (((H.2.2 h6).2.2 h4).2.1 h1)))))) (fun h2 => (x_aldn c47_32 rfl (x_ci c47_33 (wp_wk (l' := [some (jR s), some (jI v1), none]) ⟨rfl, ⟨rfl, trivial⟩⟩ (x_cv (As := [jI 32]) (st := []) c47_35 (cls Hs) kl38 rfl (Nat.le_of_ble_eq_true rfl) mx38 (Nat.le_refl _) (((H.2.2 h6).2.2 h4).2.2 h2))))))))))))))))))
theorem s47_38 {kc : List va_E} {d : Nat} {s : Nat} {v1 u0 : Int} {M : fx_M} {Q : Option fx_V → fx_M → Prop} (Hs : fx_scn s) (H : ((fx_in32 u0)) ∧ (u0 = 0 → Q none M) ∧ (u0 ≠ 0 → wc kc d 34 [jR s, jI 32] M (fun v M1 => wp kc (d + 1) 47 47 [some (jR s), some (jI v1), none] (v.toList ++ []) M1 Q))) : wp kc (d + 1) 47 38 [some (jR s), some (jI v1), none] [jI u0] M Q :=
  (x_zeq c47_38 H.1 (fun h1 => (x_vr c47_91 r47 (H.2.1 h1))) (fun h2 => (x_aldn c47_41 rfl (x_ci c47_42 (wp_wk (l' := [some (jR s), some (jI v1), none]) ⟨rfl, ⟨rfl, trivial⟩⟩ (x_cv (As := [jI 32]) (st := []) c47_44 (cls Hs) kl34 rfl (Nat.le_of_ble_eq_true rfl) mx34 (Nat.le_refl _) (H.2.2 h2)))))))
theorem s47_47 {kc : List va_E} {d : Nat} {s : Nat} {v1 : Int} {M : fx_M} {Q : Option fx_V → fx_M → Prop} (Hs : fx_scn s) (H : wc kc d 35 [jR s, jI 3] M (fun v M1 => wp kc (d + 1) 47 52 [some (jR s), some (jI v1), none] (v.toList ++ []) M1 Q)) : wp kc (d + 1) 47 47 [some (jR s), some (jI v1), none] [] M Q :=
  (x_aldn c47_47 rfl (x_ci c47_48 (wp_wk (l' := [some (jR s), some (jI v1), none]) ⟨rfl, ⟨rfl, trivial⟩⟩ (x_cv (As := [jI 3]) (st := []) c47_49 (cls Hs) kl35 rfl (Nat.le_of_ble_eq_true rfl) mx35 (Nat.le_refl _) H))))
theorem s47_52 {kc : List va_E} {d : Nat} {s : Nat} {v1 u0 : Int} {M : fx_M} {Q : Option fx_V → fx_M → Prop} (Hs : fx_scn s) (H : ((fx_in32 (M s 14))) ∧ (4 ≤ M s 14 → wp kc (d + 1) 47 10 [some (jR s), some (jI (v1 + 1)), none] [] (fx_up M s 14 ((M s 14) + 1)) Q) ∧ (M s 14 < 4 → (((0 : Int) ≤ M s 14 ∧ M s 14 < 4)) ∧ wp kc (d + 1) 47 10 [some (jR s), some (jI (v1 + 1)), none] [] (fx_up (fx_up M (s + 3) (M s 14) u0) s 14 ((M s 14) + 1)) Q)) : wp kc (d + 1) 47 52 [some (jR s), some (jI v1), none] [jI u0] M Q :=
  (x_istn (l' := [some (jR s), some (jI v1), some (jI u0)]) c47_52 rfl (x_aldn c47_53 rfl (x_gfi c47_54 (ks_14 Hs) (x_aldn c47_57 rfl (x_gfr c47_58 (ks_13 Hs) (x_len c47_61 (as_3 Hs) (x_cge c47_62 H.1 (by decide) (fun h1 => (x_aldn c47_75 rfl (x_dupr c47_76 (x_gfi c47_77 (ks_14 Hs) (x_ci c47_80 (x_iadd c47_81 (x_pfi c47_82 (ks_14 Hs) (x_inc (l' := [some (jR s), some (jI (v1 + 1)), some (jI u0)]) c47_85 rfl rfl (x_goto c47_88 (wp_wk (l' := [some (jR s), some (jI (v1 + 1)), none]) ⟨rfl, ⟨rfl, trivial⟩⟩ (H.2.1 h1))))))))))) (fun h2 => (x_aldn c47_65 rfl (x_gfr c47_66 (ks_13 Hs) (x_aldn c47_69 rfl (x_gfi c47_70 (ks_14 Hs) (x_ildn c47_73 rfl (x_iast c47_74 (as_3 Hs) (H.2.2 h2).1 (by decide) (x_aldn c47_75 rfl (x_dupr c47_76 (x_gfi c47_77 (ks_14 Hs) (wp_vI (fx_upA (by omega)) (x_ci c47_80 (x_iadd c47_81 (x_pfi c47_82 (ks_14 Hs) (x_inc (l' := [some (jR s), some (jI (v1 + 1)), some (jI u0)]) c47_85 rfl rfl (x_goto c47_88 (wp_wk (l' := [some (jR s), some (jI (v1 + 1)), none]) ⟨rfl, ⟨rfl, trivial⟩⟩ (H.2.2 h2).2))))))))))))))))))))))))
theorem s47 {kc : List va_E} {d : Nat} {s : Nat} {M : fx_M} {Q : Option fx_V → fx_M → Prop} (Hs : fx_scn s) (H : wp kc (d + 1) 47 10 [some (jR s), some (jI (M s 1)), none] [] (fx_up M s 14 0) Q) : wc kc (d + 1) 47 [jR s] M Q :=
  wc_of (wp_wk (l' := [some (jR s), none, none]) ⟨rfl, trivial⟩ (s47_0 Hs H))

/- PuzzleHouse$Scan.side()V -/
theorem c48_0 : fx_op 48 0 = some (.aload_n 0, 1, 0) := by decide +kernel
theorem c48_1 : fx_ci 48 1 = some (32, 3) := by decide +kernel
theorem c48_3 : fx_ca 48 3 = some (34, 2, 2, 6) := by decide +kernel
theorem c48_6 : fx_op 48 6 = some (.aload_n 0, 7, 6) := by decide +kernel
theorem c48_7 : fx_op 48 7 = some (.aload_n 0, 8, 7) := by decide +kernel
theorem c48_8 : fx_cr 48 8 = some (1000007, 10) := by decide +kernel
theorem c48_10 : fx_ca 48 10 = some (20, 2, 2, 13) := by decide +kernel
theorem c48_13 : fx_pf 48 13 = some (2, 10, 0, 16) := by decide +kernel
theorem c48_16 : fx_op 48 16 = some (.return_, 17, 16) := by decide +kernel
theorem s48_0 {kc : List va_E} {d : Nat} {s : Nat} {M : fx_M} {Q : Option fx_V → fx_M → Prop} (Hs : fx_scn s) (H : wc kc d 34 [jR s, jI 32] M (fun v M1 => wp kc (d + 1) 48 6 [some (jR s)] (v.toList ++ []) M1 Q)) : wp kc (d + 1) 48 0 [some (jR s)] [] M Q :=
  (x_aldn c48_0 rfl (x_ci c48_1 (wp_wk (l' := [some (jR s)]) ⟨rfl, trivial⟩ (x_cv (As := [jI 32]) (st := []) c48_3 (cls Hs) kl34 rfl (Nat.le_of_ble_eq_true rfl) mx34 (Nat.le_refl _) H))))
theorem s48_6 {kc : List va_E} {d : Nat} {s : Nat} {M : fx_M} {Q : Option fx_V → fx_M → Prop} (Hs : fx_scn s) (H : wc kc d 20 [jR s, jR 1000007] M (fun v M1 => wp kc (d + 1) 48 13 [none] (v.toList ++ [jR s]) M1 Q)) : wp kc (d + 1) 48 6 [some (jR s)] [] M Q :=
  (x_aldn c48_6 rfl (x_aldn c48_7 rfl (x_cr c48_8 (wp_wk (l' := [none]) trivial (x_cv (As := [jR 1000007]) (st := [jR s]) c48_10 (cls Hs) kl20 rfl (Nat.le_of_ble_eq_true rfl) mx20 (Nat.le_refl _) H)))))
theorem s48_13 {kc : List va_E} {d : Nat} {s : Nat} {u0 : Int} {M : fx_M} {Q : Option fx_V → fx_M → Prop} (Hs : fx_scn s) (H : Q none (fx_up M s 10 u0)) : wp kc (d + 1) 48 13 [none] [jI u0, jR s] M Q :=
  (x_pfi c48_13 (ks_10 Hs) (x_vr c48_16 r48 H))
theorem s48 {kc : List va_E} {d : Nat} {s : Nat} {M : fx_M} {Q : Option fx_V → fx_M → Prop} (Hs : fx_scn s) (H : wc kc d 34 [jR s, jI 32] M (fun v M1 => wp kc (d + 1) 48 6 [some (jR s)] (v.toList ++ []) M1 Q)) : wc kc (d + 1) 48 [jR s] M Q :=
  wc_of (wp_wk (l' := [some (jR s)]) ⟨rfl, trivial⟩ (s48_0 Hs H))

/- PuzzleHouse$Scan.text(LPuzzleHouse$Puzzle;)V -/
theorem c49_0 : fx_op 49 0 = some (.aload_n 0, 1, 0) := by decide +kernel
theorem c49_1 : fx_cr 49 1 = some (1000009, 3) := by decide +kernel
theorem c49_3 : fx_ca 49 3 = some (20, 2, 2, 6) := by decide +kernel
theorem c49_6 : fx_op 49 6 = some (.pop, 7, 6) := by decide +kernel
theorem c49_7 : fx_ci 49 7 = some (0, 8) := by decide +kernel
theorem c49_8 : fx_op 49 8 = some (.istore_n 2, 9, 8) := by decide +kernel
theorem c49_9 : fx_op 49 9 = some (.iload_n 2, 10, 9) := by decide +kernel
theorem c49_10 : fx_ci 49 10 = some (3, 11) := by decide +kernel
theorem c49_11 : fx_op 49 11 = some (.if_icmp .ge 26, 14, 37) := by decide +kernel
theorem c49_14 : fx_op 49 14 = some (.aload_n 0, 15, 14) := by decide +kernel
theorem c49_15 : fx_ci 49 15 = some (32, 17) := by decide +kernel
theorem c49_37 : fx_op 49 37 = some (.aload_n 0, 38, 37) := by decide +kernel
theorem c49_38 : fx_gf 49 38 = some (2, 3, 41) := by decide +kernel
theorem c49_41 : fx_op 49 41 = some (.ifCond .ne 39, 44, 80) := by decide +kernel
theorem c49_44 : fx_op 49 44 = some (.aload_n 0, 45, 44) := by decide +kernel
theorem c49_45 : fx_gf 49 45 = some (2, 4, 48) := by decide +kernel
theorem c49_80 : fx_op 49 80 = some (.aload_n 0, 81, 80) := by decide +kernel
theorem c49_81 : fx_gf 49 81 = some (2, 1, 84) := by decide +kernel
theorem c49_84 : fx_op 49 84 = some (.istore_n 2, 85, 84) := by decide +kernel
theorem c49_48 : fx_ca 49 48 = some (50, 1, 2, 51) := by decide +kernel
theorem c49_17 : fx_ca 49 17 = some (34, 2, 2, 20) := by decide +kernel
theorem c49_85 : fx_op 49 85 = some (.iload_n 2, 86, 85) := by decide +kernel
theorem c49_86 : fx_op 49 86 = some (.aload_n 0, 87, 86) := by decide +kernel
theorem c49_87 : fx_gf 49 87 = some (2, 2, 90) := by decide +kernel
theorem c49_90 : fx_op 49 90 = some (.if_icmp .gt 188, 93, 278) := by decide +kernel
theorem c49_93 : fx_op 49 93 = some (.aload_n 0, 94, 93) := by decide +kernel
theorem c49_94 : fx_ci 49 94 = some (59, 96) := by decide +kernel
theorem c49_278 : fx_op 49 278 = some (.return_, 279, 278) := by decide +kernel
theorem c49_96 : fx_ca 49 96 = some (38, 2, 2, 99) := by decide +kernel
theorem c49_51 : fx_op 49 51 = some (.ifCond .eq 29, 54, 80) := by decide +kernel
theorem c49_54 : fx_op 49 54 = some (.aload_n 0, 55, 54) := by decide +kernel
theorem c49_55 : fx_op 49 55 = some (.aload_n 1, 56, 55) := by decide +kernel
theorem c49_56 : fx_op 49 56 = some (.aload_n 0, 57, 56) := by decide +kernel
theorem c49_57 : fx_gf 49 57 = some (2, 13, 60) := by decide +kernel
theorem c49_60 : fx_ci 49 60 = some (0, 61) := by decide +kernel
theorem c49_61 : fx_op 49 61 = some (.iaload, 62, 61) := by decide +kernel
theorem c49_62 : fx_op 49 62 = some (.aload_n 0, 63, 62) := by decide +kernel
theorem c49_63 : fx_gf 49 63 = some (2, 13, 66) := by decide +kernel
theorem c49_66 : fx_ci 49 66 = some (1, 67) := by decide +kernel
theorem c49_67 : fx_op 49 67 = some (.iaload, 68, 67) := by decide +kernel
theorem c49_68 : fx_op 49 68 = some (.aload_n 0, 69, 68) := by decide +kernel
theorem c49_69 : fx_gf 49 69 = some (2, 13, 72) := by decide +kernel
theorem c49_72 : fx_ci 49 72 = some (2, 73) := by decide +kernel
theorem c49_73 : fx_op 49 73 = some (.iaload, 74, 73) := by decide +kernel
theorem c49_74 : fx_ca 49 74 = some (51, 4, 2, 77) := by decide +kernel
theorem c49_20 : fx_op 49 20 = some (.aload_n 0, 21, 20) := by decide +kernel
theorem c49_21 : fx_gf 49 21 = some (2, 13, 24) := by decide +kernel
theorem c49_24 : fx_op 49 24 = some (.iload_n 2, 25, 24) := by decide +kernel
theorem c49_25 : fx_op 49 25 = some (.aload_n 0, 26, 25) := by decide +kernel
theorem c49_26 : fx_ci 49 26 = some (1, 27) := by decide +kernel
theorem c49_27 : fx_ca 49 27 = some (35, 2, 2, 30) := by decide +kernel
theorem c49_99 : fx_op 49 99 = some (.ifCond .eq 179, 102, 278) := by decide +kernel
theorem c49_102 : fx_op 49 102 = some (.aload_n 0, 103, 102) := by decide +kernel
theorem c49_103 : fx_op 49 103 = some (.dup, 104, 103) := by decide +kernel
theorem c49_104 : fx_gf 49 104 = some (2, 1, 107) := by decide +kernel
theorem c49_107 : fx_ci 49 107 = some (1, 108) := by decide +kernel
theorem c49_108 : fx_op 49 108 = some (.iadd, 109, 108) := by decide +kernel
theorem c49_109 : fx_pf 49 109 = some (2, 1, 0, 112) := by decide +kernel
theorem c49_112 : fx_op 49 112 = some (.aload_n 0, 113, 112) := by decide +kernel
theorem c49_113 : fx_cr 49 113 = some (1000015, 115) := by decide +kernel
theorem c49_115 : fx_ca 49 115 = some (20, 2, 2, 118) := by decide +kernel
theorem c49_77 : fx_pf 49 77 = some (2, 4, 3, 80) := by decide +kernel
theorem c49_31 : fx_op 49 31 = some (.iinc 2 1, 34, 31) := by decide +kernel
theorem c49_30 : fx_op 49 30 = some (.iastore, 31, 30) := by decide +kernel
theorem c49_34 : fx_op 49 34 = some (.goto (-25), 37, 9) := by decide +kernel
theorem c49_118 : fx_op 49 118 = some (.istore_n 3, 119, 118) := by decide +kernel
theorem c49_119 : fx_op 49 119 = some (.iload_n 3, 120, 119) := by decide +kernel
theorem c49_120 : fx_op 49 120 = some (.ifCond .ne 14, 123, 134) := by decide +kernel
theorem c49_134 : fx_op 49 134 = some (.iload_n 3, 135, 134) := by decide +kernel
theorem c49_135 : fx_ci 49 135 = some (1, 136) := by decide +kernel
theorem c49_136 : fx_op 49 136 = some (.if_icmp .ne 14, 139, 150) := by decide +kernel
theorem c49_150 : fx_op 49 150 = some (.aload_n 0, 151, 150) := by decide +kernel
theorem c49_151 : fx_ci 49 151 = some (32, 153) := by decide +kernel
theorem c49_139 : fx_op 49 139 = some (.aload_n 0, 140, 139) := by decide +kernel
theorem c49_123 : fx_op 49 123 = some (.aload_n 0, 124, 123) := by decide +kernel
theorem c49_153 : fx_ca 49 153 = some (34, 2, 2, 156) := by decide +kernel
theorem c49_140 : fx_ca 49 140 = some (48, 1, 2, 143) := by decide +kernel
theorem c49_124 : fx_ca 49 124 = some (45, 1, 2, 127) := by decide +kernel
theorem c49_156 : fx_op 49 156 = some (.aload_n 0, 157, 156) := by decide +kernel
theorem c49_157 : fx_gf 49 157 = some (2, 13, 160) := by decide +kernel
theorem c49_160 : fx_ci 49 160 = some (0, 161) := by decide +kernel
theorem c49_161 : fx_op 49 161 = some (.aload_n 0, 162, 161) := by decide +kernel
theorem c49_162 : fx_ci 49 162 = some (3, 163) := by decide +kernel
theorem c49_163 : fx_ca 49 163 = some (35, 2, 2, 166) := by decide +kernel
theorem c49_143 : fx_op 49 143 = some (.aload_n 0, 144, 143) := by decide +kernel
theorem c49_144 : fx_ca 49 144 = some (45, 1, 2, 147) := by decide +kernel
theorem c49_127 : fx_op 49 127 = some (.aload_n 0, 128, 127) := by decide +kernel
theorem c49_128 : fx_ca 49 128 = some (47, 1, 2, 131) := by decide +kernel
theorem c49_167 : fx_op 49 167 = some (.aload_n 0, 168, 167) := by decide +kernel
theorem c49_168 : fx_ci 49 168 = some (32, 170) := by decide +kernel
theorem c49_166 : fx_op 49 166 = some (.iastore, 167, 166) := by decide +kernel
theorem c49_170 : fx_ca 49 170 = some (34, 2, 2, 173) := by decide +kernel
theorem c49_184 : fx_op 49 184 = some (.aload_n 0, 185, 184) := by decide +kernel
theorem c49_185 : fx_gf 49 185 = some (2, 3, 188) := by decide +kernel
theorem c49_188 : fx_op 49 188 = some (.ifCond .ne 84, 191, 272) := by decide +kernel
theorem c49_191 : fx_op 49 191 = some (.aload_n 0, 192, 191) := by decide +kernel
theorem c49_192 : fx_gf 49 192 = some (2, 4, 195) := by decide +kernel
theorem c49_272 : fx_op 49 272 = some (.iinc 2 1, 275, 272) := by decide +kernel
theorem c49_147 : fx_op 49 147 = some (.goto 37, 150, 184) := by decide +kernel
theorem c49_275 : fx_op 49 275 = some (.goto (-190), 278, 85) := by decide +kernel
theorem c49_195 : fx_ca 49 195 = some (50, 1, 2, 198) := by decide +kernel
theorem c49_131 : fx_op 49 131 = some (.goto 53, 134, 184) := by decide +kernel
theorem c49_173 : fx_op 49 173 = some (.aload_n 0, 174, 173) := by decide +kernel
theorem c49_174 : fx_gf 49 174 = some (2, 13, 177) := by decide +kernel
theorem c49_177 : fx_ci 49 177 = some (1, 178) := by decide +kernel
theorem c49_178 : fx_op 49 178 = some (.aload_n 0, 179, 178) := by decide +kernel
theorem c49_179 : fx_ci 49 179 = some (1, 180) := by decide +kernel
theorem c49_180 : fx_ca 49 180 = some (35, 2, 2, 183) := by decide +kernel
theorem c49_198 : fx_op 49 198 = some (.ifCond .eq 74, 201, 272) := by decide +kernel
theorem c49_201 : fx_op 49 201 = some (.aload_n 0, 202, 201) := by decide +kernel
theorem c49_202 : fx_op 49 202 = some (.iload_n 3, 203, 202) := by decide +kernel
theorem c49_203 : fx_op 49 203 = some (.ifCond .ne 26, 206, 229) := by decide +kernel
theorem c49_229 : fx_op 49 229 = some (.iload_n 3, 230, 229) := by decide +kernel
theorem c49_230 : fx_ci 49 230 = some (1, 231) := by decide +kernel
theorem c49_231 : fx_op 49 231 = some (.if_icmp .ne 22, 234, 253) := by decide +kernel
theorem c49_253 : fx_op 49 253 = some (.aload_n 1, 254, 253) := by decide +kernel
theorem c49_254 : fx_op 49 254 = some (.aload_n 0, 255, 254) := by decide +kernel
theorem c49_255 : fx_gf 49 255 = some (2, 13, 258) := by decide +kernel
theorem c49_258 : fx_ci 49 258 = some (0, 259) := by decide +kernel
theorem c49_259 : fx_op 49 259 = some (.iaload, 260, 259) := by decide +kernel
theorem c49_260 : fx_op 49 260 = some (.aload_n 0, 261, 260) := by decide +kernel
theorem c49_261 : fx_gf 49 261 = some (2, 13, 264) := by decide +kernel
theorem c49_264 : fx_ci 49 264 = some (1, 265) := by decide +kernel
theorem c49_265 : fx_op 49 265 = some (.iaload, 266, 265) := by decide +kernel
theorem c49_234 : fx_op 49 234 = some (.aload_n 1, 235, 234) := by decide +kernel
theorem c49_235 : fx_op 49 235 = some (.aload_n 0, 236, 235) := by decide +kernel
theorem c49_236 : fx_gf 49 236 = some (2, 10, 239) := by decide +kernel
theorem c49_239 : fx_op 49 239 = some (.aload_n 0, 240, 239) := by decide +kernel
theorem c49_240 : fx_gf 49 240 = some (2, 11, 243) := by decide +kernel
theorem c49_243 : fx_op 49 243 = some (.aload_n 0, 244, 243) := by decide +kernel
theorem c49_244 : fx_gf 49 244 = some (2, 12, 247) := by decide +kernel
theorem c49_206 : fx_op 49 206 = some (.aload_n 1, 207, 206) := by decide +kernel
theorem c49_207 : fx_op 49 207 = some (.aload_n 0, 208, 207) := by decide +kernel
theorem c49_208 : fx_gf 49 208 = some (2, 11, 211) := by decide +kernel
theorem c49_211 : fx_op 49 211 = some (.aload_n 0, 212, 211) := by decide +kernel
theorem c49_212 : fx_gf 49 212 = some (2, 12, 215) := by decide +kernel
theorem c49_215 : fx_op 49 215 = some (.aload_n 0, 216, 215) := by decide +kernel
theorem c49_216 : fx_gf 49 216 = some (2, 13, 219) := by decide +kernel
theorem c49_219 : fx_op 49 219 = some (.aload_n 0, 220, 219) := by decide +kernel
theorem c49_220 : fx_gf 49 220 = some (2, 14, 223) := by decide +kernel
theorem c49_266 : fx_ca 49 266 = some (57, 3, 2, 269) := by decide +kernel
theorem c49_247 : fx_ca 49 247 = some (55, 4, 2, 250) := by decide +kernel
theorem c49_223 : fx_ca 49 223 = some (52, 5, 2, 226) := by decide +kernel
theorem c49_183 : fx_op 49 183 = some (.iastore, 184, 183) := by decide +kernel
theorem c49_269 : fx_pf 49 269 = some (2, 4, 3, 272) := by decide +kernel
theorem c49_250 : fx_op 49 250 = some (.goto 19, 253, 269) := by decide +kernel
theorem c49_226 : fx_op 49 226 = some (.goto 43, 229, 269) := by decide +kernel
theorem s49_0 {kc : List va_E} {d : Nat} {s p : Nat} {M : fx_M} {Q : Option fx_V → fx_M → Prop} (Hs : fx_scn s) (Hp : fx_puz p) (H : wc kc d 20 [jR s, jR 1000009] M (fun v M1 => wp kc (d + 1) 49 6 [some (jR s), some (jR p), none, none] (v.toList ++ []) M1 Q)) : wp kc (d + 1) 49 0 [some (jR s), some (jR p), none, none] [] M Q :=
  (x_aldn c49_0 rfl (x_cr c49_1 (wp_wk (l' := [some (jR s), some (jR p), none, none]) ⟨rfl, ⟨rfl, trivial⟩⟩ (x_cv (As := [jR 1000009]) (st := []) c49_3 (cls Hs) kl20 rfl (Nat.le_of_ble_eq_true rfl) mx20 (Nat.le_refl _) H))))
theorem s49_6 {kc : List va_E} {d : Nat} {s p : Nat} {u0 : Int} {M : fx_M} {Q : Option fx_V → fx_M → Prop} (Hs : fx_scn s) (Hp : fx_puz p) (H : wp kc (d + 1) 49 9 [some (jR s), some (jR p), some (jI 0), none] [] M Q) : wp kc (d + 1) 49 6 [some (jR s), some (jR p), none, none] [jI u0] M Q :=
  (x_popi c49_6 (x_ci c49_7 (x_istn (l' := [some (jR s), some (jR p), some (jI 0), none]) c49_8 rfl (wp_wk (l' := [some (jR s), some (jR p), some (jI 0), none]) ⟨rfl, ⟨rfl, ⟨rfl, trivial⟩⟩⟩ H))))
theorem s49_9 {kc : List va_E} {d : Nat} {s p : Nat} {v2 : Int} {M : fx_M} {Q : Option fx_V → fx_M → Prop} (Hs : fx_scn s) (Hp : fx_puz p) (H : ((fx_in32 v2)) ∧ (3 ≤ v2 → ((fx_in32 (M s 3))) ∧ (M s 3 ≠ 0 → wp kc (d + 1) 49 85 [some (jR s), some (jR p), some (jI (M s 1)), none] [] M Q) ∧ (M s 3 = 0 → fx_lit kc ((M s 4).toNat) ∧ wc kc d 50 [jR ((M s 4).toNat)] M (fun v M1 => wp kc (d + 1) 49 51 [some (jR s), some (jR p), none, none] (v.toList ++ []) M1 Q))) ∧ (v2 < 3 → wc kc d 34 [jR s, jI 32] M (fun v M1 => wp kc (d + 1) 49 20 [some (jR s), some (jR p), some (jI v2), none] (v.toList ++ []) M1 Q))) : wp kc (d + 1) 49 9 [some (jR s), some (jR p), some (jI v2), none] [] M Q :=
  (x_ildn c49_9 rfl (x_ci c49_10 (x_cge c49_11 H.1 (by decide) (fun h3 => (x_aldn c49_37 rfl (x_gfi c49_38 (ks_3 Hs) (x_zne c49_41 (H.2.1 h3).1 (fun h1 => (x_aldn c49_80 rfl (x_gfi c49_81 (ks_1 Hs) (x_istn (l' := [some (jR s), some (jR p), some (jI (M s 1)), none]) c49_84 rfl (wp_wk (l' := [some (jR s), some (jR p), some (jI (M s 1)), none]) ⟨rfl, ⟨rfl, ⟨rfl, trivial⟩⟩⟩ ((H.2.1 h3).2.1 h1)))))) (fun h2 => (x_aldn c49_44 rfl (x_gfd c49_45 (ks_4 Hs) (wp_wk (l' := [some (jR s), some (jR p), none, none]) ⟨rfl, ⟨rfl, trivial⟩⟩ (x_cl (b := (M s 4).toNat) (As := []) (st := []) c49_48 kl50 ((H.2.1 h3).2.2 h2).1 rfl (Nat.le_of_ble_eq_true rfl) mx50 (Nat.le_refl _) ((H.2.1 h3).2.2 h2).2))))))))) (fun h4 => (x_aldn c49_14 rfl (x_ci c49_15 (wp_wk (l' := [some (jR s), some (jR p), some (jI v2), none]) ⟨rfl, ⟨rfl, ⟨rfl, trivial⟩⟩⟩ (x_cv (As := [jI 32]) (st := []) c49_17 (cls Hs) kl34 rfl (Nat.le_of_ble_eq_true rfl) mx34 (Nat.le_refl _) (H.2.2 h4)))))))))
theorem s49_20 {kc : List va_E} {d : Nat} {s p : Nat} {v2 : Int} {M : fx_M} {Q : Option fx_V → fx_M → Prop} (Hs : fx_scn s) (Hp : fx_puz p) (H : wc kc d 35 [jR s, jI 1] M (fun v M1 => wp kc (d + 1) 49 30 [some (jR s), some (jR p), some (jI v2), none] (v.toList ++ [jI v2, jR (s + 3)]) M1 Q)) : wp kc (d + 1) 49 20 [some (jR s), some (jR p), some (jI v2), none] [] M Q :=
  (x_aldn c49_20 rfl (x_gfr c49_21 (ks_13 Hs) (x_ildn c49_24 rfl (x_aldn c49_25 rfl (x_ci c49_26 (wp_wk (l' := [some (jR s), some (jR p), some (jI v2), none]) ⟨rfl, ⟨rfl, ⟨rfl, trivial⟩⟩⟩ (x_cv (As := [jI 1]) (st := [jI v2, jR (s + 3)]) c49_27 (cls Hs) kl35 rfl (Nat.le_of_ble_eq_true rfl) mx35 (Nat.le_refl _) H)))))))
theorem s49_30 {kc : List va_E} {d : Nat} {s p : Nat} {v2 u0 u1 : Int} {M : fx_M} {Q : Option fx_V → fx_M → Prop} (Hs : fx_scn s) (Hp : fx_puz p) (H : (((0 : Int) ≤ u1 ∧ u1 < 4)) ∧ wp kc (d + 1) 49 9 [some (jR s), some (jR p), some (jI (v2 + 1)), none] [] (fx_up M (s + 3) u1 u0) Q) : wp kc (d + 1) 49 30 [some (jR s), some (jR p), some (jI v2), none] [jI u0, jI u1, jR (s + 3)] M Q :=
  (x_iast c49_30 (as_3 Hs) H.1 (by decide) (x_inc (l' := [some (jR s), some (jR p), some (jI (v2 + 1)), none]) c49_31 rfl rfl (x_goto c49_34 (wp_wk (l' := [some (jR s), some (jR p), some (jI (v2 + 1)), none]) ⟨rfl, ⟨rfl, ⟨rfl, trivial⟩⟩⟩ H.2))))
theorem s49_51 {kc : List va_E} {d : Nat} {s p : Nat} {u0 : Int} {M : fx_M} {Q : Option fx_V → fx_M → Prop} (Hs : fx_scn s) (Hp : fx_puz p) (H : ((fx_in32 u0)) ∧ (u0 = 0 → wp kc (d + 1) 49 85 [some (jR s), some (jR p), some (jI (M s 1)), none] [] M Q) ∧ (u0 ≠ 0 → wc kc d 51 [jR p, jI (M (s + 3) 0), jI (M (s + 3) 1), jI (M (s + 3) 2)] M (fun v M1 => wp kc (d + 1) 49 77 [some (jR s), some (jR p), none, none] (v.toList ++ [jR s]) M1 Q))) : wp kc (d + 1) 49 51 [some (jR s), some (jR p), none, none] [jI u0] M Q :=
  (x_zeq c49_51 H.1 (fun h1 => (x_aldn c49_80 rfl (x_gfi c49_81 (ks_1 Hs) (x_istn (l' := [some (jR s), some (jR p), some (jI (M s 1)), none]) c49_84 rfl (wp_wk (l' := [some (jR s), some (jR p), some (jI (M s 1)), none]) ⟨rfl, ⟨rfl, ⟨rfl, trivial⟩⟩⟩ (H.2.1 h1)))))) (fun h2 => (x_aldn c49_54 rfl (x_aldn c49_55 rfl (x_aldn c49_56 rfl (x_gfr c49_57 (ks_13 Hs) (x_ci c49_60 (x_iald c49_61 (as_3 Hs) (by decide) (by decide) (x_aldn c49_62 rfl (x_gfr c49_63 (ks_13 Hs) (x_ci c49_66 (x_iald c49_67 (as_3 Hs) (by decide) (by decide) (x_aldn c49_68 rfl (x_gfr c49_69 (ks_13 Hs) (x_ci c49_72 (x_iald c49_73 (as_3 Hs) (by decide) (by decide) (wp_wk (l' := [some (jR s), some (jR p), none, none]) ⟨rfl, ⟨rfl, trivial⟩⟩ (x_cv (As := [jI (M (s + 3) 0), jI (M (s + 3) 1), jI (M (s + 3) 2)]) (st := [jR s]) c49_74 (clp Hp) kl51 rfl (Nat.le_of_ble_eq_true rfl) mx51 (Nat.le_refl _) (H.2.2 h2)))))))))))))))))))
theorem s49_77 {kc : List va_E} {d : Nat} {s p u0 : Nat} {M : fx_M} {Q : Option fx_V → fx_M → Prop} (Hs : fx_scn s) (Hp : fx_puz p) (H : wp kc (d + 1) 49 85 [some (jR s), some (jR p), some (jI (M s 1)), none] [] (fx_up M s 4 ((u0 : Nat) : Int)) Q) : wp kc (d + 1) 49 77 [some (jR s), some (jR p), none, none] [jR u0, jR s] M Q :=
  (x_pfd c49_77 (ks_4 Hs) (x_aldn c49_80 rfl (x_gfi c49_81 (ks_1 Hs) (wp_vI (fx_upK (by decide)) (x_istn (l' := [some (jR s), some (jR p), some (jI (M s 1)), none]) c49_84 rfl (wp_wk (l' := [some (jR s), some (jR p), some (jI (M s 1)), none]) ⟨rfl, ⟨rfl, ⟨rfl, trivial⟩⟩⟩ H))))))
theorem s49_85 {kc : List va_E} {d : Nat} {s p : Nat} {v2 : Int} {M : fx_M} {Q : Option fx_V → fx_M → Prop} (Hs : fx_scn s) (Hp : fx_puz p) (H : ((fx_in32 v2) ∧ (fx_in32 (M s 2))) ∧ (M s 2 < v2 → Q none M) ∧ (v2 ≤ M s 2 → wc kc d 38 [jR s, jI 59] M (fun v M1 => wp kc (d + 1) 49 99 [some (jR s), some (jR p), some (jI v2), none] (v.toList ++ []) M1 Q))) : wp kc (d + 1) 49 85 [some (jR s), some (jR p), some (jI v2), none] [] M Q :=
  (x_ildn c49_85 rfl (x_aldn c49_86 rfl (x_gfi c49_87 (ks_2 Hs) (x_cgt c49_90 H.1.1 H.1.2 (fun h1 => (x_vr c49_278 r49 (H.2.1 h1))) (fun h2 => (x_aldn c49_93 rfl (x_ci c49_94 (wp_wk (l' := [some (jR s), some (jR p), some (jI v2), none]) ⟨rfl, ⟨rfl, ⟨rfl, trivial⟩⟩⟩ (x_cv (As := [jI 59]) (st := []) c49_96 (cls Hs) kl38 rfl (Nat.le_of_ble_eq_true rfl) mx38 (Nat.le_refl _) (H.2.2 h2))))))))))
theorem s49_99 {kc : List va_E} {d : Nat} {s p : Nat} {v2 u0 : Int} {M : fx_M} {Q : Option fx_V → fx_M → Prop} (Hs : fx_scn s) (Hp : fx_puz p) (H : ((fx_in32 u0)) ∧ (u0 = 0 → Q none M) ∧ (u0 ≠ 0 → wc kc d 20 [jR s, jR 1000015] (fx_up M s 1 ((M s 1) + 1)) (fun v M1 => wp kc (d + 1) 49 118 [some (jR s), some (jR p), some (jI v2), none] (v.toList ++ []) M1 Q))) : wp kc (d + 1) 49 99 [some (jR s), some (jR p), some (jI v2), none] [jI u0] M Q :=
  (x_zeq c49_99 H.1 (fun h1 => (x_vr c49_278 r49 (H.2.1 h1))) (fun h2 => (x_aldn c49_102 rfl (x_dupr c49_103 (x_gfi c49_104 (ks_1 Hs) (x_ci c49_107 (x_iadd c49_108 (x_pfi c49_109 (ks_1 Hs) (x_aldn c49_112 rfl (x_cr c49_113 (wp_wk (l' := [some (jR s), some (jR p), some (jI v2), none]) ⟨rfl, ⟨rfl, ⟨rfl, trivial⟩⟩⟩ (x_cv (As := [jR 1000015]) (st := []) c49_115 (cls Hs) kl20 rfl (Nat.le_of_ble_eq_true rfl) mx20 (Nat.le_refl _) (H.2.2 h2)))))))))))))
theorem s49_118 {kc : List va_E} {d : Nat} {s p : Nat} {v2 u0 : Int} {M : fx_M} {Q : Option fx_V → fx_M → Prop} (Hs : fx_scn s) (Hp : fx_puz p) (H : ((fx_in32 u0)) ∧ (u0 ≠ 0 → ((fx_in32 u0)) ∧ (u0 ≠ 1 → wc kc d 34 [jR s, jI 32] M (fun v M1 => wp kc (d + 1) 49 156 [some (jR s), some (jR p), some (jI v2), some (jI u0)] (v.toList ++ []) M1 Q)) ∧ (u0 = 1 → wc kc d 48 [jR s] M (fun v M1 => wp kc (d + 1) 49 143 [some (jR s), some (jR p), some (jI v2), some (jI u0)] (v.toList ++ []) M1 Q))) ∧ (u0 = 0 → wc kc d 45 [jR s] M (fun v M1 => wp kc (d + 1) 49 127 [some (jR s), some (jR p), some (jI v2), some (jI u0)] (v.toList ++ []) M1 Q))) : wp kc (d + 1) 49 118 [some (jR s), some (jR p), some (jI v2), none] [jI u0] M Q :=
  (x_istn (l' := [some (jR s), some (jR p), some (jI v2), some (jI u0)]) c49_118 rfl (x_ildn c49_119 rfl (x_zne c49_120 H.1 (fun h3 => (x_ildn c49_134 rfl (x_ci c49_135 (x_cne c49_136 (H.2.1 h3).1 (by decide) (fun h1 => (x_aldn c49_150 rfl (x_ci c49_151 (wp_wk (l' := [some (jR s), some (jR p), some (jI v2), some (jI u0)]) ⟨rfl, ⟨rfl, ⟨rfl, ⟨rfl, trivial⟩⟩⟩⟩ (x_cv (As := [jI 32]) (st := []) c49_153 (cls Hs) kl34 rfl (Nat.le_of_ble_eq_true rfl) mx34 (Nat.le_refl _) ((H.2.1 h3).2.1 h1)))))) (fun h2 => (x_aldn c49_139 rfl (wp_wk (l' := [some (jR s), some (jR p), some (jI v2), some (jI u0)]) ⟨rfl, ⟨rfl, ⟨rfl, ⟨rfl, trivial⟩⟩⟩⟩ (x_cv (As := []) (st := []) c49_140 (cls Hs) kl48 rfl (Nat.le_of_ble_eq_true rfl) mx48 (Nat.le_refl _) ((H.2.1 h3).2.2 h2))))))))) (fun h4 => (x_aldn c49_123 rfl (wp_wk (l' := [some (jR s), some (jR p), some (jI v2), some (jI u0)]) ⟨rfl, ⟨rfl, ⟨rfl, ⟨rfl, trivial⟩⟩⟩⟩ (x_cv (As := []) (st := []) c49_124 (cls Hs) kl45 rfl (Nat.le_of_ble_eq_true rfl) mx45 (Nat.le_refl _) (H.2.2 h4))))))))
theorem s49_127 {kc : List va_E} {d : Nat} {s p : Nat} {v2 v3 : Int} {M : fx_M} {Q : Option fx_V → fx_M → Prop} (Hs : fx_scn s) (Hp : fx_puz p) (H : wc kc d 47 [jR s] M (fun v M1 => wp kc (d + 1) 49 131 [some (jR s), some (jR p), some (jI v2), some (jI v3)] (v.toList ++ []) M1 Q)) : wp kc (d + 1) 49 127 [some (jR s), some (jR p), some (jI v2), some (jI v3)] [] M Q :=
  (x_aldn c49_127 rfl (wp_wk (l' := [some (jR s), some (jR p), some (jI v2), some (jI v3)]) ⟨rfl, ⟨rfl, ⟨rfl, ⟨rfl, trivial⟩⟩⟩⟩ (x_cv (As := []) (st := []) c49_128 (cls Hs) kl47 rfl (Nat.le_of_ble_eq_true rfl) mx47 (Nat.le_refl _) H)))
theorem s49_131 {kc : List va_E} {d : Nat} {s p : Nat} {v2 v3 : Int} {M : fx_M} {Q : Option fx_V → fx_M → Prop} (Hs : fx_scn s) (Hp : fx_puz p) (H : ((fx_in32 (M s 3))) ∧ (M s 3 ≠ 0 → wp kc (d + 1) 49 85 [some (jR s), some (jR p), some (jI (v2 + 1)), none] [] M Q) ∧ (M s 3 = 0 → fx_lit kc ((M s 4).toNat) ∧ wc kc d 50 [jR ((M s 4).toNat)] M (fun v M1 => wp kc (d + 1) 49 198 [some (jR s), some (jR p), some (jI v2), some (jI v3)] (v.toList ++ []) M1 Q))) : wp kc (d + 1) 49 131 [some (jR s), some (jR p), some (jI v2), some (jI v3)] [] M Q :=
  (x_goto c49_131 (x_aldn c49_184 rfl (x_gfi c49_185 (ks_3 Hs) (x_zne c49_188 H.1 (fun h1 => (x_inc (l' := [some (jR s), some (jR p), some (jI (v2 + 1)), some (jI v3)]) c49_272 rfl rfl (x_goto c49_275 (wp_wk (l' := [some (jR s), some (jR p), some (jI (v2 + 1)), none]) ⟨rfl, ⟨rfl, ⟨rfl, trivial⟩⟩⟩ (H.2.1 h1))))) (fun h2 => (x_aldn c49_191 rfl (x_gfd c49_192 (ks_4 Hs) (wp_wk (l' := [some (jR s), some (jR p), some (jI v2), some (jI v3)]) ⟨rfl, ⟨rfl, ⟨rfl, ⟨rfl, trivial⟩⟩⟩⟩ (x_cl (b := (M s 4).toNat) (As := []) (st := []) c49_195 kl50 (H.2.2 h2).1 rfl (Nat.le_of_ble_eq_true rfl) mx50 (Nat.le_refl _) (H.2.2 h2).2)))))))))
theorem s49_143 {kc : List va_E} {d : Nat} {s p : Nat} {v2 v3 : Int} {M : fx_M} {Q : Option fx_V → fx_M → Prop} (Hs : fx_scn s) (Hp : fx_puz p) (H : wc kc d 45 [jR s] M (fun v M1 => wp kc (d + 1) 49 147 [some (jR s), some (jR p), some (jI v2), some (jI v3)] (v.toList ++ []) M1 Q)) : wp kc (d + 1) 49 143 [some (jR s), some (jR p), some (jI v2), some (jI v3)] [] M Q :=
  (x_aldn c49_143 rfl (wp_wk (l' := [some (jR s), some (jR p), some (jI v2), some (jI v3)]) ⟨rfl, ⟨rfl, ⟨rfl, ⟨rfl, trivial⟩⟩⟩⟩ (x_cv (As := []) (st := []) c49_144 (cls Hs) kl45 rfl (Nat.le_of_ble_eq_true rfl) mx45 (Nat.le_refl _) H)))
theorem s49_147 {kc : List va_E} {d : Nat} {s p : Nat} {v2 v3 : Int} {M : fx_M} {Q : Option fx_V → fx_M → Prop} (Hs : fx_scn s) (Hp : fx_puz p) (H : ((fx_in32 (M s 3))) ∧ (M s 3 ≠ 0 → wp kc (d + 1) 49 85 [some (jR s), some (jR p), some (jI (v2 + 1)), none] [] M Q) ∧ (M s 3 = 0 → fx_lit kc ((M s 4).toNat) ∧ wc kc d 50 [jR ((M s 4).toNat)] M (fun v M1 => wp kc (d + 1) 49 198 [some (jR s), some (jR p), some (jI v2), some (jI v3)] (v.toList ++ []) M1 Q))) : wp kc (d + 1) 49 147 [some (jR s), some (jR p), some (jI v2), some (jI v3)] [] M Q :=
  (x_goto c49_147 (x_aldn c49_184 rfl (x_gfi c49_185 (ks_3 Hs) (x_zne c49_188 H.1 (fun h1 => (x_inc (l' := [some (jR s), some (jR p), some (jI (v2 + 1)), some (jI v3)]) c49_272 rfl rfl (x_goto c49_275 (wp_wk (l' := [some (jR s), some (jR p), some (jI (v2 + 1)), none]) ⟨rfl, ⟨rfl, ⟨rfl, trivial⟩⟩⟩ (H.2.1 h1))))) (fun h2 => (x_aldn c49_191 rfl (x_gfd c49_192 (ks_4 Hs) (wp_wk (l' := [some (jR s), some (jR p), some (jI v2), some (jI v3)]) ⟨rfl, ⟨rfl, ⟨rfl, ⟨rfl, trivial⟩⟩⟩⟩ (x_cl (b := (M s 4).toNat) (As := []) (st := []) c49_195 kl50 (H.2.2 h2).1 rfl (Nat.le_of_ble_eq_true rfl) mx50 (Nat.le_refl _) (H.2.2 h2).2)))))))))
theorem s49_156 {kc : List va_E} {d : Nat} {s p : Nat} {v2 v3 : Int} {M : fx_M} {Q : Option fx_V → fx_M → Prop} (Hs : fx_scn s) (Hp : fx_puz p) (H : wc kc d 35 [jR s, jI 3] M (fun v M1 => wp kc (d + 1) 49 166 [some (jR s), some (jR p), some (jI v2), some (jI v3)] (v.toList ++ [jI 0, jR (s + 3)]) M1 Q)) : wp kc (d + 1) 49 156 [some (jR s), some (jR p), some (jI v2), some (jI v3)] [] M Q :=
  (x_aldn c49_156 rfl (x_gfr c49_157 (ks_13 Hs) (x_ci c49_160 (x_aldn c49_161 rfl (x_ci c49_162 (wp_wk (l' := [some (jR s), some (jR p), some (jI v2), some (jI v3)]) ⟨rfl, ⟨rfl, ⟨rfl, ⟨rfl, trivial⟩⟩⟩⟩ (x_cv (As := [jI 3]) (st := [jI 0, jR (s + 3)]) c49_163 (cls Hs) kl35 rfl (Nat.le_of_ble_eq_true rfl) mx35 (Nat.le_refl _) H)))))))
theorem s49_166 {kc : List va_E} {d : Nat} {s p : Nat} {v2 v3 u0 u1 : Int} {M : fx_M} {Q : Option fx_V → fx_M → Prop} (Hs : fx_scn s) (Hp : fx_puz p) (H : (((0 : Int) ≤ u1 ∧ u1 < 4)) ∧ wc kc d 34 [jR s, jI 32] (fx_up M (s + 3) u1 u0) (fun v M1 => wp kc (d + 1) 49 173 [some (jR s), some (jR p), some (jI v2), some (jI v3)] (v.toList ++ []) M1 Q)) : wp kc (d + 1) 49 166 [some (jR s), some (jR p), some (jI v2), some (jI v3)] [jI u0, jI u1, jR (s + 3)] M Q :=
  (x_iast c49_166 (as_3 Hs) H.1 (by decide) (x_aldn c49_167 rfl (x_ci c49_168 (wp_wk (l' := [some (jR s), some (jR p), some (jI v2), some (jI v3)]) ⟨rfl, ⟨rfl, ⟨rfl, ⟨rfl, trivial⟩⟩⟩⟩ (x_cv (As := [jI 32]) (st := []) c49_170 (cls Hs) kl34 rfl (Nat.le_of_ble_eq_true rfl) mx34 (Nat.le_refl _) H.2)))))
theorem s49_173 {kc : List va_E} {d : Nat} {s p : Nat} {v2 v3 : Int} {M : fx_M} {Q : Option fx_V → fx_M → Prop} (Hs : fx_scn s) (Hp : fx_puz p) (H : wc kc d 35 [jR s, jI 1] M (fun v M1 => wp kc (d + 1) 49 183 [some (jR s), some (jR p), some (jI v2), some (jI v3)] (v.toList ++ [jI 1, jR (s + 3)]) M1 Q)) : wp kc (d + 1) 49 173 [some (jR s), some (jR p), some (jI v2), some (jI v3)] [] M Q :=
  (x_aldn c49_173 rfl (x_gfr c49_174 (ks_13 Hs) (x_ci c49_177 (x_aldn c49_178 rfl (x_ci c49_179 (wp_wk (l' := [some (jR s), some (jR p), some (jI v2), some (jI v3)]) ⟨rfl, ⟨rfl, ⟨rfl, ⟨rfl, trivial⟩⟩⟩⟩ (x_cv (As := [jI 1]) (st := [jI 1, jR (s + 3)]) c49_180 (cls Hs) kl35 rfl (Nat.le_of_ble_eq_true rfl) mx35 (Nat.le_refl _) H)))))))
theorem s49_183 {kc : List va_E} {d : Nat} {s p : Nat} {v2 v3 u0 u1 : Int} {M : fx_M} {Q : Option fx_V → fx_M → Prop} (Hs : fx_scn s) (Hp : fx_puz p) (H : (((0 : Int) ≤ u1 ∧ u1 < 4)) ∧ ((fx_in32 (M s 3))) ∧ (M s 3 ≠ 0 → wp kc (d + 1) 49 85 [some (jR s), some (jR p), some (jI (v2 + 1)), none] [] (fx_up M (s + 3) u1 u0) Q) ∧ (M s 3 = 0 → fx_lit kc ((M s 4).toNat) ∧ wc kc d 50 [jR ((M s 4).toNat)] (fx_up M (s + 3) u1 u0) (fun v M1 => wp kc (d + 1) 49 198 [some (jR s), some (jR p), some (jI v2), some (jI v3)] (v.toList ++ []) M1 Q))) : wp kc (d + 1) 49 183 [some (jR s), some (jR p), some (jI v2), some (jI v3)] [jI u0, jI u1, jR (s + 3)] M Q :=
  (x_iast c49_183 (as_3 Hs) H.1 (by decide) (x_aldn c49_184 rfl (x_gfi c49_185 (ks_3 Hs) (wp_vI (fx_upA (by omega)) (x_zne c49_188 H.2.1 (fun h1 => (x_inc (l' := [some (jR s), some (jR p), some (jI (v2 + 1)), some (jI v3)]) c49_272 rfl rfl (x_goto c49_275 (wp_wk (l' := [some (jR s), some (jR p), some (jI (v2 + 1)), none]) ⟨rfl, ⟨rfl, ⟨rfl, trivial⟩⟩⟩ (H.2.2.1 h1))))) (fun h2 => (x_aldn c49_191 rfl (x_gfd c49_192 (ks_4 Hs) (wp_vR (fx_upA (by omega)) (wp_wk (l' := [some (jR s), some (jR p), some (jI v2), some (jI v3)]) ⟨rfl, ⟨rfl, ⟨rfl, ⟨rfl, trivial⟩⟩⟩⟩ (x_cl (b := (M s 4).toNat) (As := []) (st := []) c49_195 kl50 (H.2.2.2 h2).1 rfl (Nat.le_of_ble_eq_true rfl) mx50 (Nat.le_refl _) (H.2.2.2 h2).2)))))))))))
theorem s49_198 {kc : List va_E} {d : Nat} {s p : Nat} {v2 v3 u0 : Int} {M : fx_M} {Q : Option fx_V → fx_M → Prop} (Hs : fx_scn s) (Hp : fx_puz p) (H : ((fx_in32 u0)) ∧ (u0 = 0 → wp kc (d + 1) 49 85 [some (jR s), some (jR p), some (jI (v2 + 1)), none] [] M Q) ∧ (u0 ≠ 0 → ((fx_in32 v3)) ∧ (v3 ≠ 0 → ((fx_in32 v3)) ∧ (v3 ≠ 1 → wc kc d 57 [jR p, jI (M (s + 3) 0), jI (M (s + 3) 1)] M (fun v M1 => wp kc (d + 1) 49 269 [some (jR s), some (jR p), some (jI v2), none] (v.toList ++ [jR s]) M1 Q)) ∧ (v3 = 1 → wc kc d 55 [jR p, jI (M s 10), jI (M s 11), jI (M s 12)] M (fun v M1 => wp kc (d + 1) 49 250 [some (jR s), some (jR p), some (jI v2), none] (v.toList ++ [jR s]) M1 Q))) ∧ (v3 = 0 → wc kc d 52 [jR p, jI (M s 11), jI (M s 12), jR (s + 3), jI (M s 14)] M (fun v M1 => wp kc (d + 1) 49 226 [some (jR s), some (jR p), some (jI v2), none] (v.toList ++ [jR s]) M1 Q)))) : wp kc (d + 1) 49 198 [some (jR s), some (jR p), some (jI v2), some (jI v3)] [jI u0] M Q :=
  (x_zeq c49_198 H.1 (fun h5 => (x_inc (l' := [some (jR s), some (jR p), some (jI (v2 + 1)), some (jI v3)]) c49_272 rfl rfl (x_goto c49_275 (wp_wk (l' := [some (jR s), some (jR p), some (jI (v2 + 1)), none]) ⟨rfl, ⟨rfl, ⟨rfl, trivial⟩⟩⟩ (H.2.1 h5))))) (fun h6 => (x_aldn c49_201 rfl (x_ildn c49_202 rfl (x_zne c49_203 (H.2.2 h6).1 (fun h3 => (x_ildn c49_229 rfl (x_ci c49_230 (x_cne c49_231 ((H.2.2 h6).2.1 h3).1 (by decide) (fun h1 => (x_aldn c49_253 rfl (x_aldn c49_254 rfl (x_gfr c49_255 (ks_13 Hs) (x_ci c49_258 (x_iald c49_259 (as_3 Hs) (by decide) (by decide) (x_aldn c49_260 rfl (x_gfr c49_261 (ks_13 Hs) (x_ci c49_264 (x_iald c49_265 (as_3 Hs) (by decide) (by decide) (wp_wk (l' := [some (jR s), some (jR p), some (jI v2), none]) ⟨rfl, ⟨rfl, ⟨rfl, trivial⟩⟩⟩ (x_cv (As := [jI (M (s + 3) 0), jI (M (s + 3) 1)]) (st := [jR s]) c49_266 (clp Hp) kl57 rfl (Nat.le_of_ble_eq_true rfl) mx57 (Nat.le_refl _) (((H.2.2 h6).2.1 h3).2.1 h1))))))))))))) (fun h2 => (x_aldn c49_234 rfl (x_aldn c49_235 rfl (x_gfi c49_236 (ks_10 Hs) (x_aldn c49_239 rfl (x_gfi c49_240 (ks_11 Hs) (x_aldn c49_243 rfl (x_gfi c49_244 (ks_12 Hs) (wp_wk (l' := [some (jR s), some (jR p), some (jI v2), none]) ⟨rfl, ⟨rfl, ⟨rfl, trivial⟩⟩⟩ (x_cv (As := [jI (M s 10), jI (M s 11), jI (M s 12)]) (st := [jR s]) c49_247 (clp Hp) kl55 rfl (Nat.le_of_ble_eq_true rfl) mx55 (Nat.le_refl _) (((H.2.2 h6).2.1 h3).2.2 h2))))))))))))))) (fun h4 => (x_aldn c49_206 rfl (x_aldn c49_207 rfl (x_gfi c49_208 (ks_11 Hs) (x_aldn c49_211 rfl (x_gfi c49_212 (ks_12 Hs) (x_aldn c49_215 rfl (x_gfr c49_216 (ks_13 Hs) (x_aldn c49_219 rfl (x_gfi c49_220 (ks_14 Hs) (wp_wk (l' := [some (jR s), some (jR p), some (jI v2), none]) ⟨rfl, ⟨rfl, ⟨rfl, trivial⟩⟩⟩ (x_cv (As := [jI (M s 11), jI (M s 12), jR (s + 3), jI (M s 14)]) (st := [jR s]) c49_223 (clp Hp) kl52 rfl (Nat.le_of_ble_eq_true rfl) mx52 (Nat.le_refl _) ((H.2.2 h6).2.2 h4))))))))))))))))))
theorem s49_226 {kc : List va_E} {d : Nat} {s p u0 : Nat} {v2 : Int} {M : fx_M} {Q : Option fx_V → fx_M → Prop} (Hs : fx_scn s) (Hp : fx_puz p) (H : wp kc (d + 1) 49 85 [some (jR s), some (jR p), some (jI (v2 + 1)), none] [] (fx_up M s 4 ((u0 : Nat) : Int)) Q) : wp kc (d + 1) 49 226 [some (jR s), some (jR p), some (jI v2), none] [jR u0, jR s] M Q :=
  (x_goto c49_226 (x_pfd c49_269 (ks_4 Hs) (x_inc (l' := [some (jR s), some (jR p), some (jI (v2 + 1)), none]) c49_272 rfl rfl (x_goto c49_275 (wp_wk (l' := [some (jR s), some (jR p), some (jI (v2 + 1)), none]) ⟨rfl, ⟨rfl, ⟨rfl, trivial⟩⟩⟩ H)))))
theorem s49_250 {kc : List va_E} {d : Nat} {s p u0 : Nat} {v2 : Int} {M : fx_M} {Q : Option fx_V → fx_M → Prop} (Hs : fx_scn s) (Hp : fx_puz p) (H : wp kc (d + 1) 49 85 [some (jR s), some (jR p), some (jI (v2 + 1)), none] [] (fx_up M s 4 ((u0 : Nat) : Int)) Q) : wp kc (d + 1) 49 250 [some (jR s), some (jR p), some (jI v2), none] [jR u0, jR s] M Q :=
  (x_goto c49_250 (x_pfd c49_269 (ks_4 Hs) (x_inc (l' := [some (jR s), some (jR p), some (jI (v2 + 1)), none]) c49_272 rfl rfl (x_goto c49_275 (wp_wk (l' := [some (jR s), some (jR p), some (jI (v2 + 1)), none]) ⟨rfl, ⟨rfl, ⟨rfl, trivial⟩⟩⟩ H)))))
theorem s49_269 {kc : List va_E} {d : Nat} {s p u0 : Nat} {v2 : Int} {M : fx_M} {Q : Option fx_V → fx_M → Prop} (Hs : fx_scn s) (Hp : fx_puz p) (H : wp kc (d + 1) 49 85 [some (jR s), some (jR p), some (jI (v2 + 1)), none] [] (fx_up M s 4 ((u0 : Nat) : Int)) Q) : wp kc (d + 1) 49 269 [some (jR s), some (jR p), some (jI v2), none] [jR u0, jR s] M Q :=
  (x_pfd c49_269 (ks_4 Hs) (x_inc (l' := [some (jR s), some (jR p), some (jI (v2 + 1)), none]) c49_272 rfl rfl (x_goto c49_275 (wp_wk (l' := [some (jR s), some (jR p), some (jI (v2 + 1)), none]) ⟨rfl, ⟨rfl, ⟨rfl, trivial⟩⟩⟩ H))))
theorem s49 {kc : List va_E} {d : Nat} {s p : Nat} {M : fx_M} {Q : Option fx_V → fx_M → Prop} (Hs : fx_scn s) (Hp : fx_puz p) (H : wc kc d 20 [jR s, jR 1000009] M (fun v M1 => wp kc (d + 1) 49 6 [some (jR s), some (jR p), none, none] (v.toList ++ []) M1 Q)) : wc kc (d + 1) 49 [jR s, jR p] M Q :=
  wc_of (wp_wk (l' := [some (jR s), some (jR p), none, none]) ⟨rfl, ⟨rfl, trivial⟩⟩ (s49_0 Hs Hp H))

/- PuzzleHouse$Scan.book(LPuzzleHouse$Puzzle;)V -/
theorem c61_0 : fx_op 61 0 = some (.aload_n 0, 1, 0) := by decide +kernel
theorem c61_1 : fx_gf 61 1 = some (2, 1, 4) := by decide +kernel
theorem c61_4 : fx_op 61 4 = some (.istore_n 2, 5, 4) := by decide +kernel
theorem c61_5 : fx_op 61 5 = some (.aload_n 0, 6, 5) := by decide +kernel
theorem c61_6 : fx_cr 61 6 = some (1000029, 8) := by decide +kernel
theorem c61_8 : fx_ca 61 8 = some (20, 2, 2, 11) := by decide +kernel
theorem c61_11 : fx_op 61 11 = some (.pop, 12, 11) := by decide +kernel
theorem c61_12 : fx_op 61 12 = some (.aload_n 0, 13, 12) := by decide +kernel
theorem c61_13 : fx_ci 61 13 = some (0, 14) := by decide +kernel
theorem c61_14 : fx_ci 61 14 = some (3, 15) := by decide +kernel
theorem c61_15 : fx_ca 61 15 = some (36, 3, 2, 18) := by decide +kernel
theorem c61_18 : fx_op 61 18 = some (.aload_n 0, 19, 18) := by decide +kernel
theorem c61_19 : fx_op 61 19 = some (.aload_n 0, 20, 19) := by decide +kernel
theorem c61_20 : fx_gf 61 20 = some (2, 1, 23) := by decide +kernel
theorem c61_23 : fx_pf 61 23 = some (2, 15, 0, 26) := by decide +kernel
theorem c61_26 : fx_op 61 26 = some (.aload_n 0, 27, 26) := by decide +kernel
theorem c61_27 : fx_gf 61 27 = some (2, 5, 30) := by decide +kernel
theorem c61_30 : fx_ci 61 30 = some (1, 31) := by decide +kernel
theorem c61_31 : fx_ci 61 31 = some (0, 32) := by decide +kernel
theorem c61_33 : fx_ci 61 33 = some (1, 34) := by decide +kernel
theorem c61_34 : fx_op 61 34 = some (.istore_n 3, 35, 34) := by decide +kernel
theorem c61_35 : fx_op 61 35 = some (.aload_n 0, 36, 35) := by decide +kernel
theorem c61_36 : fx_gf 61 36 = some (2, 1, 39) := by decide +kernel
theorem c61_39 : fx_op 61 39 = some (.istore 4, 41, 39) := by decide +kernel
theorem c61_32 : fx_op 61 32 = some (.iastore, 33, 32) := by decide +kernel
theorem c61_41 : fx_op 61 41 = some (.iload 4, 43, 41) := by decide +kernel
theorem c61_43 : fx_op 61 43 = some (.aload_n 0, 44, 43) := by decide +kernel
theorem c61_44 : fx_gf 61 44 = some (2, 2, 47) := by decide +kernel
theorem c61_47 : fx_op 61 47 = some (.if_icmp .gt 94, 50, 141) := by decide +kernel
theorem c61_50 : fx_op 61 50 = some (.iload_n 3, 51, 50) := by decide +kernel
theorem c61_51 : fx_op 61 51 = some (.ifCond .eq 90, 54, 141) := by decide +kernel
theorem c61_54 : fx_op 61 54 = some (.aload_n 0, 55, 54) := by decide +kernel
theorem c61_55 : fx_gf 61 55 = some (2, 3, 58) := by decide +kernel
theorem c61_58 : fx_op 61 58 = some (.ifCond .ne 83, 61, 141) := by decide +kernel
theorem c61_61 : fx_op 61 61 = some (.aload_n 0, 62, 61) := by decide +kernel
theorem c61_62 : fx_ci 61 62 = some (47, 64) := by decide +kernel
theorem c61_141 : fx_op 61 141 = some (.aload_n 0, 142, 141) := by decide +kernel
theorem c61_142 : fx_gf 61 142 = some (2, 5, 145) := by decide +kernel
theorem c61_145 : fx_ci 61 145 = some (2, 146) := by decide +kernel
theorem c61_146 : fx_op 61 146 = some (.aload_n 0, 147, 146) := by decide +kernel
theorem c61_147 : fx_gf 61 147 = some (2, 0, 150) := by decide +kernel
theorem c61_150 : fx_op 61 150 = some (.iload_n 2, 151, 150) := by decide +kernel
theorem c61_151 : fx_op 61 151 = some (.aload_n 0, 152, 151) := by decide +kernel
theorem c61_152 : fx_gf 61 152 = some (2, 1, 155) := by decide +kernel
theorem c61_155 : fx_ca 61 155 = some (62, 3, 1, 158) := by decide +kernel
theorem c61_64 : fx_ca 61 64 = some (34, 2, 2, 67) := by decide +kernel
theorem c61_159 : fx_op 61 159 = some (.aload_n 0, 160, 159) := by decide +kernel
theorem c61_160 : fx_gf 61 160 = some (2, 5, 163) := by decide +kernel
theorem c61_163 : fx_ci 61 163 = some (3, 164) := by decide +kernel
theorem c61_164 : fx_op 61 164 = some (.aload_n 0, 165, 164) := by decide +kernel
theorem c61_165 : fx_ci 61 165 = some (6, 167) := by decide +kernel
theorem c61_158 : fx_op 61 158 = some (.iastore, 159, 158) := by decide +kernel
theorem c61_167 : fx_ca 61 167 = some (35, 2, 2, 170) := by decide +kernel
theorem c61_67 : fx_op 61 67 = some (.aload_n 0, 68, 67) := by decide +kernel
theorem c61_68 : fx_gf 61 68 = some (2, 3, 71) := by decide +kernel
theorem c61_71 : fx_op 61 71 = some (.ifCond .ne 33, 74, 104) := by decide +kernel
theorem c61_104 : fx_ci 61 104 = some (0, 105) := by decide +kernel
theorem c61_74 : fx_op 61 74 = some (.aload_n 0, 75, 74) := by decide +kernel
theorem c61_75 : fx_gf 61 75 = some (2, 1, 78) := by decide +kernel
theorem c61_78 : fx_op 61 78 = some (.aload_n 0, 79, 78) := by decide +kernel
theorem c61_79 : fx_gf 61 79 = some (2, 2, 82) := by decide +kernel
theorem c61_82 : fx_op 61 82 = some (.if_icmp .ge 22, 85, 104) := by decide +kernel
theorem c61_85 : fx_op 61 85 = some (.aload_n 0, 86, 85) := by decide +kernel
theorem c61_86 : fx_gf 61 86 = some (2, 0, 89) := by decide +kernel
theorem c61_89 : fx_op 61 89 = some (.aload_n 0, 90, 89) := by decide +kernel
theorem c61_90 : fx_gf 61 90 = some (2, 1, 93) := by decide +kernel
theorem c61_93 : fx_op 61 93 = some (.caload, 94, 93) := by decide +kernel
theorem c61_105 : fx_op 61 105 = some (.istore_n 3, 106, 105) := by decide +kernel
theorem c61_106 : fx_op 61 106 = some (.iload_n 3, 107, 106) := by decide +kernel
theorem c61_107 : fx_op 61 107 = some (.ifCond .eq 28, 110, 135) := by decide +kernel
theorem c61_135 : fx_op 61 135 = some (.iinc 4 1, 138, 135) := by decide +kernel
theorem c61_138 : fx_op 61 138 = some (.goto (-97), 141, 41) := by decide +kernel
theorem c61_94 : fx_ca 61 94 = some (41, 1, 1, 97) := by decide +kernel
theorem c61_170 : fx_op 61 170 = some (.iastore, 171, 170) := by decide +kernel
theorem c61_171 : fx_op 61 171 = some (.return_, 172, 171) := by decide +kernel
theorem c61_97 : fx_op 61 97 = some (.ifCond .eq 7, 100, 104) := by decide +kernel
theorem c61_100 : fx_ci 61 100 = some (1, 101) := by decide +kernel
theorem c61_101 : fx_op 61 101 = some (.goto 4, 104, 105) := by decide +kernel
theorem c61_110 : fx_op 61 110 = some (.aload_n 0, 111, 110) := by decide +kernel
theorem c61_111 : fx_ca 61 111 = some (40, 1, 2, 114) := by decide +kernel
theorem c61_114 : fx_op 61 114 = some (.aload_n 0, 115, 114) := by decide +kernel
theorem c61_115 : fx_ci 61 115 = some (32, 117) := by decide +kernel
theorem c61_117 : fx_ca 61 117 = some (34, 2, 2, 120) := by decide +kernel
theorem c61_120 : fx_op 61 120 = some (.aload_n 0, 121, 120) := by decide +kernel
theorem c61_121 : fx_op 61 121 = some (.aload_n 1, 122, 121) := by decide +kernel
theorem c61_122 : fx_ca 61 122 = some (49, 2, 2, 125) := by decide +kernel
theorem c61_125 : fx_op 61 125 = some (.aload_n 0, 126, 125) := by decide +kernel
theorem c61_126 : fx_gf 61 126 = some (2, 5, 129) := by decide +kernel
theorem c61_129 : fx_ci 61 129 = some (1, 130) := by decide +kernel
theorem c61_130 : fx_op 61 130 = some (.dup2, 131, 130) := by decide +kernel
theorem c61_131 : fx_op 61 131 = some (.iaload, 132, 131) := by decide +kernel
theorem c61_132 : fx_ci 61 132 = some (1, 133) := by decide +kernel
theorem c61_133 : fx_op 61 133 = some (.iadd, 134, 133) := by decide +kernel
theorem c61_134 : fx_op 61 134 = some (.iastore, 135, 134) := by decide +kernel
theorem s61_0 {kc : List va_E} {d : Nat} {s p : Nat} {M : fx_M} {Q : Option fx_V → fx_M → Prop} (Hs : fx_scn s) (Hp : fx_puz p) (H : wc kc d 20 [jR s, jR 1000029] M (fun v M1 => wp kc (d + 1) 61 11 [some (jR s), some (jR p), some (jI (M s 1)), none, none] (v.toList ++ []) M1 Q)) : wp kc (d + 1) 61 0 [some (jR s), some (jR p), none, none, none] [] M Q :=
  (x_aldn c61_0 rfl (x_gfi c61_1 (ks_1 Hs) (x_istn (l' := [some (jR s), some (jR p), some (jI (M s 1)), none, none]) c61_4 rfl (x_aldn c61_5 rfl (x_cr c61_6 (wp_wk (l' := [some (jR s), some (jR p), some (jI (M s 1)), none, none]) ⟨rfl, ⟨rfl, ⟨rfl, trivial⟩⟩⟩ (x_cv (As := [jR 1000029]) (st := []) c61_8 (cls Hs) kl20 rfl (Nat.le_of_ble_eq_true rfl) mx20 (Nat.le_refl _) H)))))))
theorem s61_11 {kc : List va_E} {d : Nat} {s p : Nat} {v2 u0 : Int} {M : fx_M} {Q : Option fx_V → fx_M → Prop} (Hs : fx_scn s) (Hp : fx_puz p) (H : wc kc d 36 [jR s, jI 0, jI 3] M (fun v M1 => wp kc (d + 1) 61 18 [some (jR s), some (jR p), some (jI v2), none, none] (v.toList ++ []) M1 Q)) : wp kc (d + 1) 61 11 [some (jR s), some (jR p), some (jI v2), none, none] [jI u0] M Q :=
  (x_popi c61_11 (x_aldn c61_12 rfl (x_ci c61_13 (x_ci c61_14 (wp_wk (l' := [some (jR s), some (jR p), some (jI v2), none, none]) ⟨rfl, ⟨rfl, ⟨rfl, trivial⟩⟩⟩ (x_cv (As := [jI 0, jI 3]) (st := []) c61_15 (cls Hs) kl36 rfl (Nat.le_of_ble_eq_true rfl) mx36 (Nat.le_refl _) H))))))
theorem s61_18 {kc : List va_E} {d : Nat} {s p : Nat} {v2 : Int} {M : fx_M} {Q : Option fx_V → fx_M → Prop} (Hs : fx_scn s) (Hp : fx_puz p) (H : wp kc (d + 1) 61 41 [some (jR s), some (jR p), some (jI v2), some (jI 1), some (jI (M s 1))] [] (fx_up (fx_up M s 15 (M s 1)) (s + 2) 1 0) Q) : wp kc (d + 1) 61 18 [some (jR s), some (jR p), some (jI v2), none, none] [] M Q :=
  (x_aldn c61_18 rfl (x_aldn c61_19 rfl (x_gfi c61_20 (ks_1 Hs) (x_pfi c61_23 (ks_15 Hs) (x_aldn c61_26 rfl (x_gfr c61_27 (ks_5 Hs) (x_ci c61_30 (x_ci c61_31 (x_iast c61_32 (as_2 Hs) (by decide) (by decide) (x_ci c61_33 (x_istn (l' := [some (jR s), some (jR p), some (jI v2), some (jI 1), none]) c61_34 rfl (x_aldn c61_35 rfl (x_gfi c61_36 (ks_1 Hs) (wp_vI (((fx_upA (by omega)).trans (fx_upK (by decide)))) (x_ist (l' := [some (jR s), some (jR p), some (jI v2), some (jI 1), some (jI (M s 1))]) c61_39 rfl (wp_wk (l' := [some (jR s), some (jR p), some (jI v2), some (jI 1), some (jI (M s 1))]) ⟨rfl, ⟨rfl, ⟨rfl, ⟨rfl, ⟨rfl, trivial⟩⟩⟩⟩⟩ H))))))))))))))))
theorem s61_41 {kc : List va_E} {d : Nat} {s p : Nat} {v2 v3 v4 : Int} {M : fx_M} {Q : Option fx_V → fx_M → Prop} (Hs : fx_scn s) (Hp : fx_puz p) (H : ((fx_in32 v4) ∧ (fx_in32 (M s 2))) ∧ (M s 2 < v4 → wc kc d 62 [jR ((M s 0).toNat), jI v2, jI (M s 1)] M (fun v M1 => wp kc (d + 1) 61 158 [some (jR s), none, none, none, none] (v.toList ++ [jI 2, jR (s + 2)]) M1 Q)) ∧ (v4 ≤ M s 2 → ((fx_in32 v3)) ∧ (v3 = 0 → wc kc d 62 [jR ((M s 0).toNat), jI v2, jI (M s 1)] M (fun v M1 => wp kc (d + 1) 61 158 [some (jR s), none, none, none, none] (v.toList ++ [jI 2, jR (s + 2)]) M1 Q)) ∧ (v3 ≠ 0 → ((fx_in32 (M s 3))) ∧ (M s 3 ≠ 0 → wc kc d 62 [jR ((M s 0).toNat), jI v2, jI (M s 1)] M (fun v M1 => wp kc (d + 1) 61 158 [some (jR s), none, none, none, none] (v.toList ++ [jI 2, jR (s + 2)]) M1 Q)) ∧ (M s 3 = 0 → wc kc d 34 [jR s, jI 47] M (fun v M1 => wp kc (d + 1) 61 67 [some (jR s), some (jR p), some (jI v2), none, some (jI v4)] (v.toList ++ []) M1 Q))))) : wp kc (d + 1) 61 41 [some (jR s), some (jR p), some (jI v2), some (jI v3), some (jI v4)] [] M Q :=
  (x_ild c61_41 rfl (x_aldn c61_43 rfl (x_gfi c61_44 (ks_2 Hs) (x_cgt c61_47 H.1.1 H.1.2 (fun h5 => (x_aldn c61_141 rfl (x_gfr c61_142 (ks_5 Hs) (x_ci c61_145 (x_aldn c61_146 rfl (x_gfd c61_147 (ks_0 Hs) (x_ildn c61_150 rfl (x_aldn c61_151 rfl (x_gfi c61_152 (ks_1 Hs) (wp_wk (l' := [some (jR s), none, none, none, none]) ⟨rfl, trivial⟩ (x_cs (As := [jR ((M s 0).toNat), jI v2, jI (M s 1)]) (st := [jI 2, jR (s + 2)]) c61_155 (by decide) rfl (Nat.le_of_ble_eq_true rfl) mx62 (Nat.le_refl _) (H.2.1 h5)))))))))))) (fun h6 => (x_ildn c61_50 rfl (x_zeq c61_51 (H.2.2 h6).1 (fun h3 => (x_aldn c61_141 rfl (x_gfr c61_142 (ks_5 Hs) (x_ci c61_145 (x_aldn c61_146 rfl (x_gfd c61_147 (ks_0 Hs) (x_ildn c61_150 rfl (x_aldn c61_151 rfl (x_gfi c61_152 (ks_1 Hs) (wp_wk (l' := [some (jR s), none, none, none, none]) ⟨rfl, trivial⟩ (x_cs (As := [jR ((M s 0).toNat), jI v2, jI (M s 1)]) (st := [jI 2, jR (s + 2)]) c61_155 (by decide) rfl (Nat.le_of_ble_eq_true rfl) mx62 (Nat.le_refl _) ((H.2.2 h6).2.1 h3)))))))))))) (fun h4 => (x_aldn c61_54 rfl (x_gfi c61_55 (ks_3 Hs) (x_zne c61_58 ((H.2.2 h6).2.2 h4).1 (fun h1 => (x_aldn c61_141 rfl (x_gfr c61_142 (ks_5 Hs) (x_ci c61_145 (x_aldn c61_146 rfl (x_gfd c61_147 (ks_0 Hs) (x_ildn c61_150 rfl (x_aldn c61_151 rfl (x_gfi c61_152 (ks_1 Hs) (wp_wk (l' := [some (jR s), none, none, none, none]) ⟨rfl, trivial⟩ (x_cs (As := [jR ((M s 0).toNat), jI v2, jI (M s 1)]) (st := [jI 2, jR (s + 2)]) c61_155 (by decide) rfl (Nat.le_of_ble_eq_true rfl) mx62 (Nat.le_refl _) (((H.2.2 h6).2.2 h4).2.1 h1)))))))))))) (fun h2 => (x_aldn c61_61 rfl (x_ci c61_62 (wp_wk (l' := [some (jR s), some (jR p), some (jI v2), none, some (jI v4)]) ⟨rfl, ⟨rfl, ⟨rfl, ⟨rfl, trivial⟩⟩⟩⟩ (x_cv (As := [jI 47]) (st := []) c61_64 (cls Hs) kl34 rfl (Nat.le_of_ble_eq_true rfl) mx34 (Nat.le_refl _) (((H.2.2 h6).2.2 h4).2.2 h2)))))))))))))))))
theorem s61_67 {kc : List va_E} {d : Nat} {s p : Nat} {v2 v4 : Int} {h1n h2n h3n : Nat} {M : fx_M} {Q : Option fx_V → fx_M → Prop} (Hs : fx_scn s) (Hp : fx_puz p) (H : ((fx_in32 (M s 3))) ∧ (M s 3 ≠ 0 → wp kc (d + 1) 61 41 [some (jR s), some (jR p), some (jI v2), some (jI 0), some (jI (v4 + 1))] [] M Q) ∧ (M s 3 = 0 → ((fx_in32 (M s 1)) ∧ (fx_in32 (M s 2))) ∧ (M s 2 ≤ M s 1 → wp kc (d + 1) 61 41 [some (jR s), some (jR p), some (jI v2), some (jI 0), some (jI (v4 + 1))] [] M Q) ∧ (M s 1 < M s 2 → ((fx_a ((M s 0).toNat) = some (1, h3n) ∧ h3n ≤ 2147483647) ∧ ((0 : Int) ≤ M s 1 ∧ M s 1 < (h3n : Nat))) ∧ wc kc d 41 [jI (M ((M s 0).toNat) (M s 1))] M (fun v M1 => wp kc (d + 1) 61 97 [some (jR s), some (jR p), some (jI v2), none, some (jI v4)] (v.toList ++ []) M1 Q)))) : wp kc (d + 1) 61 67 [some (jR s), some (jR p), some (jI v2), none, some (jI v4)] [] M Q :=
  (x_aldn c61_67 rfl (x_gfi c61_68 (ks_3 Hs) (x_zne c61_71 H.1 (fun h6 => (x_ci c61_104 (x_istn (l' := [some (jR s), some (jR p), some (jI v2), some (jI 0), some (jI v4)]) c61_105 rfl (x_ildn c61_106 rfl (x_zeq c61_107 (by decide) (fun _ => (x_inc (l' := [some (jR s), some (jR p), some (jI v2), some (jI 0), some (jI (v4 + 1))]) c61_135 rfl rfl (x_goto c61_138 (wp_wk (l' := [some (jR s), some (jR p), some (jI v2), some (jI 0), some (jI (v4 + 1))]) ⟨rfl, ⟨rfl, ⟨rfl, ⟨rfl, ⟨rfl, trivial⟩⟩⟩⟩⟩ (H.2.1 h6))))) (fun h => absurd h (by decide))))))) (fun h7 => (x_aldn c61_74 rfl (x_gfi c61_75 (ks_1 Hs) (x_aldn c61_78 rfl (x_gfi c61_79 (ks_2 Hs) (x_cge c61_82 (H.2.2 h7).1.1 (H.2.2 h7).1.2 (fun h4 => (x_ci c61_104 (x_istn (l' := [some (jR s), some (jR p), some (jI v2), some (jI 0), some (jI v4)]) c61_105 rfl (x_ildn c61_106 rfl (x_zeq c61_107 (by decide) (fun _ => (x_inc (l' := [some (jR s), some (jR p), some (jI v2), some (jI 0), some (jI (v4 + 1))]) c61_135 rfl rfl (x_goto c61_138 (wp_wk (l' := [some (jR s), some (jR p), some (jI v2), some (jI 0), some (jI (v4 + 1))]) ⟨rfl, ⟨rfl, ⟨rfl, ⟨rfl, ⟨rfl, trivial⟩⟩⟩⟩⟩ ((H.2.2 h7).2.1 h4))))) (fun h => absurd h (by decide))))))) (fun h5 => (x_aldn c61_85 rfl (x_gfd c61_86 (ks_0 Hs) (x_aldn c61_89 rfl (x_gfi c61_90 (ks_1 Hs) (x_cald c61_93 ((H.2.2 h7).2.2 h5).1.1.1 ((H.2.2 h7).2.2 h5).1.2 ((H.2.2 h7).2.2 h5).1.1.2 (wp_wk (l' := [some (jR s), some (jR p), some (jI v2), none, some (jI v4)]) ⟨rfl, ⟨rfl, ⟨rfl, ⟨rfl, trivial⟩⟩⟩⟩ (x_cs (As := [jI (M ((M s 0).toNat) (M s 1))]) (st := []) c61_94 (by decide) rfl (Nat.le_of_ble_eq_true rfl) mx41 (Nat.le_refl _) ((H.2.2 h7).2.2 h5).2)))))))))))))))))
theorem s61_97 {kc : List va_E} {d : Nat} {s p : Nat} {v2 v4 u0 : Int} {M : fx_M} {Q : Option fx_V → fx_M → Prop} (Hs : fx_scn s) (Hp : fx_puz p) (H : ((fx_in32 u0)) ∧ ((fx_in32 (if u0 = 0 then (0 : Int) else 1))) ∧ ((if u0 = 0 then (0 : Int) else 1) = 0 → wp kc (d + 1) 61 41 [some (jR s), some (jR p), some (jI v2), some (jI (if u0 = 0 then (0 : Int) else 1)), some (jI (v4 + 1))] [] M Q) ∧ ((if u0 = 0 then (0 : Int) else 1) ≠ 0 → wc kc d 40 [jR s] M (fun v M1 => wp kc (d + 1) 61 114 [some (jR s), some (jR p), some (jI v2), some (jI (if u0 = 0 then (0 : Int) else 1)), some (jI v4)] (v.toList ++ []) M1 Q))) : wp kc (d + 1) 61 97 [some (jR s), some (jR p), some (jI v2), none, some (jI v4)] [jI u0] M Q :=
  (have K : wp kc (d + 1) 61 105 [some (jR s), some (jR p), some (jI v2), none, some (jI v4)] [jI (if u0 = 0 then (0 : Int) else 1)] M Q := (x_istn (l' := [some (jR s), some (jR p), some (jI v2), some (jI (if u0 = 0 then (0 : Int) else 1)), some (jI v4)]) c61_105 rfl (x_ildn c61_106 rfl (x_zeq c61_107 H.2.1 (fun h1 => (x_inc (l' := [some (jR s), some (jR p), some (jI v2), some (jI (if u0 = 0 then (0 : Int) else 1)), some (jI (v4 + 1))]) c61_135 rfl rfl (x_goto c61_138 (wp_wk (l' := [some (jR s), some (jR p), some (jI v2), some (jI (if u0 = 0 then (0 : Int) else 1)), some (jI (v4 + 1))]) ⟨rfl, ⟨rfl, ⟨rfl, ⟨rfl, ⟨rfl, trivial⟩⟩⟩⟩⟩ (H.2.2.1 h1))))) (fun h2 => (x_aldn c61_110 rfl (wp_wk (l' := [some (jR s), some (jR p), some (jI v2), some (jI (if u0 = 0 then (0 : Int) else 1)), some (jI v4)]) ⟨rfl, ⟨rfl, ⟨rfl, ⟨rfl, ⟨rfl, trivial⟩⟩⟩⟩⟩ (x_cv (As := []) (st := []) c61_111 (cls Hs) kl40 rfl (Nat.le_of_ble_eq_true rfl) mx40 (Nat.le_refl _) (H.2.2.2 h2)))))))); (x_zeq c61_97 H.1 (fun (h3 : u0 = 0) => (x_ci c61_104 (wp_wk (l' := [some (jR s), some (jR p), some (jI v2), none, some (jI v4)]) ⟨rfl, ⟨rfl, ⟨rfl, ⟨rfl, trivial⟩⟩⟩⟩ (by have K := K; first | (simp only [if_pos h3] at K ⊢; exact K) | (exfalso; omega))))) (fun (h4 : u0 ≠ 0) => (x_ci c61_100 (x_goto c61_101 (wp_wk (l' := [some (jR s), some (jR p), some (jI v2), none, some (jI v4)]) ⟨rfl, ⟨rfl, ⟨rfl, ⟨rfl, trivial⟩⟩⟩⟩ (by have K := K; first | (simp only [if_neg h4] at K ⊢; exact K) | (exfalso; omega))))))))
theorem s61_114 {kc : List va_E} {d : Nat} {s p : Nat} {v2 v3 v4 : Int} {M : fx_M} {Q : Option fx_V → fx_M → Prop} (Hs : fx_scn s) (Hp : fx_puz p) (H : wc kc d 34 [jR s, jI 32] M (fun v M1 => wp kc (d + 1) 61 120 [some (jR s), some (jR p), some (jI v2), some (jI v3), some (jI v4)] (v.toList ++ []) M1 Q)) : wp kc (d + 1) 61 114 [some (jR s), some (jR p), some (jI v2), some (jI v3), some (jI v4)] [] M Q :=
  (x_aldn c61_114 rfl (x_ci c61_115 (wp_wk (l' := [some (jR s), some (jR p), some (jI v2), some (jI v3), some (jI v4)]) ⟨rfl, ⟨rfl, ⟨rfl, ⟨rfl, ⟨rfl, trivial⟩⟩⟩⟩⟩ (x_cv (As := [jI 32]) (st := []) c61_117 (cls Hs) kl34 rfl (Nat.le_of_ble_eq_true rfl) mx34 (Nat.le_refl _) H))))
theorem s61_120 {kc : List va_E} {d : Nat} {s p : Nat} {v2 v3 v4 : Int} {M : fx_M} {Q : Option fx_V → fx_M → Prop} (Hs : fx_scn s) (Hp : fx_puz p) (H : wc kc d 49 [jR s, jR p] M (fun v M1 => wp kc (d + 1) 61 125 [some (jR s), some (jR p), some (jI v2), some (jI v3), some (jI v4)] (v.toList ++ []) M1 Q)) : wp kc (d + 1) 61 120 [some (jR s), some (jR p), some (jI v2), some (jI v3), some (jI v4)] [] M Q :=
  (x_aldn c61_120 rfl (x_aldn c61_121 rfl (wp_wk (l' := [some (jR s), some (jR p), some (jI v2), some (jI v3), some (jI v4)]) ⟨rfl, ⟨rfl, ⟨rfl, ⟨rfl, ⟨rfl, trivial⟩⟩⟩⟩⟩ (x_cv (As := [jR p]) (st := []) c61_122 (cls Hs) kl49 rfl (Nat.le_of_ble_eq_true rfl) mx49 (Nat.le_refl _) H))))
theorem s61_125 {kc : List va_E} {d : Nat} {s p : Nat} {v2 v3 v4 : Int} {M : fx_M} {Q : Option fx_V → fx_M → Prop} (Hs : fx_scn s) (Hp : fx_puz p) (H : wp kc (d + 1) 61 41 [some (jR s), some (jR p), some (jI v2), some (jI v3), some (jI (v4 + 1))] [] (fx_up M (s + 2) 1 ((M (s + 2) 1) + 1)) Q) : wp kc (d + 1) 61 125 [some (jR s), some (jR p), some (jI v2), some (jI v3), some (jI v4)] [] M Q :=
  (x_aldn c61_125 rfl (x_gfr c61_126 (ks_5 Hs) (x_ci c61_129 (x_dup2 c61_130 (x_iald c61_131 (as_2 Hs) (by decide) (by decide) (x_ci c61_132 (x_iadd c61_133 (x_iast c61_134 (as_2 Hs) (by decide) (by decide) (x_inc (l' := [some (jR s), some (jR p), some (jI v2), some (jI v3), some (jI (v4 + 1))]) c61_135 rfl rfl (x_goto c61_138 (wp_wk (l' := [some (jR s), some (jR p), some (jI v2), some (jI v3), some (jI (v4 + 1))]) ⟨rfl, ⟨rfl, ⟨rfl, ⟨rfl, ⟨rfl, trivial⟩⟩⟩⟩⟩ H)))))))))))
theorem s61_158 {kc : List va_E} {d : Nat} {s p : Nat} {u0 u1 : Int} {M : fx_M} {Q : Option fx_V → fx_M → Prop} (Hs : fx_scn s) (Hp : fx_puz p) (H : (((0 : Int) ≤ u1 ∧ u1 < 4)) ∧ wc kc d 35 [jR s, jI 6] (fx_up M (s + 2) u1 u0) (fun v M1 => wp kc (d + 1) 61 170 [none, none, none, none, none] (v.toList ++ [jI 3, jR (s + 2)]) M1 Q)) : wp kc (d + 1) 61 158 [some (jR s), none, none, none, none] [jI u0, jI u1, jR (s + 2)] M Q :=
  (x_iast c61_158 (as_2 Hs) H.1 (by decide) (x_aldn c61_159 rfl (x_gfr c61_160 (ks_5 Hs) (x_ci c61_163 (x_aldn c61_164 rfl (x_ci c61_165 (wp_wk (l' := [none, none, none, none, none]) trivial (x_cv (As := [jI 6]) (st := [jI 3, jR (s + 2)]) c61_167 (cls Hs) kl35 rfl (Nat.le_of_ble_eq_true rfl) mx35 (Nat.le_refl _) H.2))))))))
theorem s61_170 {kc : List va_E} {d : Nat} {s p : Nat} {u0 u1 : Int} {M : fx_M} {Q : Option fx_V → fx_M → Prop} (Hs : fx_scn s) (Hp : fx_puz p) (H : (((0 : Int) ≤ u1 ∧ u1 < 4)) ∧ Q none (fx_up M (s + 2) u1 u0)) : wp kc (d + 1) 61 170 [none, none, none, none, none] [jI u0, jI u1, jR (s + 2)] M Q :=
  (x_iast c61_170 (as_2 Hs) H.1 (by decide) (x_vr c61_171 r61 H.2))
theorem s61 {kc : List va_E} {d : Nat} {s p : Nat} {M : fx_M} {Q : Option fx_V → fx_M → Prop} (Hs : fx_scn s) (Hp : fx_puz p) (H : wc kc d 20 [jR s, jR 1000029] M (fun v M1 => wp kc (d + 1) 61 11 [some (jR s), some (jR p), some (jI (M s 1)), none, none] (v.toList ++ []) M1 Q)) : wc kc (d + 1) 61 [jR s, jR p] M Q :=
  wc_of (wp_wk (l' := [some (jR s), some (jR p), none, none, none]) ⟨rfl, ⟨rfl, trivial⟩⟩ (s61_0 Hs Hp H))

/- PuzzleHouse$Scan.again(I)V -/
theorem c202_0 : fx_op 202 0 = some (.aload_n 0, 1, 0) := by decide +kernel
theorem c202_1 : fx_op 202 1 = some (.iload_n 1, 2, 1) := by decide +kernel
theorem c202_2 : fx_ci 202 2 = some (0, 3) := by decide +kernel
theorem c202_6 : fx_pf 202 6 = some (2, 1, 0, 9) := by decide +kernel
theorem c202_3 : fx_nt 202 3 = some (1, 6) := by decide +kernel
theorem c202_9 : fx_op 202 9 = some (.return_, 10, 9) := by decide +kernel
theorem n202_3 : xS 202 ((xI 202 3).getD .nop) = none := by decide +kernel
theorem s202_0 {kc : List va_E} {d : Nat} {s : Nat} {x1 : Int} {M : fx_M} {Q : Option fx_V → fx_M → Prop} (Hs : fx_scn s) (H : ((fx_in32 x1)) ∧ Q none (fx_up M s 1 (if x1 < 0 then (0 : Int) else x1))) : wp kc (d + 1) 202 0 [some (jR s), some (jI x1)] [] M Q :=
  (x_aldn c202_0 rfl (x_ildn c202_1 rfl (x_ci c202_2 (x_max c202_3 n202_3 H.1 (by decide) (Nat.le_of_ble_eq_true rfl) (x_pfi c202_6 (ks_1 Hs) (x_vr c202_9 r202 H.2))))))
theorem s202 {kc : List va_E} {d : Nat} {s : Nat} {x1 : Int} {M : fx_M} {Q : Option fx_V → fx_M → Prop} (Hs : fx_scn s) (H : ((fx_in32 x1)) ∧ Q none (fx_up M s 1 (if x1 < 0 then (0 : Int) else x1))) : wc kc (d + 1) 202 [jR s, jI x1] M Q :=
  wc_of (wp_wk (l' := [some (jR s), some (jI x1)]) ⟨rfl, ⟨rfl, trivial⟩⟩ (s202_0 Hs H))
