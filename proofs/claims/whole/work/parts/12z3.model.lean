/-! SEGMENTS of the model, 3 (by gen/emit_segs.py) -/
/- PuzzleHouseModel.sayMake(II)V -/
theorem c281_0 : fx_op 281 0 = some (.iload_n 2, 1, 0) := by decide +kernel
theorem c281_1 : fx_ci 281 1 = some (1, 2) := by decide +kernel
theorem c281_2 : fx_op 281 2 = some (.if_icmp .le 11, 5, 13) := by decide +kernel
theorem c281_13 : fx_op 281 13 = some (.aload_n 0, 14, 13) := by decide +kernel
theorem c281_5 : fx_op 281 5 = some (.aload_n 0, 6, 5) := by decide +kernel
theorem c281_6 : fx_cj 281 6 = some (1802071652, 9) := by decide +kernel
theorem c281_14 : fx_ca 281 14 = some (282, 1, 2, 17) := by decide +kernel
theorem c281_9 : fx_ca 281 9 = some (260, 2, 2, 12) := by decide +kernel
theorem c281_17 : fx_ci 281 17 = some (0, 18) := by decide +kernel
theorem c281_18 : fx_op 281 18 = some (.istore_n 3, 19, 18) := by decide +kernel
theorem c281_12 : fx_op 281 12 = some (.return_, 13, 12) := by decide +kernel
theorem c281_19 : fx_op 281 19 = some (.iload_n 3, 20, 19) := by decide +kernel
theorem c281_20 : fx_ci 281 20 = some (9, 22) := by decide +kernel
theorem c281_22 : fx_op 281 22 = some (.if_icmp .ge 16, 25, 38) := by decide +kernel
theorem c281_25 : fx_op 281 25 = some (.aload_n 0, 26, 25) := by decide +kernel
theorem c281_26 : fx_gf 281 26 = some (12, 45, 29) := by decide +kernel
theorem c281_29 : fx_op 281 29 = some (.iload_n 3, 30, 29) := by decide +kernel
theorem c281_30 : fx_ci 281 30 = some ((-1), 31) := by decide +kernel
theorem c281_38 : fx_op 281 38 = some (.aload_n 0, 39, 38) := by decide +kernel
theorem c281_39 : fx_ci 281 39 = some (1000000, 42) := by decide +kernel
theorem c281_32 : fx_op 281 32 = some (.iinc 3 1, 35, 32) := by decide +kernel
theorem c281_42 : fx_ca 281 42 = some (268, 2, 2, 45) := by decide +kernel
theorem c281_31 : fx_op 281 31 = some (.iastore, 32, 31) := by decide +kernel
theorem c281_35 : fx_op 281 35 = some (.goto (-16), 38, 19) := by decide +kernel
theorem c281_45 : fx_op 281 45 = some (.istore_n 3, 46, 45) := by decide +kernel
theorem c281_46 : fx_op 281 46 = some (.iload_n 3, 47, 46) := by decide +kernel
theorem c281_47 : fx_op 281 47 = some (.ifCond .ne 15, 50, 62) := by decide +kernel
theorem c281_62 : fx_op 281 62 = some (.aload_n 0, 63, 62) := by decide +kernel
theorem c281_63 : fx_op 281 63 = some (.iload_n 1, 64, 63) := by decide +kernel
theorem c281_65 : fx_pf 281 65 = some (12, 71, 1, 68) := by decide +kernel
theorem c281_68 : fx_op 281 68 = some (.aload_n 0, 69, 68) := by decide +kernel
theorem c281_69 : fx_op 281 69 = some (.iload_n 3, 70, 69) := by decide +kernel
theorem c281_50 : fx_op 281 50 = some (.aload_n 0, 51, 50) := by decide +kernel
theorem c281_64 : fx_op 281 64 = some (.i2l, 65, 64) := by decide +kernel
theorem c281_70 : fx_ca 281 70 = some (284, 2, 2, 73) := by decide +kernel
theorem c281_51 : fx_ca 281 51 = some (283, 1, 2, 54) := by decide +kernel
theorem c281_73 : fx_op 281 73 = some (.istore 4, 75, 73) := by decide +kernel
theorem c281_75 : fx_op 281 75 = some (.aload_n 0, 76, 75) := by decide +kernel
theorem c281_76 : fx_ci 281 76 = some (1, 77) := by decide +kernel
theorem c281_77 : fx_ca 281 77 = some (269, 2, 2, 80) := by decide +kernel
theorem c281_54 : fx_op 281 54 = some (.aload_n 0, 55, 54) := by decide +kernel
theorem c281_55 : fx_cj 281 55 = some (1852796517, 58) := by decide +kernel
theorem c281_58 : fx_ca 281 58 = some (253, 2, 2, 61) := by decide +kernel
theorem c281_80 : fx_op 281 80 = some (.pop, 81, 80) := by decide +kernel
theorem c281_81 : fx_ci 281 81 = some (0, 82) := by decide +kernel
theorem c281_82 : fx_op 281 82 = some (.istore 5, 84, 82) := by decide +kernel
theorem c281_61 : fx_op 281 61 = some (.return_, 62, 61) := by decide +kernel
theorem c281_84 : fx_op 281 84 = some (.iload 5, 86, 84) := by decide +kernel
theorem c281_86 : fx_op 281 86 = some (.iload 4, 88, 86) := by decide +kernel
theorem c281_88 : fx_op 281 88 = some (.if_icmp .ge 15, 91, 103) := by decide +kernel
theorem c281_91 : fx_op 281 91 = some (.aload_n 0, 92, 91) := by decide +kernel
theorem c281_92 : fx_ci 281 92 = some (0, 93) := by decide +kernel
theorem c281_103 : fx_ci 281 103 = some (0, 104) := by decide +kernel
theorem c281_104 : fx_op 281 104 = some (.istore 5, 106, 104) := by decide +kernel
theorem c281_93 : fx_ca 281 93 = some (269, 2, 2, 96) := by decide +kernel
theorem c281_106 : fx_op 281 106 = some (.iload 5, 108, 106) := by decide +kernel
theorem c281_108 : fx_op 281 108 = some (.aload_n 0, 109, 108) := by decide +kernel
theorem c281_109 : fx_ca 281 109 = some (248, 1, 2, 112) := by decide +kernel
theorem c281_96 : fx_op 281 96 = some (.pop, 97, 96) := by decide +kernel
theorem c281_97 : fx_op 281 97 = some (.iinc 5 1, 100, 97) := by decide +kernel
theorem c281_100 : fx_op 281 100 = some (.goto (-16), 103, 84) := by decide +kernel
theorem c281_112 : fx_op 281 112 = some (.if_icmp .ge 23, 115, 135) := by decide +kernel
theorem c281_115 : fx_op 281 115 = some (.aload_n 0, 116, 115) := by decide +kernel
theorem c281_116 : fx_gf 281 116 = some (12, 45, 119) := by decide +kernel
theorem c281_119 : fx_op 281 119 = some (.iload 5, 121, 119) := by decide +kernel
theorem c281_121 : fx_op 281 121 = some (.aload_n 0, 122, 121) := by decide +kernel
theorem c281_122 : fx_gf 281 122 = some (12, 46, 125) := by decide +kernel
theorem c281_125 : fx_op 281 125 = some (.iload 5, 127, 125) := by decide +kernel
theorem c281_127 : fx_op 281 127 = some (.iaload, 128, 127) := by decide +kernel
theorem c281_135 : fx_op 281 135 = some (.aload_n 0, 136, 135) := by decide +kernel
theorem c281_129 : fx_op 281 129 = some (.iinc 5 1, 132, 129) := by decide +kernel
theorem c281_136 : fx_ca 281 136 = some (285, 1, 2, 139) := by decide +kernel
theorem c281_128 : fx_op 281 128 = some (.iastore, 129, 128) := by decide +kernel
theorem c281_132 : fx_op 281 132 = some (.goto (-26), 135, 106) := by decide +kernel
theorem c281_139 : fx_ci 281 139 = some (0, 140) := by decide +kernel
theorem c281_140 : fx_op 281 140 = some (.istore 5, 142, 140) := by decide +kernel
theorem c281_142 : fx_op 281 142 = some (.iload 5, 144, 142) := by decide +kernel
theorem c281_144 : fx_op 281 144 = some (.aload_n 0, 145, 144) := by decide +kernel
theorem c281_145 : fx_ca 281 145 = some (248, 1, 2, 148) := by decide +kernel
theorem c281_148 : fx_op 281 148 = some (.if_icmp .ge 109, 151, 257) := by decide +kernel
theorem c281_151 : fx_op 281 151 = some (.aload_n 0, 152, 151) := by decide +kernel
theorem c281_152 : fx_gf 281 152 = some (12, 72, 155) := by decide +kernel
theorem c281_155 : fx_op 281 155 = some (.iload 5, 157, 155) := by decide +kernel
theorem c281_157 : fx_op 281 157 = some (.iaload, 158, 157) := by decide +kernel
theorem c281_158 : fx_op 281 158 = some (.istore 6, 160, 158) := by decide +kernel
theorem c281_160 : fx_op 281 160 = some (.iload_n 2, 161, 160) := by decide +kernel
theorem c281_161 : fx_ci 281 161 = some (1, 162) := by decide +kernel
theorem c281_162 : fx_op 281 162 = some (.if_icmp .ne 15, 165, 177) := by decide +kernel
theorem c281_177 : fx_op 281 177 = some (.iload 6, 179, 177) := by decide +kernel
theorem c281_179 : fx_op 281 179 = some (.istore 7, 181, 179) := by decide +kernel
theorem c281_181 : fx_op 281 181 = some (.aload_n 0, 182, 181) := by decide +kernel
theorem c281_182 : fx_op 281 182 = some (.iload 6, 184, 182) := by decide +kernel
theorem c281_257 : fx_op 281 257 = some (.aload_n 0, 258, 257) := by decide +kernel
theorem c281_165 : fx_op 281 165 = some (.aload_n 0, 166, 165) := by decide +kernel
theorem c281_258 : fx_ca 281 258 = some (215, 1, 2, 261) := by decide +kernel
theorem c281_184 : fx_ca 281 184 = some (271, 2, 2, 187) := by decide +kernel
theorem c281_166 : fx_ca 281 166 = some (248, 1, 2, 169) := by decide +kernel
theorem c281_261 : fx_op 281 261 = some (.aload_n 0, 262, 261) := by decide +kernel
theorem c281_262 : fx_cj 281 262 = some (1835099237, 265) := by decide +kernel
theorem c281_265 : fx_op 281 265 = some (.aload_n 0, 266, 265) := by decide +kernel
theorem c281_266 : fx_ca 281 266 = some (280, 1, 2, 269) := by decide +kernel
theorem c281_187 : fx_op 281 187 = some (.istore 8, 189, 187) := by decide +kernel
theorem c281_189 : fx_op 281 189 = some (.aload_n 0, 190, 189) := by decide +kernel
theorem c281_190 : fx_op 281 190 = some (.iload 7, 192, 190) := by decide +kernel
theorem c281_192 : fx_ca 281 192 = some (271, 2, 2, 195) := by decide +kernel
theorem c281_169 : fx_ci 281 169 = some (1, 170) := by decide +kernel
theorem c281_170 : fx_op 281 170 = some (.isub, 171, 170) := by decide +kernel
theorem c281_171 : fx_op 281 171 = some (.iload 6, 173, 171) := by decide +kernel
theorem c281_173 : fx_op 281 173 = some (.isub, 174, 173) := by decide +kernel
theorem c281_174 : fx_op 281 174 = some (.goto 5, 177, 179) := by decide +kernel
theorem c281_269 : fx_ca 281 269 = some (252, 3, 2, 272) := by decide +kernel
theorem c281_195 : fx_op 281 195 = some (.istore 9, 197, 195) := by decide +kernel
theorem c281_197 : fx_op 281 197 = some (.iload 8, 199, 197) := by decide +kernel
theorem c281_199 : fx_op 281 199 = some (.ifCond .ge 6, 202, 205) := by decide +kernel
theorem c281_205 : fx_op 281 205 = some (.aload_n 0, 206, 205) := by decide +kernel
theorem c281_206 : fx_gf 281 206 = some (12, 45, 209) := by decide +kernel
theorem c281_209 : fx_op 281 209 = some (.iload 6, 211, 209) := by decide +kernel
theorem c281_211 : fx_ci 281 211 = some ((-1), 212) := by decide +kernel
theorem c281_213 : fx_op 281 213 = some (.aload_n 0, 214, 213) := by decide +kernel
theorem c281_214 : fx_gf 281 214 = some (12, 45, 217) := by decide +kernel
theorem c281_217 : fx_op 281 217 = some (.iload 7, 219, 217) := by decide +kernel
theorem c281_219 : fx_ci 281 219 = some ((-1), 220) := by decide +kernel
theorem c281_221 : fx_op 281 221 = some (.aload_n 0, 222, 221) := by decide +kernel
theorem c281_222 : fx_ci 281 222 = some (2, 223) := by decide +kernel
theorem c281_251 : fx_op 281 251 = some (.iinc 5 1, 254, 251) := by decide +kernel
theorem c281_212 : fx_op 281 212 = some (.iastore, 213, 212) := by decide +kernel
theorem c281_220 : fx_op 281 220 = some (.iastore, 221, 220) := by decide +kernel
theorem c281_223 : fx_ca 281 223 = some (268, 2, 2, 226) := by decide +kernel
theorem c281_202 : fx_op 281 202 = some (.goto 49, 205, 251) := by decide +kernel
theorem c281_254 : fx_op 281 254 = some (.goto (-112), 257, 142) := by decide +kernel
theorem c281_272 : fx_op 281 272 = some (.return_, 273, 272) := by decide +kernel
theorem c281_226 : fx_ci 281 226 = some (2, 227) := by decide +kernel
theorem c281_227 : fx_op 281 227 = some (.if_icmp .ge 6, 230, 233) := by decide +kernel
theorem c281_233 : fx_op 281 233 = some (.aload_n 0, 234, 233) := by decide +kernel
theorem c281_234 : fx_gf 281 234 = some (12, 45, 237) := by decide +kernel
theorem c281_237 : fx_op 281 237 = some (.iload 6, 239, 237) := by decide +kernel
theorem c281_239 : fx_op 281 239 = some (.iload 8, 241, 239) := by decide +kernel
theorem c281_242 : fx_op 281 242 = some (.aload_n 0, 243, 242) := by decide +kernel
theorem c281_243 : fx_gf 281 243 = some (12, 45, 246) := by decide +kernel
theorem c281_246 : fx_op 281 246 = some (.iload 7, 248, 246) := by decide +kernel
theorem c281_248 : fx_op 281 248 = some (.iload 9, 250, 248) := by decide +kernel
theorem c281_241 : fx_op 281 241 = some (.iastore, 242, 241) := by decide +kernel
theorem c281_250 : fx_op 281 250 = some (.iastore, 251, 250) := by decide +kernel
theorem c281_230 : fx_op 281 230 = some (.goto 21, 233, 251) := by decide +kernel
theorem s281_0 {kc : List va_E} {d : Nat} {x1 x2 : Int} {M : fx_M} {Q : Option fx_V → fx_M → Prop} (H : ((fx_in32 x2)) ∧ (x2 ≤ 1 → wc kc d 282 [jR 133] M (fun v M1 => wp kc (d + 1) 281 17 [some (jR 133), some (jI x1), some (jI x2), none, none, none, none, none, none, none] (v.toList ++ []) M1 Q)) ∧ (1 < x2 → wc kc d 260 [jR 133, jL 1802071652] M (fun v M1 => wp kc (d + 1) 281 12 [none, none, none, none, none, none, none, none, none, none] (v.toList ++ []) M1 Q))) : wp kc (d + 1) 281 0 [some (jR 133), some (jI x1), some (jI x2), none, none, none, none, none, none, none] [] M Q :=
  (x_ildn c281_0 rfl (x_ci c281_1 (x_cle c281_2 H.1 (by decide) (fun h1 => (x_aldn c281_13 rfl (wp_wk (l' := [some (jR 133), some (jI x1), some (jI x2), none, none, none, none, none, none, none]) ⟨rfl, ⟨rfl, ⟨rfl, trivial⟩⟩⟩ (x_cv (As := []) (st := []) c281_14 cl_133 kl282 rfl (Nat.le_of_ble_eq_true rfl) mx282 (Nat.le_refl _) (H.2.1 h1))))) (fun h2 => (x_aldn c281_5 rfl (x_cj c281_6 (wp_wk (l' := [none, none, none, none, none, none, none, none, none, none]) trivial (x_cv (As := [jL 1802071652]) (st := []) c281_9 cl_133 kl260 rfl (Nat.le_of_ble_eq_true rfl) mx260 (Nat.le_refl _) (H.2.2 h2)))))))))
theorem s281_12 {kc : List va_E} {d : Nat} {M : fx_M} {Q : Option fx_V → fx_M → Prop} (H : Q none M) : wp kc (d + 1) 281 12 [none, none, none, none, none, none, none, none, none, none] [] M Q :=
  (x_vr c281_12 r281 H)
theorem s281_17 {kc : List va_E} {d : Nat} {v1 v2 : Int} {M : fx_M} {Q : Option fx_V → fx_M → Prop} (H : wp kc (d + 1) 281 19 [some (jR 133), some (jI v1), some (jI v2), some (jI 0), none, none, none, none, none, none] [] M Q) : wp kc (d + 1) 281 17 [some (jR 133), some (jI v1), some (jI v2), none, none, none, none, none, none, none] [] M Q :=
  (x_ci c281_17 (x_istn (l' := [some (jR 133), some (jI v1), some (jI v2), some (jI 0), none, none, none, none, none, none]) c281_18 rfl (wp_wk (l' := [some (jR 133), some (jI v1), some (jI v2), some (jI 0), none, none, none, none, none, none]) ⟨rfl, ⟨rfl, ⟨rfl, ⟨rfl, trivial⟩⟩⟩⟩ H)))
theorem s281_19 {kc : List va_E} {d : Nat} {v1 v2 v3 : Int} {M : fx_M} {Q : Option fx_V → fx_M → Prop} (H : ((fx_in32 v3)) ∧ (9 ≤ v3 → wc kc d 268 [jR 133, jI 1000000] M (fun v M1 => wp kc (d + 1) 281 45 [some (jR 133), some (jI v1), some (jI v2), none, none, none, none, none, none, none] (v.toList ++ []) M1 Q)) ∧ (v3 < 9 → (((0 : Int) ≤ v3 ∧ v3 < 90)) ∧ wp kc (d + 1) 281 19 [some (jR 133), some (jI v1), some (jI v2), some (jI (v3 + 1)), none, none, none, none, none, none] [] (fx_up M 154 v3 (-1)) Q)) : wp kc (d + 1) 281 19 [some (jR 133), some (jI v1), some (jI v2), some (jI v3), none, none, none, none, none, none] [] M Q :=
  (x_ildn c281_19 rfl (x_ci c281_20 (x_cge c281_22 H.1 (by decide) (fun h1 => (x_aldn c281_38 rfl (x_ci c281_39 (wp_wk (l' := [some (jR 133), some (jI v1), some (jI v2), none, none, none, none, none, none, none]) ⟨rfl, ⟨rfl, ⟨rfl, trivial⟩⟩⟩ (x_cv (As := [jI 1000000]) (st := []) c281_42 cl_133 kl268 rfl (Nat.le_of_ble_eq_true rfl) mx268 (Nat.le_refl _) (H.2.1 h1)))))) (fun h2 => (x_aldn c281_25 rfl (x_gfr c281_26 k_133_45 (x_ildn c281_29 rfl (x_ci c281_30 (x_iast c281_31 a_154 (H.2.2 h2).1 (by decide) (x_inc (l' := [some (jR 133), some (jI v1), some (jI v2), some (jI (v3 + 1)), none, none, none, none, none, none]) c281_32 rfl rfl (x_goto c281_35 (wp_wk (l' := [some (jR 133), some (jI v1), some (jI v2), some (jI (v3 + 1)), none, none, none, none, none, none]) ⟨rfl, ⟨rfl, ⟨rfl, ⟨rfl, trivial⟩⟩⟩⟩ (H.2.2 h2).2))))))))))))
theorem s281_45 {kc : List va_E} {d : Nat} {v1 v2 u0 : Int} {M : fx_M} {Q : Option fx_V → fx_M → Prop} (H : ((fx_in32 u0)) ∧ (u0 ≠ 0 → ((fx_in32 v1)) ∧ wc kc d 284 [jR 133, jI u0] (fx_up M 133 71 v1) (fun v M1 => wp kc (d + 1) 281 73 [some (jR 133), none, some (jI v2), none, none, none, none, none, none, none] (v.toList ++ []) M1 Q)) ∧ (u0 = 0 → wc kc d 283 [jR 133] M (fun v M1 => wp kc (d + 1) 281 54 [some (jR 133), none, none, none, none, none, none, none, none, none] (v.toList ++ []) M1 Q))) : wp kc (d + 1) 281 45 [some (jR 133), some (jI v1), some (jI v2), none, none, none, none, none, none, none] [jI u0] M Q :=
  (x_istn (l' := [some (jR 133), some (jI v1), some (jI v2), some (jI u0), none, none, none, none, none, none]) c281_45 rfl (x_ildn c281_46 rfl (x_zne c281_47 H.1 (fun h1 => (x_aldn c281_62 rfl (x_ildn c281_63 rfl (x_i2l c281_64 (H.2.1 h1).1 (x_pfl c281_65 k_133_71 (x_aldn c281_68 rfl (x_ildn c281_69 rfl (wp_wk (l' := [some (jR 133), none, some (jI v2), none, none, none, none, none, none, none]) ⟨rfl, ⟨rfl, trivial⟩⟩ (x_cv (As := [jI u0]) (st := []) c281_70 cl_133 kl284 rfl (Nat.le_of_ble_eq_true rfl) mx284 (Nat.le_refl _) (H.2.1 h1).2))))))))) (fun h2 => (x_aldn c281_50 rfl (wp_wk (l' := [some (jR 133), none, none, none, none, none, none, none, none, none]) ⟨rfl, trivial⟩ (x_cv (As := []) (st := []) c281_51 cl_133 kl283 rfl (Nat.le_of_ble_eq_true rfl) mx283 (Nat.le_refl _) (H.2.2 h2))))))))
theorem s281_54 {kc : List va_E} {d : Nat} {M : fx_M} {Q : Option fx_V → fx_M → Prop} (H : wc kc d 253 [jR 133, jL 1852796517] M (fun v M1 => wp kc (d + 1) 281 61 [none, none, none, none, none, none, none, none, none, none] (v.toList ++ []) M1 Q)) : wp kc (d + 1) 281 54 [some (jR 133), none, none, none, none, none, none, none, none, none] [] M Q :=
  (x_aldn c281_54 rfl (x_cj c281_55 (wp_wk (l' := [none, none, none, none, none, none, none, none, none, none]) trivial (x_cv (As := [jL 1852796517]) (st := []) c281_58 cl_133 kl253 rfl (Nat.le_of_ble_eq_true rfl) mx253 (Nat.le_refl _) H))))
theorem s281_61 {kc : List va_E} {d : Nat} {M : fx_M} {Q : Option fx_V → fx_M → Prop} (H : Q none M) : wp kc (d + 1) 281 61 [none, none, none, none, none, none, none, none, none, none] [] M Q :=
  (x_vr c281_61 r281 H)
theorem s281_73 {kc : List va_E} {d : Nat} {v2 u0 : Int} {M : fx_M} {Q : Option fx_V → fx_M → Prop} (H : wc kc d 269 [jR 133, jI 1] M (fun v M1 => wp kc (d + 1) 281 80 [some (jR 133), none, some (jI v2), none, some (jI u0), none, none, none, none, none] (v.toList ++ []) M1 Q)) : wp kc (d + 1) 281 73 [some (jR 133), none, some (jI v2), none, none, none, none, none, none, none] [jI u0] M Q :=
  (x_ist (l' := [some (jR 133), none, some (jI v2), none, some (jI u0), none, none, none, none, none]) c281_73 rfl (x_aldn c281_75 rfl (x_ci c281_76 (wp_wk (l' := [some (jR 133), none, some (jI v2), none, some (jI u0), none, none, none, none, none]) ⟨rfl, ⟨rfl, ⟨rfl, trivial⟩⟩⟩ (x_cv (As := [jI 1]) (st := []) c281_77 cl_133 kl269 rfl (Nat.le_of_ble_eq_true rfl) mx269 (Nat.le_refl _) H)))))
theorem s281_80 {kc : List va_E} {d : Nat} {v2 v4 u0 : Int} {M : fx_M} {Q : Option fx_V → fx_M → Prop} (H : wp kc (d + 1) 281 84 [some (jR 133), none, some (jI v2), none, some (jI v4), some (jI 0), none, none, none, none] [] M Q) : wp kc (d + 1) 281 80 [some (jR 133), none, some (jI v2), none, some (jI v4), none, none, none, none, none] [jI u0] M Q :=
  (x_popi c281_80 (x_ci c281_81 (x_ist (l' := [some (jR 133), none, some (jI v2), none, some (jI v4), some (jI 0), none, none, none, none]) c281_82 rfl (wp_wk (l' := [some (jR 133), none, some (jI v2), none, some (jI v4), some (jI 0), none, none, none, none]) ⟨rfl, ⟨rfl, ⟨rfl, ⟨rfl, trivial⟩⟩⟩⟩ H))))
theorem s281_84 {kc : List va_E} {d : Nat} {v2 v4 v5 : Int} {M : fx_M} {Q : Option fx_V → fx_M → Prop} (H : ((fx_in32 v5) ∧ (fx_in32 v4)) ∧ (v4 ≤ v5 → wp kc (d + 1) 281 106 [some (jR 133), none, some (jI v2), none, none, some (jI 0), none, none, none, none] [] M Q) ∧ (v5 < v4 → wc kc d 269 [jR 133, jI 0] M (fun v M1 => wp kc (d + 1) 281 96 [some (jR 133), none, some (jI v2), none, some (jI v4), some (jI v5), none, none, none, none] (v.toList ++ []) M1 Q))) : wp kc (d + 1) 281 84 [some (jR 133), none, some (jI v2), none, some (jI v4), some (jI v5), none, none, none, none] [] M Q :=
  (x_ild c281_84 rfl (x_ild c281_86 rfl (x_cge c281_88 H.1.1 H.1.2 (fun h1 => (x_ci c281_103 (x_ist (l' := [some (jR 133), none, some (jI v2), none, some (jI v4), some (jI 0), none, none, none, none]) c281_104 rfl (wp_wk (l' := [some (jR 133), none, some (jI v2), none, none, some (jI 0), none, none, none, none]) ⟨rfl, ⟨rfl, ⟨rfl, trivial⟩⟩⟩ (H.2.1 h1))))) (fun h2 => (x_aldn c281_91 rfl (x_ci c281_92 (wp_wk (l' := [some (jR 133), none, some (jI v2), none, some (jI v4), some (jI v5), none, none, none, none]) ⟨rfl, ⟨rfl, ⟨rfl, ⟨rfl, trivial⟩⟩⟩⟩ (x_cv (As := [jI 0]) (st := []) c281_93 cl_133 kl269 rfl (Nat.le_of_ble_eq_true rfl) mx269 (Nat.le_refl _) (H.2.2 h2)))))))))
theorem s281_96 {kc : List va_E} {d : Nat} {v2 v4 v5 u0 : Int} {M : fx_M} {Q : Option fx_V → fx_M → Prop} (H : wp kc (d + 1) 281 84 [some (jR 133), none, some (jI v2), none, some (jI v4), some (jI (v5 + 1)), none, none, none, none] [] M Q) : wp kc (d + 1) 281 96 [some (jR 133), none, some (jI v2), none, some (jI v4), some (jI v5), none, none, none, none] [jI u0] M Q :=
  (x_popi c281_96 (x_inc (l' := [some (jR 133), none, some (jI v2), none, some (jI v4), some (jI (v5 + 1)), none, none, none, none]) c281_97 rfl rfl (x_goto c281_100 (wp_wk (l' := [some (jR 133), none, some (jI v2), none, some (jI v4), some (jI (v5 + 1)), none, none, none, none]) ⟨rfl, ⟨rfl, ⟨rfl, ⟨rfl, trivial⟩⟩⟩⟩ H))))
theorem s281_106 {kc : List va_E} {d : Nat} {v2 v5 : Int} {M : fx_M} {Q : Option fx_V → fx_M → Prop} (H : wc kc d 248 [jR 133] M (fun v M1 => wp kc (d + 1) 281 112 [some (jR 133), none, some (jI v2), none, none, some (jI v5), none, none, none, none] (v.toList ++ [jI v5]) M1 Q)) : wp kc (d + 1) 281 106 [some (jR 133), none, some (jI v2), none, none, some (jI v5), none, none, none, none] [] M Q :=
  (x_ild c281_106 rfl (x_aldn c281_108 rfl (wp_wk (l' := [some (jR 133), none, some (jI v2), none, none, some (jI v5), none, none, none, none]) ⟨rfl, ⟨rfl, ⟨rfl, trivial⟩⟩⟩ (x_cv (As := []) (st := [jI v5]) c281_109 cl_133 kl248 rfl (Nat.le_of_ble_eq_true rfl) mx248 (Nat.le_refl _) H))))
theorem s281_112 {kc : List va_E} {d : Nat} {v2 v5 u0 u1 : Int} {M : fx_M} {Q : Option fx_V → fx_M → Prop} (H : ((fx_in32 u1) ∧ (fx_in32 u0)) ∧ (u0 ≤ u1 → wc kc d 285 [jR 133] M (fun v M1 => wp kc (d + 1) 281 139 [some (jR 133), none, some (jI v2), none, none, none, none, none, none, none] (v.toList ++ []) M1 Q)) ∧ (u1 < u0 → (((0 : Int) ≤ v5 ∧ v5 < 9)) ∧ (((0 : Int) ≤ v5 ∧ v5 < 90)) ∧ wp kc (d + 1) 281 106 [some (jR 133), none, some (jI v2), none, none, some (jI (v5 + 1)), none, none, none, none] [] (fx_up M 154 v5 (M 155 v5)) Q)) : wp kc (d + 1) 281 112 [some (jR 133), none, some (jI v2), none, none, some (jI v5), none, none, none, none] [jI u0, jI u1] M Q :=
  (x_cge c281_112 H.1.1 H.1.2 (fun h1 => (x_aldn c281_135 rfl (wp_wk (l' := [some (jR 133), none, some (jI v2), none, none, none, none, none, none, none]) ⟨rfl, ⟨rfl, trivial⟩⟩ (x_cv (As := []) (st := []) c281_136 cl_133 kl285 rfl (Nat.le_of_ble_eq_true rfl) mx285 (Nat.le_refl _) (H.2.1 h1))))) (fun h2 => (x_aldn c281_115 rfl (x_gfr c281_116 k_133_45 (x_ild c281_119 rfl (x_aldn c281_121 rfl (x_gfr c281_122 k_133_46 (x_ild c281_125 rfl (x_iald c281_127 a_155 (H.2.2 h2).1 (by decide) (x_iast c281_128 a_154 (H.2.2 h2).2.1 (by decide) (x_inc (l' := [some (jR 133), none, some (jI v2), none, none, some (jI (v5 + 1)), none, none, none, none]) c281_129 rfl rfl (x_goto c281_132 (wp_wk (l' := [some (jR 133), none, some (jI v2), none, none, some (jI (v5 + 1)), none, none, none, none]) ⟨rfl, ⟨rfl, ⟨rfl, trivial⟩⟩⟩ (H.2.2 h2).2.2)))))))))))))
theorem s281_139 {kc : List va_E} {d : Nat} {v2 : Int} {M : fx_M} {Q : Option fx_V → fx_M → Prop} (H : wp kc (d + 1) 281 142 [some (jR 133), none, some (jI v2), none, none, some (jI 0), none, none, none, none] [] M Q) : wp kc (d + 1) 281 139 [some (jR 133), none, some (jI v2), none, none, none, none, none, none, none] [] M Q :=
  (x_ci c281_139 (x_ist (l' := [some (jR 133), none, some (jI v2), none, none, some (jI 0), none, none, none, none]) c281_140 rfl (wp_wk (l' := [some (jR 133), none, some (jI v2), none, none, some (jI 0), none, none, none, none]) ⟨rfl, ⟨rfl, ⟨rfl, trivial⟩⟩⟩ H)))
theorem s281_142 {kc : List va_E} {d : Nat} {v2 v5 : Int} {M : fx_M} {Q : Option fx_V → fx_M → Prop} (H : wc kc d 248 [jR 133] M (fun v M1 => wp kc (d + 1) 281 148 [some (jR 133), none, some (jI v2), none, none, some (jI v5), none, none, none, none] (v.toList ++ [jI v5]) M1 Q)) : wp kc (d + 1) 281 142 [some (jR 133), none, some (jI v2), none, none, some (jI v5), none, none, none, none] [] M Q :=
  (x_ild c281_142 rfl (x_aldn c281_144 rfl (wp_wk (l' := [some (jR 133), none, some (jI v2), none, none, some (jI v5), none, none, none, none]) ⟨rfl, ⟨rfl, ⟨rfl, trivial⟩⟩⟩ (x_cv (As := []) (st := [jI v5]) c281_145 cl_133 kl248 rfl (Nat.le_of_ble_eq_true rfl) mx248 (Nat.le_refl _) H))))
theorem s281_148 {kc : List va_E} {d : Nat} {v2 v5 u0 u1 : Int} {M : fx_M} {Q : Option fx_V → fx_M → Prop} (H : ((fx_in32 u1) ∧ (fx_in32 u0)) ∧ (u0 ≤ u1 → wc kc d 215 [jR 133] M (fun v M1 => wp kc (d + 1) 281 261 [some (jR 133), none, none, none, none, none, none, none, none, none] (v.toList ++ []) M1 Q)) ∧ (u1 < u0 → (((0 : Int) ≤ v5 ∧ v5 < 9)) ∧ ((fx_in32 v2)) ∧ (v2 ≠ 1 → wc kc d 271 [jR 133, jI (M 168 v5)] M (fun v M1 => wp kc (d + 1) 281 187 [some (jR 133), none, some (jI v2), none, none, some (jI v5), some (jI (M 168 v5)), some (jI (M 168 v5)), none, none] (v.toList ++ []) M1 Q)) ∧ (v2 = 1 → wc kc d 248 [jR 133] M (fun v M1 => wp kc (d + 1) 281 169 [some (jR 133), none, some (jI v2), none, none, some (jI v5), some (jI (M 168 v5)), none, none, none] (v.toList ++ []) M1 Q)))) : wp kc (d + 1) 281 148 [some (jR 133), none, some (jI v2), none, none, some (jI v5), none, none, none, none] [jI u0, jI u1] M Q :=
  (x_cge c281_148 H.1.1 H.1.2 (fun h3 => (x_aldn c281_257 rfl (wp_wk (l' := [some (jR 133), none, none, none, none, none, none, none, none, none]) ⟨rfl, trivial⟩ (x_cv (As := []) (st := []) c281_258 cl_133 kl215 rfl (Nat.le_of_ble_eq_true rfl) mx215 (Nat.le_refl _) (H.2.1 h3))))) (fun h4 => (x_aldn c281_151 rfl (x_gfr c281_152 k_133_72 (x_ild c281_155 rfl (x_iald c281_157 a_168 (H.2.2 h4).1 (by decide) (x_ist (l' := [some (jR 133), none, some (jI v2), none, none, some (jI v5), some (jI (M 168 v5)), none, none, none]) c281_158 rfl (x_ildn c281_160 rfl (x_ci c281_161 (x_cne c281_162 (H.2.2 h4).2.1 (by decide) (fun h1 => (x_ild c281_177 rfl (x_ist (l' := [some (jR 133), none, some (jI v2), none, none, some (jI v5), some (jI (M 168 v5)), some (jI (M 168 v5)), none, none]) c281_179 rfl (x_aldn c281_181 rfl (x_ild c281_182 rfl (wp_wk (l' := [some (jR 133), none, some (jI v2), none, none, some (jI v5), some (jI (M 168 v5)), some (jI (M 168 v5)), none, none]) ⟨rfl, ⟨rfl, ⟨rfl, ⟨rfl, ⟨rfl, trivial⟩⟩⟩⟩⟩ (x_cv (As := [jI (M 168 v5)]) (st := []) c281_184 cl_133 kl271 rfl (Nat.le_of_ble_eq_true rfl) mx271 (Nat.le_refl _) ((H.2.2 h4).2.2.1 h1)))))))) (fun h2 => (x_aldn c281_165 rfl (wp_wk (l' := [some (jR 133), none, some (jI v2), none, none, some (jI v5), some (jI (M 168 v5)), none, none, none]) ⟨rfl, ⟨rfl, ⟨rfl, ⟨rfl, trivial⟩⟩⟩⟩ (x_cv (As := []) (st := []) c281_166 cl_133 kl248 rfl (Nat.le_of_ble_eq_true rfl) mx248 (Nat.le_refl _) ((H.2.2 h4).2.2.2 h2)))))))))))))))
theorem s281_169 {kc : List va_E} {d : Nat} {v2 v5 v6 u0 : Int} {M : fx_M} {Q : Option fx_V → fx_M → Prop} (H : wc kc d 271 [jR 133, jI v6] M (fun v M1 => wp kc (d + 1) 281 187 [some (jR 133), none, some (jI v2), none, none, some (jI v5), some (jI v6), some (jI ((u0 - 1) - v6)), none, none] (v.toList ++ []) M1 Q)) : wp kc (d + 1) 281 169 [some (jR 133), none, some (jI v2), none, none, some (jI v5), some (jI v6), none, none, none] [jI u0] M Q :=
  (x_ci c281_169 (x_isub c281_170 (x_ild c281_171 rfl (x_isub c281_173 (x_goto c281_174 (x_ist (l' := [some (jR 133), none, some (jI v2), none, none, some (jI v5), some (jI v6), some (jI ((u0 - 1) - v6)), none, none]) c281_179 rfl (x_aldn c281_181 rfl (x_ild c281_182 rfl (wp_wk (l' := [some (jR 133), none, some (jI v2), none, none, some (jI v5), some (jI v6), some (jI ((u0 - 1) - v6)), none, none]) ⟨rfl, ⟨rfl, ⟨rfl, ⟨rfl, ⟨rfl, trivial⟩⟩⟩⟩⟩ (x_cv (As := [jI v6]) (st := []) c281_184 cl_133 kl271 rfl (Nat.le_of_ble_eq_true rfl) mx271 (Nat.le_refl _) H))))))))))
theorem s281_187 {kc : List va_E} {d : Nat} {v2 v5 v6 v7 u0 : Int} {M : fx_M} {Q : Option fx_V → fx_M → Prop} (H : wc kc d 271 [jR 133, jI v7] M (fun v M1 => wp kc (d + 1) 281 195 [some (jR 133), none, some (jI v2), none, none, some (jI v5), some (jI v6), some (jI v7), some (jI u0), none] (v.toList ++ []) M1 Q)) : wp kc (d + 1) 281 187 [some (jR 133), none, some (jI v2), none, none, some (jI v5), some (jI v6), some (jI v7), none, none] [jI u0] M Q :=
  (x_ist (l' := [some (jR 133), none, some (jI v2), none, none, some (jI v5), some (jI v6), some (jI v7), some (jI u0), none]) c281_187 rfl (x_aldn c281_189 rfl (x_ild c281_190 rfl (wp_wk (l' := [some (jR 133), none, some (jI v2), none, none, some (jI v5), some (jI v6), some (jI v7), some (jI u0), none]) ⟨rfl, ⟨rfl, ⟨rfl, ⟨rfl, ⟨rfl, ⟨rfl, trivial⟩⟩⟩⟩⟩⟩ (x_cv (As := [jI v7]) (st := []) c281_192 cl_133 kl271 rfl (Nat.le_of_ble_eq_true rfl) mx271 (Nat.le_refl _) H)))))
theorem s281_195 {kc : List va_E} {d : Nat} {v2 v5 v6 v7 v8 u0 : Int} {M : fx_M} {Q : Option fx_V → fx_M → Prop} (H : ((fx_in32 v8)) ∧ (0 ≤ v8 → (((0 : Int) ≤ v6 ∧ v6 < 90)) ∧ (((0 : Int) ≤ v7 ∧ v7 < 90)) ∧ wc kc d 268 [jR 133, jI 2] (fx_up (fx_up M 154 v6 (-1)) 154 v7 (-1)) (fun v M1 => wp kc (d + 1) 281 226 [some (jR 133), none, some (jI v2), none, none, some (jI v5), some (jI v6), some (jI v7), some (jI v8), some (jI u0)] (v.toList ++ []) M1 Q)) ∧ (v8 < 0 → wp kc (d + 1) 281 142 [some (jR 133), none, some (jI v2), none, none, some (jI (v5 + 1)), none, none, none, none] [] M Q)) : wp kc (d + 1) 281 195 [some (jR 133), none, some (jI v2), none, none, some (jI v5), some (jI v6), some (jI v7), some (jI v8), none] [jI u0] M Q :=
  (x_ist (l' := [some (jR 133), none, some (jI v2), none, none, some (jI v5), some (jI v6), some (jI v7), some (jI v8), some (jI u0)]) c281_195 rfl (x_ild c281_197 rfl (x_zge c281_199 H.1 (fun h1 => (x_aldn c281_205 rfl (x_gfr c281_206 k_133_45 (x_ild c281_209 rfl (x_ci c281_211 (x_iast c281_212 a_154 (H.2.1 h1).1 (by decide) (x_aldn c281_213 rfl (x_gfr c281_214 k_133_45 (x_ild c281_217 rfl (x_ci c281_219 (x_iast c281_220 a_154 (H.2.1 h1).2.1 (by decide) (x_aldn c281_221 rfl (x_ci c281_222 (wp_wk (l' := [some (jR 133), none, some (jI v2), none, none, some (jI v5), some (jI v6), some (jI v7), some (jI v8), some (jI u0)]) ⟨rfl, ⟨rfl, ⟨rfl, ⟨rfl, ⟨rfl, ⟨rfl, ⟨rfl, trivial⟩⟩⟩⟩⟩⟩⟩ (x_cv (As := [jI 2]) (st := []) c281_223 cl_133 kl268 rfl (Nat.le_of_ble_eq_true rfl) mx268 (Nat.le_refl _) (H.2.1 h1).2.2))))))))))))))) (fun h2 => (x_goto c281_202 (x_inc (l' := [some (jR 133), none, some (jI v2), none, none, some (jI (v5 + 1)), some (jI v6), some (jI v7), some (jI v8), some (jI u0)]) c281_251 rfl rfl (x_goto c281_254 (wp_wk (l' := [some (jR 133), none, some (jI v2), none, none, some (jI (v5 + 1)), none, none, none, none]) ⟨rfl, ⟨rfl, ⟨rfl, trivial⟩⟩⟩ (H.2.2 h2)))))))))
theorem s281_226 {kc : List va_E} {d : Nat} {v2 v5 v6 v7 v8 v9 u0 : Int} {M : fx_M} {Q : Option fx_V → fx_M → Prop} (H : ((fx_in32 u0)) ∧ (2 ≤ u0 → (((0 : Int) ≤ v6 ∧ v6 < 90)) ∧ (((0 : Int) ≤ v7 ∧ v7 < 90)) ∧ wp kc (d + 1) 281 142 [some (jR 133), none, some (jI v2), none, none, some (jI (v5 + 1)), none, none, none, none] [] (fx_up (fx_up M 154 v6 v8) 154 v7 v9) Q) ∧ (u0 < 2 → wp kc (d + 1) 281 142 [some (jR 133), none, some (jI v2), none, none, some (jI (v5 + 1)), none, none, none, none] [] M Q)) : wp kc (d + 1) 281 226 [some (jR 133), none, some (jI v2), none, none, some (jI v5), some (jI v6), some (jI v7), some (jI v8), some (jI v9)] [jI u0] M Q :=
  (x_ci c281_226 (x_cge c281_227 H.1 (by decide) (fun h1 => (x_aldn c281_233 rfl (x_gfr c281_234 k_133_45 (x_ild c281_237 rfl (x_ild c281_239 rfl (x_iast c281_241 a_154 (H.2.1 h1).1 (by decide) (x_aldn c281_242 rfl (x_gfr c281_243 k_133_45 (x_ild c281_246 rfl (x_ild c281_248 rfl (x_iast c281_250 a_154 (H.2.1 h1).2.1 (by decide) (x_inc (l' := [some (jR 133), none, some (jI v2), none, none, some (jI (v5 + 1)), some (jI v6), some (jI v7), some (jI v8), some (jI v9)]) c281_251 rfl rfl (x_goto c281_254 (wp_wk (l' := [some (jR 133), none, some (jI v2), none, none, some (jI (v5 + 1)), none, none, none, none]) ⟨rfl, ⟨rfl, ⟨rfl, trivial⟩⟩⟩ (H.2.1 h1).2.2)))))))))))))) (fun h2 => (x_goto c281_230 (x_inc (l' := [some (jR 133), none, some (jI v2), none, none, some (jI (v5 + 1)), some (jI v6), some (jI v7), some (jI v8), some (jI v9)]) c281_251 rfl rfl (x_goto c281_254 (wp_wk (l' := [some (jR 133), none, some (jI v2), none, none, some (jI (v5 + 1)), none, none, none, none]) ⟨rfl, ⟨rfl, ⟨rfl, trivial⟩⟩⟩ (H.2.2 h2))))))))
theorem s281_261 {kc : List va_E} {d : Nat} {M : fx_M} {Q : Option fx_V → fx_M → Prop} (H : wc kc d 280 [jR 133] M (fun v M1 => wp kc (d + 1) 281 269 [none, none, none, none, none, none, none, none, none, none] (v.toList ++ [jL 1835099237, jR 133]) M1 Q)) : wp kc (d + 1) 281 261 [some (jR 133), none, none, none, none, none, none, none, none, none] [] M Q :=
  (x_aldn c281_261 rfl (x_cj c281_262 (x_aldn c281_265 rfl (wp_wk (l' := [none, none, none, none, none, none, none, none, none, none]) trivial (x_cv (As := []) (st := [jL 1835099237, jR 133]) c281_266 cl_133 kl280 rfl (Nat.le_of_ble_eq_true rfl) mx280 (Nat.le_refl _) H)))))
theorem s281_269 {kc : List va_E} {d : Nat} {u0 u1 : Int} {M : fx_M} {Q : Option fx_V → fx_M → Prop} (H : wc kc d 252 [jR 133, jL u1, jI u0] M (fun v M1 => wp kc (d + 1) 281 272 [none, none, none, none, none, none, none, none, none, none] (v.toList ++ []) M1 Q)) : wp kc (d + 1) 281 269 [none, none, none, none, none, none, none, none, none, none] [jI u0, jL u1, jR 133] M Q :=
  (wp_wk (l' := [none, none, none, none, none, none, none, none, none, none]) trivial (x_cv (As := [jL u1, jI u0]) (st := []) c281_269 cl_133 kl252 rfl (Nat.le_of_ble_eq_true rfl) mx252 (Nat.le_refl _) H))
theorem s281_272 {kc : List va_E} {d : Nat} {M : fx_M} {Q : Option fx_V → fx_M → Prop} (H : Q none M) : wp kc (d + 1) 281 272 [none, none, none, none, none, none, none, none, none, none] [] M Q :=
  (x_vr c281_272 r281 H)
theorem s281 {kc : List va_E} {d : Nat} {x1 x2 : Int} {M : fx_M} {Q : Option fx_V → fx_M → Prop} (H : ((fx_in32 x2)) ∧ (x2 ≤ 1 → wc kc d 282 [jR 133] M (fun v M1 => wp kc (d + 1) 281 17 [some (jR 133), some (jI x1), some (jI x2), none, none, none, none, none, none, none] (v.toList ++ []) M1 Q)) ∧ (1 < x2 → wc kc d 260 [jR 133, jL 1802071652] M (fun v M1 => wp kc (d + 1) 281 12 [none, none, none, none, none, none, none, none, none, none] (v.toList ++ []) M1 Q))) : wc kc (d + 1) 281 [jR 133, jI x1, jI x2] M Q :=
  wc_of (wp_wk (l' := [some (jR 133), some (jI x1), some (jI x2), none, none, none, none, none, none, none]) ⟨rfl, ⟨rfl, ⟨rfl, trivial⟩⟩⟩ (s281_0 H))

/- PuzzleHouseModel.keepGivens()V -/
theorem c282_0 : fx_ci 282 0 = some (0, 1) := by decide +kernel
theorem c282_1 : fx_op 282 1 = some (.istore_n 1, 2, 1) := by decide +kernel
theorem c282_2 : fx_op 282 2 = some (.iload_n 1, 3, 2) := by decide +kernel
theorem c282_3 : fx_ci 282 3 = some (9, 5) := by decide +kernel
theorem c282_5 : fx_op 282 5 = some (.if_icmp .ge 21, 8, 26) := by decide +kernel
theorem c282_8 : fx_op 282 8 = some (.aload_n 0, 9, 8) := by decide +kernel
theorem c282_9 : fx_gf 282 9 = some (12, 70, 12) := by decide +kernel
theorem c282_12 : fx_op 282 12 = some (.iload_n 1, 13, 12) := by decide +kernel
theorem c282_13 : fx_op 282 13 = some (.aload_n 0, 14, 13) := by decide +kernel
theorem c282_14 : fx_gf 282 14 = some (12, 45, 17) := by decide +kernel
theorem c282_17 : fx_op 282 17 = some (.iload_n 1, 18, 17) := by decide +kernel
theorem c282_18 : fx_op 282 18 = some (.iaload, 19, 18) := by decide +kernel
theorem c282_20 : fx_op 282 20 = some (.iinc 1 1, 23, 20) := by decide +kernel
theorem c282_26 : fx_op 282 26 = some (.return_, 27, 26) := by decide +kernel
theorem c282_19 : fx_op 282 19 = some (.iastore, 20, 19) := by decide +kernel
theorem c282_23 : fx_op 282 23 = some (.goto (-21), 26, 2) := by decide +kernel
theorem s282_0 {kc : List va_E} {d : Nat} {M : fx_M} {Q : Option fx_V → fx_M → Prop} (H : wp kc (d + 1) 282 2 [some (jR 133), some (jI 0)] [] M Q) : wp kc (d + 1) 282 0 [some (jR 133), none] [] M Q :=
  (x_ci c282_0 (x_istn (l' := [some (jR 133), some (jI 0)]) c282_1 rfl (wp_wk (l' := [some (jR 133), some (jI 0)]) ⟨rfl, ⟨rfl, trivial⟩⟩ H)))
theorem s282_2 {kc : List va_E} {d : Nat} {v1 : Int} {M : fx_M} {Q : Option fx_V → fx_M → Prop} (H : ((fx_in32 v1)) ∧ (9 ≤ v1 → Q none M) ∧ (v1 < 9 → (((0 : Int) ≤ v1 ∧ v1 < 90)) ∧ (((0 : Int) ≤ v1 ∧ v1 < 9)) ∧ wp kc (d + 1) 282 2 [some (jR 133), some (jI (v1 + 1))] [] (fx_up M 167 v1 (M 154 v1)) Q)) : wp kc (d + 1) 282 2 [some (jR 133), some (jI v1)] [] M Q :=
  (x_ildn c282_2 rfl (x_ci c282_3 (x_cge c282_5 H.1 (by decide) (fun h1 => (x_vr c282_26 r282 (H.2.1 h1))) (fun h2 => (x_aldn c282_8 rfl (x_gfr c282_9 k_133_70 (x_ildn c282_12 rfl (x_aldn c282_13 rfl (x_gfr c282_14 k_133_45 (x_ildn c282_17 rfl (x_iald c282_18 a_154 (H.2.2 h2).1 (by decide) (x_iast c282_19 a_167 (H.2.2 h2).2.1 (by decide) (x_inc (l' := [some (jR 133), some (jI (v1 + 1))]) c282_20 rfl rfl (x_goto c282_23 (wp_wk (l' := [some (jR 133), some (jI (v1 + 1))]) ⟨rfl, ⟨rfl, trivial⟩⟩ (H.2.2 h2).2.2)))))))))))))))
theorem s282 {kc : List va_E} {d : Nat} {M : fx_M} {Q : Option fx_V → fx_M → Prop} (H : wp kc (d + 1) 282 2 [some (jR 133), some (jI 0)] [] M Q) : wc kc (d + 1) 282 [jR 133] M Q :=
  wc_of (wp_wk (l' := [some (jR 133), none]) ⟨rfl, trivial⟩ (s282_0 H))

/- PuzzleHouseModel.takeGivens()V -/
theorem c283_0 : fx_ci 283 0 = some (0, 1) := by decide +kernel
theorem c283_1 : fx_op 283 1 = some (.istore_n 1, 2, 1) := by decide +kernel
theorem c283_2 : fx_op 283 2 = some (.iload_n 1, 3, 2) := by decide +kernel
theorem c283_3 : fx_ci 283 3 = some (9, 5) := by decide +kernel
theorem c283_5 : fx_op 283 5 = some (.if_icmp .ge 21, 8, 26) := by decide +kernel
theorem c283_8 : fx_op 283 8 = some (.aload_n 0, 9, 8) := by decide +kernel
theorem c283_9 : fx_gf 283 9 = some (12, 45, 12) := by decide +kernel
theorem c283_12 : fx_op 283 12 = some (.iload_n 1, 13, 12) := by decide +kernel
theorem c283_13 : fx_op 283 13 = some (.aload_n 0, 14, 13) := by decide +kernel
theorem c283_14 : fx_gf 283 14 = some (12, 70, 17) := by decide +kernel
theorem c283_17 : fx_op 283 17 = some (.iload_n 1, 18, 17) := by decide +kernel
theorem c283_18 : fx_op 283 18 = some (.iaload, 19, 18) := by decide +kernel
theorem c283_20 : fx_op 283 20 = some (.iinc 1 1, 23, 20) := by decide +kernel
theorem c283_26 : fx_op 283 26 = some (.return_, 27, 26) := by decide +kernel
theorem c283_19 : fx_op 283 19 = some (.iastore, 20, 19) := by decide +kernel
theorem c283_23 : fx_op 283 23 = some (.goto (-21), 26, 2) := by decide +kernel
theorem s283_0 {kc : List va_E} {d : Nat} {M : fx_M} {Q : Option fx_V → fx_M → Prop} (H : wp kc (d + 1) 283 2 [some (jR 133), some (jI 0)] [] M Q) : wp kc (d + 1) 283 0 [some (jR 133), none] [] M Q :=
  (x_ci c283_0 (x_istn (l' := [some (jR 133), some (jI 0)]) c283_1 rfl (wp_wk (l' := [some (jR 133), some (jI 0)]) ⟨rfl, ⟨rfl, trivial⟩⟩ H)))
theorem s283_2 {kc : List va_E} {d : Nat} {v1 : Int} {M : fx_M} {Q : Option fx_V → fx_M → Prop} (H : ((fx_in32 v1)) ∧ (9 ≤ v1 → Q none M) ∧ (v1 < 9 → (((0 : Int) ≤ v1 ∧ v1 < 9)) ∧ (((0 : Int) ≤ v1 ∧ v1 < 90)) ∧ wp kc (d + 1) 283 2 [some (jR 133), some (jI (v1 + 1))] [] (fx_up M 154 v1 (M 167 v1)) Q)) : wp kc (d + 1) 283 2 [some (jR 133), some (jI v1)] [] M Q :=
  (x_ildn c283_2 rfl (x_ci c283_3 (x_cge c283_5 H.1 (by decide) (fun h1 => (x_vr c283_26 r283 (H.2.1 h1))) (fun h2 => (x_aldn c283_8 rfl (x_gfr c283_9 k_133_45 (x_ildn c283_12 rfl (x_aldn c283_13 rfl (x_gfr c283_14 k_133_70 (x_ildn c283_17 rfl (x_iald c283_18 a_167 (H.2.2 h2).1 (by decide) (x_iast c283_19 a_154 (H.2.2 h2).2.1 (by decide) (x_inc (l' := [some (jR 133), some (jI (v1 + 1))]) c283_20 rfl rfl (x_goto c283_23 (wp_wk (l' := [some (jR 133), some (jI (v1 + 1))]) ⟨rfl, ⟨rfl, trivial⟩⟩ (H.2.2 h2).2.2)))))))))))))))
theorem s283 {kc : List va_E} {d : Nat} {M : fx_M} {Q : Option fx_V → fx_M → Prop} (H : wp kc (d + 1) 283 2 [some (jR 133), some (jI 0)] [] M Q) : wc kc (d + 1) 283 [jR 133] M Q :=
  wc_of (wp_wk (l' := [some (jR 133), none]) ⟨rfl, trivial⟩ (s283_0 H))

/- PuzzleHouseModel.draw(I)I -/
theorem c284_0 : fx_op 284 0 = some (.aload_n 0, 1, 0) := by decide +kernel
theorem c284_1 : fx_op 284 1 = some (.aload_n 0, 2, 1) := by decide +kernel
theorem c284_2 : fx_gf 284 2 = some (12, 71, 5) := by decide +kernel
theorem c284_5 : fx_cj 284 5 = some (6364136223846793005, 8) := by decide +kernel
theorem c284_8 : fx_op 284 8 = some (.lmul, 9, 8) := by decide +kernel
theorem c284_9 : fx_cj 284 9 = some (1442695040888963407, 12) := by decide +kernel
theorem c284_12 : fx_op 284 12 = some (.ladd, 13, 12) := by decide +kernel
theorem c284_13 : fx_pf 284 13 = some (12, 71, 1, 16) := by decide +kernel
theorem c284_16 : fx_op 284 16 = some (.aload_n 0, 17, 16) := by decide +kernel
theorem c284_17 : fx_gf 284 17 = some (12, 71, 20) := by decide +kernel
theorem c284_20 : fx_ci 284 20 = some (33, 22) := by decide +kernel
theorem c284_22 : fx_op 284 22 = some (.lushr, 23, 22) := by decide +kernel
theorem c284_23 : fx_op 284 23 = some (.iload_n 1, 24, 23) := by decide +kernel
theorem c284_26 : fx_op 284 26 = some (.l2i, 27, 26) := by decide +kernel
theorem c284_24 : fx_op 284 24 = some (.i2l, 25, 24) := by decide +kernel
theorem c284_25 : fx_op 284 25 = some (.lrem, 26, 25) := by decide +kernel
theorem c284_27 : fx_op 284 27 = some (.ireturn, 28, 27) := by decide +kernel
theorem s284_0 {kc : List va_E} {d : Nat} {x1 : Int} {M : fx_M} {Q : Option fx_V → fx_M → Prop} (H : ((fx_in32 x1)) ∧ (((0 : Int) ≤ fx_lushr (((M 133 71) * 6364136223846793005) + 1442695040888963407) 33 ∧ fx_lushr (((M 133 71) * 6364136223846793005) + 1442695040888963407) 33 ≤ 9223372036854775807) ∧ ((0 : Int) < x1 ∧ x1 ≤ 9223372036854775807)) ∧ Q (some (jI ((fx_lushr (((M 133 71) * 6364136223846793005) + 1442695040888963407) 33) % x1))) (fx_up M 133 71 (((M 133 71) * 6364136223846793005) + 1442695040888963407))) : wp kc (d + 1) 284 0 [some (jR 133), some (jI x1)] [] M Q :=
  (x_aldn c284_0 rfl (x_aldn c284_1 rfl (x_gfl c284_2 k_133_71 (x_cj c284_5 (x_lmul c284_8 (x_cj c284_9 (x_ladd c284_12 (x_pfl c284_13 k_133_71 (x_aldn c284_16 rfl (x_gfl c284_17 k_133_71 (wp_vL (fx_upS) (x_ci c284_20 (x_lushr c284_22 (x_ildn c284_23 rfl (x_i2l c284_24 H.1 (x_lrem c284_25 H.2.1.1 H.2.1.2 (x_l2i c284_26 (x_irt c284_27 r284 H.2.2))))))))))))))))))
theorem s284 {kc : List va_E} {d : Nat} {x1 : Int} {M : fx_M} {Q : Option fx_V → fx_M → Prop} (H : ((fx_in32 x1)) ∧ (((0 : Int) ≤ fx_lushr (((M 133 71) * 6364136223846793005) + 1442695040888963407) 33 ∧ fx_lushr (((M 133 71) * 6364136223846793005) + 1442695040888963407) 33 ≤ 9223372036854775807) ∧ ((0 : Int) < x1 ∧ x1 ≤ 9223372036854775807)) ∧ Q (some (jI ((fx_lushr (((M 133 71) * 6364136223846793005) + 1442695040888963407) 33) % x1))) (fx_up M 133 71 (((M 133 71) * 6364136223846793005) + 1442695040888963407))) : wc kc (d + 1) 284 [jR 133, jI x1] M Q :=
  wc_of (wp_wk (l' := [some (jR 133), some (jI x1)]) ⟨rfl, ⟨rfl, trivial⟩⟩ (s284_0 H))

/- PuzzleHouseModel.shuffle()V -/
theorem c285_0 : fx_ci 285 0 = some (0, 1) := by decide +kernel
theorem c285_1 : fx_op 285 1 = some (.istore_n 1, 2, 1) := by decide +kernel
theorem c285_2 : fx_op 285 2 = some (.iload_n 1, 3, 2) := by decide +kernel
theorem c285_3 : fx_op 285 3 = some (.aload_n 0, 4, 3) := by decide +kernel
theorem c285_4 : fx_ca 285 4 = some (248, 1, 2, 7) := by decide +kernel
theorem c285_7 : fx_op 285 7 = some (.if_icmp .ge 16, 10, 23) := by decide +kernel
theorem c285_10 : fx_op 285 10 = some (.aload_n 0, 11, 10) := by decide +kernel
theorem c285_11 : fx_gf 285 11 = some (12, 72, 14) := by decide +kernel
theorem c285_14 : fx_op 285 14 = some (.iload_n 1, 15, 14) := by decide +kernel
theorem c285_15 : fx_op 285 15 = some (.iload_n 1, 16, 15) := by decide +kernel
theorem c285_23 : fx_op 285 23 = some (.aload_n 0, 24, 23) := by decide +kernel
theorem c285_17 : fx_op 285 17 = some (.iinc 1 1, 20, 17) := by decide +kernel
theorem c285_24 : fx_ca 285 24 = some (248, 1, 2, 27) := by decide +kernel
theorem c285_16 : fx_op 285 16 = some (.iastore, 17, 16) := by decide +kernel
theorem c285_20 : fx_op 285 20 = some (.goto (-18), 23, 2) := by decide +kernel
theorem c285_27 : fx_ci 285 27 = some (1, 28) := by decide +kernel
theorem c285_28 : fx_op 285 28 = some (.isub, 29, 28) := by decide +kernel
theorem c285_29 : fx_op 285 29 = some (.istore_n 1, 30, 29) := by decide +kernel
theorem c285_30 : fx_op 285 30 = some (.iload_n 1, 31, 30) := by decide +kernel
theorem c285_31 : fx_op 285 31 = some (.ifCond .le 43, 34, 74) := by decide +kernel
theorem c285_34 : fx_op 285 34 = some (.aload_n 0, 35, 34) := by decide +kernel
theorem c285_35 : fx_op 285 35 = some (.iload_n 1, 36, 35) := by decide +kernel
theorem c285_36 : fx_ci 285 36 = some (1, 37) := by decide +kernel
theorem c285_37 : fx_op 285 37 = some (.iadd, 38, 37) := by decide +kernel
theorem c285_74 : fx_op 285 74 = some (.return_, 75, 74) := by decide +kernel
theorem c285_38 : fx_ca 285 38 = some (284, 2, 2, 41) := by decide +kernel
theorem c285_41 : fx_op 285 41 = some (.istore_n 2, 42, 41) := by decide +kernel
theorem c285_42 : fx_op 285 42 = some (.aload_n 0, 43, 42) := by decide +kernel
theorem c285_43 : fx_gf 285 43 = some (12, 72, 46) := by decide +kernel
theorem c285_46 : fx_op 285 46 = some (.iload_n 1, 47, 46) := by decide +kernel
theorem c285_48 : fx_op 285 48 = some (.istore_n 3, 49, 48) := by decide +kernel
theorem c285_49 : fx_op 285 49 = some (.aload_n 0, 50, 49) := by decide +kernel
theorem c285_50 : fx_gf 285 50 = some (12, 72, 53) := by decide +kernel
theorem c285_53 : fx_op 285 53 = some (.iload_n 1, 54, 53) := by decide +kernel
theorem c285_54 : fx_op 285 54 = some (.aload_n 0, 55, 54) := by decide +kernel
theorem c285_55 : fx_gf 285 55 = some (12, 72, 58) := by decide +kernel
theorem c285_58 : fx_op 285 58 = some (.iload_n 2, 59, 58) := by decide +kernel
theorem c285_61 : fx_op 285 61 = some (.aload_n 0, 62, 61) := by decide +kernel
theorem c285_62 : fx_gf 285 62 = some (12, 72, 65) := by decide +kernel
theorem c285_65 : fx_op 285 65 = some (.iload_n 2, 66, 65) := by decide +kernel
theorem c285_66 : fx_op 285 66 = some (.iload_n 3, 67, 66) := by decide +kernel
theorem c285_68 : fx_op 285 68 = some (.iinc 1 (-1), 71, 68) := by decide +kernel
theorem c285_47 : fx_op 285 47 = some (.iaload, 48, 47) := by decide +kernel
theorem c285_59 : fx_op 285 59 = some (.iaload, 60, 59) := by decide +kernel
theorem c285_60 : fx_op 285 60 = some (.iastore, 61, 60) := by decide +kernel
theorem c285_67 : fx_op 285 67 = some (.iastore, 68, 67) := by decide +kernel
theorem c285_71 : fx_op 285 71 = some (.goto (-41), 74, 30) := by decide +kernel
theorem s285_0 {kc : List va_E} {d : Nat} {M : fx_M} {Q : Option fx_V → fx_M → Prop} (H : wp kc (d + 1) 285 2 [some (jR 133), some (jI 0), none, none] [] M Q) : wp kc (d + 1) 285 0 [some (jR 133), none, none, none] [] M Q :=
  (x_ci c285_0 (x_istn (l' := [some (jR 133), some (jI 0), none, none]) c285_1 rfl (wp_wk (l' := [some (jR 133), some (jI 0), none, none]) ⟨rfl, ⟨rfl, trivial⟩⟩ H)))
theorem s285_2 {kc : List va_E} {d : Nat} {v1 : Int} {M : fx_M} {Q : Option fx_V → fx_M → Prop} (H : wc kc d 248 [jR 133] M (fun v M1 => wp kc (d + 1) 285 7 [some (jR 133), some (jI v1), none, none] (v.toList ++ [jI v1]) M1 Q)) : wp kc (d + 1) 285 2 [some (jR 133), some (jI v1), none, none] [] M Q :=
  (x_ildn c285_2 rfl (x_aldn c285_3 rfl (wp_wk (l' := [some (jR 133), some (jI v1), none, none]) ⟨rfl, ⟨rfl, trivial⟩⟩ (x_cv (As := []) (st := [jI v1]) c285_4 cl_133 kl248 rfl (Nat.le_of_ble_eq_true rfl) mx248 (Nat.le_refl _) H))))
theorem s285_7 {kc : List va_E} {d : Nat} {v1 u0 u1 : Int} {M : fx_M} {Q : Option fx_V → fx_M → Prop} (H : ((fx_in32 u1) ∧ (fx_in32 u0)) ∧ (u0 ≤ u1 → wc kc d 248 [jR 133] M (fun v M1 => wp kc (d + 1) 285 27 [some (jR 133), none, none, none] (v.toList ++ []) M1 Q)) ∧ (u1 < u0 → (((0 : Int) ≤ v1 ∧ v1 < 9)) ∧ wp kc (d + 1) 285 2 [some (jR 133), some (jI (v1 + 1)), none, none] [] (fx_up M 168 v1 v1) Q)) : wp kc (d + 1) 285 7 [some (jR 133), some (jI v1), none, none] [jI u0, jI u1] M Q :=
  (x_cge c285_7 H.1.1 H.1.2 (fun h1 => (x_aldn c285_23 rfl (wp_wk (l' := [some (jR 133), none, none, none]) ⟨rfl, trivial⟩ (x_cv (As := []) (st := []) c285_24 cl_133 kl248 rfl (Nat.le_of_ble_eq_true rfl) mx248 (Nat.le_refl _) (H.2.1 h1))))) (fun h2 => (x_aldn c285_10 rfl (x_gfr c285_11 k_133_72 (x_ildn c285_14 rfl (x_ildn c285_15 rfl (x_iast c285_16 a_168 (H.2.2 h2).1 (by decide) (x_inc (l' := [some (jR 133), some (jI (v1 + 1)), none, none]) c285_17 rfl rfl (x_goto c285_20 (wp_wk (l' := [some (jR 133), some (jI (v1 + 1)), none, none]) ⟨rfl, ⟨rfl, trivial⟩⟩ (H.2.2 h2).2))))))))))
theorem s285_27 {kc : List va_E} {d : Nat} {u0 : Int} {M : fx_M} {Q : Option fx_V → fx_M → Prop} (H : wp kc (d + 1) 285 30 [some (jR 133), some (jI (u0 - 1)), none, none] [] M Q) : wp kc (d + 1) 285 27 [some (jR 133), none, none, none] [jI u0] M Q :=
  (x_ci c285_27 (x_isub c285_28 (x_istn (l' := [some (jR 133), some (jI (u0 - 1)), none, none]) c285_29 rfl (wp_wk (l' := [some (jR 133), some (jI (u0 - 1)), none, none]) ⟨rfl, ⟨rfl, trivial⟩⟩ H))))
theorem s285_30 {kc : List va_E} {d : Nat} {v1 : Int} {M : fx_M} {Q : Option fx_V → fx_M → Prop} (H : ((fx_in32 v1)) ∧ (v1 ≤ 0 → Q none M) ∧ (0 < v1 → wc kc d 284 [jR 133, jI (v1 + 1)] M (fun v M1 => wp kc (d + 1) 285 41 [some (jR 133), some (jI v1), none, none] (v.toList ++ []) M1 Q))) : wp kc (d + 1) 285 30 [some (jR 133), some (jI v1), none, none] [] M Q :=
  (x_ildn c285_30 rfl (x_zle c285_31 H.1 (fun h1 => (x_vr c285_74 r285 (H.2.1 h1))) (fun h2 => (x_aldn c285_34 rfl (x_ildn c285_35 rfl (x_ci c285_36 (x_iadd c285_37 (wp_wk (l' := [some (jR 133), some (jI v1), none, none]) ⟨rfl, ⟨rfl, trivial⟩⟩ (x_cv (As := [jI (v1 + 1)]) (st := []) c285_38 cl_133 kl284 rfl (Nat.le_of_ble_eq_true rfl) mx284 (Nat.le_refl _) (H.2.2 h2))))))))))
theorem s285_41 {kc : List va_E} {d : Nat} {v1 u0 : Int} {M : fx_M} {Q : Option fx_V → fx_M → Prop} (H : (((0 : Int) ≤ v1 ∧ v1 < 9)) ∧ (((0 : Int) ≤ u0 ∧ u0 < 9)) ∧ (((0 : Int) ≤ v1 ∧ v1 < 9)) ∧ (((0 : Int) ≤ u0 ∧ u0 < 9)) ∧ wp kc (d + 1) 285 30 [some (jR 133), some (jI (v1 + (-1))), none, none] [] (fx_up (fx_up M 168 v1 (M 168 u0)) 168 u0 (M 168 v1)) Q) : wp kc (d + 1) 285 41 [some (jR 133), some (jI v1), none, none] [jI u0] M Q :=
  (x_istn (l' := [some (jR 133), some (jI v1), some (jI u0), none]) c285_41 rfl (x_aldn c285_42 rfl (x_gfr c285_43 k_133_72 (x_ildn c285_46 rfl (x_iald c285_47 a_168 H.1 (by decide) (x_istn (l' := [some (jR 133), some (jI v1), some (jI u0), some (jI (M 168 v1))]) c285_48 rfl (x_aldn c285_49 rfl (x_gfr c285_50 k_133_72 (x_ildn c285_53 rfl (x_aldn c285_54 rfl (x_gfr c285_55 k_133_72 (x_ildn c285_58 rfl (x_iald c285_59 a_168 H.2.1 (by decide) (x_iast c285_60 a_168 H.2.2.1 (by decide) (x_aldn c285_61 rfl (x_gfr c285_62 k_133_72 (x_ildn c285_65 rfl (x_ildn c285_66 rfl (x_iast c285_67 a_168 H.2.2.2.1 (by decide) (x_inc (l' := [some (jR 133), some (jI (v1 + (-1))), some (jI u0), some (jI (M 168 v1))]) c285_68 rfl rfl (x_goto c285_71 (wp_wk (l' := [some (jR 133), some (jI (v1 + (-1))), none, none]) ⟨rfl, ⟨rfl, trivial⟩⟩ H.2.2.2.2))))))))))))))))))))))
theorem s285 {kc : List va_E} {d : Nat} {M : fx_M} {Q : Option fx_V → fx_M → Prop} (H : wp kc (d + 1) 285 2 [some (jR 133), some (jI 0), none, none] [] M Q) : wc kc (d + 1) 285 [jR 133] M Q :=
  wc_of (wp_wk (l' := [some (jR 133), none, none, none]) ⟨rfl, trivial⟩ (s285_0 H))

/- PuzzleHouseModel.sayVary(I)V -/
theorem c286_0 : fx_op 286 0 = some (.aload_n 0, 1, 0) := by decide +kernel
theorem c286_1 : fx_ci 286 1 = some (0, 2) := by decide +kernel
theorem c286_2 : fx_ca 286 2 = some (287, 2, 2, 5) := by decide +kernel
theorem c286_5 : fx_op 286 5 = some (.istore_n 2, 6, 5) := by decide +kernel
theorem c286_6 : fx_op 286 6 = some (.aload_n 0, 7, 6) := by decide +kernel
theorem c286_7 : fx_ci 286 7 = some (0, 8) := by decide +kernel
theorem c286_8 : fx_op 286 8 = some (.iload_n 1, 9, 8) := by decide +kernel
theorem c286_9 : fx_op 286 9 = some (.iload_n 2, 10, 9) := by decide +kernel
theorem c286_11 : fx_op 286 11 = some (.iload_n 1, 12, 11) := by decide +kernel
theorem c286_12 : fx_op 286 12 = some (.iload_n 2, 13, 12) := by decide +kernel
theorem c286_14 : fx_op 286 14 = some (.aload_n 0, 15, 14) := by decide +kernel
theorem c286_15 : fx_ci 286 15 = some (0, 16) := by decide +kernel
theorem c286_10 : fx_op 286 10 = some (.irem, 11, 10) := by decide +kernel
theorem c286_13 : fx_op 286 13 = some (.idiv, 14, 13) := by decide +kernel
theorem c286_16 : fx_ca 286 16 = some (288, 2, 2, 19) := by decide +kernel
theorem c286_20 : fx_ci 286 20 = some (3, 21) := by decide +kernel
theorem c286_19 : fx_op 286 19 = some (.irem, 20, 19) := by decide +kernel
theorem c286_21 : fx_ca 286 21 = some (289, 5, 2, 24) := by decide +kernel
theorem c286_24 : fx_op 286 24 = some (.aload_n 0, 25, 24) := by decide +kernel
theorem c286_25 : fx_ci 286 25 = some (3, 26) := by decide +kernel
theorem c286_26 : fx_ci 286 26 = some (0, 27) := by decide +kernel
theorem c286_27 : fx_ca 286 27 = some (264, 3, 2, 30) := by decide +kernel
theorem c286_30 : fx_op 286 30 = some (.aload_n 0, 31, 30) := by decide +kernel
theorem c286_31 : fx_ca 286 31 = some (215, 1, 2, 34) := by decide +kernel
theorem c286_34 : fx_op 286 34 = some (.aload_n 0, 35, 34) := by decide +kernel
theorem c286_35 : fx_ca 286 35 = some (261, 1, 2, 38) := by decide +kernel
theorem c286_38 : fx_op 286 38 = some (.return_, 39, 38) := by decide +kernel
theorem s286_0 {kc : List va_E} {d : Nat} {x1 : Int} {M : fx_M} {Q : Option fx_V → fx_M → Prop} (H : wc kc d 287 [jR 133, jI 0] M (fun v M1 => wp kc (d + 1) 286 5 [some (jR 133), some (jI x1), none] (v.toList ++ []) M1 Q)) : wp kc (d + 1) 286 0 [some (jR 133), some (jI x1), none] [] M Q :=
  (x_aldn c286_0 rfl (x_ci c286_1 (wp_wk (l' := [some (jR 133), some (jI x1), none]) ⟨rfl, ⟨rfl, trivial⟩⟩ (x_cv (As := [jI 0]) (st := []) c286_2 cl_133 kl287 rfl (Nat.le_of_ble_eq_true rfl) mx287 (Nat.le_refl _) H))))
theorem s286_5 {kc : List va_E} {d : Nat} {v1 u0 : Int} {M : fx_M} {Q : Option fx_V → fx_M → Prop} (H : (((0 : Int) ≤ v1 ∧ v1 ≤ 2147483647) ∧ ((0 : Int) < u0 ∧ u0 ≤ 2147483647)) ∧ (((0 : Int) ≤ v1 ∧ v1 ≤ 2147483647) ∧ ((0 : Int) < u0 ∧ u0 ≤ 2147483647)) ∧ wc kc d 288 [jR 133, jI 0] M (fun v M1 => wp kc (d + 1) 286 19 [some (jR 133), none, none] (v.toList ++ [jI (v1 / u0), jI (v1 % u0), jI 0, jR 133]) M1 Q)) : wp kc (d + 1) 286 5 [some (jR 133), some (jI v1), none] [jI u0] M Q :=
  (x_istn (l' := [some (jR 133), some (jI v1), some (jI u0)]) c286_5 rfl (x_aldn c286_6 rfl (x_ci c286_7 (x_ildn c286_8 rfl (x_ildn c286_9 rfl (x_irem c286_10 H.1.1 H.1.2 (x_ildn c286_11 rfl (x_ildn c286_12 rfl (x_idiv c286_13 H.2.1.1 H.2.1.2 (x_aldn c286_14 rfl (x_ci c286_15 (wp_wk (l' := [some (jR 133), none, none]) ⟨rfl, trivial⟩ (x_cv (As := [jI 0]) (st := [jI (v1 / u0), jI (v1 % u0), jI 0, jR 133]) c286_16 cl_133 kl288 rfl (Nat.le_of_ble_eq_true rfl) mx288 (Nat.le_refl _) H.2.2)))))))))))))
theorem s286_19 {kc : List va_E} {d : Nat} {u0 u1 u2 u3 : Int} {M : fx_M} {Q : Option fx_V → fx_M → Prop} (H : (((0 : Int) ≤ u1 ∧ u1 ≤ 2147483647) ∧ ((0 : Int) < u0 ∧ u0 ≤ 2147483647)) ∧ wc kc d 289 [jR 133, jI u3, jI u2, jI (u1 % u0), jI 3] M (fun v M1 => wp kc (d + 1) 286 24 [some (jR 133), none, none] (v.toList ++ []) M1 Q)) : wp kc (d + 1) 286 19 [some (jR 133), none, none] [jI u0, jI u1, jI u2, jI u3, jR 133] M Q :=
  (x_irem c286_19 H.1.1 H.1.2 (x_ci c286_20 (wp_wk (l' := [some (jR 133), none, none]) ⟨rfl, trivial⟩ (x_cv (As := [jI u3, jI u2, jI (u1 % u0), jI 3]) (st := []) c286_21 cl_133 kl289 rfl (Nat.le_of_ble_eq_true rfl) mx289 (Nat.le_refl _) H.2))))
theorem s286_24 {kc : List va_E} {d : Nat} {M : fx_M} {Q : Option fx_V → fx_M → Prop} (H : wc kc d 264 [jR 133, jI 3, jI 0] M (fun v M1 => wp kc (d + 1) 286 30 [some (jR 133), none, none] (v.toList ++ []) M1 Q)) : wp kc (d + 1) 286 24 [some (jR 133), none, none] [] M Q :=
  (x_aldn c286_24 rfl (x_ci c286_25 (x_ci c286_26 (wp_wk (l' := [some (jR 133), none, none]) ⟨rfl, trivial⟩ (x_cv (As := [jI 3, jI 0]) (st := []) c286_27 cl_133 kl264 rfl (Nat.le_of_ble_eq_true rfl) mx264 (Nat.le_refl _) H)))))
theorem s286_30 {kc : List va_E} {d : Nat} {M : fx_M} {Q : Option fx_V → fx_M → Prop} (H : wc kc d 215 [jR 133] M (fun v M1 => wp kc (d + 1) 286 34 [some (jR 133), none, none] (v.toList ++ []) M1 Q)) : wp kc (d + 1) 286 30 [some (jR 133), none, none] [] M Q :=
  (x_aldn c286_30 rfl (wp_wk (l' := [some (jR 133), none, none]) ⟨rfl, trivial⟩ (x_cv (As := []) (st := []) c286_31 cl_133 kl215 rfl (Nat.le_of_ble_eq_true rfl) mx215 (Nat.le_refl _) H)))
theorem s286_34 {kc : List va_E} {d : Nat} {M : fx_M} {Q : Option fx_V → fx_M → Prop} (H : wc kc d 261 [jR 133] M (fun v M1 => wp kc (d + 1) 286 38 [none, none, none] (v.toList ++ []) M1 Q)) : wp kc (d + 1) 286 34 [some (jR 133), none, none] [] M Q :=
  (x_aldn c286_34 rfl (wp_wk (l' := [none, none, none]) trivial (x_cv (As := []) (st := []) c286_35 cl_133 kl261 rfl (Nat.le_of_ble_eq_true rfl) mx261 (Nat.le_refl _) H)))
theorem s286_38 {kc : List va_E} {d : Nat} {M : fx_M} {Q : Option fx_V → fx_M → Prop} (H : Q none M) : wp kc (d + 1) 286 38 [none, none, none] [] M Q :=
  (x_vr c286_38 r286 H)
theorem s286 {kc : List va_E} {d : Nat} {x1 : Int} {M : fx_M} {Q : Option fx_V → fx_M → Prop} (H : wc kc d 287 [jR 133, jI 0] M (fun v M1 => wp kc (d + 1) 286 5 [some (jR 133), some (jI x1), none] (v.toList ++ []) M1 Q)) : wc kc (d + 1) 286 [jR 133, jI x1] M Q :=
  wc_of (wp_wk (l' := [some (jR 133), some (jI x1), none]) ⟨rfl, ⟨rfl, trivial⟩⟩ (s286_0 H))

/- PuzzleHouseModel.maps(I)I -/
theorem c287_0 : fx_op 287 0 = some (.aload_n 0, 1, 0) := by decide +kernel
theorem c287_1 : fx_gf 287 1 = some (12, 37, 4) := by decide +kernel
theorem c287_4 : fx_op 287 4 = some (.iload_n 1, 5, 4) := by decide +kernel
theorem c287_6 : fx_op 287 6 = some (.aload_n 0, 7, 6) := by decide +kernel
theorem c287_7 : fx_gf 287 7 = some (12, 38, 10) := by decide +kernel
theorem c287_10 : fx_op 287 10 = some (.iload_n 1, 11, 10) := by decide +kernel
theorem c287_12 : fx_op 287 12 = some (.if_icmp .ne 8, 15, 20) := by decide +kernel
theorem c287_20 : fx_ci 287 20 = some (4, 21) := by decide +kernel
theorem c287_15 : fx_ci 287 15 = some (8, 17) := by decide +kernel
theorem c287_17 : fx_op 287 17 = some (.goto 4, 20, 21) := by decide +kernel
theorem c287_5 : fx_op 287 5 = some (.iaload, 6, 5) := by decide +kernel
theorem c287_11 : fx_op 287 11 = some (.iaload, 12, 11) := by decide +kernel
theorem c287_21 : fx_op 287 21 = some (.ireturn, 22, 21) := by decide +kernel
theorem s287_0 {kc : List va_E} {d : Nat} {x1 : Int} {M : fx_M} {Q : Option fx_V → fx_M → Prop} (H : (((0 : Int) ≤ x1 ∧ x1 < 10)) ∧ (((0 : Int) ≤ x1 ∧ x1 < 10)) ∧ ((fx_in32 (M 146 x1))) ∧ ((fx_in32 (M 147 x1))) ∧ Q (some (jI (if M 146 x1 = M 147 x1 then (8 : Int) else 4))) M) : wp kc (d + 1) 287 0 [some (jR 133), some (jI x1)] [] M Q :=
  (x_aldn c287_0 rfl (x_gfr c287_1 k_133_37 (x_ildn c287_4 rfl (x_iald c287_5 a_146 H.1 (by decide) (x_aldn c287_6 rfl (x_gfr c287_7 k_133_38 (x_ildn c287_10 rfl (x_iald c287_11 a_147 H.2.1 (by decide) (have K : wp kc (d + 1) 287 21 [none, none] [jI (if M 146 x1 = M 147 x1 then (8 : Int) else 4)] M Q := (x_irt c287_21 r287 H.2.2.2.2); (x_cne c287_12 H.2.2.1 H.2.2.2.1 (fun (h1 : M 146 x1 ≠ M 147 x1) => (x_ci c287_20 (wp_wk (l' := [none, none]) trivial (by have K := K; first | (simp only [if_neg h1] at K ⊢; exact K) | (exfalso; omega))))) (fun (h2 : M 146 x1 = M 147 x1) => (x_ci c287_15 (x_goto c287_17 (wp_wk (l' := [none, none]) trivial (by have K := K; first | (simp only [if_pos h2] at K ⊢; exact K) | (exfalso; omega))))))))))))))))
theorem s287 {kc : List va_E} {d : Nat} {x1 : Int} {M : fx_M} {Q : Option fx_V → fx_M → Prop} (H : (((0 : Int) ≤ x1 ∧ x1 < 10)) ∧ (((0 : Int) ≤ x1 ∧ x1 < 10)) ∧ ((fx_in32 (M 146 x1))) ∧ ((fx_in32 (M 147 x1))) ∧ Q (some (jI (if M 146 x1 = M 147 x1 then (8 : Int) else 4))) M) : wc kc (d + 1) 287 [jR 133, jI x1] M Q :=
  wc_of (wp_wk (l' := [some (jR 133), some (jI x1)]) ⟨rfl, ⟨rfl, trivial⟩⟩ (s287_0 H))

/- PuzzleHouseModel.renamings(I)I -/
theorem c288_0 : fx_ci 288 0 = some (1, 1) := by decide +kernel
theorem c288_1 : fx_op 288 1 = some (.istore_n 2, 2, 1) := by decide +kernel
theorem c288_2 : fx_ci 288 2 = some (12, 4) := by decide +kernel
theorem c288_4 : fx_op 288 4 = some (.iload_n 1, 5, 4) := by decide +kernel
theorem c288_5 : fx_op 288 5 = some (.imul, 6, 5) := by decide +kernel
theorem c288_6 : fx_op 288 6 = some (.istore_n 3, 7, 6) := by decide +kernel
theorem c288_7 : fx_op 288 7 = some (.iload_n 3, 8, 7) := by decide +kernel
theorem c288_8 : fx_ci 288 8 = some (12, 10) := by decide +kernel
theorem c288_10 : fx_op 288 10 = some (.iload_n 1, 11, 10) := by decide +kernel
theorem c288_11 : fx_op 288 11 = some (.imul, 12, 11) := by decide +kernel
theorem c288_12 : fx_op 288 12 = some (.aload_n 0, 13, 12) := by decide +kernel
theorem c288_13 : fx_gf 288 13 = some (12, 40, 16) := by decide +kernel
theorem c288_16 : fx_op 288 16 = some (.iload_n 1, 17, 16) := by decide +kernel
theorem c288_18 : fx_op 288 18 = some (.iadd, 19, 18) := by decide +kernel
theorem c288_19 : fx_op 288 19 = some (.if_icmp .ge 52, 22, 71) := by decide +kernel
theorem c288_22 : fx_op 288 22 = some (.iload_n 2, 23, 22) := by decide +kernel
theorem c288_23 : fx_op 288 23 = some (.ifCond .eq 40, 26, 63) := by decide +kernel
theorem c288_63 : fx_ci 288 63 = some (0, 64) := by decide +kernel
theorem c288_64 : fx_op 288 64 = some (.istore_n 2, 65, 64) := by decide +kernel
theorem c288_65 : fx_op 288 65 = some (.iinc 3 1, 68, 65) := by decide +kernel
theorem c288_71 : fx_ci 288 71 = some (1, 72) := by decide +kernel
theorem c288_72 : fx_op 288 72 = some (.istore_n 3, 73, 72) := by decide +kernel
theorem c288_73 : fx_ci 288 73 = some (2, 74) := by decide +kernel
theorem c288_74 : fx_op 288 74 = some (.istore 4, 76, 74) := by decide +kernel
theorem c288_26 : fx_op 288 26 = some (.aload_n 0, 27, 26) := by decide +kernel
theorem c288_27 : fx_gf 288 27 = some (12, 41, 30) := by decide +kernel
theorem c288_30 : fx_op 288 30 = some (.iload_n 3, 31, 30) := by decide +kernel
theorem c288_31 : fx_op 288 31 = some (.iaload, 32, 31) := by decide +kernel
theorem c288_32 : fx_ci 288 32 = some (45, 34) := by decide +kernel
theorem c288_34 : fx_op 288 34 = some (.if_icmp .eq 25, 37, 59) := by decide +kernel
theorem c288_59 : fx_ci 288 59 = some (1, 60) := by decide +kernel
theorem c288_60 : fx_op 288 60 = some (.goto 4, 63, 64) := by decide +kernel
theorem c288_37 : fx_op 288 37 = some (.aload_n 0, 38, 37) := by decide +kernel
theorem c288_38 : fx_gf 288 38 = some (12, 41, 41) := by decide +kernel
theorem c288_41 : fx_op 288 41 = some (.iload_n 3, 42, 41) := by decide +kernel
theorem c288_42 : fx_op 288 42 = some (.iaload, 43, 42) := by decide +kernel
theorem c288_43 : fx_ci 288 43 = some (46, 45) := by decide +kernel
theorem c288_45 : fx_op 288 45 = some (.if_icmp .eq 14, 48, 59) := by decide +kernel
theorem c288_48 : fx_op 288 48 = some (.aload_n 0, 49, 48) := by decide +kernel
theorem c288_49 : fx_gf 288 49 = some (12, 41, 52) := by decide +kernel
theorem c288_52 : fx_op 288 52 = some (.iload_n 3, 53, 52) := by decide +kernel
theorem c288_53 : fx_op 288 53 = some (.iaload, 54, 53) := by decide +kernel
theorem c288_54 : fx_ci 288 54 = some (50, 56) := by decide +kernel
theorem c288_56 : fx_op 288 56 = some (.if_icmp .ne 7, 59, 63) := by decide +kernel
theorem c288_17 : fx_op 288 17 = some (.iaload, 18, 17) := by decide +kernel
theorem c288_68 : fx_op 288 68 = some (.goto (-61), 71, 7) := by decide +kernel
theorem c288_76 : fx_op 288 76 = some (.iload 4, 78, 76) := by decide +kernel
theorem c288_78 : fx_op 288 78 = some (.aload_n 0, 79, 78) := by decide +kernel
theorem c288_79 : fx_gf 288 79 = some (12, 39, 82) := by decide +kernel
theorem c288_82 : fx_op 288 82 = some (.iload_n 1, 83, 82) := by decide +kernel
theorem c288_84 : fx_op 288 84 = some (.if_icmp .gt 18, 87, 102) := by decide +kernel
theorem c288_87 : fx_op 288 87 = some (.iload_n 2, 88, 87) := by decide +kernel
theorem c288_88 : fx_op 288 88 = some (.ifCond .eq 14, 91, 102) := by decide +kernel
theorem c288_91 : fx_op 288 91 = some (.iload_n 3, 92, 91) := by decide +kernel
theorem c288_92 : fx_op 288 92 = some (.iload 4, 94, 92) := by decide +kernel
theorem c288_94 : fx_op 288 94 = some (.imul, 95, 94) := by decide +kernel
theorem c288_95 : fx_op 288 95 = some (.istore_n 3, 96, 95) := by decide +kernel
theorem c288_96 : fx_op 288 96 = some (.iinc 4 1, 99, 96) := by decide +kernel
theorem c288_102 : fx_op 288 102 = some (.iload_n 3, 103, 102) := by decide +kernel
theorem c288_83 : fx_op 288 83 = some (.iaload, 84, 83) := by decide +kernel
theorem c288_103 : fx_op 288 103 = some (.ireturn, 104, 103) := by decide +kernel
theorem c288_99 : fx_op 288 99 = some (.goto (-23), 102, 76) := by decide +kernel
theorem s288_0 {kc : List va_E} {d : Nat} {x1 : Int} {M : fx_M} {Q : Option fx_V → fx_M → Prop} (H : wp kc (d + 1) 288 7 [some (jR 133), some (jI x1), some (jI 1), some (jI (12 * x1)), none] [] M Q) : wp kc (d + 1) 288 0 [some (jR 133), some (jI x1), none, none, none] [] M Q :=
  (x_ci c288_0 (x_istn (l' := [some (jR 133), some (jI x1), some (jI 1), none, none]) c288_1 rfl (x_ci c288_2 (x_ildn c288_4 rfl (x_imul c288_5 (x_istn (l' := [some (jR 133), some (jI x1), some (jI 1), some (jI (12 * x1)), none]) c288_6 rfl (wp_wk (l' := [some (jR 133), some (jI x1), some (jI 1), some (jI (12 * x1)), none]) ⟨rfl, ⟨rfl, ⟨rfl, ⟨rfl, trivial⟩⟩⟩⟩ H)))))))
theorem s288_7 {kc : List va_E} {d : Nat} {v1 v2 v3 : Int} {M : fx_M} {Q : Option fx_V → fx_M → Prop} (H : (((0 : Int) ≤ v1 ∧ v1 < 10)) ∧ ((fx_in32 v3) ∧ (fx_in32 ((12 * v1) + (M 149 v1)))) ∧ ((12 * v1) + (M 149 v1) ≤ v3 → wp kc (d + 1) 288 76 [some (jR 133), some (jI v1), some (jI v2), some (jI 1), some (jI 2)] [] M Q) ∧ (v3 < (12 * v1) + (M 149 v1) → ((fx_in32 v2)) ∧ (v2 ≠ 0 → ((((0 : Int) ≤ v3 ∧ v3 < 120)))) ∧ (v2 ≠ 0 → (fx_in32 (M 150 v3))) ∧ (v2 ≠ 0 → M 150 v3 ≠ 45 → ((((0 : Int) ≤ v3 ∧ v3 < 120)))) ∧ (v2 ≠ 0 → M 150 v3 ≠ 45 → (fx_in32 (M 150 v3))) ∧ (v2 ≠ 0 → M 150 v3 ≠ 45 → M 150 v3 ≠ 46 → ((((0 : Int) ≤ v3 ∧ v3 < 120)))) ∧ (v2 ≠ 0 → M 150 v3 ≠ 45 → M 150 v3 ≠ 46 → (fx_in32 (M 150 v3))) ∧ wp kc (d + 1) 288 7 [some (jR 133), some (jI v1), some (jI (if v2 = 0 then (0 : Int) else (if M 150 v3 = 45 then (1 : Int) else (if M 150 v3 = 46 then (1 : Int) else (if M 150 v3 = 50 then (1 : Int) else 0))))), some (jI (v3 + 1)), none] [] M Q)) : wp kc (d + 1) 288 7 [some (jR 133), some (jI v1), some (jI v2), some (jI v3), none] [] M Q :=
  (x_ildn c288_7 rfl (x_ci c288_8 (x_ildn c288_10 rfl (x_imul c288_11 (x_aldn c288_12 rfl (x_gfr c288_13 k_133_40 (x_ildn c288_16 rfl (x_iald c288_17 a_149 H.1 (by decide) (x_iadd c288_18 (x_cge c288_19 H.2.1.1 H.2.1.2 (fun h1 => (x_ci c288_71 (x_istn (l' := [some (jR 133), some (jI v1), some (jI v2), some (jI 1), none]) c288_72 rfl (x_ci c288_73 (x_ist (l' := [some (jR 133), some (jI v1), some (jI v2), some (jI 1), some (jI 2)]) c288_74 rfl (wp_wk (l' := [some (jR 133), some (jI v1), some (jI v2), some (jI 1), some (jI 2)]) ⟨rfl, ⟨rfl, ⟨rfl, ⟨rfl, ⟨rfl, trivial⟩⟩⟩⟩⟩ (H.2.2.1 h1))))))) (fun h2 => (x_ildn c288_22 rfl (have K : wp kc (d + 1) 288 64 [some (jR 133), some (jI v1), none, some (jI v3), none] [jI (if v2 = 0 then (0 : Int) else (if M 150 v3 = 45 then (1 : Int) else (if M 150 v3 = 46 then (1 : Int) else (if M 150 v3 = 50 then (1 : Int) else 0))))] M Q := (x_istn (l' := [some (jR 133), some (jI v1), some (jI (if v2 = 0 then (0 : Int) else (if M 150 v3 = 45 then (1 : Int) else (if M 150 v3 = 46 then (1 : Int) else (if M 150 v3 = 50 then (1 : Int) else 0))))), some (jI v3), none]) c288_64 rfl (x_inc (l' := [some (jR 133), some (jI v1), some (jI (if v2 = 0 then (0 : Int) else (if M 150 v3 = 45 then (1 : Int) else (if M 150 v3 = 46 then (1 : Int) else (if M 150 v3 = 50 then (1 : Int) else 0))))), some (jI (v3 + 1)), none]) c288_65 rfl rfl (x_goto c288_68 (wp_wk (l' := [some (jR 133), some (jI v1), some (jI (if v2 = 0 then (0 : Int) else (if M 150 v3 = 45 then (1 : Int) else (if M 150 v3 = 46 then (1 : Int) else (if M 150 v3 = 50 then (1 : Int) else 0))))), some (jI (v3 + 1)), none]) ⟨rfl, ⟨rfl, ⟨rfl, ⟨rfl, trivial⟩⟩⟩⟩ (H.2.2.2 h2).2.2.2.2.2.2.2)))); (x_zeq c288_23 (H.2.2.2 h2).1 (fun (h3 : v2 = 0) => (x_ci c288_63 (wp_wk (l' := [some (jR 133), some (jI v1), none, some (jI v3), none]) ⟨rfl, ⟨rfl, ⟨rfl, trivial⟩⟩⟩ (by have K := K; first | (simp only [if_pos h3] at K ⊢; exact K) | (exfalso; omega))))) (fun (h4 : v2 ≠ 0) => (x_aldn c288_26 rfl (x_gfr c288_27 k_133_41 (x_ildn c288_30 rfl (x_iald c288_31 a_150 ((H.2.2.2 h2).2.1 h4) (by decide) (x_ci c288_32 (x_ceq c288_34 ((H.2.2.2 h2).2.2.1 h4) (by decide) (fun (h5 : M 150 v3 = 45) => (x_ci c288_59 (x_goto c288_60 (wp_wk (l' := [some (jR 133), some (jI v1), none, some (jI v3), none]) ⟨rfl, ⟨rfl, ⟨rfl, trivial⟩⟩⟩ (by have K := K; first | (simp only [if_neg h4, if_pos h5] at K ⊢; exact K) | (exfalso; omega)))))) (fun (h6 : M 150 v3 ≠ 45) => (x_aldn c288_37 rfl (x_gfr c288_38 k_133_41 (x_ildn c288_41 rfl (x_iald c288_42 a_150 ((H.2.2.2 h2).2.2.2.1 h4 h6) (by decide) (x_ci c288_43 (x_ceq c288_45 ((H.2.2.2 h2).2.2.2.2.1 h4 h6) (by decide) (fun (h7 : M 150 v3 = 46) => (x_ci c288_59 (x_goto c288_60 (wp_wk (l' := [some (jR 133), some (jI v1), none, some (jI v3), none]) ⟨rfl, ⟨rfl, ⟨rfl, trivial⟩⟩⟩ (by have K := K; first | (simp only [if_neg h4, if_neg h6, if_pos h7] at K ⊢; exact K) | (exfalso; omega)))))) (fun (h8 : M 150 v3 ≠ 46) => (x_aldn c288_48 rfl (x_gfr c288_49 k_133_41 (x_ildn c288_52 rfl (x_iald c288_53 a_150 ((H.2.2.2 h2).2.2.2.2.2.1 h4 h6 h8) (by decide) (x_ci c288_54 (x_cne c288_56 ((H.2.2.2 h2).2.2.2.2.2.2.1 h4 h6 h8) (by decide) (fun (h9 : M 150 v3 ≠ 50) => (x_ci c288_63 (wp_wk (l' := [some (jR 133), some (jI v1), none, some (jI v3), none]) ⟨rfl, ⟨rfl, ⟨rfl, trivial⟩⟩⟩ (by have K := K; first | (simp only [if_neg h4, if_neg h6, if_neg h8, if_neg h9] at K ⊢; exact K) | (exfalso; omega))))) (fun (h10 : M 150 v3 = 50) => (x_ci c288_59 (x_goto c288_60 (wp_wk (l' := [some (jR 133), some (jI v1), none, some (jI v3), none]) ⟨rfl, ⟨rfl, ⟨rfl, trivial⟩⟩⟩ (by have K := K; first | (simp only [if_neg h4, if_neg h6, if_neg h8, if_pos h10] at K ⊢; exact K) | (exfalso; omega)))))))))))))))))))))))))))))))))))))))))
theorem s288_76 {kc : List va_E} {d : Nat} {v1 v2 v3 v4 : Int} {M : fx_M} {Q : Option fx_V → fx_M → Prop} (H : (((0 : Int) ≤ v1 ∧ v1 < 10)) ∧ ((fx_in32 v4) ∧ (fx_in32 (M 148 v1))) ∧ (M 148 v1 < v4 → Q (some (jI v3)) M) ∧ (v4 ≤ M 148 v1 → ((fx_in32 v2)) ∧ (v2 = 0 → Q (some (jI v3)) M) ∧ (v2 ≠ 0 → wp kc (d + 1) 288 76 [some (jR 133), some (jI v1), some (jI v2), some (jI (v3 * v4)), some (jI (v4 + 1))] [] M Q))) : wp kc (d + 1) 288 76 [some (jR 133), some (jI v1), some (jI v2), some (jI v3), some (jI v4)] [] M Q :=
  (x_ild c288_76 rfl (x_aldn c288_78 rfl (x_gfr c288_79 k_133_39 (x_ildn c288_82 rfl (x_iald c288_83 a_148 H.1 (by decide) (x_cgt c288_84 H.2.1.1 H.2.1.2 (fun h3 => (x_ildn c288_102 rfl (x_irt c288_103 r288 (H.2.2.1 h3)))) (fun h4 => (x_ildn c288_87 rfl (x_zeq c288_88 (H.2.2.2 h4).1 (fun h1 => (x_ildn c288_102 rfl (x_irt c288_103 r288 ((H.2.2.2 h4).2.1 h1)))) (fun h2 => (x_ildn c288_91 rfl (x_ild c288_92 rfl (x_imul c288_94 (x_istn (l' := [some (jR 133), some (jI v1), some (jI v2), some (jI (v3 * v4)), some (jI v4)]) c288_95 rfl (x_inc (l' := [some (jR 133), some (jI v1), some (jI v2), some (jI (v3 * v4)), some (jI (v4 + 1))]) c288_96 rfl rfl (x_goto c288_99 (wp_wk (l' := [some (jR 133), some (jI v1), some (jI v2), some (jI (v3 * v4)), some (jI (v4 + 1))]) ⟨rfl, ⟨rfl, ⟨rfl, ⟨rfl, ⟨rfl, trivial⟩⟩⟩⟩⟩ ((H.2.2.2 h4).2.2 h2))))))))))))))))))
theorem s288 {kc : List va_E} {d : Nat} {x1 : Int} {M : fx_M} {Q : Option fx_V → fx_M → Prop} (H : wp kc (d + 1) 288 7 [some (jR 133), some (jI x1), some (jI 1), some (jI (12 * x1)), none] [] M Q) : wc kc (d + 1) 288 [jR 133, jI x1] M Q :=
  wc_of (wp_wk (l' := [some (jR 133), some (jI x1), none, none, none]) ⟨rfl, ⟨rfl, trivial⟩⟩ (s288_0 H))

/- PuzzleHouseModel.vary(IIII)V -/
theorem c289_0 : fx_op 289 0 = some (.aload_n 0, 1, 0) := by decide +kernel
theorem c289_1 : fx_op 289 1 = some (.iload_n 1, 2, 1) := by decide +kernel
theorem c289_2 : fx_op 289 2 = some (.iload 4, 4, 2) := by decide +kernel
theorem c289_4 : fx_ca 289 4 = some (264, 3, 2, 7) := by decide +kernel
theorem c289_7 : fx_op 289 7 = some (.aload_n 0, 8, 7) := by decide +kernel
theorem c289_8 : fx_op 289 8 = some (.aload_n 0, 9, 8) := by decide +kernel
theorem c289_9 : fx_gf 289 9 = some (12, 39, 12) := by decide +kernel
theorem c289_12 : fx_op 289 12 = some (.iload_n 1, 13, 12) := by decide +kernel
theorem c289_14 : fx_op 289 14 = some (.iload_n 3, 15, 14) := by decide +kernel
theorem c289_13 : fx_op 289 13 = some (.iaload, 14, 13) := by decide +kernel
theorem c289_15 : fx_ca 289 15 = some (290, 3, 2, 18) := by decide +kernel
theorem c289_18 : fx_ci 289 18 = some (0, 19) := by decide +kernel
theorem c289_19 : fx_op 289 19 = some (.istore 5, 21, 19) := by decide +kernel
theorem c289_21 : fx_op 289 21 = some (.iload 5, 23, 21) := by decide +kernel
theorem c289_23 : fx_op 289 23 = some (.aload_n 0, 24, 23) := by decide +kernel
theorem c289_24 : fx_gf 289 24 = some (12, 40, 27) := by decide +kernel
theorem c289_27 : fx_op 289 27 = some (.iload_n 1, 28, 27) := by decide +kernel
theorem c289_29 : fx_op 289 29 = some (.if_icmp .ge 76, 32, 105) := by decide +kernel
theorem c289_32 : fx_ci 289 32 = some (0, 33) := by decide +kernel
theorem c289_33 : fx_op 289 33 = some (.istore 6, 35, 33) := by decide +kernel
theorem c289_105 : fx_ci 289 105 = some (0, 106) := by decide +kernel
theorem c289_106 : fx_op 289 106 = some (.istore 5, 108, 106) := by decide +kernel
theorem c289_28 : fx_op 289 28 = some (.iaload, 29, 28) := by decide +kernel
theorem c289_108 : fx_op 289 108 = some (.iload 5, 110, 108) := by decide +kernel
theorem c289_110 : fx_op 289 110 = some (.aload_n 0, 111, 110) := by decide +kernel
theorem c289_111 : fx_gf 289 111 = some (12, 37, 114) := by decide +kernel
theorem c289_114 : fx_op 289 114 = some (.iload_n 1, 115, 114) := by decide +kernel
theorem c289_116 : fx_op 289 116 = some (.aload_n 0, 117, 116) := by decide +kernel
theorem c289_117 : fx_gf 289 117 = some (12, 38, 120) := by decide +kernel
theorem c289_120 : fx_op 289 120 = some (.iload_n 1, 121, 120) := by decide +kernel
theorem c289_122 : fx_op 289 122 = some (.imul, 123, 122) := by decide +kernel
theorem c289_123 : fx_op 289 123 = some (.if_icmp .ge 58, 126, 181) := by decide +kernel
theorem c289_126 : fx_op 289 126 = some (.aload_n 0, 127, 126) := by decide +kernel
theorem c289_127 : fx_gf 289 127 = some (12, 45, 130) := by decide +kernel
theorem c289_130 : fx_ci 289 130 = some (9, 132) := by decide +kernel
theorem c289_132 : fx_op 289 132 = some (.iload_n 1, 133, 132) := by decide +kernel
theorem c289_133 : fx_op 289 133 = some (.imul, 134, 133) := by decide +kernel
theorem c289_134 : fx_op 289 134 = some (.iload 5, 136, 134) := by decide +kernel
theorem c289_136 : fx_op 289 136 = some (.iadd, 137, 136) := by decide +kernel
theorem c289_137 : fx_op 289 137 = some (.iaload, 138, 137) := by decide +kernel
theorem c289_138 : fx_op 289 138 = some (.istore 6, 140, 138) := by decide +kernel
theorem c289_140 : fx_op 289 140 = some (.aload_n 0, 141, 140) := by decide +kernel
theorem c289_141 : fx_gf 289 141 = some (12, 45, 144) := by decide +kernel
theorem c289_144 : fx_ci 289 144 = some (9, 146) := by decide +kernel
theorem c289_146 : fx_op 289 146 = some (.iload 4, 148, 146) := by decide +kernel
theorem c289_148 : fx_op 289 148 = some (.imul, 149, 148) := by decide +kernel
theorem c289_149 : fx_op 289 149 = some (.aload_n 0, 150, 149) := by decide +kernel
theorem c289_150 : fx_op 289 150 = some (.iload_n 1, 151, 150) := by decide +kernel
theorem c289_151 : fx_op 289 151 = some (.iload_n 2, 152, 151) := by decide +kernel
theorem c289_152 : fx_op 289 152 = some (.iload 5, 154, 152) := by decide +kernel
theorem c289_115 : fx_op 289 115 = some (.iaload, 116, 115) := by decide +kernel
theorem c289_121 : fx_op 289 121 = some (.iaload, 122, 121) := by decide +kernel
theorem c289_181 : fx_op 289 181 = some (.return_, 182, 181) := by decide +kernel
theorem c289_154 : fx_ca 289 154 = some (291, 4, 2, 157) := by decide +kernel
theorem c289_35 : fx_op 289 35 = some (.iload 6, 37, 35) := by decide +kernel
theorem c289_37 : fx_op 289 37 = some (.aload_n 0, 38, 37) := by decide +kernel
theorem c289_38 : fx_gf 289 38 = some (12, 43, 41) := by decide +kernel
theorem c289_41 : fx_ci 289 41 = some (12, 43) := by decide +kernel
theorem c289_43 : fx_op 289 43 = some (.iload_n 1, 44, 43) := by decide +kernel
theorem c289_44 : fx_op 289 44 = some (.imul, 45, 44) := by decide +kernel
theorem c289_45 : fx_op 289 45 = some (.iload 5, 47, 45) := by decide +kernel
theorem c289_47 : fx_op 289 47 = some (.iadd, 48, 47) := by decide +kernel
theorem c289_49 : fx_op 289 49 = some (.if_icmp .ge 50, 52, 99) := by decide +kernel
theorem c289_52 : fx_op 289 52 = some (.aload_n 0, 53, 52) := by decide +kernel
theorem c289_53 : fx_gf 289 53 = some (12, 44, 56) := by decide +kernel
theorem c289_56 : fx_ci 289 56 = some (4, 57) := by decide +kernel
theorem c289_57 : fx_ci 289 57 = some (12, 59) := by decide +kernel
theorem c289_59 : fx_op 289 59 = some (.iload 4, 61, 59) := by decide +kernel
theorem c289_61 : fx_op 289 61 = some (.imul, 62, 61) := by decide +kernel
theorem c289_62 : fx_op 289 62 = some (.iload 5, 64, 62) := by decide +kernel
theorem c289_64 : fx_op 289 64 = some (.iadd, 65, 64) := by decide +kernel
theorem c289_65 : fx_op 289 65 = some (.imul, 66, 65) := by decide +kernel
theorem c289_66 : fx_op 289 66 = some (.iload 6, 68, 66) := by decide +kernel
theorem c289_68 : fx_op 289 68 = some (.iadd, 69, 68) := by decide +kernel
theorem c289_69 : fx_op 289 69 = some (.aload_n 0, 70, 69) := by decide +kernel
theorem c289_70 : fx_op 289 70 = some (.iload_n 1, 71, 70) := by decide +kernel
theorem c289_71 : fx_op 289 71 = some (.iload_n 2, 72, 71) := by decide +kernel
theorem c289_72 : fx_op 289 72 = some (.aload_n 0, 73, 72) := by decide +kernel
theorem c289_73 : fx_gf 289 73 = some (12, 44, 76) := by decide +kernel
theorem c289_76 : fx_ci 289 76 = some (4, 77) := by decide +kernel
theorem c289_77 : fx_ci 289 77 = some (12, 79) := by decide +kernel
theorem c289_79 : fx_op 289 79 = some (.iload_n 1, 80, 79) := by decide +kernel
theorem c289_80 : fx_op 289 80 = some (.imul, 81, 80) := by decide +kernel
theorem c289_81 : fx_op 289 81 = some (.iload 5, 83, 81) := by decide +kernel
theorem c289_83 : fx_op 289 83 = some (.iadd, 84, 83) := by decide +kernel
theorem c289_84 : fx_op 289 84 = some (.imul, 85, 84) := by decide +kernel
theorem c289_85 : fx_op 289 85 = some (.iload 6, 87, 85) := by decide +kernel
theorem c289_87 : fx_op 289 87 = some (.iadd, 88, 87) := by decide +kernel
theorem c289_88 : fx_op 289 88 = some (.iaload, 89, 88) := by decide +kernel
theorem c289_99 : fx_op 289 99 = some (.iinc 5 1, 102, 99) := by decide +kernel
theorem c289_48 : fx_op 289 48 = some (.iaload, 49, 48) := by decide +kernel
theorem c289_102 : fx_op 289 102 = some (.goto (-81), 105, 21) := by decide +kernel
theorem c289_89 : fx_ca 289 89 = some (291, 4, 2, 92) := by decide +kernel
theorem c289_157 : fx_op 289 157 = some (.iadd, 158, 157) := by decide +kernel
theorem c289_158 : fx_op 289 158 = some (.iload 6, 160, 158) := by decide +kernel
theorem c289_160 : fx_op 289 160 = some (.ifCond .ge 7, 163, 167) := by decide +kernel
theorem c289_167 : fx_op 289 167 = some (.aload_n 0, 168, 167) := by decide +kernel
theorem c289_168 : fx_gf 289 168 = some (12, 73, 171) := by decide +kernel
theorem c289_171 : fx_op 289 171 = some (.iload 6, 173, 171) := by decide +kernel
theorem c289_173 : fx_op 289 173 = some (.iaload, 174, 173) := by decide +kernel
theorem c289_163 : fx_ci 289 163 = some ((-1), 164) := by decide +kernel
theorem c289_164 : fx_op 289 164 = some (.goto 10, 167, 174) := by decide +kernel
theorem c289_175 : fx_op 289 175 = some (.iinc 5 1, 178, 175) := by decide +kernel
theorem c289_174 : fx_op 289 174 = some (.iastore, 175, 174) := by decide +kernel
theorem c289_178 : fx_op 289 178 = some (.goto (-70), 181, 108) := by decide +kernel
theorem c289_93 : fx_op 289 93 = some (.iinc 6 1, 96, 93) := by decide +kernel
theorem c289_92 : fx_op 289 92 = some (.iastore, 93, 92) := by decide +kernel
theorem c289_96 : fx_op 289 96 = some (.goto (-61), 99, 35) := by decide +kernel
theorem s289_0 {kc : List va_E} {d : Nat} {x1 x2 x3 x4 : Int} {M : fx_M} {Q : Option fx_V → fx_M → Prop} (H : wc kc d 264 [jR 133, jI x1, jI x4] M (fun v M1 => wp kc (d + 1) 289 7 [some (jR 133), some (jI x1), some (jI x2), some (jI x3), some (jI x4), none, none] (v.toList ++ []) M1 Q)) : wp kc (d + 1) 289 0 [some (jR 133), some (jI x1), some (jI x2), some (jI x3), some (jI x4), none, none] [] M Q :=
  (x_aldn c289_0 rfl (x_ildn c289_1 rfl (x_ild c289_2 rfl (wp_wk (l' := [some (jR 133), some (jI x1), some (jI x2), some (jI x3), some (jI x4), none, none]) ⟨rfl, ⟨rfl, ⟨rfl, ⟨rfl, ⟨rfl, trivial⟩⟩⟩⟩⟩ (x_cv (As := [jI x1, jI x4]) (st := []) c289_4 cl_133 kl264 rfl (Nat.le_of_ble_eq_true rfl) mx264 (Nat.le_refl _) H)))))
theorem s289_7 {kc : List va_E} {d : Nat} {v1 v2 v3 v4 : Int} {M : fx_M} {Q : Option fx_V → fx_M → Prop} (H : (((0 : Int) ≤ v1 ∧ v1 < 10)) ∧ wc kc d 290 [jR 133, jI (M 148 v1), jI v3] M (fun v M1 => wp kc (d + 1) 289 18 [some (jR 133), some (jI v1), some (jI v2), none, some (jI v4), none, none] (v.toList ++ []) M1 Q)) : wp kc (d + 1) 289 7 [some (jR 133), some (jI v1), some (jI v2), some (jI v3), some (jI v4), none, none] [] M Q :=
  (x_aldn c289_7 rfl (x_aldn c289_8 rfl (x_gfr c289_9 k_133_39 (x_ildn c289_12 rfl (x_iald c289_13 a_148 H.1 (by decide) (x_ildn c289_14 rfl (wp_wk (l' := [some (jR 133), some (jI v1), some (jI v2), none, some (jI v4), none, none]) ⟨rfl, ⟨rfl, ⟨rfl, ⟨rfl, trivial⟩⟩⟩⟩ (x_cv (As := [jI (M 148 v1), jI v3]) (st := []) c289_15 cl_133 kl290 rfl (Nat.le_of_ble_eq_true rfl) mx290 (Nat.le_refl _) H.2))))))))
theorem s289_18 {kc : List va_E} {d : Nat} {v1 v2 v4 : Int} {M : fx_M} {Q : Option fx_V → fx_M → Prop} (H : wp kc (d + 1) 289 21 [some (jR 133), some (jI v1), some (jI v2), none, some (jI v4), some (jI 0), none] [] M Q) : wp kc (d + 1) 289 18 [some (jR 133), some (jI v1), some (jI v2), none, some (jI v4), none, none] [] M Q :=
  (x_ci c289_18 (x_ist (l' := [some (jR 133), some (jI v1), some (jI v2), none, some (jI v4), some (jI 0), none]) c289_19 rfl (wp_wk (l' := [some (jR 133), some (jI v1), some (jI v2), none, some (jI v4), some (jI 0), none]) ⟨rfl, ⟨rfl, ⟨rfl, ⟨rfl, ⟨rfl, trivial⟩⟩⟩⟩⟩ H)))
theorem s289_21 {kc : List va_E} {d : Nat} {v1 v2 v4 v5 : Int} {M : fx_M} {Q : Option fx_V → fx_M → Prop} (H : (((0 : Int) ≤ v1 ∧ v1 < 10)) ∧ ((fx_in32 v5) ∧ (fx_in32 (M 149 v1))) ∧ (M 149 v1 ≤ v5 → wp kc (d + 1) 289 108 [some (jR 133), some (jI v1), some (jI v2), none, some (jI v4), some (jI 0), none] [] M Q) ∧ (v5 < M 149 v1 → wp kc (d + 1) 289 35 [some (jR 133), some (jI v1), some (jI v2), none, some (jI v4), some (jI v5), some (jI 0)] [] M Q)) : wp kc (d + 1) 289 21 [some (jR 133), some (jI v1), some (jI v2), none, some (jI v4), some (jI v5), none] [] M Q :=
  (x_ild c289_21 rfl (x_aldn c289_23 rfl (x_gfr c289_24 k_133_40 (x_ildn c289_27 rfl (x_iald c289_28 a_149 H.1 (by decide) (x_cge c289_29 H.2.1.1 H.2.1.2 (fun h1 => (x_ci c289_105 (x_ist (l' := [some (jR 133), some (jI v1), some (jI v2), none, some (jI v4), some (jI 0), none]) c289_106 rfl (wp_wk (l' := [some (jR 133), some (jI v1), some (jI v2), none, some (jI v4), some (jI 0), none]) ⟨rfl, ⟨rfl, ⟨rfl, ⟨rfl, ⟨rfl, trivial⟩⟩⟩⟩⟩ (H.2.2.1 h1))))) (fun h2 => (x_ci c289_32 (x_ist (l' := [some (jR 133), some (jI v1), some (jI v2), none, some (jI v4), some (jI v5), some (jI 0)]) c289_33 rfl (wp_wk (l' := [some (jR 133), some (jI v1), some (jI v2), none, some (jI v4), some (jI v5), some (jI 0)]) ⟨rfl, ⟨rfl, ⟨rfl, ⟨rfl, ⟨rfl, ⟨rfl, trivial⟩⟩⟩⟩⟩⟩ (H.2.2.2 h2)))))))))))
theorem s289_35 {kc : List va_E} {d : Nat} {v1 v2 v4 v5 v6 : Int} {M : fx_M} {Q : Option fx_V → fx_M → Prop} (H : (((0 : Int) ≤ (12 * v1) + v5 ∧ (12 * v1) + v5 < 120)) ∧ ((fx_in32 v6) ∧ (fx_in32 (M 152 ((12 * v1) + v5)))) ∧ (M 152 ((12 * v1) + v5) ≤ v6 → wp kc (d + 1) 289 21 [some (jR 133), some (jI v1), some (jI v2), none, some (jI v4), some (jI (v5 + 1)), none] [] M Q) ∧ (v6 < M 152 ((12 * v1) + v5) → (((0 : Int) ≤ (4 * ((12 * v1) + v5)) + v6 ∧ (4 * ((12 * v1) + v5)) + v6 < 480)) ∧ wc kc d 291 [jR 133, jI v1, jI v2, jI (M 153 ((4 * ((12 * v1) + v5)) + v6))] M (fun v M1 => wp kc (d + 1) 289 92 [some (jR 133), some (jI v1), some (jI v2), none, some (jI v4), some (jI v5), some (jI v6)] (v.toList ++ [jI ((4 * ((12 * v4) + v5)) + v6), jR 153]) M1 Q))) : wp kc (d + 1) 289 35 [some (jR 133), some (jI v1), some (jI v2), none, some (jI v4), some (jI v5), some (jI v6)] [] M Q :=
  (x_ild c289_35 rfl (x_aldn c289_37 rfl (x_gfr c289_38 k_133_43 (x_ci c289_41 (x_ildn c289_43 rfl (x_imul c289_44 (x_ild c289_45 rfl (x_iadd c289_47 (x_iald c289_48 a_152 H.1 (by decide) (x_cge c289_49 H.2.1.1 H.2.1.2 (fun h1 => (x_inc (l' := [some (jR 133), some (jI v1), some (jI v2), none, some (jI v4), some (jI (v5 + 1)), some (jI v6)]) c289_99 rfl rfl (x_goto c289_102 (wp_wk (l' := [some (jR 133), some (jI v1), some (jI v2), none, some (jI v4), some (jI (v5 + 1)), none]) ⟨rfl, ⟨rfl, ⟨rfl, ⟨rfl, ⟨rfl, trivial⟩⟩⟩⟩⟩ (H.2.2.1 h1))))) (fun h2 => (x_aldn c289_52 rfl (x_gfr c289_53 k_133_44 (x_ci c289_56 (x_ci c289_57 (x_ild c289_59 rfl (x_imul c289_61 (x_ild c289_62 rfl (x_iadd c289_64 (x_imul c289_65 (x_ild c289_66 rfl (x_iadd c289_68 (x_aldn c289_69 rfl (x_ildn c289_70 rfl (x_ildn c289_71 rfl (x_aldn c289_72 rfl (x_gfr c289_73 k_133_44 (x_ci c289_76 (x_ci c289_77 (x_ildn c289_79 rfl (x_imul c289_80 (x_ild c289_81 rfl (x_iadd c289_83 (x_imul c289_84 (x_ild c289_85 rfl (x_iadd c289_87 (x_iald c289_88 a_153 (H.2.2.2 h2).1 (by decide) (wp_wk (l' := [some (jR 133), some (jI v1), some (jI v2), none, some (jI v4), some (jI v5), some (jI v6)]) ⟨rfl, ⟨rfl, ⟨rfl, ⟨rfl, ⟨rfl, ⟨rfl, trivial⟩⟩⟩⟩⟩⟩ (x_cv (As := [jI v1, jI v2, jI (M 153 ((4 * ((12 * v1) + v5)) + v6))]) (st := [jI ((4 * ((12 * v4) + v5)) + v6), jR 153]) c289_89 cl_133 kl291 rfl (Nat.le_of_ble_eq_true rfl) mx291 (Nat.le_refl _) (H.2.2.2 h2).2)))))))))))))))))))))))))))))))))))))))
theorem s289_92 {kc : List va_E} {d : Nat} {v1 v2 v4 v5 v6 u0 u1 : Int} {M : fx_M} {Q : Option fx_V → fx_M → Prop} (H : (((0 : Int) ≤ u1 ∧ u1 < 480)) ∧ wp kc (d + 1) 289 35 [some (jR 133), some (jI v1), some (jI v2), none, some (jI v4), some (jI v5), some (jI (v6 + 1))] [] (fx_up M 153 u1 u0) Q) : wp kc (d + 1) 289 92 [some (jR 133), some (jI v1), some (jI v2), none, some (jI v4), some (jI v5), some (jI v6)] [jI u0, jI u1, jR 153] M Q :=
  (x_iast c289_92 a_153 H.1 (by decide) (x_inc (l' := [some (jR 133), some (jI v1), some (jI v2), none, some (jI v4), some (jI v5), some (jI (v6 + 1))]) c289_93 rfl rfl (x_goto c289_96 (wp_wk (l' := [some (jR 133), some (jI v1), some (jI v2), none, some (jI v4), some (jI v5), some (jI (v6 + 1))]) ⟨rfl, ⟨rfl, ⟨rfl, ⟨rfl, ⟨rfl, ⟨rfl, trivial⟩⟩⟩⟩⟩⟩ H.2))))
theorem s289_108 {kc : List va_E} {d : Nat} {v1 v2 v4 v5 : Int} {M : fx_M} {Q : Option fx_V → fx_M → Prop} (H : (((0 : Int) ≤ v1 ∧ v1 < 10)) ∧ (((0 : Int) ≤ v1 ∧ v1 < 10)) ∧ ((fx_in32 v5) ∧ (fx_in32 ((M 146 v1) * (M 147 v1)))) ∧ ((M 146 v1) * (M 147 v1) ≤ v5 → Q none M) ∧ (v5 < (M 146 v1) * (M 147 v1) → (((0 : Int) ≤ (9 * v1) + v5 ∧ (9 * v1) + v5 < 90)) ∧ wc kc d 291 [jR 133, jI v1, jI v2, jI v5] M (fun v M1 => wp kc (d + 1) 289 157 [some (jR 133), some (jI v1), some (jI v2), none, some (jI v4), some (jI v5), some (jI (M 154 ((9 * v1) + v5)))] (v.toList ++ [jI (9 * v4), jR 154]) M1 Q))) : wp kc (d + 1) 289 108 [some (jR 133), some (jI v1), some (jI v2), none, some (jI v4), some (jI v5), none] [] M Q :=
  (x_ild c289_108 rfl (x_aldn c289_110 rfl (x_gfr c289_111 k_133_37 (x_ildn c289_114 rfl (x_iald c289_115 a_146 H.1 (by decide) (x_aldn c289_116 rfl (x_gfr c289_117 k_133_38 (x_ildn c289_120 rfl (x_iald c289_121 a_147 H.2.1 (by decide) (x_imul c289_122 (x_cge c289_123 H.2.2.1.1 H.2.2.1.2 (fun h1 => (x_vr c289_181 r289 (H.2.2.2.1 h1))) (fun h2 => (x_aldn c289_126 rfl (x_gfr c289_127 k_133_45 (x_ci c289_130 (x_ildn c289_132 rfl (x_imul c289_133 (x_ild c289_134 rfl (x_iadd c289_136 (x_iald c289_137 a_154 (H.2.2.2.2 h2).1 (by decide) (x_ist (l' := [some (jR 133), some (jI v1), some (jI v2), none, some (jI v4), some (jI v5), some (jI (M 154 ((9 * v1) + v5)))]) c289_138 rfl (x_aldn c289_140 rfl (x_gfr c289_141 k_133_45 (x_ci c289_144 (x_ild c289_146 rfl (x_imul c289_148 (x_aldn c289_149 rfl (x_ildn c289_150 rfl (x_ildn c289_151 rfl (x_ild c289_152 rfl (wp_wk (l' := [some (jR 133), some (jI v1), some (jI v2), none, some (jI v4), some (jI v5), some (jI (M 154 ((9 * v1) + v5)))]) ⟨rfl, ⟨rfl, ⟨rfl, ⟨rfl, ⟨rfl, ⟨rfl, trivial⟩⟩⟩⟩⟩⟩ (x_cv (As := [jI v1, jI v2, jI v5]) (st := [jI (9 * v4), jR 154]) c289_154 cl_133 kl291 rfl (Nat.le_of_ble_eq_true rfl) mx291 (Nat.le_refl _) (H.2.2.2.2 h2).2))))))))))))))))))))))))))))))))
theorem s289_157 {kc : List va_E} {d : Nat} {v1 v2 v4 v5 v6 u0 u1 : Int} {M : fx_M} {Q : Option fx_V → fx_M → Prop} (H : ((fx_in32 v6)) ∧ (0 ≤ v6 → ((((0 : Int) ≤ v6 ∧ v6 < 4)))) ∧ (((0 : Int) ≤ u1 + u0 ∧ u1 + u0 < 90)) ∧ wp kc (d + 1) 289 108 [some (jR 133), some (jI v1), some (jI v2), none, some (jI v4), some (jI (v5 + 1)), none] [] (fx_up M 154 (u1 + u0) (if v6 < 0 then ((-1) : Int) else M 169 v6)) Q) : wp kc (d + 1) 289 157 [some (jR 133), some (jI v1), some (jI v2), none, some (jI v4), some (jI v5), some (jI v6)] [jI u0, jI u1, jR 154] M Q :=
  (x_iadd c289_157 (x_ild c289_158 rfl (have K : wp kc (d + 1) 289 174 [some (jR 133), some (jI v1), some (jI v2), none, some (jI v4), some (jI v5), none] [jI (if v6 < 0 then ((-1) : Int) else M 169 v6), jI (u1 + u0), jR 154] M Q := (x_iast c289_174 a_154 H.2.2.1 (by decide) (x_inc (l' := [some (jR 133), some (jI v1), some (jI v2), none, some (jI v4), some (jI (v5 + 1)), none]) c289_175 rfl rfl (x_goto c289_178 (wp_wk (l' := [some (jR 133), some (jI v1), some (jI v2), none, some (jI v4), some (jI (v5 + 1)), none]) ⟨rfl, ⟨rfl, ⟨rfl, ⟨rfl, ⟨rfl, trivial⟩⟩⟩⟩⟩ H.2.2.2)))); (x_zge c289_160 H.1 (fun (h1 : 0 ≤ v6) => (x_aldn c289_167 rfl (x_gfr c289_168 k_133_73 (x_ild c289_171 rfl (x_iald c289_173 a_169 (H.2.1 h1) (by decide) (wp_wk (l' := [some (jR 133), some (jI v1), some (jI v2), none, some (jI v4), some (jI v5), none]) ⟨rfl, ⟨rfl, ⟨rfl, ⟨rfl, ⟨rfl, trivial⟩⟩⟩⟩⟩ (by have K := K; first | (simp only [if_neg (Int.not_lt.mpr h1)] at K ⊢; exact K) | (exfalso; omega)))))))) (fun (h2 : v6 < 0) => (x_ci c289_163 (x_goto c289_164 (wp_wk (l' := [some (jR 133), some (jI v1), some (jI v2), none, some (jI v4), some (jI v5), none]) ⟨rfl, ⟨rfl, ⟨rfl, ⟨rfl, ⟨rfl, trivial⟩⟩⟩⟩⟩ (by have K := K; first | (simp only [if_pos h2] at K ⊢; exact K) | (exfalso; omega))))))))))
theorem s289 {kc : List va_E} {d : Nat} {x1 x2 x3 x4 : Int} {M : fx_M} {Q : Option fx_V → fx_M → Prop} (H : wc kc d 264 [jR 133, jI x1, jI x4] M (fun v M1 => wp kc (d + 1) 289 7 [some (jR 133), some (jI x1), some (jI x2), some (jI x3), some (jI x4), none, none] (v.toList ++ []) M1 Q)) : wc kc (d + 1) 289 [jR 133, jI x1, jI x2, jI x3, jI x4] M Q :=
  wc_of (wp_wk (l' := [some (jR 133), some (jI x1), some (jI x2), some (jI x3), some (jI x4), none, none]) ⟨rfl, ⟨rfl, ⟨rfl, ⟨rfl, ⟨rfl, trivial⟩⟩⟩⟩⟩ (s289_0 H))

/- PuzzleHouseModel.rename(II)V -/
theorem c290_0 : fx_ci 290 0 = some (1, 1) := by decide +kernel
theorem c290_1 : fx_op 290 1 = some (.iload_n 1, 2, 1) := by decide +kernel
theorem c290_2 : fx_op 290 2 = some (.ishl, 3, 2) := by decide +kernel
theorem c290_3 : fx_ci 290 3 = some (1, 4) := by decide +kernel
theorem c290_4 : fx_op 290 4 = some (.isub, 5, 4) := by decide +kernel
theorem c290_5 : fx_op 290 5 = some (.istore_n 3, 6, 5) := by decide +kernel
theorem c290_6 : fx_op 290 6 = some (.iload_n 2, 7, 6) := by decide +kernel
theorem c290_7 : fx_op 290 7 = some (.istore 4, 9, 7) := by decide +kernel
theorem c290_9 : fx_ci 290 9 = some (1, 10) := by decide +kernel
theorem c290_10 : fx_op 290 10 = some (.istore 5, 12, 10) := by decide +kernel
theorem c290_12 : fx_ci 290 12 = some (2, 13) := by decide +kernel
theorem c290_13 : fx_op 290 13 = some (.istore 6, 15, 13) := by decide +kernel
theorem c290_15 : fx_op 290 15 = some (.iload 6, 17, 15) := by decide +kernel
theorem c290_17 : fx_op 290 17 = some (.iload_n 1, 18, 17) := by decide +kernel
theorem c290_18 : fx_op 290 18 = some (.if_icmp .gt 16, 21, 34) := by decide +kernel
theorem c290_21 : fx_op 290 21 = some (.iload 5, 23, 21) := by decide +kernel
theorem c290_23 : fx_op 290 23 = some (.iload 6, 25, 23) := by decide +kernel
theorem c290_25 : fx_op 290 25 = some (.imul, 26, 25) := by decide +kernel
theorem c290_26 : fx_op 290 26 = some (.istore 5, 28, 26) := by decide +kernel
theorem c290_28 : fx_op 290 28 = some (.iinc 6 1, 31, 28) := by decide +kernel
theorem c290_34 : fx_ci 290 34 = some (0, 35) := by decide +kernel
theorem c290_35 : fx_op 290 35 = some (.istore 6, 37, 35) := by decide +kernel
theorem c290_31 : fx_op 290 31 = some (.goto (-16), 34, 15) := by decide +kernel
theorem c290_37 : fx_op 290 37 = some (.iload 6, 39, 37) := by decide +kernel
theorem c290_39 : fx_op 290 39 = some (.iload_n 1, 40, 39) := by decide +kernel
theorem c290_40 : fx_op 290 40 = some (.if_icmp .ge 84, 43, 124) := by decide +kernel
theorem c290_43 : fx_op 290 43 = some (.iload 5, 45, 43) := by decide +kernel
theorem c290_45 : fx_op 290 45 = some (.iload_n 1, 46, 45) := by decide +kernel
theorem c290_46 : fx_op 290 46 = some (.iload 6, 48, 46) := by decide +kernel
theorem c290_48 : fx_op 290 48 = some (.isub, 49, 48) := by decide +kernel
theorem c290_49 : fx_op 290 49 = some (.idiv, 50, 49) := by decide +kernel
theorem c290_50 : fx_op 290 50 = some (.istore 5, 52, 50) := by decide +kernel
theorem c290_52 : fx_op 290 52 = some (.iload 4, 54, 52) := by decide +kernel
theorem c290_54 : fx_op 290 54 = some (.iload 5, 56, 54) := by decide +kernel
theorem c290_56 : fx_op 290 56 = some (.idiv, 57, 56) := by decide +kernel
theorem c290_57 : fx_op 290 57 = some (.istore 7, 59, 57) := by decide +kernel
theorem c290_59 : fx_op 290 59 = some (.iload 4, 61, 59) := by decide +kernel
theorem c290_61 : fx_op 290 61 = some (.iload 5, 63, 61) := by decide +kernel
theorem c290_63 : fx_op 290 63 = some (.irem, 64, 63) := by decide +kernel
theorem c290_64 : fx_op 290 64 = some (.istore 4, 66, 64) := by decide +kernel
theorem c290_66 : fx_ci 290 66 = some (0, 67) := by decide +kernel
theorem c290_67 : fx_op 290 67 = some (.istore 8, 69, 67) := by decide +kernel
theorem c290_124 : fx_op 290 124 = some (.return_, 125, 124) := by decide +kernel
theorem c290_69 : fx_op 290 69 = some (.iload_n 3, 70, 69) := by decide +kernel
theorem c290_70 : fx_op 290 70 = some (.iload 8, 72, 70) := by decide +kernel
theorem c290_72 : fx_op 290 72 = some (.ishr, 73, 72) := by decide +kernel
theorem c290_73 : fx_ci 290 73 = some (1, 74) := by decide +kernel
theorem c290_74 : fx_op 290 74 = some (.iand, 75, 74) := by decide +kernel
theorem c290_75 : fx_op 290 75 = some (.ifCond .eq 8, 78, 83) := by decide +kernel
theorem c290_83 : fx_op 290 83 = some (.iload 7, 85, 83) := by decide +kernel
theorem c290_85 : fx_op 290 85 = some (.iload_n 3, 86, 85) := by decide +kernel
theorem c290_86 : fx_op 290 86 = some (.iload 8, 88, 86) := by decide +kernel
theorem c290_88 : fx_op 290 88 = some (.ishr, 89, 88) := by decide +kernel
theorem c290_89 : fx_ci 290 89 = some (1, 90) := by decide +kernel
theorem c290_90 : fx_op 290 90 = some (.iand, 91, 90) := by decide +kernel
theorem c290_91 : fx_op 290 91 = some (.isub, 92, 91) := by decide +kernel
theorem c290_92 : fx_op 290 92 = some (.istore 7, 94, 92) := by decide +kernel
theorem c290_94 : fx_op 290 94 = some (.iinc 8 1, 97, 94) := by decide +kernel
theorem c290_78 : fx_op 290 78 = some (.iload 7, 80, 78) := by decide +kernel
theorem c290_80 : fx_op 290 80 = some (.ifCond .le 20, 83, 100) := by decide +kernel
theorem c290_100 : fx_op 290 100 = some (.aload_n 0, 101, 100) := by decide +kernel
theorem c290_101 : fx_gf 290 101 = some (12, 73, 104) := by decide +kernel
theorem c290_104 : fx_op 290 104 = some (.iload 6, 106, 104) := by decide +kernel
theorem c290_106 : fx_op 290 106 = some (.iload 8, 108, 106) := by decide +kernel
theorem c290_109 : fx_op 290 109 = some (.iload_n 3, 110, 109) := by decide +kernel
theorem c290_110 : fx_ci 290 110 = some (1, 111) := by decide +kernel
theorem c290_111 : fx_op 290 111 = some (.iload 8, 113, 111) := by decide +kernel
theorem c290_113 : fx_op 290 113 = some (.ishl, 114, 113) := by decide +kernel
theorem c290_114 : fx_ci 290 114 = some ((-1), 115) := by decide +kernel
theorem c290_115 : fx_op 290 115 = some (.ixor, 116, 115) := by decide +kernel
theorem c290_116 : fx_op 290 116 = some (.iand, 117, 116) := by decide +kernel
theorem c290_117 : fx_op 290 117 = some (.istore_n 3, 118, 117) := by decide +kernel
theorem c290_118 : fx_op 290 118 = some (.iinc 6 1, 121, 118) := by decide +kernel
theorem c290_97 : fx_op 290 97 = some (.goto (-28), 100, 69) := by decide +kernel
theorem c290_108 : fx_op 290 108 = some (.iastore, 109, 108) := by decide +kernel
theorem c290_121 : fx_op 290 121 = some (.goto (-84), 124, 37) := by decide +kernel
theorem s290_0 {kc : List va_E} {d : Nat} {x1 x2 : Int} {M : fx_M} {Q : Option fx_V → fx_M → Prop} (H : wp kc (d + 1) 290 15 [some (jR 133), some (jI x1), none, some (jI ((fx_shl 1 x1) - 1)), some (jI x2), some (jI 1), some (jI 2), none, none] [] M Q) : wp kc (d + 1) 290 0 [some (jR 133), some (jI x1), some (jI x2), none, none, none, none, none, none] [] M Q :=
  (x_ci c290_0 (x_ildn c290_1 rfl (x_ishl c290_2 (x_ci c290_3 (x_isub c290_4 (x_istn (l' := [some (jR 133), some (jI x1), some (jI x2), some (jI ((fx_shl 1 x1) - 1)), none, none, none, none, none]) c290_5 rfl (x_ildn c290_6 rfl (x_ist (l' := [some (jR 133), some (jI x1), some (jI x2), some (jI ((fx_shl 1 x1) - 1)), some (jI x2), none, none, none, none]) c290_7 rfl (x_ci c290_9 (x_ist (l' := [some (jR 133), some (jI x1), some (jI x2), some (jI ((fx_shl 1 x1) - 1)), some (jI x2), some (jI 1), none, none, none]) c290_10 rfl (x_ci c290_12 (x_ist (l' := [some (jR 133), some (jI x1), some (jI x2), some (jI ((fx_shl 1 x1) - 1)), some (jI x2), some (jI 1), some (jI 2), none, none]) c290_13 rfl (wp_wk (l' := [some (jR 133), some (jI x1), none, some (jI ((fx_shl 1 x1) - 1)), some (jI x2), some (jI 1), some (jI 2), none, none]) ⟨rfl, ⟨rfl, ⟨rfl, ⟨rfl, ⟨rfl, ⟨rfl, trivial⟩⟩⟩⟩⟩⟩ H)))))))))))))
theorem s290_15 {kc : List va_E} {d : Nat} {v1 v3 v4 v5 v6 : Int} {M : fx_M} {Q : Option fx_V → fx_M → Prop} (H : ((fx_in32 v6) ∧ (fx_in32 v1)) ∧ (v1 < v6 → wp kc (d + 1) 290 37 [some (jR 133), some (jI v1), none, some (jI v3), some (jI v4), some (jI v5), some (jI 0), none, none] [] M Q) ∧ (v6 ≤ v1 → wp kc (d + 1) 290 15 [some (jR 133), some (jI v1), none, some (jI v3), some (jI v4), some (jI (v5 * v6)), some (jI (v6 + 1)), none, none] [] M Q)) : wp kc (d + 1) 290 15 [some (jR 133), some (jI v1), none, some (jI v3), some (jI v4), some (jI v5), some (jI v6), none, none] [] M Q :=
  (x_ild c290_15 rfl (x_ildn c290_17 rfl (x_cgt c290_18 H.1.1 H.1.2 (fun h1 => (x_ci c290_34 (x_ist (l' := [some (jR 133), some (jI v1), none, some (jI v3), some (jI v4), some (jI v5), some (jI 0), none, none]) c290_35 rfl (wp_wk (l' := [some (jR 133), some (jI v1), none, some (jI v3), some (jI v4), some (jI v5), some (jI 0), none, none]) ⟨rfl, ⟨rfl, ⟨rfl, ⟨rfl, ⟨rfl, ⟨rfl, trivial⟩⟩⟩⟩⟩⟩ (H.2.1 h1))))) (fun h2 => (x_ild c290_21 rfl (x_ild c290_23 rfl (x_imul c290_25 (x_ist (l' := [some (jR 133), some (jI v1), none, some (jI v3), some (jI v4), some (jI (v5 * v6)), some (jI v6), none, none]) c290_26 rfl (x_inc (l' := [some (jR 133), some (jI v1), none, some (jI v3), some (jI v4), some (jI (v5 * v6)), some (jI (v6 + 1)), none, none]) c290_28 rfl rfl (x_goto c290_31 (wp_wk (l' := [some (jR 133), some (jI v1), none, some (jI v3), some (jI v4), some (jI (v5 * v6)), some (jI (v6 + 1)), none, none]) ⟨rfl, ⟨rfl, ⟨rfl, ⟨rfl, ⟨rfl, ⟨rfl, trivial⟩⟩⟩⟩⟩⟩ (H.2.2 h2))))))))))))
theorem s290_37 {kc : List va_E} {d : Nat} {v1 v3 v4 v5 v6 : Int} {M : fx_M} {Q : Option fx_V → fx_M → Prop} (H : ((fx_in32 v6) ∧ (fx_in32 v1)) ∧ (v1 ≤ v6 → Q none M) ∧ (v6 < v1 → (((0 : Int) ≤ v5 ∧ v5 ≤ 2147483647) ∧ ((0 : Int) < v1 - v6 ∧ v1 - v6 ≤ 2147483647)) ∧ (((0 : Int) ≤ v4 ∧ v4 ≤ 2147483647) ∧ ((0 : Int) < v5 / (v1 - v6) ∧ v5 / (v1 - v6) ≤ 2147483647)) ∧ (((0 : Int) ≤ v4 ∧ v4 ≤ 2147483647) ∧ ((0 : Int) < v5 / (v1 - v6) ∧ v5 / (v1 - v6) ≤ 2147483647)) ∧ wp kc (d + 1) 290 69 [some (jR 133), some (jI v1), none, some (jI v3), some (jI (v4 % (v5 / (v1 - v6)))), some (jI (v5 / (v1 - v6))), some (jI v6), some (jI (v4 / (v5 / (v1 - v6)))), some (jI 0)] [] M Q)) : wp kc (d + 1) 290 37 [some (jR 133), some (jI v1), none, some (jI v3), some (jI v4), some (jI v5), some (jI v6), none, none] [] M Q :=
  (x_ild c290_37 rfl (x_ildn c290_39 rfl (x_cge c290_40 H.1.1 H.1.2 (fun h1 => (x_vr c290_124 r290 (H.2.1 h1))) (fun h2 => (x_ild c290_43 rfl (x_ildn c290_45 rfl (x_ild c290_46 rfl (x_isub c290_48 (x_idiv c290_49 (H.2.2 h2).1.1 (H.2.2 h2).1.2 (x_ist (l' := [some (jR 133), some (jI v1), none, some (jI v3), some (jI v4), some (jI (v5 / (v1 - v6))), some (jI v6), none, none]) c290_50 rfl (x_ild c290_52 rfl (x_ild c290_54 rfl (x_idiv c290_56 (H.2.2 h2).2.1.1 (H.2.2 h2).2.1.2 (x_ist (l' := [some (jR 133), some (jI v1), none, some (jI v3), some (jI v4), some (jI (v5 / (v1 - v6))), some (jI v6), some (jI (v4 / (v5 / (v1 - v6)))), none]) c290_57 rfl (x_ild c290_59 rfl (x_ild c290_61 rfl (x_irem c290_63 (H.2.2 h2).2.2.1.1 (H.2.2 h2).2.2.1.2 (x_ist (l' := [some (jR 133), some (jI v1), none, some (jI v3), some (jI (v4 % (v5 / (v1 - v6)))), some (jI (v5 / (v1 - v6))), some (jI v6), some (jI (v4 / (v5 / (v1 - v6)))), none]) c290_64 rfl (x_ci c290_66 (x_ist (l' := [some (jR 133), some (jI v1), none, some (jI v3), some (jI (v4 % (v5 / (v1 - v6)))), some (jI (v5 / (v1 - v6))), some (jI v6), some (jI (v4 / (v5 / (v1 - v6)))), some (jI 0)]) c290_67 rfl (wp_wk (l' := [some (jR 133), some (jI v1), none, some (jI v3), some (jI (v4 % (v5 / (v1 - v6)))), some (jI (v5 / (v1 - v6))), some (jI v6), some (jI (v4 / (v5 / (v1 - v6)))), some (jI 0)]) ⟨rfl, ⟨rfl, ⟨rfl, ⟨rfl, ⟨rfl, ⟨rfl, ⟨rfl, ⟨rfl, trivial⟩⟩⟩⟩⟩⟩⟩⟩ (H.2.2 h2).2.2.2)))))))))))))))))))))
theorem s290_69 {kc : List va_E} {d : Nat} {v1 v3 v4 v5 v6 v7 v8 : Int} {M : fx_M} {Q : Option fx_V → fx_M → Prop} (H : ((fx_in32 (fx_and (fx_shr v3 v8) 1))) ∧ (fx_and (fx_shr v3 v8) 1 = 0 → wp kc (d + 1) 290 69 [some (jR 133), some (jI v1), none, some (jI v3), some (jI v4), some (jI v5), some (jI v6), some (jI (v7 - (fx_and (fx_shr v3 v8) 1))), some (jI (v8 + 1))] [] M Q) ∧ (fx_and (fx_shr v3 v8) 1 ≠ 0 → ((fx_in32 v7)) ∧ (v7 ≤ 0 → (((0 : Int) ≤ v6 ∧ v6 < 4)) ∧ wp kc (d + 1) 290 37 [some (jR 133), some (jI v1), none, some (jI (fx_and v3 (fx_xor (fx_shl 1 v8) (-1)))), some (jI v4), some (jI v5), some (jI (v6 + 1)), none, none] [] (fx_up M 169 v6 v8) Q) ∧ (0 < v7 → wp kc (d + 1) 290 69 [some (jR 133), some (jI v1), none, some (jI v3), some (jI v4), some (jI v5), some (jI v6), some (jI (v7 - (fx_and (fx_shr v3 v8) 1))), some (jI (v8 + 1))] [] M Q))) : wp kc (d + 1) 290 69 [some (jR 133), some (jI v1), none, some (jI v3), some (jI v4), some (jI v5), some (jI v6), some (jI v7), some (jI v8)] [] M Q :=
  (x_ildn c290_69 rfl (x_ild c290_70 rfl (x_ishr c290_72 (x_ci c290_73 (x_iand c290_74 (x_zeq c290_75 H.1 (fun h3 => (x_ild c290_83 rfl (x_ildn c290_85 rfl (x_ild c290_86 rfl (x_ishr c290_88 (x_ci c290_89 (x_iand c290_90 (x_isub c290_91 (x_ist (l' := [some (jR 133), some (jI v1), none, some (jI v3), some (jI v4), some (jI v5), some (jI v6), some (jI (v7 - (fx_and (fx_shr v3 v8) 1))), some (jI v8)]) c290_92 rfl (x_inc (l' := [some (jR 133), some (jI v1), none, some (jI v3), some (jI v4), some (jI v5), some (jI v6), some (jI (v7 - (fx_and (fx_shr v3 v8) 1))), some (jI (v8 + 1))]) c290_94 rfl rfl (x_goto c290_97 (wp_wk (l' := [some (jR 133), some (jI v1), none, some (jI v3), some (jI v4), some (jI v5), some (jI v6), some (jI (v7 - (fx_and (fx_shr v3 v8) 1))), some (jI (v8 + 1))]) ⟨rfl, ⟨rfl, ⟨rfl, ⟨rfl, ⟨rfl, ⟨rfl, ⟨rfl, ⟨rfl, trivial⟩⟩⟩⟩⟩⟩⟩⟩ (H.2.1 h3))))))))))))) (fun h4 => (x_ild c290_78 rfl (x_zle c290_80 (H.2.2 h4).1 (fun h1 => (x_aldn c290_100 rfl (x_gfr c290_101 k_133_73 (x_ild c290_104 rfl (x_ild c290_106 rfl (x_iast c290_108 a_169 ((H.2.2 h4).2.1 h1).1 (by decide) (x_ildn c290_109 rfl (x_ci c290_110 (x_ild c290_111 rfl (x_ishl c290_113 (x_ci c290_114 (x_ixor c290_115 (x_iand c290_116 (x_istn (l' := [some (jR 133), some (jI v1), none, some (jI (fx_and v3 (fx_xor (fx_shl 1 v8) (-1)))), some (jI v4), some (jI v5), some (jI v6), some (jI v7), some (jI v8)]) c290_117 rfl (x_inc (l' := [some (jR 133), some (jI v1), none, some (jI (fx_and v3 (fx_xor (fx_shl 1 v8) (-1)))), some (jI v4), some (jI v5), some (jI (v6 + 1)), some (jI v7), some (jI v8)]) c290_118 rfl rfl (x_goto c290_121 (wp_wk (l' := [some (jR 133), some (jI v1), none, some (jI (fx_and v3 (fx_xor (fx_shl 1 v8) (-1)))), some (jI v4), some (jI v5), some (jI (v6 + 1)), none, none]) ⟨rfl, ⟨rfl, ⟨rfl, ⟨rfl, ⟨rfl, ⟨rfl, trivial⟩⟩⟩⟩⟩⟩ ((H.2.2 h4).2.1 h1).2))))))))))))))))) (fun h2 => (x_ild c290_83 rfl (x_ildn c290_85 rfl (x_ild c290_86 rfl (x_ishr c290_88 (x_ci c290_89 (x_iand c290_90 (x_isub c290_91 (x_ist (l' := [some (jR 133), some (jI v1), none, some (jI v3), some (jI v4), some (jI v5), some (jI v6), some (jI (v7 - (fx_and (fx_shr v3 v8) 1))), some (jI v8)]) c290_92 rfl (x_inc (l' := [some (jR 133), some (jI v1), none, some (jI v3), some (jI v4), some (jI v5), some (jI v6), some (jI (v7 - (fx_and (fx_shr v3 v8) 1))), some (jI (v8 + 1))]) c290_94 rfl rfl (x_goto c290_97 (wp_wk (l' := [some (jR 133), some (jI v1), none, some (jI v3), some (jI v4), some (jI v5), some (jI v6), some (jI (v7 - (fx_and (fx_shr v3 v8) 1))), some (jI (v8 + 1))]) ⟨rfl, ⟨rfl, ⟨rfl, ⟨rfl, ⟨rfl, ⟨rfl, ⟨rfl, ⟨rfl, trivial⟩⟩⟩⟩⟩⟩⟩⟩ ((H.2.2 h4).2.2 h2))))))))))))))))))))))
theorem s290 {kc : List va_E} {d : Nat} {x1 x2 : Int} {M : fx_M} {Q : Option fx_V → fx_M → Prop} (H : wp kc (d + 1) 290 15 [some (jR 133), some (jI x1), none, some (jI ((fx_shl 1 x1) - 1)), some (jI x2), some (jI 1), some (jI 2), none, none] [] M Q) : wc kc (d + 1) 290 [jR 133, jI x1, jI x2] M Q :=
  wc_of (wp_wk (l' := [some (jR 133), some (jI x1), some (jI x2), none, none, none, none, none, none]) ⟨rfl, ⟨rfl, ⟨rfl, trivial⟩⟩⟩ (s290_0 H))

/- PuzzleHouseModel.mapped(III)I -/
theorem c291_0 : fx_op 291 0 = some (.aload_n 0, 1, 0) := by decide +kernel
theorem c291_1 : fx_gf 291 1 = some (12, 37, 4) := by decide +kernel
theorem c291_4 : fx_op 291 4 = some (.iload_n 1, 5, 4) := by decide +kernel
theorem c291_6 : fx_op 291 6 = some (.istore 4, 8, 6) := by decide +kernel
theorem c291_8 : fx_op 291 8 = some (.aload_n 0, 9, 8) := by decide +kernel
theorem c291_9 : fx_gf 291 9 = some (12, 38, 12) := by decide +kernel
theorem c291_12 : fx_op 291 12 = some (.iload_n 1, 13, 12) := by decide +kernel
theorem c291_14 : fx_op 291 14 = some (.istore 5, 16, 14) := by decide +kernel
theorem c291_16 : fx_op 291 16 = some (.iload_n 3, 17, 16) := by decide +kernel
theorem c291_17 : fx_op 291 17 = some (.iload 4, 19, 17) := by decide +kernel
theorem c291_20 : fx_op 291 20 = some (.istore 6, 22, 20) := by decide +kernel
theorem c291_22 : fx_op 291 22 = some (.iload_n 3, 23, 22) := by decide +kernel
theorem c291_23 : fx_op 291 23 = some (.iload 4, 25, 23) := by decide +kernel
theorem c291_26 : fx_op 291 26 = some (.istore 7, 28, 26) := by decide +kernel
theorem c291_28 : fx_op 291 28 = some (.iload_n 2, 29, 28) := by decide +kernel
theorem c291_29 : fx_ci 291 29 = some (1, 30) := by decide +kernel
theorem c291_30 : fx_op 291 30 = some (.iand, 31, 30) := by decide +kernel
theorem c291_31 : fx_op 291 31 = some (.ifCond .eq 12, 34, 43) := by decide +kernel
theorem c291_34 : fx_op 291 34 = some (.iload 4, 36, 34) := by decide +kernel
theorem c291_36 : fx_ci 291 36 = some (1, 37) := by decide +kernel
theorem c291_37 : fx_op 291 37 = some (.isub, 38, 37) := by decide +kernel
theorem c291_38 : fx_op 291 38 = some (.iload 6, 40, 38) := by decide +kernel
theorem c291_40 : fx_op 291 40 = some (.isub, 41, 40) := by decide +kernel
theorem c291_41 : fx_op 291 41 = some (.istore 6, 43, 41) := by decide +kernel
theorem c291_43 : fx_op 291 43 = some (.iload_n 2, 44, 43) := by decide +kernel
theorem c291_44 : fx_ci 291 44 = some (2, 45) := by decide +kernel
theorem c291_45 : fx_op 291 45 = some (.iand, 46, 45) := by decide +kernel
theorem c291_46 : fx_op 291 46 = some (.ifCond .eq 12, 49, 58) := by decide +kernel
theorem c291_49 : fx_op 291 49 = some (.iload 5, 51, 49) := by decide +kernel
theorem c291_51 : fx_ci 291 51 = some (1, 52) := by decide +kernel
theorem c291_52 : fx_op 291 52 = some (.isub, 53, 52) := by decide +kernel
theorem c291_53 : fx_op 291 53 = some (.iload 7, 55, 53) := by decide +kernel
theorem c291_55 : fx_op 291 55 = some (.isub, 56, 55) := by decide +kernel
theorem c291_56 : fx_op 291 56 = some (.istore 7, 58, 56) := by decide +kernel
theorem c291_58 : fx_op 291 58 = some (.iload_n 2, 59, 58) := by decide +kernel
theorem c291_59 : fx_ci 291 59 = some (4, 60) := by decide +kernel
theorem c291_60 : fx_op 291 60 = some (.iand, 61, 60) := by decide +kernel
theorem c291_61 : fx_op 291 61 = some (.ifCond .eq 14, 64, 75) := by decide +kernel
theorem c291_75 : fx_op 291 75 = some (.iload 6, 77, 75) := by decide +kernel
theorem c291_77 : fx_op 291 77 = some (.iload 4, 79, 77) := by decide +kernel
theorem c291_79 : fx_op 291 79 = some (.iload 7, 81, 79) := by decide +kernel
theorem c291_81 : fx_op 291 81 = some (.imul, 82, 81) := by decide +kernel
theorem c291_82 : fx_op 291 82 = some (.iadd, 83, 82) := by decide +kernel
theorem c291_64 : fx_op 291 64 = some (.iload 7, 66, 64) := by decide +kernel
theorem c291_66 : fx_op 291 66 = some (.iload 4, 68, 66) := by decide +kernel
theorem c291_68 : fx_op 291 68 = some (.iload 6, 70, 68) := by decide +kernel
theorem c291_70 : fx_op 291 70 = some (.imul, 71, 70) := by decide +kernel
theorem c291_71 : fx_op 291 71 = some (.iadd, 72, 71) := by decide +kernel
theorem c291_72 : fx_op 291 72 = some (.goto 11, 75, 83) := by decide +kernel
theorem c291_5 : fx_op 291 5 = some (.iaload, 6, 5) := by decide +kernel
theorem c291_13 : fx_op 291 13 = some (.iaload, 14, 13) := by decide +kernel
theorem c291_19 : fx_op 291 19 = some (.irem, 20, 19) := by decide +kernel
theorem c291_25 : fx_op 291 25 = some (.idiv, 26, 25) := by decide +kernel
theorem c291_83 : fx_op 291 83 = some (.ireturn, 84, 83) := by decide +kernel
theorem s291_0 {kc : List va_E} {d : Nat} {x1 x2 x3 : Int} {M : fx_M} {Q : Option fx_V → fx_M → Prop} (H : (((0 : Int) ≤ x1 ∧ x1 < 10)) ∧ (((0 : Int) ≤ x1 ∧ x1 < 10)) ∧ (((0 : Int) ≤ x3 ∧ x3 ≤ 2147483647) ∧ ((0 : Int) < M 146 x1 ∧ M 146 x1 ≤ 2147483647)) ∧ (((0 : Int) ≤ x3 ∧ x3 ≤ 2147483647) ∧ ((0 : Int) < M 146 x1 ∧ M 146 x1 ≤ 2147483647)) ∧ ((fx_in32 (fx_and x2 1))) ∧ ((fx_in32 (fx_and x2 2))) ∧ ((fx_in32 (fx_and x2 4))) ∧ Q (some (jI (if fx_and x2 4 = 0 then ((if fx_and x2 1 = 0 then (x3 % (M 146 x1) : Int) else ((M 146 x1) - 1) - (x3 % (M 146 x1))) + ((M 146 x1) * (if fx_and x2 2 = 0 then (x3 / (M 146 x1) : Int) else ((M 147 x1) - 1) - (x3 / (M 146 x1)))) : Int) else (if fx_and x2 2 = 0 then (x3 / (M 146 x1) : Int) else ((M 147 x1) - 1) - (x3 / (M 146 x1))) + ((M 146 x1) * (if fx_and x2 1 = 0 then (x3 % (M 146 x1) : Int) else ((M 146 x1) - 1) - (x3 % (M 146 x1))))))) M) : wp kc (d + 1) 291 0 [some (jR 133), some (jI x1), some (jI x2), some (jI x3), none, none, none, none] [] M Q :=
  (x_aldn c291_0 rfl (x_gfr c291_1 k_133_37 (x_ildn c291_4 rfl (x_iald c291_5 a_146 H.1 (by decide) (x_ist (l' := [some (jR 133), some (jI x1), some (jI x2), some (jI x3), some (jI (M 146 x1)), none, none, none]) c291_6 rfl (x_aldn c291_8 rfl (x_gfr c291_9 k_133_38 (x_ildn c291_12 rfl (x_iald c291_13 a_147 H.2.1 (by decide) (x_ist (l' := [some (jR 133), some (jI x1), some (jI x2), some (jI x3), some (jI (M 146 x1)), some (jI (M 147 x1)), none, none]) c291_14 rfl (x_ildn c291_16 rfl (x_ild c291_17 rfl (x_irem c291_19 H.2.2.1.1 H.2.2.1.2 (x_ist (l' := [some (jR 133), some (jI x1), some (jI x2), some (jI x3), some (jI (M 146 x1)), some (jI (M 147 x1)), some (jI (x3 % (M 146 x1))), none]) c291_20 rfl (x_ildn c291_22 rfl (x_ild c291_23 rfl (x_idiv c291_25 H.2.2.2.1.1 H.2.2.2.1.2 (x_ist (l' := [some (jR 133), some (jI x1), some (jI x2), some (jI x3), some (jI (M 146 x1)), some (jI (M 147 x1)), some (jI (x3 % (M 146 x1))), some (jI (x3 / (M 146 x1)))]) c291_26 rfl (x_ildn c291_28 rfl (x_ci c291_29 (x_iand c291_30 (have K : wp kc (d + 1) 291 43 [none, none, some (jI x2), none, some (jI (M 146 x1)), some (jI (M 147 x1)), some (jI (if fx_and x2 1 = 0 then (x3 % (M 146 x1) : Int) else ((M 146 x1) - 1) - (x3 % (M 146 x1)))), some (jI (x3 / (M 146 x1)))] [] M Q := (x_ildn c291_43 rfl (x_ci c291_44 (x_iand c291_45 (have K : wp kc (d + 1) 291 58 [none, none, some (jI x2), none, some (jI (M 146 x1)), none, some (jI (if fx_and x2 1 = 0 then (x3 % (M 146 x1) : Int) else ((M 146 x1) - 1) - (x3 % (M 146 x1)))), some (jI (if fx_and x2 2 = 0 then (x3 / (M 146 x1) : Int) else ((M 147 x1) - 1) - (x3 / (M 146 x1))))] [] M Q := (x_ildn c291_58 rfl (x_ci c291_59 (x_iand c291_60 (have K : wp kc (d + 1) 291 83 [none, none, none, none, none, none, none, none] [jI (if fx_and x2 4 = 0 then ((if fx_and x2 1 = 0 then (x3 % (M 146 x1) : Int) else ((M 146 x1) - 1) - (x3 % (M 146 x1))) + ((M 146 x1) * (if fx_and x2 2 = 0 then (x3 / (M 146 x1) : Int) else ((M 147 x1) - 1) - (x3 / (M 146 x1)))) : Int) else (if fx_and x2 2 = 0 then (x3 / (M 146 x1) : Int) else ((M 147 x1) - 1) - (x3 / (M 146 x1))) + ((M 146 x1) * (if fx_and x2 1 = 0 then (x3 % (M 146 x1) : Int) else ((M 146 x1) - 1) - (x3 % (M 146 x1)))))] M Q := (x_irt c291_83 r291 H.2.2.2.2.2.2.2); (x_zeq c291_61 H.2.2.2.2.2.2.1 (fun (h5 : fx_and x2 4 = 0) => (x_ild c291_75 rfl (x_ild c291_77 rfl (x_ild c291_79 rfl (x_imul c291_81 (x_iadd c291_82 (wp_wk (l' := [none, none, none, none, none, none, none, none]) trivial (by have K := K; first | (simp only [if_pos h5] at K ⊢; exact K) | (exfalso; omega))))))))) (fun (h6 : fx_and x2 4 ≠ 0) => (x_ild c291_64 rfl (x_ild c291_66 rfl (x_ild c291_68 rfl (x_imul c291_70 (x_iadd c291_71 (x_goto c291_72 (wp_wk (l' := [none, none, none, none, none, none, none, none]) trivial (by have K := K; first | (simp only [if_neg h6] at K ⊢; exact K) | (exfalso; omega))))))))))))))); (x_zeq c291_46 H.2.2.2.2.2.1 (fun (h3 : fx_and x2 2 = 0) => (wp_wk (l' := [none, none, some (jI x2), none, some (jI (M 146 x1)), none, some (jI (if fx_and x2 1 = 0 then (x3 % (M 146 x1) : Int) else ((M 146 x1) - 1) - (x3 % (M 146 x1)))), some (jI (x3 / (M 146 x1)))]) ⟨rfl, ⟨rfl, ⟨rfl, ⟨rfl, trivial⟩⟩⟩⟩ (by have K := K; first | (simp only [if_pos h3] at K ⊢; exact K) | (exfalso; omega)))) (fun (h4 : fx_and x2 2 ≠ 0) => (x_ild c291_49 rfl (x_ci c291_51 (x_isub c291_52 (x_ild c291_53 rfl (x_isub c291_55 (x_ist (l' := [none, none, some (jI x2), none, some (jI (M 146 x1)), some (jI (M 147 x1)), some (jI (if fx_and x2 1 = 0 then (x3 % (M 146 x1) : Int) else ((M 146 x1) - 1) - (x3 % (M 146 x1)))), some (jI (((M 147 x1) - 1) - (x3 / (M 146 x1))))]) c291_56 rfl (wp_wk (l' := [none, none, some (jI x2), none, some (jI (M 146 x1)), none, some (jI (if fx_and x2 1 = 0 then (x3 % (M 146 x1) : Int) else ((M 146 x1) - 1) - (x3 % (M 146 x1)))), some (jI (((M 147 x1) - 1) - (x3 / (M 146 x1))))]) ⟨rfl, ⟨rfl, ⟨rfl, ⟨rfl, trivial⟩⟩⟩⟩ (by have K := K; first | (simp only [if_neg h4] at K ⊢; exact K) | (exfalso; omega))))))))))))))); (x_zeq c291_31 H.2.2.2.2.1 (fun (h1 : fx_and x2 1 = 0) => (wp_wk (l' := [none, none, some (jI x2), none, some (jI (M 146 x1)), some (jI (M 147 x1)), some (jI (x3 % (M 146 x1))), some (jI (x3 / (M 146 x1)))]) ⟨rfl, ⟨rfl, ⟨rfl, ⟨rfl, ⟨rfl, trivial⟩⟩⟩⟩⟩ (by have K := K; first | (simp only [if_pos h1] at K ⊢; exact K) | (exfalso; omega)))) (fun (h2 : fx_and x2 1 ≠ 0) => (x_ild c291_34 rfl (x_ci c291_36 (x_isub c291_37 (x_ild c291_38 rfl (x_isub c291_40 (x_ist (l' := [some (jR 133), some (jI x1), some (jI x2), some (jI x3), some (jI (M 146 x1)), some (jI (M 147 x1)), some (jI (((M 146 x1) - 1) - (x3 % (M 146 x1)))), some (jI (x3 / (M 146 x1)))]) c291_41 rfl (wp_wk (l' := [none, none, some (jI x2), none, some (jI (M 146 x1)), some (jI (M 147 x1)), some (jI (((M 146 x1) - 1) - (x3 % (M 146 x1)))), some (jI (x3 / (M 146 x1)))]) ⟨rfl, ⟨rfl, ⟨rfl, ⟨rfl, ⟨rfl, trivial⟩⟩⟩⟩⟩ (by have K := K; first | (simp only [if_neg h2] at K ⊢; exact K) | (exfalso; omega)))))))))))))))))))))))))))))))))
theorem s291 {kc : List va_E} {d : Nat} {x1 x2 x3 : Int} {M : fx_M} {Q : Option fx_V → fx_M → Prop} (H : (((0 : Int) ≤ x1 ∧ x1 < 10)) ∧ (((0 : Int) ≤ x1 ∧ x1 < 10)) ∧ (((0 : Int) ≤ x3 ∧ x3 ≤ 2147483647) ∧ ((0 : Int) < M 146 x1 ∧ M 146 x1 ≤ 2147483647)) ∧ (((0 : Int) ≤ x3 ∧ x3 ≤ 2147483647) ∧ ((0 : Int) < M 146 x1 ∧ M 146 x1 ≤ 2147483647)) ∧ ((fx_in32 (fx_and x2 1))) ∧ ((fx_in32 (fx_and x2 2))) ∧ ((fx_in32 (fx_and x2 4))) ∧ Q (some (jI (if fx_and x2 4 = 0 then ((if fx_and x2 1 = 0 then (x3 % (M 146 x1) : Int) else ((M 146 x1) - 1) - (x3 % (M 146 x1))) + ((M 146 x1) * (if fx_and x2 2 = 0 then (x3 / (M 146 x1) : Int) else ((M 147 x1) - 1) - (x3 / (M 146 x1)))) : Int) else (if fx_and x2 2 = 0 then (x3 / (M 146 x1) : Int) else ((M 147 x1) - 1) - (x3 / (M 146 x1))) + ((M 146 x1) * (if fx_and x2 1 = 0 then (x3 % (M 146 x1) : Int) else ((M 146 x1) - 1) - (x3 % (M 146 x1))))))) M) : wc kc (d + 1) 291 [jR 133, jI x1, jI x2, jI x3] M Q :=
  wc_of (wp_wk (l' := [some (jR 133), some (jI x1), some (jI x2), some (jI x3), none, none, none, none]) ⟨rfl, ⟨rfl, ⟨rfl, ⟨rfl, trivial⟩⟩⟩⟩ (s291_0 H))

/- PuzzleHouseModel.sayPlay(I)V -/
theorem c292_0 : fx_op 292 0 = some (.iload_n 1, 1, 0) := by decide +kernel
theorem c292_92 : fx_op 292 92 = some (.aload_n 0, 93, 92) := by decide +kernel
theorem c292_99 : fx_op 292 99 = some (.aload_n 0, 100, 99) := by decide +kernel
theorem c292_106 : fx_op 292 106 = some (.aload_n 0, 107, 106) := by decide +kernel
theorem c292_190 : fx_op 292 190 = some (.aload_n 0, 191, 190) := by decide +kernel
theorem c292_113 : fx_op 292 113 = some (.aload_n 0, 114, 113) := by decide +kernel
theorem c292_114 : fx_op 292 114 = some (.aload_n 0, 115, 114) := by decide +kernel
theorem c292_115 : fx_gf 292 115 = some (12, 8, 118) := by decide +kernel
theorem c292_124 : fx_op 292 124 = some (.aload_n 0, 125, 124) := by decide +kernel
theorem c292_125 : fx_op 292 125 = some (.aload_n 0, 126, 125) := by decide +kernel
theorem c292_126 : fx_gf 292 126 = some (12, 20, 129) := by decide +kernel
theorem c292_129 : fx_op 292 129 = some (.aload_n 0, 130, 129) := by decide +kernel
theorem c292_130 : fx_gf 292 130 = some (12, 8, 133) := by decide +kernel
theorem c292_139 : fx_op 292 139 = some (.aload_n 0, 140, 139) := by decide +kernel
theorem c292_146 : fx_op 292 146 = some (.aload_n 0, 147, 146) := by decide +kernel
theorem c292_147 : fx_op 292 147 = some (.aload_n 0, 148, 147) := by decide +kernel
theorem c292_148 : fx_gf 292 148 = some (12, 8, 151) := by decide +kernel
theorem c292_157 : fx_op 292 157 = some (.aload_n 0, 158, 157) := by decide +kernel
theorem c292_164 : fx_op 292 164 = some (.aload_n 0, 165, 164) := by decide +kernel
theorem c292_165 : fx_op 292 165 = some (.aload_n 0, 166, 165) := by decide +kernel
theorem c292_166 : fx_gf 292 166 = some (12, 20, 169) := by decide +kernel
theorem c292_169 : fx_op 292 169 = some (.aload_n 0, 170, 169) := by decide +kernel
theorem c292_170 : fx_gf 292 170 = some (12, 8, 173) := by decide +kernel
theorem c292_179 : fx_op 292 179 = some (.aload_n 0, 180, 179) := by decide +kernel
theorem c292_180 : fx_op 292 180 = some (.aload_n 0, 181, 180) := by decide +kernel
theorem c292_181 : fx_gf 292 181 = some (12, 8, 184) := by decide +kernel
theorem c292_93 : fx_ca 292 93 = some (293, 1, 2, 96) := by decide +kernel
theorem c292_100 : fx_ca 292 100 = some (305, 1, 2, 103) := by decide +kernel
theorem c292_107 : fx_ca 292 107 = some (321, 1, 2, 110) := by decide +kernel
theorem c292_191 : fx_ca 292 191 = some (331, 1, 2, 194) := by decide +kernel
theorem c292_118 : fx_ca 292 118 = some (324, 2, 2, 121) := by decide +kernel
theorem c292_133 : fx_ca 292 133 = some (325, 3, 2, 136) := by decide +kernel
theorem c292_140 : fx_ca 292 140 = some (326, 1, 2, 143) := by decide +kernel
theorem c292_151 : fx_ca 292 151 = some (327, 2, 2, 154) := by decide +kernel
theorem c292_158 : fx_ca 292 158 = some (328, 1, 2, 161) := by decide +kernel
theorem c292_173 : fx_ca 292 173 = some (329, 3, 2, 176) := by decide +kernel
theorem c292_184 : fx_ca 292 184 = some (330, 2, 2, 187) := by decide +kernel
theorem c292_1 : fx_ts 292 1 = some (13, [92, 99, 106, 190, 190, 190, 190, 190, 190, 190, 190, 190, 113, 124, 139, 146, 157, 164, 179], 190) := by decide +kernel
theorem c292_96 : fx_op 292 96 = some (.goto 98, 99, 194) := by decide +kernel
theorem c292_194 : fx_op 292 194 = some (.return_, 195, 194) := by decide +kernel
theorem c292_103 : fx_op 292 103 = some (.goto 91, 106, 194) := by decide +kernel
theorem c292_110 : fx_op 292 110 = some (.goto 84, 113, 194) := by decide +kernel
theorem c292_121 : fx_op 292 121 = some (.goto 73, 124, 194) := by decide +kernel
theorem c292_136 : fx_op 292 136 = some (.goto 58, 139, 194) := by decide +kernel
theorem c292_143 : fx_op 292 143 = some (.goto 51, 146, 194) := by decide +kernel
theorem c292_154 : fx_op 292 154 = some (.goto 40, 157, 194) := by decide +kernel
theorem c292_161 : fx_op 292 161 = some (.goto 33, 164, 194) := by decide +kernel
theorem c292_176 : fx_op 292 176 = some (.goto 18, 179, 194) := by decide +kernel
theorem c292_187 : fx_op 292 187 = some (.goto 7, 190, 194) := by decide +kernel
theorem s292_0 {kc : List va_E} {d : Nat} {x1 : Int} {M : fx_M} {Q : Option fx_V → fx_M → Prop} (H : fx_in32 x1 ∧ (x1 = 13 → wc kc d 293 [jR 133] M (fun v M1 => wp kc (d + 1) 292 96 [none, none] (v.toList ++ []) M1 Q)) ∧ (x1 = 14 → wc kc d 305 [jR 133] M (fun v M1 => wp kc (d + 1) 292 103 [none, none] (v.toList ++ []) M1 Q)) ∧ (x1 = 15 → wc kc d 321 [jR 133] M (fun v M1 => wp kc (d + 1) 292 110 [none, none] (v.toList ++ []) M1 Q)) ∧ (x1 = 16 → wc kc d 331 [jR 133] M (fun v M1 => wp kc (d + 1) 292 194 [none, none] (v.toList ++ []) M1 Q)) ∧ (x1 = 17 → wc kc d 331 [jR 133] M (fun v M1 => wp kc (d + 1) 292 194 [none, none] (v.toList ++ []) M1 Q)) ∧ (x1 = 18 → wc kc d 331 [jR 133] M (fun v M1 => wp kc (d + 1) 292 194 [none, none] (v.toList ++ []) M1 Q)) ∧ (x1 = 19 → wc kc d 331 [jR 133] M (fun v M1 => wp kc (d + 1) 292 194 [none, none] (v.toList ++ []) M1 Q)) ∧ (x1 = 20 → wc kc d 331 [jR 133] M (fun v M1 => wp kc (d + 1) 292 194 [none, none] (v.toList ++ []) M1 Q)) ∧ (x1 = 21 → wc kc d 331 [jR 133] M (fun v M1 => wp kc (d + 1) 292 194 [none, none] (v.toList ++ []) M1 Q)) ∧ (x1 = 22 → wc kc d 331 [jR 133] M (fun v M1 => wp kc (d + 1) 292 194 [none, none] (v.toList ++ []) M1 Q)) ∧ (x1 = 23 → wc kc d 331 [jR 133] M (fun v M1 => wp kc (d + 1) 292 194 [none, none] (v.toList ++ []) M1 Q)) ∧ (x1 = 24 → wc kc d 331 [jR 133] M (fun v M1 => wp kc (d + 1) 292 194 [none, none] (v.toList ++ []) M1 Q)) ∧ (x1 = 25 → wc kc d 324 [jR 133, jI (M 133 8)] M (fun v M1 => wp kc (d + 1) 292 121 [none, none] (v.toList ++ []) M1 Q)) ∧ (x1 = 26 → wc kc d 325 [jR 133, jI (M 133 20), jI (M 133 8)] M (fun v M1 => wp kc (d + 1) 292 136 [none, none] (v.toList ++ []) M1 Q)) ∧ (x1 = 27 → wc kc d 326 [jR 133] M (fun v M1 => wp kc (d + 1) 292 143 [none, none] (v.toList ++ []) M1 Q)) ∧ (x1 = 28 → wc kc d 327 [jR 133, jI (M 133 8)] M (fun v M1 => wp kc (d + 1) 292 154 [none, none] (v.toList ++ []) M1 Q)) ∧ (x1 = 29 → wc kc d 328 [jR 133] M (fun v M1 => wp kc (d + 1) 292 161 [none, none] (v.toList ++ []) M1 Q)) ∧ (x1 = 30 → wc kc d 329 [jR 133, jI (M 133 20), jI (M 133 8)] M (fun v M1 => wp kc (d + 1) 292 176 [none, none] (v.toList ++ []) M1 Q)) ∧ (x1 = 31 → wc kc d 330 [jR 133, jI (M 133 8)] M (fun v M1 => wp kc (d + 1) 292 187 [none, none] (v.toList ++ []) M1 Q)) ∧ ((x1 < 13 ∨ 32 ≤ x1) → wc kc d 331 [jR 133] M (fun v M1 => wp kc (d + 1) 292 194 [none, none] (v.toList ++ []) M1 Q))) : wp kc (d + 1) 292 0 [some (jR 133), some (jI x1)] [] M Q :=
  (x_ildn c292_0 rfl (x_sw c292_1 H.1 ⟨fun h1 => (x_aldn c292_92 rfl (wp_wk (l' := [none, none]) trivial (x_cv (As := []) (st := []) c292_93 cl_133 kl293 rfl (Nat.le_of_ble_eq_true rfl) mx293 (Nat.le_refl _) (H.2.1 h1)))), ⟨fun h2 => (x_aldn c292_99 rfl (wp_wk (l' := [none, none]) trivial (x_cv (As := []) (st := []) c292_100 cl_133 kl305 rfl (Nat.le_of_ble_eq_true rfl) mx305 (Nat.le_refl _) (H.2.2.1 h2)))), ⟨fun h3 => (x_aldn c292_106 rfl (wp_wk (l' := [none, none]) trivial (x_cv (As := []) (st := []) c292_107 cl_133 kl321 rfl (Nat.le_of_ble_eq_true rfl) mx321 (Nat.le_refl _) (H.2.2.2.1 h3)))), ⟨fun h4 => (x_aldn c292_190 rfl (wp_wk (l' := [none, none]) trivial (x_cv (As := []) (st := []) c292_191 cl_133 kl331 rfl (Nat.le_of_ble_eq_true rfl) mx331 (Nat.le_refl _) (H.2.2.2.2.1 h4)))), ⟨fun h5 => (x_aldn c292_190 rfl (wp_wk (l' := [none, none]) trivial (x_cv (As := []) (st := []) c292_191 cl_133 kl331 rfl (Nat.le_of_ble_eq_true rfl) mx331 (Nat.le_refl _) (H.2.2.2.2.2.1 h5)))), ⟨fun h6 => (x_aldn c292_190 rfl (wp_wk (l' := [none, none]) trivial (x_cv (As := []) (st := []) c292_191 cl_133 kl331 rfl (Nat.le_of_ble_eq_true rfl) mx331 (Nat.le_refl _) (H.2.2.2.2.2.2.1 h6)))), ⟨fun h7 => (x_aldn c292_190 rfl (wp_wk (l' := [none, none]) trivial (x_cv (As := []) (st := []) c292_191 cl_133 kl331 rfl (Nat.le_of_ble_eq_true rfl) mx331 (Nat.le_refl _) (H.2.2.2.2.2.2.2.1 h7)))), ⟨fun h8 => (x_aldn c292_190 rfl (wp_wk (l' := [none, none]) trivial (x_cv (As := []) (st := []) c292_191 cl_133 kl331 rfl (Nat.le_of_ble_eq_true rfl) mx331 (Nat.le_refl _) (H.2.2.2.2.2.2.2.2.1 h8)))), ⟨fun h9 => (x_aldn c292_190 rfl (wp_wk (l' := [none, none]) trivial (x_cv (As := []) (st := []) c292_191 cl_133 kl331 rfl (Nat.le_of_ble_eq_true rfl) mx331 (Nat.le_refl _) (H.2.2.2.2.2.2.2.2.2.1 h9)))), ⟨fun h10 => (x_aldn c292_190 rfl (wp_wk (l' := [none, none]) trivial (x_cv (As := []) (st := []) c292_191 cl_133 kl331 rfl (Nat.le_of_ble_eq_true rfl) mx331 (Nat.le_refl _) (H.2.2.2.2.2.2.2.2.2.2.1 h10)))), ⟨fun h11 => (x_aldn c292_190 rfl (wp_wk (l' := [none, none]) trivial (x_cv (As := []) (st := []) c292_191 cl_133 kl331 rfl (Nat.le_of_ble_eq_true rfl) mx331 (Nat.le_refl _) (H.2.2.2.2.2.2.2.2.2.2.2.1 h11)))), ⟨fun h12 => (x_aldn c292_190 rfl (wp_wk (l' := [none, none]) trivial (x_cv (As := []) (st := []) c292_191 cl_133 kl331 rfl (Nat.le_of_ble_eq_true rfl) mx331 (Nat.le_refl _) (H.2.2.2.2.2.2.2.2.2.2.2.2.1 h12)))), ⟨fun h13 => (x_aldn c292_113 rfl (x_aldn c292_114 rfl (x_gfi c292_115 k_133_8 (wp_wk (l' := [none, none]) trivial (x_cv (As := [jI (M 133 8)]) (st := []) c292_118 cl_133 kl324 rfl (Nat.le_of_ble_eq_true rfl) mx324 (Nat.le_refl _) (H.2.2.2.2.2.2.2.2.2.2.2.2.2.1 h13)))))), ⟨fun h14 => (x_aldn c292_124 rfl (x_aldn c292_125 rfl (x_gfi c292_126 k_133_20 (x_aldn c292_129 rfl (x_gfi c292_130 k_133_8 (wp_wk (l' := [none, none]) trivial (x_cv (As := [jI (M 133 20), jI (M 133 8)]) (st := []) c292_133 cl_133 kl325 rfl (Nat.le_of_ble_eq_true rfl) mx325 (Nat.le_refl _) (H.2.2.2.2.2.2.2.2.2.2.2.2.2.2.1 h14)))))))), ⟨fun h15 => (x_aldn c292_139 rfl (wp_wk (l' := [none, none]) trivial (x_cv (As := []) (st := []) c292_140 cl_133 kl326 rfl (Nat.le_of_ble_eq_true rfl) mx326 (Nat.le_refl _) (H.2.2.2.2.2.2.2.2.2.2.2.2.2.2.2.1 h15)))), ⟨fun h16 => (x_aldn c292_146 rfl (x_aldn c292_147 rfl (x_gfi c292_148 k_133_8 (wp_wk (l' := [none, none]) trivial (x_cv (As := [jI (M 133 8)]) (st := []) c292_151 cl_133 kl327 rfl (Nat.le_of_ble_eq_true rfl) mx327 (Nat.le_refl _) (H.2.2.2.2.2.2.2.2.2.2.2.2.2.2.2.2.1 h16)))))), ⟨fun h17 => (x_aldn c292_157 rfl (wp_wk (l' := [none, none]) trivial (x_cv (As := []) (st := []) c292_158 cl_133 kl328 rfl (Nat.le_of_ble_eq_true rfl) mx328 (Nat.le_refl _) (H.2.2.2.2.2.2.2.2.2.2.2.2.2.2.2.2.2.1 h17)))), ⟨fun h18 => (x_aldn c292_164 rfl (x_aldn c292_165 rfl (x_gfi c292_166 k_133_20 (x_aldn c292_169 rfl (x_gfi c292_170 k_133_8 (wp_wk (l' := [none, none]) trivial (x_cv (As := [jI (M 133 20), jI (M 133 8)]) (st := []) c292_173 cl_133 kl329 rfl (Nat.le_of_ble_eq_true rfl) mx329 (Nat.le_refl _) (H.2.2.2.2.2.2.2.2.2.2.2.2.2.2.2.2.2.2.1 h18)))))))), ⟨fun h19 => (x_aldn c292_179 rfl (x_aldn c292_180 rfl (x_gfi c292_181 k_133_8 (wp_wk (l' := [none, none]) trivial (x_cv (As := [jI (M 133 8)]) (st := []) c292_184 cl_133 kl330 rfl (Nat.le_of_ble_eq_true rfl) mx330 (Nat.le_refl _) (H.2.2.2.2.2.2.2.2.2.2.2.2.2.2.2.2.2.2.2.1 h19)))))), trivial⟩⟩⟩⟩⟩⟩⟩⟩⟩⟩⟩⟩⟩⟩⟩⟩⟩⟩⟩ (fun h20 => (x_aldn c292_190 rfl (wp_wk (l' := [none, none]) trivial (x_cv (As := []) (st := []) c292_191 cl_133 kl331 rfl (Nat.le_of_ble_eq_true rfl) mx331 (Nat.le_refl _) (H.2.2.2.2.2.2.2.2.2.2.2.2.2.2.2.2.2.2.2.2 h20)))))))
theorem s292_96 {kc : List va_E} {d : Nat} {M : fx_M} {Q : Option fx_V → fx_M → Prop} (H : Q none M) : wp kc (d + 1) 292 96 [none, none] [] M Q :=
  (x_goto c292_96 (x_vr c292_194 r292 H))
theorem s292_103 {kc : List va_E} {d : Nat} {M : fx_M} {Q : Option fx_V → fx_M → Prop} (H : Q none M) : wp kc (d + 1) 292 103 [none, none] [] M Q :=
  (x_goto c292_103 (x_vr c292_194 r292 H))
theorem s292_110 {kc : List va_E} {d : Nat} {M : fx_M} {Q : Option fx_V → fx_M → Prop} (H : Q none M) : wp kc (d + 1) 292 110 [none, none] [] M Q :=
  (x_goto c292_110 (x_vr c292_194 r292 H))
theorem s292_121 {kc : List va_E} {d : Nat} {M : fx_M} {Q : Option fx_V → fx_M → Prop} (H : Q none M) : wp kc (d + 1) 292 121 [none, none] [] M Q :=
  (x_goto c292_121 (x_vr c292_194 r292 H))
theorem s292_136 {kc : List va_E} {d : Nat} {M : fx_M} {Q : Option fx_V → fx_M → Prop} (H : Q none M) : wp kc (d + 1) 292 136 [none, none] [] M Q :=
  (x_goto c292_136 (x_vr c292_194 r292 H))
theorem s292_143 {kc : List va_E} {d : Nat} {M : fx_M} {Q : Option fx_V → fx_M → Prop} (H : Q none M) : wp kc (d + 1) 292 143 [none, none] [] M Q :=
  (x_goto c292_143 (x_vr c292_194 r292 H))
theorem s292_154 {kc : List va_E} {d : Nat} {M : fx_M} {Q : Option fx_V → fx_M → Prop} (H : Q none M) : wp kc (d + 1) 292 154 [none, none] [] M Q :=
  (x_goto c292_154 (x_vr c292_194 r292 H))
theorem s292_161 {kc : List va_E} {d : Nat} {M : fx_M} {Q : Option fx_V → fx_M → Prop} (H : Q none M) : wp kc (d + 1) 292 161 [none, none] [] M Q :=
  (x_goto c292_161 (x_vr c292_194 r292 H))
theorem s292_176 {kc : List va_E} {d : Nat} {M : fx_M} {Q : Option fx_V → fx_M → Prop} (H : Q none M) : wp kc (d + 1) 292 176 [none, none] [] M Q :=
  (x_goto c292_176 (x_vr c292_194 r292 H))
theorem s292_187 {kc : List va_E} {d : Nat} {M : fx_M} {Q : Option fx_V → fx_M → Prop} (H : Q none M) : wp kc (d + 1) 292 187 [none, none] [] M Q :=
  (x_goto c292_187 (x_vr c292_194 r292 H))
theorem s292_194 {kc : List va_E} {d : Nat} {M : fx_M} {Q : Option fx_V → fx_M → Prop} (H : Q none M) : wp kc (d + 1) 292 194 [none, none] [] M Q :=
  (x_vr c292_194 r292 H)
theorem s292 {kc : List va_E} {d : Nat} {x1 : Int} {M : fx_M} {Q : Option fx_V → fx_M → Prop} (H : fx_in32 x1 ∧ (x1 = 13 → wc kc d 293 [jR 133] M (fun v M1 => wp kc (d + 1) 292 96 [none, none] (v.toList ++ []) M1 Q)) ∧ (x1 = 14 → wc kc d 305 [jR 133] M (fun v M1 => wp kc (d + 1) 292 103 [none, none] (v.toList ++ []) M1 Q)) ∧ (x1 = 15 → wc kc d 321 [jR 133] M (fun v M1 => wp kc (d + 1) 292 110 [none, none] (v.toList ++ []) M1 Q)) ∧ (x1 = 16 → wc kc d 331 [jR 133] M (fun v M1 => wp kc (d + 1) 292 194 [none, none] (v.toList ++ []) M1 Q)) ∧ (x1 = 17 → wc kc d 331 [jR 133] M (fun v M1 => wp kc (d + 1) 292 194 [none, none] (v.toList ++ []) M1 Q)) ∧ (x1 = 18 → wc kc d 331 [jR 133] M (fun v M1 => wp kc (d + 1) 292 194 [none, none] (v.toList ++ []) M1 Q)) ∧ (x1 = 19 → wc kc d 331 [jR 133] M (fun v M1 => wp kc (d + 1) 292 194 [none, none] (v.toList ++ []) M1 Q)) ∧ (x1 = 20 → wc kc d 331 [jR 133] M (fun v M1 => wp kc (d + 1) 292 194 [none, none] (v.toList ++ []) M1 Q)) ∧ (x1 = 21 → wc kc d 331 [jR 133] M (fun v M1 => wp kc (d + 1) 292 194 [none, none] (v.toList ++ []) M1 Q)) ∧ (x1 = 22 → wc kc d 331 [jR 133] M (fun v M1 => wp kc (d + 1) 292 194 [none, none] (v.toList ++ []) M1 Q)) ∧ (x1 = 23 → wc kc d 331 [jR 133] M (fun v M1 => wp kc (d + 1) 292 194 [none, none] (v.toList ++ []) M1 Q)) ∧ (x1 = 24 → wc kc d 331 [jR 133] M (fun v M1 => wp kc (d + 1) 292 194 [none, none] (v.toList ++ []) M1 Q)) ∧ (x1 = 25 → wc kc d 324 [jR 133, jI (M 133 8)] M (fun v M1 => wp kc (d + 1) 292 121 [none, none] (v.toList ++ []) M1 Q)) ∧ (x1 = 26 → wc kc d 325 [jR 133, jI (M 133 20), jI (M 133 8)] M (fun v M1 => wp kc (d + 1) 292 136 [none, none] (v.toList ++ []) M1 Q)) ∧ (x1 = 27 → wc kc d 326 [jR 133] M (fun v M1 => wp kc (d + 1) 292 143 [none, none] (v.toList ++ []) M1 Q)) ∧ (x1 = 28 → wc kc d 327 [jR 133, jI (M 133 8)] M (fun v M1 => wp kc (d + 1) 292 154 [none, none] (v.toList ++ []) M1 Q)) ∧ (x1 = 29 → wc kc d 328 [jR 133] M (fun v M1 => wp kc (d + 1) 292 161 [none, none] (v.toList ++ []) M1 Q)) ∧ (x1 = 30 → wc kc d 329 [jR 133, jI (M 133 20), jI (M 133 8)] M (fun v M1 => wp kc (d + 1) 292 176 [none, none] (v.toList ++ []) M1 Q)) ∧ (x1 = 31 → wc kc d 330 [jR 133, jI (M 133 8)] M (fun v M1 => wp kc (d + 1) 292 187 [none, none] (v.toList ++ []) M1 Q)) ∧ ((x1 < 13 ∨ 32 ≤ x1) → wc kc d 331 [jR 133] M (fun v M1 => wp kc (d + 1) 292 194 [none, none] (v.toList ++ []) M1 Q))) : wc kc (d + 1) 292 [jR 133, jI x1] M Q :=
  wc_of (wp_wk (l' := [some (jR 133), some (jI x1)]) ⟨rfl, ⟨rfl, trivial⟩⟩ (s292_0 H))

/- PuzzleHouseModel.sayHint()V -/
theorem c293_0 : fx_op 293 0 = some (.aload_n 0, 1, 0) := by decide +kernel
theorem c293_1 : fx_ca 293 1 = some (294, 1, 2, 4) := by decide +kernel
theorem c293_4 : fx_ci 293 4 = some (0, 5) := by decide +kernel
theorem c293_5 : fx_op 293 5 = some (.istore_n 1, 6, 5) := by decide +kernel
theorem c293_6 : fx_op 293 6 = some (.iload_n 1, 7, 6) := by decide +kernel
theorem c293_7 : fx_op 293 7 = some (.aload_n 0, 8, 7) := by decide +kernel
theorem c293_8 : fx_gf 293 8 = some (12, 40, 11) := by decide +kernel
theorem c293_11 : fx_ci 293 11 = some (0, 12) := by decide +kernel
theorem c293_12 : fx_op 293 12 = some (.iaload, 13, 12) := by decide +kernel
theorem c293_13 : fx_op 293 13 = some (.if_icmp .ge 113, 16, 126) := by decide +kernel
theorem c293_126 : fx_op 293 126 = some (.aload_n 0, 127, 126) := by decide +kernel
theorem c293_127 : fx_cj 293 127 = some (1852796517, 130) := by decide +kernel
theorem c293_16 : fx_op 293 16 = some (.aload_n 0, 17, 16) := by decide +kernel
theorem c293_17 : fx_op 293 17 = some (.iload_n 1, 18, 17) := by decide +kernel
theorem c293_18 : fx_ci 293 18 = some ((-1), 19) := by decide +kernel
theorem c293_130 : fx_ca 293 130 = some (253, 2, 2, 133) := by decide +kernel
theorem c293_19 : fx_ca 293 19 = some (297, 3, 2, 22) := by decide +kernel
theorem c293_133 : fx_op 293 133 = some (.return_, 134, 133) := by decide +kernel
theorem c293_22 : fx_ci 293 22 = some (0, 23) := by decide +kernel
theorem c293_23 : fx_op 293 23 = some (.istore_n 2, 24, 23) := by decide +kernel
theorem c293_24 : fx_op 293 24 = some (.iload_n 2, 25, 24) := by decide +kernel
theorem c293_25 : fx_op 293 25 = some (.aload_n 0, 26, 25) := by decide +kernel
theorem c293_26 : fx_gf 293 26 = some (12, 48, 29) := by decide +kernel
theorem c293_29 : fx_op 293 29 = some (.if_icmp .ge 91, 32, 120) := by decide +kernel
theorem c293_120 : fx_op 293 120 = some (.iinc 1 1, 123, 120) := by decide +kernel
theorem c293_32 : fx_op 293 32 = some (.aload_n 0, 33, 32) := by decide +kernel
theorem c293_33 : fx_gf 293 33 = some (12, 49, 36) := by decide +kernel
theorem c293_36 : fx_op 293 36 = some (.iload_n 2, 37, 36) := by decide +kernel
theorem c293_38 : fx_op 293 38 = some (.istore_n 3, 39, 38) := by decide +kernel
theorem c293_39 : fx_op 293 39 = some (.aload_n 0, 40, 39) := by decide +kernel
theorem c293_40 : fx_gf 293 40 = some (12, 50, 43) := by decide +kernel
theorem c293_43 : fx_op 293 43 = some (.iload_n 2, 44, 43) := by decide +kernel
theorem c293_45 : fx_op 293 45 = some (.ifCond .ne 11, 48, 56) := by decide +kernel
theorem c293_56 : fx_op 293 56 = some (.aload_n 0, 57, 56) := by decide +kernel
theorem c293_57 : fx_gf 293 57 = some (12, 47, 60) := by decide +kernel
theorem c293_60 : fx_op 293 60 = some (.iload_n 3, 61, 60) := by decide +kernel
theorem c293_48 : fx_op 293 48 = some (.aload_n 0, 49, 48) := by decide +kernel
theorem c293_49 : fx_cj 293 49 = some (426836371316, 52) := by decide +kernel
theorem c293_123 : fx_op 293 123 = some (.goto (-117), 126, 6) := by decide +kernel
theorem c293_37 : fx_op 293 37 = some (.iaload, 38, 37) := by decide +kernel
theorem c293_44 : fx_op 293 44 = some (.iaload, 45, 44) := by decide +kernel
theorem c293_61 : fx_op 293 61 = some (.iaload, 62, 61) := by decide +kernel
theorem c293_62 : fx_ca 293 62 = some (304, 1, 0, 65) := by decide +kernel
theorem c293_52 : fx_ca 293 52 = some (253, 2, 2, 55) := by decide +kernel
theorem c293_65 : fx_ci 293 65 = some (2, 66) := by decide +kernel
theorem c293_66 : fx_op 293 66 = some (.if_icmp .lt 48, 69, 114) := by decide +kernel
theorem c293_114 : fx_op 293 114 = some (.iinc 2 1, 117, 114) := by decide +kernel
theorem c293_69 : fx_op 293 69 = some (.aload_n 0, 70, 69) := by decide +kernel
theorem c293_70 : fx_gf 293 70 = some (12, 50, 73) := by decide +kernel
theorem c293_73 : fx_op 293 73 = some (.iload_n 2, 74, 73) := by decide +kernel
theorem c293_117 : fx_op 293 117 = some (.goto (-93), 120, 24) := by decide +kernel
theorem c293_74 : fx_op 293 74 = some (.iaload, 75, 74) := by decide +kernel
theorem c293_75 : fx_ca 293 75 = some (304, 1, 0, 78) := by decide +kernel
theorem c293_55 : fx_op 293 55 = some (.return_, 56, 55) := by decide +kernel
theorem c293_78 : fx_ci 293 78 = some (1, 79) := by decide +kernel
theorem c293_79 : fx_op 293 79 = some (.if_icmp .le 6, 82, 85) := by decide +kernel
theorem c293_85 : fx_op 293 85 = some (.aload_n 0, 86, 85) := by decide +kernel
theorem c293_86 : fx_ci 293 86 = some (13, 88) := by decide +kernel
theorem c293_88 : fx_ca 293 88 = some (221, 1, 0, 91) := by decide +kernel
theorem c293_82 : fx_op 293 82 = some (.goto 32, 85, 114) := by decide +kernel
theorem c293_91 : fx_op 293 91 = some (.iload_n 3, 92, 91) := by decide +kernel
theorem c293_92 : fx_ca 293 92 = some (252, 3, 2, 95) := by decide +kernel
theorem c293_95 : fx_op 293 95 = some (.aload_n 0, 96, 95) := by decide +kernel
theorem c293_96 : fx_op 293 96 = some (.aload_n 0, 97, 96) := by decide +kernel
theorem c293_97 : fx_gf 293 97 = some (12, 50, 100) := by decide +kernel
theorem c293_100 : fx_op 293 100 = some (.iload_n 2, 101, 100) := by decide +kernel
theorem c293_101 : fx_op 293 101 = some (.iaload, 102, 101) := by decide +kernel
theorem c293_102 : fx_ca 293 102 = some (302, 1, 0, 105) := by decide +kernel
theorem c293_105 : fx_ca 293 105 = some (255, 2, 2, 108) := by decide +kernel
theorem c293_108 : fx_op 293 108 = some (.aload_n 0, 109, 108) := by decide +kernel
theorem c293_109 : fx_op 293 109 = some (.iload_n 1, 110, 109) := by decide +kernel
theorem c293_110 : fx_ca 293 110 = some (255, 2, 2, 113) := by decide +kernel
theorem c293_113 : fx_op 293 113 = some (.return_, 114, 113) := by decide +kernel
theorem s293_0 {kc : List va_E} {d : Nat} {M : fx_M} {Q : Option fx_V → fx_M → Prop} (H : wc kc d 294 [jR 133] M (fun v M1 => wp kc (d + 1) 293 4 [some (jR 133), none, none, none] (v.toList ++ []) M1 Q)) : wp kc (d + 1) 293 0 [some (jR 133), none, none, none] [] M Q :=
  (x_aldn c293_0 rfl (wp_wk (l' := [some (jR 133), none, none, none]) ⟨rfl, trivial⟩ (x_cv (As := []) (st := []) c293_1 cl_133 kl294 rfl (Nat.le_of_ble_eq_true rfl) mx294 (Nat.le_refl _) H)))
theorem s293_4 {kc : List va_E} {d : Nat} {M : fx_M} {Q : Option fx_V → fx_M → Prop} (H : wp kc (d + 1) 293 6 [some (jR 133), some (jI 0), none, none] [] M Q) : wp kc (d + 1) 293 4 [some (jR 133), none, none, none] [] M Q :=
  (x_ci c293_4 (x_istn (l' := [some (jR 133), some (jI 0), none, none]) c293_5 rfl (wp_wk (l' := [some (jR 133), some (jI 0), none, none]) ⟨rfl, ⟨rfl, trivial⟩⟩ H)))
theorem s293_6 {kc : List va_E} {d : Nat} {v1 : Int} {M : fx_M} {Q : Option fx_V → fx_M → Prop} (H : ((fx_in32 v1) ∧ (fx_in32 (M 149 0))) ∧ (M 149 0 ≤ v1 → wc kc d 253 [jR 133, jL 1852796517] M (fun v M1 => wp kc (d + 1) 293 133 [none, none, none, none] (v.toList ++ []) M1 Q)) ∧ (v1 < M 149 0 → wc kc d 297 [jR 133, jI v1, jI (-1)] M (fun v M1 => wp kc (d + 1) 293 22 [some (jR 133), some (jI v1), none, none] (v.toList ++ []) M1 Q))) : wp kc (d + 1) 293 6 [some (jR 133), some (jI v1), none, none] [] M Q :=
  (x_ildn c293_6 rfl (x_aldn c293_7 rfl (x_gfr c293_8 k_133_40 (x_ci c293_11 (x_iald c293_12 a_149 (by decide) (by decide) (x_cge c293_13 H.1.1 H.1.2 (fun h1 => (x_aldn c293_126 rfl (x_cj c293_127 (wp_wk (l' := [none, none, none, none]) trivial (x_cv (As := [jL 1852796517]) (st := []) c293_130 cl_133 kl253 rfl (Nat.le_of_ble_eq_true rfl) mx253 (Nat.le_refl _) (H.2.1 h1)))))) (fun h2 => (x_aldn c293_16 rfl (x_ildn c293_17 rfl (x_ci c293_18 (wp_wk (l' := [some (jR 133), some (jI v1), none, none]) ⟨rfl, ⟨rfl, trivial⟩⟩ (x_cv (As := [jI v1, jI (-1)]) (st := []) c293_19 cl_133 kl297 rfl (Nat.le_of_ble_eq_true rfl) mx297 (Nat.le_refl _) (H.2.2 h2)))))))))))))
theorem s293_22 {kc : List va_E} {d : Nat} {v1 : Int} {M : fx_M} {Q : Option fx_V → fx_M → Prop} (H : wp kc (d + 1) 293 24 [some (jR 133), some (jI v1), some (jI 0), none] [] M Q) : wp kc (d + 1) 293 22 [some (jR 133), some (jI v1), none, none] [] M Q :=
  (x_ci c293_22 (x_istn (l' := [some (jR 133), some (jI v1), some (jI 0), none]) c293_23 rfl (wp_wk (l' := [some (jR 133), some (jI v1), some (jI 0), none]) ⟨rfl, ⟨rfl, ⟨rfl, trivial⟩⟩⟩ H)))
theorem s293_24 {kc : List va_E} {d : Nat} {v1 v2 : Int} {M : fx_M} {Q : Option fx_V → fx_M → Prop} (H : ((fx_in32 v2) ∧ (fx_in32 (M 133 48))) ∧ (M 133 48 ≤ v2 → wp kc (d + 1) 293 6 [some (jR 133), some (jI (v1 + 1)), none, none] [] M Q) ∧ (v2 < M 133 48 → (((0 : Int) ≤ v2 ∧ v2 < 8)) ∧ (((0 : Int) ≤ v2 ∧ v2 < 8)) ∧ ((fx_in32 (M 158 v2))) ∧ (M 158 v2 ≠ 0 → (((0 : Int) ≤ M 157 v2 ∧ M 157 v2 < 9)) ∧ wc kc d 304 [jI (M 156 (M 157 v2))] M (fun v M1 => wp kc (d + 1) 293 65 [some (jR 133), some (jI v1), some (jI v2), some (jI (M 157 v2))] (v.toList ++ []) M1 Q)) ∧ (M 158 v2 = 0 → wc kc d 253 [jR 133, jL 426836371316] M (fun v M1 => wp kc (d + 1) 293 55 [none, none, none, none] (v.toList ++ []) M1 Q)))) : wp kc (d + 1) 293 24 [some (jR 133), some (jI v1), some (jI v2), none] [] M Q :=
  (x_ildn c293_24 rfl (x_aldn c293_25 rfl (x_gfi c293_26 k_133_48 (x_cge c293_29 H.1.1 H.1.2 (fun h3 => (x_inc (l' := [some (jR 133), some (jI (v1 + 1)), some (jI v2), none]) c293_120 rfl rfl (x_goto c293_123 (wp_wk (l' := [some (jR 133), some (jI (v1 + 1)), none, none]) ⟨rfl, ⟨rfl, trivial⟩⟩ (H.2.1 h3))))) (fun h4 => (x_aldn c293_32 rfl (x_gfr c293_33 k_133_49 (x_ildn c293_36 rfl (x_iald c293_37 a_157 (H.2.2 h4).1 (by decide) (x_istn (l' := [some (jR 133), some (jI v1), some (jI v2), some (jI (M 157 v2))]) c293_38 rfl (x_aldn c293_39 rfl (x_gfr c293_40 k_133_50 (x_ildn c293_43 rfl (x_iald c293_44 a_158 (H.2.2 h4).2.1 (by decide) (x_zne c293_45 (H.2.2 h4).2.2.1 (fun h1 => (x_aldn c293_56 rfl (x_gfr c293_57 k_133_47 (x_ildn c293_60 rfl (x_iald c293_61 a_156 ((H.2.2 h4).2.2.2.1 h1).1 (by decide) (wp_wk (l' := [some (jR 133), some (jI v1), some (jI v2), some (jI (M 157 v2))]) ⟨rfl, ⟨rfl, ⟨rfl, ⟨rfl, trivial⟩⟩⟩⟩ (x_cs (As := [jI (M 156 (M 157 v2))]) (st := []) c293_62 (by decide) rfl (Nat.le_of_ble_eq_true rfl) mx304 (Nat.le_refl _) ((H.2.2 h4).2.2.2.1 h1).2))))))) (fun h2 => (x_aldn c293_48 rfl (x_cj c293_49 (wp_wk (l' := [none, none, none, none]) trivial (x_cv (As := [jL 426836371316]) (st := []) c293_52 cl_133 kl253 rfl (Nat.le_of_ble_eq_true rfl) mx253 (Nat.le_refl _) ((H.2.2 h4).2.2.2.2 h2)))))))))))))))))))))
theorem s293_55 {kc : List va_E} {d : Nat} {M : fx_M} {Q : Option fx_V → fx_M → Prop} (H : Q none M) : wp kc (d + 1) 293 55 [none, none, none, none] [] M Q :=
  (x_vr c293_55 r293 H)
theorem s293_65 {kc : List va_E} {d : Nat} {v1 v2 v3 u0 : Int} {M : fx_M} {Q : Option fx_V → fx_M → Prop} (H : ((fx_in32 u0)) ∧ (u0 < 2 → wp kc (d + 1) 293 24 [some (jR 133), some (jI v1), some (jI (v2 + 1)), none] [] M Q) ∧ (2 ≤ u0 → (((0 : Int) ≤ v2 ∧ v2 < 8)) ∧ wc kc d 304 [jI (M 158 v2)] M (fun v M1 => wp kc (d + 1) 293 78 [some (jR 133), some (jI v1), some (jI v2), some (jI v3)] (v.toList ++ []) M1 Q))) : wp kc (d + 1) 293 65 [some (jR 133), some (jI v1), some (jI v2), some (jI v3)] [jI u0] M Q :=
  (x_ci c293_65 (x_clt c293_66 H.1 (by decide) (fun h1 => (x_inc (l' := [some (jR 133), some (jI v1), some (jI (v2 + 1)), some (jI v3)]) c293_114 rfl rfl (x_goto c293_117 (wp_wk (l' := [some (jR 133), some (jI v1), some (jI (v2 + 1)), none]) ⟨rfl, ⟨rfl, ⟨rfl, trivial⟩⟩⟩ (H.2.1 h1))))) (fun h2 => (x_aldn c293_69 rfl (x_gfr c293_70 k_133_50 (x_ildn c293_73 rfl (x_iald c293_74 a_158 (H.2.2 h2).1 (by decide) (wp_wk (l' := [some (jR 133), some (jI v1), some (jI v2), some (jI v3)]) ⟨rfl, ⟨rfl, ⟨rfl, ⟨rfl, trivial⟩⟩⟩⟩ (x_cs (As := [jI (M 158 v2)]) (st := []) c293_75 (by decide) rfl (Nat.le_of_ble_eq_true rfl) mx304 (Nat.le_refl _) (H.2.2 h2).2)))))))))
theorem s293_78 {kc : List va_E} {d : Nat} {v1 v2 v3 u0 : Int} {M : fx_M} {Q : Option fx_V → fx_M → Prop} (H : ((fx_in32 u0)) ∧ (u0 ≤ 1 → wc kc d 221 [jI 13] M (fun v M1 => wp kc (d + 1) 293 91 [some (jR 133), some (jI v1), some (jI v2), some (jI v3)] (v.toList ++ [jR 133]) M1 Q)) ∧ (1 < u0 → wp kc (d + 1) 293 24 [some (jR 133), some (jI v1), some (jI (v2 + 1)), none] [] M Q)) : wp kc (d + 1) 293 78 [some (jR 133), some (jI v1), some (jI v2), some (jI v3)] [jI u0] M Q :=
  (x_ci c293_78 (x_cle c293_79 H.1 (by decide) (fun h1 => (x_aldn c293_85 rfl (x_ci c293_86 (wp_wk (l' := [some (jR 133), some (jI v1), some (jI v2), some (jI v3)]) ⟨rfl, ⟨rfl, ⟨rfl, ⟨rfl, trivial⟩⟩⟩⟩ (x_cs (As := [jI 13]) (st := [jR 133]) c293_88 (by decide) rfl (Nat.le_of_ble_eq_true rfl) mx221 (Nat.le_refl _) (H.2.1 h1)))))) (fun h2 => (x_goto c293_82 (x_inc (l' := [some (jR 133), some (jI v1), some (jI (v2 + 1)), some (jI v3)]) c293_114 rfl rfl (x_goto c293_117 (wp_wk (l' := [some (jR 133), some (jI v1), some (jI (v2 + 1)), none]) ⟨rfl, ⟨rfl, ⟨rfl, trivial⟩⟩⟩ (H.2.2 h2))))))))
theorem s293_91 {kc : List va_E} {d : Nat} {v1 v2 v3 u0 : Int} {M : fx_M} {Q : Option fx_V → fx_M → Prop} (H : wc kc d 252 [jR 133, jL u0, jI v3] M (fun v M1 => wp kc (d + 1) 293 95 [some (jR 133), some (jI v1), some (jI v2), none] (v.toList ++ []) M1 Q)) : wp kc (d + 1) 293 91 [some (jR 133), some (jI v1), some (jI v2), some (jI v3)] [jL u0, jR 133] M Q :=
  (x_ildn c293_91 rfl (wp_wk (l' := [some (jR 133), some (jI v1), some (jI v2), none]) ⟨rfl, ⟨rfl, ⟨rfl, trivial⟩⟩⟩ (x_cv (As := [jL u0, jI v3]) (st := []) c293_92 cl_133 kl252 rfl (Nat.le_of_ble_eq_true rfl) mx252 (Nat.le_refl _) H)))
theorem s293_95 {kc : List va_E} {d : Nat} {v1 v2 : Int} {M : fx_M} {Q : Option fx_V → fx_M → Prop} (H : (((0 : Int) ≤ v2 ∧ v2 < 8)) ∧ wc kc d 302 [jI (M 158 v2)] M (fun v M1 => wp kc (d + 1) 293 105 [some (jR 133), some (jI v1), none, none] (v.toList ++ [jR 133]) M1 Q)) : wp kc (d + 1) 293 95 [some (jR 133), some (jI v1), some (jI v2), none] [] M Q :=
  (x_aldn c293_95 rfl (x_aldn c293_96 rfl (x_gfr c293_97 k_133_50 (x_ildn c293_100 rfl (x_iald c293_101 a_158 H.1 (by decide) (wp_wk (l' := [some (jR 133), some (jI v1), none, none]) ⟨rfl, ⟨rfl, trivial⟩⟩ (x_cs (As := [jI (M 158 v2)]) (st := [jR 133]) c293_102 (by decide) rfl (Nat.le_of_ble_eq_true rfl) mx302 (Nat.le_refl _) H.2)))))))
theorem s293_105 {kc : List va_E} {d : Nat} {v1 u0 : Int} {M : fx_M} {Q : Option fx_V → fx_M → Prop} (H : wc kc d 255 [jR 133, jI u0] M (fun v M1 => wp kc (d + 1) 293 108 [some (jR 133), some (jI v1), none, none] (v.toList ++ []) M1 Q)) : wp kc (d + 1) 293 105 [some (jR 133), some (jI v1), none, none] [jI u0, jR 133] M Q :=
  (wp_wk (l' := [some (jR 133), some (jI v1), none, none]) ⟨rfl, ⟨rfl, trivial⟩⟩ (x_cv (As := [jI u0]) (st := []) c293_105 cl_133 kl255 rfl (Nat.le_of_ble_eq_true rfl) mx255 (Nat.le_refl _) H))
theorem s293_108 {kc : List va_E} {d : Nat} {v1 : Int} {M : fx_M} {Q : Option fx_V → fx_M → Prop} (H : wc kc d 255 [jR 133, jI v1] M (fun v M1 => wp kc (d + 1) 293 113 [none, none, none, none] (v.toList ++ []) M1 Q)) : wp kc (d + 1) 293 108 [some (jR 133), some (jI v1), none, none] [] M Q :=
  (x_aldn c293_108 rfl (x_ildn c293_109 rfl (wp_wk (l' := [none, none, none, none]) trivial (x_cv (As := [jI v1]) (st := []) c293_110 cl_133 kl255 rfl (Nat.le_of_ble_eq_true rfl) mx255 (Nat.le_refl _) H))))
theorem s293_113 {kc : List va_E} {d : Nat} {M : fx_M} {Q : Option fx_V → fx_M → Prop} (H : Q none M) : wp kc (d + 1) 293 113 [none, none, none, none] [] M Q :=
  (x_vr c293_113 r293 H)
theorem s293_133 {kc : List va_E} {d : Nat} {M : fx_M} {Q : Option fx_V → fx_M → Prop} (H : Q none M) : wp kc (d + 1) 293 133 [none, none, none, none] [] M Q :=
  (x_vr c293_133 r293 H)
theorem s293 {kc : List va_E} {d : Nat} {M : fx_M} {Q : Option fx_V → fx_M → Prop} (H : wc kc d 294 [jR 133] M (fun v M1 => wp kc (d + 1) 293 4 [some (jR 133), none, none, none] (v.toList ++ []) M1 Q)) : wc kc (d + 1) 293 [jR 133] M Q :=
  wc_of (wp_wk (l' := [some (jR 133), none, none, none]) ⟨rfl, trivial⟩ (s293_0 H))

/- PuzzleHouseModel.standForPlay()V -/
theorem c294_0 : fx_op 294 0 = some (.aload_n 0, 1, 0) := by decide +kernel
theorem c294_1 : fx_ca 294 1 = some (295, 1, 2, 4) := by decide +kernel
theorem c294_4 : fx_ci 294 4 = some (0, 5) := by decide +kernel
theorem c294_5 : fx_op 294 5 = some (.istore_n 1, 6, 5) := by decide +kernel
theorem c294_6 : fx_op 294 6 = some (.iload_n 1, 7, 6) := by decide +kernel
theorem c294_7 : fx_op 294 7 = some (.aload_n 0, 8, 7) := by decide +kernel
theorem c294_8 : fx_ca 294 8 = some (248, 1, 2, 11) := by decide +kernel
theorem c294_11 : fx_op 294 11 = some (.if_icmp .ge 56, 14, 67) := by decide +kernel
theorem c294_14 : fx_op 294 14 = some (.aload_n 0, 15, 14) := by decide +kernel
theorem c294_15 : fx_op 294 15 = some (.iload_n 1, 16, 15) := by decide +kernel
theorem c294_67 : fx_op 294 67 = some (.return_, 68, 67) := by decide +kernel
theorem c294_16 : fx_ca 294 16 = some (271, 2, 2, 19) := by decide +kernel
theorem c294_19 : fx_op 294 19 = some (.ifCond .ge 42, 22, 61) := by decide +kernel
theorem c294_22 : fx_op 294 22 = some (.aload_n 0, 23, 22) := by decide +kernel
theorem c294_23 : fx_gf 294 23 = some (12, 81, 26) := by decide +kernel
theorem c294_26 : fx_ci 294 26 = some (9, 28) := by decide +kernel
theorem c294_28 : fx_op 294 28 = some (.aload_n 0, 29, 28) := by decide +kernel
theorem c294_29 : fx_gf 294 29 = some (12, 80, 32) := by decide +kernel
theorem c294_32 : fx_op 294 32 = some (.imul, 33, 32) := by decide +kernel
theorem c294_33 : fx_op 294 33 = some (.iload_n 1, 34, 33) := by decide +kernel
theorem c294_34 : fx_op 294 34 = some (.iadd, 35, 34) := by decide +kernel
theorem c294_35 : fx_op 294 35 = some (.iaload, 36, 35) := by decide +kernel
theorem c294_36 : fx_op 294 36 = some (.ifCond .lt 25, 39, 61) := by decide +kernel
theorem c294_39 : fx_op 294 39 = some (.aload_n 0, 40, 39) := by decide +kernel
theorem c294_40 : fx_gf 294 40 = some (12, 47, 43) := by decide +kernel
theorem c294_43 : fx_op 294 43 = some (.iload_n 1, 44, 43) := by decide +kernel
theorem c294_44 : fx_ci 294 44 = some (1, 45) := by decide +kernel
theorem c294_45 : fx_op 294 45 = some (.aload_n 0, 46, 45) := by decide +kernel
theorem c294_46 : fx_gf 294 46 = some (12, 81, 49) := by decide +kernel
theorem c294_49 : fx_ci 294 49 = some (9, 51) := by decide +kernel
theorem c294_51 : fx_op 294 51 = some (.aload_n 0, 52, 51) := by decide +kernel
theorem c294_52 : fx_gf 294 52 = some (12, 80, 55) := by decide +kernel
theorem c294_55 : fx_op 294 55 = some (.imul, 56, 55) := by decide +kernel
theorem c294_56 : fx_op 294 56 = some (.iload_n 1, 57, 56) := by decide +kernel
theorem c294_57 : fx_op 294 57 = some (.iadd, 58, 57) := by decide +kernel
theorem c294_58 : fx_op 294 58 = some (.iaload, 59, 58) := by decide +kernel
theorem c294_59 : fx_op 294 59 = some (.ishl, 60, 59) := by decide +kernel
theorem c294_61 : fx_op 294 61 = some (.iinc 1 1, 64, 61) := by decide +kernel
theorem c294_64 : fx_op 294 64 = some (.goto (-58), 67, 6) := by decide +kernel
theorem c294_60 : fx_op 294 60 = some (.iastore, 61, 60) := by decide +kernel
theorem s294_0 {kc : List va_E} {d : Nat} {M : fx_M} {Q : Option fx_V → fx_M → Prop} (H : wc kc d 295 [jR 133] M (fun v M1 => wp kc (d + 1) 294 4 [some (jR 133), none] (v.toList ++ []) M1 Q)) : wp kc (d + 1) 294 0 [some (jR 133), none] [] M Q :=
  (x_aldn c294_0 rfl (wp_wk (l' := [some (jR 133), none]) ⟨rfl, trivial⟩ (x_cv (As := []) (st := []) c294_1 cl_133 kl295 rfl (Nat.le_of_ble_eq_true rfl) mx295 (Nat.le_refl _) H)))
theorem s294_4 {kc : List va_E} {d : Nat} {M : fx_M} {Q : Option fx_V → fx_M → Prop} (H : wp kc (d + 1) 294 6 [some (jR 133), some (jI 0)] [] M Q) : wp kc (d + 1) 294 4 [some (jR 133), none] [] M Q :=
  (x_ci c294_4 (x_istn (l' := [some (jR 133), some (jI 0)]) c294_5 rfl (wp_wk (l' := [some (jR 133), some (jI 0)]) ⟨rfl, ⟨rfl, trivial⟩⟩ H)))
theorem s294_6 {kc : List va_E} {d : Nat} {v1 : Int} {M : fx_M} {Q : Option fx_V → fx_M → Prop} (H : wc kc d 248 [jR 133] M (fun v M1 => wp kc (d + 1) 294 11 [some (jR 133), some (jI v1)] (v.toList ++ [jI v1]) M1 Q)) : wp kc (d + 1) 294 6 [some (jR 133), some (jI v1)] [] M Q :=
  (x_ildn c294_6 rfl (x_aldn c294_7 rfl (wp_wk (l' := [some (jR 133), some (jI v1)]) ⟨rfl, ⟨rfl, trivial⟩⟩ (x_cv (As := []) (st := [jI v1]) c294_8 cl_133 kl248 rfl (Nat.le_of_ble_eq_true rfl) mx248 (Nat.le_refl _) H))))
theorem s294_11 {kc : List va_E} {d : Nat} {v1 u0 u1 : Int} {M : fx_M} {Q : Option fx_V → fx_M → Prop} (H : ((fx_in32 u1) ∧ (fx_in32 u0)) ∧ (u0 ≤ u1 → Q none M) ∧ (u1 < u0 → wc kc d 271 [jR 133, jI v1] M (fun v M1 => wp kc (d + 1) 294 19 [some (jR 133), some (jI v1)] (v.toList ++ []) M1 Q))) : wp kc (d + 1) 294 11 [some (jR 133), some (jI v1)] [jI u0, jI u1] M Q :=
  (x_cge c294_11 H.1.1 H.1.2 (fun h1 => (x_vr c294_67 r294 (H.2.1 h1))) (fun h2 => (x_aldn c294_14 rfl (x_ildn c294_15 rfl (wp_wk (l' := [some (jR 133), some (jI v1)]) ⟨rfl, ⟨rfl, trivial⟩⟩ (x_cv (As := [jI v1]) (st := []) c294_16 cl_133 kl271 rfl (Nat.le_of_ble_eq_true rfl) mx271 (Nat.le_refl _) (H.2.2 h2)))))))
theorem s294_19 {kc : List va_E} {d : Nat} {v1 u0 : Int} {M : fx_M} {Q : Option fx_V → fx_M → Prop} (H : ((fx_in32 u0)) ∧ (0 ≤ u0 → wp kc (d + 1) 294 6 [some (jR 133), some (jI (v1 + 1))] [] M Q) ∧ (u0 < 0 → (((0 : Int) ≤ (9 * (M 133 80)) + v1 ∧ (9 * (M 133 80)) + v1 < 27)) ∧ ((fx_in32 (M 174 ((9 * (M 133 80)) + v1)))) ∧ (M 174 ((9 * (M 133 80)) + v1) < 0 → wp kc (d + 1) 294 6 [some (jR 133), some (jI (v1 + 1))] [] M Q) ∧ (0 ≤ M 174 ((9 * (M 133 80)) + v1) → (((0 : Int) ≤ (9 * (M 133 80)) + v1 ∧ (9 * (M 133 80)) + v1 < 27)) ∧ (((0 : Int) ≤ v1 ∧ v1 < 9)) ∧ wp kc (d + 1) 294 6 [some (jR 133), some (jI (v1 + 1))] [] (fx_up M 156 v1 (fx_shl 1 (M 174 ((9 * (M 133 80)) + v1)))) Q))) : wp kc (d + 1) 294 19 [some (jR 133), some (jI v1)] [jI u0] M Q :=
  (x_zge c294_19 H.1 (fun h3 => (x_inc (l' := [some (jR 133), some (jI (v1 + 1))]) c294_61 rfl rfl (x_goto c294_64 (wp_wk (l' := [some (jR 133), some (jI (v1 + 1))]) ⟨rfl, ⟨rfl, trivial⟩⟩ (H.2.1 h3))))) (fun h4 => (x_aldn c294_22 rfl (x_gfr c294_23 k_133_81 (x_ci c294_26 (x_aldn c294_28 rfl (x_gfi c294_29 k_133_80 (x_imul c294_32 (x_ildn c294_33 rfl (x_iadd c294_34 (x_iald c294_35 a_174 (H.2.2 h4).1 (by decide) (x_zlt c294_36 (H.2.2 h4).2.1 (fun h1 => (x_inc (l' := [some (jR 133), some (jI (v1 + 1))]) c294_61 rfl rfl (x_goto c294_64 (wp_wk (l' := [some (jR 133), some (jI (v1 + 1))]) ⟨rfl, ⟨rfl, trivial⟩⟩ ((H.2.2 h4).2.2.1 h1))))) (fun h2 => (x_aldn c294_39 rfl (x_gfr c294_40 k_133_47 (x_ildn c294_43 rfl (x_ci c294_44 (x_aldn c294_45 rfl (x_gfr c294_46 k_133_81 (x_ci c294_49 (x_aldn c294_51 rfl (x_gfi c294_52 k_133_80 (x_imul c294_55 (x_ildn c294_56 rfl (x_iadd c294_57 (x_iald c294_58 a_174 ((H.2.2 h4).2.2.2 h2).1 (by decide) (x_ishl c294_59 (x_iast c294_60 a_156 ((H.2.2 h4).2.2.2 h2).2.1 (by decide) (x_inc (l' := [some (jR 133), some (jI (v1 + 1))]) c294_61 rfl rfl (x_goto c294_64 (wp_wk (l' := [some (jR 133), some (jI (v1 + 1))]) ⟨rfl, ⟨rfl, trivial⟩⟩ ((H.2.2 h4).2.2.2 h2).2.2)))))))))))))))))))))))))))))))
theorem s294 {kc : List va_E} {d : Nat} {M : fx_M} {Q : Option fx_V → fx_M → Prop} (H : wc kc d 295 [jR 133] M (fun v M1 => wp kc (d + 1) 294 4 [some (jR 133), none] (v.toList ++ []) M1 Q)) : wc kc (d + 1) 294 [jR 133] M Q :=
  wc_of (wp_wk (l' := [some (jR 133), none]) ⟨rfl, trivial⟩ (s294_0 H))

/- PuzzleHouseModel.stand()V -/
theorem c295_0 : fx_ci 295 0 = some (0, 1) := by decide +kernel
theorem c295_1 : fx_op 295 1 = some (.istore_n 1, 2, 1) := by decide +kernel
theorem c295_2 : fx_op 295 2 = some (.iload_n 1, 3, 2) := by decide +kernel
theorem c295_3 : fx_op 295 3 = some (.aload_n 0, 4, 3) := by decide +kernel
theorem c295_4 : fx_ca 295 4 = some (248, 1, 2, 7) := by decide +kernel
theorem c295_7 : fx_op 295 7 = some (.if_icmp .ge 37, 10, 44) := by decide +kernel
theorem c295_10 : fx_op 295 10 = some (.aload_n 0, 11, 10) := by decide +kernel
theorem c295_11 : fx_gf 295 11 = some (12, 47, 14) := by decide +kernel
theorem c295_14 : fx_op 295 14 = some (.iload_n 1, 15, 14) := by decide +kernel
theorem c295_15 : fx_op 295 15 = some (.aload_n 0, 16, 15) := by decide +kernel
theorem c295_16 : fx_op 295 16 = some (.iload_n 1, 17, 16) := by decide +kernel
theorem c295_44 : fx_op 295 44 = some (.return_, 45, 44) := by decide +kernel
theorem c295_17 : fx_ca 295 17 = some (271, 2, 2, 20) := by decide +kernel
theorem c295_20 : fx_op 295 20 = some (.ifCond .ge 10, 23, 30) := by decide +kernel
theorem c295_30 : fx_ci 295 30 = some (1, 31) := by decide +kernel
theorem c295_31 : fx_op 295 31 = some (.aload_n 0, 32, 31) := by decide +kernel
theorem c295_32 : fx_op 295 32 = some (.iload_n 1, 33, 32) := by decide +kernel
theorem c295_23 : fx_op 295 23 = some (.aload_n 0, 24, 23) := by decide +kernel
theorem c295_33 : fx_ca 295 33 = some (271, 2, 2, 36) := by decide +kernel
theorem c295_24 : fx_ca 295 24 = some (296, 1, 2, 27) := by decide +kernel
theorem c295_36 : fx_op 295 36 = some (.ishl, 37, 36) := by decide +kernel
theorem c295_38 : fx_op 295 38 = some (.iinc 1 1, 41, 38) := by decide +kernel
theorem c295_37 : fx_op 295 37 = some (.iastore, 38, 37) := by decide +kernel
theorem c295_41 : fx_op 295 41 = some (.goto (-39), 44, 2) := by decide +kernel
theorem c295_27 : fx_op 295 27 = some (.goto 10, 30, 37) := by decide +kernel
theorem s295_0 {kc : List va_E} {d : Nat} {M : fx_M} {Q : Option fx_V → fx_M → Prop} (H : wp kc (d + 1) 295 2 [some (jR 133), some (jI 0)] [] M Q) : wp kc (d + 1) 295 0 [some (jR 133), none] [] M Q :=
  (x_ci c295_0 (x_istn (l' := [some (jR 133), some (jI 0)]) c295_1 rfl (wp_wk (l' := [some (jR 133), some (jI 0)]) ⟨rfl, ⟨rfl, trivial⟩⟩ H)))
theorem s295_2 {kc : List va_E} {d : Nat} {v1 : Int} {M : fx_M} {Q : Option fx_V → fx_M → Prop} (H : wc kc d 248 [jR 133] M (fun v M1 => wp kc (d + 1) 295 7 [some (jR 133), some (jI v1)] (v.toList ++ [jI v1]) M1 Q)) : wp kc (d + 1) 295 2 [some (jR 133), some (jI v1)] [] M Q :=
  (x_ildn c295_2 rfl (x_aldn c295_3 rfl (wp_wk (l' := [some (jR 133), some (jI v1)]) ⟨rfl, ⟨rfl, trivial⟩⟩ (x_cv (As := []) (st := [jI v1]) c295_4 cl_133 kl248 rfl (Nat.le_of_ble_eq_true rfl) mx248 (Nat.le_refl _) H))))
theorem s295_7 {kc : List va_E} {d : Nat} {v1 u0 u1 : Int} {M : fx_M} {Q : Option fx_V → fx_M → Prop} (H : ((fx_in32 u1) ∧ (fx_in32 u0)) ∧ (u0 ≤ u1 → Q none M) ∧ (u1 < u0 → wc kc d 271 [jR 133, jI v1] M (fun v M1 => wp kc (d + 1) 295 20 [some (jR 133), some (jI v1)] (v.toList ++ [jI v1, jR 156]) M1 Q))) : wp kc (d + 1) 295 7 [some (jR 133), some (jI v1)] [jI u0, jI u1] M Q :=
  (x_cge c295_7 H.1.1 H.1.2 (fun h1 => (x_vr c295_44 r295 (H.2.1 h1))) (fun h2 => (x_aldn c295_10 rfl (x_gfr c295_11 k_133_47 (x_ildn c295_14 rfl (x_aldn c295_15 rfl (x_ildn c295_16 rfl (wp_wk (l' := [some (jR 133), some (jI v1)]) ⟨rfl, ⟨rfl, trivial⟩⟩ (x_cv (As := [jI v1]) (st := [jI v1, jR 156]) c295_17 cl_133 kl271 rfl (Nat.le_of_ble_eq_true rfl) mx271 (Nat.le_refl _) (H.2.2 h2))))))))))
theorem s295_20 {kc : List va_E} {d : Nat} {v1 u0 u1 : Int} {M : fx_M} {Q : Option fx_V → fx_M → Prop} (H : ((fx_in32 u0)) ∧ (0 ≤ u0 → wc kc d 271 [jR 133, jI v1] M (fun v M1 => wp kc (d + 1) 295 36 [some (jR 133), some (jI v1)] (v.toList ++ [jI 1, jI u1, jR 156]) M1 Q)) ∧ (u0 < 0 → wc kc d 296 [jR 133] M (fun v M1 => wp kc (d + 1) 295 27 [some (jR 133), some (jI v1)] (v.toList ++ [jI u1, jR 156]) M1 Q))) : wp kc (d + 1) 295 20 [some (jR 133), some (jI v1)] [jI u0, jI u1, jR 156] M Q :=
  (x_zge c295_20 H.1 (fun h1 => (x_ci c295_30 (x_aldn c295_31 rfl (x_ildn c295_32 rfl (wp_wk (l' := [some (jR 133), some (jI v1)]) ⟨rfl, ⟨rfl, trivial⟩⟩ (x_cv (As := [jI v1]) (st := [jI 1, jI u1, jR 156]) c295_33 cl_133 kl271 rfl (Nat.le_of_ble_eq_true rfl) mx271 (Nat.le_refl _) (H.2.1 h1))))))) (fun h2 => (x_aldn c295_23 rfl (wp_wk (l' := [some (jR 133), some (jI v1)]) ⟨rfl, ⟨rfl, trivial⟩⟩ (x_cv (As := []) (st := [jI u1, jR 156]) c295_24 cl_133 kl296 rfl (Nat.le_of_ble_eq_true rfl) mx296 (Nat.le_refl _) (H.2.2 h2))))))
theorem s295_27 {kc : List va_E} {d : Nat} {v1 u0 u1 : Int} {M : fx_M} {Q : Option fx_V → fx_M → Prop} (H : (((0 : Int) ≤ u1 ∧ u1 < 9)) ∧ wp kc (d + 1) 295 2 [some (jR 133), some (jI (v1 + 1))] [] (fx_up M 156 u1 u0) Q) : wp kc (d + 1) 295 27 [some (jR 133), some (jI v1)] [jI u0, jI u1, jR 156] M Q :=
  (x_goto c295_27 (x_iast c295_37 a_156 H.1 (by decide) (x_inc (l' := [some (jR 133), some (jI (v1 + 1))]) c295_38 rfl rfl (x_goto c295_41 (wp_wk (l' := [some (jR 133), some (jI (v1 + 1))]) ⟨rfl, ⟨rfl, trivial⟩⟩ H.2)))))
theorem s295_36 {kc : List va_E} {d : Nat} {v1 u0 u1 u2 : Int} {M : fx_M} {Q : Option fx_V → fx_M → Prop} (H : (((0 : Int) ≤ u2 ∧ u2 < 9)) ∧ wp kc (d + 1) 295 2 [some (jR 133), some (jI (v1 + 1))] [] (fx_up M 156 u2 (fx_shl u1 u0)) Q) : wp kc (d + 1) 295 36 [some (jR 133), some (jI v1)] [jI u0, jI u1, jI u2, jR 156] M Q :=
  (x_ishl c295_36 (x_iast c295_37 a_156 H.1 (by decide) (x_inc (l' := [some (jR 133), some (jI (v1 + 1))]) c295_38 rfl rfl (x_goto c295_41 (wp_wk (l' := [some (jR 133), some (jI (v1 + 1))]) ⟨rfl, ⟨rfl, trivial⟩⟩ H.2)))))
theorem s295 {kc : List va_E} {d : Nat} {M : fx_M} {Q : Option fx_V → fx_M → Prop} (H : wp kc (d + 1) 295 2 [some (jR 133), some (jI 0)] [] M Q) : wc kc (d + 1) 295 [jR 133] M Q :=
  wc_of (wp_wk (l' := [some (jR 133), none]) ⟨rfl, trivial⟩ (s295_0 H))

/- PuzzleHouseModel.full()I -/
theorem c296_0 : fx_ci 296 0 = some (1, 1) := by decide +kernel
theorem c296_1 : fx_op 296 1 = some (.aload_n 0, 2, 1) := by decide +kernel
theorem c296_2 : fx_gf 296 2 = some (12, 39, 5) := by decide +kernel
theorem c296_5 : fx_ci 296 5 = some (0, 6) := by decide +kernel
theorem c296_6 : fx_op 296 6 = some (.iaload, 7, 6) := by decide +kernel
theorem c296_7 : fx_op 296 7 = some (.ishl, 8, 7) := by decide +kernel
theorem c296_8 : fx_ci 296 8 = some (1, 9) := by decide +kernel
theorem c296_9 : fx_op 296 9 = some (.isub, 10, 9) := by decide +kernel
theorem c296_10 : fx_op 296 10 = some (.ireturn, 11, 10) := by decide +kernel
theorem s296_0 {kc : List va_E} {d : Nat} {M : fx_M} {Q : Option fx_V → fx_M → Prop} (H : Q (some (jI ((fx_shl 1 (M 148 0)) - 1))) M) : wp kc (d + 1) 296 0 [some (jR 133)] [] M Q :=
  (x_ci c296_0 (x_aldn c296_1 rfl (x_gfr c296_2 k_133_39 (x_ci c296_5 (x_iald c296_6 a_148 (by decide) (by decide) (x_ishl c296_7 (x_ci c296_8 (x_isub c296_9 (x_irt c296_10 r296 H)))))))))
theorem s296 {kc : List va_E} {d : Nat} {M : fx_M} {Q : Option fx_V → fx_M → Prop} (H : Q (some (jI ((fx_shl 1 (M 148 0)) - 1))) M) : wc kc (d + 1) 296 [jR 133] M Q :=
  wc_of (wp_wk (l' := [some (jR 133)]) ⟨rfl, trivial⟩ (s296_0 H))

/- PuzzleHouseModel.findPossible(II)V -/
theorem c297_0 : fx_op 297 0 = some (.aload_n 0, 1, 0) := by decide +kernel
theorem c297_1 : fx_op 297 1 = some (.iload_n 1, 2, 1) := by decide +kernel
theorem c297_2 : fx_op 297 2 = some (.iload_n 2, 3, 2) := by decide +kernel
theorem c297_3 : fx_ca 297 3 = some (298, 3, 2, 6) := by decide +kernel
theorem c297_6 : fx_ci 297 6 = some (0, 7) := by decide +kernel
theorem c297_7 : fx_op 297 7 = some (.istore_n 3, 8, 7) := by decide +kernel
theorem c297_8 : fx_op 297 8 = some (.iload_n 3, 9, 8) := by decide +kernel
theorem c297_9 : fx_op 297 9 = some (.aload_n 0, 10, 9) := by decide +kernel
theorem c297_10 : fx_gf 297 10 = some (12, 48, 13) := by decide +kernel
theorem c297_13 : fx_op 297 13 = some (.if_icmp .ge 16, 16, 29) := by decide +kernel
theorem c297_16 : fx_op 297 16 = some (.aload_n 0, 17, 16) := by decide +kernel
theorem c297_17 : fx_gf 297 17 = some (12, 50, 20) := by decide +kernel
theorem c297_20 : fx_op 297 20 = some (.iload_n 3, 21, 20) := by decide +kernel
theorem c297_21 : fx_ci 297 21 = some (0, 22) := by decide +kernel
theorem c297_29 : fx_op 297 29 = some (.aload_n 0, 30, 29) := by decide +kernel
theorem c297_30 : fx_ci 297 30 = some (0, 31) := by decide +kernel
theorem c297_23 : fx_op 297 23 = some (.iinc 3 1, 26, 23) := by decide +kernel
theorem c297_31 : fx_ca 297 31 = some (300, 2, 2, 34) := by decide +kernel
theorem c297_22 : fx_op 297 22 = some (.iastore, 23, 22) := by decide +kernel
theorem c297_26 : fx_op 297 26 = some (.goto (-18), 29, 8) := by decide +kernel
theorem c297_34 : fx_op 297 34 = some (.istore_n 3, 35, 34) := by decide +kernel
theorem c297_35 : fx_op 297 35 = some (.iload_n 3, 36, 35) := by decide +kernel
theorem c297_36 : fx_op 297 36 = some (.ifCond .eq 79, 39, 115) := by decide +kernel
theorem c297_39 : fx_op 297 39 = some (.aload_n 0, 40, 39) := by decide +kernel
theorem c297_40 : fx_op 297 40 = some (.iload_n 1, 41, 40) := by decide +kernel
theorem c297_115 : fx_op 297 115 = some (.return_, 116, 115) := by decide +kernel
theorem c297_41 : fx_ca 297 41 = some (273, 2, 2, 44) := by decide +kernel
theorem c297_44 : fx_op 297 44 = some (.ifCond .eq 62, 47, 106) := by decide +kernel
theorem c297_47 : fx_op 297 47 = some (.iload_n 2, 48, 47) := by decide +kernel
theorem c297_48 : fx_op 297 48 = some (.ifCond .lt 11, 51, 59) := by decide +kernel
theorem c297_59 : fx_ci 297 59 = some (0, 60) := by decide +kernel
theorem c297_60 : fx_op 297 60 = some (.istore 4, 62, 60) := by decide +kernel
theorem c297_106 : fx_op 297 106 = some (.aload_n 0, 107, 106) := by decide +kernel
theorem c297_107 : fx_ci 297 107 = some (0, 108) := by decide +kernel
theorem c297_51 : fx_op 297 51 = some (.aload_n 0, 52, 51) := by decide +kernel
theorem c297_52 : fx_op 297 52 = some (.iload_n 2, 53, 52) := by decide +kernel
theorem c297_108 : fx_ca 297 108 = some (303, 2, 2, 111) := by decide +kernel
theorem c297_53 : fx_ca 297 53 = some (273, 2, 2, 56) := by decide +kernel
theorem c297_62 : fx_op 297 62 = some (.iload 4, 64, 62) := by decide +kernel
theorem c297_64 : fx_op 297 64 = some (.aload_n 0, 65, 64) := by decide +kernel
theorem c297_65 : fx_gf 297 65 = some (12, 48, 68) := by decide +kernel
theorem c297_68 : fx_op 297 68 = some (.if_icmp .ge 38, 71, 106) := by decide +kernel
theorem c297_71 : fx_op 297 71 = some (.aload_n 0, 72, 71) := by decide +kernel
theorem c297_72 : fx_gf 297 72 = some (12, 50, 75) := by decide +kernel
theorem c297_75 : fx_op 297 75 = some (.iload 4, 77, 75) := by decide +kernel
theorem c297_77 : fx_op 297 77 = some (.aload_n 0, 78, 77) := by decide +kernel
theorem c297_78 : fx_gf 297 78 = some (12, 50, 81) := by decide +kernel
theorem c297_81 : fx_op 297 81 = some (.iload 4, 83, 81) := by decide +kernel
theorem c297_83 : fx_op 297 83 = some (.iaload, 84, 83) := by decide +kernel
theorem c297_84 : fx_ci 297 84 = some (1, 85) := by decide +kernel
theorem c297_85 : fx_op 297 85 = some (.aload_n 0, 86, 85) := by decide +kernel
theorem c297_86 : fx_gf 297 86 = some (12, 46, 89) := by decide +kernel
theorem c297_89 : fx_op 297 89 = some (.aload_n 0, 90, 89) := by decide +kernel
theorem c297_90 : fx_gf 297 90 = some (12, 49, 93) := by decide +kernel
theorem c297_93 : fx_op 297 93 = some (.iload 4, 95, 93) := by decide +kernel
theorem c297_95 : fx_op 297 95 = some (.iaload, 96, 95) := by decide +kernel
theorem c297_96 : fx_op 297 96 = some (.iaload, 97, 96) := by decide +kernel
theorem c297_97 : fx_op 297 97 = some (.ishl, 98, 97) := by decide +kernel
theorem c297_98 : fx_op 297 98 = some (.ior, 99, 98) := by decide +kernel
theorem c297_100 : fx_op 297 100 = some (.iinc 4 1, 103, 100) := by decide +kernel
theorem c297_99 : fx_op 297 99 = some (.iastore, 100, 99) := by decide +kernel
theorem c297_103 : fx_op 297 103 = some (.goto (-41), 106, 62) := by decide +kernel
theorem c297_111 : fx_op 297 111 = some (.istore_n 3, 112, 111) := by decide +kernel
theorem c297_112 : fx_op 297 112 = some (.goto (-77), 115, 35) := by decide +kernel
theorem c297_56 : fx_op 297 56 = some (.ifCond .eq 50, 59, 106) := by decide +kernel
theorem s297_0 {kc : List va_E} {d : Nat} {x1 x2 : Int} {M : fx_M} {Q : Option fx_V → fx_M → Prop} (H : wc kc d 298 [jR 133, jI x1, jI x2] M (fun v M1 => wp kc (d + 1) 297 6 [some (jR 133), some (jI x1), some (jI x2), none, none] (v.toList ++ []) M1 Q)) : wp kc (d + 1) 297 0 [some (jR 133), some (jI x1), some (jI x2), none, none] [] M Q :=
  (x_aldn c297_0 rfl (x_ildn c297_1 rfl (x_ildn c297_2 rfl (wp_wk (l' := [some (jR 133), some (jI x1), some (jI x2), none, none]) ⟨rfl, ⟨rfl, ⟨rfl, trivial⟩⟩⟩ (x_cv (As := [jI x1, jI x2]) (st := []) c297_3 cl_133 kl298 rfl (Nat.le_of_ble_eq_true rfl) mx298 (Nat.le_refl _) H)))))
theorem s297_6 {kc : List va_E} {d : Nat} {v1 v2 : Int} {M : fx_M} {Q : Option fx_V → fx_M → Prop} (H : wp kc (d + 1) 297 8 [some (jR 133), some (jI v1), some (jI v2), some (jI 0), none] [] M Q) : wp kc (d + 1) 297 6 [some (jR 133), some (jI v1), some (jI v2), none, none] [] M Q :=
  (x_ci c297_6 (x_istn (l' := [some (jR 133), some (jI v1), some (jI v2), some (jI 0), none]) c297_7 rfl (wp_wk (l' := [some (jR 133), some (jI v1), some (jI v2), some (jI 0), none]) ⟨rfl, ⟨rfl, ⟨rfl, ⟨rfl, trivial⟩⟩⟩⟩ H)))
theorem s297_8 {kc : List va_E} {d : Nat} {v1 v2 v3 : Int} {M : fx_M} {Q : Option fx_V → fx_M → Prop} (H : ((fx_in32 v3) ∧ (fx_in32 (M 133 48))) ∧ (M 133 48 ≤ v3 → wc kc d 300 [jR 133, jI 0] M (fun v M1 => wp kc (d + 1) 297 34 [some (jR 133), some (jI v1), some (jI v2), none, none] (v.toList ++ []) M1 Q)) ∧ (v3 < M 133 48 → (((0 : Int) ≤ v3 ∧ v3 < 8)) ∧ wp kc (d + 1) 297 8 [some (jR 133), some (jI v1), some (jI v2), some (jI (v3 + 1)), none] [] (fx_up M 158 v3 0) Q)) : wp kc (d + 1) 297 8 [some (jR 133), some (jI v1), some (jI v2), some (jI v3), none] [] M Q :=
  (x_ildn c297_8 rfl (x_aldn c297_9 rfl (x_gfi c297_10 k_133_48 (x_cge c297_13 H.1.1 H.1.2 (fun h1 => (x_aldn c297_29 rfl (x_ci c297_30 (wp_wk (l' := [some (jR 133), some (jI v1), some (jI v2), none, none]) ⟨rfl, ⟨rfl, ⟨rfl, trivial⟩⟩⟩ (x_cv (As := [jI 0]) (st := []) c297_31 cl_133 kl300 rfl (Nat.le_of_ble_eq_true rfl) mx300 (Nat.le_refl _) (H.2.1 h1)))))) (fun h2 => (x_aldn c297_16 rfl (x_gfr c297_17 k_133_50 (x_ildn c297_20 rfl (x_ci c297_21 (x_iast c297_22 a_158 (H.2.2 h2).1 (by decide) (x_inc (l' := [some (jR 133), some (jI v1), some (jI v2), some (jI (v3 + 1)), none]) c297_23 rfl rfl (x_goto c297_26 (wp_wk (l' := [some (jR 133), some (jI v1), some (jI v2), some (jI (v3 + 1)), none]) ⟨rfl, ⟨rfl, ⟨rfl, ⟨rfl, trivial⟩⟩⟩⟩ (H.2.2 h2).2)))))))))))))
theorem s297_34 {kc : List va_E} {d : Nat} {v1 v2 u0 : Int} {M : fx_M} {Q : Option fx_V → fx_M → Prop} (H : wp kc (d + 1) 297 35 [some (jR 133), some (jI v1), some (jI v2), some (jI u0), none] [] M Q) : wp kc (d + 1) 297 34 [some (jR 133), some (jI v1), some (jI v2), none, none] [jI u0] M Q :=
  (x_istn (l' := [some (jR 133), some (jI v1), some (jI v2), some (jI u0), none]) c297_34 rfl (wp_wk (l' := [some (jR 133), some (jI v1), some (jI v2), some (jI u0), none]) ⟨rfl, ⟨rfl, ⟨rfl, ⟨rfl, trivial⟩⟩⟩⟩ H))
theorem s297_35 {kc : List va_E} {d : Nat} {v1 v2 v3 : Int} {M : fx_M} {Q : Option fx_V → fx_M → Prop} (H : ((fx_in32 v3)) ∧ (v3 = 0 → Q none M) ∧ (v3 ≠ 0 → wc kc d 273 [jR 133, jI v1] M (fun v M1 => wp kc (d + 1) 297 44 [some (jR 133), some (jI v1), some (jI v2), none, none] (v.toList ++ []) M1 Q))) : wp kc (d + 1) 297 35 [some (jR 133), some (jI v1), some (jI v2), some (jI v3), none] [] M Q :=
  (x_ildn c297_35 rfl (x_zeq c297_36 H.1 (fun h1 => (x_vr c297_115 r297 (H.2.1 h1))) (fun h2 => (x_aldn c297_39 rfl (x_ildn c297_40 rfl (wp_wk (l' := [some (jR 133), some (jI v1), some (jI v2), none, none]) ⟨rfl, ⟨rfl, ⟨rfl, trivial⟩⟩⟩ (x_cv (As := [jI v1]) (st := []) c297_41 cl_133 kl273 rfl (Nat.le_of_ble_eq_true rfl) mx273 (Nat.le_refl _) (H.2.2 h2))))))))
theorem s297_44 {kc : List va_E} {d : Nat} {v1 v2 u0 : Int} {M : fx_M} {Q : Option fx_V → fx_M → Prop} (H : ((fx_in32 u0)) ∧ (u0 = 0 → wc kc d 303 [jR 133, jI 0] M (fun v M1 => wp kc (d + 1) 297 111 [some (jR 133), some (jI v1), some (jI v2), none, none] (v.toList ++ []) M1 Q)) ∧ (u0 ≠ 0 → ((fx_in32 v2)) ∧ (v2 < 0 → wp kc (d + 1) 297 62 [some (jR 133), some (jI v1), some (jI v2), none, some (jI 0)] [] M Q) ∧ (0 ≤ v2 → wc kc d 273 [jR 133, jI v2] M (fun v M1 => wp kc (d + 1) 297 56 [some (jR 133), some (jI v1), some (jI v2), none, none] (v.toList ++ []) M1 Q)))) : wp kc (d + 1) 297 44 [some (jR 133), some (jI v1), some (jI v2), none, none] [jI u0] M Q :=
  (x_zeq c297_44 H.1 (fun h3 => (x_aldn c297_106 rfl (x_ci c297_107 (wp_wk (l' := [some (jR 133), some (jI v1), some (jI v2), none, none]) ⟨rfl, ⟨rfl, ⟨rfl, trivial⟩⟩⟩ (x_cv (As := [jI 0]) (st := []) c297_108 cl_133 kl303 rfl (Nat.le_of_ble_eq_true rfl) mx303 (Nat.le_refl _) (H.2.1 h3)))))) (fun h4 => (x_ildn c297_47 rfl (x_zlt c297_48 (H.2.2 h4).1 (fun h1 => (x_ci c297_59 (x_ist (l' := [some (jR 133), some (jI v1), some (jI v2), none, some (jI 0)]) c297_60 rfl (wp_wk (l' := [some (jR 133), some (jI v1), some (jI v2), none, some (jI 0)]) ⟨rfl, ⟨rfl, ⟨rfl, ⟨rfl, trivial⟩⟩⟩⟩ ((H.2.2 h4).2.1 h1))))) (fun h2 => (x_aldn c297_51 rfl (x_ildn c297_52 rfl (wp_wk (l' := [some (jR 133), some (jI v1), some (jI v2), none, none]) ⟨rfl, ⟨rfl, ⟨rfl, trivial⟩⟩⟩ (x_cv (As := [jI v2]) (st := []) c297_53 cl_133 kl273 rfl (Nat.le_of_ble_eq_true rfl) mx273 (Nat.le_refl _) ((H.2.2 h4).2.2 h2))))))))))
theorem s297_56 {kc : List va_E} {d : Nat} {v1 v2 u0 : Int} {M : fx_M} {Q : Option fx_V → fx_M → Prop} (H : ((fx_in32 u0)) ∧ (u0 = 0 → wc kc d 303 [jR 133, jI 0] M (fun v M1 => wp kc (d + 1) 297 111 [some (jR 133), some (jI v1), some (jI v2), none, none] (v.toList ++ []) M1 Q)) ∧ (u0 ≠ 0 → wp kc (d + 1) 297 62 [some (jR 133), some (jI v1), some (jI v2), none, some (jI 0)] [] M Q)) : wp kc (d + 1) 297 56 [some (jR 133), some (jI v1), some (jI v2), none, none] [jI u0] M Q :=
  (x_zeq c297_56 H.1 (fun h1 => (x_aldn c297_106 rfl (x_ci c297_107 (wp_wk (l' := [some (jR 133), some (jI v1), some (jI v2), none, none]) ⟨rfl, ⟨rfl, ⟨rfl, trivial⟩⟩⟩ (x_cv (As := [jI 0]) (st := []) c297_108 cl_133 kl303 rfl (Nat.le_of_ble_eq_true rfl) mx303 (Nat.le_refl _) (H.2.1 h1)))))) (fun h2 => (x_ci c297_59 (x_ist (l' := [some (jR 133), some (jI v1), some (jI v2), none, some (jI 0)]) c297_60 rfl (wp_wk (l' := [some (jR 133), some (jI v1), some (jI v2), none, some (jI 0)]) ⟨rfl, ⟨rfl, ⟨rfl, ⟨rfl, trivial⟩⟩⟩⟩ (H.2.2 h2))))))
theorem s297_62 {kc : List va_E} {d : Nat} {v1 v2 v4 : Int} {M : fx_M} {Q : Option fx_V → fx_M → Prop} (H : ((fx_in32 v4) ∧ (fx_in32 (M 133 48))) ∧ (M 133 48 ≤ v4 → wc kc d 303 [jR 133, jI 0] M (fun v M1 => wp kc (d + 1) 297 111 [some (jR 133), some (jI v1), some (jI v2), none, none] (v.toList ++ []) M1 Q)) ∧ (v4 < M 133 48 → (((0 : Int) ≤ v4 ∧ v4 < 8)) ∧ (((0 : Int) ≤ v4 ∧ v4 < 8)) ∧ (((0 : Int) ≤ M 157 v4 ∧ M 157 v4 < 9)) ∧ (((0 : Int) ≤ v4 ∧ v4 < 8)) ∧ wp kc (d + 1) 297 62 [some (jR 133), some (jI v1), some (jI v2), none, some (jI (v4 + 1))] [] (fx_up M 158 v4 (fx_or (M 158 v4) (fx_shl 1 (M 155 (M 157 v4))))) Q)) : wp kc (d + 1) 297 62 [some (jR 133), some (jI v1), some (jI v2), none, some (jI v4)] [] M Q :=
  (x_ild c297_62 rfl (x_aldn c297_64 rfl (x_gfi c297_65 k_133_48 (x_cge c297_68 H.1.1 H.1.2 (fun h1 => (x_aldn c297_106 rfl (x_ci c297_107 (wp_wk (l' := [some (jR 133), some (jI v1), some (jI v2), none, none]) ⟨rfl, ⟨rfl, ⟨rfl, trivial⟩⟩⟩ (x_cv (As := [jI 0]) (st := []) c297_108 cl_133 kl303 rfl (Nat.le_of_ble_eq_true rfl) mx303 (Nat.le_refl _) (H.2.1 h1)))))) (fun h2 => (x_aldn c297_71 rfl (x_gfr c297_72 k_133_50 (x_ild c297_75 rfl (x_aldn c297_77 rfl (x_gfr c297_78 k_133_50 (x_ild c297_81 rfl (x_iald c297_83 a_158 (H.2.2 h2).1 (by decide) (x_ci c297_84 (x_aldn c297_85 rfl (x_gfr c297_86 k_133_46 (x_aldn c297_89 rfl (x_gfr c297_90 k_133_49 (x_ild c297_93 rfl (x_iald c297_95 a_157 (H.2.2 h2).2.1 (by decide) (x_iald c297_96 a_155 (H.2.2 h2).2.2.1 (by decide) (x_ishl c297_97 (x_ior c297_98 (x_iast c297_99 a_158 (H.2.2 h2).2.2.2.1 (by decide) (x_inc (l' := [some (jR 133), some (jI v1), some (jI v2), none, some (jI (v4 + 1))]) c297_100 rfl rfl (x_goto c297_103 (wp_wk (l' := [some (jR 133), some (jI v1), some (jI v2), none, some (jI (v4 + 1))]) ⟨rfl, ⟨rfl, ⟨rfl, ⟨rfl, trivial⟩⟩⟩⟩ (H.2.2 h2).2.2.2.2))))))))))))))))))))))))))
theorem s297_111 {kc : List va_E} {d : Nat} {v1 v2 u0 : Int} {M : fx_M} {Q : Option fx_V → fx_M → Prop} (H : wp kc (d + 1) 297 35 [some (jR 133), some (jI v1), some (jI v2), some (jI u0), none] [] M Q) : wp kc (d + 1) 297 111 [some (jR 133), some (jI v1), some (jI v2), none, none] [jI u0] M Q :=
  (x_istn (l' := [some (jR 133), some (jI v1), some (jI v2), some (jI u0), none]) c297_111 rfl (x_goto c297_112 (wp_wk (l' := [some (jR 133), some (jI v1), some (jI v2), some (jI u0), none]) ⟨rfl, ⟨rfl, ⟨rfl, ⟨rfl, trivial⟩⟩⟩⟩ H)))
theorem s297 {kc : List va_E} {d : Nat} {x1 x2 : Int} {M : fx_M} {Q : Option fx_V → fx_M → Prop} (H : wc kc d 298 [jR 133, jI x1, jI x2] M (fun v M1 => wp kc (d + 1) 297 6 [some (jR 133), some (jI x1), some (jI x2), none, none] (v.toList ++ []) M1 Q)) : wc kc (d + 1) 297 [jR 133, jI x1, jI x2] M Q :=
  wc_of (wp_wk (l' := [some (jR 133), some (jI x1), some (jI x2), none, none]) ⟨rfl, ⟨rfl, ⟨rfl, trivial⟩⟩⟩ (s297_0 H))

/- PuzzleHouseModel.join(II)V -/
theorem c298_0 : fx_op 298 0 = some (.aload_n 0, 1, 0) := by decide +kernel
theorem c298_1 : fx_ci 298 1 = some (0, 2) := by decide +kernel
theorem c298_2 : fx_pf 298 2 = some (12, 48, 0, 5) := by decide +kernel
theorem c298_5 : fx_ci 298 5 = some (0, 6) := by decide +kernel
theorem c298_6 : fx_op 298 6 = some (.istore_n 3, 7, 6) := by decide +kernel
theorem c298_7 : fx_op 298 7 = some (.iload_n 3, 8, 7) := by decide +kernel
theorem c298_8 : fx_op 298 8 = some (.aload_n 0, 9, 8) := by decide +kernel
theorem c298_9 : fx_gf 298 9 = some (12, 43, 12) := by decide +kernel
theorem c298_12 : fx_op 298 12 = some (.iload_n 1, 13, 12) := by decide +kernel
theorem c298_14 : fx_op 298 14 = some (.if_icmp .ge 38, 17, 52) := by decide +kernel
theorem c298_17 : fx_op 298 17 = some (.aload_n 0, 18, 17) := by decide +kernel
theorem c298_18 : fx_gf 298 18 = some (12, 49, 21) := by decide +kernel
theorem c298_21 : fx_op 298 21 = some (.aload_n 0, 22, 21) := by decide +kernel
theorem c298_22 : fx_gf 298 22 = some (12, 48, 25) := by decide +kernel
theorem c298_25 : fx_op 298 25 = some (.aload_n 0, 26, 25) := by decide +kernel
theorem c298_26 : fx_gf 298 26 = some (12, 44, 29) := by decide +kernel
theorem c298_29 : fx_ci 298 29 = some (4, 30) := by decide +kernel
theorem c298_30 : fx_op 298 30 = some (.iload_n 1, 31, 30) := by decide +kernel
theorem c298_31 : fx_op 298 31 = some (.imul, 32, 31) := by decide +kernel
theorem c298_32 : fx_op 298 32 = some (.iload_n 3, 33, 32) := by decide +kernel
theorem c298_33 : fx_op 298 33 = some (.iadd, 34, 33) := by decide +kernel
theorem c298_34 : fx_op 298 34 = some (.iaload, 35, 34) := by decide +kernel
theorem c298_52 : fx_ci 298 52 = some (0, 53) := by decide +kernel
theorem c298_53 : fx_op 298 53 = some (.istore_n 3, 54, 53) := by decide +kernel
theorem c298_36 : fx_op 298 36 = some (.aload_n 0, 37, 36) := by decide +kernel
theorem c298_37 : fx_op 298 37 = some (.dup, 38, 37) := by decide +kernel
theorem c298_38 : fx_gf 298 38 = some (12, 48, 41) := by decide +kernel
theorem c298_41 : fx_ci 298 41 = some (1, 42) := by decide +kernel
theorem c298_42 : fx_op 298 42 = some (.iadd, 43, 42) := by decide +kernel
theorem c298_43 : fx_pf 298 43 = some (12, 48, 0, 46) := by decide +kernel
theorem c298_46 : fx_op 298 46 = some (.iinc 3 1, 49, 46) := by decide +kernel
theorem c298_13 : fx_op 298 13 = some (.iaload, 14, 13) := by decide +kernel
theorem c298_35 : fx_op 298 35 = some (.iastore, 36, 35) := by decide +kernel
theorem c298_49 : fx_op 298 49 = some (.goto (-42), 52, 7) := by decide +kernel
theorem c298_54 : fx_op 298 54 = some (.iload_n 2, 55, 54) := by decide +kernel
theorem c298_55 : fx_op 298 55 = some (.ifCond .lt 68, 58, 123) := by decide +kernel
theorem c298_58 : fx_op 298 58 = some (.iload_n 3, 59, 58) := by decide +kernel
theorem c298_59 : fx_op 298 59 = some (.aload_n 0, 60, 59) := by decide +kernel
theorem c298_60 : fx_gf 298 60 = some (12, 43, 63) := by decide +kernel
theorem c298_63 : fx_op 298 63 = some (.iload_n 2, 64, 63) := by decide +kernel
theorem c298_64 : fx_op 298 64 = some (.iaload, 65, 64) := by decide +kernel
theorem c298_65 : fx_op 298 65 = some (.if_icmp .ge 58, 68, 123) := by decide +kernel
theorem c298_68 : fx_op 298 68 = some (.aload_n 0, 69, 68) := by decide +kernel
theorem c298_69 : fx_op 298 69 = some (.aload_n 0, 70, 69) := by decide +kernel
theorem c298_70 : fx_gf 298 70 = some (12, 44, 73) := by decide +kernel
theorem c298_73 : fx_ci 298 73 = some (4, 74) := by decide +kernel
theorem c298_74 : fx_op 298 74 = some (.iload_n 2, 75, 74) := by decide +kernel
theorem c298_75 : fx_op 298 75 = some (.imul, 76, 75) := by decide +kernel
theorem c298_76 : fx_op 298 76 = some (.iload_n 3, 77, 76) := by decide +kernel
theorem c298_77 : fx_op 298 77 = some (.iadd, 78, 77) := by decide +kernel
theorem c298_78 : fx_op 298 78 = some (.iaload, 79, 78) := by decide +kernel
theorem c298_123 : fx_op 298 123 = some (.return_, 124, 123) := by decide +kernel
theorem c298_79 : fx_ca 298 79 = some (299, 2, 2, 82) := by decide +kernel
theorem c298_82 : fx_op 298 82 = some (.ifCond .eq 6, 85, 88) := by decide +kernel
theorem c298_88 : fx_op 298 88 = some (.aload_n 0, 89, 88) := by decide +kernel
theorem c298_89 : fx_gf 298 89 = some (12, 49, 92) := by decide +kernel
theorem c298_92 : fx_op 298 92 = some (.aload_n 0, 93, 92) := by decide +kernel
theorem c298_93 : fx_gf 298 93 = some (12, 48, 96) := by decide +kernel
theorem c298_96 : fx_op 298 96 = some (.aload_n 0, 97, 96) := by decide +kernel
theorem c298_97 : fx_gf 298 97 = some (12, 44, 100) := by decide +kernel
theorem c298_100 : fx_ci 298 100 = some (4, 101) := by decide +kernel
theorem c298_101 : fx_op 298 101 = some (.iload_n 2, 102, 101) := by decide +kernel
theorem c298_102 : fx_op 298 102 = some (.imul, 103, 102) := by decide +kernel
theorem c298_103 : fx_op 298 103 = some (.iload_n 3, 104, 103) := by decide +kernel
theorem c298_104 : fx_op 298 104 = some (.iadd, 105, 104) := by decide +kernel
theorem c298_105 : fx_op 298 105 = some (.iaload, 106, 105) := by decide +kernel
theorem c298_107 : fx_op 298 107 = some (.aload_n 0, 108, 107) := by decide +kernel
theorem c298_108 : fx_op 298 108 = some (.dup, 109, 108) := by decide +kernel
theorem c298_109 : fx_gf 298 109 = some (12, 48, 112) := by decide +kernel
theorem c298_112 : fx_ci 298 112 = some (1, 113) := by decide +kernel
theorem c298_113 : fx_op 298 113 = some (.iadd, 114, 113) := by decide +kernel
theorem c298_114 : fx_pf 298 114 = some (12, 48, 0, 117) := by decide +kernel
theorem c298_117 : fx_op 298 117 = some (.iinc 3 1, 120, 117) := by decide +kernel
theorem c298_106 : fx_op 298 106 = some (.iastore, 107, 106) := by decide +kernel
theorem c298_120 : fx_op 298 120 = some (.goto (-66), 123, 54) := by decide +kernel
theorem c298_85 : fx_op 298 85 = some (.goto 32, 88, 117) := by decide +kernel
theorem s298_0 {kc : List va_E} {d : Nat} {x1 x2 : Int} {M : fx_M} {Q : Option fx_V → fx_M → Prop} (H : wp kc (d + 1) 298 7 [some (jR 133), some (jI x1), some (jI x2), some (jI 0)] [] (fx_up M 133 48 0) Q) : wp kc (d + 1) 298 0 [some (jR 133), some (jI x1), some (jI x2), none] [] M Q :=
  (x_aldn c298_0 rfl (x_ci c298_1 (x_pfi c298_2 k_133_48 (x_ci c298_5 (x_istn (l' := [some (jR 133), some (jI x1), some (jI x2), some (jI 0)]) c298_6 rfl (wp_wk (l' := [some (jR 133), some (jI x1), some (jI x2), some (jI 0)]) ⟨rfl, ⟨rfl, ⟨rfl, ⟨rfl, trivial⟩⟩⟩⟩ H))))))
theorem s298_7 {kc : List va_E} {d : Nat} {v1 v2 v3 : Int} {M : fx_M} {Q : Option fx_V → fx_M → Prop} (H : (((0 : Int) ≤ v1 ∧ v1 < 120)) ∧ ((fx_in32 v3) ∧ (fx_in32 (M 152 v1))) ∧ (M 152 v1 ≤ v3 → wp kc (d + 1) 298 54 [some (jR 133), none, some (jI v2), some (jI 0)] [] M Q) ∧ (v3 < M 152 v1 → (((0 : Int) ≤ (4 * v1) + v3 ∧ (4 * v1) + v3 < 480)) ∧ (((0 : Int) ≤ M 133 48 ∧ M 133 48 < 8)) ∧ wp kc (d + 1) 298 7 [some (jR 133), some (jI v1), some (jI v2), some (jI (v3 + 1))] [] (fx_up (fx_up M 157 (M 133 48) (M 153 ((4 * v1) + v3))) 133 48 ((M 133 48) + 1)) Q)) : wp kc (d + 1) 298 7 [some (jR 133), some (jI v1), some (jI v2), some (jI v3)] [] M Q :=
  (x_ildn c298_7 rfl (x_aldn c298_8 rfl (x_gfr c298_9 k_133_43 (x_ildn c298_12 rfl (x_iald c298_13 a_152 H.1 (by decide) (x_cge c298_14 H.2.1.1 H.2.1.2 (fun h1 => (x_ci c298_52 (x_istn (l' := [some (jR 133), some (jI v1), some (jI v2), some (jI 0)]) c298_53 rfl (wp_wk (l' := [some (jR 133), none, some (jI v2), some (jI 0)]) ⟨rfl, ⟨rfl, ⟨rfl, trivial⟩⟩⟩ (H.2.2.1 h1))))) (fun h2 => (x_aldn c298_17 rfl (x_gfr c298_18 k_133_49 (x_aldn c298_21 rfl (x_gfi c298_22 k_133_48 (x_aldn c298_25 rfl (x_gfr c298_26 k_133_44 (x_ci c298_29 (x_ildn c298_30 rfl (x_imul c298_31 (x_ildn c298_32 rfl (x_iadd c298_33 (x_iald c298_34 a_153 (H.2.2.2 h2).1 (by decide) (x_iast c298_35 a_157 (H.2.2.2 h2).2.1 (by decide) (x_aldn c298_36 rfl (x_dupr c298_37 (x_gfi c298_38 k_133_48 (wp_vI (fx_upA (by decide)) (x_ci c298_41 (x_iadd c298_42 (x_pfi c298_43 k_133_48 (x_inc (l' := [some (jR 133), some (jI v1), some (jI v2), some (jI (v3 + 1))]) c298_46 rfl rfl (x_goto c298_49 (wp_wk (l' := [some (jR 133), some (jI v1), some (jI v2), some (jI (v3 + 1))]) ⟨rfl, ⟨rfl, ⟨rfl, ⟨rfl, trivial⟩⟩⟩⟩ (H.2.2.2 h2).2.2))))))))))))))))))))))))))))))
theorem s298_54 {kc : List va_E} {d : Nat} {v2 v3 : Int} {M : fx_M} {Q : Option fx_V → fx_M → Prop} (H : ((fx_in32 v2)) ∧ (v2 < 0 → Q none M) ∧ (0 ≤ v2 → (((0 : Int) ≤ v2 ∧ v2 < 120)) ∧ ((fx_in32 v3) ∧ (fx_in32 (M 152 v2))) ∧ (M 152 v2 ≤ v3 → Q none M) ∧ (v3 < M 152 v2 → (((0 : Int) ≤ (4 * v2) + v3 ∧ (4 * v2) + v3 < 480)) ∧ wc kc d 299 [jR 133, jI (M 153 ((4 * v2) + v3))] M (fun v M1 => wp kc (d + 1) 298 82 [some (jR 133), none, some (jI v2), some (jI v3)] (v.toList ++ []) M1 Q)))) : wp kc (d + 1) 298 54 [some (jR 133), none, some (jI v2), some (jI v3)] [] M Q :=
  (x_ildn c298_54 rfl (x_zlt c298_55 H.1 (fun h3 => (x_vr c298_123 r298 (H.2.1 h3))) (fun h4 => (x_ildn c298_58 rfl (x_aldn c298_59 rfl (x_gfr c298_60 k_133_43 (x_ildn c298_63 rfl (x_iald c298_64 a_152 (H.2.2 h4).1 (by decide) (x_cge c298_65 (H.2.2 h4).2.1.1 (H.2.2 h4).2.1.2 (fun h1 => (x_vr c298_123 r298 ((H.2.2 h4).2.2.1 h1))) (fun h2 => (x_aldn c298_68 rfl (x_aldn c298_69 rfl (x_gfr c298_70 k_133_44 (x_ci c298_73 (x_ildn c298_74 rfl (x_imul c298_75 (x_ildn c298_76 rfl (x_iadd c298_77 (x_iald c298_78 a_153 ((H.2.2 h4).2.2.2 h2).1 (by decide) (wp_wk (l' := [some (jR 133), none, some (jI v2), some (jI v3)]) ⟨rfl, ⟨rfl, ⟨rfl, trivial⟩⟩⟩ (x_cv (As := [jI (M 153 ((4 * v2) + v3))]) (st := []) c298_79 cl_133 kl299 rfl (Nat.le_of_ble_eq_true rfl) mx299 (Nat.le_refl _) ((H.2.2 h4).2.2.2 h2).2)))))))))))))))))))))
theorem s298_82 {kc : List va_E} {d : Nat} {v2 v3 u0 : Int} {M : fx_M} {Q : Option fx_V → fx_M → Prop} (H : ((fx_in32 u0)) ∧ (u0 = 0 → (((0 : Int) ≤ (4 * v2) + v3 ∧ (4 * v2) + v3 < 480)) ∧ (((0 : Int) ≤ M 133 48 ∧ M 133 48 < 8)) ∧ wp kc (d + 1) 298 54 [some (jR 133), none, some (jI v2), some (jI (v3 + 1))] [] (fx_up (fx_up M 157 (M 133 48) (M 153 ((4 * v2) + v3))) 133 48 ((M 133 48) + 1)) Q) ∧ (u0 ≠ 0 → wp kc (d + 1) 298 54 [some (jR 133), none, some (jI v2), some (jI (v3 + 1))] [] M Q)) : wp kc (d + 1) 298 82 [some (jR 133), none, some (jI v2), some (jI v3)] [jI u0] M Q :=
  (x_zeq c298_82 H.1 (fun h1 => (x_aldn c298_88 rfl (x_gfr c298_89 k_133_49 (x_aldn c298_92 rfl (x_gfi c298_93 k_133_48 (x_aldn c298_96 rfl (x_gfr c298_97 k_133_44 (x_ci c298_100 (x_ildn c298_101 rfl (x_imul c298_102 (x_ildn c298_103 rfl (x_iadd c298_104 (x_iald c298_105 a_153 (H.2.1 h1).1 (by decide) (x_iast c298_106 a_157 (H.2.1 h1).2.1 (by decide) (x_aldn c298_107 rfl (x_dupr c298_108 (x_gfi c298_109 k_133_48 (wp_vI (fx_upA (by decide)) (x_ci c298_112 (x_iadd c298_113 (x_pfi c298_114 k_133_48 (x_inc (l' := [some (jR 133), none, some (jI v2), some (jI (v3 + 1))]) c298_117 rfl rfl (x_goto c298_120 (wp_wk (l' := [some (jR 133), none, some (jI v2), some (jI (v3 + 1))]) ⟨rfl, ⟨rfl, ⟨rfl, trivial⟩⟩⟩ (H.2.1 h1).2.2)))))))))))))))))))))))) (fun h2 => (x_goto c298_85 (x_inc (l' := [some (jR 133), none, some (jI v2), some (jI (v3 + 1))]) c298_117 rfl rfl (x_goto c298_120 (wp_wk (l' := [some (jR 133), none, some (jI v2), some (jI (v3 + 1))]) ⟨rfl, ⟨rfl, ⟨rfl, trivial⟩⟩⟩ (H.2.2 h2)))))))
theorem s298 {kc : List va_E} {d : Nat} {x1 x2 : Int} {M : fx_M} {Q : Option fx_V → fx_M → Prop} (H : wp kc (d + 1) 298 7 [some (jR 133), some (jI x1), some (jI x2), some (jI 0)] [] (fx_up M 133 48 0) Q) : wc kc (d + 1) 298 [jR 133, jI x1, jI x2] M Q :=
  wc_of (wp_wk (l' := [some (jR 133), some (jI x1), some (jI x2), none]) ⟨rfl, ⟨rfl, ⟨rfl, trivial⟩⟩⟩ (s298_0 H))

/- PuzzleHouseModel.isJoint(I)Z -/
theorem c299_0 : fx_ci 299 0 = some (0, 1) := by decide +kernel
theorem c299_1 : fx_op 299 1 = some (.istore_n 2, 2, 1) := by decide +kernel
theorem c299_2 : fx_ci 299 2 = some (0, 3) := by decide +kernel
theorem c299_3 : fx_op 299 3 = some (.istore_n 3, 4, 3) := by decide +kernel
theorem c299_4 : fx_op 299 4 = some (.iload_n 3, 5, 4) := by decide +kernel
theorem c299_5 : fx_op 299 5 = some (.aload_n 0, 6, 5) := by decide +kernel
theorem c299_6 : fx_gf 299 6 = some (12, 48, 9) := by decide +kernel
theorem c299_9 : fx_op 299 9 = some (.if_icmp .ge 29, 12, 38) := by decide +kernel
theorem c299_12 : fx_op 299 12 = some (.iload_n 2, 13, 12) := by decide +kernel
theorem c299_13 : fx_op 299 13 = some (.ifCond .ne 13, 16, 26) := by decide +kernel
theorem c299_26 : fx_ci 299 26 = some (1, 27) := by decide +kernel
theorem c299_31 : fx_op 299 31 = some (.istore_n 2, 32, 31) := by decide +kernel
theorem c299_32 : fx_op 299 32 = some (.iinc 3 1, 35, 32) := by decide +kernel
theorem c299_38 : fx_op 299 38 = some (.iload_n 2, 39, 38) := by decide +kernel
theorem c299_27 : fx_op 299 27 = some (.goto 4, 30, 31) := by decide +kernel
theorem c299_16 : fx_op 299 16 = some (.aload_n 0, 17, 16) := by decide +kernel
theorem c299_17 : fx_gf 299 17 = some (12, 49, 20) := by decide +kernel
theorem c299_20 : fx_op 299 20 = some (.iload_n 3, 21, 20) := by decide +kernel
theorem c299_21 : fx_op 299 21 = some (.iaload, 22, 21) := by decide +kernel
theorem c299_22 : fx_op 299 22 = some (.iload_n 1, 23, 22) := by decide +kernel
theorem c299_23 : fx_op 299 23 = some (.if_icmp .ne 7, 26, 30) := by decide +kernel
theorem c299_30 : fx_ci 299 30 = some (0, 31) := by decide +kernel
theorem c299_39 : fx_op 299 39 = some (.ireturn, 40, 39) := by decide +kernel
theorem c299_35 : fx_op 299 35 = some (.goto (-31), 38, 4) := by decide +kernel
theorem s299_0 {kc : List va_E} {d : Nat} {x1 : Int} {M : fx_M} {Q : Option fx_V → fx_M → Prop} (H : wp kc (d + 1) 299 4 [some (jR 133), some (jI x1), some (jI 0), some (jI 0)] [] M Q) : wp kc (d + 1) 299 0 [some (jR 133), some (jI x1), none, none] [] M Q :=
  (x_ci c299_0 (x_istn (l' := [some (jR 133), some (jI x1), some (jI 0), none]) c299_1 rfl (x_ci c299_2 (x_istn (l' := [some (jR 133), some (jI x1), some (jI 0), some (jI 0)]) c299_3 rfl (wp_wk (l' := [some (jR 133), some (jI x1), some (jI 0), some (jI 0)]) ⟨rfl, ⟨rfl, ⟨rfl, ⟨rfl, trivial⟩⟩⟩⟩ H)))))
theorem s299_4 {kc : List va_E} {d : Nat} {v1 v2 v3 : Int} {M : fx_M} {Q : Option fx_V → fx_M → Prop} (H : ((fx_in32 v3) ∧ (fx_in32 (M 133 48))) ∧ (M 133 48 ≤ v3 → ((0 : Int) ≤ v2 ∧ v2 ≤ 1) ∧ Q (some (jI v2)) M) ∧ (v3 < M 133 48 → ((fx_in32 v2)) ∧ (v2 = 0 → ((((0 : Int) ≤ v3 ∧ v3 < 8)))) ∧ (v2 = 0 → (fx_in32 (M 157 v3))) ∧ (v2 = 0 → (fx_in32 v1)) ∧ wp kc (d + 1) 299 4 [some (jR 133), some (jI v1), some (jI (if v2 = 0 then ((if M 157 v3 = v1 then (1 : Int) else 0) : Int) else 1)), some (jI (v3 + 1))] [] M Q)) : wp kc (d + 1) 299 4 [some (jR 133), some (jI v1), some (jI v2), some (jI v3)] [] M Q :=
  (x_ildn c299_4 rfl (x_aldn c299_5 rfl (x_gfi c299_6 k_133_48 (x_cge c299_9 H.1.1 H.1.2 (fun h1 => (x_ildn c299_38 rfl (x_zrt c299_39 r299 (H.2.1 h1).1 (H.2.1 h1).2))) (fun h2 => (x_ildn c299_12 rfl (have K : wp kc (d + 1) 299 31 [some (jR 133), some (jI v1), none, some (jI v3)] [jI (if v2 = 0 then ((if M 157 v3 = v1 then (1 : Int) else 0) : Int) else 1)] M Q := (x_istn (l' := [some (jR 133), some (jI v1), some (jI (if v2 = 0 then ((if M 157 v3 = v1 then (1 : Int) else 0) : Int) else 1)), some (jI v3)]) c299_31 rfl (x_inc (l' := [some (jR 133), some (jI v1), some (jI (if v2 = 0 then ((if M 157 v3 = v1 then (1 : Int) else 0) : Int) else 1)), some (jI (v3 + 1))]) c299_32 rfl rfl (x_goto c299_35 (wp_wk (l' := [some (jR 133), some (jI v1), some (jI (if v2 = 0 then ((if M 157 v3 = v1 then (1 : Int) else 0) : Int) else 1)), some (jI (v3 + 1))]) ⟨rfl, ⟨rfl, ⟨rfl, ⟨rfl, trivial⟩⟩⟩⟩ (H.2.2 h2).2.2.2.2)))); (x_zne c299_13 (H.2.2 h2).1 (fun (h3 : v2 ≠ 0) => (x_ci c299_26 (x_goto c299_27 (wp_wk (l' := [some (jR 133), some (jI v1), none, some (jI v3)]) ⟨rfl, ⟨rfl, ⟨rfl, trivial⟩⟩⟩ (by have K := K; first | (simp only [if_neg h3] at K ⊢; exact K) | (exfalso; omega)))))) (fun (h4 : v2 = 0) => (x_aldn c299_16 rfl (x_gfr c299_17 k_133_49 (x_ildn c299_20 rfl (x_iald c299_21 a_157 ((H.2.2 h2).2.1 h4) (by decide) (x_ildn c299_22 rfl (x_cne c299_23 ((H.2.2 h2).2.2.1 h4) ((H.2.2 h2).2.2.2.1 h4) (fun (h5 : M 157 v3 ≠ v1) => (x_ci c299_30 (wp_wk (l' := [some (jR 133), some (jI v1), none, some (jI v3)]) ⟨rfl, ⟨rfl, ⟨rfl, trivial⟩⟩⟩ (by have K := K; first | (simp only [if_pos h4, if_neg h5] at K ⊢; exact K) | (exfalso; omega))))) (fun (h6 : M 157 v3 = v1) => (x_ci c299_26 (x_goto c299_27 (wp_wk (l' := [some (jR 133), some (jI v1), none, some (jI v3)]) ⟨rfl, ⟨rfl, ⟨rfl, trivial⟩⟩⟩ (by have K := K; first | (simp only [if_pos h4, if_pos h6] at K ⊢; exact K) | (exfalso; omega)))))))))))))))))))))
theorem s299 {kc : List va_E} {d : Nat} {x1 : Int} {M : fx_M} {Q : Option fx_V → fx_M → Prop} (H : wp kc (d + 1) 299 4 [some (jR 133), some (jI x1), some (jI 0), some (jI 0)] [] M Q) : wc kc (d + 1) 299 [jR 133, jI x1] M Q :=
  wc_of (wp_wk (l' := [some (jR 133), some (jI x1), none, none]) ⟨rfl, ⟨rfl, trivial⟩⟩ (s299_0 H))

/- PuzzleHouseModel.firstWay(Z)Z -/
theorem c300_0 : fx_ci 300 0 = some (0, 1) := by decide +kernel
theorem c300_1 : fx_op 300 1 = some (.istore_n 2, 2, 1) := by decide +kernel
theorem c300_2 : fx_op 300 2 = some (.iload_n 2, 3, 2) := by decide +kernel
theorem c300_3 : fx_op 300 3 = some (.aload_n 0, 4, 3) := by decide +kernel
theorem c300_4 : fx_gf 300 4 = some (12, 48, 7) := by decide +kernel
theorem c300_7 : fx_op 300 7 = some (.if_icmp .ge 40, 10, 47) := by decide +kernel
theorem c300_47 : fx_ci 300 47 = some (1, 48) := by decide +kernel
theorem c300_10 : fx_op 300 10 = some (.aload_n 0, 11, 10) := by decide +kernel
theorem c300_11 : fx_op 300 11 = some (.iload_n 2, 12, 11) := by decide +kernel
theorem c300_12 : fx_op 300 12 = some (.iload_n 1, 13, 12) := by decide +kernel
theorem c300_48 : fx_op 300 48 = some (.ireturn, 49, 48) := by decide +kernel
theorem c300_13 : fx_ca 300 13 = some (301, 3, 2, 16) := by decide +kernel
theorem c300_16 : fx_op 300 16 = some (.ifCond .ne 5, 19, 21) := by decide +kernel
theorem c300_21 : fx_op 300 21 = some (.aload_n 0, 22, 21) := by decide +kernel
theorem c300_22 : fx_gf 300 22 = some (12, 46, 25) := by decide +kernel
theorem c300_25 : fx_op 300 25 = some (.aload_n 0, 26, 25) := by decide +kernel
theorem c300_26 : fx_gf 300 26 = some (12, 49, 29) := by decide +kernel
theorem c300_29 : fx_op 300 29 = some (.iload_n 2, 30, 29) := by decide +kernel
theorem c300_31 : fx_op 300 31 = some (.aload_n 0, 32, 31) := by decide +kernel
theorem c300_32 : fx_op 300 32 = some (.iload_n 2, 33, 32) := by decide +kernel
theorem c300_33 : fx_op 300 33 = some (.iload_n 1, 34, 33) := by decide +kernel
theorem c300_19 : fx_ci 300 19 = some (0, 20) := by decide +kernel
theorem c300_30 : fx_op 300 30 = some (.iaload, 31, 30) := by decide +kernel
theorem c300_34 : fx_ca 300 34 = some (301, 3, 2, 37) := by decide +kernel
theorem c300_20 : fx_op 300 20 = some (.ireturn, 21, 20) := by decide +kernel
theorem c300_37 : fx_ca 300 37 = some (302, 1, 0, 40) := by decide +kernel
theorem c300_41 : fx_op 300 41 = some (.iinc 2 1, 44, 41) := by decide +kernel
theorem c300_40 : fx_op 300 40 = some (.iastore, 41, 40) := by decide +kernel
theorem c300_44 : fx_op 300 44 = some (.goto (-42), 47, 2) := by decide +kernel
theorem s300_0 {kc : List va_E} {d : Nat} {x1 : Int} {M : fx_M} {Q : Option fx_V → fx_M → Prop} (H : wp kc (d + 1) 300 2 [some (jR 133), some (jI x1), some (jI 0)] [] M Q) : wp kc (d + 1) 300 0 [some (jR 133), some (jI x1), none] [] M Q :=
  (x_ci c300_0 (x_istn (l' := [some (jR 133), some (jI x1), some (jI 0)]) c300_1 rfl (wp_wk (l' := [some (jR 133), some (jI x1), some (jI 0)]) ⟨rfl, ⟨rfl, ⟨rfl, trivial⟩⟩⟩ H)))
theorem s300_2 {kc : List va_E} {d : Nat} {v1 v2 : Int} {M : fx_M} {Q : Option fx_V → fx_M → Prop} (H : ((fx_in32 v2) ∧ (fx_in32 (M 133 48))) ∧ (M 133 48 ≤ v2 → Q (some (jI 1)) M) ∧ (v2 < M 133 48 → wc kc d 301 [jR 133, jI v2, jI v1] M (fun v M1 => wp kc (d + 1) 300 16 [some (jR 133), some (jI v1), some (jI v2)] (v.toList ++ []) M1 Q))) : wp kc (d + 1) 300 2 [some (jR 133), some (jI v1), some (jI v2)] [] M Q :=
  (x_ildn c300_2 rfl (x_aldn c300_3 rfl (x_gfi c300_4 k_133_48 (x_cge c300_7 H.1.1 H.1.2 (fun h1 => (x_ci c300_47 (x_zrt c300_48 r300 (by decide) (H.2.1 h1)))) (fun h2 => (x_aldn c300_10 rfl (x_ildn c300_11 rfl (x_ildn c300_12 rfl (wp_wk (l' := [some (jR 133), some (jI v1), some (jI v2)]) ⟨rfl, ⟨rfl, ⟨rfl, trivial⟩⟩⟩ (x_cv (As := [jI v2, jI v1]) (st := []) c300_13 cl_133 kl301 rfl (Nat.le_of_ble_eq_true rfl) mx301 (Nat.le_refl _) (H.2.2 h2)))))))))))
theorem s300_16 {kc : List va_E} {d : Nat} {v1 v2 u0 : Int} {M : fx_M} {Q : Option fx_V → fx_M → Prop} (H : ((fx_in32 u0)) ∧ (u0 ≠ 0 → (((0 : Int) ≤ v2 ∧ v2 < 8)) ∧ wc kc d 301 [jR 133, jI v2, jI v1] M (fun v M1 => wp kc (d + 1) 300 37 [some (jR 133), some (jI v1), some (jI v2)] (v.toList ++ [jI (M 157 v2), jR 155]) M1 Q)) ∧ (u0 = 0 → Q (some (jI 0)) M)) : wp kc (d + 1) 300 16 [some (jR 133), some (jI v1), some (jI v2)] [jI u0] M Q :=
  (x_zne c300_16 H.1 (fun h1 => (x_aldn c300_21 rfl (x_gfr c300_22 k_133_46 (x_aldn c300_25 rfl (x_gfr c300_26 k_133_49 (x_ildn c300_29 rfl (x_iald c300_30 a_157 (H.2.1 h1).1 (by decide) (x_aldn c300_31 rfl (x_ildn c300_32 rfl (x_ildn c300_33 rfl (wp_wk (l' := [some (jR 133), some (jI v1), some (jI v2)]) ⟨rfl, ⟨rfl, ⟨rfl, trivial⟩⟩⟩ (x_cv (As := [jI v2, jI v1]) (st := [jI (M 157 v2), jR 155]) c300_34 cl_133 kl301 rfl (Nat.le_of_ble_eq_true rfl) mx301 (Nat.le_refl _) (H.2.1 h1).2)))))))))))) (fun h2 => (x_ci c300_19 (x_zrt c300_20 r300 (by decide) (H.2.2 h2)))))
theorem s300_37 {kc : List va_E} {d : Nat} {v1 v2 u0 u1 : Int} {M : fx_M} {Q : Option fx_V → fx_M → Prop} (H : wc kc d 302 [jI u0] M (fun v M1 => wp kc (d + 1) 300 40 [some (jR 133), some (jI v1), some (jI v2)] (v.toList ++ [jI u1, jR 155]) M1 Q)) : wp kc (d + 1) 300 37 [some (jR 133), some (jI v1), some (jI v2)] [jI u0, jI u1, jR 155] M Q :=
  (wp_wk (l' := [some (jR 133), some (jI v1), some (jI v2)]) ⟨rfl, ⟨rfl, ⟨rfl, trivial⟩⟩⟩ (x_cs (As := [jI u0]) (st := [jI u1, jR 155]) c300_37 (by decide) rfl (Nat.le_of_ble_eq_true rfl) mx302 (Nat.le_refl _) H))
theorem s300_40 {kc : List va_E} {d : Nat} {v1 v2 u0 u1 : Int} {M : fx_M} {Q : Option fx_V → fx_M → Prop} (H : (((0 : Int) ≤ u1 ∧ u1 < 9)) ∧ wp kc (d + 1) 300 2 [some (jR 133), some (jI v1), some (jI (v2 + 1))] [] (fx_up M 155 u1 u0) Q) : wp kc (d + 1) 300 40 [some (jR 133), some (jI v1), some (jI v2)] [jI u0, jI u1, jR 155] M Q :=
  (x_iast c300_40 a_155 H.1 (by decide) (x_inc (l' := [some (jR 133), some (jI v1), some (jI (v2 + 1))]) c300_41 rfl rfl (x_goto c300_44 (wp_wk (l' := [some (jR 133), some (jI v1), some (jI (v2 + 1))]) ⟨rfl, ⟨rfl, ⟨rfl, trivial⟩⟩⟩ H.2))))
theorem s300 {kc : List va_E} {d : Nat} {x1 : Int} {M : fx_M} {Q : Option fx_V → fx_M → Prop} (H : wp kc (d + 1) 300 2 [some (jR 133), some (jI x1), some (jI 0)] [] M Q) : wc kc (d + 1) 300 [jR 133, jI x1] M Q :=
  wc_of (wp_wk (l' := [some (jR 133), some (jI x1), none]) ⟨rfl, ⟨rfl, trivial⟩⟩ (s300_0 H))

/- PuzzleHouseModel.bitsOf(IZ)I -/
theorem c301_0 : fx_op 301 0 = some (.iload_n 2, 1, 0) := by decide +kernel
theorem c301_1 : fx_op 301 1 = some (.ifCond .eq 10, 4, 11) := by decide +kernel
theorem c301_11 : fx_op 301 11 = some (.aload_n 0, 12, 11) := by decide +kernel
theorem c301_12 : fx_gf 301 12 = some (12, 47, 15) := by decide +kernel
theorem c301_15 : fx_op 301 15 = some (.aload_n 0, 16, 15) := by decide +kernel
theorem c301_16 : fx_gf 301 16 = some (12, 49, 19) := by decide +kernel
theorem c301_19 : fx_op 301 19 = some (.iload_n 1, 20, 19) := by decide +kernel
theorem c301_20 : fx_op 301 20 = some (.iaload, 21, 20) := by decide +kernel
theorem c301_21 : fx_op 301 21 = some (.iaload, 22, 21) := by decide +kernel
theorem c301_4 : fx_op 301 4 = some (.aload_n 0, 5, 4) := by decide +kernel
theorem c301_22 : fx_op 301 22 = some (.ireturn, 23, 22) := by decide +kernel
theorem c301_5 : fx_ca 301 5 = some (296, 1, 2, 8) := by decide +kernel
theorem c301_8 : fx_op 301 8 = some (.goto 14, 11, 22) := by decide +kernel
theorem s301_0 {kc : List va_E} {d : Nat} {x1 x2 : Int} {M : fx_M} {Q : Option fx_V → fx_M → Prop} (H : ((fx_in32 x2)) ∧ (x2 = 0 → (((0 : Int) ≤ x1 ∧ x1 < 8)) ∧ (((0 : Int) ≤ M 157 x1 ∧ M 157 x1 < 9)) ∧ Q (some (jI (M 156 (M 157 x1)))) M) ∧ (x2 ≠ 0 → wc kc d 296 [jR 133] M (fun v M1 => wp kc (d + 1) 301 8 [none, none, none] (v.toList ++ []) M1 Q))) : wp kc (d + 1) 301 0 [some (jR 133), some (jI x1), some (jI x2)] [] M Q :=
  (x_ildn c301_0 rfl (x_zeq c301_1 H.1 (fun h1 => (x_aldn c301_11 rfl (x_gfr c301_12 k_133_47 (x_aldn c301_15 rfl (x_gfr c301_16 k_133_49 (x_ildn c301_19 rfl (x_iald c301_20 a_157 (H.2.1 h1).1 (by decide) (x_iald c301_21 a_156 (H.2.1 h1).2.1 (by decide) (x_irt c301_22 r301 (H.2.1 h1).2.2))))))))) (fun h2 => (x_aldn c301_4 rfl (wp_wk (l' := [none, none, none]) trivial (x_cv (As := []) (st := []) c301_5 cl_133 kl296 rfl (Nat.le_of_ble_eq_true rfl) mx296 (Nat.le_refl _) (H.2.2 h2)))))))
theorem s301_8 {kc : List va_E} {d : Nat} {u0 : Int} {M : fx_M} {Q : Option fx_V → fx_M → Prop} (H : Q (some (jI u0)) M) : wp kc (d + 1) 301 8 [none, none, none] [jI u0] M Q :=
  (x_goto c301_8 (x_irt c301_22 r301 H))
theorem s301 {kc : List va_E} {d : Nat} {x1 x2 : Int} {M : fx_M} {Q : Option fx_V → fx_M → Prop} (H : ((fx_in32 x2)) ∧ (x2 = 0 → (((0 : Int) ≤ x1 ∧ x1 < 8)) ∧ (((0 : Int) ≤ M 157 x1 ∧ M 157 x1 < 9)) ∧ Q (some (jI (M 156 (M 157 x1)))) M) ∧ (x2 ≠ 0 → wc kc d 296 [jR 133] M (fun v M1 => wp kc (d + 1) 301 8 [none, none, none] (v.toList ++ []) M1 Q))) : wc kc (d + 1) 301 [jR 133, jI x1, jI x2] M Q :=
  wc_of (wp_wk (l' := [some (jR 133), some (jI x1), some (jI x2)]) ⟨rfl, ⟨rfl, ⟨rfl, trivial⟩⟩⟩ (s301_0 H))

/- PuzzleHouseModel.lowest(I)I -/
theorem c302_0 : fx_ci 302 0 = some (0, 1) := by decide +kernel
theorem c302_1 : fx_op 302 1 = some (.istore_n 1, 2, 1) := by decide +kernel
theorem c302_2 : fx_op 302 2 = some (.iload_n 0, 3, 2) := by decide +kernel
theorem c302_3 : fx_op 302 3 = some (.iload_n 1, 4, 3) := by decide +kernel
theorem c302_4 : fx_op 302 4 = some (.ishr, 5, 4) := by decide +kernel
theorem c302_5 : fx_ci 302 5 = some (1, 6) := by decide +kernel
theorem c302_6 : fx_op 302 6 = some (.iand, 7, 6) := by decide +kernel
theorem c302_7 : fx_op 302 7 = some (.ifCond .ne 9, 10, 16) := by decide +kernel
theorem c302_10 : fx_op 302 10 = some (.iinc 1 1, 13, 10) := by decide +kernel
theorem c302_16 : fx_op 302 16 = some (.iload_n 1, 17, 16) := by decide +kernel
theorem c302_17 : fx_op 302 17 = some (.ireturn, 18, 17) := by decide +kernel
theorem c302_13 : fx_op 302 13 = some (.goto (-11), 16, 2) := by decide +kernel
theorem s302_0 {kc : List va_E} {d : Nat} {x0 : Int} {M : fx_M} {Q : Option fx_V → fx_M → Prop} (H : wp kc (d + 1) 302 2 [some (jI x0), some (jI 0)] [] M Q) : wp kc (d + 1) 302 0 [some (jI x0), none] [] M Q :=
  (x_ci c302_0 (x_istn (l' := [some (jI x0), some (jI 0)]) c302_1 rfl (wp_wk (l' := [some (jI x0), some (jI 0)]) ⟨rfl, ⟨rfl, trivial⟩⟩ H)))
theorem s302_2 {kc : List va_E} {d : Nat} {v0 v1 : Int} {M : fx_M} {Q : Option fx_V → fx_M → Prop} (H : ((fx_in32 (fx_and (fx_shr v0 v1) 1))) ∧ (fx_and (fx_shr v0 v1) 1 ≠ 0 → Q (some (jI v1)) M) ∧ (fx_and (fx_shr v0 v1) 1 = 0 → wp kc (d + 1) 302 2 [some (jI v0), some (jI (v1 + 1))] [] M Q)) : wp kc (d + 1) 302 2 [some (jI v0), some (jI v1)] [] M Q :=
  (x_ildn c302_2 rfl (x_ildn c302_3 rfl (x_ishr c302_4 (x_ci c302_5 (x_iand c302_6 (x_zne c302_7 H.1 (fun h1 => (x_ildn c302_16 rfl (x_irt c302_17 r302 (H.2.1 h1)))) (fun h2 => (x_inc (l' := [some (jI v0), some (jI (v1 + 1))]) c302_10 rfl rfl (x_goto c302_13 (wp_wk (l' := [some (jI v0), some (jI (v1 + 1))]) ⟨rfl, ⟨rfl, trivial⟩⟩ (H.2.2 h2)))))))))))
theorem s302 {kc : List va_E} {d : Nat} {x0 : Int} {M : fx_M} {Q : Option fx_V → fx_M → Prop} (H : wp kc (d + 1) 302 2 [some (jI x0), some (jI 0)] [] M Q) : wc kc (d + 1) 302 [jI x0] M Q :=
  wc_of (wp_wk (l' := [some (jI x0), none]) ⟨rfl, trivial⟩ (s302_0 H))

/- PuzzleHouseModel.nextWay(Z)Z -/
theorem c303_0 : fx_op 303 0 = some (.aload_n 0, 1, 0) := by decide +kernel
theorem c303_1 : fx_gf 303 1 = some (12, 48, 4) := by decide +kernel
theorem c303_4 : fx_ci 303 4 = some (1, 5) := by decide +kernel
theorem c303_5 : fx_op 303 5 = some (.isub, 6, 5) := by decide +kernel
theorem c303_6 : fx_op 303 6 = some (.istore_n 2, 7, 6) := by decide +kernel
theorem c303_7 : fx_op 303 7 = some (.iload_n 2, 8, 7) := by decide +kernel
theorem c303_8 : fx_op 303 8 = some (.ifCond .lt 76, 11, 84) := by decide +kernel
theorem c303_84 : fx_ci 303 84 = some (0, 85) := by decide +kernel
theorem c303_11 : fx_op 303 11 = some (.aload_n 0, 12, 11) := by decide +kernel
theorem c303_12 : fx_op 303 12 = some (.iload_n 2, 13, 12) := by decide +kernel
theorem c303_13 : fx_op 303 13 = some (.iload_n 1, 14, 13) := by decide +kernel
theorem c303_85 : fx_op 303 85 = some (.ireturn, 86, 85) := by decide +kernel
theorem c303_14 : fx_ca 303 14 = some (301, 3, 2, 17) := by decide +kernel
theorem c303_17 : fx_op 303 17 = some (.aload_n 0, 18, 17) := by decide +kernel
theorem c303_18 : fx_gf 303 18 = some (12, 46, 21) := by decide +kernel
theorem c303_21 : fx_op 303 21 = some (.aload_n 0, 22, 21) := by decide +kernel
theorem c303_22 : fx_gf 303 22 = some (12, 49, 25) := by decide +kernel
theorem c303_25 : fx_op 303 25 = some (.iload_n 2, 26, 25) := by decide +kernel
theorem c303_28 : fx_ci 303 28 = some (1, 29) := by decide +kernel
theorem c303_29 : fx_op 303 29 = some (.iadd, 30, 29) := by decide +kernel
theorem c303_30 : fx_op 303 30 = some (.ishr, 31, 30) := by decide +kernel
theorem c303_31 : fx_op 303 31 = some (.istore_n 3, 32, 31) := by decide +kernel
theorem c303_32 : fx_op 303 32 = some (.iload_n 3, 33, 32) := by decide +kernel
theorem c303_33 : fx_op 303 33 = some (.ifCond .eq 25, 36, 58) := by decide +kernel
theorem c303_58 : fx_op 303 58 = some (.aload_n 0, 59, 58) := by decide +kernel
theorem c303_59 : fx_gf 303 59 = some (12, 46, 62) := by decide +kernel
theorem c303_62 : fx_op 303 62 = some (.aload_n 0, 63, 62) := by decide +kernel
theorem c303_63 : fx_gf 303 63 = some (12, 49, 66) := by decide +kernel
theorem c303_66 : fx_op 303 66 = some (.iload_n 2, 67, 66) := by decide +kernel
theorem c303_68 : fx_op 303 68 = some (.aload_n 0, 69, 68) := by decide +kernel
theorem c303_69 : fx_op 303 69 = some (.iload_n 2, 70, 69) := by decide +kernel
theorem c303_70 : fx_op 303 70 = some (.iload_n 1, 71, 70) := by decide +kernel
theorem c303_36 : fx_op 303 36 = some (.aload_n 0, 37, 36) := by decide +kernel
theorem c303_37 : fx_gf 303 37 = some (12, 46, 40) := by decide +kernel
theorem c303_40 : fx_op 303 40 = some (.aload_n 0, 41, 40) := by decide +kernel
theorem c303_41 : fx_gf 303 41 = some (12, 49, 44) := by decide +kernel
theorem c303_44 : fx_op 303 44 = some (.iload_n 2, 45, 44) := by decide +kernel
theorem c303_46 : fx_op 303 46 = some (.dup2, 47, 46) := by decide +kernel
theorem c303_48 : fx_ci 303 48 = some (1, 49) := by decide +kernel
theorem c303_49 : fx_op 303 49 = some (.iload_n 3, 50, 49) := by decide +kernel
theorem c303_26 : fx_op 303 26 = some (.iaload, 27, 26) := by decide +kernel
theorem c303_27 : fx_op 303 27 = some (.iaload, 28, 27) := by decide +kernel
theorem c303_67 : fx_op 303 67 = some (.iaload, 68, 67) := by decide +kernel
theorem c303_71 : fx_ca 303 71 = some (301, 3, 2, 74) := by decide +kernel
theorem c303_45 : fx_op 303 45 = some (.iaload, 46, 45) := by decide +kernel
theorem c303_47 : fx_op 303 47 = some (.iaload, 48, 47) := by decide +kernel
theorem c303_50 : fx_ca 303 50 = some (302, 1, 0, 53) := by decide +kernel
theorem c303_74 : fx_ca 303 74 = some (302, 1, 0, 77) := by decide +kernel
theorem c303_53 : fx_op 303 53 = some (.iadd, 54, 53) := by decide +kernel
theorem c303_54 : fx_op 303 54 = some (.iadd, 55, 54) := by decide +kernel
theorem c303_56 : fx_ci 303 56 = some (1, 57) := by decide +kernel
theorem c303_55 : fx_op 303 55 = some (.iastore, 56, 55) := by decide +kernel
theorem c303_57 : fx_op 303 57 = some (.ireturn, 58, 57) := by decide +kernel
theorem c303_78 : fx_op 303 78 = some (.iinc 2 (-1), 81, 78) := by decide +kernel
theorem c303_77 : fx_op 303 77 = some (.iastore, 78, 77) := by decide +kernel
theorem c303_81 : fx_op 303 81 = some (.goto (-74), 84, 7) := by decide +kernel
theorem s303_0 {kc : List va_E} {d : Nat} {x1 : Int} {M : fx_M} {Q : Option fx_V → fx_M → Prop} (H : wp kc (d + 1) 303 7 [some (jR 133), some (jI x1), some (jI ((M 133 48) - 1)), none] [] M Q) : wp kc (d + 1) 303 0 [some (jR 133), some (jI x1), none, none] [] M Q :=
  (x_aldn c303_0 rfl (x_gfi c303_1 k_133_48 (x_ci c303_4 (x_isub c303_5 (x_istn (l' := [some (jR 133), some (jI x1), some (jI ((M 133 48) - 1)), none]) c303_6 rfl (wp_wk (l' := [some (jR 133), some (jI x1), some (jI ((M 133 48) - 1)), none]) ⟨rfl, ⟨rfl, ⟨rfl, trivial⟩⟩⟩ H))))))
theorem s303_7 {kc : List va_E} {d : Nat} {v1 v2 : Int} {M : fx_M} {Q : Option fx_V → fx_M → Prop} (H : ((fx_in32 v2)) ∧ (v2 < 0 → Q (some (jI 0)) M) ∧ (0 ≤ v2 → wc kc d 301 [jR 133, jI v2, jI v1] M (fun v M1 => wp kc (d + 1) 303 17 [some (jR 133), some (jI v1), some (jI v2), none] (v.toList ++ []) M1 Q))) : wp kc (d + 1) 303 7 [some (jR 133), some (jI v1), some (jI v2), none] [] M Q :=
  (x_ildn c303_7 rfl (x_zlt c303_8 H.1 (fun h1 => (x_ci c303_84 (x_zrt c303_85 r303 (by decide) (H.2.1 h1)))) (fun h2 => (x_aldn c303_11 rfl (x_ildn c303_12 rfl (x_ildn c303_13 rfl (wp_wk (l' := [some (jR 133), some (jI v1), some (jI v2), none]) ⟨rfl, ⟨rfl, ⟨rfl, trivial⟩⟩⟩ (x_cv (As := [jI v2, jI v1]) (st := []) c303_14 cl_133 kl301 rfl (Nat.le_of_ble_eq_true rfl) mx301 (Nat.le_refl _) (H.2.2 h2)))))))))
theorem s303_17 {kc : List va_E} {d : Nat} {v1 v2 u0 : Int} {M : fx_M} {Q : Option fx_V → fx_M → Prop} (H : (((0 : Int) ≤ v2 ∧ v2 < 8)) ∧ (((0 : Int) ≤ M 157 v2 ∧ M 157 v2 < 9)) ∧ ((fx_in32 (fx_shr u0 ((M 155 (M 157 v2)) + 1)))) ∧ (fx_shr u0 ((M 155 (M 157 v2)) + 1) = 0 → (((0 : Int) ≤ v2 ∧ v2 < 8)) ∧ wc kc d 301 [jR 133, jI v2, jI v1] M (fun v M1 => wp kc (d + 1) 303 74 [some (jR 133), some (jI v1), some (jI v2), none] (v.toList ++ [jI (M 157 v2), jR 155]) M1 Q)) ∧ (fx_shr u0 ((M 155 (M 157 v2)) + 1) ≠ 0 → (((0 : Int) ≤ v2 ∧ v2 < 8)) ∧ (((0 : Int) ≤ M 157 v2 ∧ M 157 v2 < 9)) ∧ wc kc d 302 [jI (fx_shr u0 ((M 155 (M 157 v2)) + 1))] M (fun v M1 => wp kc (d + 1) 303 53 [none, none, none, none] (v.toList ++ [jI 1, jI (M 155 (M 157 v2)), jI (M 157 v2), jR 155]) M1 Q))) : wp kc (d + 1) 303 17 [some (jR 133), some (jI v1), some (jI v2), none] [jI u0] M Q :=
  (x_aldn c303_17 rfl (x_gfr c303_18 k_133_46 (x_aldn c303_21 rfl (x_gfr c303_22 k_133_49 (x_ildn c303_25 rfl (x_iald c303_26 a_157 H.1 (by decide) (x_iald c303_27 a_155 H.2.1 (by decide) (x_ci c303_28 (x_iadd c303_29 (x_ishr c303_30 (x_istn (l' := [some (jR 133), some (jI v1), some (jI v2), some (jI (fx_shr u0 ((M 155 (M 157 v2)) + 1)))]) c303_31 rfl (x_ildn c303_32 rfl (x_zeq c303_33 H.2.2.1 (fun h1 => (x_aldn c303_58 rfl (x_gfr c303_59 k_133_46 (x_aldn c303_62 rfl (x_gfr c303_63 k_133_49 (x_ildn c303_66 rfl (x_iald c303_67 a_157 (H.2.2.2.1 h1).1 (by decide) (x_aldn c303_68 rfl (x_ildn c303_69 rfl (x_ildn c303_70 rfl (wp_wk (l' := [some (jR 133), some (jI v1), some (jI v2), none]) ⟨rfl, ⟨rfl, ⟨rfl, trivial⟩⟩⟩ (x_cv (As := [jI v2, jI v1]) (st := [jI (M 157 v2), jR 155]) c303_71 cl_133 kl301 rfl (Nat.le_of_ble_eq_true rfl) mx301 (Nat.le_refl _) (H.2.2.2.1 h1).2)))))))))))) (fun h2 => (x_aldn c303_36 rfl (x_gfr c303_37 k_133_46 (x_aldn c303_40 rfl (x_gfr c303_41 k_133_49 (x_ildn c303_44 rfl (x_iald c303_45 a_157 (H.2.2.2.2 h2).1 (by decide) (x_dup2 c303_46 (x_iald c303_47 a_155 (H.2.2.2.2 h2).2.1 (by decide) (x_ci c303_48 (x_ildn c303_49 rfl (wp_wk (l' := [none, none, none, none]) trivial (x_cs (As := [jI (fx_shr u0 ((M 155 (M 157 v2)) + 1))]) (st := [jI 1, jI (M 155 (M 157 v2)), jI (M 157 v2), jR 155]) c303_50 (by decide) rfl (Nat.le_of_ble_eq_true rfl) mx302 (Nat.le_refl _) (H.2.2.2.2 h2).2.2))))))))))))))))))))))))))
theorem s303_53 {kc : List va_E} {d : Nat} {u0 u1 u2 u3 : Int} {M : fx_M} {Q : Option fx_V → fx_M → Prop} (H : (((0 : Int) ≤ u3 ∧ u3 < 9)) ∧ Q (some (jI 1)) (fx_up M 155 u3 (u2 + (u1 + u0)))) : wp kc (d + 1) 303 53 [none, none, none, none] [jI u0, jI u1, jI u2, jI u3, jR 155] M Q :=
  (x_iadd c303_53 (x_iadd c303_54 (x_iast c303_55 a_155 H.1 (by decide) (x_ci c303_56 (x_zrt c303_57 r303 (by decide) H.2)))))
theorem s303_74 {kc : List va_E} {d : Nat} {v1 v2 u0 u1 : Int} {M : fx_M} {Q : Option fx_V → fx_M → Prop} (H : wc kc d 302 [jI u0] M (fun v M1 => wp kc (d + 1) 303 77 [some (jR 133), some (jI v1), some (jI v2), none] (v.toList ++ [jI u1, jR 155]) M1 Q)) : wp kc (d + 1) 303 74 [some (jR 133), some (jI v1), some (jI v2), none] [jI u0, jI u1, jR 155] M Q :=
  (wp_wk (l' := [some (jR 133), some (jI v1), some (jI v2), none]) ⟨rfl, ⟨rfl, ⟨rfl, trivial⟩⟩⟩ (x_cs (As := [jI u0]) (st := [jI u1, jR 155]) c303_74 (by decide) rfl (Nat.le_of_ble_eq_true rfl) mx302 (Nat.le_refl _) H))
theorem s303_77 {kc : List va_E} {d : Nat} {v1 v2 u0 u1 : Int} {M : fx_M} {Q : Option fx_V → fx_M → Prop} (H : (((0 : Int) ≤ u1 ∧ u1 < 9)) ∧ wp kc (d + 1) 303 7 [some (jR 133), some (jI v1), some (jI (v2 + (-1))), none] [] (fx_up M 155 u1 u0) Q) : wp kc (d + 1) 303 77 [some (jR 133), some (jI v1), some (jI v2), none] [jI u0, jI u1, jR 155] M Q :=
  (x_iast c303_77 a_155 H.1 (by decide) (x_inc (l' := [some (jR 133), some (jI v1), some (jI (v2 + (-1))), none]) c303_78 rfl rfl (x_goto c303_81 (wp_wk (l' := [some (jR 133), some (jI v1), some (jI (v2 + (-1))), none]) ⟨rfl, ⟨rfl, ⟨rfl, trivial⟩⟩⟩ H.2))))
theorem s303 {kc : List va_E} {d : Nat} {x1 : Int} {M : fx_M} {Q : Option fx_V → fx_M → Prop} (H : wp kc (d + 1) 303 7 [some (jR 133), some (jI x1), some (jI ((M 133 48) - 1)), none] [] M Q) : wc kc (d + 1) 303 [jR 133, jI x1] M Q :=
  wc_of (wp_wk (l' := [some (jR 133), some (jI x1), none, none]) ⟨rfl, ⟨rfl, trivial⟩⟩ (s303_0 H))

/- PuzzleHouseModel.countOf(I)I -/
theorem c304_0 : fx_ci 304 0 = some (0, 1) := by decide +kernel
theorem c304_1 : fx_op 304 1 = some (.istore_n 1, 2, 1) := by decide +kernel
theorem c304_2 : fx_ci 304 2 = some (0, 3) := by decide +kernel
theorem c304_3 : fx_op 304 3 = some (.istore_n 2, 4, 3) := by decide +kernel
theorem c304_4 : fx_op 304 4 = some (.iload_n 2, 5, 4) := by decide +kernel
theorem c304_5 : fx_ci 304 5 = some (4, 6) := by decide +kernel
theorem c304_6 : fx_op 304 6 = some (.if_icmp .ge 17, 9, 23) := by decide +kernel
theorem c304_9 : fx_op 304 9 = some (.iload_n 1, 10, 9) := by decide +kernel
theorem c304_10 : fx_op 304 10 = some (.iload_n 0, 11, 10) := by decide +kernel
theorem c304_11 : fx_op 304 11 = some (.iload_n 2, 12, 11) := by decide +kernel
theorem c304_12 : fx_op 304 12 = some (.ishr, 13, 12) := by decide +kernel
theorem c304_13 : fx_ci 304 13 = some (1, 14) := by decide +kernel
theorem c304_14 : fx_op 304 14 = some (.iand, 15, 14) := by decide +kernel
theorem c304_15 : fx_op 304 15 = some (.iadd, 16, 15) := by decide +kernel
theorem c304_16 : fx_op 304 16 = some (.istore_n 1, 17, 16) := by decide +kernel
theorem c304_17 : fx_op 304 17 = some (.iinc 2 1, 20, 17) := by decide +kernel
theorem c304_23 : fx_op 304 23 = some (.iload_n 1, 24, 23) := by decide +kernel
theorem c304_24 : fx_op 304 24 = some (.ireturn, 25, 24) := by decide +kernel
theorem c304_20 : fx_op 304 20 = some (.goto (-16), 23, 4) := by decide +kernel
theorem s304_0 {kc : List va_E} {d : Nat} {x0 : Int} {M : fx_M} {Q : Option fx_V → fx_M → Prop} (H : wp kc (d + 1) 304 4 [some (jI x0), some (jI 0), some (jI 0)] [] M Q) : wp kc (d + 1) 304 0 [some (jI x0), none, none] [] M Q :=
  (x_ci c304_0 (x_istn (l' := [some (jI x0), some (jI 0), none]) c304_1 rfl (x_ci c304_2 (x_istn (l' := [some (jI x0), some (jI 0), some (jI 0)]) c304_3 rfl (wp_wk (l' := [some (jI x0), some (jI 0), some (jI 0)]) ⟨rfl, ⟨rfl, ⟨rfl, trivial⟩⟩⟩ H)))))
theorem s304_4 {kc : List va_E} {d : Nat} {v0 v1 v2 : Int} {M : fx_M} {Q : Option fx_V → fx_M → Prop} (H : ((fx_in32 v2)) ∧ (4 ≤ v2 → Q (some (jI v1)) M) ∧ (v2 < 4 → wp kc (d + 1) 304 4 [some (jI v0), some (jI (v1 + (fx_and (fx_shr v0 v2) 1))), some (jI (v2 + 1))] [] M Q)) : wp kc (d + 1) 304 4 [some (jI v0), some (jI v1), some (jI v2)] [] M Q :=
  (x_ildn c304_4 rfl (x_ci c304_5 (x_cge c304_6 H.1 (by decide) (fun h1 => (x_ildn c304_23 rfl (x_irt c304_24 r304 (H.2.1 h1)))) (fun h2 => (x_ildn c304_9 rfl (x_ildn c304_10 rfl (x_ildn c304_11 rfl (x_ishr c304_12 (x_ci c304_13 (x_iand c304_14 (x_iadd c304_15 (x_istn (l' := [some (jI v0), some (jI (v1 + (fx_and (fx_shr v0 v2) 1))), some (jI v2)]) c304_16 rfl (x_inc (l' := [some (jI v0), some (jI (v1 + (fx_and (fx_shr v0 v2) 1))), some (jI (v2 + 1))]) c304_17 rfl rfl (x_goto c304_20 (wp_wk (l' := [some (jI v0), some (jI (v1 + (fx_and (fx_shr v0 v2) 1))), some (jI (v2 + 1))]) ⟨rfl, ⟨rfl, ⟨rfl, trivial⟩⟩⟩ (H.2.2 h2))))))))))))))))
theorem s304 {kc : List va_E} {d : Nat} {x0 : Int} {M : fx_M} {Q : Option fx_V → fx_M → Prop} (H : wp kc (d + 1) 304 4 [some (jI x0), some (jI 0), some (jI 0)] [] M Q) : wc kc (d + 1) 304 [jI x0] M Q :=
  wc_of (wp_wk (l' := [some (jI x0), none, none]) ⟨rfl, trivial⟩ (s304_0 H))
