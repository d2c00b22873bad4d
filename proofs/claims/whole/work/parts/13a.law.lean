/-! THE LAW'S BODY (by gen/emit_law.py): from a relation R (k M) of memories that every call keeps, the law's answer 1. -/
noncomputable abbrev kcs (L : Nat) (xs : Nat → Int32) : List va_E := .inl (0, L, .inl xs) :: xKt
theorem kcs_0 (L : Nat) (xs : Nat → Int32) : (kcs L xs)[1000000 - lx_K]? = some (.inl (0, L, .inl xs)) := by
  have : 1000000 - lx_K = 0 := by decide +kernel
  rw [this]
  rfl
/-- the class's call (kx) and the reference's (km) answer alike; K holds of the memory behind both -/
def lw_call (kc : List va_E) (d kx km : Nat) (as : List fx_V) (M : fx_M) (K : fx_M → Prop) : Prop :=
  wc kc d kx (jR 0 :: as) M (fun v M1 => ∃ r : Int, fx_in32 r ∧ v = some (jI r) ∧ wc kc d km (jR 133 :: as) M1 (fun v2 M2 => v2 = some (jI r) ∧ K M2))
theorem lw_call_mono {kc : List va_E} {d d' kx km : Nat} {as : List fx_V} {M : fx_M} {K K' : fx_M → Prop} (hd : d' ≤ d) (hK : ∀ M2, K M2 → K' M2) (H : lw_call kc d' kx km as M K) : lw_call kc d kx km as M K' :=
  wc_mono hd (fun v M1 h => by
    obtain ⟨r, hr, hv, h⟩ := h
    exact ⟨r, hr, hv, wc_mono hd (fun v2 M2 h2 => ⟨h2.1, hK _ h2.2⟩) h⟩) H
theorem lw_one {kc : List va_E} {d pc : Nat} {l : fx_L} {v : Option fx_V} {M1 : fx_M} {P : Int → Prop} {Q : Option fx_V → fx_M → Prop} (h : ∃ r : Int, fx_in32 r ∧ v = some (jI r) ∧ P r) (K : ∀ r : Int, fx_in32 r → P r → wp kc d 429 pc l [jI r] M1 Q) : wp kc d 429 pc l (v.toList ++ []) M1 Q := by
  obtain ⟨r, hr, rfl, hp⟩ := h
  exact K r hr hp
theorem lw_two {kc : List va_E} {d pc : Nat} {l : fx_L} {v : Option fx_V} {M1 : fx_M} {r : Int} {P : Prop} {Q : Option fx_V → fx_M → Prop} (h : v = some (jI r) ∧ P) (K : P → wp kc d 429 pc l [jI r, jI r] M1 Q) : wp kc d 429 pc l (v.toList ++ [jI r]) M1 Q := by
  obtain ⟨rfl, hp⟩ := h
  exact K hp
theorem lw_in (x : Int32) : fx_in32 x.toInt := by
  have h1 := Int32.toInt_lt x
  have h2 := Int32.le_toInt x
  exact ⟨by omega, by omega⟩
theorem c429_18 : fx_op 429 18 = some (.iload_n 3, 19, 18) := by decide +kernel
theorem c429_19 : fx_op 429 19 = some (.aload_n 0, 20, 19) := by decide +kernel
theorem c429_20 : fx_op 429 20 = some (.arraylength, 21, 20) := by decide +kernel
theorem c429_21 : fx_ci 429 21 = some (6, 23) := by decide +kernel
theorem c429_23 : fx_op 429 23 = some (.isub, 24, 23) := by decide +kernel
theorem c429_24 : fx_op 429 24 = some (.if_icmp .gt 279, 27, 303) := by decide +kernel
theorem c429_27 : fx_op 429 27 = some (.aload_n 0, 28, 27) := by decide +kernel
theorem c429_28 : fx_op 429 28 = some (.iload_n 3, 29, 28) := by decide +kernel
theorem c429_29 : fx_op 429 29 = some (.iaload, 30, 29) := by decide +kernel
theorem c429_30 : fx_ci 429 30 = some (7, 32) := by decide +kernel
theorem c429_32 : fx_op 429 32 = some (.iand, 33, 32) := by decide +kernel
theorem c429_33 : fx_ts 429 33 = some (0, [76, 139, 162, 185, 198, 221, 254], 297) := by decide +kernel
theorem c429_76 : fx_op 429 76 = some (.aload_n 1, 77, 76) := by decide +kernel
theorem c429_77 : fx_op 429 77 = some (.aload_n 0, 78, 77) := by decide +kernel
theorem c429_78 : fx_op 429 78 = some (.iload_n 3, 79, 78) := by decide +kernel
theorem c429_79 : fx_ci 429 79 = some (1, 80) := by decide +kernel
theorem c429_80 : fx_op 429 80 = some (.iadd, 81, 80) := by decide +kernel
theorem c429_81 : fx_op 429 81 = some (.iaload, 82, 81) := by decide +kernel
theorem c429_82 : fx_op 429 82 = some (.aload_n 0, 83, 82) := by decide +kernel
theorem c429_83 : fx_op 429 83 = some (.iload_n 3, 84, 83) := by decide +kernel
theorem c429_84 : fx_ci 429 84 = some (2, 85) := by decide +kernel
theorem c429_85 : fx_op 429 85 = some (.iadd, 86, 85) := by decide +kernel
theorem c429_86 : fx_op 429 86 = some (.iaload, 87, 86) := by decide +kernel
theorem c429_87 : fx_op 429 87 = some (.aload_n 0, 88, 87) := by decide +kernel
theorem c429_88 : fx_op 429 88 = some (.iload_n 3, 89, 88) := by decide +kernel
theorem c429_89 : fx_ci 429 89 = some (3, 90) := by decide +kernel
theorem c429_90 : fx_op 429 90 = some (.iadd, 91, 90) := by decide +kernel
theorem c429_91 : fx_op 429 91 = some (.iaload, 92, 91) := by decide +kernel
theorem c429_92 : fx_op 429 92 = some (.aload_n 0, 93, 92) := by decide +kernel
theorem c429_93 : fx_op 429 93 = some (.iload_n 3, 94, 93) := by decide +kernel
theorem c429_94 : fx_ci 429 94 = some (4, 95) := by decide +kernel
theorem c429_95 : fx_op 429 95 = some (.iadd, 96, 95) := by decide +kernel
theorem c429_96 : fx_op 429 96 = some (.iaload, 97, 96) := by decide +kernel
theorem c429_97 : fx_op 429 97 = some (.aload_n 0, 98, 97) := by decide +kernel
theorem c429_98 : fx_op 429 98 = some (.iload_n 3, 99, 98) := by decide +kernel
theorem c429_99 : fx_ci 429 99 = some (5, 100) := by decide +kernel
theorem c429_100 : fx_op 429 100 = some (.iadd, 101, 100) := by decide +kernel
theorem c429_101 : fx_op 429 101 = some (.iaload, 102, 101) := by decide +kernel
theorem c429_102 : fx_ca 429 102 = some (14, 6, 2, 105) := by decide +kernel
theorem c429_105 : fx_op 429 105 = some (.aload_n 2, 106, 105) := by decide +kernel
theorem c429_106 : fx_op 429 106 = some (.aload_n 0, 107, 106) := by decide +kernel
theorem c429_107 : fx_op 429 107 = some (.iload_n 3, 108, 107) := by decide +kernel
theorem c429_108 : fx_ci 429 108 = some (1, 109) := by decide +kernel
theorem c429_109 : fx_op 429 109 = some (.iadd, 110, 109) := by decide +kernel
theorem c429_110 : fx_op 429 110 = some (.iaload, 111, 110) := by decide +kernel
theorem c429_111 : fx_op 429 111 = some (.aload_n 0, 112, 111) := by decide +kernel
theorem c429_112 : fx_op 429 112 = some (.iload_n 3, 113, 112) := by decide +kernel
theorem c429_113 : fx_ci 429 113 = some (2, 114) := by decide +kernel
theorem c429_114 : fx_op 429 114 = some (.iadd, 115, 114) := by decide +kernel
theorem c429_115 : fx_op 429 115 = some (.iaload, 116, 115) := by decide +kernel
theorem c429_116 : fx_op 429 116 = some (.aload_n 0, 117, 116) := by decide +kernel
theorem c429_117 : fx_op 429 117 = some (.iload_n 3, 118, 117) := by decide +kernel
theorem c429_118 : fx_ci 429 118 = some (3, 119) := by decide +kernel
theorem c429_119 : fx_op 429 119 = some (.iadd, 120, 119) := by decide +kernel
theorem c429_120 : fx_op 429 120 = some (.iaload, 121, 120) := by decide +kernel
theorem c429_121 : fx_op 429 121 = some (.aload_n 0, 122, 121) := by decide +kernel
theorem c429_122 : fx_op 429 122 = some (.iload_n 3, 123, 122) := by decide +kernel
theorem c429_123 : fx_ci 429 123 = some (4, 124) := by decide +kernel
theorem c429_124 : fx_op 429 124 = some (.iadd, 125, 124) := by decide +kernel
theorem c429_125 : fx_op 429 125 = some (.iaload, 126, 125) := by decide +kernel
theorem c429_126 : fx_op 429 126 = some (.aload_n 0, 127, 126) := by decide +kernel
theorem c429_127 : fx_op 429 127 = some (.iload_n 3, 128, 127) := by decide +kernel
theorem c429_128 : fx_ci 429 128 = some (5, 129) := by decide +kernel
theorem c429_129 : fx_op 429 129 = some (.iadd, 130, 129) := by decide +kernel
theorem c429_130 : fx_op 429 130 = some (.iaload, 131, 130) := by decide +kernel
theorem c429_131 : fx_ca 429 131 = some (216, 6, 2, 134) := by decide +kernel
theorem c429_134 : fx_op 429 134 = some (.if_icmp .eq 163, 137, 297) := by decide +kernel
theorem c429_139 : fx_op 429 139 = some (.aload_n 1, 140, 139) := by decide +kernel
theorem c429_140 : fx_op 429 140 = some (.aload_n 0, 141, 140) := by decide +kernel
theorem c429_141 : fx_op 429 141 = some (.iload_n 3, 142, 141) := by decide +kernel
theorem c429_142 : fx_ci 429 142 = some (1, 143) := by decide +kernel
theorem c429_143 : fx_op 429 143 = some (.iadd, 144, 143) := by decide +kernel
theorem c429_144 : fx_op 429 144 = some (.iaload, 145, 144) := by decide +kernel
theorem c429_145 : fx_ca 429 145 = some (16, 2, 2, 148) := by decide +kernel
theorem c429_148 : fx_op 429 148 = some (.aload_n 2, 149, 148) := by decide +kernel
theorem c429_149 : fx_op 429 149 = some (.aload_n 0, 150, 149) := by decide +kernel
theorem c429_150 : fx_op 429 150 = some (.iload_n 3, 151, 150) := by decide +kernel
theorem c429_151 : fx_ci 429 151 = some (1, 152) := by decide +kernel
theorem c429_152 : fx_op 429 152 = some (.iadd, 153, 152) := by decide +kernel
theorem c429_153 : fx_op 429 153 = some (.iaload, 154, 153) := by decide +kernel
theorem c429_154 : fx_ca 429 154 = some (218, 2, 2, 157) := by decide +kernel
theorem c429_157 : fx_op 429 157 = some (.if_icmp .eq 140, 160, 297) := by decide +kernel
theorem c429_162 : fx_op 429 162 = some (.aload_n 1, 163, 162) := by decide +kernel
theorem c429_163 : fx_op 429 163 = some (.aload_n 0, 164, 163) := by decide +kernel
theorem c429_164 : fx_op 429 164 = some (.iload_n 3, 165, 164) := by decide +kernel
theorem c429_165 : fx_ci 429 165 = some (1, 166) := by decide +kernel
theorem c429_166 : fx_op 429 166 = some (.iadd, 167, 166) := by decide +kernel
theorem c429_167 : fx_op 429 167 = some (.iaload, 168, 167) := by decide +kernel
theorem c429_168 : fx_ca 429 168 = some (205, 2, 2, 171) := by decide +kernel
theorem c429_171 : fx_op 429 171 = some (.aload_n 2, 172, 171) := by decide +kernel
theorem c429_172 : fx_op 429 172 = some (.aload_n 0, 173, 172) := by decide +kernel
theorem c429_173 : fx_op 429 173 = some (.iload_n 3, 174, 173) := by decide +kernel
theorem c429_174 : fx_ci 429 174 = some (1, 175) := by decide +kernel
theorem c429_175 : fx_op 429 175 = some (.iadd, 176, 175) := by decide +kernel
theorem c429_176 : fx_op 429 176 = some (.iaload, 177, 176) := by decide +kernel
theorem c429_177 : fx_ca 429 177 = some (421, 2, 2, 180) := by decide +kernel
theorem c429_180 : fx_op 429 180 = some (.if_icmp .eq 117, 183, 297) := by decide +kernel
theorem c429_185 : fx_op 429 185 = some (.aload_n 1, 186, 185) := by decide +kernel
theorem c429_186 : fx_ca 429 186 = some (206, 1, 2, 189) := by decide +kernel
theorem c429_189 : fx_op 429 189 = some (.aload_n 2, 190, 189) := by decide +kernel
theorem c429_190 : fx_ca 429 190 = some (422, 1, 2, 193) := by decide +kernel
theorem c429_193 : fx_op 429 193 = some (.if_icmp .eq 104, 196, 297) := by decide +kernel
theorem c429_198 : fx_op 429 198 = some (.aload_n 1, 199, 198) := by decide +kernel
theorem c429_199 : fx_op 429 199 = some (.aload_n 0, 200, 199) := by decide +kernel
theorem c429_200 : fx_op 429 200 = some (.iload_n 3, 201, 200) := by decide +kernel
theorem c429_201 : fx_ci 429 201 = some (1, 202) := by decide +kernel
theorem c429_202 : fx_op 429 202 = some (.iadd, 203, 202) := by decide +kernel
theorem c429_203 : fx_op 429 203 = some (.iaload, 204, 203) := by decide +kernel
theorem c429_204 : fx_ca 429 204 = some (207, 2, 2, 207) := by decide +kernel
theorem c429_207 : fx_op 429 207 = some (.aload_n 2, 208, 207) := by decide +kernel
theorem c429_208 : fx_op 429 208 = some (.aload_n 0, 209, 208) := by decide +kernel
theorem c429_209 : fx_op 429 209 = some (.iload_n 3, 210, 209) := by decide +kernel
theorem c429_210 : fx_ci 429 210 = some (1, 211) := by decide +kernel
theorem c429_211 : fx_op 429 211 = some (.iadd, 212, 211) := by decide +kernel
theorem c429_212 : fx_op 429 212 = some (.iaload, 213, 212) := by decide +kernel
theorem c429_213 : fx_ca 429 213 = some (423, 2, 2, 216) := by decide +kernel
theorem c429_216 : fx_op 429 216 = some (.if_icmp .eq 81, 219, 297) := by decide +kernel
theorem c429_221 : fx_op 429 221 = some (.aload_n 1, 222, 221) := by decide +kernel
theorem c429_222 : fx_op 429 222 = some (.aload_n 0, 223, 222) := by decide +kernel
theorem c429_223 : fx_op 429 223 = some (.iload_n 3, 224, 223) := by decide +kernel
theorem c429_224 : fx_ci 429 224 = some (1, 225) := by decide +kernel
theorem c429_225 : fx_op 429 225 = some (.iadd, 226, 225) := by decide +kernel
theorem c429_226 : fx_op 429 226 = some (.iaload, 227, 226) := by decide +kernel
theorem c429_227 : fx_op 429 227 = some (.aload_n 0, 228, 227) := by decide +kernel
theorem c429_228 : fx_op 429 228 = some (.iload_n 3, 229, 228) := by decide +kernel
theorem c429_229 : fx_ci 429 229 = some (2, 230) := by decide +kernel
theorem c429_230 : fx_op 429 230 = some (.iadd, 231, 230) := by decide +kernel
theorem c429_231 : fx_op 429 231 = some (.iaload, 232, 231) := by decide +kernel
theorem c429_232 : fx_ca 429 232 = some (209, 3, 2, 235) := by decide +kernel
theorem c429_235 : fx_op 429 235 = some (.aload_n 2, 236, 235) := by decide +kernel
theorem c429_236 : fx_op 429 236 = some (.aload_n 0, 237, 236) := by decide +kernel
theorem c429_237 : fx_op 429 237 = some (.iload_n 3, 238, 237) := by decide +kernel
theorem c429_238 : fx_ci 429 238 = some (1, 239) := by decide +kernel
theorem c429_239 : fx_op 429 239 = some (.iadd, 240, 239) := by decide +kernel
theorem c429_240 : fx_op 429 240 = some (.iaload, 241, 240) := by decide +kernel
theorem c429_241 : fx_op 429 241 = some (.aload_n 0, 242, 241) := by decide +kernel
theorem c429_242 : fx_op 429 242 = some (.iload_n 3, 243, 242) := by decide +kernel
theorem c429_243 : fx_ci 429 243 = some (2, 244) := by decide +kernel
theorem c429_244 : fx_op 429 244 = some (.iadd, 245, 244) := by decide +kernel
theorem c429_245 : fx_op 429 245 = some (.iaload, 246, 245) := by decide +kernel
theorem c429_246 : fx_ca 429 246 = some (424, 3, 2, 249) := by decide +kernel
theorem c429_249 : fx_op 429 249 = some (.if_icmp .eq 48, 252, 297) := by decide +kernel
theorem c429_254 : fx_op 429 254 = some (.aload_n 1, 255, 254) := by decide +kernel
theorem c429_255 : fx_op 429 255 = some (.aload_n 0, 256, 255) := by decide +kernel
theorem c429_256 : fx_op 429 256 = some (.iload_n 3, 257, 256) := by decide +kernel
theorem c429_257 : fx_ci 429 257 = some (1, 258) := by decide +kernel
theorem c429_258 : fx_op 429 258 = some (.iadd, 259, 258) := by decide +kernel
theorem c429_259 : fx_op 429 259 = some (.iaload, 260, 259) := by decide +kernel
theorem c429_260 : fx_op 429 260 = some (.aload_n 0, 261, 260) := by decide +kernel
theorem c429_261 : fx_op 429 261 = some (.iload_n 3, 262, 261) := by decide +kernel
theorem c429_262 : fx_ci 429 262 = some (2, 263) := by decide +kernel
theorem c429_263 : fx_op 429 263 = some (.iadd, 264, 263) := by decide +kernel
theorem c429_264 : fx_op 429 264 = some (.iaload, 265, 264) := by decide +kernel
theorem c429_265 : fx_op 429 265 = some (.aload_n 0, 266, 265) := by decide +kernel
theorem c429_266 : fx_op 429 266 = some (.iload_n 3, 267, 266) := by decide +kernel
theorem c429_267 : fx_ci 429 267 = some (3, 268) := by decide +kernel
theorem c429_268 : fx_op 429 268 = some (.iadd, 269, 268) := by decide +kernel
theorem c429_269 : fx_op 429 269 = some (.iaload, 270, 269) := by decide +kernel
theorem c429_270 : fx_ca 429 270 = some (211, 4, 2, 273) := by decide +kernel
theorem c429_273 : fx_op 429 273 = some (.aload_n 2, 274, 273) := by decide +kernel
theorem c429_274 : fx_op 429 274 = some (.aload_n 0, 275, 274) := by decide +kernel
theorem c429_275 : fx_op 429 275 = some (.iload_n 3, 276, 275) := by decide +kernel
theorem c429_276 : fx_ci 429 276 = some (1, 277) := by decide +kernel
theorem c429_277 : fx_op 429 277 = some (.iadd, 278, 277) := by decide +kernel
theorem c429_278 : fx_op 429 278 = some (.iaload, 279, 278) := by decide +kernel
theorem c429_279 : fx_op 429 279 = some (.aload_n 0, 280, 279) := by decide +kernel
theorem c429_280 : fx_op 429 280 = some (.iload_n 3, 281, 280) := by decide +kernel
theorem c429_281 : fx_ci 429 281 = some (2, 282) := by decide +kernel
theorem c429_282 : fx_op 429 282 = some (.iadd, 283, 282) := by decide +kernel
theorem c429_283 : fx_op 429 283 = some (.iaload, 284, 283) := by decide +kernel
theorem c429_284 : fx_op 429 284 = some (.aload_n 0, 285, 284) := by decide +kernel
theorem c429_285 : fx_op 429 285 = some (.iload_n 3, 286, 285) := by decide +kernel
theorem c429_286 : fx_ci 429 286 = some (3, 287) := by decide +kernel
theorem c429_287 : fx_op 429 287 = some (.iadd, 288, 287) := by decide +kernel
theorem c429_288 : fx_op 429 288 = some (.iaload, 289, 288) := by decide +kernel
theorem c429_289 : fx_ca 429 289 = some (425, 4, 2, 292) := by decide +kernel
theorem c429_292 : fx_op 429 292 = some (.if_icmp .eq 5, 295, 297) := by decide +kernel
theorem c429_297 : fx_op 429 297 = some (.iinc 3 6, 300, 297) := by decide +kernel
theorem c429_300 : fx_op 429 300 = some (.goto (-282), 303, 18) := by decide +kernel
theorem c429_303 : fx_ci 429 303 = some (1, 304) := by decide +kernel
theorem c429_304 : fx_op 429 304 = some (.ireturn, 305, 304) := by decide +kernel
theorem lw_op0 {d L : Nat} {xs : Nat → Int32} {i : Int} {M : fx_M} {Q : Option fx_V → fx_M → Prop} (hi : 0 ≤ i) (hL : i + 6 ≤ L) (hN : L ≤ 2147483647) (H : lw_call (kcs L xs) d 14 216 [jI (xs (i + 1).toNat).toInt, jI (xs (i + 2).toNat).toInt, jI (xs (i + 3).toNat).toInt, jI (xs (i + 4).toNat).toInt, jI (xs (i + 5).toNat).toInt] M (fun M2 => wp (kcs L xs) (d + 1) 429 297 [some (jR 1000000), some (jR 0), some (jR 133), some (jI i)] [] M2 Q)) : wp (kcs L xs) (d + 1) 429 76 [some (jR 1000000), some (jR 0), some (jR 133), some (jI i)] [] M Q :=
  (x_aldn c429_76 rfl (x_aldn c429_77 rfl (x_ildn c429_78 rfl (x_ci c429_79 (x_iadd c429_80 (x_ialdk c429_81 (Nat.lt_irrefl 1000000) (kcs_0 L xs) ⟨by omega, by omega⟩ hN (x_aldn c429_82 rfl (x_ildn c429_83 rfl (x_ci c429_84 (x_iadd c429_85 (x_ialdk c429_86 (Nat.lt_irrefl 1000000) (kcs_0 L xs) ⟨by omega, by omega⟩ hN (x_aldn c429_87 rfl (x_ildn c429_88 rfl (x_ci c429_89 (x_iadd c429_90 (x_ialdk c429_91 (Nat.lt_irrefl 1000000) (kcs_0 L xs) ⟨by omega, by omega⟩ hN (x_aldn c429_92 rfl (x_ildn c429_93 rfl (x_ci c429_94 (x_iadd c429_95 (x_ialdk c429_96 (Nat.lt_irrefl 1000000) (kcs_0 L xs) ⟨by omega, by omega⟩ hN (x_aldn c429_97 rfl (x_ildn c429_98 rfl (x_ci c429_99 (x_iadd c429_100 (x_ialdk c429_101 (Nat.lt_irrefl 1000000) (kcs_0 L xs) ⟨by omega, by omega⟩ hN (x_cv (b := 0) (As := [jI (xs (i + 1).toNat).toInt, jI (xs (i + 2).toNat).toInt, jI (xs (i + 3).toNat).toInt, jI (xs (i + 4).toNat).toInt, jI (xs (i + 5).toNat).toInt]) (st := []) c429_102 cl_0 kl14 rfl (Nat.le_of_ble_eq_true rfl) mx14 (Nat.le_refl _) (wc_mono (Nat.le_refl _) (fun v1 M1 h1 => lw_one h1 fun r hr hm => (x_aldn c429_105 rfl (x_aldn c429_106 rfl (x_ildn c429_107 rfl (x_ci c429_108 (x_iadd c429_109 (x_ialdk c429_110 (Nat.lt_irrefl 1000000) (kcs_0 L xs) ⟨by omega, by omega⟩ hN (x_aldn c429_111 rfl (x_ildn c429_112 rfl (x_ci c429_113 (x_iadd c429_114 (x_ialdk c429_115 (Nat.lt_irrefl 1000000) (kcs_0 L xs) ⟨by omega, by omega⟩ hN (x_aldn c429_116 rfl (x_ildn c429_117 rfl (x_ci c429_118 (x_iadd c429_119 (x_ialdk c429_120 (Nat.lt_irrefl 1000000) (kcs_0 L xs) ⟨by omega, by omega⟩ hN (x_aldn c429_121 rfl (x_ildn c429_122 rfl (x_ci c429_123 (x_iadd c429_124 (x_ialdk c429_125 (Nat.lt_irrefl 1000000) (kcs_0 L xs) ⟨by omega, by omega⟩ hN (x_aldn c429_126 rfl (x_ildn c429_127 rfl (x_ci c429_128 (x_iadd c429_129 (x_ialdk c429_130 (Nat.lt_irrefl 1000000) (kcs_0 L xs) ⟨by omega, by omega⟩ hN (x_cv (b := 133) (As := [jI (xs (i + 1).toNat).toInt, jI (xs (i + 2).toNat).toInt, jI (xs (i + 3).toNat).toInt, jI (xs (i + 4).toNat).toInt, jI (xs (i + 5).toNat).toInt]) (st := [jI r]) c429_131 cl_133 kl216 rfl (Nat.le_of_ble_eq_true rfl) mx216 (Nat.le_refl _) (wc_mono (Nat.le_refl _) (fun v2 M2 h2 => lw_two h2 fun hK => (x_ceq c429_134 hr hr (fun _ => hK) (fun h => absurd rfl h))) hm))))))))))))))))))))))))))))) H))))))))))))))))))))))))))))
theorem lw_op1 {d L : Nat} {xs : Nat → Int32} {i : Int} {M : fx_M} {Q : Option fx_V → fx_M → Prop} (hi : 0 ≤ i) (hL : i + 6 ≤ L) (hN : L ≤ 2147483647) (H : lw_call (kcs L xs) d 16 218 [jI (xs (i + 1).toNat).toInt] M (fun M2 => wp (kcs L xs) (d + 1) 429 297 [some (jR 1000000), some (jR 0), some (jR 133), some (jI i)] [] M2 Q)) : wp (kcs L xs) (d + 1) 429 139 [some (jR 1000000), some (jR 0), some (jR 133), some (jI i)] [] M Q :=
  (x_aldn c429_139 rfl (x_aldn c429_140 rfl (x_ildn c429_141 rfl (x_ci c429_142 (x_iadd c429_143 (x_ialdk c429_144 (Nat.lt_irrefl 1000000) (kcs_0 L xs) ⟨by omega, by omega⟩ hN (x_cv (b := 0) (As := [jI (xs (i + 1).toNat).toInt]) (st := []) c429_145 cl_0 kl16 rfl (Nat.le_of_ble_eq_true rfl) mx16 (Nat.le_refl _) (wc_mono (Nat.le_refl _) (fun v1 M1 h1 => lw_one h1 fun r hr hm => (x_aldn c429_148 rfl (x_aldn c429_149 rfl (x_ildn c429_150 rfl (x_ci c429_151 (x_iadd c429_152 (x_ialdk c429_153 (Nat.lt_irrefl 1000000) (kcs_0 L xs) ⟨by omega, by omega⟩ hN (x_cv (b := 133) (As := [jI (xs (i + 1).toNat).toInt]) (st := [jI r]) c429_154 cl_133 kl218 rfl (Nat.le_of_ble_eq_true rfl) mx218 (Nat.le_refl _) (wc_mono (Nat.le_refl _) (fun v2 M2 h2 => lw_two h2 fun hK => (x_ceq c429_157 hr hr (fun _ => hK) (fun h => absurd rfl h))) hm))))))))) H))))))))
theorem lw_op2 {d L : Nat} {xs : Nat → Int32} {i : Int} {M : fx_M} {Q : Option fx_V → fx_M → Prop} (hi : 0 ≤ i) (hL : i + 6 ≤ L) (hN : L ≤ 2147483647) (H : lw_call (kcs L xs) d 205 421 [jI (xs (i + 1).toNat).toInt] M (fun M2 => wp (kcs L xs) (d + 1) 429 297 [some (jR 1000000), some (jR 0), some (jR 133), some (jI i)] [] M2 Q)) : wp (kcs L xs) (d + 1) 429 162 [some (jR 1000000), some (jR 0), some (jR 133), some (jI i)] [] M Q :=
  (x_aldn c429_162 rfl (x_aldn c429_163 rfl (x_ildn c429_164 rfl (x_ci c429_165 (x_iadd c429_166 (x_ialdk c429_167 (Nat.lt_irrefl 1000000) (kcs_0 L xs) ⟨by omega, by omega⟩ hN (x_cv (b := 0) (As := [jI (xs (i + 1).toNat).toInt]) (st := []) c429_168 cl_0 kl205 rfl (Nat.le_of_ble_eq_true rfl) mx205 (Nat.le_refl _) (wc_mono (Nat.le_refl _) (fun v1 M1 h1 => lw_one h1 fun r hr hm => (x_aldn c429_171 rfl (x_aldn c429_172 rfl (x_ildn c429_173 rfl (x_ci c429_174 (x_iadd c429_175 (x_ialdk c429_176 (Nat.lt_irrefl 1000000) (kcs_0 L xs) ⟨by omega, by omega⟩ hN (x_cv (b := 133) (As := [jI (xs (i + 1).toNat).toInt]) (st := [jI r]) c429_177 cl_133 kl421 rfl (Nat.le_of_ble_eq_true rfl) mx421 (Nat.le_refl _) (wc_mono (Nat.le_refl _) (fun v2 M2 h2 => lw_two h2 fun hK => (x_ceq c429_180 hr hr (fun _ => hK) (fun h => absurd rfl h))) hm))))))))) H))))))))
theorem lw_op3 {d L : Nat} {xs : Nat → Int32} {i : Int} {M : fx_M} {Q : Option fx_V → fx_M → Prop} (hi : 0 ≤ i) (hL : i + 6 ≤ L) (hN : L ≤ 2147483647) (H : lw_call (kcs L xs) d 206 422 [] M (fun M2 => wp (kcs L xs) (d + 1) 429 297 [some (jR 1000000), some (jR 0), some (jR 133), some (jI i)] [] M2 Q)) : wp (kcs L xs) (d + 1) 429 185 [some (jR 1000000), some (jR 0), some (jR 133), some (jI i)] [] M Q :=
  (x_aldn c429_185 rfl (x_cv (b := 0) (As := []) (st := []) c429_186 cl_0 kl206 rfl (Nat.le_of_ble_eq_true rfl) mx206 (Nat.le_refl _) (wc_mono (Nat.le_refl _) (fun v1 M1 h1 => lw_one h1 fun r hr hm => (x_aldn c429_189 rfl (x_cv (b := 133) (As := []) (st := [jI r]) c429_190 cl_133 kl422 rfl (Nat.le_of_ble_eq_true rfl) mx422 (Nat.le_refl _) (wc_mono (Nat.le_refl _) (fun v2 M2 h2 => lw_two h2 fun hK => (x_ceq c429_193 hr hr (fun _ => hK) (fun h => absurd rfl h))) hm)))) H)))
theorem lw_op4 {d L : Nat} {xs : Nat → Int32} {i : Int} {M : fx_M} {Q : Option fx_V → fx_M → Prop} (hi : 0 ≤ i) (hL : i + 6 ≤ L) (hN : L ≤ 2147483647) (H : lw_call (kcs L xs) d 207 423 [jI (xs (i + 1).toNat).toInt] M (fun M2 => wp (kcs L xs) (d + 1) 429 297 [some (jR 1000000), some (jR 0), some (jR 133), some (jI i)] [] M2 Q)) : wp (kcs L xs) (d + 1) 429 198 [some (jR 1000000), some (jR 0), some (jR 133), some (jI i)] [] M Q :=
  (x_aldn c429_198 rfl (x_aldn c429_199 rfl (x_ildn c429_200 rfl (x_ci c429_201 (x_iadd c429_202 (x_ialdk c429_203 (Nat.lt_irrefl 1000000) (kcs_0 L xs) ⟨by omega, by omega⟩ hN (x_cv (b := 0) (As := [jI (xs (i + 1).toNat).toInt]) (st := []) c429_204 cl_0 kl207 rfl (Nat.le_of_ble_eq_true rfl) mx207 (Nat.le_refl _) (wc_mono (Nat.le_refl _) (fun v1 M1 h1 => lw_one h1 fun r hr hm => (x_aldn c429_207 rfl (x_aldn c429_208 rfl (x_ildn c429_209 rfl (x_ci c429_210 (x_iadd c429_211 (x_ialdk c429_212 (Nat.lt_irrefl 1000000) (kcs_0 L xs) ⟨by omega, by omega⟩ hN (x_cv (b := 133) (As := [jI (xs (i + 1).toNat).toInt]) (st := [jI r]) c429_213 cl_133 kl423 rfl (Nat.le_of_ble_eq_true rfl) mx423 (Nat.le_refl _) (wc_mono (Nat.le_refl _) (fun v2 M2 h2 => lw_two h2 fun hK => (x_ceq c429_216 hr hr (fun _ => hK) (fun h => absurd rfl h))) hm))))))))) H))))))))
theorem lw_op5 {d L : Nat} {xs : Nat → Int32} {i : Int} {M : fx_M} {Q : Option fx_V → fx_M → Prop} (hi : 0 ≤ i) (hL : i + 6 ≤ L) (hN : L ≤ 2147483647) (H : lw_call (kcs L xs) d 209 424 [jI (xs (i + 1).toNat).toInt, jI (xs (i + 2).toNat).toInt] M (fun M2 => wp (kcs L xs) (d + 1) 429 297 [some (jR 1000000), some (jR 0), some (jR 133), some (jI i)] [] M2 Q)) : wp (kcs L xs) (d + 1) 429 221 [some (jR 1000000), some (jR 0), some (jR 133), some (jI i)] [] M Q :=
  (x_aldn c429_221 rfl (x_aldn c429_222 rfl (x_ildn c429_223 rfl (x_ci c429_224 (x_iadd c429_225 (x_ialdk c429_226 (Nat.lt_irrefl 1000000) (kcs_0 L xs) ⟨by omega, by omega⟩ hN (x_aldn c429_227 rfl (x_ildn c429_228 rfl (x_ci c429_229 (x_iadd c429_230 (x_ialdk c429_231 (Nat.lt_irrefl 1000000) (kcs_0 L xs) ⟨by omega, by omega⟩ hN (x_cv (b := 0) (As := [jI (xs (i + 1).toNat).toInt, jI (xs (i + 2).toNat).toInt]) (st := []) c429_232 cl_0 kl209 rfl (Nat.le_of_ble_eq_true rfl) mx209 (Nat.le_refl _) (wc_mono (Nat.le_refl _) (fun v1 M1 h1 => lw_one h1 fun r hr hm => (x_aldn c429_235 rfl (x_aldn c429_236 rfl (x_ildn c429_237 rfl (x_ci c429_238 (x_iadd c429_239 (x_ialdk c429_240 (Nat.lt_irrefl 1000000) (kcs_0 L xs) ⟨by omega, by omega⟩ hN (x_aldn c429_241 rfl (x_ildn c429_242 rfl (x_ci c429_243 (x_iadd c429_244 (x_ialdk c429_245 (Nat.lt_irrefl 1000000) (kcs_0 L xs) ⟨by omega, by omega⟩ hN (x_cv (b := 133) (As := [jI (xs (i + 1).toNat).toInt, jI (xs (i + 2).toNat).toInt]) (st := [jI r]) c429_246 cl_133 kl424 rfl (Nat.le_of_ble_eq_true rfl) mx424 (Nat.le_refl _) (wc_mono (Nat.le_refl _) (fun v2 M2 h2 => lw_two h2 fun hK => (x_ceq c429_249 hr hr (fun _ => hK) (fun h => absurd rfl h))) hm)))))))))))))) H)))))))))))))
theorem lw_op6 {d L : Nat} {xs : Nat → Int32} {i : Int} {M : fx_M} {Q : Option fx_V → fx_M → Prop} (hi : 0 ≤ i) (hL : i + 6 ≤ L) (hN : L ≤ 2147483647) (H : lw_call (kcs L xs) d 211 425 [jI (xs (i + 1).toNat).toInt, jI (xs (i + 2).toNat).toInt, jI (xs (i + 3).toNat).toInt] M (fun M2 => wp (kcs L xs) (d + 1) 429 297 [some (jR 1000000), some (jR 0), some (jR 133), some (jI i)] [] M2 Q)) : wp (kcs L xs) (d + 1) 429 254 [some (jR 1000000), some (jR 0), some (jR 133), some (jI i)] [] M Q :=
  (x_aldn c429_254 rfl (x_aldn c429_255 rfl (x_ildn c429_256 rfl (x_ci c429_257 (x_iadd c429_258 (x_ialdk c429_259 (Nat.lt_irrefl 1000000) (kcs_0 L xs) ⟨by omega, by omega⟩ hN (x_aldn c429_260 rfl (x_ildn c429_261 rfl (x_ci c429_262 (x_iadd c429_263 (x_ialdk c429_264 (Nat.lt_irrefl 1000000) (kcs_0 L xs) ⟨by omega, by omega⟩ hN (x_aldn c429_265 rfl (x_ildn c429_266 rfl (x_ci c429_267 (x_iadd c429_268 (x_ialdk c429_269 (Nat.lt_irrefl 1000000) (kcs_0 L xs) ⟨by omega, by omega⟩ hN (x_cv (b := 0) (As := [jI (xs (i + 1).toNat).toInt, jI (xs (i + 2).toNat).toInt, jI (xs (i + 3).toNat).toInt]) (st := []) c429_270 cl_0 kl211 rfl (Nat.le_of_ble_eq_true rfl) mx211 (Nat.le_refl _) (wc_mono (Nat.le_refl _) (fun v1 M1 h1 => lw_one h1 fun r hr hm => (x_aldn c429_273 rfl (x_aldn c429_274 rfl (x_ildn c429_275 rfl (x_ci c429_276 (x_iadd c429_277 (x_ialdk c429_278 (Nat.lt_irrefl 1000000) (kcs_0 L xs) ⟨by omega, by omega⟩ hN (x_aldn c429_279 rfl (x_ildn c429_280 rfl (x_ci c429_281 (x_iadd c429_282 (x_ialdk c429_283 (Nat.lt_irrefl 1000000) (kcs_0 L xs) ⟨by omega, by omega⟩ hN (x_aldn c429_284 rfl (x_ildn c429_285 rfl (x_ci c429_286 (x_iadd c429_287 (x_ialdk c429_288 (Nat.lt_irrefl 1000000) (kcs_0 L xs) ⟨by omega, by omega⟩ hN (x_cv (b := 133) (As := [jI (xs (i + 1).toNat).toInt, jI (xs (i + 2).toNat).toInt, jI (xs (i + 3).toNat).toInt]) (st := [jI r]) c429_289 cl_133 kl425 rfl (Nat.le_of_ble_eq_true rfl) mx425 (Nat.le_refl _) (wc_mono (Nat.le_refl _) (fun v2 M2 h2 => lw_two h2 fun hK => (x_ceq c429_292 hr hr (fun _ => hK) (fun h => absurd rfl h))) hm))))))))))))))))))) H))))))))))))))))))
/-- what a call asks of a relation: from R M, the two answers are alike and R' holds behind -/
def lw_step (d : Nat) (kc : List va_E) (s : Nat → Int) (M : fx_M) (K : fx_M → Prop) : Prop :=
  (fx_and (s 0) 7 = 0 → lw_call kc d 14 216 [jI (s 1), jI (s 2), jI (s 3), jI (s 4), jI (s 5)] M K) ∧
  (fx_and (s 0) 7 = 1 → lw_call kc d 16 218 [jI (s 1)] M K) ∧
  (fx_and (s 0) 7 = 2 → lw_call kc d 205 421 [jI (s 1)] M K) ∧
  (fx_and (s 0) 7 = 3 → lw_call kc d 206 422 [] M K) ∧
  (fx_and (s 0) 7 = 4 → lw_call kc d 207 423 [jI (s 1)] M K) ∧
  (fx_and (s 0) 7 = 5 → lw_call kc d 209 424 [jI (s 1), jI (s 2)] M K) ∧
  (fx_and (s 0) 7 = 6 → lw_call kc d 211 425 [jI (s 1), jI (s 2), jI (s 3)] M K) ∧
  ((fx_and (s 0) 7 < 0 ∨ 7 ≤ fx_and (s 0) 7) → K M)
theorem fx_and_in (x y : Int) : fx_in32 (fx_and x y) := lw_in _
theorem lw_turn {d L : Nat} {xs : Nat → Int32} {i : Int} {M : fx_M} {Q : Option fx_V → fx_M → Prop} (hi : 0 ≤ i) (hL : i + 6 ≤ L) (hN : L ≤ 2147483647) (H : lw_step d (kcs L xs) (fun k => (xs (i + k).toNat).toInt) M (fun M2 => wp (kcs L xs) (d + 1) 429 18 [some (jR 1000000), some (jR 0), some (jR 133), some (jI (i + 6))] [] M2 Q)) : wp (kcs L xs) (d + 1) 429 27 [some (jR 1000000), some (jR 0), some (jR 133), some (jI i)] [] M Q := by
  have e : ∀ M2, wp (kcs L xs) (d + 1) 429 18 [some (jR 1000000), some (jR 0), some (jR 133), some (jI (i + 6))] [] M2 Q → wp (kcs L xs) (d + 1) 429 297 [some (jR 1000000), some (jR 0), some (jR 133), some (jI i)] [] M2 Q := fun M2 h => x_inc c429_297 rfl rfl (x_goto c429_300 h)
  refine x_aldn c429_27 rfl (x_ildn c429_28 rfl (x_ialdk c429_29 (Nat.lt_irrefl 1000000) (kcs_0 L xs) ⟨by omega, by omega⟩ hN (x_ci c429_30 (x_iand c429_32 ?_))))
  obtain ⟨h0, h1, h2, h3, h4, h5, h6, h7⟩ := H
  have e0 : ((xs (i + ((0 : Nat) : Int)).toNat).toInt) = (xs i.toNat).toInt := by
    congr 3
    omega
  simp only [e0] at h0 h1 h2 h3 h4 h5 h6 h7
  refine x_sw c429_33 (fx_and_in _ _) ⟨fun h => ?_, fun h => ?_, fun h => ?_, fun h => ?_, fun h => ?_, fun h => ?_, fun h => ?_, trivial⟩ (fun h => e _ (h7 (by simpa using h)))
  · exact lw_op0 hi hL hN (lw_call_mono (Nat.le_refl _) e (h0 h))
  · exact lw_op1 hi hL hN (lw_call_mono (Nat.le_refl _) e (h1 h))
  · exact lw_op2 hi hL hN (lw_call_mono (Nat.le_refl _) e (h2 h))
  · exact lw_op3 hi hL hN (lw_call_mono (Nat.le_refl _) e (h3 h))
  · exact lw_op4 hi hL hN (lw_call_mono (Nat.le_refl _) e (h4 h))
  · exact lw_op5 hi hL hN (lw_call_mono (Nat.le_refl _) e (h5 h))
  · exact lw_op6 hi hL hN (lw_call_mono (Nat.le_refl _) e (h6 h))
/-- the law's loop, k calls made: R k holds of the memory -/
theorem lw_loop {N d L : Nat} {xs : Nat → Int32} {R : Nat → fx_M → Prop} (hLN : L ≤ N) (hN : N ≤ 2000000000) (hR : ∀ (k : Nat) (M : fx_M) (s : Nat → Int), 6 * (k + 1) ≤ N → (∀ j, fx_in32 (s j)) → R k M → lw_step d (kcs L xs) s M (R (k + 1))) : ∀ (n k : Nat) (M : fx_M), L + 6 ≤ 6 * k + 6 * n → 6 * k ≤ L → R k M → wp (kcs L xs) (d + 1) 429 18 [some (jR 1000000), some (jR 0), some (jR 133), some (jI ((6 * k : Nat) : Int))] [] M (fun v _ => v = some (jI 1))
  | 0, k, M, h1, h2, _ => by omega
  | n + 1, k, M, h1, h2, hM => by
    refine x_ildn c429_18 rfl (x_aldn c429_19 rfl (x_lenk c429_20 (Nat.lt_irrefl 1000000) (kcs_0 L xs) (x_ci c429_21 (x_isub c429_23 (x_cgt c429_24 ⟨by omega, by omega⟩ ⟨by omega, by omega⟩ (fun h => x_ci c429_303 (x_zrt c429_304 (by decide +kernel) ⟨by omega, by omega⟩ rfl)) (fun h => ?_))))))
    refine lw_turn (by omega) (by omega) (by omega) ?_
    have hs := hR k M (fun j => (xs (((6 * k : Nat) : Int) + j).toNat).toInt) (by omega) (fun j => lw_in _) hM
    have e : ((6 * k : Nat) : Int) + 6 = ((6 * (k + 1) : Nat) : Int) := by omega
    rw [e]
    have up : ∀ M2, R (k + 1) M2 → wp (kcs L xs) (d + 1) 429 18 [some (jR 1000000), some (jR 0), some (jR 133), some (jI ((6 * (k + 1) : Nat) : Int))] [] M2 (fun v _ => v = some (jI 1)) := fun M2 h3 => lw_loop hLN hN hR n (k + 1) M2 (by omega) (by omega) h3
    obtain ⟨h0, h1, h2, h3, h4, h5, h6, h7⟩ := hs
    exact ⟨fun h => lw_call_mono (Nat.le_refl _) up (h0 h), fun h => lw_call_mono (Nat.le_refl _) up (h1 h), fun h => lw_call_mono (Nat.le_refl _) up (h2 h), fun h => lw_call_mono (Nat.le_refl _) up (h3 h), fun h => lw_call_mono (Nat.le_refl _) up (h4 h), fun h => lw_call_mono (Nat.le_refl _) up (h5 h), fun h => lw_call_mono (Nat.le_refl _) up (h6 h), fun h => up _ (h7 h)⟩
