/-! THE LAW'S BODY (by gen/emit_law.py): from a relation R (k M) of memories that every call keeps, the law's answer 1. -/
noncomputable abbrev kcs (L : Nat) (xs : Nat → Int32) : List va_E := .inl (0, L, .inl xs) :: xKt
theorem kcs_0 (L : Nat) (xs : Nat → Int32) : (kcs L xs)[1000000 - lx_K]? = some (.inl (0, L, .inl xs)) := by
  have : 1000000 - lx_K = 0 := by decide +kernel
  rw [this]
  rfl
/-- the class's call (kx) and the reference's (km) answer alike; K holds of the memory behind both -/
def lw_call (kc : List va_E) (d kx km : Nat) (as : List fx_V) (M : fx_M) (K : fx_M → Prop) : Prop :=
  wc kc d kx (jR 0 :: as) M (fun v M1 => ∃ r : Int, fx_in32 r ∧ v = some (jI r) ∧ wc kc d km (jR 133 :: as) M1 (fun v2 M2 => v2 = some (jI r) ∧ K M2))
theorem lw_call_mono {kc : List va_E} {d d' kx km : Nat} {as : List fx_V} {M : fx_M} {K K' : fx_M → Prop} (hd : d' ≤ d) (hK : ∀ M2, K M2 → K' M2) (H : lw_call kc d' kx km as M K) : lw_call kc d kx km as M K' :=
  wc_mono hd (fun v M1 h => by
    obtain ⟨r, hr, hv, h⟩ := h
    exact ⟨r, hr, hv, wc_mono hd (fun v2 M2 h2 => ⟨h2.1, hK _ h2.2⟩) h⟩) H
theorem lw_one {kc : List va_E} {d pc : Nat} {l : fx_L} {v : Option fx_V} {M1 : fx_M} {P : Int → Prop} {Q : Option fx_V → fx_M → Prop} (h : ∃ r : Int, fx_in32 r ∧ v = some (jI r) ∧ P r) (K : ∀ r : Int, fx_in32 r → P r → wp kc d 426 pc l [jI r] M1 Q) : wp kc d 426 pc l (v.toList ++ []) M1 Q := by
  obtain ⟨r, hr, rfl, hp⟩ := h
  exact K r hr hp
theorem lw_two {kc : List va_E} {d pc : Nat} {l : fx_L} {v : Option fx_V} {M1 : fx_M} {r : Int} {P : Prop} {Q : Option fx_V → fx_M → Prop} (h : v = some (jI r) ∧ P) (K : P → wp kc d 426 pc l [jI r, jI r] M1 Q) : wp kc d 426 pc l (v.toList ++ [jI r]) M1 Q := by
  obtain ⟨rfl, hp⟩ := h
  exact K hp
theorem lw_in (x : Int32) : fx_in32 x.toInt := by
  have h1 := Int32.toInt_lt x
  have h2 := Int32.le_toInt x
  exact ⟨by omega, by omega⟩
theorem c426_18 : fx_op 426 18 = some (.iload_n 3, 19, 18) := by decide +kernel
theorem c426_19 : fx_op 426 19 = some (.aload_n 0, 20, 19) := by decide +kernel
theorem c426_20 : fx_op 426 20 = some (.arraylength, 21, 20) := by decide +kernel
theorem c426_21 : fx_ci 426 21 = some (6, 23) := by decide +kernel
theorem c426_23 : fx_op 426 23 = some (.isub, 24, 23) := by decide +kernel
theorem c426_24 : fx_op 426 24 = some (.if_icmp .gt 279, 27, 303) := by decide +kernel
theorem c426_27 : fx_op 426 27 = some (.aload_n 0, 28, 27) := by decide +kernel
theorem c426_28 : fx_op 426 28 = some (.iload_n 3, 29, 28) := by decide +kernel
theorem c426_29 : fx_op 426 29 = some (.iaload, 30, 29) := by decide +kernel
theorem c426_30 : fx_ci 426 30 = some (7, 32) := by decide +kernel
theorem c426_32 : fx_op 426 32 = some (.iand, 33, 32) := by decide +kernel
theorem c426_33 : fx_ts 426 33 = some (0, [76, 139, 162, 185, 198, 221, 254], 297) := by decide +kernel
theorem c426_76 : fx_op 426 76 = some (.aload_n 1, 77, 76) := by decide +kernel
theorem c426_77 : fx_op 426 77 = some (.aload_n 0, 78, 77) := by decide +kernel
theorem c426_78 : fx_op 426 78 = some (.iload_n 3, 79, 78) := by decide +kernel
theorem c426_79 : fx_ci 426 79 = some (1, 80) := by decide +kernel
theorem c426_80 : fx_op 426 80 = some (.iadd, 81, 80) := by decide +kernel
theorem c426_81 : fx_op 426 81 = some (.iaload, 82, 81) := by decide +kernel
theorem c426_82 : fx_op 426 82 = some (.aload_n 0, 83, 82) := by decide +kernel
theorem c426_83 : fx_op 426 83 = some (.iload_n 3, 84, 83) := by decide +kernel
theorem c426_84 : fx_ci 426 84 = some (2, 85) := by decide +kernel
theorem c426_85 : fx_op 426 85 = some (.iadd, 86, 85) := by decide +kernel
theorem c426_86 : fx_op 426 86 = some (.iaload, 87, 86) := by decide +kernel
theorem c426_87 : fx_op 426 87 = some (.aload_n 0, 88, 87) := by decide +kernel
theorem c426_88 : fx_op 426 88 = some (.iload_n 3, 89, 88) := by decide +kernel
theorem c426_89 : fx_ci 426 89 = some (3, 90) := by decide +kernel
theorem c426_90 : fx_op 426 90 = some (.iadd, 91, 90) := by decide +kernel
theorem c426_91 : fx_op 426 91 = some (.iaload, 92, 91) := by decide +kernel
theorem c426_92 : fx_op 426 92 = some (.aload_n 0, 93, 92) := by decide +kernel
theorem c426_93 : fx_op 426 93 = some (.iload_n 3, 94, 93) := by decide +kernel
theorem c426_94 : fx_ci 426 94 = some (4, 95) := by decide +kernel
theorem c426_95 : fx_op 426 95 = some (.iadd, 96, 95) := by decide +kernel
theorem c426_96 : fx_op 426 96 = some (.iaload, 97, 96) := by decide +kernel
theorem c426_97 : fx_op 426 97 = some (.aload_n 0, 98, 97) := by decide +kernel
theorem c426_98 : fx_op 426 98 = some (.iload_n 3, 99, 98) := by decide +kernel
theorem c426_99 : fx_ci 426 99 = some (5, 100) := by decide +kernel
theorem c426_100 : fx_op 426 100 = some (.iadd, 101, 100) := by decide +kernel
theorem c426_101 : fx_op 426 101 = some (.iaload, 102, 101) := by decide +kernel
theorem c426_102 : fx_ca 426 102 = some (14, 6, 2, 105) := by decide +kernel
theorem c426_105 : fx_op 426 105 = some (.aload_n 2, 106, 105) := by decide +kernel
theorem c426_106 : fx_op 426 106 = some (.aload_n 0, 107, 106) := by decide +kernel
theorem c426_107 : fx_op 426 107 = some (.iload_n 3, 108, 107) := by decide +kernel
theorem c426_108 : fx_ci 426 108 = some (1, 109) := by decide +kernel
theorem c426_109 : fx_op 426 109 = some (.iadd, 110, 109) := by decide +kernel
theorem c426_110 : fx_op 426 110 = some (.iaload, 111, 110) := by decide +kernel
theorem c426_111 : fx_op 426 111 = some (.aload_n 0, 112, 111) := by decide +kernel
theorem c426_112 : fx_op 426 112 = some (.iload_n 3, 113, 112) := by decide +kernel
theorem c426_113 : fx_ci 426 113 = some (2, 114) := by decide +kernel
theorem c426_114 : fx_op 426 114 = some (.iadd, 115, 114) := by decide +kernel
theorem c426_115 : fx_op 426 115 = some (.iaload, 116, 115) := by decide +kernel
theorem c426_116 : fx_op 426 116 = some (.aload_n 0, 117, 116) := by decide +kernel
theorem c426_117 : fx_op 426 117 = some (.iload_n 3, 118, 117) := by decide +kernel
theorem c426_118 : fx_ci 426 118 = some (3, 119) := by decide +kernel
theorem c426_119 : fx_op 426 119 = some (.iadd, 120, 119) := by decide +kernel
theorem c426_120 : fx_op 426 120 = some (.iaload, 121, 120) := by decide +kernel
theorem c426_121 : fx_op 426 121 = some (.aload_n 0, 122, 121) := by decide +kernel
theorem c426_122 : fx_op 426 122 = some (.iload_n 3, 123, 122) := by decide +kernel
theorem c426_123 : fx_ci 426 123 = some (4, 124) := by decide +kernel
theorem c426_124 : fx_op 426 124 = some (.iadd, 125, 124) := by decide +kernel
theorem c426_125 : fx_op 426 125 = some (.iaload, 126, 125) := by decide +kernel
theorem c426_126 : fx_op 426 126 = some (.aload_n 0, 127, 126) := by decide +kernel
theorem c426_127 : fx_op 426 127 = some (.iload_n 3, 128, 127) := by decide +kernel
theorem c426_128 : fx_ci 426 128 = some (5, 129) := by decide +kernel
theorem c426_129 : fx_op 426 129 = some (.iadd, 130, 129) := by decide +kernel
theorem c426_130 : fx_op 426 130 = some (.iaload, 131, 130) := by decide +kernel
theorem c426_131 : fx_ca 426 131 = some (216, 6, 2, 134) := by decide +kernel
theorem c426_134 : fx_op 426 134 = some (.if_icmp .eq 163, 137, 297) := by decide +kernel
theorem c426_139 : fx_op 426 139 = some (.aload_n 1, 140, 139) := by decide +kernel
theorem c426_140 : fx_op 426 140 = some (.aload_n 0, 141, 140) := by decide +kernel
theorem c426_141 : fx_op 426 141 = some (.iload_n 3, 142, 141) := by decide +kernel
theorem c426_142 : fx_ci 426 142 = some (1, 143) := by decide +kernel
theorem c426_143 : fx_op 426 143 = some (.iadd, 144, 143) := by decide +kernel
theorem c426_144 : fx_op 426 144 = some (.iaload, 145, 144) := by decide +kernel
theorem c426_145 : fx_ca 426 145 = some (16, 2, 2, 148) := by decide +kernel
theorem c426_148 : fx_op 426 148 = some (.aload_n 2, 149, 148) := by decide +kernel
theorem c426_149 : fx_op 426 149 = some (.aload_n 0, 150, 149) := by decide +kernel
theorem c426_150 : fx_op 426 150 = some (.iload_n 3, 151, 150) := by decide +kernel
theorem c426_151 : fx_ci 426 151 = some (1, 152) := by decide +kernel
theorem c426_152 : fx_op 426 152 = some (.iadd, 153, 152) := by decide +kernel
theorem c426_153 : fx_op 426 153 = some (.iaload, 154, 153) := by decide +kernel
theorem c426_154 : fx_ca 426 154 = some (218, 2, 2, 157) := by decide +kernel
theorem c426_157 : fx_op 426 157 = some (.if_icmp .eq 140, 160, 297) := by decide +kernel
theorem c426_162 : fx_op 426 162 = some (.aload_n 1, 163, 162) := by decide +kernel
theorem c426_163 : fx_op 426 163 = some (.aload_n 0, 164, 163) := by decide +kernel
theorem c426_164 : fx_op 426 164 = some (.iload_n 3, 165, 164) := by decide +kernel
theorem c426_165 : fx_ci 426 165 = some (1, 166) := by decide +kernel
theorem c426_166 : fx_op 426 166 = some (.iadd, 167, 166) := by decide +kernel
theorem c426_167 : fx_op 426 167 = some (.iaload, 168, 167) := by decide +kernel
theorem c426_168 : fx_ca 426 168 = some (205, 2, 2, 171) := by decide +kernel
theorem c426_171 : fx_op 426 171 = some (.aload_n 2, 172, 171) := by decide +kernel
theorem c426_172 : fx_op 426 172 = some (.aload_n 0, 173, 172) := by decide +kernel
theorem c426_173 : fx_op 426 173 = some (.iload_n 3, 174, 173) := by decide +kernel
theorem c426_174 : fx_ci 426 174 = some (1, 175) := by decide +kernel
theorem c426_175 : fx_op 426 175 = some (.iadd, 176, 175) := by decide +kernel
theorem c426_176 : fx_op 426 176 = some (.iaload, 177, 176) := by decide +kernel
theorem c426_177 : fx_ca 426 177 = some (421, 2, 2, 180) := by decide +kernel
theorem c426_180 : fx_op 426 180 = some (.if_icmp .eq 117, 183, 297) := by decide +kernel
theorem c426_185 : fx_op 426 185 = some (.aload_n 1, 186, 185) := by decide +kernel
theorem c426_186 : fx_ca 426 186 = some (206, 1, 2, 189) := by decide +kernel
theorem c426_189 : fx_op 426 189 = some (.aload_n 2, 190, 189) := by decide +kernel
theorem c426_190 : fx_ca 426 190 = some (422, 1, 2, 193) := by decide +kernel
theorem c426_193 : fx_op 426 193 = some (.if_icmp .eq 104, 196, 297) := by decide +kernel
theorem c426_198 : fx_op 426 198 = some (.aload_n 1, 199, 198) := by decide +kernel
theorem c426_199 : fx_op 426 199 = some (.aload_n 0, 200, 199) := by decide +kernel
theorem c426_200 : fx_op 426 200 = some (.iload_n 3, 201, 200) := by decide +kernel
theorem c426_201 : fx_ci 426 201 = some (1, 202) := by decide +kernel
theorem c426_202 : fx_op 426 202 = some (.iadd, 203, 202) := by decide +kernel
theorem c426_203 : fx_op 426 203 = some (.iaload, 204, 203) := by decide +kernel
theorem c426_204 : fx_ca 426 204 = some (207, 2, 2, 207) := by decide +kernel
theorem c426_207 : fx_op 426 207 = some (.aload_n 2, 208, 207) := by decide +kernel
theorem c426_208 : fx_op 426 208 = some (.aload_n 0, 209, 208) := by decide +kernel
theorem c426_209 : fx_op 426 209 = some (.iload_n 3, 210, 209) := by decide +kernel
theorem c426_210 : fx_ci 426 210 = some (1, 211) := by decide +kernel
theorem c426_211 : fx_op 426 211 = some (.iadd, 212, 211) := by decide +kernel
theorem c426_212 : fx_op 426 212 = some (.iaload, 213, 212) := by decide +kernel
theorem c426_213 : fx_ca 426 213 = some (423, 2, 2, 216) := by decide +kernel
theorem c426_216 : fx_op 426 216 = some (.if_icmp .eq 81, 219, 297) := by decide +kernel
theorem c426_221 : fx_op 426 221 = some (.aload_n 1, 222, 221) := by decide +kernel
theorem c426_222 : fx_op 426 222 = some (.aload_n 0, 223, 222) := by decide +kernel
theorem c426_223 : fx_op 426 223 = some (.iload_n 3, 224, 223) := by decide +kernel
theorem c426_224 : fx_ci 426 224 = some (1, 225) := by decide +kernel
theorem c426_225 : fx_op 426 225 = some (.iadd, 226, 225) := by decide +kernel
theorem c426_226 : fx_op 426 226 = some (.iaload, 227, 226) := by decide +kernel
theorem c426_227 : fx_op 426 227 = some (.aload_n 0, 228, 227) := by decide +kernel
theorem c426_228 : fx_op 426 228 = some (.iload_n 3, 229, 228) := by decide +kernel
theorem c426_229 : fx_ci 426 229 = some (2, 230) := by decide +kernel
theorem c426_230 : fx_op 426 230 = some (.iadd, 231, 230) := by decide +kernel
theorem c426_231 : fx_op 426 231 = some (.iaload, 232, 231) := by decide +kernel
theorem c426_232 : fx_ca 426 232 = some (209, 3, 2, 235) := by decide +kernel
theorem c426_235 : fx_op 426 235 = some (.aload_n 2, 236, 235) := by decide +kernel
theorem c426_236 : fx_op 426 236 = some (.aload_n 0, 237, 236) := by decide +kernel
theorem c426_237 : fx_op 426 237 = some (.iload_n 3, 238, 237) := by decide +kernel
theorem c426_238 : fx_ci 426 238 = some (1, 239) := by decide +kernel
theorem c426_239 : fx_op 426 239 = some (.iadd, 240, 239) := by decide +kernel
theorem c426_240 : fx_op 426 240 = some (.iaload, 241, 240) := by decide +kernel
theorem c426_241 : fx_op 426 241 = some (.aload_n 0, 242, 241) := by decide +kernel
theorem c426_242 : fx_op 426 242 = some (.iload_n 3, 243, 242) := by decide +kernel
theorem c426_243 : fx_ci 426 243 = some (2, 244) := by decide +kernel
theorem c426_244 : fx_op 426 244 = some (.iadd, 245, 244) := by decide +kernel
theorem c426_245 : fx_op 426 245 = some (.iaload, 246, 245) := by decide +kernel
theorem c426_246 : fx_ca 426 246 = some (424, 3, 2, 249) := by decide +kernel
theorem c426_249 : fx_op 426 249 = some (.if_icmp .eq 48, 252, 297) := by decide +kernel
theorem c426_254 : fx_op 426 254 = some (.aload_n 1, 255, 254) := by decide +kernel
theorem c426_255 : fx_op 426 255 = some (.aload_n 0, 256, 255) := by decide +kernel
theorem c426_256 : fx_op 426 256 = some (.iload_n 3, 257, 256) := by decide +kernel
theorem c426_257 : fx_ci 426 257 = some (1, 258) := by decide +kernel
theorem c426_258 : fx_op 426 258 = some (.iadd, 259, 258) := by decide +kernel
theorem c426_259 : fx_op 426 259 = some (.iaload, 260, 259) := by decide +kernel
theorem c426_260 : fx_op 426 260 = some (.aload_n 0, 261, 260) := by decide +kernel
theorem c426_261 : fx_op 426 261 = some (.iload_n 3, 262, 261) := by decide +kernel
theorem c426_262 : fx_ci 426 262 = some (2, 263) := by decide +kernel
theorem c426_263 : fx_op 426 263 = some (.iadd, 264, 263) := by decide +kernel
theorem c426_264 : fx_op 426 264 = some (.iaload, 265, 264) := by decide +kernel
theorem c426_265 : fx_op 426 265 = some (.aload_n 0, 266, 265) := by decide +kernel
theorem c426_266 : fx_op 426 266 = some (.iload_n 3, 267, 266) := by decide +kernel
theorem c426_267 : fx_ci 426 267 = some (3, 268) := by decide +kernel
theorem c426_268 : fx_op 426 268 = some (.iadd, 269, 268) := by decide +kernel
theorem c426_269 : fx_op 426 269 = some (.iaload, 270, 269) := by decide +kernel
theorem c426_270 : fx_ca 426 270 = some (211, 4, 2, 273) := by decide +kernel
theorem c426_273 : fx_op 426 273 = some (.aload_n 2, 274, 273) := by decide +kernel
theorem c426_274 : fx_op 426 274 = some (.aload_n 0, 275, 274) := by decide +kernel
theorem c426_275 : fx_op 426 275 = some (.iload_n 3, 276, 275) := by decide +kernel
theorem c426_276 : fx_ci 426 276 = some (1, 277) := by decide +kernel
theorem c426_277 : fx_op 426 277 = some (.iadd, 278, 277) := by decide +kernel
theorem c426_278 : fx_op 426 278 = some (.iaload, 279, 278) := by decide +kernel
theorem c426_279 : fx_op 426 279 = some (.aload_n 0, 280, 279) := by decide +kernel
theorem c426_280 : fx_op 426 280 = some (.iload_n 3, 281, 280) := by decide +kernel
theorem c426_281 : fx_ci 426 281 = some (2, 282) := by decide +kernel
theorem c426_282 : fx_op 426 282 = some (.iadd, 283, 282) := by decide +kernel
theorem c426_283 : fx_op 426 283 = some (.iaload, 284, 283) := by decide +kernel
theorem c426_284 : fx_op 426 284 = some (.aload_n 0, 285, 284) := by decide +kernel
theorem c426_285 : fx_op 426 285 = some (.iload_n 3, 286, 285) := by decide +kernel
theorem c426_286 : fx_ci 426 286 = some (3, 287) := by decide +kernel
theorem c426_287 : fx_op 426 287 = some (.iadd, 288, 287) := by decide +kernel
theorem c426_288 : fx_op 426 288 = some (.iaload, 289, 288) := by decide +kernel
theorem c426_289 : fx_ca 426 289 = some (425, 4, 2, 292) := by decide +kernel
theorem c426_292 : fx_op 426 292 = some (.if_icmp .eq 5, 295, 297) := by decide +kernel
theorem c426_297 : fx_op 426 297 = some (.iinc 3 6, 300, 297) := by decide +kernel
theorem c426_300 : fx_op 426 300 = some (.goto (-282), 303, 18) := by decide +kernel
theorem c426_303 : fx_ci 426 303 = some (1, 304) := by decide +kernel
theorem c426_304 : fx_op 426 304 = some (.ireturn, 305, 304) := by decide +kernel
theorem lw_op0 {d L : Nat} {xs : Nat → Int32} {i : Int} {M : fx_M} {Q : Option fx_V → fx_M → Prop} (hi : 0 ≤ i) (hL : i + 6 ≤ L) (hN : L ≤ 2147483647) (H : lw_call (kcs L xs) d 14 216 [jI (xs (i + 1).toNat).toInt, jI (xs (i + 2).toNat).toInt, jI (xs (i + 3).toNat).toInt, jI (xs (i + 4).toNat).toInt, jI (xs (i + 5).toNat).toInt] M (fun M2 => wp (kcs L xs) (d + 1) 426 297 [some (jR 1000000), some (jR 0), some (jR 133), some (jI i)] [] M2 Q)) : wp (kcs L xs) (d + 1) 426 76 [some (jR 1000000), some (jR 0), some (jR 133), some (jI i)] [] M Q :=
  (x_aldn c426_76 rfl (x_aldn c426_77 rfl (x_ildn c426_78 rfl (x_ci c426_79 (x_iadd c426_80 (x_ialdk c426_81 (Nat.lt_irrefl 1000000) (kcs_0 L xs) ⟨by omega, by omega⟩ hN (x_aldn c426_82 rfl (x_ildn c426_83 rfl (x_ci c426_84 (x_iadd c426_85 (x_ialdk c426_86 (Nat.lt_irrefl 1000000) (kcs_0 L xs) ⟨by omega, by omega⟩ hN (x_aldn c426_87 rfl (x_ildn c426_88 rfl (x_ci c426_89 (x_iadd c426_90 (x_ialdk c426_91 (Nat.lt_irrefl 1000000) (kcs_0 L xs) ⟨by omega, by omega⟩ hN (x_aldn c426_92 rfl (x_ildn c426_93 rfl (x_ci c426_94 (x_iadd c426_95 (x_ialdk c426_96 (Nat.lt_irrefl 1000000) (kcs_0 L xs) ⟨by omega, by omega⟩ hN (x_aldn c426_97 rfl (x_ildn c426_98 rfl (x_ci c426_99 (x_iadd c426_100 (x_ialdk c426_101 (Nat.lt_irrefl 1000000) (kcs_0 L xs) ⟨by omega, by omega⟩ hN (x_cv (b := 0) (As := [jI (xs (i + 1).toNat).toInt, jI (xs (i + 2).toNat).toInt, jI (xs (i + 3).toNat).toInt, jI (xs (i + 4).toNat).toInt, jI (xs (i + 5).toNat).toInt]) (st := []) c426_102 cl_0 kl14 rfl (Nat.le_of_ble_eq_true rfl) mx14 (Nat.le_refl _) (wc_mono (Nat.le_refl _) (fun v1 M1 h1 => lw_one h1 fun r hr hm => (x_aldn c426_105 rfl (x_aldn c426_106 rfl (x_ildn c426_107 rfl (x_ci c426_108 (x_iadd c426_109 (x_ialdk c426_110 (Nat.lt_irrefl 1000000) (kcs_0 L xs) ⟨by omega, by omega⟩ hN (x_aldn c426_111 rfl (x_ildn c426_112 rfl (x_ci c426_113 (x_iadd c426_114 (x_ialdk c426_115 (Nat.lt_irrefl 1000000) (kcs_0 L xs) ⟨by omega, by omega⟩ hN (x_aldn c426_116 rfl (x_ildn c426_117 rfl (x_ci c426_118 (x_iadd c426_119 (x_ialdk c426_120 (Nat.lt_irrefl 1000000) (kcs_0 L xs) ⟨by omega, by omega⟩ hN (x_aldn c426_121 rfl (x_ildn c426_122 rfl (x_ci c426_123 (x_iadd c426_124 (x_ialdk c426_125 (Nat.lt_irrefl 1000000) (kcs_0 L xs) ⟨by omega, by omega⟩ hN (x_aldn c426_126 rfl (x_ildn c426_127 rfl (x_ci c426_128 (x_iadd c426_129 (x_ialdk c426_130 (Nat.lt_irrefl 1000000) (kcs_0 L xs) ⟨by omega, by omega⟩ hN (x_cv (b := 133) (As := [jI (xs (i + 1).toNat).toInt, jI (xs (i + 2).toNat).toInt, jI (xs (i + 3).toNat).toInt, jI (xs (i + 4).toNat).toInt, jI (xs (i + 5).toNat).toInt]) (st := [jI r]) c426_131 cl_133 kl216 rfl (Nat.le_of_ble_eq_true rfl) mx216 (Nat.le_refl _) (wc_mono (Nat.le_refl _) (fun v2 M2 h2 => lw_two h2 fun hK => (x_ceq c426_134 hr hr (fun _ => hK) (fun h => absurd rfl h))) hm))))))))))))))))))))))))))))) H))))))))))))))))))))))))))))
theorem lw_op1 {d L : Nat} {xs : Nat → Int32} {i : Int} {M : fx_M} {Q : Option fx_V → fx_M → Prop} (hi : 0 ≤ i) (hL : i + 6 ≤ L) (hN : L ≤ 2147483647) (H : lw_call (kcs L xs) d 16 218 [jI (xs (i + 1).toNat).toInt] M (fun M2 => wp (kcs L xs) (d + 1) 426 297 [some (jR 1000000), some (jR 0), some (jR 133), some (jI i)] [] M2 Q)) : wp (kcs L xs) (d + 1) 426 139 [some (jR 1000000), some (jR 0), some (jR 133), some (jI i)] [] M Q :=
  (x_aldn c426_139 rfl (x_aldn c426_140 rfl (x_ildn c426_141 rfl (x_ci c426_142 (x_iadd c426_143 (x_ialdk c426_144 (Nat.lt_irrefl 1000000) (kcs_0 L xs) ⟨by omega, by omega⟩ hN (x_cv (b := 0) (As := [jI (xs (i + 1).toNat).toInt]) (st := []) c426_145 cl_0 kl16 rfl (Nat.le_of_ble_eq_true rfl) mx16 (Nat.le_refl _) (wc_mono (Nat.le_refl _) (fun v1 M1 h1 => lw_one h1 fun r hr hm => (x_aldn c426_148 rfl (x_aldn c426_149 rfl (x_ildn c426_150 rfl (x_ci c426_151 (x_iadd c426_152 (x_ialdk c426_153 (Nat.lt_irrefl 1000000) (kcs_0 L xs) ⟨by omega, by omega⟩ hN (x_cv (b := 133) (As := [jI (xs (i + 1).toNat).toInt]) (st := [jI r]) c426_154 cl_133 kl218 rfl (Nat.le_of_ble_eq_true rfl) mx218 (Nat.le_refl _) (wc_mono (Nat.le_refl _) (fun v2 M2 h2 => lw_two h2 fun hK => (x_ceq c426_157 hr hr (fun _ => hK) (fun h => absurd rfl h))) hm))))))))) H))))))))
theorem lw_op2 {d L : Nat} {xs : Nat → Int32} {i : Int} {M : fx_M} {Q : Option fx_V → fx_M → Prop} (hi : 0 ≤ i) (hL : i + 6 ≤ L) (hN : L ≤ 2147483647) (H : lw_call (kcs L xs) d 205 421 [jI (xs (i + 1).toNat).toInt] M (fun M2 => wp (kcs L xs) (d + 1) 426 297 [some (jR 1000000), some (jR 0), some (jR 133), some (jI i)] [] M2 Q)) : wp (kcs L xs) (d + 1) 426 162 [some (jR 1000000), some (jR 0), some (jR 133), some (jI i)] [] M Q :=
  (x_aldn c426_162 rfl (x_aldn c426_163 rfl (x_ildn c426_164 rfl (x_ci c426_165 (x_iadd c426_166 (x_ialdk c426_167 (Nat.lt_irrefl 1000000) (kcs_0 L xs) ⟨by omega, by omega⟩ hN (x_cv (b := 0) (As := [jI (xs (i + 1).toNat).toInt]) (st := []) c426_168 cl_0 kl205 rfl (Nat.le_of_ble_eq_true rfl) mx205 (Nat.le_refl _) (wc_mono (Nat.le_refl _) (fun v1 M1 h1 => lw_one h1 fun r hr hm => (x_aldn c426_171 rfl (x_aldn c426_172 rfl (x_ildn c426_173 rfl (x_ci c426_174 (x_iadd c426_175 (x_ialdk c426_176 (Nat.lt_irrefl 1000000) (kcs_0 L xs) ⟨by omega, by omega⟩ hN (x_cv (b := 133) (As := [jI (xs (i + 1).toNat).toInt]) (st := [jI r]) c426_177 cl_133 kl421 rfl (Nat.le_of_ble_eq_true rfl) mx421 (Nat.le_refl _) (wc_mono (Nat.le_refl _) (fun v2 M2 h2 => lw_two h2 fun hK => (x_ceq c426_180 hr hr (fun _ => hK) (fun h => absurd rfl h))) hm))))))))) H))))))))
theorem lw_op3 {d L : Nat} {xs : Nat → Int32} {i : Int} {M : fx_M} {Q : Option fx_V → fx_M → Prop} (hi : 0 ≤ i) (hL : i + 6 ≤ L) (hN : L ≤ 2147483647) (H : lw_call (kcs L xs) d 206 422 [] M (fun M2 => wp (kcs L xs) (d + 1) 426 297 [some (jR 1000000), some (jR 0), some (jR 133), some (jI i)] [] M2 Q)) : wp (kcs L xs) (d + 1) 426 185 [some (jR 1000000), some (jR 0), some (jR 133), some (jI i)] [] M Q :=
  (x_aldn c426_185 rfl (x_cv (b := 0) (As := []) (st := []) c426_186 cl_0 kl206 rfl (Nat.le_of_ble_eq_true rfl) mx206 (Nat.le_refl _) (wc_mono (Nat.le_refl _) (fun v1 M1 h1 => lw_one h1 fun r hr hm => (x_aldn c426_189 rfl (x_cv (b := 133) (As := []) (st := [jI r]) c426_190 cl_133 kl422 rfl (Nat.le_of_ble_eq_true rfl) mx422 (Nat.le_refl _) (wc_mono (Nat.le_refl _) (fun v2 M2 h2 => lw_two h2 fun hK => (x_ceq c426_193 hr hr (fun _ => hK) (fun h => absurd rfl h))) hm)))) H)))
theorem lw_op4 {d L : Nat} {xs : Nat → Int32} {i : Int} {M : fx_M} {Q : Option fx_V → fx_M → Prop} (hi : 0 ≤ i) (hL : i + 6 ≤ L) (hN : L ≤ 2147483647) (H : lw_call (kcs L xs) d 207 423 [jI (xs (i + 1).toNat).toInt] M (fun M2 => wp (kcs L xs) (d + 1) 426 297 [some (jR 1000000), some (jR 0), some (jR 133), some (jI i)] [] M2 Q)) : wp (kcs L xs) (d + 1) 426 198 [some (jR 1000000), some (jR 0), some (jR 133), some (jI i)] [] M Q :=
  (x_aldn c426_198 rfl (x_aldn c426_199 rfl (x_ildn c426_200 rfl (x_ci c426_201 (x_iadd c426_202 (x_ialdk c426_203 (Nat.lt_irrefl 1000000) (kcs_0 L xs) ⟨by omega, by omega⟩ hN (x_cv (b := 0) (As := [jI (xs (i + 1).toNat).toInt]) (st := []) c426_204 cl_0 kl207 rfl (Nat.le_of_ble_eq_true rfl) mx207 (Nat.le_refl _) (wc_mono (Nat.le_refl _) (fun v1 M1 h1 => lw_one h1 fun r hr hm => (x_aldn c426_207 rfl (x_aldn c426_208 rfl (x_ildn c426_209 rfl (x_ci c426_210 (x_iadd c426_211 (x_ialdk c426_212 (Nat.lt_irrefl 1000000) (kcs_0 L xs) ⟨by omega, by omega⟩ hN (x_cv (b := 133) (As := [jI (xs (i + 1).toNat).toInt]) (st := [jI r]) c426_213 cl_133 kl423 rfl (Nat.le_of_ble_eq_true rfl) mx423 (Nat.le_refl _) (wc_mono (Nat.le_refl _) (fun v2 M2 h2 => lw_two h2 fun hK => (x_ceq c426_216 hr hr (fun _ => hK) (fun h => absurd rfl h))) hm))))))))) H))))))))
theorem lw_op5 {d L : Nat} {xs : Nat → Int32} {i : Int} {M : fx_M} {Q : Option fx_V → fx_M → Prop} (hi : 0 ≤ i) (hL : i + 6 ≤ L) (hN : L ≤ 2147483647) (H : lw_call (kcs L xs) d 209 424 [jI (xs (i + 1).toNat).toInt, jI (xs (i + 2).toNat).toInt] M (fun M2 => wp (kcs L xs) (d + 1) 426 297 [some (jR 1000000), some (jR 0), some (jR 133), some (jI i)] [] M2 Q)) : wp (kcs L xs) (d + 1) 426 221 [some (jR 1000000), some (jR 0), some (jR 133), some (jI i)] [] M Q :=
  (x_aldn c426_221 rfl (x_aldn c426_222 rfl (x_ildn c426_223 rfl (x_ci c426_224 (x_iadd c426_225 (x_ialdk c426_226 (Nat.lt_irrefl 1000000) (kcs_0 L xs) ⟨by omega, by omega⟩ hN (x_aldn c426_227 rfl (x_ildn c426_228 rfl (x_ci c426_229 (x_iadd c426_230 (x_ialdk c426_231 (Nat.lt_irrefl 1000000) (kcs_0 L xs) ⟨by omega, by omega⟩ hN (x_cv (b := 0) (As := [jI (xs (i + 1).toNat).toInt, jI (xs (i + 2).toNat).toInt]) (st := []) c426_232 cl_0 kl209 rfl (Nat.le_of_ble_eq_true rfl) mx209 (Nat.le_refl _) (wc_mono (Nat.le_refl _) (fun v1 M1 h1 => lw_one h1 fun r hr hm => (x_aldn c426_235 rfl (x_aldn c426_236 rfl (x_ildn c426_237 rfl (x_ci c426_238 (x_iadd c426_239 (x_ialdk c426_240 (Nat.lt_irrefl 1000000) (kcs_0 L xs) ⟨by omega, by omega⟩ hN (x_aldn c426_241 rfl (x_ildn c426_242 rfl (x_ci c426_243 (x_iadd c426_244 (x_ialdk c426_245 (Nat.lt_irrefl 1000000) (kcs_0 L xs) ⟨by omega, by omega⟩ hN (x_cv (b := 133) (As := [jI (xs (i + 1).toNat).toInt, jI (xs (i + 2).toNat).toInt]) (st := [jI r]) c426_246 cl_133 kl424 rfl (Nat.le_of_ble_eq_true rfl) mx424 (Nat.le_refl _) (wc_mono (Nat.le_refl _) (fun v2 M2 h2 => lw_two h2 fun hK => (x_ceq c426_249 hr hr (fun _ => hK) (fun h => absurd rfl h))) hm)))))))))))))) H)))))))))))))
theorem lw_op6 {d L : Nat} {xs : Nat → Int32} {i : Int} {M : fx_M} {Q : Option fx_V → fx_M → Prop} (hi : 0 ≤ i) (hL : i + 6 ≤ L) (hN : L ≤ 2147483647) (H : lw_call (kcs L xs) d 211 425 [jI (xs (i + 1).toNat).toInt, jI (xs (i + 2).toNat).toInt, jI (xs (i + 3).toNat).toInt] M (fun M2 => wp (kcs L xs) (d + 1) 426 297 [some (jR 1000000), some (jR 0), some (jR 133), some (jI i)] [] M2 Q)) : wp (kcs L xs) (d + 1) 426 254 [some (jR 1000000), some (jR 0), some (jR 133), some (jI i)] [] M Q :=
  (x_aldn c426_254 rfl (x_aldn c426_255 rfl (x_ildn c426_256 rfl (x_ci c426_257 (x_iadd c426_258 (x_ialdk c426_259 (Nat.lt_irrefl 1000000) (kcs_0 L xs) ⟨by omega, by omega⟩ hN (x_aldn c426_260 rfl (x_ildn c426_261 rfl (x_ci c426_262 (x_iadd c426_263 (x_ialdk c426_264 (Nat.lt_irrefl 1000000) (kcs_0 L xs) ⟨by omega, by omega⟩ hN (x_aldn c426_265 rfl (x_ildn c426_266 rfl (x_ci c426_267 (x_iadd c426_268 (x_ialdk c426_269 (Nat.lt_irrefl 1000000) (kcs_0 L xs) ⟨by omega, by omega⟩ hN (x_cv (b := 0) (As := [jI (xs (i + 1).toNat).toInt, jI (xs (i + 2).toNat).toInt, jI (xs (i + 3).toNat).toInt]) (st := []) c426_270 cl_0 kl211 rfl (Nat.le_of_ble_eq_true rfl) mx211 (Nat.le_refl _) (wc_mono (Nat.le_refl _) (fun v1 M1 h1 => lw_one h1 fun r hr hm => (x_aldn c426_273 rfl (x_aldn c426_274 rfl (x_ildn c426_275 rfl (x_ci c426_276 (x_iadd c426_277 (x_ialdk c426_278 (Nat.lt_irrefl 1000000) (kcs_0 L xs) ⟨by omega, by omega⟩ hN (x_aldn c426_279 rfl (x_ildn c426_280 rfl (x_ci c426_281 (x_iadd c426_282 (x_ialdk c426_283 (Nat.lt_irrefl 1000000) (kcs_0 L xs) ⟨by omega, by omega⟩ hN (x_aldn c426_284 rfl (x_ildn c426_285 rfl (x_ci c426_286 (x_iadd c426_287 (x_ialdk c426_288 (Nat.lt_irrefl 1000000) (kcs_0 L xs) ⟨by omega, by omega⟩ hN (x_cv (b := 133) (As := [jI (xs (i + 1).toNat).toInt, jI (xs (i + 2).toNat).toInt, jI (xs (i + 3).toNat).toInt]) (st := [jI r]) c426_289 cl_133 kl425 rfl (Nat.le_of_ble_eq_true rfl) mx425 (Nat.le_refl _) (wc_mono (Nat.le_refl _) (fun v2 M2 h2 => lw_two h2 fun hK => (x_ceq c426_292 hr hr (fun _ => hK) (fun h => absurd rfl h))) hm))))))))))))))))))) H))))))))))))))))))
/-- what a call asks of a relation: from R M, the two answers are alike and R' holds behind -/
def lw_step (d : Nat) (kc : List va_E) (s : Nat → Int) (M : fx_M) (K : fx_M → Prop) : Prop :=
  (fx_and (s 0) 7 = 0 → lw_call kc d 14 216 [jI (s 1), jI (s 2), jI (s 3), jI (s 4), jI (s 5)] M K) ∧
  (fx_and (s 0) 7 = 1 → lw_call kc d 16 218 [jI (s 1)] M K) ∧
  (fx_and (s 0) 7 = 2 → lw_call kc d 205 421 [jI (s 1)] M K) ∧
  (fx_and (s 0) 7 = 3 → lw_call kc d 206 422 [] M K) ∧
  (fx_and (s 0) 7 = 4 → lw_call kc d 207 423 [jI (s 1)] M K) ∧
  (fx_and (s 0) 7 = 5 → lw_call kc d 209 424 [jI (s 1), jI (s 2)] M K) ∧
  (fx_and (s 0) 7 = 6 → lw_call kc d 211 425 [jI (s 1), jI (s 2), jI (s 3)] M K) ∧
  ((fx_and (s 0) 7 < 0 ∨ 7 ≤ fx_and (s 0) 7) → K M)
theorem fx_and_in (x y : Int) : fx_in32 (fx_and x y) := lw_in _
theorem lw_turn {d L : Nat} {xs : Nat → Int32} {i : Int} {M : fx_M} {Q : Option fx_V → fx_M → Prop} (hi : 0 ≤ i) (hL : i + 6 ≤ L) (hN : L ≤ 2147483647) (H : lw_step d (kcs L xs) (fun k => (xs (i + k).toNat).toInt) M (fun M2 => wp (kcs L xs) (d + 1) 426 18 [some (jR 1000000), some (jR 0), some (jR 133), some (jI (i + 6))] [] M2 Q)) : wp (kcs L xs) (d + 1) 426 27 [some (jR 1000000), some (jR 0), some (jR 133), some (jI i)] [] M Q := by
  have e : ∀ M2, wp (kcs L xs) (d + 1) 426 18 [some (jR 1000000), some (jR 0), some (jR 133), some (jI (i + 6))] [] M2 Q → wp (kcs L xs) (d + 1) 426 297 [some (jR 1000000), some (jR 0), some (jR 133), some (jI i)] [] M2 Q := fun M2 h => x_inc c426_297 rfl rfl (x_goto c426_300 h)
  refine x_aldn c426_27 rfl (x_ildn c426_28 rfl (x_ialdk c426_29 (Nat.lt_irrefl 1000000) (kcs_0 L xs) ⟨by omega, by omega⟩ hN (x_ci c426_30 (x_iand c426_32 ?_))))
  obtain ⟨h0, h1, h2, h3, h4, h5, h6, h7⟩ := H
  have e0 : ((xs (i + ((0 : Nat) : Int)).toNat).toInt) = (xs i.toNat).toInt := by
    congr 3
    omega
  simp only [e0] at h0 h1 h2 h3 h4 h5 h6 h7
  refine x_sw c426_33 (fx_and_in _ _) ⟨fun h => ?_, fun h => ?_, fun h => ?_, fun h => ?_, fun h => ?_, fun h => ?_, fun h => ?_, trivial⟩ (fun h => e _ (h7 (by simpa using h)))
  · exact lw_op0 hi hL hN (lw_call_mono (Nat.le_refl _) e (h0 h))
  · exact lw_op1 hi hL hN (lw_call_mono (Nat.le_refl _) e (h1 h))
  · exact lw_op2 hi hL hN (lw_call_mono (Nat.le_refl _) e (h2 h))
  · exact lw_op3 hi hL hN (lw_call_mono (Nat.le_refl _) e (h3 h))
  · exact lw_op4 hi hL hN (lw_call_mono (Nat.le_refl _) e (h4 h))
  · exact lw_op5 hi hL hN (lw_call_mono (Nat.le_refl _) e (h5 h))
  · exact lw_op6 hi hL hN (lw_call_mono (Nat.le_refl _) e (h6 h))
/-- the law's loop, k calls made: R k holds of the memory -/
theorem lw_loop {N d L : Nat} {xs : Nat → Int32} {R : Nat → fx_M → Prop} (hLN : L ≤ N) (hN : N ≤ 2000000000) (hR : ∀ (k : Nat) (M : fx_M) (s : Nat → Int), 6 * (k + 1) ≤ N → (∀ j, fx_in32 (s j)) → R k M → lw_step d (kcs L xs) s M (R (k + 1))) : ∀ (n k : Nat) (M : fx_M), L + 6 ≤ 6 * k + 6 * n → 6 * k ≤ L → R k M → wp (kcs L xs) (d + 1) 426 18 [some (jR 1000000), some (jR 0), some (jR 133), some (jI ((6 * k : Nat) : Int))] [] M (fun v _ => v = some (jI 1))
  | 0, k, M, h1, h2, _ => by omega
  | n + 1, k, M, h1, h2, hM => by
    refine x_ildn c426_18 rfl (x_aldn c426_19 rfl (x_lenk c426_20 (Nat.lt_irrefl 1000000) (kcs_0 L xs) (x_ci c426_21 (x_isub c426_23 (x_cgt c426_24 ⟨by omega, by omega⟩ ⟨by omega, by omega⟩ (fun h => x_ci c426_303 (x_zrt c426_304 (by decide +kernel) ⟨by omega, by omega⟩ rfl)) (fun h => ?_))))))
    refine lw_turn (by omega) (by omega) (by omega) ?_
    have hs := hR k M (fun j => (xs (((6 * k : Nat) : Int) + j).toNat).toInt) (by omega) (fun j => lw_in _) hM
    have e : ((6 * k : Nat) : Int) + 6 = ((6 * (k + 1) : Nat) : Int) := by omega
    rw [e]
    have up : ∀ M2, R (k + 1) M2 → wp (kcs L xs) (d + 1) 426 18 [some (jR 1000000), some (jR 0), some (jR 133), some (jI ((6 * (k + 1) : Nat) : Int))] [] M2 (fun v _ => v = some (jI 1)) := fun M2 h3 => lw_loop hLN hN hR n (k + 1) M2 (by omega) (by omega) h3
    obtain ⟨h0, h1, h2, h3, h4, h5, h6, h7⟩ := hs
    exact ⟨fun h => lw_call_mono (Nat.le_refl _) up (h0 h), fun h => lw_call_mono (Nat.le_refl _) up (h1 h), fun h => lw_call_mono (Nat.le_refl _) up (h2 h), fun h => lw_call_mono (Nat.le_refl _) up (h3 h), fun h => lw_call_mono (Nat.le_refl _) up (h4 h), fun h => lw_call_mono (Nat.le_refl _) up (h5 h), fun h => lw_call_mono (Nat.le_refl _) up (h6 h), fun h => up _ (h7 h)⟩
