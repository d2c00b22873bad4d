/-! calls, checked in pieces (by gen/emit_tables.py) -/
noncomputable def xScall (y : MethodName) (n : Nat) : Bool := !decide (y.cls = "java/lang/invoke/MethodHandle") && !decide (y.cls = "java/lang/invoke/VarHandle") && decide ((parseMethodDescriptor y.desc).map (fun d => d.parameters.length) = some n)
noncomputable def xmchk (k : Nat) : Bool := xScall (xY k) (xAr k) && decide (xM k ≤ 40) && (plainName (xY k).cls || decide ((xY k).cls = "java/lang/Math") || decide ((xY k).cls = "java/lang/Object"))
theorem xmc_0 : ([0, 1, 2, 3, 4, 5, 6, 7, 8, 9, 10, 11, 12, 13, 14, 15, 16, 17, 18, 19, 20, 21, 22, 23, 24, 25, 26, 27, 28, 29] : List Nat).all xmchk = true := by decide +kernel
theorem xmc_1 : ([30, 31, 32, 33, 34, 35, 36, 37, 38, 39, 40, 41, 42, 43, 44, 45, 46, 47, 48, 49, 50, 51, 52, 53, 54, 55, 56, 57, 58, 59] : List Nat).all xmchk = true := by decide +kernel
theorem xmc_2 : ([60, 61, 62, 63, 64, 65, 66, 67, 68, 69, 70, 71, 72, 73, 74, 75, 76, 77, 78, 79, 80, 81, 82, 83, 84, 85, 86, 87, 88, 89] : List Nat).all xmchk = true := by decide +kernel
theorem xmc_3 : ([90, 91, 92, 93, 94, 95, 96, 97, 98, 99, 100, 101, 102, 103, 104, 105, 106, 107, 108, 109, 110, 111, 112, 113, 114, 115, 116, 117, 118, 119] : List Nat).all xmchk = true := by decide +kernel
theorem xmc_4 : ([120, 121, 122, 123, 124, 125, 126, 127, 128, 129, 130, 131, 132, 133, 134, 135, 136, 137, 138, 139, 140, 141, 142, 143, 144, 145, 146, 147, 148, 149] : List Nat).all xmchk = true := by decide +kernel
theorem xmc_5 : ([150, 151, 152, 153, 154, 155, 156, 157, 158, 159, 160, 161, 162, 163, 164, 165, 166, 167, 168, 169, 170, 171, 172, 173, 174, 175, 176, 177, 178, 179] : List Nat).all xmchk = true := by decide +kernel
theorem xmc_6 : ([180, 181, 182, 183, 184, 185, 186, 187, 188, 189, 190, 191, 192, 193, 194, 195, 196, 197, 198, 199, 200, 201, 202, 203, 204, 205, 206, 207, 208, 209] : List Nat).all xmchk = true := by decide +kernel
theorem xmc_7 : ([210, 211, 212, 213, 214, 215, 216, 217, 218, 219, 220, 221, 222, 223, 224, 225, 226, 227, 228, 229, 230, 231, 232, 233, 234, 235, 236, 237, 238, 239] : List Nat).all xmchk = true := by decide +kernel
theorem xmc_8 : ([240, 241, 242, 243, 244, 245, 246, 247, 248, 249, 250, 251, 252, 253, 254, 255, 256, 257, 258, 259, 260, 261, 262, 263, 264, 265, 266, 267, 268, 269] : List Nat).all xmchk = true := by decide +kernel
theorem xmc_9 : ([270, 271, 272, 273, 274, 275, 276, 277, 278, 279, 280, 281, 282, 283, 284, 285, 286, 287, 288, 289, 290, 291, 292, 293, 294, 295, 296, 297, 298, 299] : List Nat).all xmchk = true := by decide +kernel
theorem xmc_10 : ([300, 301, 302, 303, 304, 305, 306, 307, 308, 309, 310, 311, 312, 313, 314, 315, 316, 317, 318, 319, 320, 321, 322, 323, 324, 325, 326, 327, 328, 329] : List Nat).all xmchk = true := by decide +kernel
theorem xmc_11 : ([330, 331, 332, 333, 334, 335, 336, 337, 338, 339, 340, 341, 342, 343, 344, 345, 346, 347, 348, 349, 350, 351, 352, 353, 354, 355, 356, 357, 358, 359] : List Nat).all xmchk = true := by decide +kernel
theorem xmc_12 : ([360, 361, 362, 363, 364, 365, 366, 367, 368, 369, 370, 371, 372, 373, 374, 375, 376, 377, 378, 379, 380, 381, 382, 383, 384, 385, 386, 387, 388, 389] : List Nat).all xmchk = true := by decide +kernel
theorem xmc_13 : ([390, 391, 392, 393, 394, 395, 396, 397, 398, 399, 400, 401, 402, 403, 404, 405, 406, 407, 408, 409, 410, 411, 412, 413, 414, 415, 416, 417, 418, 419] : List Nat).all xmchk = true := by decide +kernel
theorem xmc_14 : ([420, 421, 422, 423, 424, 425, 426, 427, 428] : List Nat).all xmchk = true := by decide +kernel
theorem xmc_ok {k : Nat} (h : k < 429) : xmchk k = true := by
  by_cases h0 : k < 30
  · exact List.all_eq_true.mp xmc_0 k (by simp only [List.mem_cons, List.not_mem_nil, or_false]; omega)
  by_cases h1 : k < 60
  · exact List.all_eq_true.mp xmc_1 k (by simp only [List.mem_cons, List.not_mem_nil, or_false]; omega)
  by_cases h2 : k < 90
  · exact List.all_eq_true.mp xmc_2 k (by simp only [List.mem_cons, List.not_mem_nil, or_false]; omega)
  by_cases h3 : k < 120
  · exact List.all_eq_true.mp xmc_3 k (by simp only [List.mem_cons, List.not_mem_nil, or_false]; omega)
  by_cases h4 : k < 150
  · exact List.all_eq_true.mp xmc_4 k (by simp only [List.mem_cons, List.not_mem_nil, or_false]; omega)
  by_cases h5 : k < 180
  · exact List.all_eq_true.mp xmc_5 k (by simp only [List.mem_cons, List.not_mem_nil, or_false]; omega)
  by_cases h6 : k < 210
  · exact List.all_eq_true.mp xmc_6 k (by simp only [List.mem_cons, List.not_mem_nil, or_false]; omega)
  by_cases h7 : k < 240
  · exact List.all_eq_true.mp xmc_7 k (by simp only [List.mem_cons, List.not_mem_nil, or_false]; omega)
  by_cases h8 : k < 270
  · exact List.all_eq_true.mp xmc_8 k (by simp only [List.mem_cons, List.not_mem_nil, or_false]; omega)
  by_cases h9 : k < 300
  · exact List.all_eq_true.mp xmc_9 k (by simp only [List.mem_cons, List.not_mem_nil, or_false]; omega)
  by_cases h10 : k < 330
  · exact List.all_eq_true.mp xmc_10 k (by simp only [List.mem_cons, List.not_mem_nil, or_false]; omega)
  by_cases h11 : k < 360
  · exact List.all_eq_true.mp xmc_11 k (by simp only [List.mem_cons, List.not_mem_nil, or_false]; omega)
  by_cases h12 : k < 390
  · exact List.all_eq_true.mp xmc_12 k (by simp only [List.mem_cons, List.not_mem_nil, or_false]; omega)
  by_cases h13 : k < 420
  · exact List.all_eq_true.mp xmc_13 k (by simp only [List.mem_cons, List.not_mem_nil, or_false]; omega)
  by_cases h14 : k < 429
  · exact List.all_eq_true.mp xmc_14 k (by simp only [List.mem_cons, List.not_mem_nil, or_false]; omega)
  omega
