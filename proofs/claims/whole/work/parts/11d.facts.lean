/-! FACTS of the layout and of the methods (by gen/emit_facts.py): k_a_k fields, a_a arrays, cl_a classes of places; mx words of arguments, kl class, r kind of answer of methods -/
def fx_puz (p : Nat) : Prop := p ∈ [11, 20, 71, 80, 89, 98, 107, 116]
def fx_scn (s : Nat) : Prop := s ∈ [7, 129]
def fx_out (o : Nat) : Prop := o ∈ [3, 5]
def fx_frm (f : Nat) : Prop := f ∈ [40, 45]
def fx_ol (o : Nat) : Nat := if o = 3 then 5600 else 512
theorem fx_ol_le (o : Nat) : fx_ol o ≤ 2147483647 := by
  unfold fx_ol
  split <;> decide
theorem fx_puz_it {x : Int} (h : 0 ≤ x ∧ x < 6) : fx_puz (71 + 9 * x.toNat) := by
  have : x = 0 ∨ x = 1 ∨ x = 2 ∨ x = 3 ∨ x = 4 ∨ x = 5 := by omega
  rcases this with e | e | e | e | e | e <;> subst e <;> (unfold fx_puz; decide)
theorem fx_cmp_in (x y : Int) : fx_in32 (fx_cmp x y) := by
  unfold fx_cmp
  split
  · decide
  · split <;> decide
theorem cl_0 : fx_cls 0 = some 0 := by decide +kernel
theorem k_0_0 : fx_k 0 0 = some (0, 1 + 3) := by decide +kernel
theorem k_0_1 : fx_k 0 1 = some (0, 0) := by decide +kernel
theorem k_0_2 : fx_k 0 2 = some (0, 2 + 3) := by decide +kernel
theorem k_0_3 : fx_k 0 3 = some (0, 3 + 3) := by decide +kernel
theorem k_0_4 : fx_k 0 4 = some (0, 5 + 3) := by decide +kernel
theorem k_0_5 : fx_k 0 5 = some (0, 7 + 3) := by decide +kernel
theorem k_0_6 : fx_k 0 6 = some (0, 11 + 3) := by decide +kernel
theorem k_0_7 : fx_k 0 7 = some (0, 20 + 3) := by decide +kernel
theorem k_0_8 : fx_k 0 8 = some (0, 29 + 3) := by decide +kernel
theorem k_0_9 : fx_k 0 9 = some (0, 31 + 3) := by decide +kernel
theorem k_0_10 : fx_k 0 10 = some (0, 34 + 3) := by decide +kernel
theorem k_0_11 : fx_k 0 11 = some (0, 40 + 3) := by decide +kernel
theorem k_0_12 : fx_k 0 12 = some (0, 45 + 3) := by decide +kernel
theorem k_0_13 : fx_k 0 13 = some (0, 50 + 3) := by decide +kernel
theorem k_0_14 : fx_k 0 14 = some (0, 53 + 3) := by decide +kernel
theorem k_0_15 : fx_k 0 15 = some (0, 62 + 3) := by decide +kernel
theorem k_0_16 : fx_k 0 16 = some (0, 125 + 3) := by decide +kernel
theorem a_1 : fx_a 1 = some (1, 3200) := by decide +kernel
theorem a_2 : fx_a 2 = some (1, 5606) := by decide +kernel
theorem cl_3 : fx_cls 3 = some 1 := by decide +kernel
theorem k_3_0 : fx_k 3 0 = some (1, 4 + 3) := by decide +kernel
theorem k_3_1 : fx_k 3 1 = some (1, 0) := by decide +kernel
theorem a_4 : fx_a 4 = some (1, 5600) := by decide +kernel
theorem cl_5 : fx_cls 5 = some 1 := by decide +kernel
theorem k_5_0 : fx_k 5 0 = some (1, 6 + 3) := by decide +kernel
theorem k_5_1 : fx_k 5 1 = some (1, 0) := by decide +kernel
theorem a_6 : fx_a 6 = some (1, 512) := by decide +kernel
theorem cl_7 : fx_cls 7 = some 2 := by decide +kernel
theorem k_7_0 : fx_k 7 0 = some (2, 2) := by decide +kernel
theorem k_7_1 : fx_k 7 1 = some (2, 0) := by decide +kernel
theorem k_7_2 : fx_k 7 2 = some (2, 0) := by decide +kernel
theorem k_7_3 : fx_k 7 3 = some (2, 0) := by decide +kernel
theorem k_7_4 : fx_k 7 4 = some (2, 2) := by decide +kernel
theorem k_7_5 : fx_k 7 5 = some (2, 9 + 3) := by decide +kernel
theorem k_7_6 : fx_k 7 6 = some (2, 0) := by decide +kernel
theorem k_7_7 : fx_k 7 7 = some (2, 0) := by decide +kernel
theorem k_7_8 : fx_k 7 8 = some (2, 0) := by decide +kernel
theorem k_7_9 : fx_k 7 9 = some (2, 0) := by decide +kernel
theorem k_7_10 : fx_k 7 10 = some (2, 0) := by decide +kernel
theorem k_7_11 : fx_k 7 11 = some (2, 0) := by decide +kernel
theorem k_7_12 : fx_k 7 12 = some (2, 0) := by decide +kernel
theorem k_7_13 : fx_k 7 13 = some (2, 10 + 3) := by decide +kernel
theorem k_7_14 : fx_k 7 14 = some (2, 0) := by decide +kernel
theorem k_7_15 : fx_k 7 15 = some (2, 0) := by decide +kernel
theorem a_8 : fx_a 8 = some (1, 0) := by decide +kernel
theorem a_9 : fx_a 9 = some (0, 4) := by decide +kernel
theorem a_10 : fx_a 10 = some (0, 4) := by decide +kernel
theorem cl_11 : fx_cls 11 = some 3 := by decide +kernel
theorem k_11_0 : fx_k 11 0 = some (3, 0) := by decide +kernel
theorem k_11_1 : fx_k 11 1 = some (3, 0) := by decide +kernel
theorem k_11_2 : fx_k 11 2 = some (3, 0) := by decide +kernel
theorem k_11_3 : fx_k 11 3 = some (3, 0) := by decide +kernel
theorem k_11_4 : fx_k 11 4 = some (3, 0) := by decide +kernel
theorem k_11_5 : fx_k 11 5 = some (3, 12 + 3) := by decide +kernel
theorem k_11_6 : fx_k 11 6 = some (3, 13 + 3) := by decide +kernel
theorem k_11_7 : fx_k 11 7 = some (3, 14 + 3) := by decide +kernel
theorem k_11_8 : fx_k 11 8 = some (3, 15 + 3) := by decide +kernel
theorem k_11_9 : fx_k 11 9 = some (3, 16 + 3) := by decide +kernel
theorem k_11_10 : fx_k 11 10 = some (3, 17 + 3) := by decide +kernel
theorem k_11_11 : fx_k 11 11 = some (3, 18 + 3) := by decide +kernel
theorem k_11_12 : fx_k 11 12 = some (3, 0) := by decide +kernel
theorem k_11_13 : fx_k 11 13 = some (3, 19 + 3) := by decide +kernel
theorem a_12 : fx_a 12 = some (0, 12) := by decide +kernel
theorem a_13 : fx_a 13 = some (0, 12) := by decide +kernel
theorem a_14 : fx_a 14 = some (0, 12) := by decide +kernel
theorem a_15 : fx_a 15 = some (0, 48) := by decide +kernel
theorem a_16 : fx_a 16 = some (0, 12) := by decide +kernel
theorem a_17 : fx_a 17 = some (0, 9) := by decide +kernel
theorem a_18 : fx_a 18 = some (2, 48) := by decide +kernel
theorem a_19 : fx_a 19 = some (0, 4) := by decide +kernel
theorem cl_20 : fx_cls 20 = some 3 := by decide +kernel
theorem k_20_0 : fx_k 20 0 = some (3, 0) := by decide +kernel
theorem k_20_1 : fx_k 20 1 = some (3, 0) := by decide +kernel
theorem k_20_2 : fx_k 20 2 = some (3, 0) := by decide +kernel
theorem k_20_3 : fx_k 20 3 = some (3, 0) := by decide +kernel
theorem k_20_4 : fx_k 20 4 = some (3, 0) := by decide +kernel
theorem k_20_5 : fx_k 20 5 = some (3, 21 + 3) := by decide +kernel
theorem k_20_6 : fx_k 20 6 = some (3, 22 + 3) := by decide +kernel
theorem k_20_7 : fx_k 20 7 = some (3, 23 + 3) := by decide +kernel
theorem k_20_8 : fx_k 20 8 = some (3, 24 + 3) := by decide +kernel
theorem k_20_9 : fx_k 20 9 = some (3, 25 + 3) := by decide +kernel
theorem k_20_10 : fx_k 20 10 = some (3, 26 + 3) := by decide +kernel
theorem k_20_11 : fx_k 20 11 = some (3, 27 + 3) := by decide +kernel
theorem k_20_12 : fx_k 20 12 = some (3, 0) := by decide +kernel
theorem k_20_13 : fx_k 20 13 = some (3, 28 + 3) := by decide +kernel
theorem a_21 : fx_a 21 = some (0, 12) := by decide +kernel
theorem a_22 : fx_a 22 = some (0, 12) := by decide +kernel
theorem a_23 : fx_a 23 = some (0, 12) := by decide +kernel
theorem a_24 : fx_a 24 = some (0, 48) := by decide +kernel
theorem a_25 : fx_a 25 = some (0, 12) := by decide +kernel
theorem a_26 : fx_a 26 = some (0, 9) := by decide +kernel
theorem a_27 : fx_a 27 = some (2, 48) := by decide +kernel
theorem a_28 : fx_a 28 = some (0, 4) := by decide +kernel
theorem cl_29 : fx_cls 29 = some 4 := by decide +kernel
theorem k_29_0 : fx_k 29 0 = some (4, 11 + 3) := by decide +kernel
theorem k_29_1 : fx_k 29 1 = some (4, 3 + 3) := by decide +kernel
theorem k_29_2 : fx_k 29 2 = some (4, 0) := by decide +kernel
theorem k_29_3 : fx_k 29 3 = some (4, 0) := by decide +kernel
theorem k_29_4 : fx_k 29 4 = some (4, 1) := by decide +kernel
theorem k_29_5 : fx_k 29 5 = some (4, 30 + 3) := by decide +kernel
theorem a_30 : fx_a 30 = some (0, 9) := by decide +kernel
theorem cl_31 : fx_cls 31 = some 5 := by decide +kernel
theorem k_31_0 : fx_k 31 0 = some (5, 11 + 3) := by decide +kernel
theorem k_31_1 : fx_k 31 1 = some (5, 3 + 3) := by decide +kernel
theorem k_31_2 : fx_k 31 2 = some (5, 0) := by decide +kernel
theorem k_31_3 : fx_k 31 3 = some (5, 0) := by decide +kernel
theorem k_31_4 : fx_k 31 4 = some (5, 0) := by decide +kernel
theorem k_31_5 : fx_k 31 5 = some (5, 0) := by decide +kernel
theorem k_31_6 : fx_k 31 6 = some (5, 0) := by decide +kernel
theorem k_31_7 : fx_k 31 7 = some (5, 0) := by decide +kernel
theorem k_31_8 : fx_k 31 8 = some (5, 0) := by decide +kernel
theorem k_31_9 : fx_k 31 9 = some (5, 0) := by decide +kernel
theorem k_31_10 : fx_k 31 10 = some (5, 0) := by decide +kernel
theorem k_31_11 : fx_k 31 11 = some (5, 0) := by decide +kernel
theorem k_31_12 : fx_k 31 12 = some (5, 32 + 3) := by decide +kernel
theorem k_31_13 : fx_k 31 13 = some (5, 33 + 3) := by decide +kernel
theorem a_32 : fx_a 32 = some (0, 10) := by decide +kernel
theorem a_33 : fx_a 33 = some (0, 10) := by decide +kernel
theorem cl_34 : fx_cls 34 = some 6 := by decide +kernel
theorem k_34_0 : fx_k 34 0 = some (6, 0) := by decide +kernel
theorem k_34_1 : fx_k 34 1 = some (6, 35 + 3) := by decide +kernel
theorem k_34_2 : fx_k 34 2 = some (6, 36 + 3) := by decide +kernel
theorem k_34_3 : fx_k 34 3 = some (6, 37 + 3) := by decide +kernel
theorem k_34_4 : fx_k 34 4 = some (6, 38 + 3) := by decide +kernel
theorem k_34_5 : fx_k 34 5 = some (6, 39 + 3) := by decide +kernel
theorem k_34_6 : fx_k 34 6 = some (6, 11 + 3) := by decide +kernel
theorem k_34_7 : fx_k 34 7 = some (6, 3 + 3) := by decide +kernel
theorem k_34_8 : fx_k 34 8 = some (6, 1) := by decide +kernel
theorem a_35 : fx_a 35 = some (0, 1600) := by decide +kernel
theorem a_36 : fx_a 36 = some (0, 1600) := by decide +kernel
theorem a_37 : fx_a 37 = some (0, 1600) := by decide +kernel
theorem a_38 : fx_a 38 = some (2, 1600) := by decide +kernel
theorem a_39 : fx_a 39 = some (2, 1600) := by decide +kernel
theorem cl_40 : fx_cls 40 = some 7 := by decide +kernel
theorem k_40_0 : fx_k 40 0 = some (7, 0) := by decide +kernel
theorem k_40_1 : fx_k 40 1 = some (7, 0) := by decide +kernel
theorem k_40_2 : fx_k 40 2 = some (7, 0) := by decide +kernel
theorem k_40_3 : fx_k 40 3 = some (7, 0) := by decide +kernel
theorem k_40_4 : fx_k 40 4 = some (7, 41 + 3) := by decide +kernel
theorem k_40_5 : fx_k 40 5 = some (7, 1) := by decide +kernel
theorem k_40_6 : fx_k 40 6 = some (7, 0) := by decide +kernel
theorem k_40_7 : fx_k 40 7 = some (7, 42 + 3) := by decide +kernel
theorem k_40_8 : fx_k 40 8 = some (7, 43 + 3) := by decide +kernel
theorem k_40_9 : fx_k 40 9 = some (7, 44 + 3) := by decide +kernel
theorem a_41 : fx_a 41 = some (0, 12) := by decide +kernel
theorem a_42 : fx_a 42 = some (0, 12) := by decide +kernel
theorem a_43 : fx_a 43 = some (0, 4) := by decide +kernel
theorem a_44 : fx_a 44 = some (0, 4) := by decide +kernel
theorem cl_45 : fx_cls 45 = some 7 := by decide +kernel
theorem k_45_0 : fx_k 45 0 = some (7, 0) := by decide +kernel
theorem k_45_1 : fx_k 45 1 = some (7, 0) := by decide +kernel
theorem k_45_2 : fx_k 45 2 = some (7, 0) := by decide +kernel
theorem k_45_3 : fx_k 45 3 = some (7, 0) := by decide +kernel
theorem k_45_4 : fx_k 45 4 = some (7, 46 + 3) := by decide +kernel
theorem k_45_5 : fx_k 45 5 = some (7, 1) := by decide +kernel
theorem k_45_6 : fx_k 45 6 = some (7, 0) := by decide +kernel
theorem k_45_7 : fx_k 45 7 = some (7, 47 + 3) := by decide +kernel
theorem k_45_8 : fx_k 45 8 = some (7, 48 + 3) := by decide +kernel
theorem k_45_9 : fx_k 45 9 = some (7, 49 + 3) := by decide +kernel
theorem a_46 : fx_a 46 = some (0, 12) := by decide +kernel
theorem a_47 : fx_a 47 = some (0, 12) := by decide +kernel
theorem a_48 : fx_a 48 = some (0, 4) := by decide +kernel
theorem a_49 : fx_a 49 = some (0, 4) := by decide +kernel
theorem cl_50 : fx_cls 50 = some 8 := by decide +kernel
theorem k_50_0 : fx_k 50 0 = some (8, 11 + 3) := by decide +kernel
theorem k_50_1 : fx_k 50 1 = some (8, 3 + 3) := by decide +kernel
theorem k_50_2 : fx_k 50 2 = some (8, 0) := by decide +kernel
theorem k_50_3 : fx_k 50 3 = some (8, 0) := by decide +kernel
theorem k_50_4 : fx_k 50 4 = some (8, 51 + 3) := by decide +kernel
theorem k_50_5 : fx_k 50 5 = some (8, 52 + 3) := by decide +kernel
theorem a_51 : fx_a 51 = some (0, 10) := by decide +kernel
theorem a_52 : fx_a 52 = some (0, 9) := by decide +kernel
theorem cl_53 : fx_cls 53 = some 9 := by decide +kernel
theorem k_53_0 : fx_k 53 0 = some (9, 0) := by decide +kernel
theorem k_53_1 : fx_k 53 1 = some (9, 54 + 3) := by decide +kernel
theorem k_53_2 : fx_k 53 2 = some (9, 55 + 3) := by decide +kernel
theorem k_53_3 : fx_k 53 3 = some (9, 56 + 3) := by decide +kernel
theorem k_53_4 : fx_k 53 4 = some (9, 57 + 3) := by decide +kernel
theorem k_53_5 : fx_k 53 5 = some (9, 58 + 3) := by decide +kernel
theorem k_53_6 : fx_k 53 6 = some (9, 59 + 3) := by decide +kernel
theorem k_53_7 : fx_k 53 7 = some (9, 60 + 3) := by decide +kernel
theorem k_53_8 : fx_k 53 8 = some (9, 61 + 3) := by decide +kernel
theorem a_54 : fx_a 54 = some (0, 27) := by decide +kernel
theorem a_55 : fx_a 55 = some (0, 27) := by decide +kernel
theorem a_56 : fx_a 56 = some (0, 3) := by decide +kernel
theorem a_57 : fx_a 57 = some (0, 3) := by decide +kernel
theorem a_58 : fx_a 58 = some (0, 300) := by decide +kernel
theorem a_59 : fx_a 59 = some (0, 300) := by decide +kernel
theorem a_60 : fx_a 60 = some (0, 300) := by decide +kernel
theorem a_61 : fx_a 61 = some (0, 300) := by decide +kernel
theorem cl_62 : fx_cls 62 = some 10 := by decide +kernel
theorem k_62_0 : fx_k 62 0 = some (10, 0) := by decide +kernel
theorem k_62_1 : fx_k 62 1 = some (10, 63 + 3) := by decide +kernel
theorem k_62_2 : fx_k 62 2 = some (10, 64 + 3) := by decide +kernel
theorem k_62_3 : fx_k 62 3 = some (10, 65 + 3) := by decide +kernel
theorem k_62_4 : fx_k 62 4 = some (10, 66 + 3) := by decide +kernel
theorem k_62_5 : fx_k 62 5 = some (10, 67 + 3) := by decide +kernel
theorem k_62_6 : fx_k 62 6 = some (10, 68 + 3) := by decide +kernel
theorem k_62_7 : fx_k 62 7 = some (10, 69 + 3) := by decide +kernel
theorem k_62_8 : fx_k 62 8 = some (10, 70 + 3) := by decide +kernel
theorem a_63 : fx_a 63 = some (1, 48) := by decide +kernel
theorem a_64 : fx_a 64 = some (0, 6) := by decide +kernel
theorem a_65 : fx_a 65 = some (5, 6) := by decide +kernel
theorem a_66 : fx_a 66 = some (0, 6) := by decide +kernel
theorem a_67 : fx_a 67 = some (0, 18) := by decide +kernel
theorem a_68 : fx_a 68 = some (0, 18) := by decide +kernel
theorem a_69 : fx_a 69 = some (0, 3) := by decide +kernel
theorem a_70 : fx_a 70 = some (0, 3) := by decide +kernel
theorem cl_71 : fx_cls 71 = some 3 := by decide +kernel
theorem a_72 : fx_a 72 = some (0, 12) := by decide +kernel
theorem a_73 : fx_a 73 = some (0, 12) := by decide +kernel
theorem a_74 : fx_a 74 = some (0, 12) := by decide +kernel
theorem a_75 : fx_a 75 = some (0, 48) := by decide +kernel
theorem a_76 : fx_a 76 = some (0, 12) := by decide +kernel
theorem a_77 : fx_a 77 = some (0, 9) := by decide +kernel
theorem a_78 : fx_a 78 = some (2, 48) := by decide +kernel
theorem a_79 : fx_a 79 = some (0, 4) := by decide +kernel
theorem cl_80 : fx_cls 80 = some 3 := by decide +kernel
theorem a_81 : fx_a 81 = some (0, 12) := by decide +kernel
theorem a_82 : fx_a 82 = some (0, 12) := by decide +kernel
theorem a_83 : fx_a 83 = some (0, 12) := by decide +kernel
theorem a_84 : fx_a 84 = some (0, 48) := by decide +kernel
theorem a_85 : fx_a 85 = some (0, 12) := by decide +kernel
theorem a_86 : fx_a 86 = some (0, 9) := by decide +kernel
theorem a_87 : fx_a 87 = some (2, 48) := by decide +kernel
theorem a_88 : fx_a 88 = some (0, 4) := by decide +kernel
theorem cl_89 : fx_cls 89 = some 3 := by decide +kernel
theorem a_90 : fx_a 90 = some (0, 12) := by decide +kernel
theorem a_91 : fx_a 91 = some (0, 12) := by decide +kernel
theorem a_92 : fx_a 92 = some (0, 12) := by decide +kernel
theorem a_93 : fx_a 93 = some (0, 48) := by decide +kernel
theorem a_94 : fx_a 94 = some (0, 12) := by decide +kernel
theorem a_95 : fx_a 95 = some (0, 9) := by decide +kernel
theorem a_96 : fx_a 96 = some (2, 48) := by decide +kernel
theorem a_97 : fx_a 97 = some (0, 4) := by decide +kernel
theorem cl_98 : fx_cls 98 = some 3 := by decide +kernel
theorem a_99 : fx_a 99 = some (0, 12) := by decide +kernel
theorem a_100 : fx_a 100 = some (0, 12) := by decide +kernel
theorem a_101 : fx_a 101 = some (0, 12) := by decide +kernel
theorem a_102 : fx_a 102 = some (0, 48) := by decide +kernel
theorem a_103 : fx_a 103 = some (0, 12) := by decide +kernel
theorem a_104 : fx_a 104 = some (0, 9) := by decide +kernel
theorem a_105 : fx_a 105 = some (2, 48) := by decide +kernel
theorem a_106 : fx_a 106 = some (0, 4) := by decide +kernel
theorem cl_107 : fx_cls 107 = some 3 := by decide +kernel
theorem a_108 : fx_a 108 = some (0, 12) := by decide +kernel
theorem a_109 : fx_a 109 = some (0, 12) := by decide +kernel
theorem a_110 : fx_a 110 = some (0, 12) := by decide +kernel
theorem a_111 : fx_a 111 = some (0, 48) := by decide +kernel
theorem a_112 : fx_a 112 = some (0, 12) := by decide +kernel
theorem a_113 : fx_a 113 = some (0, 9) := by decide +kernel
theorem a_114 : fx_a 114 = some (2, 48) := by decide +kernel
theorem a_115 : fx_a 115 = some (0, 4) := by decide +kernel
theorem cl_116 : fx_cls 116 = some 3 := by decide +kernel
theorem a_117 : fx_a 117 = some (0, 12) := by decide +kernel
theorem a_118 : fx_a 118 = some (0, 12) := by decide +kernel
theorem a_119 : fx_a 119 = some (0, 12) := by decide +kernel
theorem a_120 : fx_a 120 = some (0, 48) := by decide +kernel
theorem a_121 : fx_a 121 = some (0, 12) := by decide +kernel
theorem a_122 : fx_a 122 = some (0, 9) := by decide +kernel
theorem a_123 : fx_a 123 = some (2, 48) := by decide +kernel
theorem a_124 : fx_a 124 = some (0, 4) := by decide +kernel
theorem cl_125 : fx_cls 125 = some 11 := by decide +kernel
theorem k_125_0 : fx_k 125 0 = some (11, 126 + 3) := by decide +kernel
theorem k_125_1 : fx_k 125 1 = some (11, 0) := by decide +kernel
theorem k_125_2 : fx_k 125 2 = some (11, 0) := by decide +kernel
theorem k_125_3 : fx_k 125 3 = some (11, 127 + 3) := by decide +kernel
theorem k_125_4 : fx_k 125 4 = some (11, 128 + 3) := by decide +kernel
theorem k_125_5 : fx_k 125 5 = some (11, 129 + 3) := by decide +kernel
theorem a_126 : fx_a 126 = some (1, 1024) := by decide +kernel
theorem a_127 : fx_a 127 = some (0, 1024) := by decide +kernel
theorem a_128 : fx_a 128 = some (1, 1024) := by decide +kernel
theorem cl_129 : fx_cls 129 = some 2 := by decide +kernel
theorem k_129_0 : fx_k 129 0 = some (2, 2) := by decide +kernel
theorem k_129_1 : fx_k 129 1 = some (2, 0) := by decide +kernel
theorem k_129_2 : fx_k 129 2 = some (2, 0) := by decide +kernel
theorem k_129_3 : fx_k 129 3 = some (2, 0) := by decide +kernel
theorem k_129_4 : fx_k 129 4 = some (2, 2) := by decide +kernel
theorem k_129_5 : fx_k 129 5 = some (2, 131 + 3) := by decide +kernel
theorem k_129_6 : fx_k 129 6 = some (2, 0) := by decide +kernel
theorem k_129_7 : fx_k 129 7 = some (2, 0) := by decide +kernel
theorem k_129_8 : fx_k 129 8 = some (2, 0) := by decide +kernel
theorem k_129_9 : fx_k 129 9 = some (2, 0) := by decide +kernel
theorem k_129_10 : fx_k 129 10 = some (2, 0) := by decide +kernel
theorem k_129_11 : fx_k 129 11 = some (2, 0) := by decide +kernel
theorem k_129_12 : fx_k 129 12 = some (2, 0) := by decide +kernel
theorem k_129_13 : fx_k 129 13 = some (2, 132 + 3) := by decide +kernel
theorem k_129_14 : fx_k 129 14 = some (2, 0) := by decide +kernel
theorem k_129_15 : fx_k 129 15 = some (2, 0) := by decide +kernel
theorem a_130 : fx_a 130 = some (1, 0) := by decide +kernel
theorem a_131 : fx_a 131 = some (0, 4) := by decide +kernel
theorem a_132 : fx_a 132 = some (0, 4) := by decide +kernel
theorem cl_133 : fx_cls 133 = some 12 := by decide +kernel
theorem k_133_0 : fx_k 133 0 = some (12, 0) := by decide +kernel
theorem k_133_1 : fx_k 133 1 = some (12, 0) := by decide +kernel
theorem k_133_2 : fx_k 133 2 = some (12, 134 + 3) := by decide +kernel
theorem k_133_3 : fx_k 133 3 = some (12, 0) := by decide +kernel
theorem k_133_4 : fx_k 133 4 = some (12, 135 + 3) := by decide +kernel
theorem k_133_5 : fx_k 133 5 = some (12, 0) := by decide +kernel
theorem k_133_6 : fx_k 133 6 = some (12, 136 + 3) := by decide +kernel
theorem k_133_7 : fx_k 133 7 = some (12, 0) := by decide +kernel
theorem k_133_8 : fx_k 133 8 = some (12, 0) := by decide +kernel
theorem k_133_9 : fx_k 133 9 = some (12, 0) := by decide +kernel
theorem k_133_10 : fx_k 133 10 = some (12, 0) := by decide +kernel
theorem k_133_11 : fx_k 133 11 = some (12, 0) := by decide +kernel
theorem k_133_12 : fx_k 133 12 = some (12, 0) := by decide +kernel
theorem k_133_13 : fx_k 133 13 = some (12, 137 + 3) := by decide +kernel
theorem k_133_14 : fx_k 133 14 = some (12, 0) := by decide +kernel
theorem k_133_15 : fx_k 133 15 = some (12, 0) := by decide +kernel
theorem k_133_16 : fx_k 133 16 = some (12, 0) := by decide +kernel
theorem k_133_17 : fx_k 133 17 = some (12, 0) := by decide +kernel
theorem k_133_18 : fx_k 133 18 = some (12, 0) := by decide +kernel
theorem k_133_19 : fx_k 133 19 = some (12, 0) := by decide +kernel
theorem k_133_20 : fx_k 133 20 = some (12, 0) := by decide +kernel
theorem k_133_21 : fx_k 133 21 = some (12, 0) := by decide +kernel
theorem k_133_22 : fx_k 133 22 = some (12, 0) := by decide +kernel
theorem k_133_23 : fx_k 133 23 = some (12, 0) := by decide +kernel
theorem k_133_24 : fx_k 133 24 = some (12, 0) := by decide +kernel
theorem k_133_25 : fx_k 133 25 = some (12, 138 + 3) := by decide +kernel
theorem k_133_26 : fx_k 133 26 = some (12, 139 + 3) := by decide +kernel
theorem k_133_27 : fx_k 133 27 = some (12, 140 + 3) := by decide +kernel
theorem k_133_28 : fx_k 133 28 = some (12, 141 + 3) := by decide +kernel
theorem k_133_29 : fx_k 133 29 = some (12, 142 + 3) := by decide +kernel
theorem k_133_30 : fx_k 133 30 = some (12, 0) := by decide +kernel
theorem k_133_31 : fx_k 133 31 = some (12, 0) := by decide +kernel
theorem k_133_32 : fx_k 133 32 = some (12, 0) := by decide +kernel
theorem k_133_33 : fx_k 133 33 = some (12, 0) := by decide +kernel
theorem k_133_34 : fx_k 133 34 = some (12, 143 + 3) := by decide +kernel
theorem k_133_35 : fx_k 133 35 = some (12, 144 + 3) := by decide +kernel
theorem k_133_36 : fx_k 133 36 = some (12, 145 + 3) := by decide +kernel
theorem k_133_37 : fx_k 133 37 = some (12, 146 + 3) := by decide +kernel
theorem k_133_38 : fx_k 133 38 = some (12, 147 + 3) := by decide +kernel
theorem k_133_39 : fx_k 133 39 = some (12, 148 + 3) := by decide +kernel
theorem k_133_40 : fx_k 133 40 = some (12, 149 + 3) := by decide +kernel
theorem k_133_41 : fx_k 133 41 = some (12, 150 + 3) := by decide +kernel
theorem k_133_42 : fx_k 133 42 = some (12, 151 + 3) := by decide +kernel
theorem k_133_43 : fx_k 133 43 = some (12, 152 + 3) := by decide +kernel
theorem k_133_44 : fx_k 133 44 = some (12, 153 + 3) := by decide +kernel
theorem k_133_45 : fx_k 133 45 = some (12, 154 + 3) := by decide +kernel
theorem k_133_46 : fx_k 133 46 = some (12, 155 + 3) := by decide +kernel
theorem k_133_47 : fx_k 133 47 = some (12, 156 + 3) := by decide +kernel
theorem k_133_48 : fx_k 133 48 = some (12, 0) := by decide +kernel
theorem k_133_49 : fx_k 133 49 = some (12, 157 + 3) := by decide +kernel
theorem k_133_50 : fx_k 133 50 = some (12, 158 + 3) := by decide +kernel
theorem k_133_51 : fx_k 133 51 = some (12, 0) := by decide +kernel
theorem k_133_52 : fx_k 133 52 = some (12, 0) := by decide +kernel
theorem k_133_53 : fx_k 133 53 = some (12, 0) := by decide +kernel
theorem k_133_54 : fx_k 133 54 = some (12, 0) := by decide +kernel
theorem k_133_55 : fx_k 133 55 = some (12, 159 + 3) := by decide +kernel
theorem k_133_56 : fx_k 133 56 = some (12, 0) := by decide +kernel
theorem k_133_57 : fx_k 133 57 = some (12, 0) := by decide +kernel
theorem k_133_58 : fx_k 133 58 = some (12, 0) := by decide +kernel
theorem k_133_59 : fx_k 133 59 = some (12, 0) := by decide +kernel
theorem k_133_60 : fx_k 133 60 = some (12, 0) := by decide +kernel
theorem k_133_61 : fx_k 133 61 = some (12, 0) := by decide +kernel
theorem k_133_62 : fx_k 133 62 = some (12, 160 + 3) := by decide +kernel
theorem k_133_63 : fx_k 133 63 = some (12, 161 + 3) := by decide +kernel
theorem k_133_64 : fx_k 133 64 = some (12, 162 + 3) := by decide +kernel
theorem k_133_65 : fx_k 133 65 = some (12, 163 + 3) := by decide +kernel
theorem k_133_66 : fx_k 133 66 = some (12, 164 + 3) := by decide +kernel
theorem k_133_67 : fx_k 133 67 = some (12, 165 + 3) := by decide +kernel
theorem k_133_68 : fx_k 133 68 = some (12, 166 + 3) := by decide +kernel
theorem k_133_69 : fx_k 133 69 = some (12, 0) := by decide +kernel
theorem k_133_70 : fx_k 133 70 = some (12, 167 + 3) := by decide +kernel
theorem k_133_71 : fx_k 133 71 = some (12, 1) := by decide +kernel
theorem k_133_72 : fx_k 133 72 = some (12, 168 + 3) := by decide +kernel
theorem k_133_73 : fx_k 133 73 = some (12, 169 + 3) := by decide +kernel
theorem k_133_74 : fx_k 133 74 = some (12, 0) := by decide +kernel
theorem k_133_75 : fx_k 133 75 = some (12, 170 + 3) := by decide +kernel
theorem k_133_76 : fx_k 133 76 = some (12, 171 + 3) := by decide +kernel
theorem k_133_77 : fx_k 133 77 = some (12, 0) := by decide +kernel
theorem k_133_78 : fx_k 133 78 = some (12, 172 + 3) := by decide +kernel
theorem k_133_79 : fx_k 133 79 = some (12, 173 + 3) := by decide +kernel
theorem k_133_80 : fx_k 133 80 = some (12, 0) := by decide +kernel
theorem k_133_81 : fx_k 133 81 = some (12, 174 + 3) := by decide +kernel
theorem k_133_82 : fx_k 133 82 = some (12, 175 + 3) := by decide +kernel
theorem k_133_83 : fx_k 133 83 = some (12, 176 + 3) := by decide +kernel
theorem k_133_84 : fx_k 133 84 = some (12, 177 + 3) := by decide +kernel
theorem k_133_85 : fx_k 133 85 = some (12, 178 + 3) := by decide +kernel
theorem k_133_86 : fx_k 133 86 = some (12, 179 + 3) := by decide +kernel
theorem k_133_87 : fx_k 133 87 = some (12, 180 + 3) := by decide +kernel
theorem k_133_88 : fx_k 133 88 = some (12, 181 + 3) := by decide +kernel
theorem k_133_89 : fx_k 133 89 = some (12, 0) := by decide +kernel
theorem k_133_90 : fx_k 133 90 = some (12, 182 + 3) := by decide +kernel
theorem k_133_91 : fx_k 133 91 = some (12, 183 + 3) := by decide +kernel
theorem k_133_92 : fx_k 133 92 = some (12, 184 + 3) := by decide +kernel
theorem k_133_93 : fx_k 133 93 = some (12, 185 + 3) := by decide +kernel
theorem k_133_94 : fx_k 133 94 = some (12, 186 + 3) := by decide +kernel
theorem k_133_95 : fx_k 133 95 = some (12, 187 + 3) := by decide +kernel
theorem k_133_96 : fx_k 133 96 = some (12, 0) := by decide +kernel
theorem k_133_97 : fx_k 133 97 = some (12, 188 + 3) := by decide +kernel
theorem k_133_98 : fx_k 133 98 = some (12, 189 + 3) := by decide +kernel
theorem k_133_99 : fx_k 133 99 = some (12, 0) := by decide +kernel
theorem k_133_100 : fx_k 133 100 = some (12, 0) := by decide +kernel
theorem k_133_101 : fx_k 133 101 = some (12, 0) := by decide +kernel
theorem k_133_102 : fx_k 133 102 = some (12, 0) := by decide +kernel
theorem a_134 : fx_a 134 = some (0, 3200) := by decide +kernel
theorem a_135 : fx_a 135 = some (0, 6100) := by decide +kernel
theorem a_136 : fx_a 136 = some (0, 6000) := by decide +kernel
theorem a_137 : fx_a 137 = some (0, 4) := by decide +kernel
theorem a_138 : fx_a 138 = some (0, 3100) := by decide +kernel
theorem a_139 : fx_a 139 = some (0, 3100) := by decide +kernel
theorem a_140 : fx_a 140 = some (0, 3100) := by decide +kernel
theorem a_141 : fx_a 141 = some (0, 3101) := by decide +kernel
theorem a_142 : fx_a 142 = some (0, 1300) := by decide +kernel
theorem a_143 : fx_a 143 = some (0, 300) := by decide +kernel
theorem a_144 : fx_a 144 = some (0, 300) := by decide +kernel
theorem a_145 : fx_a 145 = some (0, 300) := by decide +kernel
theorem a_146 : fx_a 146 = some (0, 10) := by decide +kernel
theorem a_147 : fx_a 147 = some (0, 10) := by decide +kernel
theorem a_148 : fx_a 148 = some (0, 10) := by decide +kernel
theorem a_149 : fx_a 149 = some (0, 10) := by decide +kernel
theorem a_150 : fx_a 150 = some (0, 120) := by decide +kernel
theorem a_151 : fx_a 151 = some (0, 120) := by decide +kernel
theorem a_152 : fx_a 152 = some (0, 120) := by decide +kernel
theorem a_153 : fx_a 153 = some (0, 480) := by decide +kernel
theorem a_154 : fx_a 154 = some (0, 90) := by decide +kernel
theorem a_155 : fx_a 155 = some (0, 9) := by decide +kernel
theorem a_156 : fx_a 156 = some (0, 9) := by decide +kernel
theorem a_157 : fx_a 157 = some (0, 8) := by decide +kernel
theorem a_158 : fx_a 158 = some (0, 8) := by decide +kernel
theorem a_159 : fx_a 159 = some (0, 12) := by decide +kernel
theorem a_160 : fx_a 160 = some (0, 90) := by decide +kernel
theorem a_161 : fx_a 161 = some (0, 10) := by decide +kernel
theorem a_162 : fx_a 162 = some (0, 10) := by decide +kernel
theorem a_163 : fx_a 163 = some (0, 10) := by decide +kernel
theorem a_164 : fx_a 164 = some (0, 10) := by decide +kernel
theorem a_165 : fx_a 165 = some (0, 9) := by decide +kernel
theorem a_166 : fx_a 166 = some (0, 4) := by decide +kernel
theorem a_167 : fx_a 167 = some (0, 9) := by decide +kernel
theorem a_168 : fx_a 168 = some (0, 9) := by decide +kernel
theorem a_169 : fx_a 169 = some (0, 4) := by decide +kernel
theorem a_170 : fx_a 170 = some (0, 600) := by decide +kernel
theorem a_171 : fx_a 171 = some (0, 600) := by decide +kernel
theorem a_172 : fx_a 172 = some (0, 12) := by decide +kernel
theorem a_173 : fx_a 173 = some (0, 9) := by decide +kernel
theorem a_174 : fx_a 174 = some (0, 27) := by decide +kernel
theorem a_175 : fx_a 175 = some (0, 27) := by decide +kernel
theorem a_176 : fx_a 176 = some (0, 3) := by decide +kernel
theorem a_177 : fx_a 177 = some (0, 3) := by decide +kernel
theorem a_178 : fx_a 178 = some (0, 300) := by decide +kernel
theorem a_179 : fx_a 179 = some (0, 300) := by decide +kernel
theorem a_180 : fx_a 180 = some (0, 300) := by decide +kernel
theorem a_181 : fx_a 181 = some (0, 300) := by decide +kernel
theorem a_182 : fx_a 182 = some (0, 48) := by decide +kernel
theorem a_183 : fx_a 183 = some (0, 6) := by decide +kernel
theorem a_184 : fx_a 184 = some (0, 6) := by decide +kernel
theorem a_185 : fx_a 185 = some (0, 18) := by decide +kernel
theorem a_186 : fx_a 186 = some (4, 18) := by decide +kernel
theorem a_187 : fx_a 187 = some (0, 18) := by decide +kernel
theorem a_188 : fx_a 188 = some (0, 1024) := by decide +kernel
theorem a_189 : fx_a 189 = some (0, 1024) := by decide +kernel
theorem clp {z : Nat} (hz : fx_puz z) : fx_cls z = some 3 := by
  have h : ∀ z ∈ [11, 20, 71, 80, 89, 98, 107, 116], fx_cls z = some 3 := by decide +kernel
  exact h _ hz
theorem kp_0 {z : Nat} (hz : fx_puz z) : fx_k z 0 = some (3, 0) := by
  have h : ∀ z ∈ [11, 20, 71, 80, 89, 98, 107, 116], fx_k z 0 = some (3, 0) := by decide +kernel
  exact h _ hz
theorem kp_1 {z : Nat} (hz : fx_puz z) : fx_k z 1 = some (3, 0) := by
  have h : ∀ z ∈ [11, 20, 71, 80, 89, 98, 107, 116], fx_k z 1 = some (3, 0) := by decide +kernel
  exact h _ hz
theorem kp_2 {z : Nat} (hz : fx_puz z) : fx_k z 2 = some (3, 0) := by
  have h : ∀ z ∈ [11, 20, 71, 80, 89, 98, 107, 116], fx_k z 2 = some (3, 0) := by decide +kernel
  exact h _ hz
theorem kp_3 {z : Nat} (hz : fx_puz z) : fx_k z 3 = some (3, 0) := by
  have h : ∀ z ∈ [11, 20, 71, 80, 89, 98, 107, 116], fx_k z 3 = some (3, 0) := by decide +kernel
  exact h _ hz
theorem kp_4 {z : Nat} (hz : fx_puz z) : fx_k z 4 = some (3, 0) := by
  have h : ∀ z ∈ [11, 20, 71, 80, 89, 98, 107, 116], fx_k z 4 = some (3, 0) := by decide +kernel
  exact h _ hz
theorem kp_5 {z : Nat} (hz : fx_puz z) : fx_k z 5 = some (3, z + 1 + 3) := by
  have h : ∀ z ∈ [11, 20, 71, 80, 89, 98, 107, 116], fx_k z 5 = some (3, z + 1 + 3) := by decide +kernel
  exact h _ hz
theorem kp_6 {z : Nat} (hz : fx_puz z) : fx_k z 6 = some (3, z + 2 + 3) := by
  have h : ∀ z ∈ [11, 20, 71, 80, 89, 98, 107, 116], fx_k z 6 = some (3, z + 2 + 3) := by decide +kernel
  exact h _ hz
theorem kp_7 {z : Nat} (hz : fx_puz z) : fx_k z 7 = some (3, z + 3 + 3) := by
  have h : ∀ z ∈ [11, 20, 71, 80, 89, 98, 107, 116], fx_k z 7 = some (3, z + 3 + 3) := by decide +kernel
  exact h _ hz
theorem kp_8 {z : Nat} (hz : fx_puz z) : fx_k z 8 = some (3, z + 4 + 3) := by
  have h : ∀ z ∈ [11, 20, 71, 80, 89, 98, 107, 116], fx_k z 8 = some (3, z + 4 + 3) := by decide +kernel
  exact h _ hz
theorem kp_9 {z : Nat} (hz : fx_puz z) : fx_k z 9 = some (3, z + 5 + 3) := by
  have h : ∀ z ∈ [11, 20, 71, 80, 89, 98, 107, 116], fx_k z 9 = some (3, z + 5 + 3) := by decide +kernel
  exact h _ hz
theorem kp_10 {z : Nat} (hz : fx_puz z) : fx_k z 10 = some (3, z + 6 + 3) := by
  have h : ∀ z ∈ [11, 20, 71, 80, 89, 98, 107, 116], fx_k z 10 = some (3, z + 6 + 3) := by decide +kernel
  exact h _ hz
theorem kp_11 {z : Nat} (hz : fx_puz z) : fx_k z 11 = some (3, z + 7 + 3) := by
  have h : ∀ z ∈ [11, 20, 71, 80, 89, 98, 107, 116], fx_k z 11 = some (3, z + 7 + 3) := by decide +kernel
  exact h _ hz
theorem kp_12 {z : Nat} (hz : fx_puz z) : fx_k z 12 = some (3, 0) := by
  have h : ∀ z ∈ [11, 20, 71, 80, 89, 98, 107, 116], fx_k z 12 = some (3, 0) := by decide +kernel
  exact h _ hz
theorem kp_13 {z : Nat} (hz : fx_puz z) : fx_k z 13 = some (3, z + 8 + 3) := by
  have h : ∀ z ∈ [11, 20, 71, 80, 89, 98, 107, 116], fx_k z 13 = some (3, z + 8 + 3) := by decide +kernel
  exact h _ hz
theorem ap_1 {z : Nat} (hz : fx_puz z) : fx_a (z + 1) = some (0, 12) := by
  have h : ∀ z ∈ [11, 20, 71, 80, 89, 98, 107, 116], fx_a (z + 1) = some (0, 12) := by decide +kernel
  exact h _ hz
theorem ap_2 {z : Nat} (hz : fx_puz z) : fx_a (z + 2) = some (0, 12) := by
  have h : ∀ z ∈ [11, 20, 71, 80, 89, 98, 107, 116], fx_a (z + 2) = some (0, 12) := by decide +kernel
  exact h _ hz
theorem ap_3 {z : Nat} (hz : fx_puz z) : fx_a (z + 3) = some (0, 12) := by
  have h : ∀ z ∈ [11, 20, 71, 80, 89, 98, 107, 116], fx_a (z + 3) = some (0, 12) := by decide +kernel
  exact h _ hz
theorem ap_4 {z : Nat} (hz : fx_puz z) : fx_a (z + 4) = some (0, 48) := by
  have h : ∀ z ∈ [11, 20, 71, 80, 89, 98, 107, 116], fx_a (z + 4) = some (0, 48) := by decide +kernel
  exact h _ hz
theorem ap_5 {z : Nat} (hz : fx_puz z) : fx_a (z + 5) = some (0, 12) := by
  have h : ∀ z ∈ [11, 20, 71, 80, 89, 98, 107, 116], fx_a (z + 5) = some (0, 12) := by decide +kernel
  exact h _ hz
theorem ap_6 {z : Nat} (hz : fx_puz z) : fx_a (z + 6) = some (0, 9) := by
  have h : ∀ z ∈ [11, 20, 71, 80, 89, 98, 107, 116], fx_a (z + 6) = some (0, 9) := by decide +kernel
  exact h _ hz
theorem ap_7 {z : Nat} (hz : fx_puz z) : fx_a (z + 7) = some (2, 48) := by
  have h : ∀ z ∈ [11, 20, 71, 80, 89, 98, 107, 116], fx_a (z + 7) = some (2, 48) := by decide +kernel
  exact h _ hz
theorem ap_8 {z : Nat} (hz : fx_puz z) : fx_a (z + 8) = some (0, 4) := by
  have h : ∀ z ∈ [11, 20, 71, 80, 89, 98, 107, 116], fx_a (z + 8) = some (0, 4) := by decide +kernel
  exact h _ hz
theorem cls {z : Nat} (hz : fx_scn z) : fx_cls z = some 2 := by
  have h : ∀ z ∈ [7, 129], fx_cls z = some 2 := by decide +kernel
  exact h _ hz
theorem ks_0 {z : Nat} (hz : fx_scn z) : fx_k z 0 = some (2, 2) := by
  have h : ∀ z ∈ [7, 129], fx_k z 0 = some (2, 2) := by decide +kernel
  exact h _ hz
theorem ks_1 {z : Nat} (hz : fx_scn z) : fx_k z 1 = some (2, 0) := by
  have h : ∀ z ∈ [7, 129], fx_k z 1 = some (2, 0) := by decide +kernel
  exact h _ hz
theorem ks_2 {z : Nat} (hz : fx_scn z) : fx_k z 2 = some (2, 0) := by
  have h : ∀ z ∈ [7, 129], fx_k z 2 = some (2, 0) := by decide +kernel
  exact h _ hz
theorem ks_3 {z : Nat} (hz : fx_scn z) : fx_k z 3 = some (2, 0) := by
  have h : ∀ z ∈ [7, 129], fx_k z 3 = some (2, 0) := by decide +kernel
  exact h _ hz
theorem ks_4 {z : Nat} (hz : fx_scn z) : fx_k z 4 = some (2, 2) := by
  have h : ∀ z ∈ [7, 129], fx_k z 4 = some (2, 2) := by decide +kernel
  exact h _ hz
theorem ks_5 {z : Nat} (hz : fx_scn z) : fx_k z 5 = some (2, z + 2 + 3) := by
  have h : ∀ z ∈ [7, 129], fx_k z 5 = some (2, z + 2 + 3) := by decide +kernel
  exact h _ hz
theorem ks_6 {z : Nat} (hz : fx_scn z) : fx_k z 6 = some (2, 0) := by
  have h : ∀ z ∈ [7, 129], fx_k z 6 = some (2, 0) := by decide +kernel
  exact h _ hz
theorem ks_7 {z : Nat} (hz : fx_scn z) : fx_k z 7 = some (2, 0) := by
  have h : ∀ z ∈ [7, 129], fx_k z 7 = some (2, 0) := by decide +kernel
  exact h _ hz
theorem ks_8 {z : Nat} (hz : fx_scn z) : fx_k z 8 = some (2, 0) := by
  have h : ∀ z ∈ [7, 129], fx_k z 8 = some (2, 0) := by decide +kernel
  exact h _ hz
theorem ks_9 {z : Nat} (hz : fx_scn z) : fx_k z 9 = some (2, 0) := by
  have h : ∀ z ∈ [7, 129], fx_k z 9 = some (2, 0) := by decide +kernel
  exact h _ hz
theorem ks_10 {z : Nat} (hz : fx_scn z) : fx_k z 10 = some (2, 0) := by
  have h : ∀ z ∈ [7, 129], fx_k z 10 = some (2, 0) := by decide +kernel
  exact h _ hz
theorem ks_11 {z : Nat} (hz : fx_scn z) : fx_k z 11 = some (2, 0) := by
  have h : ∀ z ∈ [7, 129], fx_k z 11 = some (2, 0) := by decide +kernel
  exact h _ hz
theorem ks_12 {z : Nat} (hz : fx_scn z) : fx_k z 12 = some (2, 0) := by
  have h : ∀ z ∈ [7, 129], fx_k z 12 = some (2, 0) := by decide +kernel
  exact h _ hz
theorem ks_13 {z : Nat} (hz : fx_scn z) : fx_k z 13 = some (2, z + 3 + 3) := by
  have h : ∀ z ∈ [7, 129], fx_k z 13 = some (2, z + 3 + 3) := by decide +kernel
  exact h _ hz
theorem ks_14 {z : Nat} (hz : fx_scn z) : fx_k z 14 = some (2, 0) := by
  have h : ∀ z ∈ [7, 129], fx_k z 14 = some (2, 0) := by decide +kernel
  exact h _ hz
theorem ks_15 {z : Nat} (hz : fx_scn z) : fx_k z 15 = some (2, 0) := by
  have h : ∀ z ∈ [7, 129], fx_k z 15 = some (2, 0) := by decide +kernel
  exact h _ hz
theorem as_2 {z : Nat} (hz : fx_scn z) : fx_a (z + 2) = some (0, 4) := by
  have h : ∀ z ∈ [7, 129], fx_a (z + 2) = some (0, 4) := by decide +kernel
  exact h _ hz
theorem as_3 {z : Nat} (hz : fx_scn z) : fx_a (z + 3) = some (0, 4) := by
  have h : ∀ z ∈ [7, 129], fx_a (z + 3) = some (0, 4) := by decide +kernel
  exact h _ hz
theorem clo {z : Nat} (hz : fx_out z) : fx_cls z = some 1 := by
  have h : ∀ z ∈ [3, 5], fx_cls z = some 1 := by decide +kernel
  exact h _ hz
theorem ko_0 {z : Nat} (hz : fx_out z) : fx_k z 0 = some (1, z + 1 + 3) := by
  have h : ∀ z ∈ [3, 5], fx_k z 0 = some (1, z + 1 + 3) := by decide +kernel
  exact h _ hz
theorem ko_1 {z : Nat} (hz : fx_out z) : fx_k z 1 = some (1, 0) := by
  have h : ∀ z ∈ [3, 5], fx_k z 1 = some (1, 0) := by decide +kernel
  exact h _ hz
theorem ao_1 {z : Nat} (hz : fx_out z) : fx_a (z + 1) = some (1, fx_ol z) := by
  have h : ∀ z ∈ [3, 5], fx_a (z + 1) = some (1, fx_ol z) := by decide +kernel
  exact h _ hz
theorem clf {z : Nat} (hz : fx_frm z) : fx_cls z = some 7 := by
  have h : ∀ z ∈ [40, 45], fx_cls z = some 7 := by decide +kernel
  exact h _ hz
theorem kf_0 {z : Nat} (hz : fx_frm z) : fx_k z 0 = some (7, 0) := by
  have h : ∀ z ∈ [40, 45], fx_k z 0 = some (7, 0) := by decide +kernel
  exact h _ hz
theorem kf_1 {z : Nat} (hz : fx_frm z) : fx_k z 1 = some (7, 0) := by
  have h : ∀ z ∈ [40, 45], fx_k z 1 = some (7, 0) := by decide +kernel
  exact h _ hz
theorem kf_2 {z : Nat} (hz : fx_frm z) : fx_k z 2 = some (7, 0) := by
  have h : ∀ z ∈ [40, 45], fx_k z 2 = some (7, 0) := by decide +kernel
  exact h _ hz
theorem kf_3 {z : Nat} (hz : fx_frm z) : fx_k z 3 = some (7, 0) := by
  have h : ∀ z ∈ [40, 45], fx_k z 3 = some (7, 0) := by decide +kernel
  exact h _ hz
theorem kf_4 {z : Nat} (hz : fx_frm z) : fx_k z 4 = some (7, z + 1 + 3) := by
  have h : ∀ z ∈ [40, 45], fx_k z 4 = some (7, z + 1 + 3) := by decide +kernel
  exact h _ hz
theorem kf_5 {z : Nat} (hz : fx_frm z) : fx_k z 5 = some (7, 1) := by
  have h : ∀ z ∈ [40, 45], fx_k z 5 = some (7, 1) := by decide +kernel
  exact h _ hz
theorem kf_6 {z : Nat} (hz : fx_frm z) : fx_k z 6 = some (7, 0) := by
  have h : ∀ z ∈ [40, 45], fx_k z 6 = some (7, 0) := by decide +kernel
  exact h _ hz
theorem kf_7 {z : Nat} (hz : fx_frm z) : fx_k z 7 = some (7, z + 2 + 3) := by
  have h : ∀ z ∈ [40, 45], fx_k z 7 = some (7, z + 2 + 3) := by decide +kernel
  exact h _ hz
theorem kf_8 {z : Nat} (hz : fx_frm z) : fx_k z 8 = some (7, z + 3 + 3) := by
  have h : ∀ z ∈ [40, 45], fx_k z 8 = some (7, z + 3 + 3) := by decide +kernel
  exact h _ hz
theorem kf_9 {z : Nat} (hz : fx_frm z) : fx_k z 9 = some (7, z + 4 + 3) := by
  have h : ∀ z ∈ [40, 45], fx_k z 9 = some (7, z + 4 + 3) := by decide +kernel
  exact h _ hz
theorem af_1 {z : Nat} (hz : fx_frm z) : fx_a (z + 1) = some (0, 12) := by
  have h : ∀ z ∈ [40, 45], fx_a (z + 1) = some (0, 12) := by decide +kernel
  exact h _ hz
theorem af_2 {z : Nat} (hz : fx_frm z) : fx_a (z + 2) = some (0, 12) := by
  have h : ∀ z ∈ [40, 45], fx_a (z + 2) = some (0, 12) := by decide +kernel
  exact h _ hz
theorem af_3 {z : Nat} (hz : fx_frm z) : fx_a (z + 3) = some (0, 4) := by
  have h : ∀ z ∈ [40, 45], fx_a (z + 3) = some (0, 4) := by decide +kernel
  exact h _ hz
theorem af_4 {z : Nat} (hz : fx_frm z) : fx_a (z + 4) = some (0, 4) := by
  have h : ∀ z ∈ [40, 45], fx_a (z + 4) = some (0, 4) := by decide +kernel
  exact h _ hz
theorem mx0 : 1 ≤ xM 0 := by decide +kernel
theorem r0 : fx_rt 0 = 8 := by decide +kernel
theorem kl0 : xKc 0 = 0 := by decide +kernel
theorem mx2 : 2 ≤ xM 2 := by decide +kernel
theorem r2 : fx_rt 2 = 8 := by decide +kernel
theorem kl2 : xKc 2 = 1 := by decide +kernel
theorem mx4 : 1 ≤ xM 4 := by decide +kernel
theorem r4 : fx_rt 4 = 8 := by decide +kernel
theorem kl4 : xKc 4 = 2 := by decide +kernel
theorem mx5 : 1 ≤ xM 5 := by decide +kernel
theorem r5 : fx_rt 5 = 8 := by decide +kernel
theorem kl5 : xKc 5 = 3 := by decide +kernel
theorem mx6 : 3 ≤ xM 6 := by decide +kernel
theorem r6 : fx_rt 6 = 8 := by decide +kernel
theorem kl6 : xKc 6 = 4 := by decide +kernel
theorem mx7 : 3 ≤ xM 7 := by decide +kernel
theorem r7 : fx_rt 7 = 8 := by decide +kernel
theorem kl7 : xKc 7 = 5 := by decide +kernel
theorem mx8 : 3 ≤ xM 8 := by decide +kernel
theorem r8 : fx_rt 8 = 8 := by decide +kernel
theorem kl8 : xKc 8 = 6 := by decide +kernel
theorem mx9 : 1 ≤ xM 9 := by decide +kernel
theorem r9 : fx_rt 9 = 8 := by decide +kernel
theorem kl9 : xKc 9 = 7 := by decide +kernel
theorem mx10 : 3 ≤ xM 10 := by decide +kernel
theorem r10 : fx_rt 10 = 8 := by decide +kernel
theorem kl10 : xKc 10 = 8 := by decide +kernel
theorem mx11 : 1 ≤ xM 11 := by decide +kernel
theorem r11 : fx_rt 11 = 8 := by decide +kernel
theorem kl11 : xKc 11 = 9 := by decide +kernel
theorem mx12 : 1 ≤ xM 12 := by decide +kernel
theorem r12 : fx_rt 12 = 8 := by decide +kernel
theorem kl12 : xKc 12 = 10 := by decide +kernel
theorem mx13 : 1 ≤ xM 13 := by decide +kernel
theorem r13 : fx_rt 13 = 8 := by decide +kernel
theorem kl13 : xKc 13 = 11 := by decide +kernel
theorem mx14 : 6 ≤ xM 14 := by decide +kernel
theorem r14 : fx_rt 14 = 0 := by decide +kernel
theorem kl14 : xKc 14 = 0 := by decide +kernel
theorem mx15 : 2 ≤ xM 15 := by decide +kernel
theorem r15 : fx_rt 15 = 8 := by decide +kernel
theorem kl15 : xKc 15 = 0 := by decide +kernel
theorem mx16 : 2 ≤ xM 16 := by decide +kernel
theorem r16 : fx_rt 16 = 0 := by decide +kernel
theorem kl16 : xKc 16 = 0 := by decide +kernel
theorem mx17 : 2 ≤ xM 17 := by decide +kernel
theorem r17 : fx_rt 17 = 8 := by decide +kernel
theorem kl17 : xKc 17 = 0 := by decide +kernel
theorem mx18 : 4 ≤ xM 18 := by decide +kernel
theorem r18 : fx_rt 18 = 8 := by decide +kernel
theorem kl18 : xKc 18 = 2 := by decide +kernel
theorem mx20 : 2 ≤ xM 20 := by decide +kernel
theorem r20 : fx_rt 20 = 0 := by decide +kernel
theorem kl20 : xKc 20 = 2 := by decide +kernel
theorem mx21 : 1 ≤ xM 21 := by decide +kernel
theorem r21 : fx_rt 21 = 0 := by decide +kernel
theorem kl21 : xKc 21 = 1000 := by decide +kernel
theorem mx22 : 1 ≤ xM 22 := by decide +kernel
theorem r22 : fx_rt 22 = 9 := by decide +kernel
theorem kl22 : xKc 22 = 1000 := by decide +kernel
theorem mx23 : 2 ≤ xM 23 := by decide +kernel
theorem r23 : fx_rt 23 = 9 := by decide +kernel
theorem kl23 : xKc 23 = 1000 := by decide +kernel
theorem mx24 : 1 ≤ xM 24 := by decide +kernel
theorem r24 : fx_rt 24 = 2 := by decide +kernel
theorem kl24 : xKc 24 = 1000 := by decide +kernel
theorem mx25 : 2 ≤ xM 25 := by decide +kernel
theorem r25 : fx_rt 25 = 9 := by decide +kernel
theorem mx26 : 2 ≤ xM 26 := by decide +kernel
theorem r26 : fx_rt 26 = 8 := by decide +kernel
theorem mx27 : 3 ≤ xM 27 := by decide +kernel
theorem r27 : fx_rt 27 = 0 := by decide +kernel
theorem mx28 : 2 ≤ xM 28 := by decide +kernel
theorem r28 : fx_rt 28 = 9 := by decide +kernel
theorem mx29 : 2 ≤ xM 29 := by decide +kernel
theorem r29 : fx_rt 29 = 8 := by decide +kernel
theorem mx30 : 1 ≤ xM 30 := by decide +kernel
theorem r30 : fx_rt 30 = 0 := by decide +kernel
theorem mx31 : 2 ≤ xM 31 := by decide +kernel
theorem r31 : fx_rt 31 = 9 := by decide +kernel
theorem mx32 : 2 ≤ xM 32 := by decide +kernel
theorem r32 : fx_rt 32 = 8 := by decide +kernel
theorem kl32 : xKc 32 = 0 := by decide +kernel
theorem mx33 : 2 ≤ xM 33 := by decide +kernel
theorem r33 : fx_rt 33 = 8 := by decide +kernel
theorem kl33 : xKc 33 = 2 := by decide +kernel
theorem mx34 : 2 ≤ xM 34 := by decide +kernel
theorem r34 : fx_rt 34 = 8 := by decide +kernel
theorem kl34 : xKc 34 = 2 := by decide +kernel
theorem mx35 : 2 ≤ xM 35 := by decide +kernel
theorem r35 : fx_rt 35 = 0 := by decide +kernel
theorem kl35 : xKc 35 = 2 := by decide +kernel
theorem mx36 : 3 ≤ xM 36 := by decide +kernel
theorem r36 : fx_rt 36 = 8 := by decide +kernel
theorem kl36 : xKc 36 = 2 := by decide +kernel
theorem mx37 : 2 ≤ xM 37 := by decide +kernel
theorem r37 : fx_rt 37 = 8 := by decide +kernel
theorem kl37 : xKc 37 = 2 := by decide +kernel
theorem mx38 : 2 ≤ xM 38 := by decide +kernel
theorem r38 : fx_rt 38 = 2 := by decide +kernel
theorem kl38 : xKc 38 = 2 := by decide +kernel
theorem mx39 : 1 ≤ xM 39 := by decide +kernel
theorem r39 : fx_rt 39 = 8 := by decide +kernel
theorem kl39 : xKc 39 = 2 := by decide +kernel
theorem mx40 : 1 ≤ xM 40 := by decide +kernel
theorem r40 : fx_rt 40 = 8 := by decide +kernel
theorem kl40 : xKc 40 = 2 := by decide +kernel
theorem mx41 : 1 ≤ xM 41 := by decide +kernel
theorem r41 : fx_rt 41 = 2 := by decide +kernel
theorem mx42 : 1 ≤ xM 42 := by decide +kernel
theorem r42 : fx_rt 42 = 8 := by decide +kernel
theorem kl42 : xKc 42 = 2 := by decide +kernel
theorem mx43 : 1 ≤ xM 43 := by decide +kernel
theorem r43 : fx_rt 43 = 2 := by decide +kernel
theorem mx44 : 2 ≤ xM 44 := by decide +kernel
theorem r44 : fx_rt 44 = 8 := by decide +kernel
theorem kl44 : xKc 44 = 0 := by decide +kernel
theorem mx45 : 1 ≤ xM 45 := by decide +kernel
theorem r45 : fx_rt 45 = 8 := by decide +kernel
theorem kl45 : xKc 45 = 2 := by decide +kernel
theorem mx46 : 1 ≤ xM 46 := by decide +kernel
theorem r46 : fx_rt 46 = 2 := by decide +kernel
theorem mx47 : 1 ≤ xM 47 := by decide +kernel
theorem r47 : fx_rt 47 = 8 := by decide +kernel
theorem kl47 : xKc 47 = 2 := by decide +kernel
theorem mx48 : 1 ≤ xM 48 := by decide +kernel
theorem r48 : fx_rt 48 = 8 := by decide +kernel
theorem kl48 : xKc 48 = 2 := by decide +kernel
theorem mx49 : 2 ≤ xM 49 := by decide +kernel
theorem r49 : fx_rt 49 = 8 := by decide +kernel
theorem kl49 : xKc 49 = 2 := by decide +kernel
theorem mx50 : 1 ≤ xM 50 := by decide +kernel
theorem r50 : fx_rt 50 = 2 := by decide +kernel
theorem kl50 : xKc 50 = 1000 := by decide +kernel
theorem mx51 : 4 ≤ xM 51 := by decide +kernel
theorem r51 : fx_rt 51 = 3 := by decide +kernel
theorem kl51 : xKc 51 = 3 := by decide +kernel
theorem mx52 : 5 ≤ xM 52 := by decide +kernel
theorem r52 : fx_rt 52 = 3 := by decide +kernel
theorem kl52 : xKc 52 = 3 := by decide +kernel
theorem mx53 : 3 ≤ xM 53 := by decide +kernel
theorem r53 : fx_rt 53 = 2 := by decide +kernel
theorem kl53 : xKc 53 = 3 := by decide +kernel
theorem mx54 : 5 ≤ xM 54 := by decide +kernel
theorem r54 : fx_rt 54 = 8 := by decide +kernel
theorem kl54 : xKc 54 = 3 := by decide +kernel
theorem mx55 : 4 ≤ xM 55 := by decide +kernel
theorem r55 : fx_rt 55 = 3 := by decide +kernel
theorem kl55 : xKc 55 = 3 := by decide +kernel
theorem mx56 : 5 ≤ xM 56 := by decide +kernel
theorem r56 : fx_rt 56 = 0 := by decide +kernel
theorem kl56 : xKc 56 = 3 := by decide +kernel
theorem mx57 : 3 ≤ xM 57 := by decide +kernel
theorem r57 : fx_rt 57 = 3 := by decide +kernel
theorem kl57 : xKc 57 = 3 := by decide +kernel
theorem mx58 : 2 ≤ xM 58 := by decide +kernel
theorem r58 : fx_rt 58 = 8 := by decide +kernel
theorem kl58 : xKc 58 = 6 := by decide +kernel
theorem mx59 : 3 ≤ xM 59 := by decide +kernel
theorem r59 : fx_rt 59 = 8 := by decide +kernel
theorem kl59 : xKc 59 = 6 := by decide +kernel
theorem mx60 : 3 ≤ xM 60 := by decide +kernel
theorem r60 : fx_rt 60 = 8 := by decide +kernel
theorem kl60 : xKc 60 = 6 := by decide +kernel
theorem mx61 : 2 ≤ xM 61 := by decide +kernel
theorem r61 : fx_rt 61 = 8 := by decide +kernel
theorem kl61 : xKc 61 = 2 := by decide +kernel
theorem mx62 : 3 ≤ xM 62 := by decide +kernel
theorem r62 : fx_rt 62 = 0 := by decide +kernel
theorem mx63 : 1 ≤ xM 63 := by decide +kernel
theorem r63 : fx_rt 63 = 8 := by decide +kernel
theorem kl63 : xKc 63 = 1 := by decide +kernel
theorem mx64 : 2 ≤ xM 64 := by decide +kernel
theorem r64 : fx_rt 64 = 8 := by decide +kernel
theorem kl64 : xKc 64 = 1 := by decide +kernel
theorem mx65 : 2 ≤ xM 65 := by decide +kernel
theorem r65 : fx_rt 65 = 8 := by decide +kernel
theorem kl65 : xKc 65 = 1 := by decide +kernel
theorem mx66 : 2 ≤ xM 66 := by decide +kernel
theorem r66 : fx_rt 66 = 8 := by decide +kernel
theorem kl66 : xKc 66 = 0 := by decide +kernel
theorem mx67 : 1 ≤ xM 67 := by decide +kernel
theorem r67 : fx_rt 67 = 3 := by decide +kernel
theorem kl67 : xKc 67 = 3 := by decide +kernel
theorem mx68 : 2 ≤ xM 68 := by decide +kernel
theorem r68 : fx_rt 68 = 8 := by decide +kernel
theorem kl68 : xKc 68 = 3 := by decide +kernel
theorem mx69 : 2 ≤ xM 69 := by decide +kernel
theorem r69 : fx_rt 69 = 8 := by decide +kernel
theorem kl69 : xKc 69 = 1 := by decide +kernel
theorem mx70 : 3 ≤ xM 70 := by decide +kernel
theorem r70 : fx_rt 70 = 8 := by decide +kernel
theorem kl70 : xKc 70 = 3 := by decide +kernel
theorem mx71 : 1 ≤ xM 71 := by decide +kernel
theorem r71 : fx_rt 71 = 3 := by decide +kernel
theorem mx72 : 2 ≤ xM 72 := by decide +kernel
theorem r72 : fx_rt 72 = 8 := by decide +kernel
theorem kl72 : xKc 72 = 3 := by decide +kernel
theorem mx73 : 1 ≤ xM 73 := by decide +kernel
theorem r73 : fx_rt 73 = 8 := by decide +kernel
theorem kl73 : xKc 73 = 9 := by decide +kernel
theorem mx74 : 2 ≤ xM 74 := by decide +kernel
theorem r74 : fx_rt 74 = 8 := by decide +kernel
theorem kl74 : xKc 74 = 0 := by decide +kernel
theorem mx75 : 1 ≤ xM 75 := by decide +kernel
theorem r75 : fx_rt 75 = 8 := by decide +kernel
theorem kl75 : xKc 75 = 3 := by decide +kernel
theorem mx76 : 2 ≤ xM 76 := by decide +kernel
theorem r76 : fx_rt 76 = 0 := by decide +kernel
theorem kl76 : xKc 76 = 3 := by decide +kernel
theorem mx78 : 4 ≤ xM 78 := by decide +kernel
theorem r78 : fx_rt 78 = 2 := by decide +kernel
theorem kl78 : xKc 78 = 3 := by decide +kernel
theorem mx79 : 1 ≤ xM 79 := by decide +kernel
theorem r79 : fx_rt 79 = 0 := by decide +kernel
theorem mx80 : 2 ≤ xM 80 := by decide +kernel
theorem r80 : fx_rt 80 = 8 := by decide +kernel
theorem kl80 : xKc 80 = 4 := by decide +kernel
theorem mx81 : 1 ≤ xM 81 := by decide +kernel
theorem r81 : fx_rt 81 = 1 := by decide +kernel
theorem kl81 : xKc 81 = 3 := by decide +kernel
theorem mx82 : 1 ≤ xM 82 := by decide +kernel
theorem r82 : fx_rt 82 = 1 := by decide +kernel
theorem kl82 : xKc 82 = 3 := by decide +kernel
theorem mx83 : 4 ≤ xM 83 := by decide +kernel
theorem r83 : fx_rt 83 = 1 := by decide +kernel
theorem mx84 : 4 ≤ xM 84 := by decide +kernel
theorem r84 : fx_rt 84 = 8 := by decide +kernel
theorem kl84 : xKc 84 = 4 := by decide +kernel
theorem mx85 : 3 ≤ xM 85 := by decide +kernel
theorem r85 : fx_rt 85 = 8 := by decide +kernel
theorem kl85 : xKc 85 = 4 := by decide +kernel
theorem mx86 : 3 ≤ xM 86 := by decide +kernel
theorem r86 : fx_rt 86 = 0 := by decide +kernel
theorem mx87 : 1 ≤ xM 87 := by decide +kernel
theorem r87 : fx_rt 87 = 0 := by decide +kernel
theorem mx88 : 4 ≤ xM 88 := by decide +kernel
theorem r88 : fx_rt 88 = 2 := by decide +kernel
theorem kl88 : xKc 88 = 3 := by decide +kernel
theorem mx89 : 4 ≤ xM 89 := by decide +kernel
theorem r89 : fx_rt 89 = 0 := by decide +kernel
theorem kl89 : xKc 89 = 4 := by decide +kernel
theorem mx90 : 2 ≤ xM 90 := by decide +kernel
theorem r90 : fx_rt 90 = 0 := by decide +kernel
theorem kl90 : xKc 90 = 4 := by decide +kernel
theorem mx91 : 5 ≤ xM 91 := by decide +kernel
theorem r91 : fx_rt 91 = 0 := by decide +kernel
theorem kl91 : xKc 91 = 4 := by decide +kernel
theorem mx92 : 2 ≤ xM 92 := by decide +kernel
theorem r92 : fx_rt 92 = 8 := by decide +kernel
theorem kl92 : xKc 92 = 4 := by decide +kernel
theorem mx93 : 4 ≤ xM 93 := by decide +kernel
theorem r93 : fx_rt 93 = 1 := by decide +kernel
theorem kl93 : xKc 93 = 4 := by decide +kernel
theorem mx94 : 1 ≤ xM 94 := by decide +kernel
theorem r94 : fx_rt 94 = 8 := by decide +kernel
theorem kl94 : xKc 94 = 4 := by decide +kernel
theorem mx95 : 2 ≤ xM 95 := by decide +kernel
theorem r95 : fx_rt 95 = 1 := by decide +kernel
theorem kl95 : xKc 95 = 4 := by decide +kernel
theorem mx96 : 1 ≤ xM 96 := by decide +kernel
theorem r96 : fx_rt 96 = 2 := by decide +kernel
theorem kl96 : xKc 96 = 4 := by decide +kernel
theorem mx97 : 1 ≤ xM 97 := by decide +kernel
theorem r97 : fx_rt 97 = 0 := by decide +kernel
theorem kl97 : xKc 97 = 3 := by decide +kernel
theorem mx98 : 3 ≤ xM 98 := by decide +kernel
theorem r98 : fx_rt 98 = 2 := by decide +kernel
theorem kl98 : xKc 98 = 4 := by decide +kernel
theorem mx99 : 2 ≤ xM 99 := by decide +kernel
theorem r99 : fx_rt 99 = 0 := by decide +kernel
theorem kl99 : xKc 99 = 4 := by decide +kernel
theorem mx100 : 1 ≤ xM 100 := by decide +kernel
theorem r100 : fx_rt 100 = 8 := by decide +kernel
theorem kl100 : xKc 100 = 4 := by decide +kernel
theorem mx101 : 1 ≤ xM 101 := by decide +kernel
theorem r101 : fx_rt 101 = 8 := by decide +kernel
theorem kl101 : xKc 101 = 0 := by decide +kernel
theorem mx102 : 3 ≤ xM 102 := by decide +kernel
theorem r102 : fx_rt 102 = 0 := by decide +kernel
theorem kl102 : xKc 102 = 9 := by decide +kernel
theorem mx103 : 2 ≤ xM 103 := by decide +kernel
theorem r103 : fx_rt 103 = 8 := by decide +kernel
theorem kl103 : xKc 103 = 0 := by decide +kernel
theorem mx104 : 1 ≤ xM 104 := by decide +kernel
theorem r104 : fx_rt 104 = 8 := by decide +kernel
theorem kl104 : xKc 104 = 5 := by decide +kernel
theorem mx105 : 2 ≤ xM 105 := by decide +kernel
theorem r105 : fx_rt 105 = 8 := by decide +kernel
theorem kl105 : xKc 105 = 5 := by decide +kernel
theorem mx106 : 1 ≤ xM 106 := by decide +kernel
theorem r106 : fx_rt 106 = 8 := by decide +kernel
theorem kl106 : xKc 106 = 5 := by decide +kernel
theorem mx107 : 4 ≤ xM 107 := by decide +kernel
theorem r107 : fx_rt 107 = 8 := by decide +kernel
theorem kl107 : xKc 107 = 1 := by decide +kernel
theorem mx108 : 4 ≤ xM 108 := by decide +kernel
theorem r108 : fx_rt 108 = 8 := by decide +kernel
theorem kl108 : xKc 108 = 5 := by decide +kernel
theorem mx109 : 3 ≤ xM 109 := by decide +kernel
theorem r109 : fx_rt 109 = 1 := by decide +kernel
theorem kl109 : xKc 109 = 5 := by decide +kernel
theorem mx110 : 3 ≤ xM 110 := by decide +kernel
theorem r110 : fx_rt 110 = 2 := by decide +kernel
theorem kl110 : xKc 110 = 5 := by decide +kernel
theorem mx111 : 4 ≤ xM 111 := by decide +kernel
theorem r111 : fx_rt 111 = 0 := by decide +kernel
theorem kl111 : xKc 111 = 3 := by decide +kernel
theorem mx112 : 4 ≤ xM 112 := by decide +kernel
theorem r112 : fx_rt 112 = 8 := by decide +kernel
theorem kl112 : xKc 112 = 5 := by decide +kernel
theorem mx113 : 4 ≤ xM 113 := by decide +kernel
theorem r113 : fx_rt 113 = 1 := by decide +kernel
theorem mx114 : 2 ≤ xM 114 := by decide +kernel
theorem r114 : fx_rt 114 = 2 := by decide +kernel
theorem mx115 : 2 ≤ xM 115 := by decide +kernel
theorem r115 : fx_rt 115 = 2 := by decide +kernel
theorem mx116 : 3 ≤ xM 116 := by decide +kernel
theorem r116 : fx_rt 116 = 0 := by decide +kernel
theorem kl116 : xKc 116 = 5 := by decide +kernel
theorem mx117 : 3 ≤ xM 117 := by decide +kernel
theorem r117 : fx_rt 117 = 8 := by decide +kernel
theorem kl117 : xKc 117 = 5 := by decide +kernel
theorem mx118 : 2 ≤ xM 118 := by decide +kernel
theorem r118 : fx_rt 118 = 8 := by decide +kernel
theorem kl118 : xKc 118 = 5 := by decide +kernel
theorem mx119 : 1 ≤ xM 119 := by decide +kernel
theorem r119 : fx_rt 119 = 8 := by decide +kernel
theorem kl119 : xKc 119 = 5 := by decide +kernel
theorem mx120 : 1 ≤ xM 120 := by decide +kernel
theorem r120 : fx_rt 120 = 8 := by decide +kernel
theorem kl120 : xKc 120 = 6 := by decide +kernel
theorem mx121 : 2 ≤ xM 121 := by decide +kernel
theorem r121 : fx_rt 121 = 2 := by decide +kernel
theorem kl121 : xKc 121 = 6 := by decide +kernel
theorem mx122 : 2 ≤ xM 122 := by decide +kernel
theorem r122 : fx_rt 122 = 2 := by decide +kernel
theorem kl122 : xKc 122 = 6 := by decide +kernel
theorem mx123 : 2 ≤ xM 123 := by decide +kernel
theorem r123 : fx_rt 123 = 1 := by decide +kernel
theorem kl123 : xKc 123 = 6 := by decide +kernel
theorem mx124 : 2 ≤ xM 124 := by decide +kernel
theorem r124 : fx_rt 124 = 2 := by decide +kernel
theorem kl124 : xKc 124 = 6 := by decide +kernel
theorem mx125 : 6 ≤ xM 125 := by decide +kernel
theorem r125 : fx_rt 125 = 1 := by decide +kernel
theorem kl125 : xKc 125 = 3 := by decide +kernel
theorem mx126 : 2 ≤ xM 126 := by decide +kernel
theorem r126 : fx_rt 126 = 2 := by decide +kernel
theorem kl126 : xKc 126 = 6 := by decide +kernel
theorem mx127 : 2 ≤ xM 127 := by decide +kernel
theorem r127 : fx_rt 127 = 1 := by decide +kernel
theorem mx128 : 2 ≤ xM 128 := by decide +kernel
theorem r128 : fx_rt 128 = 0 := by decide +kernel
theorem mx129 : 5 ≤ xM 129 := by decide +kernel
theorem r129 : fx_rt 129 = 1 := by decide +kernel
theorem kl129 : xKc 129 = 6 := by decide +kernel
theorem mx130 : 2 ≤ xM 130 := by decide +kernel
theorem r130 : fx_rt 130 = 2 := by decide +kernel
theorem kl130 : xKc 130 = 6 := by decide +kernel
theorem mx131 : 3 ≤ xM 131 := by decide +kernel
theorem r131 : fx_rt 131 = 2 := by decide +kernel
theorem kl131 : xKc 131 = 3 := by decide +kernel
theorem mx132 : 1 ≤ xM 132 := by decide +kernel
theorem r132 : fx_rt 132 = 0 := by decide +kernel
theorem kl132 : xKc 132 = 6 := by decide +kernel
theorem mx133 : 2 ≤ xM 133 := by decide +kernel
theorem r133 : fx_rt 133 = 2 := by decide +kernel
theorem kl133 : xKc 133 = 6 := by decide +kernel
theorem mx134 : 1 ≤ xM 134 := by decide +kernel
theorem r134 : fx_rt 134 = 8 := by decide +kernel
theorem kl134 : xKc 134 = 5 := by decide +kernel
theorem mx135 : 4 ≤ xM 135 := by decide +kernel
theorem r135 : fx_rt 135 = 8 := by decide +kernel
theorem kl135 : xKc 135 = 5 := by decide +kernel
theorem mx136 : 2 ≤ xM 136 := by decide +kernel
theorem r136 : fx_rt 136 = 1 := by decide +kernel
theorem kl136 : xKc 136 = 9 := by decide +kernel
theorem mx137 : 3 ≤ xM 137 := by decide +kernel
theorem r137 : fx_rt 137 = 8 := by decide +kernel
theorem kl137 : xKc 137 = 5 := by decide +kernel
theorem mx138 : 3 ≤ xM 138 := by decide +kernel
theorem r138 : fx_rt 138 = 8 := by decide +kernel
theorem kl138 : xKc 138 = 5 := by decide +kernel
theorem mx139 : 3 ≤ xM 139 := by decide +kernel
theorem r139 : fx_rt 139 = 0 := by decide +kernel
theorem kl139 : xKc 139 = 5 := by decide +kernel
theorem mx140 : 3 ≤ xM 140 := by decide +kernel
theorem r140 : fx_rt 140 = 2 := by decide +kernel
theorem kl140 : xKc 140 = 5 := by decide +kernel
theorem mx141 : 4 ≤ xM 141 := by decide +kernel
theorem r141 : fx_rt 141 = 2 := by decide +kernel
theorem kl141 : xKc 141 = 5 := by decide +kernel
theorem mx142 : 3 ≤ xM 142 := by decide +kernel
theorem r142 : fx_rt 142 = 8 := by decide +kernel
theorem kl142 : xKc 142 = 5 := by decide +kernel
theorem mx143 : 1 ≤ xM 143 := by decide +kernel
theorem r143 : fx_rt 143 = 8 := by decide +kernel
theorem kl143 : xKc 143 = 5 := by decide +kernel
theorem mx144 : 4 ≤ xM 144 := by decide +kernel
theorem r144 : fx_rt 144 = 8 := by decide +kernel
theorem kl144 : xKc 144 = 5 := by decide +kernel
theorem mx145 : 2 ≤ xM 145 := by decide +kernel
theorem r145 : fx_rt 145 = 8 := by decide +kernel
theorem kl145 : xKc 145 = 0 := by decide +kernel
theorem mx146 : 2 ≤ xM 146 := by decide +kernel
theorem r146 : fx_rt 146 = 8 := by decide +kernel
theorem kl146 : xKc 146 = 7 := by decide +kernel
theorem mx147 : 1 ≤ xM 147 := by decide +kernel
theorem r147 : fx_rt 147 = 0 := by decide +kernel
theorem mx148 : 1 ≤ xM 148 := by decide +kernel
theorem r148 : fx_rt 148 = 0 := by decide +kernel
theorem mx149 : 3 ≤ xM 149 := by decide +kernel
theorem r149 : fx_rt 149 = 8 := by decide +kernel
theorem kl149 : xKc 149 = 7 := by decide +kernel
theorem mx150 : 4 ≤ xM 150 := by decide +kernel
theorem r150 : fx_rt 150 = 0 := by decide +kernel
theorem kl150 : xKc 150 = 7 := by decide +kernel
theorem mx151 : 3 ≤ xM 151 := by decide +kernel
theorem r151 : fx_rt 151 = 0 := by decide +kernel
theorem mx152 : 1 ≤ xM 152 := by decide +kernel
theorem r152 : fx_rt 152 = 0 := by decide +kernel
theorem kl152 : xKc 152 = 7 := by decide +kernel
theorem mx153 : 1 ≤ xM 153 := by decide +kernel
theorem r153 : fx_rt 153 = 0 := by decide +kernel
theorem mx154 : 2 ≤ xM 154 := by decide +kernel
theorem r154 : fx_rt 154 = 0 := by decide +kernel
theorem mx155 : 3 ≤ xM 155 := by decide +kernel
theorem r155 : fx_rt 155 = 8 := by decide +kernel
theorem kl155 : xKc 155 = 7 := by decide +kernel
theorem mx156 : 3 ≤ xM 156 := by decide +kernel
theorem r156 : fx_rt 156 = 1 := by decide +kernel
theorem kl156 : xKc 156 = 7 := by decide +kernel
theorem mx158 : 2 ≤ xM 158 := by decide +kernel
theorem r158 : fx_rt 158 = 8 := by decide +kernel
theorem kl158 : xKc 158 = 7 := by decide +kernel
theorem mx159 : 4 ≤ xM 159 := by decide +kernel
theorem r159 : fx_rt 159 = 8 := by decide +kernel
theorem kl159 : xKc 159 = 7 := by decide +kernel
theorem mx160 : 2 ≤ xM 160 := by decide +kernel
theorem r160 : fx_rt 160 = 8 := by decide +kernel
theorem kl160 : xKc 160 = 8 := by decide +kernel
theorem mx161 : 4 ≤ xM 161 := by decide +kernel
theorem r161 : fx_rt 161 = 8 := by decide +kernel
theorem kl161 : xKc 161 = 8 := by decide +kernel
theorem mx162 : 2 ≤ xM 162 := by decide +kernel
theorem r162 : fx_rt 162 = 8 := by decide +kernel
theorem kl162 : xKc 162 = 8 := by decide +kernel
theorem mx163 : 1 ≤ xM 163 := by decide +kernel
theorem r163 : fx_rt 163 = 8 := by decide +kernel
theorem kl163 : xKc 163 = 8 := by decide +kernel
theorem mx164 : 4 ≤ xM 164 := by decide +kernel
theorem r164 : fx_rt 164 = 2 := by decide +kernel
theorem kl164 : xKc 164 = 8 := by decide +kernel
theorem mx165 : 2 ≤ xM 165 := by decide +kernel
theorem r165 : fx_rt 165 = 2 := by decide +kernel
theorem mx166 : 3 ≤ xM 166 := by decide +kernel
theorem r166 : fx_rt 166 = 2 := by decide +kernel
theorem kl166 : xKc 166 = 8 := by decide +kernel
theorem mx167 : 2 ≤ xM 167 := by decide +kernel
theorem r167 : fx_rt 167 = 8 := by decide +kernel
theorem kl167 : xKc 167 = 0 := by decide +kernel
theorem mx168 : 2 ≤ xM 168 := by decide +kernel
theorem r168 : fx_rt 168 = 3 := by decide +kernel
theorem kl168 : xKc 168 = 9 := by decide +kernel
theorem mx169 : 4 ≤ xM 169 := by decide +kernel
theorem r169 : fx_rt 169 = 3 := by decide +kernel
theorem kl169 : xKc 169 = 9 := by decide +kernel
theorem mx170 : 4 ≤ xM 170 := by decide +kernel
theorem r170 : fx_rt 170 = 3 := by decide +kernel
theorem kl170 : xKc 170 = 9 := by decide +kernel
theorem mx171 : 1 ≤ xM 171 := by decide +kernel
theorem r171 : fx_rt 171 = 3 := by decide +kernel
theorem kl171 : xKc 171 = 9 := by decide +kernel
theorem mx172 : 2 ≤ xM 172 := by decide +kernel
theorem r172 : fx_rt 172 = 3 := by decide +kernel
theorem kl172 : xKc 172 = 9 := by decide +kernel
theorem mx173 : 3 ≤ xM 173 := by decide +kernel
theorem r173 : fx_rt 173 = 8 := by decide +kernel
theorem kl173 : xKc 173 = 9 := by decide +kernel
theorem mx174 : 4 ≤ xM 174 := by decide +kernel
theorem r174 : fx_rt 174 = 3 := by decide +kernel
theorem kl174 : xKc 174 = 9 := by decide +kernel
theorem mx175 : 4 ≤ xM 175 := by decide +kernel
theorem r175 : fx_rt 175 = 8 := by decide +kernel
theorem kl175 : xKc 175 = 9 := by decide +kernel
theorem mx176 : 2 ≤ xM 176 := by decide +kernel
theorem r176 : fx_rt 176 = 8 := by decide +kernel
theorem kl176 : xKc 176 = 0 := by decide +kernel
theorem mx177 : 1 ≤ xM 177 := by decide +kernel
theorem r177 : fx_rt 177 = 8 := by decide +kernel
theorem kl177 : xKc 177 = 0 := by decide +kernel
theorem mx178 : 4 ≤ xM 178 := by decide +kernel
theorem r178 : fx_rt 178 = 0 := by decide +kernel
theorem kl178 : xKc 178 = 11 := by decide +kernel
theorem mx179 : 1 ≤ xM 179 := by decide +kernel
theorem r179 : fx_rt 179 = 0 := by decide +kernel
theorem kl179 : xKc 179 = 11 := by decide +kernel
theorem mx180 : 1 ≤ xM 180 := by decide +kernel
theorem r180 : fx_rt 180 = 0 := by decide +kernel
theorem kl180 : xKc 180 = 11 := by decide +kernel
theorem mx181 : 2 ≤ xM 181 := by decide +kernel
theorem r181 : fx_rt 181 = 0 := by decide +kernel
theorem kl181 : xKc 181 = 11 := by decide +kernel
theorem mx182 : 3 ≤ xM 182 := by decide +kernel
theorem r182 : fx_rt 182 = 2 := by decide +kernel
theorem kl182 : xKc 182 = 11 := by decide +kernel
theorem mx183 : 2 ≤ xM 183 := by decide +kernel
theorem r183 : fx_rt 183 = 0 := by decide +kernel
theorem kl183 : xKc 183 = 11 := by decide +kernel
theorem mx184 : 4 ≤ xM 184 := by decide +kernel
theorem r184 : fx_rt 184 = 3 := by decide +kernel
theorem kl184 : xKc 184 = 10 := by decide +kernel
theorem mx185 : 2 ≤ xM 185 := by decide +kernel
theorem r185 : fx_rt 185 = 0 := by decide +kernel
theorem kl185 : xKc 185 = 10 := by decide +kernel
theorem mx186 : 4 ≤ xM 186 := by decide +kernel
theorem r186 : fx_rt 186 = 3 := by decide +kernel
theorem kl186 : xKc 186 = 10 := by decide +kernel
theorem mx187 : 2 ≤ xM 187 := by decide +kernel
theorem r187 : fx_rt 187 = 8 := by decide +kernel
theorem kl187 : xKc 187 = 10 := by decide +kernel
theorem mx188 : 2 ≤ xM 188 := by decide +kernel
theorem r188 : fx_rt 188 = 8 := by decide +kernel
theorem kl188 : xKc 188 = 10 := by decide +kernel
theorem mx189 : 3 ≤ xM 189 := by decide +kernel
theorem r189 : fx_rt 189 = 2 := by decide +kernel
theorem kl189 : xKc 189 = 10 := by decide +kernel
theorem mx190 : 2 ≤ xM 190 := by decide +kernel
theorem r190 : fx_rt 190 = 8 := by decide +kernel
theorem kl190 : xKc 190 = 0 := by decide +kernel
theorem mx191 : 5 ≤ xM 191 := by decide +kernel
theorem r191 : fx_rt 191 = 2 := by decide +kernel
theorem kl191 : xKc 191 = 11 := by decide +kernel
theorem mx192 : 2 ≤ xM 192 := by decide +kernel
theorem r192 : fx_rt 192 = 0 := by decide +kernel
theorem kl192 : xKc 192 = 11 := by decide +kernel
theorem mx193 : 3 ≤ xM 193 := by decide +kernel
theorem r193 : fx_rt 193 = 8 := by decide +kernel
theorem kl193 : xKc 193 = 11 := by decide +kernel
theorem mx194 : 4 ≤ xM 194 := by decide +kernel
theorem r194 : fx_rt 194 = 8 := by decide +kernel
theorem kl194 : xKc 194 = 11 := by decide +kernel
theorem mx195 : 1 ≤ xM 195 := by decide +kernel
theorem r195 : fx_rt 195 = 8 := by decide +kernel
theorem kl195 : xKc 195 = 0 := by decide +kernel
theorem mx196 : 4 ≤ xM 196 := by decide +kernel
theorem r196 : fx_rt 196 = 2 := by decide +kernel
theorem kl196 : xKc 196 = 11 := by decide +kernel
theorem mx197 : 3 ≤ xM 197 := by decide +kernel
theorem r197 : fx_rt 197 = 8 := by decide +kernel
theorem kl197 : xKc 197 = 11 := by decide +kernel
theorem mx198 : 2 ≤ xM 198 := by decide +kernel
theorem r198 : fx_rt 198 = 2 := by decide +kernel
theorem kl198 : xKc 198 = 11 := by decide +kernel
theorem mx199 : 2 ≤ xM 199 := by decide +kernel
theorem r199 : fx_rt 199 = 2 := by decide +kernel
theorem kl199 : xKc 199 = 11 := by decide +kernel
theorem mx200 : 1 ≤ xM 200 := by decide +kernel
theorem r200 : fx_rt 200 = 8 := by decide +kernel
theorem kl200 : xKc 200 = 0 := by decide +kernel
theorem mx201 : 1 ≤ xM 201 := by decide +kernel
theorem r201 : fx_rt 201 = 8 := by decide +kernel
theorem kl201 : xKc 201 = 0 := by decide +kernel
theorem mx202 : 2 ≤ xM 202 := by decide +kernel
theorem r202 : fx_rt 202 = 8 := by decide +kernel
theorem kl202 : xKc 202 = 2 := by decide +kernel
theorem mx203 : 1 ≤ xM 203 := by decide +kernel
theorem r203 : fx_rt 203 = 8 := by decide +kernel
theorem kl203 : xKc 203 = 0 := by decide +kernel
theorem mx204 : 2 ≤ xM 204 := by decide +kernel
theorem r204 : fx_rt 204 = 2 := by decide +kernel
theorem kl204 : xKc 204 = 7 := by decide +kernel
theorem mx205 : 2 ≤ xM 205 := by decide +kernel
theorem r205 : fx_rt 205 = 0 := by decide +kernel
theorem kl205 : xKc 205 = 0 := by decide +kernel
theorem mx206 : 1 ≤ xM 206 := by decide +kernel
theorem r206 : fx_rt 206 = 0 := by decide +kernel
theorem kl206 : xKc 206 = 0 := by decide +kernel
theorem mx207 : 2 ≤ xM 207 := by decide +kernel
theorem r207 : fx_rt 207 = 0 := by decide +kernel
theorem kl207 : xKc 207 = 0 := by decide +kernel
theorem mx208 : 1 ≤ xM 208 := by decide +kernel
theorem r208 : fx_rt 208 = 0 := by decide +kernel
theorem kl208 : xKc 208 = 9 := by decide +kernel
theorem mx209 : 3 ≤ xM 209 := by decide +kernel
theorem r209 : fx_rt 209 = 0 := by decide +kernel
theorem kl209 : xKc 209 = 0 := by decide +kernel
theorem mx210 : 2 ≤ xM 210 := by decide +kernel
theorem r210 : fx_rt 210 = 2 := by decide +kernel
theorem mx211 : 4 ≤ xM 211 := by decide +kernel
theorem r211 : fx_rt 211 = 2 := by decide +kernel
theorem kl211 : xKc 211 = 0 := by decide +kernel
theorem mx212 : 3 ≤ xM 212 := by decide +kernel
theorem r212 : fx_rt 212 = 8 := by decide +kernel
theorem kl212 : xKc 212 = 11 := by decide +kernel
theorem mx213 : 1 ≤ xM 213 := by decide +kernel
theorem r213 : fx_rt 213 = 8 := by decide +kernel
theorem kl213 : xKc 213 = 12 := by decide +kernel
theorem mx214 : 5 ≤ xM 214 := by decide +kernel
theorem r214 : fx_rt 214 = 0 := by decide +kernel
theorem kl214 : xKc 214 = 12 := by decide +kernel
theorem mx215 : 1 ≤ xM 215 := by decide +kernel
theorem r215 : fx_rt 215 = 8 := by decide +kernel
theorem kl215 : xKc 215 = 12 := by decide +kernel
theorem mx216 : 6 ≤ xM 216 := by decide +kernel
theorem r216 : fx_rt 216 = 0 := by decide +kernel
theorem kl216 : xKc 216 = 12 := by decide +kernel
theorem mx217 : 2 ≤ xM 217 := by decide +kernel
theorem r217 : fx_rt 217 = 8 := by decide +kernel
theorem kl217 : xKc 217 = 12 := by decide +kernel
theorem mx218 : 2 ≤ xM 218 := by decide +kernel
theorem r218 : fx_rt 218 = 0 := by decide +kernel
theorem kl218 : xKc 218 = 12 := by decide +kernel
theorem mx219 : 1 ≤ xM 219 := by decide +kernel
theorem r219 : fx_rt 219 = 0 := by decide +kernel
theorem kl219 : xKc 219 = 12 := by decide +kernel
theorem mx220 : 3 ≤ xM 220 := by decide +kernel
theorem r220 : fx_rt 220 = 0 := by decide +kernel
theorem kl220 : xKc 220 = 12 := by decide +kernel
theorem mx221 : 1 ≤ xM 221 := by decide +kernel
theorem r221 : fx_rt 221 = 1 := by decide +kernel
theorem mx222 : 3 ≤ xM 222 := by decide +kernel
theorem r222 : fx_rt 222 = 0 := by decide +kernel
theorem kl222 : xKc 222 = 12 := by decide +kernel
theorem mx223 : 2 ≤ xM 223 := by decide +kernel
theorem r223 : fx_rt 223 = 0 := by decide +kernel
theorem mx224 : 3 ≤ xM 224 := by decide +kernel
theorem r224 : fx_rt 224 = 0 := by decide +kernel
theorem mx225 : 2 ≤ xM 225 := by decide +kernel
theorem r225 : fx_rt 225 = 2 := by decide +kernel
theorem kl225 : xKc 225 = 12 := by decide +kernel
theorem mx226 : 1 ≤ xM 226 := by decide +kernel
theorem r226 : fx_rt 226 = 2 := by decide +kernel
theorem kl226 : xKc 226 = 12 := by decide +kernel
theorem mx227 : 2 ≤ xM 227 := by decide +kernel
theorem r227 : fx_rt 227 = 2 := by decide +kernel
theorem kl227 : xKc 227 = 12 := by decide +kernel
theorem mx228 : 1 ≤ xM 228 := by decide +kernel
theorem r228 : fx_rt 228 = 0 := by decide +kernel
theorem kl228 : xKc 228 = 12 := by decide +kernel
theorem mx229 : 1 ≤ xM 229 := by decide +kernel
theorem r229 : fx_rt 229 = 2 := by decide +kernel
theorem kl229 : xKc 229 = 12 := by decide +kernel
theorem mx230 : 1 ≤ xM 230 := by decide +kernel
theorem r230 : fx_rt 230 = 2 := by decide +kernel
theorem kl230 : xKc 230 = 12 := by decide +kernel
theorem mx231 : 1 ≤ xM 231 := by decide +kernel
theorem r231 : fx_rt 231 = 2 := by decide +kernel
theorem kl231 : xKc 231 = 12 := by decide +kernel
theorem mx232 : 1 ≤ xM 232 := by decide +kernel
theorem r232 : fx_rt 232 = 2 := by decide +kernel
theorem kl232 : xKc 232 = 12 := by decide +kernel
theorem mx233 : 2 ≤ xM 233 := by decide +kernel
theorem r233 : fx_rt 233 = 2 := by decide +kernel
theorem kl233 : xKc 233 = 12 := by decide +kernel
theorem mx234 : 1 ≤ xM 234 := by decide +kernel
theorem r234 : fx_rt 234 = 2 := by decide +kernel
theorem kl234 : xKc 234 = 12 := by decide +kernel
theorem mx235 : 2 ≤ xM 235 := by decide +kernel
theorem r235 : fx_rt 235 = 2 := by decide +kernel
theorem kl235 : xKc 235 = 12 := by decide +kernel
theorem mx236 : 1 ≤ xM 236 := by decide +kernel
theorem r236 : fx_rt 236 = 2 := by decide +kernel
theorem kl236 : xKc 236 = 12 := by decide +kernel
theorem mx237 : 1 ≤ xM 237 := by decide +kernel
theorem r237 : fx_rt 237 = 2 := by decide +kernel
theorem kl237 : xKc 237 = 12 := by decide +kernel
theorem mx238 : 2 ≤ xM 238 := by decide +kernel
theorem r238 : fx_rt 238 = 2 := by decide +kernel
theorem kl238 : xKc 238 = 12 := by decide +kernel
theorem mx239 : 2 ≤ xM 239 := by decide +kernel
theorem r239 : fx_rt 239 = 2 := by decide +kernel
theorem kl239 : xKc 239 = 12 := by decide +kernel
theorem mx240 : 2 ≤ xM 240 := by decide +kernel
theorem r240 : fx_rt 240 = 0 := by decide +kernel
theorem kl240 : xKc 240 = 12 := by decide +kernel
theorem mx241 : 3 ≤ xM 241 := by decide +kernel
theorem r241 : fx_rt 241 = 2 := by decide +kernel
theorem kl241 : xKc 241 = 12 := by decide +kernel
theorem mx242 : 2 ≤ xM 242 := by decide +kernel
theorem r242 : fx_rt 242 = 8 := by decide +kernel
theorem kl242 : xKc 242 = 12 := by decide +kernel
theorem mx243 : 2 ≤ xM 243 := by decide +kernel
theorem r243 : fx_rt 243 = 0 := by decide +kernel
theorem kl243 : xKc 243 = 12 := by decide +kernel
theorem mx244 : 4 ≤ xM 244 := by decide +kernel
theorem r244 : fx_rt 244 = 8 := by decide +kernel
theorem kl244 : xKc 244 = 12 := by decide +kernel
theorem mx245 : 4 ≤ xM 245 := by decide +kernel
theorem r245 : fx_rt 245 = 0 := by decide +kernel
theorem kl245 : xKc 245 = 12 := by decide +kernel
theorem mx246 : 1 ≤ xM 246 := by decide +kernel
theorem r246 : fx_rt 246 = 2 := by decide +kernel
theorem kl246 : xKc 246 = 12 := by decide +kernel
theorem mx247 : 1 ≤ xM 247 := by decide +kernel
theorem r247 : fx_rt 247 = 2 := by decide +kernel
theorem kl247 : xKc 247 = 12 := by decide +kernel
theorem mx248 : 1 ≤ xM 248 := by decide +kernel
theorem r248 : fx_rt 248 = 0 := by decide +kernel
theorem kl248 : xKc 248 = 12 := by decide +kernel
theorem mx249 : 1 ≤ xM 249 := by decide +kernel
theorem r249 : fx_rt 249 = 2 := by decide +kernel
theorem kl249 : xKc 249 = 12 := by decide +kernel
theorem mx250 : 1 ≤ xM 250 := by decide +kernel
theorem r250 : fx_rt 250 = 2 := by decide +kernel
theorem kl250 : xKc 250 = 12 := by decide +kernel
theorem mx251 : 1 ≤ xM 251 := by decide +kernel
theorem r251 : fx_rt 251 = 2 := by decide +kernel
theorem kl251 : xKc 251 = 12 := by decide +kernel
theorem mx252 : 4 ≤ xM 252 := by decide +kernel
theorem r252 : fx_rt 252 = 8 := by decide +kernel
theorem kl252 : xKc 252 = 12 := by decide +kernel
theorem mx253 : 3 ≤ xM 253 := by decide +kernel
theorem r253 : fx_rt 253 = 8 := by decide +kernel
theorem kl253 : xKc 253 = 12 := by decide +kernel
theorem mx254 : 2 ≤ xM 254 := by decide +kernel
theorem r254 : fx_rt 254 = 8 := by decide +kernel
theorem kl254 : xKc 254 = 12 := by decide +kernel
theorem mx255 : 2 ≤ xM 255 := by decide +kernel
theorem r255 : fx_rt 255 = 8 := by decide +kernel
theorem kl255 : xKc 255 = 12 := by decide +kernel
theorem mx256 : 2 ≤ xM 256 := by decide +kernel
theorem r256 : fx_rt 256 = 8 := by decide +kernel
theorem kl256 : xKc 256 = 12 := by decide +kernel
theorem mx257 : 2 ≤ xM 257 := by decide +kernel
theorem r257 : fx_rt 257 = 8 := by decide +kernel
theorem kl257 : xKc 257 = 12 := by decide +kernel
theorem mx258 : 2 ≤ xM 258 := by decide +kernel
theorem r258 : fx_rt 258 = 8 := by decide +kernel
theorem kl258 : xKc 258 = 12 := by decide +kernel
theorem mx259 : 2 ≤ xM 259 := by decide +kernel
theorem r259 : fx_rt 259 = 8 := by decide +kernel
theorem kl259 : xKc 259 = 12 := by decide +kernel
theorem mx260 : 3 ≤ xM 260 := by decide +kernel
theorem r260 : fx_rt 260 = 8 := by decide +kernel
theorem kl260 : xKc 260 = 12 := by decide +kernel
theorem mx261 : 1 ≤ xM 261 := by decide +kernel
theorem r261 : fx_rt 261 = 8 := by decide +kernel
theorem kl261 : xKc 261 = 12 := by decide +kernel
theorem mx262 : 1 ≤ xM 262 := by decide +kernel
theorem r262 : fx_rt 262 = 8 := by decide +kernel
theorem kl262 : xKc 262 = 12 := by decide +kernel
theorem mx263 : 1 ≤ xM 263 := by decide +kernel
theorem r263 : fx_rt 263 = 8 := by decide +kernel
theorem kl263 : xKc 263 = 12 := by decide +kernel
theorem mx264 : 3 ≤ xM 264 := by decide +kernel
theorem r264 : fx_rt 264 = 8 := by decide +kernel
theorem kl264 : xKc 264 = 12 := by decide +kernel
theorem mx265 : 3 ≤ xM 265 := by decide +kernel
theorem r265 : fx_rt 265 = 8 := by decide +kernel
theorem kl265 : xKc 265 = 12 := by decide +kernel
theorem mx266 : 2 ≤ xM 266 := by decide +kernel
theorem r266 : fx_rt 266 = 8 := by decide +kernel
theorem kl266 : xKc 266 = 12 := by decide +kernel
theorem mx267 : 1 ≤ xM 267 := by decide +kernel
theorem r267 : fx_rt 267 = 8 := by decide +kernel
theorem kl267 : xKc 267 = 12 := by decide +kernel
theorem mx268 : 2 ≤ xM 268 := by decide +kernel
theorem r268 : fx_rt 268 = 0 := by decide +kernel
theorem kl268 : xKc 268 = 12 := by decide +kernel
theorem mx269 : 2 ≤ xM 269 := by decide +kernel
theorem r269 : fx_rt 269 = 2 := by decide +kernel
theorem kl269 : xKc 269 = 12 := by decide +kernel
theorem mx270 : 2 ≤ xM 270 := by decide +kernel
theorem r270 : fx_rt 270 = 0 := by decide +kernel
theorem kl270 : xKc 270 = 12 := by decide +kernel
theorem mx271 : 2 ≤ xM 271 := by decide +kernel
theorem r271 : fx_rt 271 = 0 := by decide +kernel
theorem kl271 : xKc 271 = 12 := by decide +kernel
theorem mx272 : 2 ≤ xM 272 := by decide +kernel
theorem r272 : fx_rt 272 = 2 := by decide +kernel
theorem kl272 : xKc 272 = 12 := by decide +kernel
theorem mx273 : 2 ≤ xM 273 := by decide +kernel
theorem r273 : fx_rt 273 = 2 := by decide +kernel
theorem kl273 : xKc 273 = 12 := by decide +kernel
theorem mx274 : 3 ≤ xM 274 := by decide +kernel
theorem r274 : fx_rt 274 = 0 := by decide +kernel
theorem kl274 : xKc 274 = 12 := by decide +kernel
theorem mx275 : 2 ≤ xM 275 := by decide +kernel
theorem r275 : fx_rt 275 = 2 := by decide +kernel
theorem kl275 : xKc 275 = 12 := by decide +kernel
theorem mx276 : 2 ≤ xM 276 := by decide +kernel
theorem r276 : fx_rt 276 = 2 := by decide +kernel
theorem kl276 : xKc 276 = 12 := by decide +kernel
theorem mx277 : 3 ≤ xM 277 := by decide +kernel
theorem r277 : fx_rt 277 = 2 := by decide +kernel
theorem kl277 : xKc 277 = 12 := by decide +kernel
theorem mx278 : 2 ≤ xM 278 := by decide +kernel
theorem r278 : fx_rt 278 = 2 := by decide +kernel
theorem kl278 : xKc 278 = 12 := by decide +kernel
theorem mx279 : 1 ≤ xM 279 := by decide +kernel
theorem r279 : fx_rt 279 = 8 := by decide +kernel
theorem kl279 : xKc 279 = 12 := by decide +kernel
theorem mx280 : 1 ≤ xM 280 := by decide +kernel
theorem r280 : fx_rt 280 = 0 := by decide +kernel
theorem kl280 : xKc 280 = 12 := by decide +kernel
theorem mx281 : 3 ≤ xM 281 := by decide +kernel
theorem r281 : fx_rt 281 = 8 := by decide +kernel
theorem kl281 : xKc 281 = 12 := by decide +kernel
theorem mx282 : 1 ≤ xM 282 := by decide +kernel
theorem r282 : fx_rt 282 = 8 := by decide +kernel
theorem kl282 : xKc 282 = 12 := by decide +kernel
theorem mx283 : 1 ≤ xM 283 := by decide +kernel
theorem r283 : fx_rt 283 = 8 := by decide +kernel
theorem kl283 : xKc 283 = 12 := by decide +kernel
theorem mx284 : 2 ≤ xM 284 := by decide +kernel
theorem r284 : fx_rt 284 = 0 := by decide +kernel
theorem kl284 : xKc 284 = 12 := by decide +kernel
theorem mx285 : 1 ≤ xM 285 := by decide +kernel
theorem r285 : fx_rt 285 = 8 := by decide +kernel
theorem kl285 : xKc 285 = 12 := by decide +kernel
theorem mx286 : 2 ≤ xM 286 := by decide +kernel
theorem r286 : fx_rt 286 = 8 := by decide +kernel
theorem kl286 : xKc 286 = 12 := by decide +kernel
theorem mx287 : 2 ≤ xM 287 := by decide +kernel
theorem r287 : fx_rt 287 = 0 := by decide +kernel
theorem kl287 : xKc 287 = 12 := by decide +kernel
theorem mx288 : 2 ≤ xM 288 := by decide +kernel
theorem r288 : fx_rt 288 = 0 := by decide +kernel
theorem kl288 : xKc 288 = 12 := by decide +kernel
theorem mx289 : 5 ≤ xM 289 := by decide +kernel
theorem r289 : fx_rt 289 = 8 := by decide +kernel
theorem kl289 : xKc 289 = 12 := by decide +kernel
theorem mx290 : 3 ≤ xM 290 := by decide +kernel
theorem r290 : fx_rt 290 = 8 := by decide +kernel
theorem kl290 : xKc 290 = 12 := by decide +kernel
theorem mx291 : 4 ≤ xM 291 := by decide +kernel
theorem r291 : fx_rt 291 = 0 := by decide +kernel
theorem kl291 : xKc 291 = 12 := by decide +kernel
theorem mx292 : 2 ≤ xM 292 := by decide +kernel
theorem r292 : fx_rt 292 = 8 := by decide +kernel
theorem kl292 : xKc 292 = 12 := by decide +kernel
theorem mx293 : 1 ≤ xM 293 := by decide +kernel
theorem r293 : fx_rt 293 = 8 := by decide +kernel
theorem kl293 : xKc 293 = 12 := by decide +kernel
theorem mx294 : 1 ≤ xM 294 := by decide +kernel
theorem r294 : fx_rt 294 = 8 := by decide +kernel
theorem kl294 : xKc 294 = 12 := by decide +kernel
theorem mx295 : 1 ≤ xM 295 := by decide +kernel
theorem r295 : fx_rt 295 = 8 := by decide +kernel
theorem kl295 : xKc 295 = 12 := by decide +kernel
theorem mx296 : 1 ≤ xM 296 := by decide +kernel
theorem r296 : fx_rt 296 = 0 := by decide +kernel
theorem kl296 : xKc 296 = 12 := by decide +kernel
theorem mx297 : 3 ≤ xM 297 := by decide +kernel
theorem r297 : fx_rt 297 = 8 := by decide +kernel
theorem kl297 : xKc 297 = 12 := by decide +kernel
theorem mx298 : 3 ≤ xM 298 := by decide +kernel
theorem r298 : fx_rt 298 = 8 := by decide +kernel
theorem kl298 : xKc 298 = 12 := by decide +kernel
theorem mx299 : 2 ≤ xM 299 := by decide +kernel
theorem r299 : fx_rt 299 = 2 := by decide +kernel
theorem kl299 : xKc 299 = 12 := by decide +kernel
theorem mx300 : 2 ≤ xM 300 := by decide +kernel
theorem r300 : fx_rt 300 = 2 := by decide +kernel
theorem kl300 : xKc 300 = 12 := by decide +kernel
theorem mx301 : 3 ≤ xM 301 := by decide +kernel
theorem r301 : fx_rt 301 = 0 := by decide +kernel
theorem kl301 : xKc 301 = 12 := by decide +kernel
theorem mx302 : 1 ≤ xM 302 := by decide +kernel
theorem r302 : fx_rt 302 = 0 := by decide +kernel
theorem mx303 : 2 ≤ xM 303 := by decide +kernel
theorem r303 : fx_rt 303 = 2 := by decide +kernel
theorem kl303 : xKc 303 = 12 := by decide +kernel
theorem mx304 : 1 ≤ xM 304 := by decide +kernel
theorem r304 : fx_rt 304 = 0 := by decide +kernel
theorem mx305 : 1 ≤ xM 305 := by decide +kernel
theorem r305 : fx_rt 305 = 8 := by decide +kernel
theorem kl305 : xKc 305 = 12 := by decide +kernel
theorem mx306 : 1 ≤ xM 306 := by decide +kernel
theorem r306 : fx_rt 306 = 0 := by decide +kernel
theorem kl306 : xKc 306 = 12 := by decide +kernel
theorem mx307 : 1 ≤ xM 307 := by decide +kernel
theorem r307 : fx_rt 307 = 2 := by decide +kernel
theorem kl307 : xKc 307 = 12 := by decide +kernel
theorem mx308 : 3 ≤ xM 308 := by decide +kernel
theorem r308 : fx_rt 308 = 2 := by decide +kernel
theorem kl308 : xKc 308 = 12 := by decide +kernel
theorem mx309 : 1 ≤ xM 309 := by decide +kernel
theorem r309 : fx_rt 309 = 2 := by decide +kernel
theorem kl309 : xKc 309 = 12 := by decide +kernel
theorem mx310 : 3 ≤ xM 310 := by decide +kernel
theorem r310 : fx_rt 310 = 2 := by decide +kernel
theorem kl310 : xKc 310 = 12 := by decide +kernel
theorem mx311 : 1 ≤ xM 311 := by decide +kernel
theorem r311 : fx_rt 311 = 2 := by decide +kernel
theorem kl311 : xKc 311 = 12 := by decide +kernel
theorem mx312 : 1 ≤ xM 312 := by decide +kernel
theorem r312 : fx_rt 312 = 8 := by decide +kernel
theorem kl312 : xKc 312 = 12 := by decide +kernel
theorem mx313 : 1 ≤ xM 313 := by decide +kernel
theorem r313 : fx_rt 313 = 2 := by decide +kernel
theorem kl313 : xKc 313 = 12 := by decide +kernel
theorem mx314 : 1 ≤ xM 314 := by decide +kernel
theorem r314 : fx_rt 314 = 2 := by decide +kernel
theorem kl314 : xKc 314 = 12 := by decide +kernel
theorem mx315 : 1 ≤ xM 315 := by decide +kernel
theorem r315 : fx_rt 315 = 8 := by decide +kernel
theorem kl315 : xKc 315 = 12 := by decide +kernel
theorem mx316 : 4 ≤ xM 316 := by decide +kernel
theorem r316 : fx_rt 316 = 8 := by decide +kernel
theorem kl316 : xKc 316 = 12 := by decide +kernel
theorem mx317 : 1 ≤ xM 317 := by decide +kernel
theorem r317 : fx_rt 317 = 8 := by decide +kernel
theorem kl317 : xKc 317 = 12 := by decide +kernel
theorem mx318 : 1 ≤ xM 318 := by decide +kernel
theorem r318 : fx_rt 318 = 8 := by decide +kernel
theorem kl318 : xKc 318 = 12 := by decide +kernel
theorem mx319 : 1 ≤ xM 319 := by decide +kernel
theorem r319 : fx_rt 319 = 8 := by decide +kernel
theorem kl319 : xKc 319 = 12 := by decide +kernel
theorem mx320 : 1 ≤ xM 320 := by decide +kernel
theorem r320 : fx_rt 320 = 0 := by decide +kernel
theorem kl320 : xKc 320 = 12 := by decide +kernel
theorem mx321 : 1 ≤ xM 321 := by decide +kernel
theorem r321 : fx_rt 321 = 8 := by decide +kernel
theorem kl321 : xKc 321 = 12 := by decide +kernel
theorem mx322 : 2 ≤ xM 322 := by decide +kernel
theorem r322 : fx_rt 322 = 8 := by decide +kernel
theorem kl322 : xKc 322 = 12 := by decide +kernel
theorem mx323 : 1 ≤ xM 323 := by decide +kernel
theorem r323 : fx_rt 323 = 8 := by decide +kernel
theorem kl323 : xKc 323 = 12 := by decide +kernel
theorem mx324 : 2 ≤ xM 324 := by decide +kernel
theorem r324 : fx_rt 324 = 8 := by decide +kernel
theorem kl324 : xKc 324 = 12 := by decide +kernel
theorem mx325 : 3 ≤ xM 325 := by decide +kernel
theorem r325 : fx_rt 325 = 8 := by decide +kernel
theorem kl325 : xKc 325 = 12 := by decide +kernel
theorem mx326 : 1 ≤ xM 326 := by decide +kernel
theorem r326 : fx_rt 326 = 8 := by decide +kernel
theorem kl326 : xKc 326 = 12 := by decide +kernel
theorem mx327 : 2 ≤ xM 327 := by decide +kernel
theorem r327 : fx_rt 327 = 8 := by decide +kernel
theorem kl327 : xKc 327 = 12 := by decide +kernel
theorem mx328 : 1 ≤ xM 328 := by decide +kernel
theorem r328 : fx_rt 328 = 8 := by decide +kernel
theorem kl328 : xKc 328 = 12 := by decide +kernel
theorem mx329 : 3 ≤ xM 329 := by decide +kernel
theorem r329 : fx_rt 329 = 8 := by decide +kernel
theorem kl329 : xKc 329 = 12 := by decide +kernel
theorem mx330 : 2 ≤ xM 330 := by decide +kernel
theorem r330 : fx_rt 330 = 8 := by decide +kernel
theorem kl330 : xKc 330 = 12 := by decide +kernel
theorem mx331 : 1 ≤ xM 331 := by decide +kernel
theorem r331 : fx_rt 331 = 8 := by decide +kernel
theorem kl331 : xKc 331 = 12 := by decide +kernel
theorem mx332 : 1 ≤ xM 332 := by decide +kernel
theorem r332 : fx_rt 332 = 8 := by decide +kernel
theorem kl332 : xKc 332 = 12 := by decide +kernel
theorem mx333 : 1 ≤ xM 333 := by decide +kernel
theorem r333 : fx_rt 333 = 8 := by decide +kernel
theorem kl333 : xKc 333 = 12 := by decide +kernel
theorem mx334 : 2 ≤ xM 334 := by decide +kernel
theorem r334 : fx_rt 334 = 8 := by decide +kernel
theorem kl334 : xKc 334 = 12 := by decide +kernel
theorem mx335 : 2 ≤ xM 335 := by decide +kernel
theorem r335 : fx_rt 335 = 8 := by decide +kernel
theorem kl335 : xKc 335 = 12 := by decide +kernel
theorem mx336 : 2 ≤ xM 336 := by decide +kernel
theorem r336 : fx_rt 336 = 8 := by decide +kernel
theorem kl336 : xKc 336 = 12 := by decide +kernel
theorem mx337 : 3 ≤ xM 337 := by decide +kernel
theorem r337 : fx_rt 337 = 0 := by decide +kernel
theorem kl337 : xKc 337 = 12 := by decide +kernel
theorem mx338 : 2 ≤ xM 338 := by decide +kernel
theorem r338 : fx_rt 338 = 8 := by decide +kernel
theorem kl338 : xKc 338 = 12 := by decide +kernel
theorem mx339 : 3 ≤ xM 339 := by decide +kernel
theorem r339 : fx_rt 339 = 0 := by decide +kernel
theorem kl339 : xKc 339 = 12 := by decide +kernel
theorem mx340 : 2 ≤ xM 340 := by decide +kernel
theorem r340 : fx_rt 340 = 8 := by decide +kernel
theorem kl340 : xKc 340 = 12 := by decide +kernel
theorem mx341 : 1 ≤ xM 341 := by decide +kernel
theorem r341 : fx_rt 341 = 0 := by decide +kernel
theorem kl341 : xKc 341 = 12 := by decide +kernel
theorem mx342 : 2 ≤ xM 342 := by decide +kernel
theorem r342 : fx_rt 342 = 0 := by decide +kernel
theorem kl342 : xKc 342 = 12 := by decide +kernel
theorem mx343 : 2 ≤ xM 343 := by decide +kernel
theorem r343 : fx_rt 343 = 2 := by decide +kernel
theorem kl343 : xKc 343 = 12 := by decide +kernel
theorem mx344 : 2 ≤ xM 344 := by decide +kernel
theorem r344 : fx_rt 344 = 0 := by decide +kernel
theorem kl344 : xKc 344 = 12 := by decide +kernel
theorem mx345 : 2 ≤ xM 345 := by decide +kernel
theorem r345 : fx_rt 345 = 0 := by decide +kernel
theorem kl345 : xKc 345 = 12 := by decide +kernel
theorem mx346 : 1 ≤ xM 346 := by decide +kernel
theorem r346 : fx_rt 346 = 2 := by decide +kernel
theorem kl346 : xKc 346 = 12 := by decide +kernel
theorem mx347 : 2 ≤ xM 347 := by decide +kernel
theorem r347 : fx_rt 347 = 8 := by decide +kernel
theorem kl347 : xKc 347 = 12 := by decide +kernel
theorem mx348 : 1 ≤ xM 348 := by decide +kernel
theorem r348 : fx_rt 348 = 8 := by decide +kernel
theorem kl348 : xKc 348 = 12 := by decide +kernel
theorem mx349 : 3 ≤ xM 349 := by decide +kernel
theorem r349 : fx_rt 349 = 8 := by decide +kernel
theorem kl349 : xKc 349 = 12 := by decide +kernel
theorem mx350 : 1 ≤ xM 350 := by decide +kernel
theorem r350 : fx_rt 350 = 0 := by decide +kernel
theorem kl350 : xKc 350 = 12 := by decide +kernel
theorem mx351 : 2 ≤ xM 351 := by decide +kernel
theorem r351 : fx_rt 351 = 2 := by decide +kernel
theorem kl351 : xKc 351 = 12 := by decide +kernel
theorem mx352 : 2 ≤ xM 352 := by decide +kernel
theorem r352 : fx_rt 352 = 2 := by decide +kernel
theorem kl352 : xKc 352 = 12 := by decide +kernel
theorem mx353 : 1 ≤ xM 353 := by decide +kernel
theorem r353 : fx_rt 353 = 2 := by decide +kernel
theorem kl353 : xKc 353 = 12 := by decide +kernel
theorem mx354 : 1 ≤ xM 354 := by decide +kernel
theorem r354 : fx_rt 354 = 8 := by decide +kernel
theorem kl354 : xKc 354 = 12 := by decide +kernel
theorem mx355 : 2 ≤ xM 355 := by decide +kernel
theorem r355 : fx_rt 355 = 0 := by decide +kernel
theorem kl355 : xKc 355 = 12 := by decide +kernel
theorem mx356 : 2 ≤ xM 356 := by decide +kernel
theorem r356 : fx_rt 356 = 0 := by decide +kernel
theorem kl356 : xKc 356 = 12 := by decide +kernel
theorem mx357 : 2 ≤ xM 357 := by decide +kernel
theorem r357 : fx_rt 357 = 0 := by decide +kernel
theorem kl357 : xKc 357 = 12 := by decide +kernel
theorem mx358 : 2 ≤ xM 358 := by decide +kernel
theorem r358 : fx_rt 358 = 8 := by decide +kernel
theorem kl358 : xKc 358 = 12 := by decide +kernel
theorem mx359 : 2 ≤ xM 359 := by decide +kernel
theorem r359 : fx_rt 359 = 0 := by decide +kernel
theorem kl359 : xKc 359 = 12 := by decide +kernel
theorem mx360 : 1 ≤ xM 360 := by decide +kernel
theorem r360 : fx_rt 360 = 8 := by decide +kernel
theorem kl360 : xKc 360 = 12 := by decide +kernel
theorem mx361 : 1 ≤ xM 361 := by decide +kernel
theorem r361 : fx_rt 361 = 2 := by decide +kernel
theorem kl361 : xKc 361 = 12 := by decide +kernel
theorem mx362 : 2 ≤ xM 362 := by decide +kernel
theorem r362 : fx_rt 362 = 0 := by decide +kernel
theorem kl362 : xKc 362 = 12 := by decide +kernel
theorem mx363 : 2 ≤ xM 363 := by decide +kernel
theorem r363 : fx_rt 363 = 2 := by decide +kernel
theorem kl363 : xKc 363 = 12 := by decide +kernel
theorem mx364 : 2 ≤ xM 364 := by decide +kernel
theorem r364 : fx_rt 364 = 8 := by decide +kernel
theorem kl364 : xKc 364 = 12 := by decide +kernel
theorem mx365 : 2 ≤ xM 365 := by decide +kernel
theorem r365 : fx_rt 365 = 2 := by decide +kernel
theorem kl365 : xKc 365 = 12 := by decide +kernel
theorem mx366 : 1 ≤ xM 366 := by decide +kernel
theorem r366 : fx_rt 366 = 0 := by decide +kernel
theorem kl366 : xKc 366 = 12 := by decide +kernel
theorem mx367 : 2 ≤ xM 367 := by decide +kernel
theorem r367 : fx_rt 367 = 2 := by decide +kernel
theorem kl367 : xKc 367 = 12 := by decide +kernel
theorem mx368 : 2 ≤ xM 368 := by decide +kernel
theorem r368 : fx_rt 368 = 0 := by decide +kernel
theorem kl368 : xKc 368 = 12 := by decide +kernel
theorem mx369 : 2 ≤ xM 369 := by decide +kernel
theorem r369 : fx_rt 369 = 2 := by decide +kernel
theorem kl369 : xKc 369 = 12 := by decide +kernel
theorem mx370 : 1 ≤ xM 370 := by decide +kernel
theorem r370 : fx_rt 370 = 8 := by decide +kernel
theorem kl370 : xKc 370 = 12 := by decide +kernel
theorem mx371 : 4 ≤ xM 371 := by decide +kernel
theorem r371 : fx_rt 371 = 8 := by decide +kernel
theorem kl371 : xKc 371 = 12 := by decide +kernel
theorem mx372 : 1 ≤ xM 372 := by decide +kernel
theorem r372 : fx_rt 372 = 8 := by decide +kernel
theorem kl372 : xKc 372 = 12 := by decide +kernel
theorem mx373 : 1 ≤ xM 373 := by decide +kernel
theorem r373 : fx_rt 373 = 8 := by decide +kernel
theorem kl373 : xKc 373 = 12 := by decide +kernel
theorem mx374 : 1 ≤ xM 374 := by decide +kernel
theorem r374 : fx_rt 374 = 8 := by decide +kernel
theorem kl374 : xKc 374 = 12 := by decide +kernel
theorem mx375 : 2 ≤ xM 375 := by decide +kernel
theorem r375 : fx_rt 375 = 8 := by decide +kernel
theorem kl375 : xKc 375 = 12 := by decide +kernel
theorem mx376 : 1 ≤ xM 376 := by decide +kernel
theorem r376 : fx_rt 376 = 8 := by decide +kernel
theorem kl376 : xKc 376 = 12 := by decide +kernel
theorem mx377 : 1 ≤ xM 377 := by decide +kernel
theorem r377 : fx_rt 377 = 8 := by decide +kernel
theorem kl377 : xKc 377 = 12 := by decide +kernel
theorem mx378 : 1 ≤ xM 378 := by decide +kernel
theorem r378 : fx_rt 378 = 0 := by decide +kernel
theorem kl378 : xKc 378 = 12 := by decide +kernel
theorem mx379 : 2 ≤ xM 379 := by decide +kernel
theorem r379 : fx_rt 379 = 8 := by decide +kernel
theorem kl379 : xKc 379 = 12 := by decide +kernel
theorem mx380 : 2 ≤ xM 380 := by decide +kernel
theorem r380 : fx_rt 380 = 8 := by decide +kernel
theorem kl380 : xKc 380 = 12 := by decide +kernel
theorem mx381 : 1 ≤ xM 381 := by decide +kernel
theorem r381 : fx_rt 381 = 8 := by decide +kernel
theorem kl381 : xKc 381 = 12 := by decide +kernel
theorem mx382 : 2 ≤ xM 382 := by decide +kernel
theorem r382 : fx_rt 382 = 8 := by decide +kernel
theorem kl382 : xKc 382 = 12 := by decide +kernel
theorem mx383 : 1 ≤ xM 383 := by decide +kernel
theorem r383 : fx_rt 383 = 8 := by decide +kernel
theorem kl383 : xKc 383 = 12 := by decide +kernel
theorem mx384 : 2 ≤ xM 384 := by decide +kernel
theorem r384 : fx_rt 384 = 8 := by decide +kernel
theorem kl384 : xKc 384 = 12 := by decide +kernel
theorem mx385 : 1 ≤ xM 385 := by decide +kernel
theorem r385 : fx_rt 385 = 8 := by decide +kernel
theorem kl385 : xKc 385 = 12 := by decide +kernel
theorem mx386 : 2 ≤ xM 386 := by decide +kernel
theorem r386 : fx_rt 386 = 2 := by decide +kernel
theorem kl386 : xKc 386 = 12 := by decide +kernel
theorem mx387 : 1 ≤ xM 387 := by decide +kernel
theorem r387 : fx_rt 387 = 8 := by decide +kernel
theorem kl387 : xKc 387 = 12 := by decide +kernel
theorem mx388 : 2 ≤ xM 388 := by decide +kernel
theorem r388 : fx_rt 388 = 8 := by decide +kernel
theorem kl388 : xKc 388 = 12 := by decide +kernel
theorem mx389 : 2 ≤ xM 389 := by decide +kernel
theorem r389 : fx_rt 389 = 0 := by decide +kernel
theorem kl389 : xKc 389 = 12 := by decide +kernel
theorem mx390 : 1 ≤ xM 390 := by decide +kernel
theorem r390 : fx_rt 390 = 8 := by decide +kernel
theorem kl390 : xKc 390 = 12 := by decide +kernel
theorem mx391 : 1 ≤ xM 391 := by decide +kernel
theorem r391 : fx_rt 391 = 8 := by decide +kernel
theorem kl391 : xKc 391 = 12 := by decide +kernel
theorem mx392 : 2 ≤ xM 392 := by decide +kernel
theorem r392 : fx_rt 392 = 2 := by decide +kernel
theorem kl392 : xKc 392 = 12 := by decide +kernel
theorem mx393 : 2 ≤ xM 393 := by decide +kernel
theorem r393 : fx_rt 393 = 2 := by decide +kernel
theorem kl393 : xKc 393 = 12 := by decide +kernel
theorem mx394 : 2 ≤ xM 394 := by decide +kernel
theorem r394 : fx_rt 394 = 0 := by decide +kernel
theorem kl394 : xKc 394 = 12 := by decide +kernel
theorem mx395 : 3 ≤ xM 395 := by decide +kernel
theorem r395 : fx_rt 395 = 0 := by decide +kernel
theorem kl395 : xKc 395 = 12 := by decide +kernel
theorem mx396 : 3 ≤ xM 396 := by decide +kernel
theorem r396 : fx_rt 396 = 2 := by decide +kernel
theorem kl396 : xKc 396 = 12 := by decide +kernel
theorem mx397 : 4 ≤ xM 397 := by decide +kernel
theorem r397 : fx_rt 397 = 2 := by decide +kernel
theorem kl397 : xKc 397 = 12 := by decide +kernel
theorem mx398 : 2 ≤ xM 398 := by decide +kernel
theorem r398 : fx_rt 398 = 2 := by decide +kernel
theorem kl398 : xKc 398 = 12 := by decide +kernel
theorem mx399 : 1 ≤ xM 399 := by decide +kernel
theorem r399 : fx_rt 399 = 0 := by decide +kernel
theorem mx400 : 1 ≤ xM 400 := by decide +kernel
theorem r400 : fx_rt 400 = 0 := by decide +kernel
theorem mx401 : 1 ≤ xM 401 := by decide +kernel
theorem r401 : fx_rt 401 = 2 := by decide +kernel
theorem mx402 : 2 ≤ xM 402 := by decide +kernel
theorem r402 : fx_rt 402 = 2 := by decide +kernel
theorem kl402 : xKc 402 = 12 := by decide +kernel
theorem mx403 : 3 ≤ xM 403 := by decide +kernel
theorem r403 : fx_rt 403 = 8 := by decide +kernel
theorem kl403 : xKc 403 = 12 := by decide +kernel
theorem mx404 : 2 ≤ xM 404 := by decide +kernel
theorem r404 : fx_rt 404 = 0 := by decide +kernel
theorem kl404 : xKc 404 = 12 := by decide +kernel
theorem mx405 : 2 ≤ xM 405 := by decide +kernel
theorem r405 : fx_rt 405 = 0 := by decide +kernel
theorem kl405 : xKc 405 = 12 := by decide +kernel
theorem mx406 : 2 ≤ xM 406 := by decide +kernel
theorem r406 : fx_rt 406 = 2 := by decide +kernel
theorem kl406 : xKc 406 = 12 := by decide +kernel
theorem mx407 : 1 ≤ xM 407 := by decide +kernel
theorem r407 : fx_rt 407 = 0 := by decide +kernel
theorem kl407 : xKc 407 = 12 := by decide +kernel
theorem mx408 : 3 ≤ xM 408 := by decide +kernel
theorem r408 : fx_rt 408 = 2 := by decide +kernel
theorem kl408 : xKc 408 = 12 := by decide +kernel
theorem mx409 : 1 ≤ xM 409 := by decide +kernel
theorem r409 : fx_rt 409 = 8 := by decide +kernel
theorem kl409 : xKc 409 = 12 := by decide +kernel
theorem mx410 : 1 ≤ xM 410 := by decide +kernel
theorem r410 : fx_rt 410 = 8 := by decide +kernel
theorem kl410 : xKc 410 = 12 := by decide +kernel
theorem mx411 : 1 ≤ xM 411 := by decide +kernel
theorem r411 : fx_rt 411 = 8 := by decide +kernel
theorem kl411 : xKc 411 = 12 := by decide +kernel
theorem mx412 : 1 ≤ xM 412 := by decide +kernel
theorem r412 : fx_rt 412 = 8 := by decide +kernel
theorem kl412 : xKc 412 = 12 := by decide +kernel
theorem mx413 : 2 ≤ xM 413 := by decide +kernel
theorem r413 : fx_rt 413 = 8 := by decide +kernel
theorem kl413 : xKc 413 = 12 := by decide +kernel
theorem mx414 : 1 ≤ xM 414 := by decide +kernel
theorem r414 : fx_rt 414 = 8 := by decide +kernel
theorem kl414 : xKc 414 = 12 := by decide +kernel
theorem mx415 : 3 ≤ xM 415 := by decide +kernel
theorem r415 : fx_rt 415 = 0 := by decide +kernel
theorem kl415 : xKc 415 = 12 := by decide +kernel
theorem mx416 : 2 ≤ xM 416 := by decide +kernel
theorem r416 : fx_rt 416 = 0 := by decide +kernel
theorem kl416 : xKc 416 = 12 := by decide +kernel
theorem mx417 : 2 ≤ xM 417 := by decide +kernel
theorem r417 : fx_rt 417 = 8 := by decide +kernel
theorem kl417 : xKc 417 = 12 := by decide +kernel
theorem mx418 : 1 ≤ xM 418 := by decide +kernel
theorem r418 : fx_rt 418 = 8 := by decide +kernel
theorem kl418 : xKc 418 = 12 := by decide +kernel
theorem mx419 : 2 ≤ xM 419 := by decide +kernel
theorem r419 : fx_rt 419 = 2 := by decide +kernel
theorem kl419 : xKc 419 = 12 := by decide +kernel
theorem mx420 : 2 ≤ xM 420 := by decide +kernel
theorem r420 : fx_rt 420 = 2 := by decide +kernel
theorem kl420 : xKc 420 = 12 := by decide +kernel
theorem mx421 : 2 ≤ xM 421 := by decide +kernel
theorem r421 : fx_rt 421 = 0 := by decide +kernel
theorem kl421 : xKc 421 = 12 := by decide +kernel
theorem mx422 : 1 ≤ xM 422 := by decide +kernel
theorem r422 : fx_rt 422 = 0 := by decide +kernel
theorem kl422 : xKc 422 = 12 := by decide +kernel
theorem mx423 : 2 ≤ xM 423 := by decide +kernel
theorem r423 : fx_rt 423 = 0 := by decide +kernel
theorem kl423 : xKc 423 = 12 := by decide +kernel
theorem mx424 : 3 ≤ xM 424 := by decide +kernel
theorem r424 : fx_rt 424 = 0 := by decide +kernel
theorem kl424 : xKc 424 = 12 := by decide +kernel
theorem mx425 : 4 ≤ xM 425 := by decide +kernel
theorem r425 : fx_rt 425 = 2 := by decide +kernel
theorem kl425 : xKc 425 = 12 := by decide +kernel
theorem mx426 : 2 ≤ xM 426 := by decide +kernel
theorem r426 : fx_rt 426 = 0 := by decide +kernel
theorem kl426 : xKc 426 = 3 := by decide +kernel
theorem mx427 : 2 ≤ xM 427 := by decide +kernel
theorem r427 : fx_rt 427 = 0 := by decide +kernel
theorem kl427 : xKc 427 = 3 := by decide +kernel
theorem mx428 : 2 ≤ xM 428 := by decide +kernel
theorem r428 : fx_rt 428 = 0 := by decide +kernel
theorem kl428 : xKc 428 = 11 := by decide +kernel
theorem mx429 : 2 ≤ xM 429 := by decide +kernel
theorem r429 : fx_rt 429 = 2 := by decide +kernel
