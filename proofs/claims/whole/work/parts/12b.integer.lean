/-! SEGMENTS of Integer (by gen/emit_segs.py) -/
/- java/lang/Integer.bitCount(I)I -/
theorem c79_0 : fx_op 79 0 = some (.iload_n 0, 1, 0) := by decide +kernel
theorem c79_1 : fx_op 79 1 = some (.iload_n 0, 2, 1) := by decide +kernel
theorem c79_2 : fx_ci 79 2 = some (1, 3) := by decide +kernel
theorem c79_3 : fx_op 79 3 = some (.iushr, 4, 3) := by decide +kernel
theorem c79_4 : fx_ci 79 4 = some (1431655765, 7) := by decide +kernel
theorem c79_7 : fx_op 79 7 = some (.iand, 8, 7) := by decide +kernel
theorem c79_8 : fx_op 79 8 = some (.isub, 9, 8) := by decide +kernel
theorem c79_9 : fx_op 79 9 = some (.istore_n 0, 10, 9) := by decide +kernel
theorem c79_10 : fx_op 79 10 = some (.iload_n 0, 11, 10) := by decide +kernel
theorem c79_11 : fx_ci 79 11 = some (858993459, 14) := by decide +kernel
theorem c79_14 : fx_op 79 14 = some (.iand, 15, 14) := by decide +kernel
theorem c79_15 : fx_op 79 15 = some (.iload_n 0, 16, 15) := by decide +kernel
theorem c79_16 : fx_ci 79 16 = some (2, 17) := by decide +kernel
theorem c79_17 : fx_op 79 17 = some (.iushr, 18, 17) := by decide +kernel
theorem c79_18 : fx_ci 79 18 = some (858993459, 21) := by decide +kernel
theorem c79_21 : fx_op 79 21 = some (.iand, 22, 21) := by decide +kernel
theorem c79_22 : fx_op 79 22 = some (.iadd, 23, 22) := by decide +kernel
theorem c79_23 : fx_op 79 23 = some (.istore_n 0, 24, 23) := by decide +kernel
theorem c79_24 : fx_op 79 24 = some (.iload_n 0, 25, 24) := by decide +kernel
theorem c79_25 : fx_op 79 25 = some (.iload_n 0, 26, 25) := by decide +kernel
theorem c79_26 : fx_ci 79 26 = some (4, 27) := by decide +kernel
theorem c79_27 : fx_op 79 27 = some (.iushr, 28, 27) := by decide +kernel
theorem c79_28 : fx_op 79 28 = some (.iadd, 29, 28) := by decide +kernel
theorem c79_29 : fx_ci 79 29 = some (252645135, 32) := by decide +kernel
theorem c79_32 : fx_op 79 32 = some (.iand, 33, 32) := by decide +kernel
theorem c79_33 : fx_op 79 33 = some (.istore_n 0, 34, 33) := by decide +kernel
theorem c79_34 : fx_op 79 34 = some (.iload_n 0, 35, 34) := by decide +kernel
theorem c79_35 : fx_op 79 35 = some (.iload_n 0, 36, 35) := by decide +kernel
theorem c79_36 : fx_ci 79 36 = some (8, 38) := by decide +kernel
theorem c79_38 : fx_op 79 38 = some (.iushr, 39, 38) := by decide +kernel
theorem c79_39 : fx_op 79 39 = some (.iadd, 40, 39) := by decide +kernel
theorem c79_40 : fx_op 79 40 = some (.istore_n 0, 41, 40) := by decide +kernel
theorem c79_41 : fx_op 79 41 = some (.iload_n 0, 42, 41) := by decide +kernel
theorem c79_42 : fx_op 79 42 = some (.iload_n 0, 43, 42) := by decide +kernel
theorem c79_43 : fx_ci 79 43 = some (16, 45) := by decide +kernel
theorem c79_45 : fx_op 79 45 = some (.iushr, 46, 45) := by decide +kernel
theorem c79_46 : fx_op 79 46 = some (.iadd, 47, 46) := by decide +kernel
theorem c79_47 : fx_op 79 47 = some (.istore_n 0, 48, 47) := by decide +kernel
theorem c79_48 : fx_op 79 48 = some (.iload_n 0, 49, 48) := by decide +kernel
theorem c79_49 : fx_ci 79 49 = some (63, 51) := by decide +kernel
theorem c79_51 : fx_op 79 51 = some (.iand, 52, 51) := by decide +kernel
theorem c79_52 : fx_op 79 52 = some (.ireturn, 53, 52) := by decide +kernel
theorem s79_0 {kc : List va_E} {d : Nat} {x0 : Int} {M : fx_M} {Q : Option fx_V → fx_M → Prop} (H : Q (some (jI (fx_and (((fx_and (((fx_and (x0 - (fx_and (fx_ushr x0 1) 1431655765)) 858993459) + (fx_and (fx_ushr (x0 - (fx_and (fx_ushr x0 1) 1431655765)) 2) 858993459)) + (fx_ushr ((fx_and (x0 - (fx_and (fx_ushr x0 1) 1431655765)) 858993459) + (fx_and (fx_ushr (x0 - (fx_and (fx_ushr x0 1) 1431655765)) 2) 858993459)) 4)) 252645135) + (fx_ushr (fx_and (((fx_and (x0 - (fx_and (fx_ushr x0 1) 1431655765)) 858993459) + (fx_and (fx_ushr (x0 - (fx_and (fx_ushr x0 1) 1431655765)) 2) 858993459)) + (fx_ushr ((fx_and (x0 - (fx_and (fx_ushr x0 1) 1431655765)) 858993459) + (fx_and (fx_ushr (x0 - (fx_and (fx_ushr x0 1) 1431655765)) 2) 858993459)) 4)) 252645135) 8)) + (fx_ushr ((fx_and (((fx_and (x0 - (fx_and (fx_ushr x0 1) 1431655765)) 858993459) + (fx_and (fx_ushr (x0 - (fx_and (fx_ushr x0 1) 1431655765)) 2) 858993459)) + (fx_ushr ((fx_and (x0 - (fx_and (fx_ushr x0 1) 1431655765)) 858993459) + (fx_and (fx_ushr (x0 - (fx_and (fx_ushr x0 1) 1431655765)) 2) 858993459)) 4)) 252645135) + (fx_ushr (fx_and (((fx_and (x0 - (fx_and (fx_ushr x0 1) 1431655765)) 858993459) + (fx_and (fx_ushr (x0 - (fx_and (fx_ushr x0 1) 1431655765)) 2) 858993459)) + (fx_ushr ((fx_and (x0 - (fx_and (fx_ushr x0 1) 1431655765)) 858993459) + (fx_and (fx_ushr (x0 - (fx_and (fx_ushr x0 1) 1431655765)) 2) 858993459)) 4)) 252645135) 8)) 16)) 63))) M) : wp kc (d + 1) 79 0 [some (jI x0)] [] M Q :=
  (x_ildn c79_0 rfl (x_ildn c79_1 rfl (x_ci c79_2 (x_iushr c79_3 (x_ci c79_4 (x_iand c79_7 (x_isub c79_8 (x_istn (l' := [some (jI (x0 - (fx_and (fx_ushr x0 1) 1431655765)))]) c79_9 rfl (x_ildn c79_10 rfl (x_ci c79_11 (x_iand c79_14 (x_ildn c79_15 rfl (x_ci c79_16 (x_iushr c79_17 (x_ci c79_18 (x_iand c79_21 (x_iadd c79_22 (x_istn (l' := [some (jI ((fx_and (x0 - (fx_and (fx_ushr x0 1) 1431655765)) 858993459) + (fx_and (fx_ushr (x0 - (fx_and (fx_ushr x0 1) 1431655765)) 2) 858993459)))]) c79_23 rfl (x_ildn c79_24 rfl (x_ildn c79_25 rfl (x_ci c79_26 (x_iushr c79_27 (x_iadd c79_28 (x_ci c79_29 (x_iand c79_32 (x_istn (l' := [some (jI (fx_and (((fx_and (x0 - (fx_and (fx_ushr x0 1) 1431655765)) 858993459) + (fx_and (fx_ushr (x0 - (fx_and (fx_ushr x0 1) 1431655765)) 2) 858993459)) + (fx_ushr ((fx_and (x0 - (fx_and (fx_ushr x0 1) 1431655765)) 858993459) + (fx_and (fx_ushr (x0 - (fx_and (fx_ushr x0 1) 1431655765)) 2) 858993459)) 4)) 252645135))]) c79_33 rfl (x_ildn c79_34 rfl (x_ildn c79_35 rfl (x_ci c79_36 (x_iushr c79_38 (x_iadd c79_39 (x_istn (l' := [some (jI ((fx_and (((fx_and (x0 - (fx_and (fx_ushr x0 1) 1431655765)) 858993459) + (fx_and (fx_ushr (x0 - (fx_and (fx_ushr x0 1) 1431655765)) 2) 858993459)) + (fx_ushr ((fx_and (x0 - (fx_and (fx_ushr x0 1) 1431655765)) 858993459) + (fx_and (fx_ushr (x0 - (fx_and (fx_ushr x0 1) 1431655765)) 2) 858993459)) 4)) 252645135) + (fx_ushr (fx_and (((fx_and (x0 - (fx_and (fx_ushr x0 1) 1431655765)) 858993459) + (fx_and (fx_ushr (x0 - (fx_and (fx_ushr x0 1) 1431655765)) 2) 858993459)) + (fx_ushr ((fx_and (x0 - (fx_and (fx_ushr x0 1) 1431655765)) 858993459) + (fx_and (fx_ushr (x0 - (fx_and (fx_ushr x0 1) 1431655765)) 2) 858993459)) 4)) 252645135) 8)))]) c79_40 rfl (x_ildn c79_41 rfl (x_ildn c79_42 rfl (x_ci c79_43 (x_iushr c79_45 (x_iadd c79_46 (x_istn (l' := [some (jI (((fx_and (((fx_and (x0 - (fx_and (fx_ushr x0 1) 1431655765)) 858993459) + (fx_and (fx_ushr (x0 - (fx_and (fx_ushr x0 1) 1431655765)) 2) 858993459)) + (fx_ushr ((fx_and (x0 - (fx_and (fx_ushr x0 1) 1431655765)) 858993459) + (fx_and (fx_ushr (x0 - (fx_and (fx_ushr x0 1) 1431655765)) 2) 858993459)) 4)) 252645135) + (fx_ushr (fx_and (((fx_and (x0 - (fx_and (fx_ushr x0 1) 1431655765)) 858993459) + (fx_and (fx_ushr (x0 - (fx_and (fx_ushr x0 1) 1431655765)) 2) 858993459)) + (fx_ushr ((fx_and (x0 - (fx_and (fx_ushr x0 1) 1431655765)) 858993459) + (fx_and (fx_ushr (x0 - (fx_and (fx_ushr x0 1) 1431655765)) 2) 858993459)) 4)) 252645135) 8)) + (fx_ushr ((fx_and (((fx_and (x0 - (fx_and (fx_ushr x0 1) 1431655765)) 858993459) + (fx_and (fx_ushr (x0 - (fx_and (fx_ushr x0 1) 1431655765)) 2) 858993459)) + (fx_ushr ((fx_and (x0 - (fx_and (fx_ushr x0 1) 1431655765)) 858993459) + (fx_and (fx_ushr (x0 - (fx_and (fx_ushr x0 1) 1431655765)) 2) 858993459)) 4)) 252645135) + (fx_ushr (fx_and (((fx_and (x0 - (fx_and (fx_ushr x0 1) 1431655765)) 858993459) + (fx_and (fx_ushr (x0 - (fx_and (fx_ushr x0 1) 1431655765)) 2) 858993459)) + (fx_ushr ((fx_and (x0 - (fx_and (fx_ushr x0 1) 1431655765)) 858993459) + (fx_and (fx_ushr (x0 - (fx_and (fx_ushr x0 1) 1431655765)) 2) 858993459)) 4)) 252645135) 8)) 16)))]) c79_47 rfl (x_ildn c79_48 rfl (x_ci c79_49 (x_iand c79_51 (x_irt c79_52 r79 H))))))))))))))))))))))))))))))))))))))))))
theorem s79 {kc : List va_E} {d : Nat} {x0 : Int} {M : fx_M} {Q : Option fx_V → fx_M → Prop} (H : Q (some (jI (fx_and (((fx_and (((fx_and (x0 - (fx_and (fx_ushr x0 1) 1431655765)) 858993459) + (fx_and (fx_ushr (x0 - (fx_and (fx_ushr x0 1) 1431655765)) 2) 858993459)) + (fx_ushr ((fx_and (x0 - (fx_and (fx_ushr x0 1) 1431655765)) 858993459) + (fx_and (fx_ushr (x0 - (fx_and (fx_ushr x0 1) 1431655765)) 2) 858993459)) 4)) 252645135) + (fx_ushr (fx_and (((fx_and (x0 - (fx_and (fx_ushr x0 1) 1431655765)) 858993459) + (fx_and (fx_ushr (x0 - (fx_and (fx_ushr x0 1) 1431655765)) 2) 858993459)) + (fx_ushr ((fx_and (x0 - (fx_and (fx_ushr x0 1) 1431655765)) 858993459) + (fx_and (fx_ushr (x0 - (fx_and (fx_ushr x0 1) 1431655765)) 2) 858993459)) 4)) 252645135) 8)) + (fx_ushr ((fx_and (((fx_and (x0 - (fx_and (fx_ushr x0 1) 1431655765)) 858993459) + (fx_and (fx_ushr (x0 - (fx_and (fx_ushr x0 1) 1431655765)) 2) 858993459)) + (fx_ushr ((fx_and (x0 - (fx_and (fx_ushr x0 1) 1431655765)) 858993459) + (fx_and (fx_ushr (x0 - (fx_and (fx_ushr x0 1) 1431655765)) 2) 858993459)) 4)) 252645135) + (fx_ushr (fx_and (((fx_and (x0 - (fx_and (fx_ushr x0 1) 1431655765)) 858993459) + (fx_and (fx_ushr (x0 - (fx_and (fx_ushr x0 1) 1431655765)) 2) 858993459)) + (fx_ushr ((fx_and (x0 - (fx_and (fx_ushr x0 1) 1431655765)) 858993459) + (fx_and (fx_ushr (x0 - (fx_and (fx_ushr x0 1) 1431655765)) 2) 858993459)) 4)) 252645135) 8)) 16)) 63))) M) : wc kc (d + 1) 79 [jI x0] M Q :=
  wc_of (wp_wk (l' := [some (jI x0)]) ⟨rfl, trivial⟩ (s79_0 H))

/- java/lang/Integer.compare(II)I -/
theorem c154_0 : fx_op 154 0 = some (.iload_n 0, 1, 0) := by decide +kernel
theorem c154_1 : fx_op 154 1 = some (.iload_n 1, 2, 1) := by decide +kernel
theorem c154_2 : fx_op 154 2 = some (.if_icmp .ge 7, 5, 9) := by decide +kernel
theorem c154_9 : fx_op 154 9 = some (.iload_n 0, 10, 9) := by decide +kernel
theorem c154_10 : fx_op 154 10 = some (.iload_n 1, 11, 10) := by decide +kernel
theorem c154_11 : fx_op 154 11 = some (.if_icmp .ne 7, 14, 18) := by decide +kernel
theorem c154_18 : fx_ci 154 18 = some (1, 19) := by decide +kernel
theorem c154_14 : fx_ci 154 14 = some (0, 15) := by decide +kernel
theorem c154_15 : fx_op 154 15 = some (.goto 4, 18, 19) := by decide +kernel
theorem c154_5 : fx_ci 154 5 = some ((-1), 6) := by decide +kernel
theorem c154_6 : fx_op 154 6 = some (.goto 13, 9, 19) := by decide +kernel
theorem c154_19 : fx_op 154 19 = some (.ireturn, 20, 19) := by decide +kernel
theorem s154_0 {kc : List va_E} {d : Nat} {x0 x1 : Int} {M : fx_M} {Q : Option fx_V → fx_M → Prop} (H : ((fx_in32 x0)) ∧ ((fx_in32 x1)) ∧ (x1 ≤ x0 → (fx_in32 x0)) ∧ (x1 ≤ x0 → (fx_in32 x1)) ∧ Q (some (jI (if x0 < x1 then ((-1) : Int) else (if x0 = x1 then (0 : Int) else 1)))) M) : wp kc (d + 1) 154 0 [some (jI x0), some (jI x1)] [] M Q :=
  (x_ildn c154_0 rfl (x_ildn c154_1 rfl (have K : wp kc (d + 1) 154 19 [none, none] [jI (if x0 < x1 then ((-1) : Int) else (if x0 = x1 then (0 : Int) else 1))] M Q := (x_irt c154_19 r154 H.2.2.2.2); (x_cge c154_2 H.1 H.2.1 (fun (h1 : x1 ≤ x0) => (x_ildn c154_9 rfl (x_ildn c154_10 rfl (x_cne c154_11 (H.2.2.1 h1) (H.2.2.2.1 h1) (fun (h3 : x0 ≠ x1) => (x_ci c154_18 (wp_wk (l' := [none, none]) trivial (by have K := K; first | (simp only [if_neg (Int.not_lt.mpr h1), if_neg h3] at K ⊢; exact K) | (exfalso; omega))))) (fun (h4 : x0 = x1) => (x_ci c154_14 (x_goto c154_15 (wp_wk (l' := [none, none]) trivial (by have K := K; first | (simp only [if_neg (Int.not_lt.mpr h1), if_pos h4] at K ⊢; exact K) | (exfalso; omega)))))))))) (fun (h2 : x0 < x1) => (x_ci c154_5 (x_goto c154_6 (wp_wk (l' := [none, none]) trivial (by have K := K; first | (simp only [if_pos h2] at K ⊢; exact K) | (exfalso; omega))))))))))
theorem s154 {kc : List va_E} {d : Nat} {x0 x1 : Int} {M : fx_M} {Q : Option fx_V → fx_M → Prop} (H : ((fx_in32 x0)) ∧ ((fx_in32 x1)) ∧ (x1 ≤ x0 → (fx_in32 x0)) ∧ (x1 ≤ x0 → (fx_in32 x1)) ∧ Q (some (jI (if x0 < x1 then ((-1) : Int) else (if x0 = x1 then (0 : Int) else 1)))) M) : wc kc (d + 1) 154 [jI x0, jI x1] M Q :=
  wc_of (wp_wk (l' := [some (jI x0), some (jI x1)]) ⟨rfl, ⟨rfl, trivial⟩⟩ (s154_0 H))
