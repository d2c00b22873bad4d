/-! THE LAW'S ENTRY: the lite machine's environment out of the Statement's premises (by gen/emit_consts.py) -/
noncomputable def xIp : List Nat := [1023, 1031, 1053, 1134, 1224, 2009, 2058, 2092, 2129, 2154, 2189, 2227, 7118]
theorem xinst_chk : (List.range 13).all (fun ci => match xC[ci]? with
    | some r => xat (xIp.getD ci 0) (.instantiable r.1 r.2.2)
    | none => true) = true := by decide +kernel
theorem xinst_ok {ci : Nat} {r : vw_C} (h : xC[ci]? = some r) : Cond.instantiable r.1 r.2.2 ∈ xTS := by
  have hl : ci < 13 := by rw [← xC_len]; exact (List.getElem?_eq_some_iff.mp h).1
  have h1 := List.all_eq_true.mp xinst_chk ci (List.mem_range.mpr hl)
  rw [h] at h1
  exact xat_ok h1
theorem xstr_chk : (List.range 91).all (fun j => match xStr[j]? with
    | some f => decide (f.2.2.2 = 2 * j + 1)
    | none => false) = true := by decide +kernel
theorem xstr_len : xStr.length = 91 := by decide +kernel
theorem xSb_len : xSb.length = 91 := by decide +kernel
theorem xsub : ∀ w ∈ xTS, w ∈ lw_tbl := fun _ h => (List.mem_filter.mp h).1
theorem xnt_ok {p : Nat} {w : Cond} (h : xnt p w = true) : w ∈ flatC (Jvm.Cond.and given_1 narrow_1) := by
  have h1 : w ∈ xNb (p / 1000) := List.mem_of_getElem? (of_decide_eq_true h)
  show w ∈ flatC given_1 ++ ((flatC narrow_1_1 ++ flatC narrow_1_2) ++ (flatC narrow_1_3 ++ flatC narrow_1_4))
  simp only [List.mem_append]
  unfold xNb at h1
  split at h1 <;> first | exact absurd h1 List.not_mem_nil | simp only [h1, true_or, or_true]
/-- what stands of literal j: at q.1, its bytes at q.2 -/
def xsP (s : State) (A : Nat → Prop) (j : Nat) (q : Nat × Nat) : Prop := ∀ f bs, xStr[j]? = some f → xSb[j]? = some bs → vk_R f.1 f.2.1 f.2.2.1 q.1 s ∧ va_O "java/lang/String" q.1 A s s.heap ∧ va_OF "java/lang/String" "value" "[B" (.ref q.2) q.1 A s s.heap ∧ va_OF "java/lang/String" "coder" "B" (.int 0) q.1 A s s.heap ∧ va_T .byte q.2 bs.length (fun i => .int (bs.getD i 0)) A s s.heap
theorem xs_all {s : State} {args : Array Value} {A : Nat → Prop} (hts : ∀ w ∈ lw_tbl, w.before args s = true) (hgv : (Jvm.Cond.and given_1 narrow_1).before args s = true) (hA : ∀ a : Nat, a < s.heap.size → ¬ A a) (j : Nat) : ∃ q : Nat × Nat, xsP s A j q := by
  by_cases hj : j < 91
  · have hc := xsc_ok hj
    unfold xschk at hc
    split at hc
    · next f bs q hf hb hq =>
      simp only [Bool.and_eq_true, decide_eq_true_eq] at hc
      obtain ⟨⟨⟨⟨⟨⟨c1, c2⟩, c3⟩, c4⟩, c5⟩, c6⟩, c7⟩ := hc
      have hfl := flat_of_before _ hgv
      obtain ⟨adK, adV, ⟨hS, -⟩, hev⟩ := vk_Sof (args := args) (s := s) (N := 1) (tm := fun _ => Term.string f.1 f.2.1) (len := [bs.length]) (byt := [bs]) (A := A) (fun i hi => by
          obtain rfl : i = 0 := by omega
          show bs.length < 2 ^ 31
          omega) (fun i _ => hfl _ (xnt_ok c2)) (fun i _ => hfl _ (xnt_ok c3)) (fun i _ => hfl _ (xnt_ok c4)) (fun i hi => by
          obtain rfl : i = 0 := by omega
          exact hfl _ (xnt_ok c5)) (fun i hi k hk => by
          obtain rfl : i = 0 := by omega
          exact hfl _ (xnt_ok (List.all_eq_true.mp c7 k (List.mem_range.mpr hk)))) (fun i k hi hk hne => by omega) hA
      obtain ⟨e1, e2, e3, e4⟩ := hS 0 (by omega)
      refine ⟨(adK 0, adV 0), fun f' bs' hf' hb' => ?_⟩
      cases hf.symm.trans hf'
      cases hb.symm.trans hb'
      exact ⟨vk_R.of (A := args) (hts _ (xTb_in (List.mem_of_getElem? c1))) (hev 0 (by omega)), e1, e3, e2, e4⟩
    · cases hc
  · refine ⟨(0, 0), fun f bs hf _ => ?_⟩
    have := (List.getElem?_eq_some_iff.mp hf).1
    rw [xstr_len] at this
    omega
/-- the constant cells, by their literals -/
noncomputable def xKg (z : List Int32 × Nat) : List va_E := [.inr (1000, [.ref (lx_K + (2 * z.2 + 2)), .int 0]), .inl (3, z.1.length, .inl (fun i => z.1.getD i 0))]
noncomputable def xA0 : List Int64 := [0, 1229782938247303441, 2459565876494606882, 3689348814741910323, 4919131752989213764, 6148914691236517205, 7378697629483820646, 8608480567731124087, (-8608480567731124088), (-7378697629483820647), (-6148914691236517206), (-4919131752989213765), (-3689348814741910324), (-2459565876494606883), (-1229782938247303442), (-1)]
theorem xA0_chk : xnt 1008 (.arrayOf (.static "PuzzleHouse" "FIRST" "[J") .long) = true ∧ xnt 1009 (.eq (.length (.static "PuzzleHouse" "FIRST" "[J")) (.int (Int32.ofNat 16))) = true ∧ (List.range 16).all (fun i => xnt (([1010, 1011, 1012, 1013, 1014, 1015, 1016, 1017, 1018, 1019, 1020, 1021, 1022, 1023, 1024, 1025] : List Nat).getD i 0) (.eq (.elem (.static "PuzzleHouse" "FIRST" "[J") (.int (Int32.ofNat i))) (.long (xA0.getD i 0)))) = true := by decide +kernel
theorem xA0_lay : Cond.laysStatic "PuzzleHouse" "FIRST" "[J" ∈ lw_tbl := xTb_in (j := 4) (List.mem_of_getElem? (i := 201) (by decide +kernel))
theorem xA0_all {s : State} {args : Array Value} {A : Nat → Prop} (hts : ∀ w ∈ lw_tbl, w.before args s = true) (hgv : (Jvm.Cond.and given_1 narrow_1).before args s = true) (hA : ∀ a : Nat, a < s.heap.size → ¬ A a) : ∃ t : Nat, va_Z "PuzzleHouse" "FIRST" "[J" (.ref t) A s s.heap ∧ va_T .long t 16 (fun i => .long (xA0.getD i 0)) A s s.heap := by
  have hfl := flat_of_before _ hgv
  obtain ⟨c1, c2, c3⟩ := xA0_chk
  obtain ⟨t, ht, hT⟩ := va_Tof (args := args) (s := s) (tm := .static "PuzzleHouse" "FIRST" "[J") (ty := .long) (N := 16) (f := fun i => .long (xA0.getD i 0)) (A := A) (by decide) (hfl _ (xnt_ok c1)) (va_eqt (hfl _ (xnt_ok c2))) (fun j hj => va_eqtl (hfl _ (xnt_ok (List.all_eq_true.mp c3 j (List.mem_range.mpr hj))))) hA
  exact ⟨t, va_Zref (hts _ xA0_lay) (hts _ (xsub _ (xat_ok (p := 1001) (by decide +kernel)))) ht hA, hT⟩
noncomputable def xA1 : List Int64 := [0, 4222189076152335, 67555025218437360, 71777214294589695, 1080880403494997760, 1085102592571150095, 1148435428713435120, 1152657617789587455, (-1152657617789587456), (-1148435428713435121), (-1085102592571150096), (-1080880403494997761), (-71777214294589696), (-67555025218437361), (-4222189076152336), (-1)]
theorem xA1_chk : xnt 1027 (.arrayOf (.static "PuzzleHouse" "SECOND" "[J") .long) = true ∧ xnt 1028 (.eq (.length (.static "PuzzleHouse" "SECOND" "[J")) (.int (Int32.ofNat 16))) = true ∧ (List.range 16).all (fun i => xnt (([1029, 1030, 1031, 1032, 1033, 1034, 1035, 1036, 1037, 1038, 1039, 1040, 1041, 1042, 1043, 1044] : List Nat).getD i 0) (.eq (.elem (.static "PuzzleHouse" "SECOND" "[J") (.int (Int32.ofNat i))) (.long (xA1.getD i 0)))) = true := by decide +kernel
theorem xA1_lay : Cond.laysStatic "PuzzleHouse" "SECOND" "[J" ∈ lw_tbl := xTb_in (j := 4) (List.mem_of_getElem? (i := 203) (by decide +kernel))
theorem xA1_all {s : State} {args : Array Value} {A : Nat → Prop} (hts : ∀ w ∈ lw_tbl, w.before args s = true) (hgv : (Jvm.Cond.and given_1 narrow_1).before args s = true) (hA : ∀ a : Nat, a < s.heap.size → ¬ A a) : ∃ t : Nat, va_Z "PuzzleHouse" "SECOND" "[J" (.ref t) A s s.heap ∧ va_T .long t 16 (fun i => .long (xA1.getD i 0)) A s s.heap := by
  have hfl := flat_of_before _ hgv
  obtain ⟨c1, c2, c3⟩ := xA1_chk
  obtain ⟨t, ht, hT⟩ := va_Tof (args := args) (s := s) (tm := .static "PuzzleHouse" "SECOND" "[J") (ty := .long) (N := 16) (f := fun i => .long (xA1.getD i 0)) (A := A) (by decide) (hfl _ (xnt_ok c1)) (va_eqt (hfl _ (xnt_ok c2))) (fun j hj => va_eqtl (hfl _ (xnt_ok (List.all_eq_true.mp c3 j (List.mem_range.mpr hj))))) hA
  exact ⟨t, va_Zref (hts _ xA1_lay) (hts _ (xsub _ (xat_ok (p := 1001) (by decide +kernel)))) ht hA, hT⟩
noncomputable def xA2 : List Int64 := [0, 65535, 4294901760, 4294967295, 281470681743360, 281470681808895, 281474976645120, 281474976710655, (-281474976710656), (-281474976645121), (-281470681808896), (-281470681743361), (-4294967296), (-4294901761), (-65536), (-1)]
theorem xA2_chk : xnt 1046 (.arrayOf (.static "PuzzleHouse" "THIRD" "[J") .long) = true ∧ xnt 1047 (.eq (.length (.static "PuzzleHouse" "THIRD" "[J")) (.int (Int32.ofNat 16))) = true ∧ (List.range 16).all (fun i => xnt (([1048, 1049, 1050, 1051, 1052, 1053, 1054, 1055, 1056, 1057, 1058, 1059, 1060, 1061, 1062, 1063] : List Nat).getD i 0) (.eq (.elem (.static "PuzzleHouse" "THIRD" "[J") (.int (Int32.ofNat i))) (.long (xA2.getD i 0)))) = true := by decide +kernel
theorem xA2_lay : Cond.laysStatic "PuzzleHouse" "THIRD" "[J" ∈ lw_tbl := xTb_in (j := 4) (List.mem_of_getElem? (i := 205) (by decide +kernel))
theorem xA2_all {s : State} {args : Array Value} {A : Nat → Prop} (hts : ∀ w ∈ lw_tbl, w.before args s = true) (hgv : (Jvm.Cond.and given_1 narrow_1).before args s = true) (hA : ∀ a : Nat, a < s.heap.size → ¬ A a) : ∃ t : Nat, va_Z "PuzzleHouse" "THIRD" "[J" (.ref t) A s s.heap ∧ va_T .long t 16 (fun i => .long (xA2.getD i 0)) A s s.heap := by
  have hfl := flat_of_before _ hgv
  obtain ⟨c1, c2, c3⟩ := xA2_chk
  obtain ⟨t, ht, hT⟩ := va_Tof (args := args) (s := s) (tm := .static "PuzzleHouse" "THIRD" "[J") (ty := .long) (N := 16) (f := fun i => .long (xA2.getD i 0)) (A := A) (by decide) (hfl _ (xnt_ok c1)) (va_eqt (hfl _ (xnt_ok c2))) (fun j hj => va_eqtl (hfl _ (xnt_ok (List.all_eq_true.mp c3 j (List.mem_range.mpr hj))))) hA
  exact ⟨t, va_Zref (hts _ xA2_lay) (hts _ (xsub _ (xat_ok (p := 1001) (by decide +kernel)))) ht hA, hT⟩
theorem xz0_lay : Cond.laysStatic "java/lang/String" "COMPACT_STRINGS" "Z" ∈ lw_tbl := xTb_in (j := 3) (List.mem_of_getElem? (i := 108) (by decide +kernel))
theorem xz0_all {s : State} {args : Array Value} {A : Nat → Prop} (hts : ∀ w ∈ lw_tbl, w.before args s = true) (hgv : (Jvm.Cond.and given_1 narrow_1).before args s = true) (hA : ∀ a : Nat, a < s.heap.size → ¬ A a) : va_Z "java/lang/String" "COMPACT_STRINGS" "Z" (.int 1) A s s.heap := va_Zof (hts _ xz0_lay) (hts _ (xsub _ (xat_ok (p := 1016) (by decide +kernel)))) (va_eqi (flat_of_before _ hgv _ (xnt_ok (p := 1002) (by decide +kernel)))) hA
theorem xz1_lay : Cond.laysStatic "jdk/internal/util/Preconditions" "SIOOBE_FORMATTER" "Ljava/util/function/BiFunction;" ∈ lw_tbl := xTb_in (j := 3) (List.mem_of_getElem? (i := 124) (by decide +kernel))
theorem xz1_all {s : State} {args : Array Value} {A : Nat → Prop} (hts : ∀ w ∈ lw_tbl, w.before args s = true) (hgv : (Jvm.Cond.and given_1 narrow_1).before args s = true) (hA : ∀ a : Nat, a < s.heap.size → ¬ A a) : ∃ o : Option Nat, va_Z "jdk/internal/util/Preconditions" "SIOOBE_FORMATTER" "Ljava/util/function/BiFunction;" (va_rf o) A s s.heap := by
  rcases va_Zqof (hts _ xz1_lay) (hts _ (xsub _ (xat_ok (p := 1018) (by decide +kernel)))) (flat_of_before _ hgv _ (xnt_ok (p := 1003) (by decide +kernel))) hA with h | ⟨t, h⟩
  · exact ⟨none, h⟩
  · exact ⟨some t, h⟩
theorem xz2_lay : Cond.laysStatic "java/lang/StringUTF16" "$assertionsDisabled" "Z" ∈ lw_tbl := xTb_in (j := 3) (List.mem_of_getElem? (i := 142) (by decide +kernel))
theorem xz2_all {s : State} {args : Array Value} {A : Nat → Prop} (hts : ∀ w ∈ lw_tbl, w.before args s = true) (hgv : (Jvm.Cond.and given_1 narrow_1).before args s = true) (hA : ∀ a : Nat, a < s.heap.size → ¬ A a) : va_Z "java/lang/StringUTF16" "$assertionsDisabled" "Z" (.int 1) A s s.heap := va_Zof (hts _ xz2_lay) (hts _ (xsub _ (xat_ok (p := 1019) (by decide +kernel)))) (va_eqi (flat_of_before _ hgv _ (xnt_ok (p := 1004) (by decide +kernel)))) hA
theorem xz3_lay : Cond.laysStatic "java/lang/StringUTF16" "HI_BYTE_SHIFT" "I" ∈ lw_tbl := xTb_in (j := 3) (List.mem_of_getElem? (i := 144) (by decide +kernel))
theorem xz3_all {s : State} {args : Array Value} {A : Nat → Prop} (hts : ∀ w ∈ lw_tbl, w.before args s = true) (hgv : (Jvm.Cond.and given_1 narrow_1).before args s = true) (hA : ∀ a : Nat, a < s.heap.size → ¬ A a) : va_Z "java/lang/StringUTF16" "HI_BYTE_SHIFT" "I" (.int 0) A s s.heap := va_Zof (hts _ xz3_lay) (hts _ (xsub _ (xat_ok (p := 1019) (by decide +kernel)))) (va_eqi (flat_of_before _ hgv _ (xnt_ok (p := 1005) (by decide +kernel)))) hA
theorem xz4_lay : Cond.laysStatic "java/lang/StringUTF16" "LO_BYTE_SHIFT" "I" ∈ lw_tbl := xTb_in (j := 3) (List.mem_of_getElem? (i := 146) (by decide +kernel))
theorem xz4_all {s : State} {args : Array Value} {A : Nat → Prop} (hts : ∀ w ∈ lw_tbl, w.before args s = true) (hgv : (Jvm.Cond.and given_1 narrow_1).before args s = true) (hA : ∀ a : Nat, a < s.heap.size → ¬ A a) : va_Z "java/lang/StringUTF16" "LO_BYTE_SHIFT" "I" (.int 8) A s s.heap := va_Zof (hts _ xz4_lay) (hts _ (xsub _ (xat_ok (p := 1019) (by decide +kernel)))) (va_eqi (flat_of_before _ hgv _ (xnt_ok (p := 1006) (by decide +kernel)))) hA
noncomputable def xKf : List va_E := (xSb.zipIdx).flatMap xKg ++ [.inl (2, 16, .inr (.inl (fun i => xA0.getD i 0))), .inl (2, 16, .inr (.inl (fun i => xA1.getD i 0))), .inl (2, 16, .inr (.inl (fun i => xA2.getD i 0)))]
set_option maxRecDepth 100000 in
theorem xKt_eq : xKt = xKf := rfl
theorem xKg_at : ∀ (l : List (List Int32)) (n k : Nat) (e : va_E), ((l.zipIdx n).flatMap xKg)[k]? = some e → ∃ (j : Nat) (bs : List Int32), l[j]? = some bs ∧ ((k = 2 * j ∧ e = .inr (1000, [.ref (lx_K + (2 * (n + j) + 2)), .int 0])) ∨ (k = 2 * j + 1 ∧ e = .inl (3, bs.length, .inl (fun i => bs.getD i 0))))
  | [], n, k, e, h => by simp at h
  | b :: l, n, k, e, h => by
    rw [List.zipIdx_cons, List.flatMap_cons] at h
    match k, h with
    | 0, h => exact ⟨0, b, rfl, Or.inl ⟨rfl, (lx_some h).symm⟩⟩
    | 1, h => exact ⟨0, b, rfl, Or.inr ⟨rfl, (lx_some h).symm⟩⟩
    | k + 2, h =>
      have h : ((l.zipIdx (n + 1)).flatMap xKg)[k]? = some e := h
      obtain ⟨j, bs, h1, h2⟩ := xKg_at l (n + 1) k e h
      refine ⟨j + 1, bs, h1, ?_⟩
      rcases h2 with ⟨rfl, rfl⟩ | ⟨rfl, rfl⟩
      · exact Or.inl ⟨by omega, by rw [show n + 1 + j = n + (j + 1) by omega]⟩
      · exact Or.inr ⟨by omega, rfl⟩
theorem xKg_len : ∀ (l : List (List Int32)) (n : Nat), ((l.zipIdx n).flatMap xKg).length = 2 * l.length
  | [], n => rfl
  | b :: l, n => by
    rw [List.zipIdx_cons, List.flatMap_cons, List.length_append, xKg_len l (n + 1)]
    show 2 + _ = 2 * (l.length + 1)
    omega
