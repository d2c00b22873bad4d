noncomputable def xNFp : List Nat := [4200, 4202, 4204]
noncomputable def xNMp : List Nat := [1054, 2093, 2233, 3183, 3190, 4057, 4173, 4186, 4189, 4195, 5042, 5083, 5084, 5089, 5092, 5096, 5104, 5138, 5146, 5151, 5152, 5158, 5159, 5208, 5228, 6056, 6203, 6231]
theorem xNF_chk : (List.range 3).all (fun i => match xNF[i]? with
    | some q => decide ((xTb (xNFp.getD i 0 / 1000))[xNFp.getD i 0 % 1000]? = some (Cond.fieldLinkNest q.1 q.2.1 q.2.2.1 q.2.2.2.1 q.2.2.2.2.1 q.2.2.2.2.2))
    | none => false) = true := by decide +kernel
theorem xNF_len : xNF.length = 3 := by decide +kernel
theorem xNF_in : ∀ q ∈ xNF, Cond.fieldLinkNest q.1 q.2.1 q.2.2.1 q.2.2.2.1 q.2.2.2.2.1 q.2.2.2.2.2 ∈ lw_tbl := by
  intro q hq
  obtain ⟨i, hi⟩ := List.getElem?_of_mem hq
  have hl : i < 3 := by rw [← xNF_len]; exact (List.getElem?_eq_some_iff.mp hi).1
  have h1 := List.all_eq_true.mp xNF_chk i (List.mem_range.mpr hl)
  rw [hi] at h1
  exact xTb_in (List.mem_of_getElem? (of_decide_eq_true h1))
theorem xNM_chk : (List.range 28).all (fun i => match xNM[i]? with
    | some q => decide ((xTb (xNMp.getD i 0 / 1000))[xNMp.getD i 0 % 1000]? = some (Cond.methodLinkNest q.1 q.2.1 q.2.2.1 q.2.2.2))
    | none => false) = true := by decide +kernel
theorem xNM_len : xNM.length = 28 := by decide +kernel
theorem xNM_in : ∀ q ∈ xNM, Cond.methodLinkNest q.1 q.2.1 q.2.2.1 q.2.2.2 ∈ lw_tbl := by
  intro q hq
  obtain ⟨i, hi⟩ := List.getElem?_of_mem hq
  have hl : i < 28 := by rw [← xNM_len]; exact (List.getElem?_eq_some_iff.mp hi).1
  have h1 := List.all_eq_true.mp xNM_chk i (List.mem_range.mpr hl)
  rw [hi] at h1
  exact xTb_in (List.mem_of_getElem? (of_decide_eq_true h1))
theorem xAO_in : Cond.arrayOver (.object "PuzzleHouse$Puzzle") ∈ lw_tbl := xTb_in (j := 2) (List.mem_of_getElem? (i := 195) (by decide +kernel))
set_option maxHeartbeats 4000000 in
theorem lx_entry {p : Program} {s : State} {m : MethodId} {meth : Method} {c : Code} {b L : Nat} {xs : Nat → Int32} (hL : L < 2 ^ 31) (C0 : lw_At p s m meth c b L xs) : ∃ g : lx_G, g.1 = s.heap.size ∧ lx_ad g lx_K = b ∧ lx_E g (.inl (0, L, .inl xs) :: xKt) s := by
  obtain ⟨hx, hb, hr, hml, hown, hts, hX, hbl, hlocks, hgv⟩ := C0
  have hA : ∀ a : Nat, a < s.heap.size → ¬ (fun q : Nat => s.heap.size ≤ q) a := fun a h => Nat.not_le.mpr h
  have htS : ∀ w ∈ xTS, w.before #[Value.ref b] s = true := fun w hw => hts w (xsub w hw)
  have hC : ∀ ci : Nat, ∃ q : ClassId × (Nat → Nat), ∀ r : vw_C, xC[ci]? = some r → u_Kn s r.1 r.2.1 r.2.2 q.1 q.2 := by
    intro ci
    cases hci : xC[ci]? with
    | none => exact ⟨(0, fun _ => 0), fun r h => by cases h⟩
    | some r =>
      obtain ⟨cC, iS, h⟩ := u_known (C := r.1) (T := r.2.1) (N := r.2.2) (n := r.2.2) htS (xC_ok hci).1 (htS _ (xinst_ok hci))
      exact ⟨(cC, iS), fun r' h' => by cases h'; exact h⟩
  have hT : ∀ t : Nat, ∃ cA : ClassId, t ∈ xTg → ArrOfT s cA (lx_ty t) ∧ va_RA s cA (lx_ty t) := by
    intro t
    by_cases ht : t ∈ xTg
    · have prim : ∀ ty : FieldType, (Cond.arrayClass ty).before #[Value.ref b] s = true → (∀ cA, s.vm.findClass ("[" ++ ty.toString) = some cA → va_RA s cA ty) → ∃ cA : ClassId, ArrOfT s cA ty ∧ va_RA s cA ty := by
        intro ty h hra
        obtain ⟨cA, kA, comp, h1, h2, h3⟩ := Cond.arrayClass_spec h
        exact ⟨cA, fun n z => ⟨fun k h => (by cases h), kA, h2, comp, h3⟩, hra cA h1⟩
      have ht' : t = 0 ∨ t = 1 ∨ t = 2 ∨ t = 4 ∨ t = 5 := by
        simpa [xTg] using ht
      rcases ht' with rfl | rfl | rfl | rfl | rfl
      · obtain ⟨cA, h⟩ := prim (lx_ty 0) (htS _ xw_a0) (fun cA h => h)
        exact ⟨cA, fun _ => h⟩
      · obtain ⟨cA, h⟩ := prim (lx_ty 1) (htS _ xw_a1) (fun cA h => h)
        exact ⟨cA, fun _ => h⟩
      · obtain ⟨cA, h⟩ := prim (lx_ty 2) (htS _ xw_a2) (fun cA h => h)
        exact ⟨cA, fun _ => h⟩
      · obtain ⟨cA, h⟩ := prim (lx_ty 4) (htS _ xw_a4) (fun cA h => h)
        exact ⟨cA, fun _ => h⟩
      · obtain ⟨comp, cA, k, h1, h2, h3, h4, h5⟩ := Cond.arrayOver_spec (hts _ xAO_in)
        exact ⟨cA, fun _ => ⟨fun n z => ⟨fun k h => (by cases h), k, h3, comp, h4⟩, k, comp, h3, h4, h1, h5⟩⟩
    · exact ⟨0, fun h => absurd h ht⟩
  obtain ⟨fC, hfC⟩ := Classical.axiomOfChoice hC
  obtain ⟨aC, haC⟩ := Classical.axiomOfChoice hT
  obtain ⟨fS, hfS⟩ := Classical.axiomOfChoice (xs_all hts hgv hA)
  obtain ⟨t0, z0, T0⟩ := xA0_all hts hgv hA
  obtain ⟨t1, z1, T1⟩ := xA1_all hts hgv hA
  obtain ⟨t2, z2, T2⟩ := xA2_all hts hgv hA
  obtain ⟨o, zo⟩ := xz1_all hts hgv hA
  obtain ⟨ad, e0, e1, e2, e3, e4, e5⟩ : ∃ ad : Nat → Nat, ad 0 = b ∧ (∀ j, j < 91 → ad (2 * j + 1) = (fS j).1) ∧ (∀ j, j < 91 → ad (2 * j + 2) = (fS j).2) ∧ ad (2 * 91 + 1) = t0 ∧ ad (2 * 91 + 2) = t1 ∧ ad (2 * 91 + 3) = t2 := by
    refine ⟨fun k => if k = 0 then b else if k < 2 * 91 + 1 then (if k % 2 = 1 then (fS ((k - 1) / 2)).1 else (fS ((k - 2) / 2)).2) else if k = 2 * 91 + 1 then t0 else if k = 2 * 91 + 2 then t1 else t2, if_pos rfl, fun j hj => ?_, fun j hj => ?_, rfl, rfl, rfl⟩
    · dsimp only
      rw [if_neg (by omega), if_pos (by omega), if_pos (by omega), show (2 * j + 1 - 1) / 2 = j by omega]
    · dsimp only
      rw [if_neg (by omega), if_pos (by omega), if_neg (by omega), show (2 * j + 2 - 2) / 2 = j by omega]
  have hk0 : ∀ k : Nat, lx_ad (s.heap.size, (fun ci => (fC ci).1, fun ci => (fC ci).2), aC, ad, o) (lx_K + k) = ad k := fun k => lx_adK _ k
  refine ⟨(s.heap.size, (fun ci => (fC ci).1, fun ci => (fC ci).2), aC, ad, o), rfl, (hk0 0).trans e0, ⟨fun ci r h => hfC ci r h, fun k q hk => ?_⟩, fun q hq => va_Nw.of rfl (hts _ (xNF_in q hq)), fun q hq => va_Nw.of rfl (hts _ (xNM_in q hq)), fun C hC => ?_, Nat.le_refl _, fun k e hk => ?_, ?_, fun q hq => ?_⟩
  · obtain ⟨t, ht, rfl⟩ := List.mem_map.mp (List.mem_of_getElem? hk)
    exact haC t ht
  · obtain rfl : C = "PuzzleHouse$Puzzle" := by simpa [xAO] using hC
    exact va_AO.of (hts _ xAO_in)
  · match k, hk with
    | 0, hk =>
      cases hk
      obtain ⟨scr, h1, h2, h3, h4, h5⟩ := hX
      show va_T .int (ad 0) L _ _ s s.heap
      rw [e0]
      exact ⟨scr, h1, h2, h3, by rw [h4]; exact Nat.le_refl _, by rw [h4] <;> rfl, h5, hA b hbl⟩
    | k + 1, hk =>
      have hk : xKt[k]? = some e := hk
      rw [xKt_eq] at hk
      unfold xKf at hk
      by_cases hl : k < 2 * 91
      · rw [List.getElem?_append_left (by rw [xKg_len, xSb_len]; exact hl)] at hk
        obtain ⟨j, bs, h1, h2⟩ := xKg_at xSb 0 k e hk
        have hj : j < 91 := by rw [← xSb_len]; exact (List.getElem?_eq_some_iff.mp h1).1
        obtain ⟨f, hf⟩ : ∃ f, xStr[j]? = some f := ⟨_, List.getElem?_eq_getElem (by rw [xstr_len]; exact hj)⟩
        obtain ⟨p1, p2, p3, p4, p5⟩ := hfS j f bs hf h1
        rcases h2 with ⟨rfl, rfl⟩ | ⟨rfl, rfl⟩
        · show va_O _ (ad (2 * j + 1)) _ s s.heap ∧ va_OF _ _ _ (.ref (lx_ad _ (lx_K + (2 * (0 + j) + 2)))) (ad (2 * j + 1)) _ s s.heap ∧ va_OF _ _ _ (.int 0) (ad (2 * j + 1)) _ s s.heap
          rw [hk0, Nat.zero_add, e1 j hj, e2 j hj]
          exact ⟨p2, p3, p4⟩
        · show va_T .byte (ad (2 * j + 2)) _ _ _ s s.heap
          rw [e2 j hj]
          exact p5
      · rw [List.getElem?_append_right (by rw [xKg_len, xSb_len]; omega), xKg_len, xSb_len] at hk
        have hz : k - 2 * 91 < 3 := (List.getElem?_eq_some_iff.mp hk).1
        rcases (by omega : k = 2 * 91 ∨ k = 2 * 91 + 1 ∨ k = 2 * 91 + 2) with rfl | rfl | rfl
        · cases hk
          show va_T .long (ad (2 * 91 + 1)) _ _ _ s s.heap
          rw [e3]
          exact T0
        · cases hk
          show va_T .long (ad (2 * 91 + 2)) _ _ _ s s.heap
          rw [e4]
          exact T1
        · cases hk
          show va_T .long (ad (2 * 91 + 3)) _ _ _ s s.heap
          rw [e5]
          exact T2
  · have a3 : lx_ad (s.heap.size, (fun ci => (fC ci).1, fun ci => (fC ci).2), aC, ad, o) (lx_K + (2 * 91 + 1)) = t0 := (hk0 _).trans e3
    have a4 : lx_ad (s.heap.size, (fun ci => (fC ci).1, fun ci => (fC ci).2), aC, ad, o) (lx_K + (2 * 91 + 2)) = t1 := (hk0 _).trans e4
    have a5 : lx_ad (s.heap.size, (fun ci => (fC ci).1, fun ci => (fC ci).2), aC, ad, o) (lx_K + (2 * 91 + 3)) = t2 := (hk0 _).trans e5
    unfold xZ
    refine List.forall_mem_cons.mpr ⟨xz0_all hts hgv hA, List.forall_mem_cons.mpr ⟨zo, List.forall_mem_cons.mpr ⟨xz2_all hts hgv hA, List.forall_mem_cons.mpr ⟨xz3_all hts hgv hA, List.forall_mem_cons.mpr ⟨xz4_all hts hgv hA, List.forall_mem_cons.mpr ⟨?_, List.forall_mem_cons.mpr ⟨?_, List.forall_mem_cons.mpr ⟨?_, fun _ h => absurd h List.not_mem_nil⟩⟩⟩⟩⟩⟩⟩⟩
    · show va_Z _ _ _ (.ref (lx_ad _ (lx_K + (2 * 91 + 1)))) _ s s.heap
      rw [a3]
      exact z0
    · show va_Z _ _ _ (.ref (lx_ad _ (lx_K + (2 * 91 + 2)))) _ s s.heap
      rw [a4]
      exact z1
    · show va_Z _ _ _ (.ref (lx_ad _ (lx_K + (2 * 91 + 3)))) _ s s.heap
      rw [a5]
      exact z2
  · obtain ⟨j, hj⟩ := List.getElem?_of_mem hq
    have hjl : j < 91 := by rw [← xstr_len]; exact (List.getElem?_eq_some_iff.mp hj).1
    obtain ⟨bs, hbs⟩ : ∃ bs, xSb[j]? = some bs := ⟨_, List.getElem?_eq_getElem (by rw [xSb_len]; exact hjl)⟩
    have h1 := List.all_eq_true.mp xstr_chk j (List.mem_range.mpr hjl)
    rw [hj] at h1
    have h2 : q.2.2.2 = 2 * j + 1 := of_decide_eq_true h1
    show vk_R q.1 q.2.1 q.2.2.1 (ad q.2.2.2) s
    rw [h2, e1 j hjl]
    exact (hfS j q bs hj hbs).1
