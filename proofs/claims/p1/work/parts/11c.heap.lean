/-! ROWS of the flat layer, the heap -/
section FXH
variable {kc : List va_E} {d m pc p t : Nat} {l l' : fx_L} {st : List fx_V} {M : fx_M} {Q : Option fx_V → fx_M → Prop}
/-- a field of an object of the heap: class, number, next place -/
noncomputable def fx_gf (m pc : Nat) : Option (Nat × Nat × Nat) := match xI m pc with
  | some (.getfield idx) => match xF m idx with
    | some (c, k, w) => if w = 2 then none else some (c, k, pc + 3)
    | none => none
  | _ => none
theorem wp_gf {a c k z : Nat} {v : fx_V} (h : fx_gf m pc = some (c, k, p)) (hk : fx_k a k = some (c, z)) (hv : fx_fv z (M a (k : Int)) = fx_tv v) (K : wp kc d m p l (v :: st) M Q) : wp kc d m pc l (jR a :: st) M Q := by
  unfold fx_gf at h
  split at h
  · next idx hI =>
    split at h
    · next c' k' w hF =>
      split at h
      · cases h
      · next hw =>
        cases h
        obtain ⟨ks, hx, hz⟩ := fx_k_inv hk
        refine wp_sm hI rfl rfl (fun L hL => ?_) K
        show lx_gf kc m idx pc L (Value.ref a :: st.map fx_tv) _ = _
        unfold lx_gf
        dsimp only
        rw [hF]
        dsimp only
        rw [if_neg hw, if_pos (xLay_lt hx), fx_hp_at hx]
        show (if c = c then _ else _) = _
        rw [if_pos rfl, fx_fs_get hz]
        dsimp only
        rw [Nat.zero_add, hv]
        rfl
    · cases h
  · cases h
theorem x_gfi {a c k : Nat} (h : fx_gf m pc = some (c, k, p)) (hk : fx_k a k = some (c, 0)) (K : wp kc d m p l (jI (M a (k : Int)) :: st) M Q) : wp kc d m pc l (jR a :: st) M Q := wp_gf h hk rfl K
theorem x_gfl {a c k : Nat} (h : fx_gf m pc = some (c, k, p)) (hk : fx_k a k = some (c, 1)) (K : wp kc d m p l (jL (M a (k : Int)) :: st) M Q) : wp kc d m pc l (jR a :: st) M Q := wp_gf h hk rfl K
theorem x_gfd {a c k : Nat} (h : fx_gf m pc = some (c, k, p)) (hk : fx_k a k = some (c, 2)) (K : wp kc d m p l (jR (M a (k : Int)).toNat :: st) M Q) : wp kc d m pc l (jR a :: st) M Q := wp_gf h hk rfl K
theorem x_gfr {a c k b : Nat} (h : fx_gf m pc = some (c, k, p)) (hk : fx_k a k = some (c, b + 3)) (K : wp kc d m p l (jR b :: st) M Q) : wp kc d m pc l (jR a :: st) M Q := wp_gf h hk rfl K
/-- a field that is written: class, number, kind of its type (0 int, 1 long, 2 boolean, 3 reference), next place -/
def fx_tc : FieldType → Nat
  | .int => 0
  | .long => 1
  | .boolean => 2
  | .object _ => 3
  | .array _ => 3
  | _ => 9
noncomputable def fx_pf (m pc : Nat) : Option (Nat × Nat × Nat × Nat) := match xI m pc with
  | some (.putfield idx) => match xF m idx with
    | some (c, k, w) => if (w == 0 || w == 1 || w == 3) = true then some (c, k, fx_tc (xFt c k), pc + 3) else none
    | none => none
  | _ => none
theorem fx_up_eq (a : Nat) (k v : Int) : (fun b => if b = a then (fun z => if z = k then v else M a z) else M b) = fx_up M a k v := by
  funext b z
  unfold fx_up
  by_cases hb : b = a
  · subst hb
    rw [if_pos rfl]
    by_cases hz : z = k
    · rw [if_pos hz, if_pos ⟨rfl, hz⟩]
    · rw [if_neg hz, if_neg (fun h => hz h.2)]
  · rw [if_neg hb, if_neg (fun h => hb h.1)]
theorem wp_pf {a c k z y : Nat} {v : fx_V} {x : Int} (h : fx_pf m pc = some (c, k, y, p)) (hk : fx_k a k = some (c, z)) (hv : fx_fv z x = fx_tv v) (hf : ∀ ty, fx_tc ty = y → lx_fit ty (fx_tv v) = true) (K : wp kc d m p l st (fx_up M a (k : Int) x) Q) : wp kc d m pc l (v :: jR a :: st) M Q := by
  unfold fx_pf at h
  split at h
  · next idx hI =>
    split at h
    · next c' k' w hF =>
      split at h
      · next hw =>
        cases h
        obtain ⟨ks, hx, hz⟩ := fx_k_inv hk
        refine wp_sm hI rfl rfl (fun L hL => ?_) K
        show lx_pf m idx pc L (fx_tv v :: Value.ref a :: st.map fx_tv) _ = _
        unfold lx_pf
        dsimp only
        rw [if_pos (xLay_lt hx), hF]
        dsimp only
        rw [fx_hp_at hx]
        show (if (decide (c = c) && decide (k < (fx_fs ks (M a) 0).length) && lx_fit (xFt c k) (fx_tv v) && (w == 0 || w == 1 || w == 3)) = true then some (pc + 3, L, st.map fx_tv, (fx_hp M).set a (.inr (c, (fx_fs ks (M a) 0).set k (fx_tv v)))) else none) = _
        have hlen : k < (fx_fs ks (M a) 0).length := by
          rw [fx_fs_len]
          exact (List.getElem?_eq_some_iff.mp hz).1
        rw [if_pos (by rw [hf _ rfl, hw]; simp [hlen]), ← hv, fx_fs_set hz]
        have e : (Sum.inr (c, fx_fs ks (fun z => if z = ((0 + k : Nat) : Int) then x else M a z) 0) : va_E) = fx_cell (.inr (c, ks)) (fun z => if z = (k : Int) then x else M a z) := by
          rw [Nat.zero_add]
          rfl
        rw [e, fx_hp_set hx, fx_up_eq]
      · cases h
    · cases h
  · cases h
theorem x_pfi {a c k : Nat} {x : Int} (h : fx_pf m pc = some (c, k, 0, p)) (hk : fx_k a k = some (c, 0)) (K : wp kc d m p l st (fx_up M a (k : Int) x) Q) : wp kc d m pc l (jI x :: jR a :: st) M Q :=
  wp_pf h hk rfl (fun ty hy => by
    cases ty <;> try (exfalso; revert hy; simp [fx_tc]; done)
    unfold lx_fit
    simp [narrow, fits, fx_tv]) K
theorem x_pfz {a c k : Nat} {x : Int} (h : fx_pf m pc = some (c, k, 2, p)) (hk : fx_k a k = some (c, 0)) (hx : 0 ≤ x ∧ x ≤ 1) (K : wp kc d m p l st (fx_up M a (k : Int) x) Q) : wp kc d m pc l (jI x :: jR a :: st) M Q :=
  wp_pf h hk rfl (fun ty hy => by
    cases ty <;> try (exfalso; revert hy; simp [fx_tc]; done)
    have : x = 0 ∨ x = 1 := by omega
    rcases this with h | h <;> subst h <;> decide) K
theorem x_pfl {a c k : Nat} {x : Int} (h : fx_pf m pc = some (c, k, 1, p)) (hk : fx_k a k = some (c, 1)) (K : wp kc d m p l st (fx_up M a (k : Int) x) Q) : wp kc d m pc l (jL x :: jR a :: st) M Q :=
  wp_pf h hk rfl (fun ty hy => by
    cases ty <;> try (exfalso; revert hy; simp [fx_tc]; done)
    unfold lx_fit
    simp [narrow, fits, fx_tv]) K
theorem x_pfd {a c k b : Nat} (h : fx_pf m pc = some (c, k, 3, p)) (hk : fx_k a k = some (c, 2)) (K : wp kc d m p l st (fx_up M a (k : Int) (b : Int)) Q) : wp kc d m pc l (jR b :: jR a :: st) M Q :=
  wp_pf h hk (by show Value.ref _ = Value.ref _; simp) (fun ty hy => by
    cases ty <;> try (exfalso; revert hy; simp [fx_tc]; done)
    all_goals
      unfold lx_fit
      simp [narrow, fits, fx_tv]) K
/-! arrays -/
theorem wp_ald {T : Nat → Bool} {i : Instr} {a n ta : Nat} {x : Int} (hI : xI m pc = some i) (hret : lx_ret m i ((jI x :: jR a :: st).map fx_tv) = none) (hS : xS m i = none) (hi : ∀ L S h, lx_ins kc m pc i L S h = lx_ald kc T pc L S h) (ha : fx_a a = some (ta, n)) (hT : T ta = true) (h2 : ta ≠ 2) (h5 : ta ≠ 5) (h0 : 0 ≤ x) (h1 : x < n) (hn : (n : Int) ≤ 2147483647) (K : wp kc d m (pc + 1) l (jI (M a x) :: st) M Q) : wp kc d m pc l (jI x :: jR a :: st) M Q := by
  have hx := fx_a_inv ha
  refine wp_sm hI hret hS (fun L hL => ?_) K
  rw [hi]
  show lx_ald kc T pc L (Value.int (Int32.ofInt x) :: Value.ref a :: st.map fx_tv) _ = _
  unfold lx_ald
  dsimp only
  rw [fx_at hx]
  have e : fx_cell (.inl (ta, n)) (M a) = .inl (ta, n, .inl fun k => Int32.ofInt (M a k)) := by
    unfold fx_cell fx_ar
    dsimp only
    rw [if_neg h2, if_neg h5]
  rw [e]
  dsimp only
  rw [if_pos ⟨hT, fx_lin h0 h1 hn⟩, fx_nc ⟨by omega, by omega⟩]
  have : ((x.toNat : Nat) : Int) = x := by omega
  rw [this]
  rfl
theorem x_iald {a n : Nat} {x : Int} (h : fx_op m pc = some (.iaload, p, t)) (ha : fx_a a = some (0, n)) (h1 : 0 ≤ x ∧ x < n) (hn : n ≤ 2147483647) (K : wp kc d m p l (jI (M a x) :: st) M Q) : wp kc d m pc l (jI x :: jR a :: st) M Q := by
  obtain ⟨hI, hn', hp, -, -, hk⟩ := fx_op_inv h
  have hp : p = pc + 1 := by
    have := Option.some.inj hn'
    omega
  subst hp
  exact wp_ald hI rfl rfl (fun _ _ _ => rfl) ha rfl (by decide) (by decide) h1.1 h1.2 (by omega) K
theorem x_cald {a n : Nat} {x : Int} (h : fx_op m pc = some (.caload, p, t)) (ha : fx_a a = some (1, n)) (h1 : 0 ≤ x ∧ x < n) (hn : n ≤ 2147483647) (K : wp kc d m p l (jI (M a x) :: st) M Q) : wp kc d m pc l (jI x :: jR a :: st) M Q := by
  obtain ⟨hI, hn', hp, -, -, hk⟩ := fx_op_inv h
  have hp : p = pc + 1 := by
    have := Option.some.inj hn'
    omega
  subst hp
  exact wp_ald hI rfl rfl (fun _ _ _ => rfl) ha rfl (by decide) (by decide) h1.1 h1.2 (by omega) K
theorem x_bald {a n : Nat} {x : Int} (h : fx_op m pc = some (.baload, p, t)) (ha : fx_a a = some (4, n)) (h1 : 0 ≤ x ∧ x < n) (hn : n ≤ 2147483647) (K : wp kc d m p l (jI (M a x) :: st) M Q) : wp kc d m pc l (jI x :: jR a :: st) M Q := by
  obtain ⟨hI, hn', hp, -, -, hk⟩ := fx_op_inv h
  have hp : p = pc + 1 := by
    have := Option.some.inj hn'
    omega
  subst hp
  exact wp_ald hI rfl rfl (fun _ _ _ => rfl) ha rfl (by decide) (by decide) h1.1 h1.2 (by omega) K
theorem x_lald {a n : Nat} {x : Int} (h : fx_op m pc = some (.laload, p, t)) (ha : fx_a a = some (2, n)) (h1 : 0 ≤ x ∧ x < n) (hn : n ≤ 2147483647) (K : wp kc d m p l (jL (M a x) :: st) M Q) : wp kc d m pc l (jI x :: jR a :: st) M Q := by
  obtain ⟨hI, hn', hp, -, -, hk⟩ := fx_op_inv h
  have hp : p = pc + 1 := by
    have := Option.some.inj hn'
    omega
  subst hp
  have hx := fx_a_inv ha
  refine wp_sm hI rfl rfl (fun L hL => ?_) K
  show lx_all kc pc L (Value.int (Int32.ofInt x) :: Value.ref a :: st.map fx_tv) _ = _
  unfold lx_all
  dsimp only
  rw [fx_at hx]
  have e : fx_cell (.inl (2, n)) (M a) = .inl (2, n, .inr (.inl fun k => Int64.ofInt (M a k))) := rfl
  rw [e]
  dsimp only
  rw [if_pos ⟨rfl, fx_lin h1.1 h1.2 (by omega)⟩, fx_nc ⟨by omega, by omega⟩]
  have : ((x.toNat : Nat) : Int) = x := by omega
  rw [this]
  rfl
/-- a long of a constant array -/
theorem x_laldk {a n : Nat} {x : Int} {f : Nat → Int64} (h : fx_op m pc = some (.laload, p, t)) (hl : ¬ a < lx_K) (ha : kc[a - lx_K]? = some (.inl (2, n, .inr (.inl f)))) (h1 : 0 ≤ x ∧ x < n) (hn : n ≤ 2147483647) (K : wp kc d m p l (jL (f x.toNat).toInt :: st) M Q) : wp kc d m pc l (jI x :: jR a :: st) M Q := by
  obtain ⟨hI, hn', hp, -, -, hk⟩ := fx_op_inv h
  have hp : p = pc + 1 := by
    have := Option.some.inj hn'
    omega
  subst hp
  refine wp_sm hI rfl rfl (fun L hL => ?_) K
  show lx_all kc pc L (Value.int (Int32.ofInt x) :: Value.ref a :: st.map fx_tv) _ = _
  unfold lx_all
  dsimp only
  rw [lx_at_ge hl, ha]
  dsimp only
  rw [if_pos ⟨rfl, fx_lin h1.1 h1.2 (by omega)⟩, fx_nc ⟨by omega, by omega⟩]
  show some (pc + 1, L, Value.long _ :: _, _) = some (pc + 1, L, Value.long (Int64.ofInt _) :: _, _)
  rw [Int64.ofInt_toInt]
/-- an int of the script -/
theorem x_ialdk {a n : Nat} {x : Int} {f : Nat → Int32} (h : fx_op m pc = some (.iaload, p, t)) (hl : ¬ a < lx_K) (ha : kc[a - lx_K]? = some (.inl (0, n, .inl f))) (h1 : 0 ≤ x ∧ x < n) (hn : n ≤ 2147483647) (K : wp kc d m p l (jI (f x.toNat).toInt :: st) M Q) : wp kc d m pc l (jI x :: jR a :: st) M Q := by
  obtain ⟨hI, hn', hp, -, -, hk⟩ := fx_op_inv h
  have hp : p = pc + 1 := by
    have := Option.some.inj hn'
    omega
  subst hp
  refine wp_sm hI rfl rfl (fun L hL => ?_) K
  show lx_ald kc _ pc L (Value.int (Int32.ofInt x) :: Value.ref a :: st.map fx_tv) _ = _
  unfold lx_ald
  dsimp only
  rw [lx_at_ge hl, ha]
  dsimp only
  rw [if_pos ⟨rfl, fx_lin h1.1 h1.2 (by omega)⟩, fx_nc ⟨by omega, by omega⟩]
  show some (pc + 1, L, Value.int _ :: _, _) = some (pc + 1, L, Value.int (Int32.ofInt _) :: _, _)
  rw [Int32.ofInt_toInt]
theorem x_lenk {a n ty : Nat} {f} (h : fx_op m pc = some (.arraylength, p, t)) (hl : ¬ a < lx_K) (ha : kc[a - lx_K]? = some (.inl (ty, n, f))) (K : wp kc d m p l (jI n :: st) M Q) : wp kc d m pc l (jR a :: st) M Q := by
  obtain ⟨hI, hn', hp, -, -, hk⟩ := fx_op_inv h
  have hp : p = pc + 1 := by
    have := Option.some.inj hn'
    omega
  subst hp
  refine wp_sm hI rfl rfl (fun L hL => ?_) K
  show lx_len kc pc L (Value.ref a :: st.map fx_tv) _ = _
  unfold lx_len
  dsimp only
  rw [lx_at_ge hl, ha]
  show some (pc + 1, L, Value.int _ :: _, _) = some (pc + 1, L, Value.int (Int32.ofInt _) :: _, _)
  rw [Int32.ofInt_eq_ofNat]
theorem x_len {a n ta : Nat} (h : fx_op m pc = some (.arraylength, p, t)) (ha : fx_a a = some (ta, n)) (K : wp kc d m p l (jI n :: st) M Q) : wp kc d m pc l (jR a :: st) M Q := by
  obtain ⟨hI, hn', hp, -, -, hk⟩ := fx_op_inv h
  have hp : p = pc + 1 := by
    have := Option.some.inj hn'
    omega
  subst hp
  refine wp_sm hI rfl rfl (fun L hL => ?_) K
  show lx_len kc pc L (Value.ref a :: st.map fx_tv) _ = _
  unfold lx_len
  dsimp only
  rw [fx_at (fx_a_inv ha)]
  show some (pc + 1, L, Value.int _ :: _, _) = some (pc + 1, L, Value.int (Int32.ofInt _) :: _, _)
  rw [Int32.ofInt_eq_ofNat]
/-- one of the contest's puzzles -/
theorem x_aald {x : Int} {a : Nat} (ea : a = 65) (h : fx_op m pc = some (.aaload, p, t)) (h1 : 0 ≤ x ∧ x < 6) (K : wp kc d m p l (jR (71 + 9 * x.toNat) :: st) M Q) : wp kc d m pc l (jI x :: jR a :: st) M Q := by
  obtain ⟨hI, hn', hp, -, -, hk⟩ := fx_op_inv h
  have hp : p = pc + 1 := by
    have := Option.some.inj hn'
    omega
  subst hp
  have hx : xLay[a]? = some (.inl (5, 6)) := by
    rw [ea]
    decide +kernel
  refine wp_sm hI rfl rfl (fun L hL => ?_) K
  show lx_alq pc L (Value.int (Int32.ofInt x) :: Value.ref a :: st.map fx_tv) _ = _
  unfold lx_alq
  dsimp only
  rw [if_pos (xLay_lt hx), fx_hp_at hx]
  have e : fx_cell (.inl (5, 6)) (M a) = .inl (5, 6, .inr (.inr (.inr (.inr (fx_pz (M a)))))) := rfl
  rw [e]
  dsimp only
  rw [if_pos ⟨Nat.le_refl _, fx_lin h1.1 (by omega) (by omega)⟩, fx_nc ⟨by omega, by omega⟩]
  unfold fx_pz
  rw [if_pos (by omega)]
  rfl
theorem wp_ast {T : Nat → Bool} {nar : Nat → Int32 → Int32} {i : Instr} {a n ta : Nat} {x v : Int} (hI : xI m pc = some i) (hret : lx_ret m i ((jI v :: jI x :: jR a :: st).map fx_tv) = none) (hS : xS m i = none) (hi : ∀ L S h, lx_ins kc m pc i L S h = lx_ast T nar pc L S h) (ha : fx_a a = some (ta, n)) (hT : T ta = true) (h2 : ta ≠ 2) (h5 : ta ≠ 5) (hv : nar ta (Int32.ofInt v) = Int32.ofInt v) (h0 : 0 ≤ x) (h1 : x < n) (hn : (n : Int) ≤ 2147483647) (K : wp kc d m (pc + 1) l st (fx_up M a x v) Q) : wp kc d m pc l (jI v :: jI x :: jR a :: st) M Q := by
  have hx := fx_a_inv ha
  refine wp_sm hI hret hS (fun L hL => ?_) K
  rw [hi]
  show lx_ast T nar pc L (Value.int (Int32.ofInt v) :: Value.int (Int32.ofInt x) :: Value.ref a :: st.map fx_tv) _ = _
  unfold lx_ast
  dsimp only
  rw [if_pos (xLay_lt hx), fx_hp_at hx]
  have e : ∀ g : Int → Int, fx_cell (.inl (ta, n)) g = .inl (ta, n, .inl fun k => Int32.ofInt (g k)) := by
    intro g
    unfold fx_cell fx_ar
    dsimp only
    rw [if_neg h2, if_neg h5]
  rw [e]
  dsimp only
  rw [if_pos ⟨hT, fx_lin h0 h1 hn⟩, fx_nc ⟨by omega, by omega⟩, hv]
  have e2 : upd (fun k : Nat => Int32.ofInt (M a k)) x.toNat (Int32.ofInt v) = fun k : Nat => Int32.ofInt (if (k : Int) = x then v else M a k) := by
    funext k
    unfold upd
    by_cases hk : k = x.toNat
    · rw [if_pos hk, if_pos (by omega)]
    · rw [if_neg hk, if_neg (by omega)]
  rw [e2, ← e (fun z => if z = x then v else M a z), fx_hp_set hx, fx_up_eq]
theorem x_iast {a n : Nat} {x v : Int} (h : fx_op m pc = some (.iastore, p, t)) (ha : fx_a a = some (0, n)) (h1 : 0 ≤ x ∧ x < n) (hn : n ≤ 2147483647) (K : wp kc d m p l st (fx_up M a x v) Q) : wp kc d m pc l (jI v :: jI x :: jR a :: st) M Q := by
  obtain ⟨hI, hn', hp, -, -, hk⟩ := fx_op_inv h
  have hp : p = pc + 1 := by
    have := Option.some.inj hn'
    omega
  subst hp
  exact wp_ast hI rfl rfl (fun _ _ _ => rfl) ha rfl (by decide) (by decide) rfl h1.1 h1.2 (by omega) K
theorem fx_narc {v : Int} (hv : 0 ≤ v ∧ v ≤ 65535) : vp_nar .char (Int32.ofInt v) = Int32.ofInt v := by
  show (Int32.ofInt v).toUInt32.toUInt16.toUInt32.toInt32 = Int32.ofInt v
  apply Int32.toBitVec_inj.mp
  show ((BitVec.ofInt 32 v).setWidth 16).setWidth 32 = BitVec.ofInt 32 v
  apply BitVec.eq_of_toNat_eq
  simp only [BitVec.toNat_setWidth, BitVec.toNat_ofInt]
  omega
theorem x_cast {a n : Nat} {x v : Int} (h : fx_op m pc = some (.castore, p, t)) (ha : fx_a a = some (1, n)) (h1 : 0 ≤ x ∧ x < n) (hn : n ≤ 2147483647) (hv : 0 ≤ v ∧ v ≤ 65535) (K : wp kc d m p l st (fx_up M a x v) Q) : wp kc d m pc l (jI v :: jI x :: jR a :: st) M Q := by
  obtain ⟨hI, hn', hp, -, -, hk⟩ := fx_op_inv h
  have hp : p = pc + 1 := by
    have := Option.some.inj hn'
    omega
  subst hp
  exact wp_ast hI rfl rfl (fun _ _ _ => rfl) ha rfl (by decide) (by decide) (fx_narc hv) h1.1 h1.2 (by omega) K
theorem x_bast {a n : Nat} {x v : Int} (h : fx_op m pc = some (.bastore, p, t)) (ha : fx_a a = some (4, n)) (h1 : 0 ≤ x ∧ x < n) (hn : n ≤ 2147483647) (hv : 0 ≤ v ∧ v ≤ 1) (K : wp kc d m p l st (fx_up M a x v) Q) : wp kc d m pc l (jI v :: jI x :: jR a :: st) M Q := by
  obtain ⟨hI, hn', hp, -, -, hk⟩ := fx_op_inv h
  have hp : p = pc + 1 := by
    have := Option.some.inj hn'
    omega
  subst hp
  refine wp_ast hI rfl rfl (fun _ _ _ => rfl) ha rfl (by decide) (by decide) ?_ h1.1 h1.2 (by omega) K
  have : v = 0 ∨ v = 1 := by omega
  rcases this with h | h <;> subst h <;> decide
theorem x_last {a n : Nat} {x v : Int} (h : fx_op m pc = some (.lastore, p, t)) (ha : fx_a a = some (2, n)) (h1 : 0 ≤ x ∧ x < n) (hn : n ≤ 2147483647) (K : wp kc d m p l st (fx_up M a x v) Q) : wp kc d m pc l (jL v :: jI x :: jR a :: st) M Q := by
  obtain ⟨hI, hn', hp, -, -, hk⟩ := fx_op_inv h
  have hp : p = pc + 1 := by
    have := Option.some.inj hn'
    omega
  subst hp
  have hx := fx_a_inv ha
  refine wp_sm hI rfl rfl (fun L hL => ?_) K
  show lx_asl pc L (Value.long (Int64.ofInt v) :: Value.int (Int32.ofInt x) :: Value.ref a :: st.map fx_tv) _ = _
  unfold lx_asl
  dsimp only
  rw [if_pos (xLay_lt hx), fx_hp_at hx]
  have e : ∀ g : Int → Int, fx_cell (.inl (2, n)) g = .inl (2, n, .inr (.inl fun k => Int64.ofInt (g k))) := fun g => rfl
  rw [e]
  dsimp only
  rw [if_pos ⟨rfl, fx_lin h1.1 h1.2 (by omega)⟩, fx_nc ⟨by omega, by omega⟩]
  have e2 : vp_updL (fun k : Nat => Int64.ofInt (M a k)) x.toNat (Int64.ofInt v) = fun k : Nat => Int64.ofInt (if (k : Int) = x then v else M a k) := by
    funext k
    unfold vp_updL
    by_cases hk : k = x.toNat
    · rw [if_pos hk, if_pos (by omega)]
    · rw [if_neg hk, if_neg (by omega)]
  rw [e2, ← e (fun z => if z = x then v else M a z), fx_hp_set hx, fx_up_eq]
/-! answers -/
noncomputable def fx_rt (m : Nat) : Nat := match xR m with
  | none => 8
  | some ty => fx_tc ty
theorem x_vr (h : fx_op m pc = some (.return_, p, t)) (hr : fx_rt m = 8) (K : Q none M) : wp kc d m pc l [] M Q := by
  obtain ⟨hI, -⟩ := fx_op_inv h
  refine ⟨none, M, K, fun L hL => ev_ret hI ?_⟩
  unfold fx_rt at hr
  show lx_ret m .return_ [] = some none
  unfold lx_ret
  dsimp only
  split at hr
  · next h0 => rw [h0]
  · next ty h0 => exact absurd hr (by cases ty <;> (intro h; cases h))
theorem x_irt {x : Int} (h : fx_op m pc = some (.ireturn, p, t)) (hr : fx_rt m = 0) (K : Q (some (jI x)) M) : wp kc d m pc l [jI x] M Q := by
  obtain ⟨hI, -⟩ := fx_op_inv h
  refine ⟨some (jI x), M, K, fun L hL => ev_ret hI ?_⟩
  unfold fx_rt at hr
  split at hr
  · cases hr
  · next ty h0 =>
    have : ty = .int := by cases ty <;> first | rfl | cases hr
    subst this
    show lx_ret m .ireturn [Value.int (Int32.ofInt x)] = _
    unfold lx_ret
    dsimp only
    rw [h0]
    show (if narrow .int (.int (Int32.ofInt x)) = .int (Int32.ofInt x) then _ else _) = _
    rw [if_pos (show narrow .int (.int (Int32.ofInt x)) = .int (Int32.ofInt x) from rfl)]
    rfl
theorem x_zrt {x : Int} (h : fx_op m pc = some (.ireturn, p, t)) (hr : fx_rt m = 2) (hx : 0 ≤ x ∧ x ≤ 1) (K : Q (some (jI x)) M) : wp kc d m pc l [jI x] M Q := by
  obtain ⟨hI, -⟩ := fx_op_inv h
  refine ⟨some (jI x), M, K, fun L hL => ev_ret hI ?_⟩
  unfold fx_rt at hr
  split at hr
  · cases hr
  · next ty h0 =>
    have : ty = .boolean := by cases ty <;> first | rfl | cases hr
    subst this
    show lx_ret m .ireturn [Value.int (Int32.ofInt x)] = _
    unfold lx_ret
    dsimp only
    rw [h0]
    have : x = 0 ∨ x = 1 := by omega
    rcases this with h | h <;> subst h <;> rfl
theorem x_lrt {x : Int} (h : fx_op m pc = some (.lreturn, p, t)) (hr : fx_rt m = 1) (K : Q (some (jL x)) M) : wp kc d m pc l [jL x] M Q := by
  obtain ⟨hI, -⟩ := fx_op_inv h
  refine ⟨some (jL x), M, K, fun L hL => ev_ret hI ?_⟩
  unfold fx_rt at hr
  split at hr
  · cases hr
  · next ty h0 =>
    have : ty = .long := by cases ty <;> first | rfl | cases hr
    subst this
    show lx_ret m .lreturn [Value.long (Int64.ofInt x)] = _
    unfold lx_ret
    dsimp only
    rw [h0]
    rfl
theorem x_art {x : Nat} (h : fx_op m pc = some (.areturn, p, t)) (hr : fx_rt m = 3) (K : Q (some (jR x)) M) : wp kc d m pc l [jR x] M Q := by
  obtain ⟨hI, -⟩ := fx_op_inv h
  refine ⟨some (jR x), M, K, fun L hL => ev_ret hI ?_⟩
  unfold fx_rt at hr
  split at hr
  · cases hr
  · next ty h0 =>
    show lx_ret m .areturn [Value.ref x] = _
    unfold lx_ret
    dsimp only
    rw [h0]
    cases ty <;> first | rfl | cases hr
/-! calls -/
def fx_al : List fx_V → fx_L
  | [] => []
  | .inr (.inl x) :: vs => some (.inr (.inl x)) :: none :: fx_al vs
  | v :: vs => some v :: fx_al vs
theorem fx_al_lo : ∀ (vs : List fx_V) (j i : Nat) (v : fx_V), (fx_al vs)[i]? = some (some v) → lx_lg (lv_args j (vs.map fx_tv)) (j + i) = some (fx_tv v)
  | [], _, _, _, h => by simp [fx_al] at h
  | .inr (.inl x) :: vs, j, 0, v, h => by
    have : v = jL x := by simpa [fx_al] using h.symm
    subst this
    show lx_lg ((j, Value.long (Int64.ofInt x)) :: _) j = _
    unfold lx_lg
    rw [if_pos rfl]
    rfl
  | .inr (.inl x) :: vs, j, 1, v, h => by simp [fx_al] at h
  | .inr (.inl x) :: vs, j, i + 2, v, h => by
    have h : (fx_al vs)[i]? = some (some v) := by simpa [fx_al] using h
    have ih := fx_al_lo vs (j + 2) i v h
    show lx_lg ((j, Value.long (Int64.ofInt x)) :: lv_args (j + 2) (vs.map fx_tv)) (j + (i + 2)) = _
    unfold lx_lg
    rw [if_neg (by omega), show j + (i + 2) = j + 2 + i by omega]
    exact ih
  | .inl x :: vs, j, 0, v, h => by
    have : v = jI x := by simpa [fx_al] using h.symm
    subst this
    show lx_lg ((j, Value.int (Int32.ofInt x)) :: _) j = _
    unfold lx_lg
    rw [if_pos rfl]
    rfl
  | .inl x :: vs, j, i + 1, v, h => by
    have h : (fx_al vs)[i]? = some (some v) := by simpa [fx_al] using h
    have ih := fx_al_lo vs (j + 1) i v h
    show lx_lg ((j, Value.int (Int32.ofInt x)) :: lv_args (j + 1) (vs.map fx_tv)) (j + (i + 1)) = _
    unfold lx_lg
    rw [if_neg (by omega), show j + (i + 1) = j + 1 + i by omega]
    exact ih
  | .inr (.inr r) :: vs, j, 0, v, h => by
    have : v = .inr (.inr r) := by simpa [fx_al] using h.symm
    subst this
    show lx_lg ((j, fx_tv (.inr (.inr r))) :: _) j = _
    unfold lx_lg
    rw [if_pos rfl]
  | .inr (.inr r) :: vs, j, i + 1, v, h => by
    have h : (fx_al vs)[i]? = some (some v) := by simpa [fx_al] using h
    have ih := fx_al_lo vs (j + 1) i v h
    have e : lv_args j ((.inr (.inr r) :: vs : List fx_V).map fx_tv) = (j, fx_tv (.inr (.inr r))) :: lv_args (j + 1) (vs.map fx_tv) := by
      cases r <;> rfl
    rw [e]
    unfold lx_lg
    rw [if_neg (by omega), show j + (i + 1) = j + 1 + i by omega]
    exact ih
/-- a call of method k -/
def wc (kc : List va_E) (d k : Nat) (As : List fx_V) (M : fx_M) (Q : Option fx_V → fx_M → Prop) : Prop := ∃ (v : Option fx_V) (M' : fx_M), Q v M' ∧ lx_ev kc d k 0 (lv_args 0 (As.map fx_tv)) [] (fx_hp M) (v.map fx_tv, fx_hp M')
theorem wc_of {k : Nat} {As : List fx_V} (K : wp kc d k 0 (fx_al As) [] M Q) : wc kc d k As M Q := by
  obtain ⟨v, M', hQ, hK⟩ := K
  refine ⟨v, M', hQ, hK _ (fun i' v' hi => ?_)⟩
  have := fx_al_lo As 0 i' v' hi
  rwa [Nat.zero_add] at this
theorem wc_mono {k d' : Nat} {As : List fx_V} {Q' : Option fx_V → fx_M → Prop} (hd : d' ≤ d) (hQ : ∀ v M', Q v M' → Q' v M') (K : wc kc d' k As M Q) : wc kc d k As M Q' := by
  obtain ⟨v, M', hq, hK⟩ := K
  exact ⟨v, M', hQ _ _ hq, ev_mono (lx_kle_rf kc) hd hK⟩
/-- a call: method, how many words, kind, next place -/
noncomputable def fx_ca (m pc : Nat) : Option (Nat × Nat × Nat × Nat) := match xI m pc with
  | some i => match xS m i with
    | some (k, a, w) => some (k, a, w, pc + 3)
    | none => none
  | none => none
def fx_ct (vs : List fx_V) : Nat := (vs.map fun v => if fx_ty v = 1 then 2 else 1).sum
theorem fx_cat (v : fx_V) : (fx_tv v).category = if fx_ty v = 1 then 2 else 1 := by
  match v with
  | .inl x => rfl
  | .inr (.inl x) => rfl
  | .inr (.inr (some x)) => rfl
  | .inr (.inr none) => rfl
theorem fx_ct_eq : ∀ (vs : List fx_V), ((vs.map fx_tv).map fun v => v.category).sum = fx_ct vs
  | [] => rfl
  | v :: vs => by
    have := fx_ct_eq vs
    unfold fx_ct at this ⊢
    simp only [List.map_cons, List.sum_cons, this, fx_cat]
theorem fx_sl_eq : ∀ (vs : List fx_V), (lg_sl (vs.map fx_tv)).length = fx_ct vs
  | [] => rfl
  | v :: vs => by
    have := fx_sl_eq vs
    unfold lg_sl at this ⊢
    unfold fx_ct at this ⊢
    simp only [List.map_cons, List.flatMap_cons, List.length_append, List.sum_cons, this, fx_cat]
    congr 1
    split <;> simp
theorem wp_call {k a w d' : Nat} {As : List fx_V} (h : fx_ca m pc = some (k, a, w, p)) (ha : As.length = a) (hst : fx_ct st ≤ 8) (hx : fx_ct As ≤ xM k) (hr : lx_rcv kc k w (fx_hp M) (As.map fx_tv) = true) (hd : d' + 1 ≤ d) (K : wc kc d' k As M (fun v M1 => wp kc d m p l (v.toList ++ st) M1 Q)) : wp kc d m pc l (As.reverse ++ st) M Q := by
  unfold fx_ca at h
  split at h
  · next i hI =>
    split at h
    · next k' a' w' hS =>
      cases h
      obtain ⟨v1, M1, ⟨v, M', hQ, hK2⟩, hK1⟩ := K
      refine ⟨v, M', hQ, fun L hL => ?_⟩
      match d, hd with
      | 0, hd => omega
      | d0 + 1, hd =>
        have e1 : ((As.reverse ++ st).map fx_tv).take a = (As.map fx_tv).reverse := by
          rw [List.map_append, List.map_reverse, List.take_left' (by simp [ha])]
        have e2 : ((As.reverse ++ st).map fx_tv).drop a = st.map fx_tv := by
          rw [List.map_append, List.drop_left' (by simp [ha])]
        refine ev_call hI hS ?_ (ev_mono (lx_kle_rf kc) (show d' ≤ d0 by omega) (by
          rw [e1, List.reverse_reverse]
          exact hK1)) ?_
        · rw [e1, e2, List.reverse_reverse, hr, fx_ct_eq, fx_sl_eq]
          simp only [List.length_map, List.length_append, List.length_reverse, ha, Bool.and_true, Bool.and_eq_true, decide_eq_true_eq]
          omega
        · rw [e2]
          have := hK2 L hL
          rw [List.map_append] at this
          cases v1 <;> exact this
    · cases h
  · cases h
/-- a static call -/
theorem x_cs {k a w d' : Nat} {As : List fx_V} (h : fx_ca m pc = some (k, a, w, p)) (hw : w < 2) (ha : As.length = a) (hst : fx_ct st ≤ 8) (hx : fx_ct As ≤ xM k) (hd : d' + 1 ≤ d) (K : wc kc d' k As M (fun v M1 => wp kc d m p l (v.toList ++ st) M1 Q)) : wp kc d m pc l (As.reverse ++ st) M Q := by
  refine wp_call h ha hst hx ?_ hd K
  unfold lx_rcv
  split
  · rw [if_neg (by omega)]
  · have h2 : ¬ w = 2 := by omega
    have h3 : ¬ w = 3 := by omega
    have h4 : ¬ w = 4 := by omega
    have h5 : ¬ w = 5 := by omega
    simp [h2, h3, h4, h5]
/-- a call of an object of the heap -/
theorem x_cv {k a w d' b c : Nat} {As : List fx_V} (h : fx_ca m pc = some (k, a, w, p)) (hb : fx_cls b = some c) (hc : xKc k = c) (ha : As.length + 1 = a) (hst : fx_ct st ≤ 8) (hx : 1 + fx_ct As ≤ xM k) (hd : d' + 1 ≤ d) (K : wc kc d' k (jR b :: As) M (fun v M1 => wp kc d m p l (v.toList ++ st) M1 Q)) : wp kc d m pc l (As.reverse ++ jR b :: st) M Q := by
  have e : As.reverse ++ jR b :: st = (jR b :: As).reverse ++ st := by simp
  rw [e]
  refine wp_call h (by simpa using ha) hst hx ?_ hd K
  unfold lx_rcv
  show (if w = 2 ∨ w = 3 then (match lx_at kc (fx_hp M) b with | some (.inr (ci, _)) => ci == xKc k | _ => false) else true) = true
  split
  · obtain ⟨ks, hx⟩ := fx_cls_inv hb
    rw [fx_at hx]
    show (c == xKc k) = true
    rw [hc]
    simp
  · rfl
/-! natives -/
noncomputable def fx_nt (m pc : Nat) : Option (Nat × Nat) := match xI m pc with
  | some (.invokestatic idx) => match xP m idx with
    | some q => if q = 4 then none else some (q, pc + 3)
    | none => none
  | _ => none
theorem fx_nt_inv {q : Nat} (h : fx_nt m pc = some (q, p)) : ∃ idx, xI m pc = some (.invokestatic idx) ∧ xP m idx = some q ∧ q ≠ 4 ∧ p = pc + 3 := by
  unfold fx_nt at h
  split at h
  · next idx hI =>
    split at h
    · next q' hP =>
      split at h
      · cases h
      · next h4 => cases h; exact ⟨idx, hI, hP, h4, rfl⟩
    · cases h
  · cases h
theorem wp_nt {q : Nat} {st1 st2 : List fx_V} {M1 : fx_M} (h : fx_nt m pc = some (q, p)) (hS : xS m ((xI m pc).getD .nop) = none) (hs : ∀ L, lx_nat (some q) pc L (st1.map fx_tv) (fx_hp M) = some (pc + 3, L, st2.map fx_tv, fx_hp M1)) (K : wp kc d m p l st2 M1 Q) : wp kc d m pc l st1 M Q := by
  obtain ⟨idx, hI, hP, h4, rfl⟩ := fx_nt_inv h
  rw [hI] at hS
  refine wp_sm hI rfl hS (fun L hL => ?_) K
  show (if xP m idx = some 4 then none else lx_nat (xP m idx) pc L _ _) = _
  rw [hP, if_neg (by intro h; cases h; exact h4 rfl)]
  exact hs L
theorem x_max {x y : Int} (h : fx_nt m pc = some (1, p)) (hS : xS m ((xI m pc).getD .nop) = none) (hx : fx_in32 x) (hy : fx_in32 y) (hst : fx_ct st ≤ 8) (K : wp kc d m p l (jI (if x < y then y else x) :: st) M Q) : wp kc d m pc l (jI y :: jI x :: st) M Q := by
  refine wp_nt h hS (fun L => ?_) K
  rw [show lx_nat (some 1) = lx_m2 (fun x y => if x < y then y else x) from rfl]
  show lx_m2 _ pc L (Value.int (Int32.ofInt y) :: Value.int (Int32.ofInt x) :: st.map fx_tv) _ = _
  unfold lx_m2
  dsimp only
  rw [fx_ct_eq, if_pos hst]
  show some (pc + 3, L, Value.int _ :: _, _) = some (pc + 3, L, Value.int (Int32.ofInt _) :: _, _)
  by_cases c : x < y
  · rw [if_pos ((fx_lt hx hy).mpr c), if_pos c]
  · rw [if_neg (fun h => c ((fx_lt hx hy).mp h)), if_neg c]
theorem x_min {x y : Int} (h : fx_nt m pc = some (2, p)) (hS : xS m ((xI m pc).getD .nop) = none) (hx : fx_in32 x) (hy : fx_in32 y) (hst : fx_ct st ≤ 8) (K : wp kc d m p l (jI (if y < x then y else x) :: st) M Q) : wp kc d m pc l (jI y :: jI x :: st) M Q := by
  refine wp_nt h hS (fun L => ?_) K
  rw [show lx_nat (some 2) = lx_m2 (fun x y => if y < x then y else x) from rfl]
  show lx_m2 _ pc L (Value.int (Int32.ofInt y) :: Value.int (Int32.ofInt x) :: st.map fx_tv) _ = _
  unfold lx_m2
  dsimp only
  rw [fx_ct_eq, if_pos hst]
  show some (pc + 3, L, Value.int _ :: _, _) = some (pc + 3, L, Value.int (Int32.ofInt _) :: _, _)
  by_cases c : y < x
  · rw [if_pos ((fx_lt hy hx).mpr c), if_pos c]
  · rw [if_neg (fun h => c ((fx_lt hy hx).mp h)), if_neg c]
theorem x_abs {x : Int} (h : fx_nt m pc = some (3, p)) (hS : xS m ((xI m pc).getD .nop) = none) (hx : fx_in32 x) (hst : fx_ct st ≤ 8) (K : wp kc d m p l (jI (if 0 ≤ x then x else 0 - x) :: st) M Q) : wp kc d m pc l (jI x :: st) M Q := by
  refine wp_nt h hS (fun L => ?_) K
  rw [show lx_nat (some 3) = lx_m1 (fun x => if 0 ≤ x then x else 0 - x) from rfl]
  show lx_m1 _ pc L (Value.int (Int32.ofInt x) :: st.map fx_tv) _ = _
  unfold lx_m1
  dsimp only
  rw [fx_ct_eq, if_pos hst]
  show some (pc + 3, L, Value.int _ :: _, _) = some (pc + 3, L, Value.int (Int32.ofInt _) :: _, _)
  have h0 : (0 : Int32) ≤ Int32.ofInt x ↔ 0 ≤ x := fx_le (x := 0) (y := x) (by decide) hx
  by_cases c : 0 ≤ x
  · rw [if_pos (h0.mpr c), if_pos c]
  · rw [if_neg (fun h => c (h0.mp h)), if_neg c, Int32.ofInt_sub]
    rfl
theorem x_minl {x y : Int} (h : fx_nt m pc = some (5, p)) (hS : xS m ((xI m pc).getD .nop) = none) (hx : fx_in64 x) (hy : fx_in64 y) (hst : fx_ct st ≤ 8) (K : wp kc d m p l (jL (if y < x then y else x) :: st) M Q) : wp kc d m pc l (jL y :: jL x :: st) M Q := by
  refine wp_nt h hS (fun L => ?_) K
  rw [show lx_nat (some 5) = lx_m5 (fun x y => if y < x then y else x) from rfl]
  show lx_m5 _ pc L (Value.long (Int64.ofInt y) :: Value.long (Int64.ofInt x) :: st.map fx_tv) _ = _
  unfold lx_m5
  dsimp only
  rw [fx_ct_eq, if_pos hst]
  show some (pc + 3, L, Value.long _ :: _, _) = some (pc + 3, L, Value.long (Int64.ofInt _) :: _, _)
  have E : Int64.ofInt y < Int64.ofInt x ↔ y < x := Int64.ofInt_lt_iff_lt (by rw [fx_min64]; omega) (by rw [fx_max64]; omega) (by rw [fx_min64]; omega) (by rw [fx_max64]; omega)
  by_cases c : y < x
  · rw [if_pos (E.mpr c), if_pos c]
  · rw [if_neg (fun h => c (E.mp h)), if_neg c]
/-- n words of array b from sp on come to array a from dp on -/
def fx_cpy (M : fx_M) (b : Nat) (sp : Int) (a : Nat) (dp n : Int) : fx_M := fun c j => if c = a ∧ dp ≤ j ∧ j < dp + n then M b (sp + (j - dp)) else M c j
theorem x_cpy {a b ta na nb : Nat} {sp dp n : Int} (h : fx_nt m pc = some (0, p)) (hS : xS m ((xI m pc).getD .nop) = none) (hb : fx_a b = some (ta, nb)) (ha : fx_a a = some (ta, na)) (ht : ta < 2) (h1 : 0 ≤ n ∧ 0 ≤ sp ∧ 0 ≤ dp ∧ sp + n ≤ nb ∧ dp + n ≤ na) (hn : na ≤ 2147483647 ∧ nb ≤ 2147483647) (hst : fx_ct st ≤ 8) (K : wp kc d m p l st (fx_cpy M b sp a dp n) Q) : wp kc d m pc l (jI n :: jI dp :: jR a :: jI sp :: jR b :: st) M Q := by
  refine wp_nt h hS (fun L => ?_) K
  show lx_cp pc L (Value.int (Int32.ofInt n) :: Value.int (Int32.ofInt dp) :: Value.ref a :: Value.int (Int32.ofInt sp) :: Value.ref b :: st.map fx_tv) _ = _
  have hxa := fx_a_inv ha
  have hxb := fx_a_inv hb
  have z : ∀ {x : Int}, 0 ≤ x → x ≤ 2147483647 → ¬ Int32.ofInt x < 0 := fun {x} h0 h1 h => by
    have := (fx_lt (x := x) (y := 0) ⟨by omega, by omega⟩ (by decide)).mp h
    omega
  unfold lx_cp
  dsimp only
  rw [fx_ct_eq, if_pos (by simp [xLay_lt hxa, xLay_lt hxb, z (x := n) (by omega) (by omega), z (x := dp) (by omega) (by omega), z (x := sp) (by omega) (by omega), hst]), fx_hp_at hxa, fx_hp_at hxb]
  have e : ∀ (n : Nat) (g : Int → Int), fx_cell (.inl (ta, n)) g = .inl (ta, n, .inl fun k => Int32.ofInt (g k)) := by
    intro n g
    unfold fx_cell fx_ar
    dsimp only
    rw [if_neg (by omega), if_neg (by omega)]
  rw [e, e]
  dsimp only
  rw [fx_nc (x := n) ⟨by omega, by omega⟩, fx_nc (x := dp) ⟨by omega, by omega⟩, fx_nc (x := sp) ⟨by omega, by omega⟩]
  rw [if_pos (by simp only [Bool.and_eq_true, decide_eq_true_eq]; refine ⟨⟨⟨trivial, ht⟩, ?_⟩, ?_⟩ <;> omega)]
  have e2 : va_cpy (fun k : Nat => Int32.ofInt (M b k)) (fun k : Nat => Int32.ofInt (M a k)) sp.toNat dp.toNat n.toNat = fun k : Nat => Int32.ofInt (if dp ≤ (k : Int) ∧ (k : Int) < dp + n then M b (sp + ((k : Int) - dp)) else M a k) := by
    funext k
    unfold va_cpy
    by_cases hk : dp.toNat ≤ k ∧ k < dp.toNat + n.toNat
    · have : ((sp.toNat + (k - dp.toNat) : Nat) : Int) = sp + ((k : Int) - dp) := by omega
      rw [if_pos hk, if_pos (by omega), ← this]
    · rw [if_neg hk, if_neg (by omega)]
  rw [e2, ← e na (fun z => if dp ≤ z ∧ z < dp + n then M b (sp + (z - dp)) else M a z), fx_hp_set hxa]
  congr 3
  congr 1
  congr 1
  funext c j
  unfold fx_cpy
  by_cases hc : c = a
  · subst hc
    simp
  · simp [hc]
end FXH
