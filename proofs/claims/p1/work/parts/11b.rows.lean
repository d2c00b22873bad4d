/-! ROWS of the flat layer -/
def fx_off : Instr → Int
  | .ifCond _ o => o
  | .if_icmp _ o => o
  | .goto o => o
  | .ifnull o => o
  | .ifnonnull o => o
  | _ => 0
def fx_sk : Instr → Nat
  | .istore_n k => k.val + 1
  | .istore k => k + 1
  | .astore_n k => k.val + 1
  | .astore k => k + 1
  | .iinc k _ => k + 1
  | .lstore_n k => k.val + 2
  | .lstore k => k + 2
  | _ => 0
/-- the instruction, the next place, the place that it leads to -/
noncomputable def fx_op (m pc : Nat) : Option (Instr × Nat × Nat) := match xI m pc with
  | none => none
  | some i => match lx_il i with
    | none => none
    | some n => if 0 ≤ (pc : Int) + fx_off i ∧ fx_sk i ≤ xM m then some (i, pc + n, ((pc : Int) + fx_off i).toNat) else none
theorem fx_op_inv {m pc : Nat} {i : Instr} {p t : Nat} (h : fx_op m pc = some (i, p, t)) : xI m pc = some i ∧ lx_il i = some (p - pc) ∧ pc ≤ p ∧ 0 ≤ (pc : Int) + fx_off i ∧ ((pc : Int) + fx_off i).toNat = t ∧ fx_sk i ≤ xM m := by
  unfold fx_op at h
  split at h
  · cases h
  · next j hj =>
    split at h
    · cases h
    · next n hn =>
      split at h
      · next h0 =>
        cases h
        exact ⟨hj, by rw [hn]; congr 1; omega, by omega, h0.1, rfl, h0.2⟩
      · cases h
abbrev fx_in32 (x : Int) : Prop := -2147483648 ≤ x ∧ x ≤ 2147483647
abbrev fx_in64 (x : Int) : Prop := -9223372036854775808 ≤ x ∧ x ≤ 9223372036854775807
theorem fx_min32 : Int32.minValue.toInt = -2147483648 := by decide
theorem fx_max32 : Int32.maxValue.toInt = 2147483647 := by decide
theorem fx_min64 : Int64.minValue.toInt = -9223372036854775808 := by decide
theorem fx_max64 : Int64.maxValue.toInt = 9223372036854775807 := by decide
theorem fx_lt {x y : Int} (hx : fx_in32 x) (hy : fx_in32 y) : Int32.ofInt x < Int32.ofInt y ↔ x < y := Int32.ofInt_lt_iff_lt (by rw [fx_min32]; omega) (by rw [fx_max32]; omega) (by rw [fx_min32]; omega) (by rw [fx_max32]; omega)
theorem fx_le {x y : Int} (hx : fx_in32 x) (hy : fx_in32 y) : Int32.ofInt x ≤ Int32.ofInt y ↔ x ≤ y := Int32.ofInt_le_iff_le (by rw [fx_min32]; omega) (by rw [fx_max32]; omega) (by rw [fx_min32]; omega) (by rw [fx_max32]; omega)
theorem fx_to {x : Int} (hx : fx_in32 x) : (Int32.ofInt x).toInt = x := Int32.toInt_ofInt_of_le (by omega) (by omega)
theorem fx_to64 {x : Int} (hx : fx_in64 x) : (Int64.ofInt x).toInt = x := Int64.toInt_ofInt_of_le (by omega) (by omega)
theorem fx_eq {x y : Int} (hx : fx_in32 x) (hy : fx_in32 y) : Int32.ofInt x = Int32.ofInt y ↔ x = y := by
  rw [← Int32.toInt_inj, fx_to hx, fx_to hy]
theorem fx_eq64 {x y : Int} (hx : fx_in64 x) (hy : fx_in64 y) : Int64.ofInt x = Int64.ofInt y ↔ x = y := by
  rw [← Int64.toInt_inj, fx_to64 hx, fx_to64 hy]
theorem fx_nc {x : Int} (hx : fx_in32 x) : (Int32.ofInt x).toNatClampNeg = x.toNat := Int32.toNatClampNeg_ofInt_of_le (by omega) (by omega)
theorem fx_lin {i : Int} {n : Nat} (h0 : 0 ≤ i) (h1 : i < n) (hn : (n : Int) ≤ 2147483647) : lx_in (Int32.ofInt i) n = true := by
  have hi : fx_in32 i := ⟨by omega, by omega⟩
  unfold lx_in
  rw [fx_nc hi]
  have h3 : ¬ Int32.ofInt i < 0 := by
    have := fx_lt hi (y := 0) ⟨by omega, by omega⟩
    rw [show Int32.ofInt 0 = 0 from rfl] at this
    rw [this]
    omega
  simp only [h3, decide_false, Bool.not_false, Bool.true_and, decide_eq_true_eq]
  omega
def fx_and (x y : Int) : Int := (Int32.ofInt x &&& Int32.ofInt y).toInt
def fx_or (x y : Int) : Int := (Int32.ofInt x ||| Int32.ofInt y).toInt
def fx_xor (x y : Int) : Int := (Int32.ofInt x ^^^ Int32.ofInt y).toInt
def fx_shl (x y : Int) : Int := (Int32.ofInt x <<< (Int32.ofInt y &&& 31)).toInt
def fx_shr (x y : Int) : Int := (Int32.ofInt x >>> (Int32.ofInt y &&& 31)).toInt
def fx_ushr (x y : Int) : Int := (((Int32.ofInt x).toUInt32 >>> ((Int32.ofInt y).toUInt32 &&& Int32.toUInt32 31)).toInt32).toInt
def fx_land (x y : Int) : Int := (Int64.ofInt x &&& Int64.ofInt y).toInt
def fx_lor (x y : Int) : Int := (Int64.ofInt x ||| Int64.ofInt y).toInt
def fx_lxor (x y : Int) : Int := (Int64.ofInt x ^^^ Int64.ofInt y).toInt
def fx_lshl (x y : Int) : Int := (Int64.ofInt x <<< ((Int32.ofInt y).toInt64 &&& 63)).toInt
def fx_lshr (x y : Int) : Int := (Int64.ofInt x >>> ((Int32.ofInt y).toInt64 &&& 63)).toInt
def fx_lushr (x y : Int) : Int := (((Int64.ofInt x).toUInt64 >>> ((Int32.ofInt y).toInt64.toUInt64 &&& Int64.toUInt64 63)).toInt64).toInt
def fx_cmp (x y : Int) : Int := if y < x then 1 else if x = y then 0 else -1
section FXR
variable {kc : List va_E} {d m pc p t : Nat} {l l' : fx_L} {st : List fx_V} {M : fx_M} {Q : Option fx_V → fx_M → Prop}
theorem wp_one {i : Instr} {p : Nat} {l1 : fx_L} {st1 : List fx_V} {M1 : fx_M} (hI : xI m pc = some i) (hret : lx_ret m i (st.map fx_tv) = none) (hS : xS m i = none) (hstep : ∀ L, fx_lo l L → ∃ L', fx_lo l1 L' ∧ lx_ins kc m pc i L (st.map fx_tv) (fx_hp M) = some (p, L', st1.map fx_tv, fx_hp M1)) (K : wp kc d m p l1 st1 M1 Q) : wp kc d m pc l st M Q := by
  obtain ⟨v, M', hQ, hK⟩ := K
  refine ⟨v, M', hQ, fun L hL => ?_⟩
  obtain ⟨L', hL', hs⟩ := hstep L hL
  exact ev_ins hI hret hS hs (hK L' hL')
theorem wp_sm {i : Instr} {p : Nat} {st1 : List fx_V} {M1 : fx_M} (hI : xI m pc = some i) (hret : lx_ret m i (st.map fx_tv) = none) (hS : xS m i = none) (hstep : ∀ L, fx_lo l L → lx_ins kc m pc i L (st.map fx_tv) (fx_hp M) = some (p, L, st1.map fx_tv, fx_hp M1)) (K : wp kc d m p l st1 M1 Q) : wp kc d m pc l st M Q :=
  wp_one hI hret hS (fun L hL => ⟨L, hL, hstep L hL⟩) K

theorem x_ildn {k : Fin 4} {x : Int} (h : fx_op m pc = some (.iload_n k, p, t)) (hl : l[(k : Nat)]? = some (some (jI x))) (K : wp kc d m p l (jI x :: st) M Q) : wp kc d m pc l st M Q := by
  obtain ⟨hI, hn, hp, -, -, hk⟩ := fx_op_inv h
  have hp : p = pc + 1 := by
    have := Option.some.inj hn
    omega
  subst hp
  refine wp_sm hI rfl rfl (fun L hL => ?_) K
  show lx_ldi pc 1 k L _ _ = _
  unfold lx_ldi
  rw [hL k _ hl]
  rfl

theorem x_ild {k : Nat} {x : Int} (h : fx_op m pc = some (.iload k, p, t)) (hl : l[(k : Nat)]? = some (some (jI x))) (K : wp kc d m p l (jI x :: st) M Q) : wp kc d m pc l st M Q := by
  obtain ⟨hI, hn, hp, -, -, hk⟩ := fx_op_inv h
  have hp : p = pc + 2 := by
    have := Option.some.inj hn
    omega
  subst hp
  refine wp_sm hI rfl rfl (fun L hL => ?_) K
  show lx_ldi pc 2 k L _ _ = _
  unfold lx_ldi
  rw [hL k _ hl]
  rfl

theorem x_lldn {k : Fin 4} {x : Int} (h : fx_op m pc = some (.lload_n k, p, t)) (hl : l[(k : Nat)]? = some (some (jL x))) (K : wp kc d m p l (jL x :: st) M Q) : wp kc d m pc l st M Q := by
  obtain ⟨hI, hn, hp, -, -, hk⟩ := fx_op_inv h
  have hp : p = pc + 1 := by
    have := Option.some.inj hn
    omega
  subst hp
  refine wp_sm hI rfl rfl (fun L hL => ?_) K
  show lx_ldl pc 1 k L _ _ = _
  unfold lx_ldl
  rw [hL k _ hl]
  rfl

theorem x_lld {k : Nat} {x : Int} (h : fx_op m pc = some (.lload k, p, t)) (hl : l[(k : Nat)]? = some (some (jL x))) (K : wp kc d m p l (jL x :: st) M Q) : wp kc d m pc l st M Q := by
  obtain ⟨hI, hn, hp, -, -, hk⟩ := fx_op_inv h
  have hp : p = pc + 2 := by
    have := Option.some.inj hn
    omega
  subst hp
  refine wp_sm hI rfl rfl (fun L hL => ?_) K
  show lx_ldl pc 2 k L _ _ = _
  unfold lx_ldl
  rw [hL k _ hl]
  rfl

theorem x_aldn {k : Fin 4} {x : Nat} (h : fx_op m pc = some (.aload_n k, p, t)) (hl : l[(k : Nat)]? = some (some (jR x))) (K : wp kc d m p l (jR x :: st) M Q) : wp kc d m pc l st M Q := by
  obtain ⟨hI, hn, hp, -, -, hk⟩ := fx_op_inv h
  have hp : p = pc + 1 := by
    have := Option.some.inj hn
    omega
  subst hp
  refine wp_sm hI rfl rfl (fun L hL => ?_) K
  show lx_lda pc 1 k L _ _ = _
  unfold lx_lda
  rw [hL k _ hl]
  rfl

theorem x_ald {k : Nat} {x : Nat} (h : fx_op m pc = some (.aload k, p, t)) (hl : l[(k : Nat)]? = some (some (jR x))) (K : wp kc d m p l (jR x :: st) M Q) : wp kc d m pc l st M Q := by
  obtain ⟨hI, hn, hp, -, -, hk⟩ := fx_op_inv h
  have hp : p = pc + 2 := by
    have := Option.some.inj hn
    omega
  subst hp
  refine wp_sm hI rfl rfl (fun L hL => ?_) K
  show lx_lda pc 2 k L _ _ = _
  unfold lx_lda
  rw [hL k _ hl]
  rfl

theorem x_istn {k : Fin 4} {x : Int} (h : fx_op m pc = some (.istore_n k, p, t)) (hl : fx_se l k (jI x) = l') (K : wp kc d m p l' st M Q) : wp kc d m pc l (jI x :: st) M Q := by
  obtain ⟨hI, hn, hp, -, -, hk⟩ := fx_op_inv h
  have hp : p = pc + 1 := by
    have := Option.some.inj hn
    omega
  subst hp
  subst hl
  refine wp_one hI rfl rfl (fun L hL => ⟨lx_s1 L k (.int (Int32.ofInt x)), fx_lo_s1 (v := jI x) hL (show (1 : Nat) ≠ 2 by decide), ?_⟩) K
  show lx_sti (xM m) pc 1 k L (fx_tv (jI x) :: st.map fx_tv) _ = _
  unfold lx_sti
  show (if k < xM m then _ else _) = _
  rw [if_pos (show k < xM m by have : k + 1 ≤ xM m := hk; omega)]

theorem x_ist {k : Nat} {x : Int} (h : fx_op m pc = some (.istore k, p, t)) (hl : fx_se l k (jI x) = l') (K : wp kc d m p l' st M Q) : wp kc d m pc l (jI x :: st) M Q := by
  obtain ⟨hI, hn, hp, -, -, hk⟩ := fx_op_inv h
  have hp : p = pc + 2 := by
    have := Option.some.inj hn
    omega
  subst hp
  subst hl
  refine wp_one hI rfl rfl (fun L hL => ⟨lx_s1 L k (.int (Int32.ofInt x)), fx_lo_s1 (v := jI x) hL (show (1 : Nat) ≠ 2 by decide), ?_⟩) K
  show lx_sti (xM m) pc 2 k L (fx_tv (jI x) :: st.map fx_tv) _ = _
  unfold lx_sti
  show (if k < xM m then _ else _) = _
  rw [if_pos (show k < xM m by have : k + 1 ≤ xM m := hk; omega)]

theorem x_lstn {k : Fin 4} {x : Int} (h : fx_op m pc = some (.lstore_n k, p, t)) (hl : fx_se l k (jL x) = l') (K : wp kc d m p l' st M Q) : wp kc d m pc l (jL x :: st) M Q := by
  obtain ⟨hI, hn, hp, -, -, hk⟩ := fx_op_inv h
  have hp : p = pc + 1 := by
    have := Option.some.inj hn
    omega
  subst hp
  subst hl
  refine wp_one hI rfl rfl (fun L hL => ⟨lx_s2 L k (.long (Int64.ofInt x)), fx_lo_s2 hL, ?_⟩) K
  show lx_stl (xM m) pc 1 k L (fx_tv (jL x) :: st.map fx_tv) _ = _
  unfold lx_stl
  show (if k + 1 < xM m then _ else _) = _
  rw [if_pos (show k + 1 < xM m by have : k + 2 ≤ xM m := hk; omega)]

theorem x_lst {k : Nat} {x : Int} (h : fx_op m pc = some (.lstore k, p, t)) (hl : fx_se l k (jL x) = l') (K : wp kc d m p l' st M Q) : wp kc d m pc l (jL x :: st) M Q := by
  obtain ⟨hI, hn, hp, -, -, hk⟩ := fx_op_inv h
  have hp : p = pc + 2 := by
    have := Option.some.inj hn
    omega
  subst hp
  subst hl
  refine wp_one hI rfl rfl (fun L hL => ⟨lx_s2 L k (.long (Int64.ofInt x)), fx_lo_s2 hL, ?_⟩) K
  show lx_stl (xM m) pc 2 k L (fx_tv (jL x) :: st.map fx_tv) _ = _
  unfold lx_stl
  show (if k + 1 < xM m then _ else _) = _
  rw [if_pos (show k + 1 < xM m by have : k + 2 ≤ xM m := hk; omega)]

theorem x_astn {k : Fin 4} {x : Nat} (h : fx_op m pc = some (.astore_n k, p, t)) (hl : fx_se l k (jR x) = l') (K : wp kc d m p l' st M Q) : wp kc d m pc l (jR x :: st) M Q := by
  obtain ⟨hI, hn, hp, -, -, hk⟩ := fx_op_inv h
  have hp : p = pc + 1 := by
    have := Option.some.inj hn
    omega
  subst hp
  subst hl
  refine wp_one hI rfl rfl (fun L hL => ⟨lx_s1 L k (.ref x), fx_lo_s1 (v := jR x) hL (show (1 : Nat) ≠ 2 by decide), ?_⟩) K
  show lx_sta (xM m) pc 1 k L (fx_tv (jR x) :: st.map fx_tv) _ = _
  unfold lx_sta
  show (if k < xM m then _ else _) = _
  rw [if_pos (show k < xM m by have : k + 1 ≤ xM m := hk; omega)]

theorem x_ast {k : Nat} {x : Nat} (h : fx_op m pc = some (.astore k, p, t)) (hl : fx_se l k (jR x) = l') (K : wp kc d m p l' st M Q) : wp kc d m pc l (jR x :: st) M Q := by
  obtain ⟨hI, hn, hp, -, -, hk⟩ := fx_op_inv h
  have hp : p = pc + 2 := by
    have := Option.some.inj hn
    omega
  subst hp
  subst hl
  refine wp_one hI rfl rfl (fun L hL => ⟨lx_s1 L k (.ref x), fx_lo_s1 (v := jR x) hL (show (1 : Nat) ≠ 2 by decide), ?_⟩) K
  show lx_sta (xM m) pc 2 k L (fx_tv (jR x) :: st.map fx_tv) _ = _
  unfold lx_sta
  show (if k < xM m then _ else _) = _
  rw [if_pos (show k < xM m by have : k + 1 ≤ xM m := hk; omega)]

theorem x_inc {k : Nat} {n x : Int} (h : fx_op m pc = some (.iinc k n, p, t)) (hx : l[k]? = some (some (jI x))) (hl : fx_se l k (jI (x + n)) = l') (K : wp kc d m p l' st M Q) : wp kc d m pc l st M Q := by
  obtain ⟨hI, hn, hp, -, -, hk⟩ := fx_op_inv h
  have hp : p = pc + 3 := by
    have := Option.some.inj hn
    omega
  subst hp
  subst hl
  refine wp_one hI rfl rfl (fun L hL => ⟨lx_s1 L k (.int (Int32.ofInt (x + n))), fx_lo_s1 (v := jI (x + n)) hL (show (1 : Nat) ≠ 2 by decide), ?_⟩) K
  show lx_inc (xM m) pc k n L _ _ = _
  unfold lx_inc
  rw [hL k _ hx]
  show (if k < xM m then _ else _) = _
  rw [if_pos (show k < xM m from hk), Int32.ofInt_add]

noncomputable def fx_ci (m pc : Nat) : Option (Int × Nat) := match fx_op m pc with
  | some (.iconst n, p, _) => some (n, p)
  | some (.bipush n, p, _) => some ((Int8.ofInt n).toInt32.toInt, p)
  | some (.sipush n, p, _) => some ((Int16.ofInt n).toInt32.toInt, p)
  | some (.ldc idx, p, _) => match xD m idx with
    | some (.int v) => some (v.toInt, p)
    | _ => none
  | some (.ldc_w idx, p, _) => match xD m idx with
    | some (.int v) => some (v.toInt, p)
    | _ => none
  | some (.getstatic idx, p, _) => match xG m idx with
    | some (.int v) => some (v.toInt, p)
    | _ => none
  | _ => none
noncomputable def fx_cj (m pc : Nat) : Option (Int × Nat) := match fx_op m pc with
  | some (.lconst n, p, _) => some ((n : Nat), p)
  | some (.ldc2_w idx, p, _) => match xD m idx with
    | some (.long v) => some (v.toInt, p)
    | _ => none
  | _ => none
noncomputable def fx_cr (m pc : Nat) : Option (Nat × Nat) := match fx_op m pc with
  | some (.ldc idx, p, _) => match xD m idx with
    | some (.ref v) => some (v, p)
    | _ => none
  | some (.ldc_w idx, p, _) => match xD m idx with
    | some (.ref v) => some (v, p)
    | _ => none
  | some (.getstatic idx, p, _) => match xG m idx with
    | some (.ref v) => some (v, p)
    | _ => none
  | _ => none
theorem x_ci {n : Int} (h : fx_ci m pc = some (n, p)) (K : wp kc d m p l (jI n :: st) M Q) : wp kc d m pc l st M Q := by
  unfold fx_ci at h
  split at h
  · next n' p' t' ho =>
    cases h
    obtain ⟨hI, hn, hp, -, -, hk⟩ := fx_op_inv ho
    have := Option.some.inj hn
    have hp : p = pc + 1 := by omega
    subst hp
    exact wp_sm hI rfl rfl (fun L hL => rfl) K
  · next n' p' t' ho =>
    cases h
    obtain ⟨hI, hn, hp, -, -, hk⟩ := fx_op_inv ho
    have := Option.some.inj hn
    have hp : p = pc + 2 := by omega
    subst hp
    refine wp_sm hI rfl rfl (fun L hL => ?_) K
    show some (pc + 2, L, Value.int _ :: _, _) = some (pc + 2, L, Value.int (Int32.ofInt _) :: _, _)
    rw [Int32.ofInt_toInt]
  · next n' p' t' ho =>
    cases h
    obtain ⟨hI, hn, hp, -, -, hk⟩ := fx_op_inv ho
    have := Option.some.inj hn
    have hp : p = pc + 3 := by omega
    subst hp
    refine wp_sm hI rfl rfl (fun L hL => ?_) K
    show some (pc + 3, L, Value.int _ :: _, _) = some (pc + 3, L, Value.int (Int32.ofInt _) :: _, _)
    rw [Int32.ofInt_toInt]
  · next idx p' t' ho =>
    split at h
    · next v hv =>
      cases h
      obtain ⟨hI, hn, hp, -, -, hk⟩ := fx_op_inv ho
      have := Option.some.inj hn
      have hp : p = pc + 2 := by omega
      subst hp
      refine wp_sm hI rfl rfl (fun L hL => ?_) K
      show lx_ps1 (xD m idx) pc 2 L _ _ = _
      rw [hv]
      show some (pc + 2, L, Value.int _ :: _, _) = some (pc + 2, L, Value.int (Int32.ofInt _) :: _, _)
      rw [Int32.ofInt_toInt]
    · cases h
  · next idx p' t' ho =>
    split at h
    · next v hv =>
      cases h
      obtain ⟨hI, hn, hp, -, -, hk⟩ := fx_op_inv ho
      have := Option.some.inj hn
      have hp : p = pc + 3 := by omega
      subst hp
      refine wp_sm hI rfl rfl (fun L hL => ?_) K
      show lx_ps1 (xD m idx) pc 3 L _ _ = _
      rw [hv]
      show some (pc + 3, L, Value.int _ :: _, _) = some (pc + 3, L, Value.int (Int32.ofInt _) :: _, _)
      rw [Int32.ofInt_toInt]
    · cases h
  · next idx p' t' ho =>
    split at h
    · next v hv =>
      cases h
      obtain ⟨hI, hn, hp, -, -, hk⟩ := fx_op_inv ho
      have := Option.some.inj hn
      have hp : p = pc + 3 := by omega
      subst hp
      refine wp_sm hI rfl rfl (fun L hL => ?_) K
      show lx_psh (xG m idx) pc 3 L _ _ = _
      rw [hv]
      show some (pc + 3, L, Value.int _ :: _, _) = some (pc + 3, L, Value.int (Int32.ofInt _) :: _, _)
      rw [Int32.ofInt_toInt]
    · cases h
  · cases h
theorem x_cj {n : Int} (h : fx_cj m pc = some (n, p)) (K : wp kc d m p l (jL n :: st) M Q) : wp kc d m pc l st M Q := by
  unfold fx_cj at h
  split at h
  · next n' p' t' ho =>
    cases h
    obtain ⟨hI, hn, hp, -, -, hk⟩ := fx_op_inv ho
    have := Option.some.inj hn
    have hp : p = pc + 1 := by omega
    subst hp
    refine wp_sm hI rfl rfl (fun L hL => ?_) K
    show some (pc + 1, L, Value.long (Int64.ofNat _) :: _, _) = some (pc + 1, L, Value.long (Int64.ofInt _) :: _, _)
    rw [Int64.ofInt_eq_ofNat]
  · next idx p' t' ho =>
    split at h
    · next v hv =>
      cases h
      obtain ⟨hI, hn, hp, -, -, hk⟩ := fx_op_inv ho
      have := Option.some.inj hn
      have hp : p = pc + 3 := by omega
      subst hp
      refine wp_sm hI rfl rfl (fun L hL => ?_) K
      show lx_ps2 (xD m idx) pc 3 L _ _ = _
      rw [hv]
      show some (pc + 3, L, Value.long _ :: _, _) = some (pc + 3, L, Value.long (Int64.ofInt _) :: _, _)
      rw [Int64.ofInt_toInt]
    · cases h
  · cases h
theorem x_cr {a : Nat} (h : fx_cr m pc = some (a, p)) (K : wp kc d m p l (jR a :: st) M Q) : wp kc d m pc l st M Q := by
  unfold fx_cr at h
  split at h
  · next idx p' t' ho =>
    split at h
    · next v hv =>
      cases h
      obtain ⟨hI, hn, hp, -, -, hk⟩ := fx_op_inv ho
      have := Option.some.inj hn
      have hp : p = pc + 2 := by omega
      subst hp
      refine wp_sm hI rfl rfl (fun L hL => ?_) K
      show lx_ps1 (xD m idx) pc 2 L _ _ = _
      rw [hv]
      rfl
    · cases h
  · next idx p' t' ho =>
    split at h
    · next v hv =>
      cases h
      obtain ⟨hI, hn, hp, -, -, hk⟩ := fx_op_inv ho
      have := Option.some.inj hn
      have hp : p = pc + 3 := by omega
      subst hp
      refine wp_sm hI rfl rfl (fun L hL => ?_) K
      show lx_ps1 (xD m idx) pc 3 L _ _ = _
      rw [hv]
      rfl
    · cases h
  · next idx p' t' ho =>
    split at h
    · next v hv =>
      cases h
      obtain ⟨hI, hn, hp, -, -, hk⟩ := fx_op_inv ho
      have := Option.some.inj hn
      have hp : p = pc + 3 := by omega
      subst hp
      refine wp_sm hI rfl rfl (fun L hL => ?_) K
      show lx_psh (xG m idx) pc 3 L _ _ = _
      rw [hv]
      rfl
    · cases h
  · cases h
theorem x_iadd {x y : Int} (h : fx_op m pc = some (.iadd, p, t)) (K : wp kc d m p l (jI (x + y) :: st) M Q) : wp kc d m pc l (jI y :: jI x :: st) M Q := by
  obtain ⟨hI, hn, hp, -, -, hk⟩ := fx_op_inv h
  have hp : p = pc + 1 := by
    have := Option.some.inj hn
    omega
  subst hp
  refine wp_sm hI rfl rfl (fun L hL => ?_) K
  show some (pc + 1, L, Value.int _ :: _, _) = some (pc + 1, L, Value.int (Int32.ofInt _) :: _, _)
  rw [Int32.ofInt_add]

theorem x_ladd {x y : Int} (h : fx_op m pc = some (.ladd, p, t)) (K : wp kc d m p l (jL (x + y) :: st) M Q) : wp kc d m pc l (jL y :: jL x :: st) M Q := by
  obtain ⟨hI, hn, hp, -, -, hk⟩ := fx_op_inv h
  have hp : p = pc + 1 := by
    have := Option.some.inj hn
    omega
  subst hp
  refine wp_sm hI rfl rfl (fun L hL => ?_) K
  show some (pc + 1, L, Value.long _ :: _, _) = some (pc + 1, L, Value.long (Int64.ofInt _) :: _, _)
  rw [Int64.ofInt_add]

theorem x_isub {x y : Int} (h : fx_op m pc = some (.isub, p, t)) (K : wp kc d m p l (jI (x - y) :: st) M Q) : wp kc d m pc l (jI y :: jI x :: st) M Q := by
  obtain ⟨hI, hn, hp, -, -, hk⟩ := fx_op_inv h
  have hp : p = pc + 1 := by
    have := Option.some.inj hn
    omega
  subst hp
  refine wp_sm hI rfl rfl (fun L hL => ?_) K
  show some (pc + 1, L, Value.int _ :: _, _) = some (pc + 1, L, Value.int (Int32.ofInt _) :: _, _)
  rw [Int32.ofInt_sub]

theorem x_lsub {x y : Int} (h : fx_op m pc = some (.lsub, p, t)) (K : wp kc d m p l (jL (x - y) :: st) M Q) : wp kc d m pc l (jL y :: jL x :: st) M Q := by
  obtain ⟨hI, hn, hp, -, -, hk⟩ := fx_op_inv h
  have hp : p = pc + 1 := by
    have := Option.some.inj hn
    omega
  subst hp
  refine wp_sm hI rfl rfl (fun L hL => ?_) K
  show some (pc + 1, L, Value.long _ :: _, _) = some (pc + 1, L, Value.long (Int64.ofInt _) :: _, _)
  rw [Int64.ofInt_sub]

theorem x_imul {x y : Int} (h : fx_op m pc = some (.imul, p, t)) (K : wp kc d m p l (jI (x * y) :: st) M Q) : wp kc d m pc l (jI y :: jI x :: st) M Q := by
  obtain ⟨hI, hn, hp, -, -, hk⟩ := fx_op_inv h
  have hp : p = pc + 1 := by
    have := Option.some.inj hn
    omega
  subst hp
  refine wp_sm hI rfl rfl (fun L hL => ?_) K
  show some (pc + 1, L, Value.int _ :: _, _) = some (pc + 1, L, Value.int (Int32.ofInt _) :: _, _)
  rw [Int32.ofInt_mul]

theorem x_lmul {x y : Int} (h : fx_op m pc = some (.lmul, p, t)) (K : wp kc d m p l (jL (x * y) :: st) M Q) : wp kc d m pc l (jL y :: jL x :: st) M Q := by
  obtain ⟨hI, hn, hp, -, -, hk⟩ := fx_op_inv h
  have hp : p = pc + 1 := by
    have := Option.some.inj hn
    omega
  subst hp
  refine wp_sm hI rfl rfl (fun L hL => ?_) K
  show some (pc + 1, L, Value.long _ :: _, _) = some (pc + 1, L, Value.long (Int64.ofInt _) :: _, _)
  rw [Int64.ofInt_mul]

theorem x_iand {x y : Int} (h : fx_op m pc = some (.iand, p, t)) (K : wp kc d m p l (jI (fx_and x y) :: st) M Q) : wp kc d m pc l (jI y :: jI x :: st) M Q := by
  obtain ⟨hI, hn, hp, -, -, hk⟩ := fx_op_inv h
  have hp : p = pc + 1 := by
    have := Option.some.inj hn
    omega
  subst hp
  refine wp_sm hI rfl rfl (fun L hL => ?_) K
  show some (pc + 1, L, Value.int _ :: _, _) = some (pc + 1, L, Value.int (Int32.ofInt _) :: _, _)
  rw [fx_and, Int32.ofInt_toInt]

theorem x_ior {x y : Int} (h : fx_op m pc = some (.ior, p, t)) (K : wp kc d m p l (jI (fx_or x y) :: st) M Q) : wp kc d m pc l (jI y :: jI x :: st) M Q := by
  obtain ⟨hI, hn, hp, -, -, hk⟩ := fx_op_inv h
  have hp : p = pc + 1 := by
    have := Option.some.inj hn
    omega
  subst hp
  refine wp_sm hI rfl rfl (fun L hL => ?_) K
  show some (pc + 1, L, Value.int _ :: _, _) = some (pc + 1, L, Value.int (Int32.ofInt _) :: _, _)
  rw [fx_or, Int32.ofInt_toInt]

theorem x_ixor {x y : Int} (h : fx_op m pc = some (.ixor, p, t)) (K : wp kc d m p l (jI (fx_xor x y) :: st) M Q) : wp kc d m pc l (jI y :: jI x :: st) M Q := by
  obtain ⟨hI, hn, hp, -, -, hk⟩ := fx_op_inv h
  have hp : p = pc + 1 := by
    have := Option.some.inj hn
    omega
  subst hp
  refine wp_sm hI rfl rfl (fun L hL => ?_) K
  show some (pc + 1, L, Value.int _ :: _, _) = some (pc + 1, L, Value.int (Int32.ofInt _) :: _, _)
  rw [fx_xor, Int32.ofInt_toInt]

theorem x_ishl {x y : Int} (h : fx_op m pc = some (.ishl, p, t)) (K : wp kc d m p l (jI (fx_shl x y) :: st) M Q) : wp kc d m pc l (jI y :: jI x :: st) M Q := by
  obtain ⟨hI, hn, hp, -, -, hk⟩ := fx_op_inv h
  have hp : p = pc + 1 := by
    have := Option.some.inj hn
    omega
  subst hp
  refine wp_sm hI rfl rfl (fun L hL => ?_) K
  show some (pc + 1, L, Value.int _ :: _, _) = some (pc + 1, L, Value.int (Int32.ofInt _) :: _, _)
  rw [fx_shl, Int32.ofInt_toInt]

theorem x_ishr {x y : Int} (h : fx_op m pc = some (.ishr, p, t)) (K : wp kc d m p l (jI (fx_shr x y) :: st) M Q) : wp kc d m pc l (jI y :: jI x :: st) M Q := by
  obtain ⟨hI, hn, hp, -, -, hk⟩ := fx_op_inv h
  have hp : p = pc + 1 := by
    have := Option.some.inj hn
    omega
  subst hp
  refine wp_sm hI rfl rfl (fun L hL => ?_) K
  show some (pc + 1, L, Value.int _ :: _, _) = some (pc + 1, L, Value.int (Int32.ofInt _) :: _, _)
  rw [fx_shr, Int32.ofInt_toInt]

theorem x_iushr {x y : Int} (h : fx_op m pc = some (.iushr, p, t)) (K : wp kc d m p l (jI (fx_ushr x y) :: st) M Q) : wp kc d m pc l (jI y :: jI x :: st) M Q := by
  obtain ⟨hI, hn, hp, -, -, hk⟩ := fx_op_inv h
  have hp : p = pc + 1 := by
    have := Option.some.inj hn
    omega
  subst hp
  refine wp_sm hI rfl rfl (fun L hL => ?_) K
  show some (pc + 1, L, Value.int _ :: _, _) = some (pc + 1, L, Value.int (Int32.ofInt _) :: _, _)
  rw [fx_ushr, Int32.ofInt_toInt]

theorem x_land {x y : Int} (h : fx_op m pc = some (.land, p, t)) (K : wp kc d m p l (jL (fx_land x y) :: st) M Q) : wp kc d m pc l (jL y :: jL x :: st) M Q := by
  obtain ⟨hI, hn, hp, -, -, hk⟩ := fx_op_inv h
  have hp : p = pc + 1 := by
    have := Option.some.inj hn
    omega
  subst hp
  refine wp_sm hI rfl rfl (fun L hL => ?_) K
  show some (pc + 1, L, Value.long _ :: _, _) = some (pc + 1, L, Value.long (Int64.ofInt _) :: _, _)
  rw [fx_land, Int64.ofInt_toInt]

theorem x_lor {x y : Int} (h : fx_op m pc = some (.lor, p, t)) (K : wp kc d m p l (jL (fx_lor x y) :: st) M Q) : wp kc d m pc l (jL y :: jL x :: st) M Q := by
  obtain ⟨hI, hn, hp, -, -, hk⟩ := fx_op_inv h
  have hp : p = pc + 1 := by
    have := Option.some.inj hn
    omega
  subst hp
  refine wp_sm hI rfl rfl (fun L hL => ?_) K
  show some (pc + 1, L, Value.long _ :: _, _) = some (pc + 1, L, Value.long (Int64.ofInt _) :: _, _)
  rw [fx_lor, Int64.ofInt_toInt]

theorem x_lxor {x y : Int} (h : fx_op m pc = some (.lxor, p, t)) (K : wp kc d m p l (jL (fx_lxor x y) :: st) M Q) : wp kc d m pc l (jL y :: jL x :: st) M Q := by
  obtain ⟨hI, hn, hp, -, -, hk⟩ := fx_op_inv h
  have hp : p = pc + 1 := by
    have := Option.some.inj hn
    omega
  subst hp
  refine wp_sm hI rfl rfl (fun L hL => ?_) K
  show some (pc + 1, L, Value.long _ :: _, _) = some (pc + 1, L, Value.long (Int64.ofInt _) :: _, _)
  rw [fx_lxor, Int64.ofInt_toInt]

theorem x_lshl {x y : Int} (h : fx_op m pc = some (.lshl, p, t)) (K : wp kc d m p l (jL (fx_lshl x y) :: st) M Q) : wp kc d m pc l (jI y :: jL x :: st) M Q := by
  obtain ⟨hI, hn, hp, -, -, hk⟩ := fx_op_inv h
  have hp : p = pc + 1 := by
    have := Option.some.inj hn
    omega
  subst hp
  refine wp_sm hI rfl rfl (fun L hL => ?_) K
  show some (pc + 1, L, Value.long _ :: _, _) = some (pc + 1, L, Value.long (Int64.ofInt _) :: _, _)
  rw [fx_lshl, Int64.ofInt_toInt]

theorem x_lshr {x y : Int} (h : fx_op m pc = some (.lshr, p, t)) (K : wp kc d m p l (jL (fx_lshr x y) :: st) M Q) : wp kc d m pc l (jI y :: jL x :: st) M Q := by
  obtain ⟨hI, hn, hp, -, -, hk⟩ := fx_op_inv h
  have hp : p = pc + 1 := by
    have := Option.some.inj hn
    omega
  subst hp
  refine wp_sm hI rfl rfl (fun L hL => ?_) K
  show some (pc + 1, L, Value.long _ :: _, _) = some (pc + 1, L, Value.long (Int64.ofInt _) :: _, _)
  rw [fx_lshr, Int64.ofInt_toInt]

theorem x_lushr {x y : Int} (h : fx_op m pc = some (.lushr, p, t)) (K : wp kc d m p l (jL (fx_lushr x y) :: st) M Q) : wp kc d m pc l (jI y :: jL x :: st) M Q := by
  obtain ⟨hI, hn, hp, -, -, hk⟩ := fx_op_inv h
  have hp : p = pc + 1 := by
    have := Option.some.inj hn
    omega
  subst hp
  refine wp_sm hI rfl rfl (fun L hL => ?_) K
  show some (pc + 1, L, Value.long _ :: _, _) = some (pc + 1, L, Value.long (Int64.ofInt _) :: _, _)
  rw [fx_lushr, Int64.ofInt_toInt]

theorem x_ineg {x : Int} (h : fx_op m pc = some (.ineg, p, t)) (K : wp kc d m p l (jI (-x) :: st) M Q) : wp kc d m pc l (jI x :: st) M Q := by
  obtain ⟨hI, hn, hp, -, -, hk⟩ := fx_op_inv h
  have hp : p = pc + 1 := by
    have := Option.some.inj hn
    omega
  subst hp
  refine wp_sm hI rfl rfl (fun L hL => ?_) K
  show some (pc + 1, L, Value.int _ :: _, _) = some (pc + 1, L, Value.int (Int32.ofInt _) :: _, _)
  rw [Int32.ofInt_neg]
theorem x_i2l {x : Int} (h : fx_op m pc = some (.i2l, p, t)) (hx : fx_in32 x) (K : wp kc d m p l (jL x :: st) M Q) : wp kc d m pc l (jI x :: st) M Q := by
  obtain ⟨hI, hn, hp, -, -, hk⟩ := fx_op_inv h
  have hp : p = pc + 1 := by
    have := Option.some.inj hn
    omega
  subst hp
  refine wp_sm hI rfl rfl (fun L hL => ?_) K
  show some (pc + 1, L, Value.long _ :: _, _) = some (pc + 1, L, Value.long (Int64.ofInt _) :: _, _)
  rw [← Int32.toInt64_ofInt (by rw [fx_min32]; omega) (by rw [fx_max32]; omega)]
theorem x_l2i {x : Int} (h : fx_op m pc = some (.l2i, p, t)) (K : wp kc d m p l (jI x :: st) M Q) : wp kc d m pc l (jL x :: st) M Q := by
  obtain ⟨hI, hn, hp, -, -, hk⟩ := fx_op_inv h
  have hp : p = pc + 1 := by
    have := Option.some.inj hn
    omega
  subst hp
  refine wp_sm hI rfl rfl (fun L hL => ?_) K
  show some (pc + 1, L, Value.int _ :: _, _) = some (pc + 1, L, Value.int (Int32.ofInt _) :: _, _)
  rw [← Int64.toInt32_ofInt]
theorem fx_i2c (x : Int) : ((Int32.ofInt x).toUInt32 % 65536).toInt32 = Int32.ofInt (x % 65536) := by
  apply Int32.toInt_inj.mp
  rw [fx_to ⟨by omega, by omega⟩]
  show (((Int32.ofInt x).toUInt32 % 65536).toBitVec).toInt = _
  have h1 : (((Int32.ofInt x).toUInt32 % 65536).toBitVec).toNat = (x % 65536).toNat := by
    show ((Int32.ofInt x).toUInt32 % 65536).toNat = _
    rw [UInt32.toNat_mod]
    show (BitVec.ofInt 32 x).toNat % 65536 = _
    rw [BitVec.toNat_ofInt]
    omega
  rw [BitVec.toInt_eq_toNat_cond, h1, if_pos (by omega)]
  omega
theorem x_i2c {x : Int} (h : fx_op m pc = some (.i2c, p, t)) (K : wp kc d m p l (jI (x % 65536) :: st) M Q) : wp kc d m pc l (jI x :: st) M Q := by
  obtain ⟨hI, hn, hp, -, -, hk⟩ := fx_op_inv h
  have hp : p = pc + 1 := by
    have := Option.some.inj hn
    omega
  subst hp
  refine wp_sm hI rfl rfl (fun L hL => ?_) K
  show some (pc + 1, L, Value.int _ :: _, _) = some (pc + 1, L, Value.int (Int32.ofInt _) :: _, _)
  rw [← fx_i2c]
theorem x_idiv {x y : Int} (h : fx_op m pc = some (.idiv, p, t)) (hx : 0 ≤ x ∧ x ≤ 2147483647) (hy : 0 < y ∧ y ≤ 2147483647) (K : wp kc d m p l (jI (x / y) :: st) M Q) : wp kc d m pc l (jI y :: jI x :: st) M Q := by
  obtain ⟨hI, hn, hp, -, -, hk⟩ := fx_op_inv h
  have hp : p = pc + 1 := by
    have := Option.some.inj hn
    omega
  subst hp
  refine wp_sm hI rfl rfl (fun L hL => ?_) K
  show (if Int32.ofInt y = 0 then none else some (pc + 1, L, Value.int (Int32.ofInt x / Int32.ofInt y) :: _, _)) = some (pc + 1, L, Value.int (Int32.ofInt _) :: _, _)
  rw [if_neg (by rw [show (0 : Int32) = Int32.ofInt 0 from rfl, fx_eq ⟨by omega, by omega⟩ ⟨by omega, by omega⟩]; omega), ← Int.tdiv_eq_ediv_of_nonneg hx.1, Int32.ofInt_tdiv (by rw [fx_min32]; omega) (by rw [fx_max32]; omega) (by rw [fx_min32]; omega) (by rw [fx_max32]; omega)]
theorem x_irem {x y : Int} (h : fx_op m pc = some (.irem, p, t)) (hx : 0 ≤ x ∧ x ≤ 2147483647) (hy : 0 < y ∧ y ≤ 2147483647) (K : wp kc d m p l (jI (x % y) :: st) M Q) : wp kc d m pc l (jI y :: jI x :: st) M Q := by
  obtain ⟨hI, hn, hp, -, -, hk⟩ := fx_op_inv h
  have hp : p = pc + 1 := by
    have := Option.some.inj hn
    omega
  subst hp
  refine wp_sm hI rfl rfl (fun L hL => ?_) K
  show (if Int32.ofInt y = 0 then none else some (pc + 1, L, Value.int (Int32.ofInt x - Int32.ofInt x / Int32.ofInt y * Int32.ofInt y) :: _, _)) = some (pc + 1, L, Value.int (Int32.ofInt _) :: _, _)
  rw [if_neg (by rw [show (0 : Int32) = Int32.ofInt 0 from rfl, fx_eq ⟨by omega, by omega⟩ ⟨by omega, by omega⟩]; omega), ← Int32.ofInt_tdiv (by rw [fx_min32]; omega) (by rw [fx_max32]; omega) (by rw [fx_min32]; omega) (by rw [fx_max32]; omega), ← Int32.ofInt_mul, ← Int32.ofInt_sub, Int.tdiv_eq_ediv_of_nonneg hx.1, Int.emod_def, Int.mul_comm]
theorem x_lrem {x y : Int} (h : fx_op m pc = some (.lrem, p, t)) (hx : 0 ≤ x ∧ x ≤ 9223372036854775807) (hy : 0 < y ∧ y ≤ 9223372036854775807) (K : wp kc d m p l (jL (x % y) :: st) M Q) : wp kc d m pc l (jL y :: jL x :: st) M Q := by
  obtain ⟨hI, hn, hp, -, -, hk⟩ := fx_op_inv h
  have hp : p = pc + 1 := by
    have := Option.some.inj hn
    omega
  subst hp
  refine wp_sm hI rfl rfl (fun L hL => ?_) K
  show (if Int64.ofInt y = 0 then none else some (pc + 1, L, Value.long (Int64.ofInt x - Int64.ofInt x / Int64.ofInt y * Int64.ofInt y) :: _, _)) = some (pc + 1, L, Value.long (Int64.ofInt _) :: _, _)
  rw [if_neg (by rw [show (0 : Int64) = Int64.ofInt 0 from rfl, fx_eq64 ⟨by omega, by omega⟩ ⟨by omega, by omega⟩]; omega), ← Int64.ofInt_tdiv (by rw [fx_min64]; omega) (by rw [fx_max64]; omega) (by rw [fx_min64]; omega) (by rw [fx_max64]; omega), ← Int64.ofInt_mul, ← Int64.ofInt_sub, Int.tdiv_eq_ediv_of_nonneg hx.1, Int.emod_def, Int.mul_comm]
theorem x_lcmp {x y : Int} (h : fx_op m pc = some (.lcmp, p, t)) (hx : fx_in64 x) (hy : fx_in64 y) (K : wp kc d m p l (jI (fx_cmp x y) :: st) M Q) : wp kc d m pc l (jL y :: jL x :: st) M Q := by
  obtain ⟨hI, hn, hp, -, -, hk⟩ := fx_op_inv h
  have hp : p = pc + 1 := by
    have := Option.some.inj hn
    omega
  subst hp
  refine wp_sm hI rfl rfl (fun L hL => ?_) K
  show some (pc + 1, L, Value.int (lg_cmp (Int64.ofInt x) (Int64.ofInt y)) :: _, _) = some (pc + 1, L, Value.int (Int32.ofInt _) :: _, _)
  have e : lg_cmp (Int64.ofInt x) (Int64.ofInt y) = Int32.ofInt (fx_cmp x y) := by
    unfold lg_cmp fx_cmp
    have h1 : Int64.ofInt x > Int64.ofInt y ↔ y < x := Int64.ofInt_lt_iff_lt (by rw [fx_min64]; omega) (by rw [fx_max64]; omega) (by rw [fx_min64]; omega) (by rw [fx_max64]; omega)
    have h2 := fx_eq64 hx hy
    by_cases c1 : y < x
    · rw [if_pos (h1.mpr c1), if_pos c1]
      rfl
    · rw [if_neg (fun h => c1 (h1.mp h)), if_neg c1]
      by_cases c2 : x = y
      · rw [if_pos (h2.mpr c2), if_pos c2]
        rfl
      · rw [if_neg (fun h => c2 (h2.mp h)), if_neg c2]
        rfl
  rw [e]

theorem wp_br {i : Instr} {b : Bool} {off : Int} {st1 : List fx_V} (hI : xI m pc = some i) (hret : lx_ret m i (st.map fx_tv) = none) (hS : xS m i = none) (hstep : ∀ L, lx_ins kc m pc i L (st.map fx_tv) (fx_hp M) = lx_br b pc off L (st1.map fx_tv) (fx_hp M)) (h0 : 0 ≤ (pc : Int) + off) (K1 : b = true → wp kc d m ((pc : Int) + off).toNat l st1 M Q) (K2 : b = false → wp kc d m (pc + 3) l st1 M Q) : wp kc d m pc l st M Q := by
  cases hb : b with
  | true =>
    refine wp_sm hI hret hS (fun L hL => ?_) (K1 hb)
    rw [hstep, hb]
    unfold lx_br
    rw [if_pos h0, if_pos rfl]
  | false =>
    refine wp_sm hI hret hS (fun L hL => ?_) (K2 hb)
    rw [hstep, hb]
    unfold lx_br
    rw [if_pos h0, if_neg (by decide)]

theorem x_ceq {x y o : Int} (h : fx_op m pc = some (.if_icmp .eq o, p, t)) (hx : fx_in32 x) (hy : fx_in32 y) (K1 : x = y → wp kc d m t l st M Q) (K2 : x ≠ y → wp kc d m p l st M Q) : wp kc d m pc l (jI y :: jI x :: st) M Q := by
  obtain ⟨hI, hn, hp, h0, ht, hk⟩ := fx_op_inv h
  have hp : p = pc + 3 := by
    have := Option.some.inj hn
    omega
  subst hp
  subst ht
  have E := fx_eq hx hy
  exact wp_br (b := decide (Int32.ofInt x = Int32.ofInt y)) (st1 := st) hI rfl rfl (fun L => rfl) h0 (fun hb => K1 (E.mp (of_decide_eq_true hb))) (fun hb => K2 (fun h => of_decide_eq_false hb (E.mpr h)))
theorem x_zeq {x o : Int} (h : fx_op m pc = some (.ifCond .eq o, p, t)) (hx : fx_in32 x) (K1 : x = 0 → wp kc d m t l st M Q) (K2 : x ≠ 0 → wp kc d m p l st M Q) : wp kc d m pc l (jI x :: st) M Q := by
  obtain ⟨hI, hn, hp, h0, ht, hk⟩ := fx_op_inv h
  have hp : p = pc + 3 := by
    have := Option.some.inj hn
    omega
  subst hp
  subst ht
  have hy : fx_in32 0 := by decide
  have E := fx_eq hx hy
  exact wp_br (b := decide (Int32.ofInt x = Int32.ofInt 0)) (st1 := st) hI rfl rfl (fun L => rfl) h0 (fun hb => K1 (E.mp (of_decide_eq_true hb))) (fun hb => K2 (fun h => of_decide_eq_false hb (E.mpr h)))
theorem x_cne {x y o : Int} (h : fx_op m pc = some (.if_icmp .ne o, p, t)) (hx : fx_in32 x) (hy : fx_in32 y) (K1 : x ≠ y → wp kc d m t l st M Q) (K2 : x = y → wp kc d m p l st M Q) : wp kc d m pc l (jI y :: jI x :: st) M Q := by
  obtain ⟨hI, hn, hp, h0, ht, hk⟩ := fx_op_inv h
  have hp : p = pc + 3 := by
    have := Option.some.inj hn
    omega
  subst hp
  subst ht
  have E := fx_eq hx hy
  exact wp_br (b := !decide (Int32.ofInt x = Int32.ofInt y)) (st1 := st) hI rfl rfl (fun L => rfl) h0 (fun hb => K1 (fun h => by rw [E.mpr h] at hb; simp at hb)) (fun hb => K2 (E.mp (by simpa using hb)))
theorem x_zne {x o : Int} (h : fx_op m pc = some (.ifCond .ne o, p, t)) (hx : fx_in32 x) (K1 : x ≠ 0 → wp kc d m t l st M Q) (K2 : x = 0 → wp kc d m p l st M Q) : wp kc d m pc l (jI x :: st) M Q := by
  obtain ⟨hI, hn, hp, h0, ht, hk⟩ := fx_op_inv h
  have hp : p = pc + 3 := by
    have := Option.some.inj hn
    omega
  subst hp
  subst ht
  have hy : fx_in32 0 := by decide
  have E := fx_eq hx hy
  exact wp_br (b := !decide (Int32.ofInt x = Int32.ofInt 0)) (st1 := st) hI rfl rfl (fun L => rfl) h0 (fun hb => K1 (fun h => by rw [E.mpr h] at hb; simp at hb)) (fun hb => K2 (E.mp (by simpa using hb)))
theorem x_clt {x y o : Int} (h : fx_op m pc = some (.if_icmp .lt o, p, t)) (hx : fx_in32 x) (hy : fx_in32 y) (K1 : x < y → wp kc d m t l st M Q) (K2 : y ≤ x → wp kc d m p l st M Q) : wp kc d m pc l (jI y :: jI x :: st) M Q := by
  obtain ⟨hI, hn, hp, h0, ht, hk⟩ := fx_op_inv h
  have hp : p = pc + 3 := by
    have := Option.some.inj hn
    omega
  subst hp
  subst ht
  have E := fx_lt hx hy
  exact wp_br (b := decide (Int32.ofInt x < Int32.ofInt y)) (st1 := st) hI rfl rfl (fun L => rfl) h0 (fun hb => K1 (E.mp (of_decide_eq_true hb))) (fun hb => K2 (by have := of_decide_eq_false hb; rw [E] at this; omega))
theorem x_zlt {x o : Int} (h : fx_op m pc = some (.ifCond .lt o, p, t)) (hx : fx_in32 x) (K1 : x < 0 → wp kc d m t l st M Q) (K2 : 0 ≤ x → wp kc d m p l st M Q) : wp kc d m pc l (jI x :: st) M Q := by
  obtain ⟨hI, hn, hp, h0, ht, hk⟩ := fx_op_inv h
  have hp : p = pc + 3 := by
    have := Option.some.inj hn
    omega
  subst hp
  subst ht
  have hy : fx_in32 0 := by decide
  have E := fx_lt hx hy
  exact wp_br (b := decide (Int32.ofInt x < Int32.ofInt 0)) (st1 := st) hI rfl rfl (fun L => rfl) h0 (fun hb => K1 (E.mp (of_decide_eq_true hb))) (fun hb => K2 (by have := of_decide_eq_false hb; rw [E] at this; omega))
theorem x_cge {x y o : Int} (h : fx_op m pc = some (.if_icmp .ge o, p, t)) (hx : fx_in32 x) (hy : fx_in32 y) (K1 : y ≤ x → wp kc d m t l st M Q) (K2 : x < y → wp kc d m p l st M Q) : wp kc d m pc l (jI y :: jI x :: st) M Q := by
  obtain ⟨hI, hn, hp, h0, ht, hk⟩ := fx_op_inv h
  have hp : p = pc + 3 := by
    have := Option.some.inj hn
    omega
  subst hp
  subst ht
  have E := fx_le hy hx
  exact wp_br (b := decide (Int32.ofInt y ≤ Int32.ofInt x)) (st1 := st) hI rfl rfl (fun L => rfl) h0 (fun hb => K1 (E.mp (of_decide_eq_true hb))) (fun hb => K2 (by have := of_decide_eq_false hb; rw [E] at this; omega))
theorem x_zge {x o : Int} (h : fx_op m pc = some (.ifCond .ge o, p, t)) (hx : fx_in32 x) (K1 : 0 ≤ x → wp kc d m t l st M Q) (K2 : x < 0 → wp kc d m p l st M Q) : wp kc d m pc l (jI x :: st) M Q := by
  obtain ⟨hI, hn, hp, h0, ht, hk⟩ := fx_op_inv h
  have hp : p = pc + 3 := by
    have := Option.some.inj hn
    omega
  subst hp
  subst ht
  have hy : fx_in32 0 := by decide
  have E := fx_le hy hx
  exact wp_br (b := decide (Int32.ofInt 0 ≤ Int32.ofInt x)) (st1 := st) hI rfl rfl (fun L => rfl) h0 (fun hb => K1 (E.mp (of_decide_eq_true hb))) (fun hb => K2 (by have := of_decide_eq_false hb; rw [E] at this; omega))
theorem x_cgt {x y o : Int} (h : fx_op m pc = some (.if_icmp .gt o, p, t)) (hx : fx_in32 x) (hy : fx_in32 y) (K1 : y < x → wp kc d m t l st M Q) (K2 : x ≤ y → wp kc d m p l st M Q) : wp kc d m pc l (jI y :: jI x :: st) M Q := by
  obtain ⟨hI, hn, hp, h0, ht, hk⟩ := fx_op_inv h
  have hp : p = pc + 3 := by
    have := Option.some.inj hn
    omega
  subst hp
  subst ht
  have E := fx_lt hy hx
  exact wp_br (b := decide (Int32.ofInt y < Int32.ofInt x)) (st1 := st) hI rfl rfl (fun L => rfl) h0 (fun hb => K1 (E.mp (of_decide_eq_true hb))) (fun hb => K2 (by have := of_decide_eq_false hb; rw [E] at this; omega))
theorem x_zgt {x o : Int} (h : fx_op m pc = some (.ifCond .gt o, p, t)) (hx : fx_in32 x) (K1 : 0 < x → wp kc d m t l st M Q) (K2 : x ≤ 0 → wp kc d m p l st M Q) : wp kc d m pc l (jI x :: st) M Q := by
  obtain ⟨hI, hn, hp, h0, ht, hk⟩ := fx_op_inv h
  have hp : p = pc + 3 := by
    have := Option.some.inj hn
    omega
  subst hp
  subst ht
  have hy : fx_in32 0 := by decide
  have E := fx_lt hy hx
  exact wp_br (b := decide (Int32.ofInt 0 < Int32.ofInt x)) (st1 := st) hI rfl rfl (fun L => rfl) h0 (fun hb => K1 (E.mp (of_decide_eq_true hb))) (fun hb => K2 (by have := of_decide_eq_false hb; rw [E] at this; omega))
theorem x_cle {x y o : Int} (h : fx_op m pc = some (.if_icmp .le o, p, t)) (hx : fx_in32 x) (hy : fx_in32 y) (K1 : x ≤ y → wp kc d m t l st M Q) (K2 : y < x → wp kc d m p l st M Q) : wp kc d m pc l (jI y :: jI x :: st) M Q := by
  obtain ⟨hI, hn, hp, h0, ht, hk⟩ := fx_op_inv h
  have hp : p = pc + 3 := by
    have := Option.some.inj hn
    omega
  subst hp
  subst ht
  have E := fx_le hx hy
  exact wp_br (b := decide (Int32.ofInt x ≤ Int32.ofInt y)) (st1 := st) hI rfl rfl (fun L => rfl) h0 (fun hb => K1 (E.mp (of_decide_eq_true hb))) (fun hb => K2 (by have := of_decide_eq_false hb; rw [E] at this; omega))
theorem x_zle {x o : Int} (h : fx_op m pc = some (.ifCond .le o, p, t)) (hx : fx_in32 x) (K1 : x ≤ 0 → wp kc d m t l st M Q) (K2 : 0 < x → wp kc d m p l st M Q) : wp kc d m pc l (jI x :: st) M Q := by
  obtain ⟨hI, hn, hp, h0, ht, hk⟩ := fx_op_inv h
  have hp : p = pc + 3 := by
    have := Option.some.inj hn
    omega
  subst hp
  subst ht
  have hy : fx_in32 0 := by decide
  have E := fx_le hx hy
  exact wp_br (b := decide (Int32.ofInt x ≤ Int32.ofInt 0)) (st1 := st) hI rfl rfl (fun L => rfl) h0 (fun hb => K1 (E.mp (of_decide_eq_true hb))) (fun hb => K2 (by have := of_decide_eq_false hb; rw [E] at this; omega))
theorem x_goto {o : Int} (h : fx_op m pc = some (.goto o, p, t)) (K : wp kc d m t l st M Q) : wp kc d m pc l st M Q := by
  obtain ⟨hI, hn, hp, h0, ht, hk⟩ := fx_op_inv h
  subst ht
  refine wp_sm hI rfl rfl (fun L hL => ?_) K
  show lx_jmp pc o L _ _ = _
  unfold lx_jmp
  exact if_pos h0
/-- a switch: one place for each number from lo on -/
def fx_sws : List Nat → Int → (Nat → Prop) → Int → Prop
  | [], _, _, _ => True
  | t :: ts, lo, P, x => (x = lo → P t) ∧ fx_sws ts (lo + 1) P x
theorem fx_sws_get : ∀ {ts : List Nat} {lo x : Int} {P : Nat → Prop}, fx_sws ts lo P x → ∀ {j t : Nat}, ts[j]? = some t → x = lo + j → P t
  | [], _, _, _, _, _, _, h, _ => by simp at h
  | t0 :: ts, lo, x, P, hs, 0, t, h, hx => by
    have : t0 = t := by simpa using h
    subst this
    exact hs.1 (by omega)
  | t0 :: ts, lo, x, P, hs, j + 1, t, h, hx => fx_sws_get (ts := ts) (lo := lo + 1) hs.2 (j := j) (by simpa using h) (by omega)
noncomputable def fx_ts (m pc : Nat) : Option (Int × List Nat × Nat) := match xI m pc with
  | some (.tableswitch dflt lo hi offs) => if 0 ≤ (pc : Int) + dflt ∧ hi = lo + offs.size - 1 ∧ offs.all (fun o => decide (0 ≤ (pc : Int) + o)) = true ∧ -2147483648 ≤ lo ∧ hi ≤ 2147483647 then some (lo, offs.toList.map fun o => ((pc : Int) + o).toNat, ((pc : Int) + dflt).toNat) else none
  | _ => none
theorem x_sw {lo x : Int} {ts : List Nat} {dt : Nat} (h : fx_ts m pc = some (lo, ts, dt)) (hx : fx_in32 x) (K : fx_sws ts lo (fun q => wp kc d m q l st M Q) x) (KD : (x < lo ∨ lo + ts.length ≤ x) → wp kc d m dt l st M Q) : wp kc d m pc l (jI x :: st) M Q := by
  unfold fx_ts at h
  split at h
  · next dflt lo' hi offs hI =>
    split at h
    · next hc =>
      obtain ⟨h0, h1, h2, h3, h4⟩ := hc
      cases h
      simp only [List.length_map, Array.length_toList] at KD
      by_cases hd : x < lo ∨ hi < x
      · refine wp_sm hI rfl rfl (fun L hL => ?_) (KD (by omega))
        show (if (Int32.ofInt x).toInt < lo ∨ hi < (Int32.ofInt x).toInt then lx_jmp pc dflt L _ _ else _) = _
        rw [fx_to hx, if_pos hd]
        unfold lx_jmp
        rw [if_pos h0]
      · have hj : (x - lo).toNat < offs.size := by omega
        have hg : offs[(x - lo).toNat]? = some offs[(x - lo).toNat] := Array.getElem?_eq_getElem hj
        have hg2 : (offs.toList.map fun o => ((pc : Int) + o).toNat)[(x - lo).toNat]? = some (((pc : Int) + offs[(x - lo).toNat]).toNat) := by
          rw [List.getElem?_map, Array.getElem?_toList, hg]
          rfl
        refine wp_sm hI rfl rfl (fun L hL => ?_) (fx_sws_get K hg2 (by omega))
        show (if (Int32.ofInt x).toInt < lo ∨ hi < (Int32.ofInt x).toInt then lx_jmp pc dflt L _ _ else match offs[((Int32.ofInt x).toInt - lo).toNat]? with | some o => lx_jmp pc o L _ _ | none => none) = _
        rw [fx_to hx, if_neg hd, hg]
        show lx_jmp pc _ L _ _ = _
        unfold lx_jmp
        rw [if_pos (by
          have := (Array.all_eq_true.mp h2) _ hj
          exact of_decide_eq_true this)]
    · cases h
  · cases h

theorem x_dupi {x : Int} (h : fx_op m pc = some (.dup, p, t)) (K : wp kc d m p l (jI x :: jI x :: st) M Q) : wp kc d m pc l (jI x :: st) M Q := by
  obtain ⟨hI, hn, hp, -, -, hk⟩ := fx_op_inv h
  have hp : p = pc + 1 := by
    have := Option.some.inj hn
    omega
  subst hp
  exact wp_sm hI rfl rfl (fun L hL => rfl) K
theorem x_dupr {x : Nat} (h : fx_op m pc = some (.dup, p, t)) (K : wp kc d m p l (jR x :: jR x :: st) M Q) : wp kc d m pc l (jR x :: st) M Q := by
  obtain ⟨hI, hn, hp, -, -, hk⟩ := fx_op_inv h
  have hp : p = pc + 1 := by
    have := Option.some.inj hn
    omega
  subst hp
  exact wp_sm hI rfl rfl (fun L hL => rfl) K
theorem x_dup2 {x : Int} {a : Nat} (h : fx_op m pc = some (.dup2, p, t)) (K : wp kc d m p l (jI x :: jR a :: jI x :: jR a :: st) M Q) : wp kc d m pc l (jI x :: jR a :: st) M Q := by
  obtain ⟨hI, hn, hp, -, -, hk⟩ := fx_op_inv h
  have hp : p = pc + 1 := by
    have := Option.some.inj hn
    omega
  subst hp
  exact wp_sm hI rfl rfl (fun L hL => rfl) K
theorem x_dup2l {x : Int} (h : fx_op m pc = some (.dup2, p, t)) (K : wp kc d m p l (jL x :: jL x :: st) M Q) : wp kc d m pc l (jL x :: st) M Q := by
  obtain ⟨hI, hn, hp, -, -, hk⟩ := fx_op_inv h
  have hp : p = pc + 1 := by
    have := Option.some.inj hn
    omega
  subst hp
  exact wp_sm hI rfl rfl (fun L hL => rfl) K
theorem x_popi {x : Int} (h : fx_op m pc = some (.pop, p, t)) (K : wp kc d m p l st M Q) : wp kc d m pc l (jI x :: st) M Q := by
  obtain ⟨hI, hn, hp, -, -, hk⟩ := fx_op_inv h
  have hp : p = pc + 1 := by
    have := Option.some.inj hn
    omega
  subst hp
  exact wp_sm hI rfl rfl (fun L hL => rfl) K
theorem x_popr {x : Nat} (h : fx_op m pc = some (.pop, p, t)) (K : wp kc d m p l st M Q) : wp kc d m pc l (jR x :: st) M Q := by
  obtain ⟨hI, hn, hp, -, -, hk⟩ := fx_op_inv h
  have hp : p = pc + 1 := by
    have := Option.some.inj hn
    omega
  subst hp
  exact wp_sm hI rfl rfl (fun L hL => rfl) K
theorem x_pop2 {x : Int} (h : fx_op m pc = some (.pop2, p, t)) (K : wp kc d m p l st M Q) : wp kc d m pc l (jL x :: st) M Q := by
  obtain ⟨hI, hn, hp, -, -, hk⟩ := fx_op_inv h
  have hp : p = pc + 1 := by
    have := Option.some.inj hn
    omega
  subst hp
  exact wp_sm hI rfl rfl (fun L hL => rfl) K
end FXR
