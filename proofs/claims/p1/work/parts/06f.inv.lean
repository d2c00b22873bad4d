/-! THE TIE, second half: each instruction of the lite machine is a row of the kit. (Written by gen/gen_sound.py.) -/
/-- what stands fixed while a method runs -/
noncomputable def lx_X (g : lx_G) (kc : List va_E) (m : Nat) (p : Program) (s : State) (mm : MethodId) (args : Array Value) (meth : Method) (c : Code) : Prop :=
  p.tables.exec = Jvm.exec ∧ c.code = xB m ∧ c.maxLocals = xM m ∧ meth.sig.returnType = xR m ∧ meth.locks = false ∧ (xIn m = true → meth.name = "<init>") ∧ s.vm.findClass (xO m) = some mm.cls ∧ (∀ w ∈ xTS, w.before args s = true) ∧ lx_E g kc s
/-- from here the machine comes to Q, whatever real heap the lite one stands for -/
noncomputable def lx_C (g : lx_G) (kc : List va_E) (m : Nat) (p : Program) (l : Launch) (e : Env) (R : Room) (s : State) (mm : MethodId) (args : Array Value) (below : List Frame) (meth : Method) (c : Code) (h0 : Nat × Nat) (Q : State → Prop) (pc : Nat) (L : lx_L) (st : List Value) (h : lx_H) : Prop :=
  ∀ (H : Heap) (locs : List Loc) (ls : Array Slot), lx_Rp g h H → va_S (lx_A g) s.heap H locs → lv_has ls (xM m) (lx_tl g L) → W p l e R s mm args below meth c H locs (h.length - h0.1) (lx_hs h - h0.2) Q (F0 mm pc ls (st.map (lx_v g)))
theorem lx_ii_inv {f : Int32 → Int32 → Int32} {pc : Nat} {L : lx_L} {st : List Value} {h : lx_H} {r : Nat × lx_L × List Value × lx_H} (hs : lx_ii f pc L st h = some r) : ∃ (y x : Int32) (t : List Value), st = .int y :: .int x :: t ∧ r = (pc + 1, L, .int (f x y) :: t, h) := by
  unfold lx_ii at hs
  split at hs
  · exact ⟨_, _, _, rfl, (lx_some hs).symm⟩
  · cases hs
theorem lx_ll_inv {f : Int64 → Int64 → Int64} {pc : Nat} {L : lx_L} {st : List Value} {h : lx_H} {r : Nat × lx_L × List Value × lx_H} (hs : lx_ll f pc L st h = some r) : ∃ (y x : Int64) (t : List Value), st = .long y :: .long x :: t ∧ r = (pc + 1, L, .long (f x y) :: t, h) := by
  unfold lx_ll at hs
  split at hs
  · exact ⟨_, _, _, rfl, (lx_some hs).symm⟩
  · cases hs
theorem lx_lc_inv  {pc : Nat} {L : lx_L} {st : List Value} {h : lx_H} {r : Nat × lx_L × List Value × lx_H} (hs : lx_lc pc L st h = some r) : ∃ (y x : Int64) (t : List Value), st = .long y :: .long x :: t ∧ r = (pc + 1, L, .int (lg_cmp x y) :: t, h) := by
  unfold lx_lc at hs
  split at hs
  · exact ⟨_, _, _, rfl, (lx_some hs).symm⟩
  · cases hs
theorem lx_li_inv {f : Int64 → Int32 → Int64} {pc : Nat} {L : lx_L} {st : List Value} {h : lx_H} {r : Nat × lx_L × List Value × lx_H} (hs : lx_li f pc L st h = some r) : ∃ (y : Int32) (x : Int64) (t : List Value), st = .int y :: .long x :: t ∧ r = (pc + 1, L, .long (f x y) :: t, h) := by
  unfold lx_li at hs
  split at hs
  · exact ⟨_, _, _, rfl, (lx_some hs).symm⟩
  · cases hs
theorem lx_i1_inv {f : Int32 → Int32} {pc : Nat} {L : lx_L} {st : List Value} {h : lx_H} {r : Nat × lx_L × List Value × lx_H} (hs : lx_i1 f pc L st h = some r) : ∃ (x : Int32) (t : List Value), st = .int x :: t ∧ r = (pc + 1, L, .int (f x) :: t, h) := by
  unfold lx_i1 at hs
  split at hs
  · exact ⟨_, _, rfl, (lx_some hs).symm⟩
  · cases hs
theorem lx_i2_inv {f : Int32 → Int64} {pc : Nat} {L : lx_L} {st : List Value} {h : lx_H} {r : Nat × lx_L × List Value × lx_H} (hs : lx_i2 f pc L st h = some r) : ∃ (x : Int32) (t : List Value), st = .int x :: t ∧ r = (pc + 1, L, .long (f x) :: t, h) := by
  unfold lx_i2 at hs
  split at hs
  · exact ⟨_, _, rfl, (lx_some hs).symm⟩
  · cases hs
theorem lx_l1_inv {f : Int64 → Int64} {pc : Nat} {L : lx_L} {st : List Value} {h : lx_H} {r : Nat × lx_L × List Value × lx_H} (hs : lx_l1 f pc L st h = some r) : ∃ (x : Int64) (t : List Value), st = .long x :: t ∧ r = (pc + 1, L, .long (f x) :: t, h) := by
  unfold lx_l1 at hs
  split at hs
  · exact ⟨_, _, rfl, (lx_some hs).symm⟩
  · cases hs
theorem lx_l2_inv  {pc : Nat} {L : lx_L} {st : List Value} {h : lx_H} {r : Nat × lx_L × List Value × lx_H} (hs : lx_l2 pc L st h = some r) : ∃ (x : Int64) (t : List Value), st = .long x :: t ∧ r = (pc + 1, L, .int x.toInt32 :: t, h) := by
  unfold lx_l2 at hs
  split at hs
  · exact ⟨_, _, rfl, (lx_some hs).symm⟩
  · cases hs
theorem lx_iid_inv {f : Int32 → Int32 → Int32} {pc : Nat} {L : lx_L} {st : List Value} {h : lx_H} {r : Nat × lx_L × List Value × lx_H} (hs : lx_iid f pc L st h = some r) : ∃ (y x : Int32) (t : List Value), st = .int y :: .int x :: t ∧ ¬ y = 0 ∧ r = (pc + 1, L, .int (f x y) :: t, h) := by
  unfold lx_iid at hs
  split at hs
  · split at hs
    · cases hs
    · next hne => exact ⟨_, _, _, rfl, hne, (lx_some hs).symm⟩
  · cases hs
theorem lx_lld_inv {f : Int64 → Int64 → Int64} {pc : Nat} {L : lx_L} {st : List Value} {h : lx_H} {r : Nat × lx_L × List Value × lx_H} (hs : lx_lld f pc L st h = some r) : ∃ (y x : Int64) (t : List Value), st = .long y :: .long x :: t ∧ ¬ y = 0 ∧ r = (pc + 1, L, .long (f x y) :: t, h) := by
  unfold lx_lld at hs
  split at hs
  · split at hs
    · cases hs
    · next hne => exact ⟨_, _, _, rfl, hne, (lx_some hs).symm⟩
  · cases hs
theorem lx_ldi_inv {len i : Nat} {pc : Nat} {L : lx_L} {st : List Value} {h : lx_H} {r : Nat × lx_L × List Value × lx_H} (hs : lx_ldi pc len i L st h = some r) : ∃ x : Int32, lx_lg L i = some (.int x) ∧ r = (pc + len, L, .int x :: st, h) := by
  unfold lx_ldi at hs
  split at hs
  · next hx => exact ⟨_, hx, (lx_some hs).symm⟩
  · cases hs
theorem lx_ldl_inv {len i : Nat} {pc : Nat} {L : lx_L} {st : List Value} {h : lx_H} {r : Nat × lx_L × List Value × lx_H} (hs : lx_ldl pc len i L st h = some r) : ∃ x : Int64, lx_lg L i = some (.long x) ∧ r = (pc + len, L, .long x :: st, h) := by
  unfold lx_ldl at hs
  split at hs
  · next hx => exact ⟨_, hx, (lx_some hs).symm⟩
  · cases hs
theorem lx_lda_inv {len i : Nat} {pc : Nat} {L : lx_L} {st : List Value} {h : lx_H} {r : Nat × lx_L × List Value × lx_H} (hs : lx_lda pc len i L st h = some r) : (∃ x : Nat, lx_lg L i = some (.ref x) ∧ r = (pc + len, L, .ref x :: st, h)) ∨ (lx_lg L i = some .null ∧ r = (pc + len, L, .null :: st, h)) := by
  unfold lx_lda at hs
  split at hs
  · next hx => exact Or.inl ⟨_, hx, (lx_some hs).symm⟩
  · next hx => exact Or.inr ⟨hx, (lx_some hs).symm⟩
  · cases hs
theorem lx_sti_inv {mx len i : Nat} {pc : Nat} {L : lx_L} {st : List Value} {h : lx_H} {r : Nat × lx_L × List Value × lx_H} (hs : lx_sti mx pc len i L st h = some r) : ∃ (x : Int32) (t : List Value), st = .int x :: t ∧ i < mx ∧ r = (pc + len, lx_s1 L i (.int x), t, h) := by
  unfold lx_sti at hs
  split at hs
  · split at hs
    · next hi => exact ⟨_, _, rfl, hi, (lx_some hs).symm⟩
    · cases hs
  · cases hs
theorem lx_stl_inv {mx len i : Nat} {pc : Nat} {L : lx_L} {st : List Value} {h : lx_H} {r : Nat × lx_L × List Value × lx_H} (hs : lx_stl mx pc len i L st h = some r) : ∃ (x : Int64) (t : List Value), st = .long x :: t ∧ i + 1 < mx ∧ r = (pc + len, lx_s2 L i (.long x), t, h) := by
  unfold lx_stl at hs
  split at hs
  · split at hs
    · next hi => exact ⟨_, _, rfl, hi, (lx_some hs).symm⟩
    · cases hs
  · cases hs
theorem lx_sta_inv {mx len i : Nat} {pc : Nat} {L : lx_L} {st : List Value} {h : lx_H} {r : Nat × lx_L × List Value × lx_H} (hs : lx_sta mx pc len i L st h = some r) : (∃ (x : Nat) (t : List Value), st = .ref x :: t ∧ i < mx ∧ r = (pc + len, lx_s1 L i (.ref x), t, h)) ∨ (∃ t : List Value, st = .null :: t ∧ i < mx ∧ r = (pc + len, lx_s1 L i .null, t, h)) := by
  unfold lx_sta at hs
  split at hs
  · split at hs
    · next hi => exact Or.inl ⟨_, _, rfl, hi, (lx_some hs).symm⟩
    · cases hs
  · split at hs
    · next hi => exact Or.inr ⟨_, rfl, hi, (lx_some hs).symm⟩
    · cases hs
  · cases hs
theorem lx_inc_inv {mx i : Nat} {n : Int} {pc : Nat} {L : lx_L} {st : List Value} {h : lx_H} {r : Nat × lx_L × List Value × lx_H} (hs : lx_inc mx pc i n L st h = some r) : ∃ x : Int32, lx_lg L i = some (.int x) ∧ i < mx ∧ r = (pc + 3, lx_s1 L i (.int (x + Int32.ofInt n)), st, h) := by
  unfold lx_inc at hs
  split at hs
  · next hx =>
    split at hs
    · next hi => exact ⟨_, hx, hi, (lx_some hs).symm⟩
    · cases hs
  · cases hs
theorem lx_jmp_inv {off : Int} {pc : Nat} {L : lx_L} {st : List Value} {h : lx_H} {r : Nat × lx_L × List Value × lx_H} (hs : lx_jmp pc off L st h = some r) : ∃ t : Nat, (pc : Int) + off = (t : Int) ∧ r = (t, L, st, h) := by
  unfold lx_jmp at hs
  split at hs
  · next hi => exact ⟨_, (Int.toNat_of_nonneg hi).symm, (lx_some hs).symm⟩
  · cases hs
theorem lx_br_inv {b : Bool} {off : Int} {pc : Nat} {L : lx_L} {st : List Value} {h : lx_H} {r : Nat × lx_L × List Value × lx_H} (hs : lx_br b pc off L st h = some r) : ∃ t : Nat, (pc : Int) + off = (t : Int) ∧ ((b = true ∧ r = (t, L, st, h)) ∨ (b = false ∧ r = (pc + 3, L, st, h))) := by
  unfold lx_br at hs
  split at hs
  · next hi =>
    refine ⟨_, (Int.toNat_of_nonneg hi).symm, ?_⟩
    split at hs
    · next hb => exact Or.inl ⟨hb, (lx_some hs).symm⟩
    · next hb => exact Or.inr ⟨by simpa using hb, (lx_some hs).symm⟩
  · cases hs
theorem lx_if1_inv {b : Int32 → Bool} {off : Int} {pc : Nat} {L : lx_L} {st : List Value} {h : lx_H} {r : Nat × lx_L × List Value × lx_H} (hs : lx_if1 b pc off L st h = some r) : ∃ (x : Int32) (t : List Value), st = .int x :: t ∧ lx_br (b x) pc off L t h = some r := by
  unfold lx_if1 at hs
  split at hs
  · exact ⟨_, _, rfl, hs⟩
  · cases hs
theorem lx_if2_inv {b : Int32 → Int32 → Bool} {off : Int} {pc : Nat} {L : lx_L} {st : List Value} {h : lx_H} {r : Nat × lx_L × List Value × lx_H} (hs : lx_if2 b pc off L st h = some r) : ∃ (y x : Int32) (t : List Value), st = .int y :: .int x :: t ∧ lx_br (b x y) pc off L t h = some r := by
  unfold lx_if2 at hs
  split at hs
  · exact ⟨_, _, _, rfl, hs⟩
  · cases hs
theorem lx_dup_inv  {pc : Nat} {L : lx_L} {st : List Value} {h : lx_H} {r : Nat × lx_L × List Value × lx_H} (hs : lx_dup pc L st h = some r) : ∃ (v : Value) (t : List Value), st = v :: t ∧ v.category = 1 ∧ r = (pc + 1, L, v :: v :: t, h) := by
  unfold lx_dup at hs
  split at hs
  · split at hs
    · next hc => exact ⟨_, _, rfl, hc, (lx_some hs).symm⟩
    · cases hs
  · cases hs
theorem lx_pop_inv  {pc : Nat} {L : lx_L} {st : List Value} {h : lx_H} {r : Nat × lx_L × List Value × lx_H} (hs : lx_pop pc L st h = some r) : ∃ (v : Value) (t : List Value), st = v :: t ∧ v.category = 1 ∧ r = (pc + 1, L, t, h) := by
  unfold lx_pop at hs
  split at hs
  · split at hs
    · next hc => exact ⟨_, _, rfl, hc, (lx_some hs).symm⟩
    · cases hs
  · cases hs
theorem lx_pop2_inv  {pc : Nat} {L : lx_L} {st : List Value} {h : lx_H} {r : Nat × lx_L × List Value × lx_H} (hs : lx_pop2 pc L st h = some r) : ∃ (v : Value) (t : List Value), st = v :: t ∧ v.category = 2 ∧ r = (pc + 1, L, t, h) := by
  unfold lx_pop2 at hs
  split at hs
  · split at hs
    · next hc => exact ⟨_, _, rfl, hc, (lx_some hs).symm⟩
    · cases hs
  · cases hs
theorem lx_dupx1_inv  {pc : Nat} {L : lx_L} {st : List Value} {h : lx_H} {r : Nat × lx_L × List Value × lx_H} (hs : lx_dupx1 pc L st h = some r) : ∃ (v w : Value) (t : List Value), st = v :: w :: t ∧ v.category = 1 ∧ w.category = 1 ∧ r = (pc + 1, L, v :: w :: v :: t, h) := by
  unfold lx_dupx1 at hs
  split at hs
  · split at hs
    · next hc => exact ⟨_, _, _, rfl, hc.1, hc.2, (lx_some hs).symm⟩
    · cases hs
  · cases hs
theorem lx_dupx2_inv  {pc : Nat} {L : lx_L} {st : List Value} {h : lx_H} {r : Nat × lx_L × List Value × lx_H} (hs : lx_dupx2 pc L st h = some r) : ∃ (v w u : Value) (t : List Value), st = v :: w :: u :: t ∧ v.category = 1 ∧ w.category = 1 ∧ u.category = 1 ∧ r = (pc + 1, L, v :: w :: u :: v :: t, h) := by
  unfold lx_dupx2 at hs
  split at hs
  · split at hs
    · next hc => exact ⟨_, _, _, _, rfl, hc.1, hc.2.1, hc.2.2, (lx_some hs).symm⟩
    · cases hs
  · cases hs
theorem lx_dup2a_inv {v : Value} {pc : Nat} {L : lx_L} {st : List Value} {h : lx_H} {r : Nat × lx_L × List Value × lx_H} (hs : lx_dup2a pc L v st h = some r) : ∃ (w : Value) (t : List Value), st = w :: t ∧ v.category = 1 ∧ w.category = 1 ∧ r = (pc + 1, L, v :: w :: v :: w :: t, h) := by
  unfold lx_dup2a at hs
  split at hs
  · split at hs
    · next hc => exact ⟨_, _, rfl, hc.1, hc.2, (lx_some hs).symm⟩
    · cases hs
  · cases hs
theorem lx_dup2_inv  {pc : Nat} {L : lx_L} {st : List Value} {h : lx_H} {r : Nat × lx_L × List Value × lx_H} (hs : lx_dup2 pc L st h = some r) : ∃ (v : Value) (t : List Value), st = v :: t ∧ ((v.category = 2 ∧ r = (pc + 1, L, v :: v :: t, h)) ∨ lx_dup2a pc L v t h = some r) := by
  unfold lx_dup2 at hs
  split at hs
  · refine ⟨_, _, rfl, ?_⟩
    split at hs
    · next hc => exact Or.inl ⟨hc, (lx_some hs).symm⟩
    · exact Or.inr hs
  · cases hs
theorem lx_nul_inv {z : Bool} {off : Int} {pc : Nat} {L : lx_L} {st : List Value} {h : lx_H} {r : Nat × lx_L × List Value × lx_H} (hs : lx_nul z pc off L st h = some r) : (∃ (x : Nat) (t : List Value), st = .ref x :: t ∧ lx_br (!z) pc off L t h = some r) ∨ (∃ t : List Value, st = .null :: t ∧ lx_br z pc off L t h = some r) := by
  unfold lx_nul at hs
  split at hs
  · exact Or.inl ⟨_, _, rfl, hs⟩
  · exact Or.inr ⟨_, rfl, hs⟩
  · cases hs
theorem lx_psh_inv {v : Option Value} {len : Nat} {pc : Nat} {L : lx_L} {st : List Value} {h : lx_H} {r : Nat × lx_L × List Value × lx_H} (hs : lx_psh v pc len L st h = some r) : ∃ w : Value, v = some w ∧ r = (pc + len, L, w :: st, h) := by
  unfold lx_psh at hs
  split at hs
  · exact ⟨_, rfl, (lx_some hs).symm⟩
  · cases hs
