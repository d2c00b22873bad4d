/-! THE LITE MACHINE: a small interpreter over places (a cell is its place in a list). Part 04 ties the real machine to it ONCE: what it computes, the machine does. Tables (part 02): xI code, xF fields, xG statics, xD constants, xN classes of 'new', xQ arrays of objects, xS calls, xP natives, xM locals, xR answer types, xC classes, xT types of arrays by tags, xFt types of fields. -/
abbrev lx_H : Type := List va_E
abbrev lx_L : Type := List (Nat × Value)
abbrev lx_R : Type := Option (Nat × lx_L × List Value × lx_H)
/-- places from here on are constants (the script, static arrays, string literals) -/
noncomputable def lx_K : Nat := 1000000
noncomputable def lx_lg : lx_L → Nat → Option Value
  | [], _ => none
  | q :: L, i => if q.1 = i then some q.2 else lx_lg L i
noncomputable def lx_s1 (L : lx_L) (i : Nat) (v : Value) : lx_L := (i, v) :: L.filter (fun q => !(q.1 == i) && !(q.1 + 1 == i && q.2.category == 2))
noncomputable def lx_s2 (L : lx_L) (i : Nat) (v : Value) : lx_L := (i, v) :: L.filter (fun q => !(q.1 == i) && (!(q.1 == i + 1) && !(q.1 + 1 == i && q.2.category == 2)))
noncomputable def lx_at (kc : List va_E) (h : lx_H) (a : Nat) : Option va_E := if a < lx_K then h[a]? else kc[a - lx_K]?
noncomputable def lx_in (i : Int32) (n : Nat) : Bool := !decide (i < 0) && decide (i.toNatClampNeg < n)
/-- slots of a cell, of a heap -/
noncomputable def lx_es (e : va_E) : Nat := match e with
  | .inl a => a.2.1
  | .inr o => match xC[o.1]? with
    | some r => r.2.2
    | none => 0
noncomputable def lx_hs : lx_H → Nat
  | [] => 0
  | e :: h => lx_es e + lx_hs h
noncomputable def lx_jmp (pc : Nat) (off : Int) (L : lx_L) (st : List Value) (h : lx_H) : lx_R :=
  if 0 ≤ (pc : Int) + off then some (((pc : Int) + off).toNat, L, st, h) else none
noncomputable def lx_br (b : Bool) (pc : Nat) (off : Int) (L : lx_L) (st : List Value) (h : lx_H) : lx_R :=
  if 0 ≤ (pc : Int) + off then (if b = true then some (((pc : Int) + off).toNat, L, st, h) else some (pc + 3, L, st, h)) else none
/-- locals -/
noncomputable def lx_ldi (pc len i : Nat) (L : lx_L) (st : List Value) (h : lx_H) : lx_R := match lx_lg L i with
  | some (.int x) => some (pc + len, L, .int x :: st, h)
  | _ => none
noncomputable def lx_ldl (pc len i : Nat) (L : lx_L) (st : List Value) (h : lx_H) : lx_R := match lx_lg L i with
  | some (.long x) => some (pc + len, L, .long x :: st, h)
  | _ => none
noncomputable def lx_lda (pc len i : Nat) (L : lx_L) (st : List Value) (h : lx_H) : lx_R := match lx_lg L i with
  | some (.ref x) => some (pc + len, L, .ref x :: st, h)
  | some .null => some (pc + len, L, .null :: st, h)
  | _ => none
noncomputable def lx_sti (mx pc len i : Nat) (L : lx_L) (st : List Value) (h : lx_H) : lx_R := match st with
  | .int x :: st => if i < mx then some (pc + len, lx_s1 L i (.int x), st, h) else none
  | _ => none
noncomputable def lx_stl (mx pc len i : Nat) (L : lx_L) (st : List Value) (h : lx_H) : lx_R := match st with
  | .long x :: st => if i + 1 < mx then some (pc + len, lx_s2 L i (.long x), st, h) else none
  | _ => none
noncomputable def lx_sta (mx pc len i : Nat) (L : lx_L) (st : List Value) (h : lx_H) : lx_R := match st with
  | .ref x :: st => if i < mx then some (pc + len, lx_s1 L i (.ref x), st, h) else none
  | .null :: st => if i < mx then some (pc + len, lx_s1 L i .null, st, h) else none
  | _ => none
noncomputable def lx_inc (mx pc i : Nat) (n : Int) (L : lx_L) (st : List Value) (h : lx_H) : lx_R := match lx_lg L i with
  | some (.int x) => if i < mx then some (pc + 3, lx_s1 L i (.int (x + Int32.ofInt n)), st, h) else none
  | _ => none
/-- arithmetic -/
noncomputable def lx_ii (f : Int32 → Int32 → Int32) (pc : Nat) (L : lx_L) (st : List Value) (h : lx_H) : lx_R := match st with
  | .int y :: .int x :: st => some (pc + 1, L, .int (f x y) :: st, h)
  | _ => none
noncomputable def lx_iid (f : Int32 → Int32 → Int32) (pc : Nat) (L : lx_L) (st : List Value) (h : lx_H) : lx_R := match st with
  | .int y :: .int x :: st => if y = 0 then none else some (pc + 1, L, .int (f x y) :: st, h)
  | _ => none
noncomputable def lx_ll (f : Int64 → Int64 → Int64) (pc : Nat) (L : lx_L) (st : List Value) (h : lx_H) : lx_R := match st with
  | .long y :: .long x :: st => some (pc + 1, L, .long (f x y) :: st, h)
  | _ => none
noncomputable def lx_lc (pc : Nat) (L : lx_L) (st : List Value) (h : lx_H) : lx_R := match st with
  | .long y :: .long x :: st => some (pc + 1, L, .int (lg_cmp x y) :: st, h)
  | _ => none
noncomputable def lx_lld (f : Int64 → Int64 → Int64) (pc : Nat) (L : lx_L) (st : List Value) (h : lx_H) : lx_R := match st with
  | .long y :: .long x :: st => if y = 0 then none else some (pc + 1, L, .long (f x y) :: st, h)
  | _ => none
noncomputable def lx_li (f : Int64 → Int32 → Int64) (pc : Nat) (L : lx_L) (st : List Value) (h : lx_H) : lx_R := match st with
  | .int y :: .long x :: st => some (pc + 1, L, .long (f x y) :: st, h)
  | _ => none
noncomputable def lx_i1 (f : Int32 → Int32) (pc : Nat) (L : lx_L) (st : List Value) (h : lx_H) : lx_R := match st with
  | .int x :: st => some (pc + 1, L, .int (f x) :: st, h)
  | _ => none
noncomputable def lx_i2 (f : Int32 → Int64) (pc : Nat) (L : lx_L) (st : List Value) (h : lx_H) : lx_R := match st with
  | .int x :: st => some (pc + 1, L, .long (f x) :: st, h)
  | _ => none
noncomputable def lx_l1 (f : Int64 → Int64) (pc : Nat) (L : lx_L) (st : List Value) (h : lx_H) : lx_R := match st with
  | .long x :: st => some (pc + 1, L, .long (f x) :: st, h)
  | _ => none
noncomputable def lx_l2 (pc : Nat) (L : lx_L) (st : List Value) (h : lx_H) : lx_R := match st with
  | .long x :: st => some (pc + 1, L, .int x.toInt32 :: st, h)
  | _ => none
/-- branches -/
noncomputable def lx_if1 (b : Int32 → Bool) (pc : Nat) (off : Int) (L : lx_L) (st : List Value) (h : lx_H) : lx_R := match st with
  | .int x :: st => lx_br (b x) pc off L st h
  | _ => none
noncomputable def lx_if2 (b : Int32 → Int32 → Bool) (pc : Nat) (off : Int) (L : lx_L) (st : List Value) (h : lx_H) : lx_R := match st with
  | .int y :: .int x :: st => lx_br (b x y) pc off L st h
  | _ => none
noncomputable def lx_nul (z : Bool) (pc : Nat) (off : Int) (L : lx_L) (st : List Value) (h : lx_H) : lx_R := match st with
  | .ref _ :: st => lx_br (!z) pc off L st h
  | .null :: st => lx_br z pc off L st h
  | _ => none
noncomputable def lx_tsw (pc : Nat) (dflt lo hi : Int) (offs : Array Int) (L : lx_L) (st : List Value) (h : lx_H) : lx_R := match st with
  | .int x :: st => if x.toInt < lo ∨ hi < x.toInt then lx_jmp pc dflt L st h else match offs[(x.toInt - lo).toNat]? with
    | some o => lx_jmp pc o L st h
    | none => none
  | _ => none
noncomputable def lx_lsw (pc : Nat) (dflt : Int) (ps : Array (Int × Int)) (L : lx_L) (st : List Value) (h : lx_H) : lx_R := match st with
  | .int x :: st => if (ps.toList.zip (ps.toList.drop 1)).all (fun (a, next) => a.1 < next.1) = true then lx_jmp pc (Op.lookupswitch.offset ps.toList dflt x.toInt) L st h else none
  | _ => none
/-- the stack -/
noncomputable def lx_dup (pc : Nat) (L : lx_L) (st : List Value) (h : lx_H) : lx_R := match st with
  | v :: st => if v.category = 1 then some (pc + 1, L, v :: v :: st, h) else none
  | _ => none
noncomputable def lx_pop (pc : Nat) (L : lx_L) (st : List Value) (h : lx_H) : lx_R := match st with
  | v :: st => if v.category = 1 then some (pc + 1, L, st, h) else none
  | _ => none
noncomputable def lx_pop2 (pc : Nat) (L : lx_L) (st : List Value) (h : lx_H) : lx_R := match st with
  | v :: st => if v.category = 2 then some (pc + 1, L, st, h) else none
  | _ => none
noncomputable def lx_dupx1 (pc : Nat) (L : lx_L) (st : List Value) (h : lx_H) : lx_R := match st with
  | v :: w :: st => if v.category = 1 ∧ w.category = 1 then some (pc + 1, L, v :: w :: v :: st, h) else none
  | _ => none
noncomputable def lx_dupx2 (pc : Nat) (L : lx_L) (st : List Value) (h : lx_H) : lx_R := match st with
  | v :: w :: u :: st => if v.category = 1 ∧ w.category = 1 ∧ u.category = 1 then some (pc + 1, L, v :: w :: u :: v :: st, h) else none
  | _ => none
noncomputable def lx_dup2a (pc : Nat) (L : lx_L) (v : Value) (st : List Value) (h : lx_H) : lx_R := match st with
  | w :: st => if v.category = 1 ∧ w.category = 1 then some (pc + 1, L, v :: w :: v :: w :: st, h) else none
  | _ => none
noncomputable def lx_dup2 (pc : Nat) (L : lx_L) (st : List Value) (h : lx_H) : lx_R := match st with
  | v :: st => if v.category = 2 then some (pc + 1, L, v :: v :: st, h) else lx_dup2a pc L v st h
  | _ => none
/-- arrays -/
noncomputable def lx_ald (kc : List va_E) (t : Nat → Bool) (pc : Nat) (L : lx_L) (st : List Value) (h : lx_H) : lx_R := match st with
  | .int i :: .ref a :: st => match lx_at kc h a with
    | some (.inl (t', n, .inl f)) => if t t' = true ∧ lx_in i n = true then some (pc + 1, L, .int (f i.toNatClampNeg) :: st, h) else none
    | _ => none
  | _ => none
noncomputable def lx_all (kc : List va_E) (pc : Nat) (L : lx_L) (st : List Value) (h : lx_H) : lx_R := match st with
  | .int i :: .ref a :: st => match lx_at kc h a with
    | some (.inl (t', n, .inr (.inl f))) => if t' = 2 ∧ lx_in i n = true then some (pc + 1, L, .long (f i.toNatClampNeg) :: st, h) else none
    | _ => none
  | _ => none
noncomputable def lx_alq (pc : Nat) (L : lx_L) (st : List Value) (h : lx_H) : lx_R := match st with
  | .int i :: .ref a :: st => if a < lx_K then match h[a]? with
    | some (.inl (t', n, .inr (.inr (.inr (.inr f))))) => if 5 ≤ t' ∧ lx_in i n = true then some (pc + 1, L, va_rf (f i.toNatClampNeg) :: st, h) else none
    | _ => none else none
  | _ => none
/-- stores: by the tag of the array's type -/
noncomputable def lx_ast (t : Nat → Bool) (nar : Nat → Int32 → Int32) (pc : Nat) (L : lx_L) (st : List Value) (h : lx_H) : lx_R := match st with
  | .int x :: .int i :: .ref a :: st => if a < lx_K then match h[a]? with
    | some (.inl (t', n, .inl f)) => if t t' = true ∧ lx_in i n = true then some (pc + 1, L, st, h.set a (.inl (t', n, .inl (upd f i.toNatClampNeg (nar t' x))))) else none
    | _ => none else none
  | _ => none
noncomputable def lx_asl (pc : Nat) (L : lx_L) (st : List Value) (h : lx_H) : lx_R := match st with
  | .long x :: .int i :: .ref a :: st => if a < lx_K then match h[a]? with
    | some (.inl (t', n, .inr (.inl f))) => if t' = 2 ∧ lx_in i n = true then some (pc + 1, L, st, h.set a (.inl (t', n, .inr (.inl (vp_updL f i.toNatClampNeg x))))) else none
    | _ => none else none
  | _ => none
/-- an object of just the array's class -/
noncomputable def lx_asq (pc : Nat) (L : lx_L) (st : List Value) (h : lx_H) : lx_R := match st with
  | .ref b :: .int i :: .ref a :: st => if a < lx_K ∧ b < lx_K then match h[a]?, h[b]? with
    | some (.inl (t', n, .inr (.inr (.inr (.inr f))))), some (.inr (ci, _)) => if lx_in i n = true ∧ 5 ≤ t' ∧ decide ((xC[ci]?).map (fun r => r.1) = some (xOn t')) = true then some (pc + 1, L, st, h.set a (.inl (t', n, .inr (.inr (.inr (.inr (va_up f i.toNatClampNeg (some b)))))))) else none
    | _, _ => none else none
  | _ => none
noncomputable def lx_len (kc : List va_E) (pc : Nat) (L : lx_L) (st : List Value) (h : lx_H) : lx_R := match st with
  | .ref a :: st => match lx_at kc h a with
    | some (.inl (_, n, _)) => some (pc + 1, L, .int (Int32.ofNat n) :: st, h)
    | _ => none
  | _ => none
noncomputable def lx_new (m idx pc : Nat) (L : lx_L) (st : List Value) (h : lx_H) : lx_R := match xN m idx with
  | some (ci, fs) => if h.length < lx_K then some (pc + 3, L, .ref h.length :: st, h ++ [.inr (ci, fs)]) else none
  | none => none
noncomputable def lx_nwa (t : Nat) (bytes : Nat) (z : (Nat → Int32) ⊕ (Nat → Int64) ⊕ (Nat → UInt32) ⊕ (Nat → UInt64) ⊕ (Nat → Option Nat)) (pc : Nat) (L : lx_L) (st : List Value) (h : lx_H) : lx_R := match st with
  | .int n :: st => if (!decide (n < 0) && decide (n.toNatClampNeg * bytes ≤ 536870912) && decide (h.length < lx_K)) = true then some (pc + 2, L, .ref h.length :: st, h ++ [.inl (t, n.toNatClampNeg, z)]) else none
  | _ => none
noncomputable def lx_nwq (m idx pc : Nat) (L : lx_L) (st : List Value) (h : lx_H) : lx_R := match xQ m idx with
  | some t => match st with
    | .int n :: st => if (!decide (n < 0) && decide (n.toNatClampNeg * 4 ≤ 536870912) && decide (h.length < lx_K)) = true then some (pc + 3, L, .ref h.length :: st, h ++ [.inl (t, n.toNatClampNeg, .inr (.inr (.inr (.inr (fun _ => none)))))]) else none
    | _ => none
  | none => none
/-- fields: of an object of the heap (kinds 0, 1: a link, a nest's link), of a string literal (kind 2) -/
noncomputable def lx_gf (kc : List va_E) (m idx pc : Nat) (L : lx_L) (st : List Value) (h : lx_H) : lx_R := match st with
  | .ref a :: st => match xF m idx with
    | some (ci, k, w) => match (if w = 2 then (if a < lx_K then none else kc[a - lx_K]?) else (if a < lx_K then h[a]? else none)) with
      | some (.inr (ci', fs)) => if ci' = ci then match fs[k]? with
        | some v => some (pc + 3, L, v :: st, h)
        | none => none else none
      | _ => none
    | none => none
  | _ => none
noncomputable def lx_fit (ty : FieldType) (v : Value) : Bool := decide (narrow ty v = v) && fits ty v
noncomputable def lx_pf (m idx pc : Nat) (L : lx_L) (st : List Value) (h : lx_H) : lx_R := match st with
  | v :: .ref a :: st => if a < lx_K then match xF m idx with
    | some (ci, k, w) => match h[a]? with
      | some (.inr (ci', fs)) => if (decide (ci' = ci) && decide (k < fs.length) && lx_fit (xFt ci k) v && (w == 0 || w == 1 || w == 3)) = true then some (pc + 3, L, st, h.set a (.inr (ci, fs.set k v))) else none
      | _ => none
    | none => none else none
  | _ => none
/-- constants and statics -/
noncomputable def lx_ps1 (o : Option Value) (pc len : Nat) (L : lx_L) (st : List Value) (h : lx_H) : lx_R := match o with
  | some (.int v) => some (pc + len, L, .int v :: st, h)
  | some (.ref v) => some (pc + len, L, .ref v :: st, h)
  | _ => none
noncomputable def lx_ps2 (o : Option Value) (pc len : Nat) (L : lx_L) (st : List Value) (h : lx_H) : lx_R := match o with
  | some (.long v) => some (pc + len, L, .long v :: st, h)
  | _ => none
noncomputable def lx_psh (o : Option Value) (pc len : Nat) (L : lx_L) (st : List Value) (h : lx_H) : lx_R := match o with
  | some v => some (pc + len, L, v :: st, h)
  | none => none
/-- natives: 0 arraycopy, 4 Object's constructor -/
noncomputable def lx_cp (pc : Nat) (L : lx_L) (st : List Value) (h : lx_H) : lx_R := match st with
  | .int n :: .int dp :: .ref a :: .int sp :: .ref b :: st => if (decide (a < lx_K) && decide (b < lx_K) && !decide (n < 0) && !decide (dp < 0) && !decide (sp < 0) && decide ((st.map fun v => v.category).sum ≤ 8)) = true then match h[b]?, h[a]? with
    | some (.inl (t0, n0, .inl f)), some (.inl (t1, n1, .inl g)) => if (decide (t0 = t1) && decide (t0 < 2) && decide (sp.toNatClampNeg + n.toNatClampNeg ≤ n0) && decide (dp.toNatClampNeg + n.toNatClampNeg ≤ n1)) = true then some (pc + 3, L, st, h.set a (.inl (t1, n1, .inl (va_cpy f g sp.toNatClampNeg dp.toNatClampNeg n.toNatClampNeg)))) else none
    | _, _ => none else none
  | _ => none
noncomputable def lx_oi (pc : Nat) (L : lx_L) (st : List Value) (h : lx_H) : lx_R := match st with
  | .ref _ :: st => if (st.map fun v => v.category).sum ≤ 8 then some (pc + 3, L, st, h) else none
  | _ => none
noncomputable def lx_m2 (f : Int32 → Int32 → Int32) (pc : Nat) (L : lx_L) (st : List Value) (h : lx_H) : lx_R := match st with
  | .int y :: .int x :: st => if (st.map fun v => v.category).sum ≤ 8 then some (pc + 3, L, .int (f x y) :: st, h) else none
  | _ => none
noncomputable def lx_m1 (f : Int32 → Int32) (pc : Nat) (L : lx_L) (st : List Value) (h : lx_H) : lx_R := match st with
  | .int x :: st => if (st.map fun v => v.category).sum ≤ 8 then some (pc + 3, L, .int (f x) :: st, h) else none
  | _ => none
noncomputable def lx_m5 (f : Int64 → Int64 → Int64) (pc : Nat) (L : lx_L) (st : List Value) (h : lx_H) : lx_R := match st with
  | .long y :: .long x :: st => if (st.map fun v => v.category).sum ≤ 8 then some (pc + 3, L, .long (f x y) :: st, h) else none
  | _ => none
noncomputable def lx_nat (k : Option Nat) (pc : Nat) (L : lx_L) (st : List Value) (h : lx_H) : lx_R := match k with
  | some 0 => lx_cp pc L st h
  | some 1 => lx_m2 (fun x y => if x < y then y else x) pc L st h
  | some 2 => lx_m2 (fun x y => if y < x then y else x) pc L st h
  | some 3 => lx_m1 (fun x => if 0 ≤ x then x else 0 - x) pc L st h
  | some 4 => lx_oi pc L st h
  | some 5 => lx_m5 (fun x y => if y < x then y else x) pc L st h
  | _ => none
noncomputable def lx_ins (kc : List va_E) (m pc : Nat) (i : Instr) (L : lx_L) (st : List Value) (h : lx_H) : lx_R := match i with
  | .aconst_null => some (pc + 1, L, .null :: st, h)
  | .iconst n => some (pc + 1, L, .int (Int32.ofInt n) :: st, h)
  | .bipush n => some (pc + 2, L, .int (Int8.ofInt n).toInt32 :: st, h)
  | .sipush n => some (pc + 3, L, .int (Int16.ofInt n).toInt32 :: st, h)
  | .lconst n => some (pc + 1, L, .long (Int64.ofNat (n : Nat)) :: st, h)
  | .iload_n k => lx_ldi pc 1 k L st h
  | .iload k => lx_ldi pc 2 k L st h
  | .lload_n k => lx_ldl pc 1 k L st h
  | .lload k => lx_ldl pc 2 k L st h
  | .aload_n k => lx_lda pc 1 k L st h
  | .aload k => lx_lda pc 2 k L st h
  | .istore_n k => lx_sti (xM m) pc 1 k L st h
  | .istore k => lx_sti (xM m) pc 2 k L st h
  | .lstore_n k => lx_stl (xM m) pc 1 k L st h
  | .lstore k => lx_stl (xM m) pc 2 k L st h
  | .astore_n k => lx_sta (xM m) pc 1 k L st h
  | .astore k => lx_sta (xM m) pc 2 k L st h
  | .iinc k n => lx_inc (xM m) pc k n L st h
  | .iadd => lx_ii (fun x y => x + y) pc L st h
  | .isub => lx_ii (fun x y => x - y) pc L st h
  | .imul => lx_ii (fun x y => x * y) pc L st h
  | .iand => lx_ii (fun x y => x &&& y) pc L st h
  | .ior => lx_ii (fun x y => x ||| y) pc L st h
  | .ixor => lx_ii (fun x y => x ^^^ y) pc L st h
  | .idiv => lx_iid (fun x y => x / y) pc L st h
  | .irem => lx_iid (fun x y => x - x / y * y) pc L st h
  | .ineg => lx_i1 (fun x => -x) pc L st h
  | .ishl => lx_ii (fun x y => x <<< (y &&& 31)) pc L st h
  | .ishr => lx_ii (fun x y => x >>> (y &&& 31)) pc L st h
  | .iushr => lx_ii (fun x y => (x.toUInt32 >>> (y.toUInt32 &&& Int32.toUInt32 31)).toInt32) pc L st h
  | .ladd => lx_ll (fun x y => x + y) pc L st h
  | .lsub => lx_ll (fun x y => x - y) pc L st h
  | .lmul => lx_ll (fun x y => x * y) pc L st h
  | .land => lx_ll (fun x y => x &&& y) pc L st h
  | .lor => lx_ll (fun x y => x ||| y) pc L st h
  | .lxor => lx_ll (fun x y => x ^^^ y) pc L st h
  | .ldiv => lx_lld (fun x y => x / y) pc L st h
  | .lrem => lx_lld (fun x y => x - x / y * y) pc L st h
  | .lneg => lx_l1 (fun x => -x) pc L st h
  | .lshl => lx_li (fun x y => x <<< (y.toInt64 &&& 63)) pc L st h
  | .lshr => lx_li (fun x y => x >>> (y.toInt64 &&& 63)) pc L st h
  | .lushr => lx_li (fun x y => (x.toUInt64 >>> (y.toInt64.toUInt64 &&& Int64.toUInt64 63)).toInt64) pc L st h
  | .lcmp => lx_lc pc L st h
  | .i2l => lx_i2 (fun x => x.toInt64) pc L st h
  | .l2i => lx_l2 pc L st h
  | .i2b => lx_i1 (fun x => x.toInt8.toInt32) pc L st h
  | .i2s => lx_i1 (fun x => x.toInt16.toInt32) pc L st h
  | .i2c => lx_i1 (fun x => (x.toUInt32 % 65536).toInt32) pc L st h
  | .dup => lx_dup pc L st h
  | .pop => lx_pop pc L st h
  | .pop2 => lx_pop2 pc L st h
  | .dup_x1 => lx_dupx1 pc L st h
  | .dup_x2 => lx_dupx2 pc L st h
  | .dup2 => lx_dup2 pc L st h
  | .ifCond .eq o => lx_if1 (fun x => decide (x = 0)) pc o L st h
  | .ifCond .ne o => lx_if1 (fun x => !decide (x = 0)) pc o L st h
  | .ifCond .lt o => lx_if1 (fun x => decide (x < 0)) pc o L st h
  | .ifCond .ge o => lx_if1 (fun x => decide (0 ≤ x)) pc o L st h
  | .ifCond .gt o => lx_if1 (fun x => decide (0 < x)) pc o L st h
  | .ifCond .le o => lx_if1 (fun x => decide (x ≤ 0)) pc o L st h
  | .if_icmp .eq o => lx_if2 (fun x y => decide (x = y)) pc o L st h
  | .if_icmp .ne o => lx_if2 (fun x y => !decide (x = y)) pc o L st h
  | .if_icmp .lt o => lx_if2 (fun x y => decide (x < y)) pc o L st h
  | .if_icmp .ge o => lx_if2 (fun x y => decide (y ≤ x)) pc o L st h
  | .if_icmp .gt o => lx_if2 (fun x y => decide (y < x)) pc o L st h
  | .if_icmp .le o => lx_if2 (fun x y => decide (x ≤ y)) pc o L st h
  | .ifnull o => lx_nul true pc o L st h
  | .ifnonnull o => lx_nul false pc o L st h
  | .goto o => lx_jmp pc o L st h
  | .tableswitch dflt lo hi offs => lx_tsw pc dflt lo hi offs L st h
  | .lookupswitch dflt ps => lx_lsw pc dflt ps L st h
  | .iaload => lx_ald kc (fun t => t == 0) pc L st h
  | .caload => lx_ald kc (fun t => t == 1) pc L st h
  | .baload => lx_ald kc (fun t => t == 3 || t == 4) pc L st h
  | .laload => lx_all kc pc L st h
  | .aaload => lx_alq pc L st h
  | .iastore => lx_ast (fun t => t == 0) (fun _ x => x) pc L st h
  | .castore => lx_ast (fun t => t == 1) (fun _ x => vp_nar .char x) pc L st h
  | .bastore => lx_ast (fun t => t == 3 || t == 4) (fun t x => if t = 3 then vp_nar .byte x else vp_nar .boolean x) pc L st h
  | .lastore => lx_asl pc L st h
  | .aastore => lx_asq pc L st h
  | .arraylength => lx_len kc pc L st h
  | .new idx => lx_new m idx pc L st h
  | .newarray .int => lx_nwa 0 4 (.inl (fun _ => 0)) pc L st h
  | .newarray .char => lx_nwa 1 2 (.inl (fun _ => 0)) pc L st h
  | .newarray .long => lx_nwa 2 8 (.inr (.inl (fun _ => 0))) pc L st h
  | .newarray .byte => lx_nwa 3 1 (.inl (fun _ => 0)) pc L st h
  | .newarray .boolean => lx_nwa 4 1 (.inl (fun _ => 0)) pc L st h
  | .anewarray idx => lx_nwq m idx pc L st h
  | .getfield idx => lx_gf kc m idx pc L st h
  | .putfield idx => lx_pf m idx pc L st h
  | .getstatic idx => lx_psh (xG m idx) pc 3 L st h
  | .ldc idx => lx_ps1 (xD m idx) pc 2 L st h
  | .ldc_w idx => lx_ps1 (xD m idx) pc 3 L st h
  | .ldc2_w idx => lx_ps2 (xD m idx) pc 3 L st h
  | .invokestatic idx => if xP m idx = some 4 then none else lx_nat (xP m idx) pc L st h
  | .invokespecial idx => if xP m idx = some 4 then lx_oi pc L st h else none
  | _ => none
/-- an answer -/
noncomputable def lx_ret (m : Nat) (i : Instr) (st : List Value) : Option (Option Value) := match i with
  | .return_ => match st, xR m with
    | [], none => some none
    | _, _ => none
  | .ireturn => match st, xR m with
    | [.int v], some ty => if narrow ty (.int v) = .int v then some (some (.int v)) else none
    | _, _ => none
  | .lreturn => match st, xR m with
    | [.long v], some .long => some (some (.long v))
    | _, _ => none
  | .areturn => match st, xR m with
    | [.ref v], some (.object _) => some (some (.ref v))
    | [.ref v], some (.array _) => some (some (.ref v))
    | [.null], some (.object _) => some (some .null)
    | [.null], some (.array _) => some (some .null)
    | _, _ => none
  | _ => none
/-- the receiver of a virtual call (w 2, 3) is an object, or a literal, of just the callee's class -/
noncomputable def lx_rcv (kc : List va_E) (k w : Nat) (h : lx_H) (As : List Value) : Bool := match As with
  | .ref b :: _ => if w = 2 ∨ w = 3 then match lx_at kc h b with
    | some (.inr (ci, _)) => ci == xKc k
    | _ => false else true
  | _ => !(w == 2 || w == 3 || w == 4 || w == 5)
/-- the run: fuel, depth, method, place, locals, stack, heap -/
noncomputable def lx_go (kc : List va_E) : Nat → Nat → Nat → Nat → lx_L → List Value → lx_H → Option (Option Value × lx_H)
  | 0, _, _, _, _, _, _ => none
  | n + 1, d, m, pc, L, st, h => match xI m pc with
    | none => none
    | some i => match lx_ret m i st with
      | some v => some (v, h)
      | none => match xS m i with
        | some (k, a, w) => match d with
          | 0 => none
          | d + 1 => if (decide (a ≤ st.length) && decide (((st.drop a).map fun v => v.category).sum ≤ 8) && decide ((lg_sl (st.take a).reverse).length ≤ xM k) && lx_rcv kc k w h (st.take a).reverse) = true then match lx_go kc n d k 0 (lv_args 0 (st.take a).reverse) [] h with
            | none => none
            | some r => lx_go kc n (d + 1) m (pc + 3) L (r.1.toList ++ st.drop a) r.2
            else none
        | none => match lx_ins kc m pc i L st h with
          | none => none
          | some r => lx_go kc n d m r.1 r.2.1 r.2.2.1 r.2.2.2
