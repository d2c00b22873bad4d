/-! THE START: both constructors run (by the kernel), the heap behind them is that of a memory. -/
def fx_gv : Value → Int
  | .int x => x.toInt
  | .long x => x.toInt
  | .ref a => a
  | _ => 0
def fx_ge (e : va_E) (k : Int) : Int := match e with
  | .inl (_, _, .inl f) => (f k.toNat).toInt
  | .inl (_, _, .inr (.inl f)) => (f k.toNat).toInt
  | .inl (_, _, .inr (.inr (.inr (.inr f)))) => match f k.toNat with
    | none => -1
    | some a => a
  | .inl _ => 0
  | .inr (_, fs) => match fs[k.toNat]? with
    | some v => fx_gv v
    | none => 0
def fx_of (h : lx_H) : fx_M := fun a k => match h[a]? with
  | some e => fx_ge e k
  | none => 0
def fx_lkv (k : Nat) (v : Value) : Bool := match k, v with
  | 0, .int _ => true
  | 1, .long _ => true
  | 2, .ref _ => true
  | c + 3, .ref a => a == c
  | _, _ => false
def fx_lkf : List Nat → List Value → Bool
  | [], [] => true
  | k :: ks, v :: vs => fx_lkv k v && fx_lkf ks vs
  | _, _ => false
def fx_lkc (s : fx_S) (e : va_E) : Bool := match s, e with
  | .inl (t, n), .inl (t', n', f) => t == t' && n == n' && (match f with
    | .inl _ => t != 2 && t != 5
    | .inr (.inl _) => t == 2
    | .inr (.inr (.inr (.inr g))) => t == 5 && (List.range 6).all fun k => g k == some (71 + 9 * k)
    | _ => false)
  | .inr (c, ks), .inr (c', vs) => c == c' && fx_lkf ks vs
  | _, _ => false
def fx_lk : List fx_S → lx_H → Bool
  | [], [] => true
  | s :: l, e :: h => fx_lkc s e && fx_lk l h
  | _, _ => false
theorem fx_lkv_ok {k : Nat} {v : Value} (h : fx_lkv k v = true) : fx_fv k (fx_gv v) = v := by
  unfold fx_lkv at h
  split at h
  · next x => exact congrArg Value.int (Int32.ofInt_toInt x)
  · next x => exact congrArg Value.long (Int64.ofInt_toInt x)
  · rfl
  · next c a =>
    have := eq_of_beq h
    subst this
    rfl
  · cases h
theorem fx_lkf_ok : ∀ {ks : List Nat} {vs : List Value} {g : Int → Int} {j : Nat}, (∀ (i : Nat) (v : Value), vs[i]? = some v → g ((j + i : Nat) : Int) = fx_gv v) → fx_lkf ks vs = true → fx_fs ks g j = vs
  | [], [], _, _, _, _ => rfl
  | [], v :: vs, _, _, _, h => by cases h
  | k :: ks, [], _, _, _, h => by cases h
  | k :: ks, v :: vs, g, j, hg, h => by
    have h : (fx_lkv k v && fx_lkf ks vs) = true := h
    rw [Bool.and_eq_true] at h
    have e0 := hg 0 v rfl
    rw [Nat.add_zero] at e0
    have ih := fx_lkf_ok (g := g) (j := j + 1) (fun i w hw => by
      have := hg (i + 1) w (by simpa using hw)
      rwa [show j + (i + 1) = j + 1 + i by omega] at this) h.2
    show fx_fv k (g j) :: fx_fs ks g (j + 1) = v :: vs
    rw [e0, ih, fx_lkv_ok h.1]
theorem fx_lkc_ok {s : fx_S} {e : va_E} (h : fx_lkc s e = true) : fx_cell s (fx_ge e) = e := by
  unfold fx_lkc at h
  split at h
  · next t n t' n' f =>
    rw [Bool.and_eq_true, Bool.and_eq_true] at h
    obtain ⟨⟨h1, h2⟩, h3⟩ := h
    have h1 := eq_of_beq h1
    have h2 := eq_of_beq h2
    subst h1 h2
    show (.inl (t, n, fx_ar t (fx_ge (.inl (t, n, f)))) : va_E) = .inl (t, n, f)
    congr 3
    unfold fx_ar
    split at h3
    · next f =>
      rw [Bool.and_eq_true] at h3
      have a1 : ¬ t = 2 := by simpa using h3.1
      have a2 : ¬ t = 5 := by simpa using h3.2
      rw [if_neg a1, if_neg a2]
      congr 1
      funext k
      exact Int32.ofInt_toInt _
    · next f =>
      have a1 : t = 2 := by simpa using h3
      rw [if_pos a1]
      congr 2
      funext k
      exact Int64.ofInt_toInt _
    · next g =>
      rw [Bool.and_eq_true] at h3
      have a2 : t = 5 := by simpa using h3.1
      have a3 := h3.2
      rw [List.all_eq_true] at a3
      rw [if_neg (by omega), if_pos a2]
      congr 4
      funext k
      unfold fx_pz
      by_cases hk : k < 6
      · rw [if_pos hk]
        exact (eq_of_beq (a3 k (by simpa using hk))).symm
      · rw [if_neg hk]
        show (if (match g k with | none => (-1 : Int) | some a => (a : Int)) < 0 then none else some (match g k with | none => (-1 : Int) | some a => (a : Int)).toNat) = g k
        cases g k with
        | none => rfl
        | some a =>
          show (if (a : Int) < 0 then none else some (a : Int).toNat) = some a
          rw [if_neg (by omega)]
          rfl
    · cases h3
  · next c ks c' vs =>
    rw [Bool.and_eq_true] at h
    have h1 := eq_of_beq h.1
    subst h1
    show (.inr (c, fx_fs ks (fx_ge (.inr (c, vs))) 0) : va_E) = .inr (c, vs)
    rw [fx_lkf_ok (g := fx_ge (.inr (c, vs))) (j := 0) (fun i v hv => ?_) h.2]
    rw [Nat.zero_add]
    show (match vs[((i : Int)).toNat]? with | some v => fx_gv v | none => 0) = fx_gv v
    rw [Int.toNat_natCast, hv]
  · cases h
theorem fx_lk_ok : ∀ {l : List fx_S} {h : lx_H} {M : fx_M} {a : Nat}, (∀ (i : Nat) (e : va_E), h[i]? = some e → M (a + i) = fx_ge e) → fx_lk l h = true → fx_mk l M a = h
  | [], [], _, _, _, _ => rfl
  | [], e :: h, _, _, _, hh => by cases hh
  | s :: l, [], _, _, _, hh => by cases hh
  | s :: l, e :: h, M, a, hM, hh => by
    have hh : (fx_lkc s e && fx_lk l h) = true := hh
    rw [Bool.and_eq_true] at hh
    have e0 := hM 0 e rfl
    rw [Nat.add_zero] at e0
    have ih := fx_lk_ok (M := M) (a := a + 1) (fun i w hw => by
      have := hM (i + 1) w (by simpa using hw)
      rwa [show a + (i + 1) = a + 1 + i by omega] at this) hh.2
    show fx_cell s (M a) :: fx_mk l M (a + 1) = e :: h
    rw [e0, ih, fx_lkc_ok hh.1]
theorem fx_of_ok {h : lx_H} (hh : fx_lk xLay h = true) : fx_hp (fx_of h) = h :=
  fx_lk_ok (fun i e he => by
    funext k
    rw [Nat.zero_add]
    show (match h[i]? with | some e => fx_ge e k | none => 0) = fx_ge e k
    rw [he]) hh
noncomputable def kcb : List va_E := .inr (999, []) :: xKt
theorem kcb_le (L : Nat) (xs : Nat → Int32) : lx_kle kcb (kcs L xs) := by
  intro k e h
  match k, h with
  | 0, h => exact Or.inl (Option.some.inj h).symm
  | k + 1, h => exact Or.inr h
noncomputable def ini_a : Option (Option Value × lx_H) := lx_go kcb 3000 998 0 0 [(0, .ref 0)] [] [.inr (0, xd0)]
noncomputable def ini_b (h : lx_H) : Option (Option Value × lx_H) := lx_go kcb 3000 998 213 0 [(0, .ref 133)] [] (h ++ [.inr (12, xd12)])
