/-! FORMS: a rule's key. -/
/-- bits that lie apart -/
theorem fx_or_add {a b : Int} (k : Nat) (ha : 0 ≤ a) (hb : 0 ≤ b ∧ b < ((2 ^ k : Nat) : Int)) (hs : a * ((2 ^ k : Nat) : Int) + b < 2147483648) : fx_or (a * ((2 ^ k : Nat) : Int)) b = a * ((2 ^ k : Nat) : Int) + b := by
  obtain ⟨x, rfl⟩ : ∃ x : Nat, a = (x : Int) := ⟨a.toNat, by omega⟩
  obtain ⟨y, rfl⟩ : ∃ y : Nat, b = (y : Int) := ⟨b.toNat, by omega⟩
  have hy : y < 2 ^ k := by omega
  have e1 : (x : Int) * ((2 ^ k : Nat) : Int) = ((x * 2 ^ k : Nat) : Int) := by rw [Int.natCast_mul]
  rw [e1] at hs ⊢
  have h1 : x * 2 ^ k + y < 2147483648 := by omega
  rw [fx_or_nat ⟨by omega, by omega⟩ ⟨by omega, by omega⟩, Int.toNat_natCast, Int.toNat_natCast, Nat.mul_comm, ← Nat.two_pow_add_eq_or_of_lt hy x]
  omega
theorem fx_shl_eq {x : Int} {s : Int} (hs : 0 ≤ s ∧ s < 31) (hx : 0 ≤ x ∧ x * ((2 ^ s.toNat : Nat) : Int) < 2147483648) : fx_shl x s = x * ((2 ^ s.toNat : Nat) : Int) := by
  obtain ⟨n, rfl⟩ : ∃ n : Nat, x = (n : Int) := ⟨x.toNat, by omega⟩
  have hp : 1 ≤ 2 ^ s.toNat := Nat.one_le_two_pow
  have e1 : (n : Int) * ((2 ^ s.toNat : Nat) : Int) = ((n * 2 ^ s.toNat : Nat) : Int) := by rw [Int.natCast_mul]
  rw [e1] at hx ⊢
  have hn : n ≤ n * 2 ^ s.toNat := Nat.le_mul_of_pos_right n (by omega)
  have e2 : (((n : Nat) : Int) % 4294967296).toNat = n := by omega
  unfold fx_shl
  rw [← Int32.toInt_toBitVec, Int32.toBitVec_shiftLeft, BitVec.shiftLeft_eq', BitVec.toInt_shiftLeft, fx_amt ⟨hs.1, by omega⟩, Int32.toBitVec_ofInt, fx_tn32, e2, Nat.shiftLeft_eq]
  exact fx_bmod (by omega)
/-- the digits of a rule's number, four bits each -/
def dgt (n : Int) : Int := if n < 10 then n * 16 else n / 10 * 16 + (n % 10 + 1)
/-- cells, four bits each -/
def cel (a : Int) (l : List Int) : Int := l.foldl (fun a c => a * 16 + (c + 1)) a
def kyR (R : PR) : Int := R.1 * 16777216 + dgt R.2.1 * 65536 + cel 0 R.2.2 * ((16 ^ (4 - R.2.2.length) : Nat) : Int)
/-- a rule of the variant, its cells in order -/
def nRl (w h m : Int) (R : PR) : PR := (R.1, R.2.1, orC R.1 (R.2.2.map (mpC w h m)))
theorem cel_s {a c : Int} {l : List Int} : cel a (l ++ [c]) = cel a l * 16 + (c + 1) := by
  unfold cel
  rw [List.foldl_append]
  rfl
theorem cel_b : ∀ {l : List Int}, (∀ c ∈ l, 0 ≤ c ∧ c < 9) → 0 ≤ cel 0 l ∧ cel 0 l < ((16 ^ l.length : Nat) : Int) := by
  have gen : ∀ (l : List Int) (a : Int) (n : Nat), 0 ≤ a ∧ a < ((16 ^ n : Nat) : Int) → (∀ c ∈ l, 0 ≤ c ∧ c < 9) → 0 ≤ cel a l ∧ cel a l < ((16 ^ (n + l.length) : Nat) : Int) := by
    intro l
    induction l with
    | nil => exact fun a n h _ => h
    | cons c l ih =>
      intro a n h hl
      have hc := hl c (List.mem_cons_self ..)
      have := ih (a * 16 + (c + 1)) (n + 1) ⟨by omega, by
        rw [Nat.pow_succ, Int.natCast_mul]
        have : ((16 : Nat) : Int) = 16 := rfl
        omega⟩ (fun x hx => hl x (List.mem_cons_of_mem _ hx))
      rw [List.length_cons, show n + (l.length + 1) = n + 1 + l.length by omega]
      exact this
  intro l hl
  have := gen l 0 0 ⟨by omega, by decide⟩ hl
  rw [Nat.zero_add] at this
  exact this
theorem dgt_b {n : Int} (h : 0 ≤ n ∧ n ≤ 99) : 0 ≤ dgt n ∧ dgt n < 160 := by
  unfold dgt
  split <;> omega
section KEY
variable {kc : List va_E} {d p : Nat} {Q : Option fx_V → fx_M → Prop} {M : fx_M} {Z : PZ}
/-- which of a rule's cells keep their place, which are taken together -/
def ordP (k : Int) (l : List Int) : List Int := if k = 4 ∨ k = 1 ∨ k = 5 then l else if k = 2 then l.take 1 else []
def setP (k : Int) (l : List Int) : List Int := if k = 4 ∨ k = 1 ∨ k = 5 then [] else if k = 2 then l.drop 1 else l
theorem orC_P {k : Int} {l : List Int} : orC k l = ordP k l ++ srC (setP k l) := by
  have e : srC [] = [] := by decide
  unfold orC ordP setP
  split
  · rw [e, List.append_nil]
  · split
    · rfl
    · rfl
theorem fl_or {v x : Int} (hv : 0 ≤ v ∧ v < 4096) (hx : 0 ≤ x ∧ x < 9) : fx_or (fx_shl v 4) (x + 1) = v * 16 + (x + 1) := by
  rw [fx_shl_eq ⟨by omega, by omega⟩ ⟨hv.1, by show v * 16 < _; omega⟩]
  exact fx_or_add 4 hv.1 ⟨by omega, by show x + 1 < 16; omega⟩ (by show v * 16 + (x + 1) < _; omega)
theorem len_sum {α : Type} : ∀ l : List α, sumN (fun _ => 1) l = l.length
  | [] => rfl
  | a :: l => by
    rw [sumN, len_sum l, List.length_cons]
    omega
theorem ris_nodup {α : Type} {f : α → Int} {l : List α} (h : ris f l) : l.Nodup := List.Pairwise.imp (fun hlt e => by rw [e] at hlt; omega) h
theorem srC_len {l : List Int} (hn : l.Nodup) (hl : ∀ c ∈ l, 0 ≤ c ∧ c < 9) : (srC l).length = l.length := by
  rw [← len_sum, ← len_sum]
  exact sumN_same (ris_nodup srC_ris) hn (srC_mem hl)
theorem PS_mem {k : Int} {l : List Int} : (∀ c ∈ ordP k l, c ∈ l) ∧ (∀ c ∈ setP k l, c ∈ l) := by
  unfold ordP setP
  by_cases h1 : k = 4 ∨ k = 1 ∨ k = 5
  · rw [if_pos h1, if_pos h1]
    exact ⟨fun c h => h, fun c h => absurd h List.not_mem_nil⟩
  · rw [if_neg h1, if_neg h1]
    by_cases h2 : k = 2
    · rw [if_pos h2, if_pos h2]
      exact ⟨fun c h => List.mem_of_mem_take h, fun c h => List.mem_of_mem_drop h⟩
    · rw [if_neg h2, if_neg h2]
      exact ⟨fun c h => absurd h List.not_mem_nil, fun c h => h⟩
theorem PS_nd {k : Int} {l : List Int} (h : l.Nodup) : (setP k l).Nodup ∧ (ordP k l).length + (setP k l).length = l.length := by
  unfold ordP setP
  split
  · exact ⟨List.nodup_nil, by rw [List.length_nil]; omega⟩
  · split
    · exact ⟨List.Nodup.sublist (List.drop_sublist 1 l) h, by rw [List.length_take, List.length_drop]; omega⟩
    · exact ⟨h, by rw [List.length_nil]; omega⟩
theorem orC_len {k : Int} {l : List Int} (hn : l.Nodup) (hl : ∀ c ∈ l, 0 ≤ c ∧ c < 9) : (orC k l).length = l.length := by
  have h1 := PS_nd (k := k) hn
  rw [orC_P, List.length_append, srC_len h1.1 (fun c hc => hl c (PS_mem.2 c hc))]
  exact h1.2
theorem orC_mem {k : Int} {l : List Int} (hl : ∀ c ∈ l, 0 ≤ c ∧ c < 9) {c : Int} (h : c ∈ orC k l) : c ∈ l := by
  rw [orC_P] at h
  rcases List.mem_append.mp h with e | e
  · exact PS_mem.1 c e
  · exact PS_mem.2 c ((srC_mem (fun x hx => hl x (PS_mem.2 x hx)) c).mp e)
/-- the first cells of the set -/
def srP (l : List Int) (c : Nat) : List Int := ((List.range c).map (fun i : Nat => (i : Int))).filter (fun x => l.contains x)
theorem srP_s {l : List Int} {c : Nat} : srP l (c + 1) = srP l c ++ (if l.contains (c : Int) = true then [(c : Int)] else []) := by
  unfold srP
  rw [List.range_succ, List.map_append, List.filter_append, List.map_cons, List.map_nil, List.filter_cons]
  rfl
theorem srP_le {l : List Int} {c : Nat} (hc : c ≤ 9) : (srP l c).length ≤ (srC l).length := by
  have : ∀ n : Nat, (srP l c).length ≤ (srP l (c + n)).length := by
    intro n
    induction n with
    | zero => exact Nat.le_refl _
    | succ n ih =>
      rw [show c + (n + 1) = c + n + 1 by omega, srP_s, List.length_append]
      omega
  have h := this (9 - c)
  rw [show c + (9 - c) = 9 by omega] at h
  exact h
theorem PS_s {k c : Int} {l : List Int} {i : Nat} (hi : l.length = i) : ordP k (l ++ [c]) = (if k = 4 ∨ k = 1 ∨ k = 5 ∨ (k = 2 ∧ i = 0) then ordP k l ++ [c] else ordP k l) ∧ setP k (l ++ [c]) = (if k = 4 ∨ k = 1 ∨ k = 5 ∨ (k = 2 ∧ i = 0) then setP k l else setP k l ++ [c]) := by
  unfold ordP setP
  by_cases h1 : k = 4 ∨ k = 1 ∨ k = 5
  · rw [if_pos h1, if_pos h1, if_pos h1, if_pos h1, if_pos (by omega), if_pos (by omega)]
    exact ⟨rfl, rfl⟩
  · rw [if_neg h1, if_neg h1, if_neg h1, if_neg h1]
    by_cases h2 : k = 2
    · rw [if_pos h2, if_pos h2, if_pos h2, if_pos h2]
      by_cases h0 : i = 0
      · have e : l = [] := List.length_eq_zero_iff.mp (by omega)
        subst e
        rw [if_pos (by omega), if_pos (by omega)]
        exact ⟨rfl, rfl⟩
      · rw [if_neg (by omega), if_neg (by omega), List.take_append_of_le_length (by omega), List.drop_append_of_le_length (by omega)]
        exact ⟨rfl, rfl⟩
    · rw [if_neg h2, if_neg h2, if_neg h2, if_neg h2, if_neg (by omega), if_neg (by omega)]
      exact ⟨rfl, rfl⟩
theorem dg_or {n : Int} (h : 0 ≤ n ∧ n ≤ 99) : (if n < 10 then fx_shl n 4 else fx_or (fx_shl (n / 10) 4) (n % 10 + 1)) = dgt n := by
  unfold dgt
  split
  · exact fx_shl_eq ⟨by omega, by omega⟩ ⟨h.1, by show n * 16 < _; omega⟩
  · rw [fx_shl_eq ⟨by omega, by omega⟩ ⟨by omega, by show n / 10 * 16 < _; omega⟩]
    exact fx_or_add 4 (by omega) ⟨by omega, by show n % 10 + 1 < 16; omega⟩ (by show n / 10 * 16 + (n % 10 + 1) < _; omega)
theorem ky_or {k g c : Int} {n : Nat} (hk : 0 ≤ k ∧ k < 8) (hg : 0 ≤ g ∧ g < 256) (hn : n ≤ 4) (hc : 0 ≤ c ∧ c < ((16 ^ n : Nat) : Int)) : fx_or (fx_or (fx_shl k 24) (fx_shl g 16)) (fx_shl c (16 - 4 * (n : Int))) = k * 16777216 + g * 65536 + c * ((16 ^ (4 - n) : Nat) : Int) := by
  have e1 : fx_shl k 24 = k * 16777216 := fx_shl_eq ⟨by omega, by omega⟩ ⟨hk.1, by show k * 16777216 < _; omega⟩
  have e2 : fx_shl g 16 = g * 65536 := fx_shl_eq ⟨by omega, by omega⟩ ⟨hg.1, by show g * 65536 < _; omega⟩
  have ep : ((2 ^ (16 - 4 * (n : Int)).toNat : Nat) : Int) = ((16 ^ (4 - n) : Nat) : Int) := by
    rcases (by omega : n = 0 ∨ n = 1 ∨ n = 2 ∨ n = 3 ∨ n = 4) with e | e | e | e | e <;> subst e <;> rfl
  have hb : c * ((16 ^ (4 - n) : Nat) : Int) < 65536 ∧ 0 ≤ c * ((16 ^ (4 - n) : Nat) : Int) := by
    rcases (by omega : n = 0 ∨ n = 1 ∨ n = 2 ∨ n = 3 ∨ n = 4) with e | e | e | e | e <;> subst e
    · have h16 : ((16 ^ 0 : Nat) : Int) = 1 := rfl
      have h17 : ((16 ^ (4 - 0) : Nat) : Int) = 65536 := rfl
      omega
    · have h16 : ((16 ^ 1 : Nat) : Int) = 16 := rfl
      have h17 : ((16 ^ (4 - 1) : Nat) : Int) = 4096 := rfl
      omega
    · have h16 : ((16 ^ 2 : Nat) : Int) = 256 := rfl
      have h17 : ((16 ^ (4 - 2) : Nat) : Int) = 256 := rfl
      omega
    · have h16 : ((16 ^ 3 : Nat) : Int) = 4096 := rfl
      have h17 : ((16 ^ (4 - 3) : Nat) : Int) = 16 := rfl
      omega
    · have h16 : ((16 ^ 4 : Nat) : Int) = 65536 := rfl
      have h17 : ((16 ^ (4 - 4) : Nat) : Int) = 1 := rfl
      omega
  have e3 : fx_shl c (16 - 4 * (n : Int)) = c * ((16 ^ (4 - n) : Nat) : Int) := by
    rw [fx_shl_eq ⟨by omega, by omega⟩ ⟨hc.1, by rw [ep]; omega⟩, ep]
  have e4 : fx_or (k * 16777216) (g * 65536) = k * 16777216 + g * 65536 := fx_or_add 24 hk.1 ⟨by omega, by show g * 65536 < 16777216; omega⟩ (by show k * 16777216 + g * 65536 < _; omega)
  have e5 := fx_or_add (a := k * 256 + g) (b := c * ((16 ^ (4 - n) : Nat) : Int)) 16 (by omega) ⟨hb.2, by show _ < (65536 : Int); omega⟩ (by show (k * 256 + g) * 65536 + _ < _; omega)
  have e6 : (k * 256 + g) * ((2 ^ 16 : Nat) : Int) = k * 16777216 + g * 65536 := by
    show (k * 256 + g) * 65536 = _
    omega
  rw [e6] at e5
  rw [e1, e2, e3, e4, e5]
theorem sp_keyOf {f r : Nat} {m : Int} {R : PR} (Hf : fx_frm f) (Hp : fx_puz p) (hz : cz M p Z) (ho : pz_ok Z) (hm : 0 ≤ m ∧ m < mps Z.1 Z.2.1) (hR : Z.2.2.2.1[r]? = some R) (K : Q (some (jI (kyR (nRl Z.1 Z.2.1 m R)))) M) : wc kc (d + 2) 150 [jR f, jR p, jI m, jI r] M Q := by
  have h9 := pz_n ho
  have hrl := (List.getElem?_eq_some_iff.mp hR).1
  have h12 := ho.2.2.2.2.2.2.1
  obtain ⟨a1, a2, a3, a4, a5⟩ := hz.2.2.2.2.2.1 r R hR
  have hRok := ho.2.2.2.2.2.2.2.1 R (List.mem_of_getElem? hR)
  have hvk := vrR_ok ⟨ho.1, ho.2.1⟩ ⟨ho.2.2.1, ho.2.2.2.1⟩ hm hRok
  obtain ⟨r1, r2, r3, r4, r5, r6, r7, r8⟩ := hRok
  have hl9 : ∀ c ∈ R.2.2.map (mpC Z.1 Z.2.1 m), 0 ≤ c ∧ c < 9 := fun c hc => by
    have := hvk.2.2.2.2.2.2.1 c hc
    omega
  have hnd : (R.2.2.map (mpC Z.1 Z.2.1 m)).Nodup := hvk.2.2.2.2.2.2.2
  have hll : (R.2.2.map (mpC Z.1 Z.2.1 m)).length = R.2.2.length := List.length_map ..
  have hol := orC_len (k := R.1) hnd hl9
  have hdg := dgt_b ⟨r3, r4⟩
  unfold kyR nRl at K
  dsimp only at K
  rw [hol, hll] at K
  have hPS := PS_nd (k := R.1) hnd
  have hsl := srC_len hPS.1 (fun c hc => hl9 c (PS_mem.2 c hc))
  generalize hlg : R.2.2.map (mpC Z.1 Z.2.1 m) = l at K hl9 hnd hll hol hPS hsl
  -- the set, cell by cell
  have z2 : ∀ (u c : Nat), c + u = 9 → wp kc (d + 2) 150 150 [none, none, none, none, some (jI R.1), none, some (jI (dgt R.2.1)), some (jI (area (setP R.1 l))), some (jI (cel 0 (ordP R.1 l ++ srP (setP R.1 l) c))), some (jI R.2.2.length), some (jI c), none] [] M Q := by
    intro u
    induction u with
    | zero =>
      intro c hc
      have e9 : c = 9 := by omega
      subst e9
      have e : ordP R.1 l ++ srP (setP R.1 l) 9 = orC R.1 l := orC_P.symm
      rw [e]
      have hcb := cel_b (l := orC R.1 l) (fun c hc => hl9 c (orC_mem hl9 hc))
      rw [hol, hll] at hcb
      refine s150_150 Hf Hp ⟨⟨by omega, by omega⟩, fun _ => ?_, fun h => by omega⟩
      rw [ky_or ⟨r1, r2⟩ ⟨by omega, by omega⟩ r6 hcb]
      exact K
    | succ u ih =>
      intro c hc
      have ht := area_test (l := setP R.1 l) (c := (c : Int)) (fun x hx => by have := hl9 x (PS_mem.2 x hx); omega) ⟨by omega, by omega⟩
      have nx := ih (c + 1) (by omega)
      rw [srP_s, ← List.append_assoc] at nx
      refine s150_150 Hf Hp ?_
      rw [ht]
      by_cases hmem : (c : Int) ∈ setP R.1 l
      · rw [if_pos (List.contains_iff_mem.mpr hmem), cel_s] at nx
        rw [if_pos hmem]
        have hp1 : (srP (setP R.1 l) (c + 1)).length ≤ (srC (setP R.1 l)).length := srP_le (by omega)
        rw [srP_s, if_pos (List.contains_iff_mem.mpr hmem), List.length_append, List.length_singleton] at hp1
        have hcb := cel_b (l := ordP R.1 l ++ srP (setP R.1 l) c) (fun x hx => by
          rcases List.mem_append.mp hx with e | e
          · exact hl9 x (PS_mem.1 x e)
          · unfold srP at e
            exact hl9 x (PS_mem.2 x (List.contains_iff_mem.mp (List.mem_filter.mp e).2)))
        have h3 : (ordP R.1 l ++ srP (setP R.1 l) c).length ≤ 3 := by
          rw [List.length_append]
          omega
        have hpw : (16 ^ (ordP R.1 l ++ srP (setP R.1 l) c).length : Nat) ≤ 16 ^ 3 := Nat.pow_le_pow_right (by decide) h3
        have h43 : (16 ^ 3 : Nat) = 4096 := rfl
        have e1 : (if (1 : Int) = 0 then cel 0 (ordP R.1 l ++ srP (setP R.1 l) c) else fx_or (fx_shl (cel 0 (ordP R.1 l ++ srP (setP R.1 l) c)) 4) ((c : Int) + 1)) = cel 0 (ordP R.1 l ++ srP (setP R.1 l) c) * 16 + ((c : Int) + 1) := by
          rw [if_neg (by decide), fl_or ⟨hcb.1, by omega⟩ ⟨by omega, by omega⟩]
        rw [e1]
        rw [show ((c + 1 : Nat) : Int) = (c : Int) + 1 by omega] at nx
        exact ⟨⟨by omega, by omega⟩, fun h => by omega, fun _ => ⟨⟨by omega, by omega⟩, nx⟩⟩
      · rw [if_neg (fun x => hmem (List.contains_iff_mem.mp x)), List.append_nil] at nx
        rw [if_neg hmem]
        rw [show ((c + 1 : Nat) : Int) = (c : Int) + 1 by omega] at nx
        exact ⟨⟨by omega, by omega⟩, fun h => by omega, fun _ => ⟨⟨by omega, by omega⟩, nx⟩⟩
  -- the cells one by one
  have z1 : ∀ (u i : Nat), i + u = R.2.2.length → wp kc (d + 2) 150 64 [none, some (jR p), some (jI m), some (jI r), some (jI R.1), none, some (jI (dgt R.2.1)), some (jI (area (setP R.1 (l.take i)))), some (jI (cel 0 (ordP R.1 (l.take i)))), some (jI R.2.2.length), some (jI i), none] [] M Q := by
    intro u
    induction u with
    | zero =>
      intro i hi
      rw [List.take_of_length_le (by omega)]
      have nx := z2 9 0 (by omega)
      have e0 : srP (setP R.1 l) 0 = [] := rfl
      rw [e0, List.append_nil] at nx
      exact s150_64 Hf Hp ⟨⟨⟨by omega, by omega⟩, ⟨by omega, by omega⟩⟩, fun _ => nx, fun h => by omega⟩
    | succ u ih =>
      intro i hi
      have hil : i < R.2.2.length := by omega
      have hil2 : i < l.length := by omega
      have hcx : M (p + 4) (4 * (r : Int) + i) = R.2.2[i] := by
        rw [a4 i (by omega), List.getD_eq_getElem?_getD, List.getElem?_eq_getElem hil]
        rfl
      have hcb := r7 _ (List.getElem_mem hil)
      have hli : l[i] = mpC Z.1 Z.2.1 m R.2.2[i] := by
        have : (R.2.2.map (mpC Z.1 Z.2.1 m))[i]? = some (mpC Z.1 Z.2.1 m R.2.2[i]) := by
          rw [List.getElem?_map, List.getElem?_eq_getElem hil]
          rfl
        rw [hlg, List.getElem?_eq_getElem hil2] at this
        exact Option.some.inj this
      have hlb := hl9 _ (List.getElem_mem hil2)
      have hti : (l.take i).length = i := by
        rw [List.length_take]
        omega
      have hPS2 := PS_s (k := R.1) (c := l[i]) hti
      have nx := ih (i + 1) (by omega)
      rw [List.take_succ_eq_append_getElem hil2, hPS2.1, hPS2.2, show ((i + 1 : Nat) : Int) = (i : Int) + 1 by omega] at nx
      refine s150_64 Hf Hp ?_
      rw [hcx]
      refine ⟨⟨⟨by omega, by omega⟩, ⟨by omega, by omega⟩⟩, fun h => by omega, fun _ => ⟨⟨by omega, by omega⟩, sp_mapped (d := d) Hp hz ho hm ⟨by omega, by omega⟩ (s150_87 Hf Hp ?_)⟩⟩
      rw [if_pos hcb.2, ← hli]
      refine ⟨⟨by omega, by omega⟩, fun _ => ⟨by omega, by omega⟩, fun _ _ => ⟨by omega, by omega⟩, fun _ _ _ => ⟨by omega, by omega⟩, fun _ _ _ _ => ⟨by omega, by omega⟩, ?_⟩
      have hcb2 := cel_b (l := ordP R.1 (l.take i)) (fun x hx => hl9 x (List.mem_of_mem_take (PS_mem.1 x hx)))
      have hnd2 : (l.take i).Nodup := List.Nodup.sublist (List.take_sublist i l) hnd
      have h3 : (ordP R.1 (l.take i)).length ≤ 3 := by
        have := (PS_nd (k := R.1) hnd2).2
        omega
      have hpw : (16 ^ (ordP R.1 (l.take i)).length : Nat) ≤ 16 ^ 3 := Nat.pow_le_pow_right (by decide) h3
      have h43 : (16 ^ 3 : Nat) = 4096 := rfl
      have ef : fx_or (fx_shl (cel 0 (ordP R.1 (l.take i))) 4) (l[i] + 1) = cel 0 (ordP R.1 (l.take i)) * 16 + (l[i] + 1) := fl_or ⟨hcb2.1, by omega⟩ hlb
      have ea : fx_or (area (setP R.1 (l.take i))) (fx_shl 1 l[i]) = area (setP R.1 (l.take i) ++ [l[i]]) := (area_app _ _).symm
      rw [ef, ea]
      by_cases h4 : R.1 = 4
      · rw [if_pos (Or.inl h4), if_pos (Or.inl h4), cel_s] at nx
        rw [if_pos h4, if_pos h4]
        exact nx
      · rw [if_neg h4, if_neg h4]
        by_cases h1 : R.1 = 1
        · rw [if_pos (by omega), if_pos (by omega), cel_s] at nx
          rw [if_pos h1, if_pos h1]
          exact nx
        · rw [if_neg h1, if_neg h1]
          by_cases h5 : R.1 = 5
          · rw [if_pos (by omega), if_pos (by omega), cel_s] at nx
            rw [if_pos h5, if_pos h5]
            exact nx
          · rw [if_neg h5, if_neg h5]
            by_cases h2 : R.1 = 2
            · rw [if_pos h2, if_pos h2]
              by_cases hi0 : i = 0
              · rw [if_pos (by omega), if_pos (by omega), cel_s] at nx
                rw [if_pos (by omega), if_pos (by omega)]
                exact nx
              · rw [if_neg (by omega), if_neg (by omega)] at nx
                rw [if_neg (by omega), if_neg (by omega)]
                exact nx
            · rw [if_neg (by omega), if_neg (by omega)] at nx
              rw [if_neg h2, if_neg h2]
              exact nx
  refine s150 Hf Hp ?_
  rw [a1, a2, a3, dg_or ⟨r3, r4⟩]
  have nx := z1 R.2.2.length 0 (by omega)
  have eo : ordP R.1 (l.take 0) = [] ∧ setP R.1 (l.take 0) = [] := by
    rw [List.take_zero]
    unfold ordP setP
    by_cases h1 : R.1 = 4 ∨ R.1 = 1 ∨ R.1 = 5
    · rw [if_pos h1, if_pos h1]
      exact ⟨rfl, rfl⟩
    · rw [if_neg h1, if_neg h1]
      by_cases h2 : R.1 = 2
      · rw [if_pos h2, if_pos h2]
        exact ⟨rfl, rfl⟩
      · rw [if_neg h2, if_neg h2]
        exact ⟨rfl, rfl⟩
  rw [eo.1, eo.2] at nx
  exact ⟨⟨by omega, by omega⟩, ⟨by omega, by omega⟩, ⟨by omega, by omega⟩, fun _ => ⟨by omega, by omega⟩, fun _ => ⟨by omega, by omega⟩, ⟨by omega, by omega⟩, nx⟩
end KEY
