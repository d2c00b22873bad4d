/-! The contest: items; items by their names, on both sides. -/
/-- an item: name, puzzle, points, of each person how often wrong, and when right (-1: not yet) -/
abbrev CI : Type := List Int × PZ × Int × (Nat → Int) × (Nat → Int)
def cct (M : fx_M) (C : List CI) : Prop := M 62 0 = C.length ∧ ∀ (i : Nat) (t : CI), C[i]? = some t → M 64 (i : Int) = t.1.length ∧ (∀ (j : Nat) (c : Int), t.1[j]? = some c → M 63 (8 * (i : Int) + j) = c) ∧ cz M (71 + 9 * i) t.2.1 ∧ M 66 (i : Int) = t.2.2.1 ∧ ∀ p : Nat, p < 3 → M 67 (6 * (p : Int) + i) = t.2.2.2.1 p ∧ M 68 (6 * (p : Int) + i) = t.2.2.2.2 p
def mct (M : fx_M) (C : List CI) : Prop := M 133 89 = C.length ∧ ∀ (i : Nat) (t : CI), C[i]? = some t → M 183 (i : Int) = t.1.length ∧ (∀ (j : Nat) (c : Int), t.1[j]? = some c → M 182 (8 * (i : Int) + j) = c) ∧ mz M (4 + (i : Int)) t.2.1 ∧ M 184 (i : Int) = t.2.2.1 ∧ ∀ p : Nat, p < 3 → M 185 (6 * (p : Int) + i) = t.2.2.2.1 p ∧ (0 ≤ t.2.2.2.2 p → M 186 (6 * (p : Int) + i) = 1 ∧ M 187 (6 * (p : Int) + i) = t.2.2.2.2 p) ∧ (t.2.2.2.2 p < 0 → M 186 (6 * (p : Int) + i) = 0)
/-- a name -/
def nm_ok (nm : List Int) : Prop := 1 ≤ nm.length ∧ nm.length ≤ 8 ∧ ∀ c ∈ nm, 0 ≤ c ∧ c ≤ 65535
def ci_ok (k : Nat) (t : CI) : Prop := nm_ok t.1 ∧ pz_ok t.2.1 ∧ 0 ≤ t.2.2.1 ∧ t.2.2.1 < 1000 ∧ ∀ p : Nat, p < 3 → 0 ≤ t.2.2.2.1 p ∧ t.2.2.2.1 p ≤ k ∧ -1 ≤ t.2.2.2.2 p ∧ t.2.2.2.2 p < 1000
def ct_ok (k : Nat) (C : List CI) : Prop := k ≤ 1000 ∧ C.length ≤ 6 ∧ ∀ t ∈ C, ci_ok k t
/-- the number of the item of a name, or -1 -/
def fIt (nm : List Int) : List CI → Nat → Int
  | [], _ => -1
  | t :: C, i => if t.1 = nm then (i : Int) else fIt nm C (i + 1)
/-- the name that was read -/
def snm (M : fx_M) (nm : List Int) : Prop := M 7 0 = ((2 : Nat) : Int) ∧ M 7 7 = nm.length ∧ 0 ≤ M 7 6 ∧ M 7 6 + nm.length ≤ 5606 ∧ ∀ (j : Nat) (c : Int), nm[j]? = some c → M 2 (M 7 6 + j) = c
def mnm (M : fx_M) (nm : List Int) : Prop := M 133 16 = nm.length ∧ 0 ≤ M 133 15 ∧ M 133 15 + nm.length ≤ 6100 ∧ ∀ (j : Nat) (c : Int), nm[j]? = some c → M 135 (M 133 15 + j) = c
theorem fIt_b {nm : List Int} : ∀ {C : List CI} {i : Nat}, fIt nm C i = -1 ∨ ((i : Int) ≤ fIt nm C i ∧ fIt nm C i < i + C.length)
  | [], i => Or.inl rfl
  | t :: C, i => by
    rw [fIt]
    split
    · right
      rw [List.length_cons]
      omega
    · rcases fIt_b (nm := nm) (C := C) (i := i + 1) with h | h
      · exact Or.inl h
      · right
        rw [List.length_cons]
        omega
theorem fa2 : fx_a 2 = some (1, 5606) := by
  unfold fx_a
  rfl
section CIT
variable {L : Nat} {xs : Nat → Int32} {kc : List va_E} {d : Nat} {Q : Option fx_V → fx_M → Prop} {M : fx_M} {C : List CI} {nm : List Int} {k : Nat}
theorem ci_cmp (hn : snm M nm) (hnm : nm_ok nm) (hC : cct M C) (ho : ct_ok k C) {i : Nat} {t : CI} (ht : C[i]? = some t) (K1 : t.1 = nm → Q (some (jI i)) M) (K0 : t.1 ≠ nm → wp kc (d + 1) 185 2 [some (jR 62), some (jR 7), some (jI ((i : Int) + 1)), none] [] M Q) : ∀ (u j : Nat), j + u = nm.length → j ≤ t.1.length → (∀ n : Nat, n < j → t.1[n]? = nm[n]?) → wp kc (d + 1) 185 12 [some (jR 62), some (jR 7), some (jI i), some (jI j)] [] M Q := by
  have hil := (List.getElem?_eq_some_iff.mp ht).1
  have h6 := ho.2.1
  have htk := ho.2.2 t (List.mem_of_getElem? ht)
  obtain ⟨c1, c2, _, _, _⟩ := hC.2 i t ht
  obtain ⟨q1, q2, q3⟩ := hnm
  obtain ⟨t1, t2, t3⟩ := htk.1
  obtain ⟨n0, n1, n2, n3, n4⟩ := hn
  intro u
  induction u with
  | zero =>
    intro j hj hjt heq
    refine s185_12 fx_scn7 (h1n := 0) (h6n := 0) (h11n := 0) ?_
    rw [n1, c1]
    refine ⟨⟨⟨by omega, by omega⟩, ⟨by omega, by omega⟩⟩, fun _ => ⟨⟨⟨by omega, by omega⟩, ⟨by omega, by omega⟩⟩, fun h => by omega, fun _ => ⟨⟨by omega, by omega⟩, ⟨⟨by omega, by omega⟩, ⟨by omega, by omega⟩⟩, fun hne => K0 (fun e => by rw [e] at hne; omega), fun he => K1 ?_⟩⟩, fun h => by omega⟩
    refine List.ext_getElem? (fun n => ?_)
    by_cases hlt : n < j
    · exact heq n hlt
    · rw [List.getElem?_eq_none (by omega), List.getElem?_eq_none (by omega)]
  | succ u ih =>
    intro j hj hjt heq
    have hjn : j < nm.length := by omega
    have hnj := List.getElem?_eq_getElem hjn
    have e2 := n4 j _ hnj
    have b2 := q3 _ (List.getElem_mem hjn)
    have out : t.1 ≠ nm → fx_in32 (j : Int) ∧ fx_in32 (nm.length : Int) → (fx_in32 (j : Int) ∧ fx_in32 (nm.length : Int)) ∧ ((j : Int) ≠ nm.length → wp kc (d + 1) 185 2 [some (jR 62), some (jR 7), some (jI ((i : Int) + 1)), none] [] M Q) := fun hne h => ⟨h, fun _ => K0 hne⟩
    refine s185_12 fx_scn7 (h1n := 0) (h6n := 0) (h11n := 5606) ?_
    rw [n1, c1, n0, Int.toNat_natCast, e2]
    refine ⟨⟨⟨by omega, by omega⟩, ⟨by omega, by omega⟩⟩, fun h => by omega, fun _ => ⟨⟨by omega, by omega⟩, ⟨⟨by omega, by omega⟩, ⟨by omega, by omega⟩⟩, fun hle => ⟨⟨⟨by omega, by omega⟩, ⟨by omega, by omega⟩⟩, fun _ => K0 (fun e => by rw [e] at hle; omega), fun h => by omega⟩, fun hlt => ?_⟩⟩
    have hjt2 : j < t.1.length := by omega
    have htj := List.getElem?_eq_getElem hjt2
    have e1 := c2 j _ htj
    have b1 := t3 _ (List.getElem_mem hjt2)
    rw [e1]
    refine ⟨⟨by omega, by omega⟩, ⟨⟨fa2, by omega⟩, ⟨by omega, by omega⟩⟩, ⟨⟨by omega, by omega⟩, ⟨by omega, by omega⟩⟩, fun hne => ⟨⟨⟨by omega, by omega⟩, ⟨by omega, by omega⟩⟩, fun _ => K0 (fun e => ?_), fun h => by omega⟩, fun he => ?_⟩
    · subst e
      exact hne rfl
    · have nx := ih (j + 1) (by omega) (by omega) (fun n hn2 => by
        by_cases e : n = j
        · subst e
          rw [htj, hnj, he]
        · exact heq n (by omega))
      rw [show ((j + 1 : Nat) : Int) = (j : Int) + 1 by omega] at nx
      exact nx
theorem sp_itemOf (hn : snm M nm) (hnm : nm_ok nm) (hC : cct M C) (ho : ct_ok k C) (K : Q (some (jI (fIt nm C 0))) M) : wc kc (d + 1) 185 [jR 62, jR 7] M Q := by
  have h6 := ho.2.1
  have z : ∀ (u i : Nat), i + u = C.length → fIt nm (C.drop i) i = fIt nm C 0 → wp kc (d + 1) 185 2 [some (jR 62), some (jR 7), some (jI i), none] [] M Q := by
    intro u
    induction u with
    | zero =>
      intro i hi e
      rw [List.drop_eq_nil_of_le (by omega), fIt] at e
      refine s185_2 fx_scn7 ?_
      rw [hC.1]
      rw [← e] at K
      exact ⟨⟨⟨by omega, by omega⟩, ⟨by omega, by omega⟩⟩, fun _ => K, fun h => by omega⟩
    | succ u ih =>
      intro i hi e
      have hil : i < C.length := by omega
      have ht := List.getElem?_eq_getElem hil
      rw [List.drop_eq_getElem_cons hil, fIt] at e
      refine s185_2 fx_scn7 ?_
      rw [hC.1]
      refine ⟨⟨⟨by omega, by omega⟩, ⟨by omega, by omega⟩⟩, fun h => by omega, fun _ => ci_cmp hn hnm hC ho ht (fun e1 => ?_) (fun e1 => ?_) nm.length 0 (by omega) (by omega) (fun n hn2 => by omega)⟩
      · rw [if_pos e1] at e
        rw [← e] at K
        exact K
      · rw [if_neg e1] at e
        have nx := ih (i + 1) (by omega) e
        rw [show ((i + 1 : Nat) : Int) = (i : Int) + 1 by omega] at nx
        exact nx
  exact s185 fx_scn7 (z C.length 0 (by omega) rfl)
theorem mi_cmp (hn : mnm M nm) (hnm : nm_ok nm) (hC : mct M C) (ho : ct_ok k C) {i : Nat} {t : CI} (ht : C[i]? = some t) (K1 : t.1 = nm → Q (some (jI i)) M) (K0 : t.1 ≠ nm → wp kc (d + 1) 350 2 [some (jR 133), some (jI ((i : Int) + 1)), none, none] [] M Q) : ∀ (u j : Nat), j + u = nm.length → t.1.length = nm.length → (∀ n : Nat, n < j → t.1[n]? = nm[n]?) → wp kc (d + 1) 350 31 [some (jR 133), some (jI i), some (jI 1), some (jI j)] [] M Q := by
  have hil := (List.getElem?_eq_some_iff.mp ht).1
  have h6 := ho.2.1
  have htk := ho.2.2 t (List.mem_of_getElem? ht)
  obtain ⟨c1, c2, _, _, _⟩ := hC.2 i t ht
  obtain ⟨q1, q2, q3⟩ := hnm
  obtain ⟨t1, t2, t3⟩ := htk.1
  obtain ⟨n1, n2, n3, n4⟩ := hn
  intro u
  induction u with
  | zero =>
    intro j hj hjt heq
    refine s350_31 ?_
    rw [n1]
    refine ⟨⟨by omega, by omega⟩, fun h => by omega, fun _ => ⟨⟨⟨by omega, by omega⟩, ⟨by omega, by omega⟩⟩, fun _ => ⟨⟨by omega, by omega⟩, fun h => by omega, fun _ => K1 ?_⟩, fun h => by omega⟩⟩
    refine List.ext_getElem? (fun n => ?_)
    by_cases hlt : n < j
    · exact heq n hlt
    · rw [List.getElem?_eq_none (by omega), List.getElem?_eq_none (by omega)]
  | succ u ih =>
    intro j hj hjt heq
    have hjn : j < nm.length := by omega
    have hnj := List.getElem?_eq_getElem hjn
    have e2 := n4 j _ hnj
    have b2 := q3 _ (List.getElem_mem hjn)
    have hjt2 : j < t.1.length := by omega
    have htj := List.getElem?_eq_getElem hjt2
    have e1 := c2 j _ htj
    have b1 := t3 _ (List.getElem_mem hjt2)
    refine s350_31 ?_
    rw [n1, e1, e2]
    refine ⟨⟨by omega, by omega⟩, fun h => by omega, fun _ => ⟨⟨⟨by omega, by omega⟩, ⟨by omega, by omega⟩⟩, fun h => by omega, fun _ => ⟨⟨by omega, by omega⟩, ⟨by omega, by omega⟩, ⟨by omega, by omega⟩, ⟨by omega, by omega⟩, ?_⟩⟩⟩
    by_cases he : t.1[j] = nm[j]
    · rw [if_pos he]
      have nx := ih (j + 1) (by omega) hjt (fun n hn2 => by
        by_cases e : n = j
        · subst e
          rw [htj, hnj, he]
        · exact heq n (by omega))
      rw [show ((j + 1 : Nat) : Int) = (j : Int) + 1 by omega] at nx
      exact nx
    · rw [if_neg he]
      refine s350_31 ⟨⟨by omega, by omega⟩, fun _ => ⟨⟨by omega, by omega⟩, fun _ => K0 (fun e => ?_), fun h => absurd rfl h⟩, fun h => absurd rfl h⟩
      subst e
      exact he rfl
theorem sp_findItem (hn : mnm M nm) (hnm : nm_ok nm) (hC : mct M C) (ho : ct_ok k C) (K : Q (some (jI (fIt nm C 0))) M) : wc kc (d + 1) 350 [jR 133] M Q := by
  have h6 := ho.2.1
  have z : ∀ (u i : Nat), i + u = C.length → fIt nm (C.drop i) i = fIt nm C 0 → wp kc (d + 1) 350 2 [some (jR 133), some (jI i), none, none] [] M Q := by
    intro u
    induction u with
    | zero =>
      intro i hi e
      rw [List.drop_eq_nil_of_le (by omega), fIt] at e
      refine s350_2 ?_
      rw [hC.1]
      rw [← e] at K
      exact ⟨⟨⟨by omega, by omega⟩, ⟨by omega, by omega⟩⟩, fun _ => K, fun h => by omega⟩
    | succ u ih =>
      intro i hi e
      have hil : i < C.length := by omega
      have ht := List.getElem?_eq_getElem hil
      have hq := hnm.2.1
      have ht8 := (ho.2.2 _ (List.getElem_mem hil)).1.2.1
      rw [List.drop_eq_getElem_cons hil, fIt] at e
      have go : C[i].1 ≠ nm → wp kc (d + 1) 350 2 [some (jR 133), some (jI ((i : Int) + 1)), none, none] [] M Q := fun e1 => by
        rw [if_neg e1] at e
        have nx := ih (i + 1) (by omega) e
        rw [show ((i + 1 : Nat) : Int) = (i : Int) + 1 by omega] at nx
        exact nx
      refine s350_2 ?_
      rw [hC.1, (hC.2 i _ ht).1, hn.1]
      refine ⟨⟨⟨by omega, by omega⟩, ⟨by omega, by omega⟩⟩, fun h => by omega, fun _ => ⟨⟨by omega, by omega⟩, ⟨by omega, by omega⟩, ⟨by omega, by omega⟩, ?_⟩⟩
      by_cases hl : C[i].1.length = nm.length
      · rw [if_pos (by omega)]
        refine mi_cmp hn hnm hC ho ht (fun e1 => ?_) go nm.length 0 (by omega) hl (fun n hn2 => by omega)
        rw [if_pos e1] at e
        rw [← e] at K
        exact K
      · rw [if_neg (by omega)]
        exact s350_31 ⟨⟨by omega, by omega⟩, fun _ => ⟨⟨by omega, by omega⟩, fun _ => go (fun e1 => hl (by rw [e1])), fun h => absurd rfl h⟩, fun h => absurd rfl h⟩
  exact s350 (z C.length 0 (by omega) rfl)
end CIT
