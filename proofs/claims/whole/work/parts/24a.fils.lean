/-! FILLINGS in order; those that hold, below a prefix; those behind one. -/
def fils : Nat → List (List Int)
  | 0 => [[]]
  | n + 1 => ([0, 1, 2, 3] : List Int).flatMap fun y => (fils n).map (y :: ·)
/-- the last t symbols -/
def up4 : Nat → List Int
  | 0 => []
  | t + 1 => (3 - (t : Int)) :: up4 t
theorem up4_4 : up4 4 = [0, 1, 2, 3] := by decide
/-- those that hold below a prefix, m cells left -/
def sbx (P : List Int → Bool) (p : List Int) (m : Nat) : List (List Int) := ((fils m).map (p ++ ·)).filter P
/-- those below a prefix whose next symbol is one of the last t -/
def sbA (P : List Int → Bool) (p : List Int) (m t : Nat) : List (List Int) := (up4 t).flatMap fun y => sbx P (p ++ [y]) m
theorem sbx_succ {P : List Int → Bool} {p : List Int} {m : Nat} : sbx P p (m + 1) = sbA P p m 4 := by
  unfold sbA sbx
  rw [up4_4, fils, List.map_flatMap, List.filter_flatMap]
  congr 1
  funext y
  rw [List.map_map]
  congr 2
  funext t
  simp
theorem sbx_zero {P : List Int → Bool} {p : List Int} : sbx P p 0 = if P p then [p] else [] := by
  unfold sbx fils
  simp [List.filter_cons]
theorem sbA_zero {P : List Int → Bool} {p : List Int} {m : Nat} : sbA P p m 0 = [] := rfl
theorem sbA_succ {P : List Int → Bool} {p : List Int} {m t : Nat} : sbA P p m (t + 1) = sbx P (p ++ [3 - (t : Int)]) m ++ sbA P p m t := by
  unfold sbA
  rw [up4, List.flatMap_cons]
theorem mem_fils : ∀ {n : Nat} {t : List Int}, t ∈ fils n ↔ t.length = n ∧ ∀ x ∈ t, 0 ≤ x ∧ x < 4
  | 0, t => by
    unfold fils
    constructor
    · intro h
      rw [List.mem_singleton] at h
      subst h
      exact ⟨rfl, fun x hx => by simp at hx⟩
    · rintro ⟨h, -⟩
      rw [List.eq_nil_of_length_eq_zero h]
      exact List.mem_singleton.mpr rfl
  | n + 1, t => by
    unfold fils
    rw [List.mem_flatMap]
    constructor
    · rintro ⟨y, hy, ht⟩
      obtain ⟨u, hu, rfl⟩ := List.mem_map.mp ht
      obtain ⟨h1, h2⟩ := mem_fils.mp hu
      refine ⟨by simp [h1], fun x hx => ?_⟩
      rcases List.mem_cons.mp hx with rfl | hx
      · simp at hy
        omega
      · exact h2 x hx
    · rintro ⟨h1, h2⟩
      cases t with
      | nil => simp at h1
      | cons y u =>
        have := h2 y (List.mem_cons_self ..)
        refine ⟨y, ?_, List.mem_map.mpr ⟨u, mem_fils.mpr ⟨by simpa using h1, fun x hx => h2 x (List.mem_cons_of_mem _ hx)⟩, rfl⟩⟩
        simp
        omega
theorem mem_sbx {P : List Int → Bool} {p : List Int} {m : Nat} {x : List Int} : x ∈ sbx P p m ↔ (∃ t ∈ fils m, p ++ t = x) ∧ P x = true := by
  unfold sbx
  rw [List.mem_filter, List.mem_map]
theorem sbx_nil {P : List Int → Bool} {p : List Int} {m : Nat} (h : ∀ t ∈ fils m, P (p ++ t) = false) : sbx P p m = [] := by
  unfold sbx
  rw [List.filter_eq_nil_iff]
  intro x hx
  obtain ⟨t, ht, rfl⟩ := List.mem_map.mp hx
  rw [h t ht]
  decide
theorem sbA_nil {P : List Int → Bool} {p : List Int} {m t : Nat} (h : ∀ y ∈ up4 t, sbx P (p ++ [y]) m = []) : sbA P p m t = [] := by
  unfold sbA
  rw [List.flatMap_eq_nil_iff]
  exact h
theorem sbx_congr {P P' : List Int → Bool} {p : List Int} {m : Nat} (h : ∀ t ∈ fils m, P (p ++ t) = P' (p ++ t)) : sbx P p m = sbx P' p m := by
  unfold sbx
  apply List.filter_congr
  intro x hx
  obtain ⟨t, ht, rfl⟩ := List.mem_map.mp hx
  exact h t ht
theorem mem_up4 : ∀ {t : Nat} {y : Int}, t ≤ 4 → (y ∈ up4 t ↔ 4 - (t : Int) ≤ y ∧ y ≤ 3)
  | 0, y, _ => by
    unfold up4
    simp
    omega
  | t + 1, y, ht => by
    unfold up4
    rw [List.mem_cons, mem_up4 (by omega)]
    constructor
    · rintro (rfl | h) <;> omega
    · intro h
      by_cases hy : y = 3 - (t : Int)
      · exact Or.inl hy
      · exact Or.inr (by omega)
/-- one symbol alone can stand next -/
theorem sbx_only {P : List Int → Bool} {p : List Int} {m : Nat} {y : Int} (hy : 0 ≤ y ∧ y < 4) (h : ∀ z, z ≠ y → sbx P (p ++ [z]) m = []) : sbx P p (m + 1) = sbx P (p ++ [y]) m := by
  rw [sbx_succ]
  unfold sbA
  rw [up4_4]
  have hy : y = 0 ∨ y = 1 ∨ y = 2 ∨ y = 3 := by omega
  simp only [List.flatMap_cons, List.flatMap_nil, List.append_nil]
  rcases hy with rfl | rfl | rfl | rfl
  · rw [h 1 (by decide), h 2 (by decide), h 3 (by decide)]
    simp
  · rw [h 0 (by decide), h 2 (by decide), h 3 (by decide)]
    simp
  · rw [h 0 (by decide), h 1 (by decide), h 3 (by decide)]
    simp
  · rw [h 0 (by decide), h 1 (by decide), h 2 (by decide)]
    simp
theorem nodup_fils : ∀ n : Nat, (fils n).Nodup
  | 0 => by
    unfold fils
    simp
  | n + 1 => by
    have ih := nodup_fils n
    have hm : ∀ y : Int, ((fils n).map (y :: ·)).Nodup := fun y => by
      unfold List.Nodup
      rw [List.pairwise_map]
      exact ih.imp (fun h e => h (by simpa using e))
    have hd : ∀ y z : Int, y ≠ z → ∀ a ∈ (fils n).map (y :: ·), ∀ b ∈ (fils n).map (z :: ·), a ≠ b := fun y z hyz a ha b hb e => by
      obtain ⟨u, -, rfl⟩ := List.mem_map.mp ha
      obtain ⟨v, -, rfl⟩ := List.mem_map.mp hb
      exact hyz (List.cons.inj e).1
    unfold fils
    simp only [List.flatMap_cons, List.flatMap_nil, List.append_nil]
    rw [List.nodup_append, List.nodup_append, List.nodup_append]
    refine ⟨hm 0, ⟨hm 1, ⟨hm 2, hm 3, hd 2 3 (by decide)⟩, ?_⟩, ?_⟩
    · intro a ha b hb
      rcases List.mem_append.mp hb with hb | hb
      · exact hd 1 2 (by decide) a ha b hb
      · exact hd 1 3 (by decide) a ha b hb
    · intro a ha b hb
      rcases List.mem_append.mp hb with hb | hb
      · exact hd 0 1 (by decide) a ha b hb
      rcases List.mem_append.mp hb with hb | hb
      · exact hd 0 2 (by decide) a ha b hb
      · exact hd 0 3 (by decide) a ha b hb
theorem nodup_sbx {P : List Int → Bool} {m : Nat} : (sbx P [] m).Nodup := by
  unfold sbx
  simp only [List.nil_append, List.map_id']
  exact List.Pairwise.filter _ (nodup_fils m)
/-- those behind a filling a of n cells, from the levels below k -/
def rmx (P : List Int → Bool) (n : Nat) (a : Nat → Int) : Nat → List (List Int)
  | 0 => []
  | k + 1 => sbA P ((List.range k).map a) (n - k - 1) (3 - a k).toNat ++ rmx P n a k
theorem rng_succ {a : Nat → Int} {k : Nat} : (List.range (k + 1)).map a = (List.range k).map a ++ [a k] := by
  rw [List.range_succ, List.map_append]
  rfl
theorem sbA_split {P : List Int → Bool} {p : List Int} {m : Nat} {y : Int} (hy : 0 ≤ y ∧ y < 4) : ∃ pre, sbA P p m 4 = pre ++ (sbx P (p ++ [y]) m ++ sbA P p m (3 - y).toNat) := by
  have h : y = 0 ∨ y = 1 ∨ y = 2 ∨ y = 3 := by omega
  rcases h with rfl | rfl | rfl | rfl
  · exact ⟨[], sbA_succ⟩
  · exact ⟨sbx P (p ++ [0]) m, by rw [sbA_succ, sbA_succ]; rfl⟩
  · exact ⟨sbx P (p ++ [0]) m ++ sbx P (p ++ [1]) m, by rw [sbA_succ, sbA_succ, sbA_succ, List.append_assoc]; rfl⟩
  · exact ⟨sbx P (p ++ [0]) m ++ (sbx P (p ++ [1]) m ++ sbx P (p ++ [2]) m), by rw [sbA_succ, sbA_succ, sbA_succ, sbA_succ, List.append_assoc, List.append_assoc]; rfl⟩
theorem rmx_split {P : List Int → Bool} {n : Nat} {a : Nat → Int} (ha : ∀ i, i < n → 0 ≤ a i ∧ a i < 4) : ∀ k, k ≤ n → ∃ pre, sbx P [] n = pre ++ (sbx P ((List.range k).map a) (n - k) ++ rmx P n a k)
  | 0, _ => ⟨[], by simp [rmx]⟩
  | k + 1, hk => by
    obtain ⟨pre, e⟩ := rmx_split (P := P) ha k (by omega)
    obtain ⟨p2, e2⟩ := sbA_split (P := P) (p := (List.range k).map a) (m := n - k - 1) (ha k (by omega))
    refine ⟨pre ++ p2, ?_⟩
    rw [e]
    have h1 : n - k = (n - k - 1) + 1 := by omega
    have h2 : n - (k + 1) = n - k - 1 := by omega
    rw [rng_succ, rmx, h2]
    rw [show sbx P ((List.range k).map a) (n - k) = sbx P ((List.range k).map a) ((n - k - 1) + 1) by rw [← h1], sbx_succ, e2]
    simp only [List.append_assoc]
theorem rmx_at {P : List Int → Bool} {n : Nat} {a : Nat → Int} (ha : ∀ i, i < n → 0 ≤ a i ∧ a i < 4) (hP : P ((List.range n).map a) = true) : ∃ pre, sbx P [] n = pre ++ (List.range n).map a :: rmx P n a n := by
  obtain ⟨pre, e⟩ := rmx_split (P := P) ha n (Nat.le_refl _)
  refine ⟨pre, ?_⟩
  rw [e, Nat.sub_self, sbx_zero, if_pos hP]
  rfl
theorem app_inj {α : Type} {x : α} : ∀ {p q r s : List α}, p ++ x :: r = q ++ x :: s → (p ++ x :: r).Nodup → r = s
  | [], [], r, s, e, _ => (List.cons.inj e).2
  | [], b :: q, r, s, e, h => by
    obtain ⟨e1, e2⟩ := List.cons.inj e
    subst e1
    exfalso
    have := (List.nodup_cons.mp h).1
    rw [e2] at this
    exact this (List.mem_append_right _ (List.mem_cons_self ..))
  | a :: p, [], r, s, e, h => by
    obtain ⟨e1, e2⟩ := List.cons.inj e
    subst e1
    exfalso
    exact (List.nodup_cons.mp h).1 (List.mem_append_right _ (List.mem_cons_self ..))
  | a :: p, b :: q, r, s, e, h => app_inj (List.cons.inj e).2 (List.nodup_cons.mp h).2
/-- the answers behind the i-th one -/
theorem rmx_drop {P : List Int → Bool} {n : Nat} {a : Nat → Int} (ha : ∀ i, i < n → 0 ≤ a i ∧ a i < 4) {i : Nat} (h : (sbx P [] n)[i]? = some ((List.range n).map a)) : rmx P n a n = (sbx P [] n).drop (i + 1) := by
  obtain ⟨hi, e⟩ := List.getElem?_eq_some_iff.mp h
  have hm : (List.range n).map a ∈ sbx P [] n := by
    rw [← e]
    exact List.getElem_mem hi
  obtain ⟨pre, e2⟩ := rmx_at ha (mem_sbx.mp hm).2
  have e3 : sbx P [] n = (sbx P [] n).take i ++ (List.range n).map a :: (sbx P [] n).drop (i + 1) := by
    rw [← e, ← List.drop_eq_getElem_cons, List.take_append_drop]
  exact app_inj (p := pre) (q := (sbx P [] n).take i) (e2.symm.trans e3) (by rw [← e2]; exact nodup_sbx)
/-- symbols of a rule's cells in a filling -/
def selx (x : List Int) (cs : List Int) : List Int := cs.map fun c => x.getD c.toNat 0
def gvx (Z : PZ) (x : List Int) : Bool := (List.range x.length).all fun i => decide (Z.2.2.2.2.getD i (-1) = -1 ∨ Z.2.2.2.2.getD i (-1) = x.getD i 0)
/-- an answer -/
def okx (Z : PZ) (x : List Int) : Bool := x.all (fun y => decide (y < Z.2.2.1)) && gvx Z x && Z.2.2.2.1.all (fun R => met Z.1 R (selx x R.2.2))
/-- the answers of a puzzle, in order -/
def ans (Z : PZ) : List (List Int) := sbx (okx Z) [] (Z.1 * Z.2.1).toNat
theorem ans_len {Z : PZ} {x : List Int} (h : x ∈ ans Z) : x.length = (Z.1 * Z.2.1).toNat ∧ ∀ y ∈ x, 0 ≤ y ∧ y < 4 := by
  obtain ⟨⟨t, ht, e⟩, -⟩ := mem_sbx.mp h
  subst e
  simpa using mem_fils.mp ht
theorem fils_len : ∀ n : Nat, (fils n).length = 4 ^ n
  | 0 => rfl
  | n + 1 => by
    unfold fils
    simp only [List.flatMap_cons, List.flatMap_nil, List.append_nil, List.length_append, List.length_map, fils_len n]
    omega
theorem ans_le {Z : PZ} (ho : pz_ok Z) : (ans Z).length ≤ 262144 := by
  have h := pz_n ho
  have h1 : (ans Z).length ≤ (fils (Z.1 * Z.2.1).toNat).length := by
    unfold ans sbx
    refine Nat.le_trans (List.length_filter_le _ _) ?_
    rw [List.length_map]
    exact Nat.le_refl _
  rw [fils_len] at h1
  refine Nat.le_trans h1 (Nat.le_trans (Nat.pow_le_pow_right (by omega) (show (Z.1 * Z.2.1).toNat ≤ 9 by omega)) (by decide))
