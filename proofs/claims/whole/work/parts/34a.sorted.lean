/-! FORMS: sorted lists, the maps of a grid, renamings of symbols. -/
/-- rising by f -/
def ris {α : Type} (f : α → Int) (l : List α) : Prop := l.Pairwise (fun a b => f a < f b)
theorem ris_uniq {α : Type} {f : α → Int} : ∀ {A B : List α}, ris f A → ris f B → (∀ x, x ∈ A ↔ x ∈ B) → A = B
  | [], [], _, _, _ => rfl
  | [], b :: B, _, _, h => by
    have := (h b).mpr (List.mem_cons_self ..)
    cases this
  | a :: A, [], _, _, h => by
    have := (h a).mp (List.mem_cons_self ..)
    cases this
  | a :: A, b :: B, ha, hb, h => by
    unfold ris at ha hb
    rw [List.pairwise_cons] at ha hb
    have e : a = b := by
      rcases List.mem_cons.mp ((h a).mp (List.mem_cons_self ..)) with e | e
      · exact e
      · rcases List.mem_cons.mp ((h b).mpr (List.mem_cons_self ..)) with e2 | e2
        · exact e2.symm
        · have h1 := hb.1 a e
          have h2 := ha.1 b e2
          omega
    subst e
    congr 1
    refine ris_uniq ha.2 hb.2 (fun x => ⟨fun hx => ?_, fun hx => ?_⟩)
    · rcases List.mem_cons.mp ((h x).mp (List.mem_cons_of_mem _ hx)) with e | e
      · have := ha.1 x hx
        rw [e] at this
        omega
      · exact e
    · rcases List.mem_cons.mp ((h x).mpr (List.mem_cons_of_mem _ hx)) with e | e
      · have := hb.1 x hx
        rw [e] at this
        omega
      · exact e
/-- sums over lists without repetition that hold the same -/
def sumN {α : Type} (f : α → Nat) : List α → Nat
  | [] => 0
  | a :: l => f a + sumN f l
theorem sumN_app {α : Type} {f : α → Nat} : ∀ {A B : List α}, sumN f (A ++ B) = sumN f A + sumN f B
  | [], B => by
    rw [List.nil_append, sumN, Nat.zero_add]
  | a :: A, B => by
    rw [List.cons_append, sumN, sumN_app, sumN, Nat.add_assoc]
theorem sumN_same {α : Type} {f : α → Nat} : ∀ {A B : List α}, A.Nodup → B.Nodup → (∀ x, x ∈ A ↔ x ∈ B) → sumN f A = sumN f B
  | [], B, _, _, h => by
    cases B with
    | nil => rfl
    | cons b B =>
      have := (h b).mpr (List.mem_cons_self ..)
      cases this
  | a :: A, B, ha, hb, h => by
    rw [List.nodup_cons] at ha
    obtain ⟨B1, B2, e⟩ := List.append_of_mem ((h a).mp (List.mem_cons_self ..))
    subst e
    have hb2 : (B1 ++ B2).Nodup := by
      refine List.Nodup.sublist ?_ hb
      exact List.Sublist.append (List.Sublist.refl _) (List.sublist_cons_self ..)
    have hna : a ∉ B1 ++ B2 := fun hx => by
      rw [List.nodup_append] at hb
      rcases List.mem_append.mp hx with e | e
      · exact hb.2.2 a e a (List.mem_cons_self ..) rfl
      · exact (List.nodup_cons.mp hb.2.1).1 e
    have ih := sumN_same (f := f) ha.2 hb2 (fun x => ⟨fun hx => ?_, fun hx => ?_⟩)
    · rw [sumN, ih, sumN_app, sumN_app, sumN]
      omega
    · have hxa : x ≠ a := fun e => ha.1 (by rw [← e]; exact hx)
      have := (h x).mp (List.mem_cons_of_mem _ hx)
      rcases List.mem_append.mp this with e | e
      · exact List.mem_append.mpr (Or.inl e)
      · rcases List.mem_cons.mp e with e | e
        · exact absurd e hxa
        · exact List.mem_append.mpr (Or.inr e)
    · have hxa : x ≠ a := fun e => hna (by rw [← e]; exact hx)
      have : x ∈ B1 ++ a :: B2 := by
        rcases List.mem_append.mp hx with e | e
        · exact List.mem_append.mpr (Or.inl e)
        · exact List.mem_append.mpr (Or.inr (List.mem_cons_of_mem _ e))
      rcases List.mem_cons.mp ((h x).mpr this) with e | e
      · exact absurd e hxa
      · exact e
/-- the cell that a cell becomes -/
def mpC (w h m c : Int) : Int := if fx_and m 4 = 0 then (if fx_and m 1 = 0 then c % w else w - 1 - c % w) + w * (if fx_and m 2 = 0 then c / w else h - 1 - c / w) else (if fx_and m 2 = 0 then c / w else h - 1 - c / w) + w * (if fx_and m 1 = 0 then c % w else w - 1 - c % w)
def mps (w h : Int) : Int := if w = h then 8 else 4
def mpI (m : Int) : Int := if m = 5 then 6 else if m = 6 then 5 else m
theorem mp_all : ∀ (w h : Fin 3) (m : Fin 8) (c : Fin 9), ((m : Nat) < 4 ∨ w = h) → (c : Nat) < ((w : Nat) + 1) * ((h : Nat) + 1) → 0 ≤ mpC (((w : Nat) : Int) + 1) (((h : Nat) : Int) + 1) ((m : Nat) : Int) ((c : Nat) : Int) ∧ mpC (((w : Nat) : Int) + 1) (((h : Nat) : Int) + 1) ((m : Nat) : Int) ((c : Nat) : Int) < (((w : Nat) : Int) + 1) * (((h : Nat) : Int) + 1) ∧ mpC (((w : Nat) : Int) + 1) (((h : Nat) : Int) + 1) (mpI ((m : Nat) : Int)) (mpC (((w : Nat) : Int) + 1) (((h : Nat) : Int) + 1) ((m : Nat) : Int) ((c : Nat) : Int)) = ((c : Nat) : Int) := by decide +kernel
theorem mp_one {w h m c : Int} (hw : 1 ≤ w ∧ w ≤ 3) (hh : 1 ≤ h ∧ h ≤ 3) (hm : 0 ≤ m ∧ m < mps w h) (hc : 0 ≤ c ∧ c < w * h) : 0 ≤ mpC w h m c ∧ mpC w h m c < w * h ∧ mpC w h (mpI m) (mpC w h m c) = c := by
  have h9 := mul_le9 hw.1 hw.2 hh.1 hh.2
  have h8 : m < 8 ∧ (m < 4 ∨ w = h) := by
    unfold mps at hm
    split at hm
    · exact ⟨hm.2, Or.inr (by assumption)⟩
    · exact ⟨by omega, Or.inl hm.2⟩
  have e1 : (((w - 1).toNat : Nat) : Int) + 1 = w := by omega
  have e2 : (((h - 1).toNat : Nat) : Int) + 1 = h := by omega
  have e3 : ((m.toNat : Nat) : Int) = m := by omega
  have e4 : ((c.toNat : Nat) : Int) = c := by omega
  have a := mp_all ⟨(w - 1).toNat, by omega⟩ ⟨(h - 1).toNat, by omega⟩ ⟨m.toNat, by omega⟩ ⟨c.toNat, by omega⟩
  dsimp only at a
  rw [e1, e2, e3, e4] at a
  refine a ?_ ?_
  · rcases h8.2 with x | x
    · left
      omega
    · right
      refine Fin.ext ?_
      dsimp only
      rw [x]
  · have : (((w - 1).toNat + 1) * ((h - 1).toNat + 1) : Nat) = (w * h).toNat := by
      have e5 : ((((w - 1).toNat + 1) * ((h - 1).toNat + 1) : Nat) : Int) = w * h := by
        rw [Int.natCast_mul, Int.natCast_add, Int.natCast_add, show ((1 : Nat) : Int) = 1 from rfl, e1, e2]
      omega
    rw [this]
    omega
theorem mp_inj {w h m c c' : Int} (hw : 1 ≤ w ∧ w ≤ 3) (hh : 1 ≤ h ∧ h ≤ 3) (hm : 0 ≤ m ∧ m < mps w h) (hc : 0 ≤ c ∧ c < w * h) (hc' : 0 ≤ c' ∧ c' < w * h) (e : mpC w h m c = mpC w h m c') : c = c' := by
  have h1 := (mp_one hw hh hm hc).2.2
  have h2 := (mp_one hw hh hm hc').2.2
  rw [e] at h1
  exact h1.symm.trans h2
/-- the cells that a rule takes together, rising -/
def srC (l : List Int) : List Int := ((List.range 9).map (fun i : Nat => (i : Int))).filter (fun c => l.contains c)
def orC (k : Int) (l : List Int) : List Int := if k = 4 ∨ k = 1 ∨ k = 5 then l else if k = 2 then l.take 1 ++ srC (l.drop 1) else srC l
theorem srC_mem {l : List Int} (hl : ∀ c ∈ l, 0 ≤ c ∧ c < 9) (x : Int) : x ∈ srC l ↔ x ∈ l := by
  unfold srC
  rw [List.mem_filter]
  constructor
  · intro h
    exact List.contains_iff_mem.mp h.2
  · intro h
    have := hl x h
    exact ⟨List.mem_map.mpr ⟨x.toNat, List.mem_range.mpr (by omega), by omega⟩, List.contains_iff_mem.mpr h⟩
theorem srC_ris {l : List Int} : ris (fun c => c) (srC l) := by
  unfold srC ris
  refine List.Pairwise.filter _ ?_
  rw [List.pairwise_map]
  exact (List.pairwise_lt_range).imp (fun h => by dsimp only; omega)
