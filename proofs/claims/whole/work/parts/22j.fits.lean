/-! FITS: ways as symbols of cells; the lowest of some bits. -/
/-- symbols of some cells are within a standing -/
def fit (S : Nat → Nat) (l : List Int) (f : Int → Int) : Prop := ∀ c ∈ l, f c ∈ sym4 (S c.toNat)
theorem map_prd {S : Nat → Nat} {f : Int → Int} : ∀ {l : List Int}, l.map f ∈ prd (msk S l) ↔ fit S l f
  | [] => by
    unfold prd msk fit
    simp
  | c :: l => by
    show (f c :: l.map f) ∈ prd (S c.toNat :: msk S l) ↔ _
    unfold prd
    rw [List.mem_flatMap]
    constructor
    · rintro ⟨x, hx, hxs⟩
      rw [List.mem_map] at hxs
      obtain ⟨ys, hys, he⟩ := hxs
      obtain ⟨rfl, rfl⟩ := List.cons.inj he
      intro y hy
      rcases List.mem_cons.mp hy with rfl | hy
      · exact hx
      · exact map_prd.mp hys y hy
    · intro h
      exact ⟨f c, h c List.mem_cons_self, List.mem_map.mpr ⟨l.map f, map_prd.mpr (fun y hy => h y (List.mem_cons_of_mem _ hy)), rfl⟩⟩
/-- each row of symbols of different cells is what a function gives -/
theorem row_fun : ∀ {l xs : List Int}, l.Nodup → xs.length = l.length → ∃ f : Int → Int, l.map f = xs
  | [], [], _, _ => ⟨fun _ => 0, rfl⟩
  | [], x :: xs, _, h => by simp at h
  | c :: l, [], _, h => by simp at h
  | c :: l, x :: xs, hn, h => by
    rw [List.nodup_cons] at hn
    obtain ⟨f, hf⟩ := row_fun hn.2 (by simpa using h)
    refine ⟨fun y => if y = c then x else f y, ?_⟩
    rw [List.map_cons, if_pos rfl, ← hf]
    congr 1
    apply List.map_congr_left
    intro y hy
    have hyc : y ≠ c := by
      rintro rfl
      exact hn.1 hy
    exact if_neg hyc
/-- a way of a rule -/
def way1 (w : Int) (R : PR) (S : Nat → Nat) (f : Int → Int) : Prop := fit S R.2.2 f ∧ met w R (R.2.2.map f) = true
theorem canM_f {w : Int} {R : PR} {S : Nat → Nat} (hn : R.2.2.Nodup) : canM w R S = true ↔ ∃ f, way1 w R S f := by
  unfold canM
  rw [List.any_eq_true]
  constructor
  · rintro ⟨xs, hx, hm⟩
    obtain ⟨f, hf⟩ := row_fun hn (xs := xs) (by rw [(prd_mem.mp hx).1]; simp [msk])
    subst hf
    exact ⟨f, map_prd.mp hx, hm⟩
  · rintro ⟨f, h1, h2⟩
    exact ⟨_, map_prd.mpr h1, h2⟩
theorem sup_f {w : Int} {R : PR} {S : Nat → Nat} (hn : R.2.2.Nodup) {i x : Nat} (hi : i < R.2.2.length) : sup w R S i x = true ↔ ∃ f, way1 w R S f ∧ f (R.2.2.getD i 0) = x := by
  have hg : ∀ f : Int → Int, (R.2.2.map f).getD i 0 = f (R.2.2.getD i 0) := fun f => by
    rw [List.getD_eq_getElem?_getD, List.getElem?_map, List.getD_eq_getElem?_getD, List.getElem?_eq_getElem hi]
    rfl
  unfold sup
  rw [List.any_eq_true]
  constructor
  · rintro ⟨xs, hx, hm⟩
    obtain ⟨f, hf⟩ := row_fun hn (xs := xs) (by rw [(prd_mem.mp hx).1]; simp [msk])
    subst hf
    rw [Bool.and_eq_true, decide_eq_true_eq, hg f] at hm
    exact ⟨f, ⟨map_prd.mp hx, hm.1⟩, hm.2⟩
  · rintro ⟨f, ⟨h1, h2⟩, h3⟩
    refine ⟨_, map_prd.mpr h1, ?_⟩
    rw [Bool.and_eq_true, decide_eq_true_eq, hg f]
    exact ⟨h2, h3⟩
theorem sup_out {w : Int} {R : PR} {S : Nat → Nat} {i x : Nat} (h : sup w R S i x = true) : canM w R S = true := by
  unfold sup at h
  unfold canM
  rw [List.any_eq_true] at h ⊢
  obtain ⟨xs, hx, hm⟩ := h
  rw [Bool.and_eq_true] at hm
  exact ⟨xs, hx, hm.1⟩
theorem way1_congr {w : Int} {R : PR} {S : Nat → Nat} {f g : Int → Int} (h : way1 w R S f) (he : ∀ c ∈ R.2.2, f c = g c) : way1 w R S g := by
  refine ⟨fun c hc => by rw [← he c hc]; exact h.1 c hc, ?_⟩
  rw [← List.map_congr_left he]
  exact h.2
/-- the lowest bit of a set -/
def lowb (b : Nat) : Nat := ((List.range 9).find? b.testBit).getD 0
theorem low_all : ∀ b : Fin 512, (b : Nat) ≠ 0 → bct (fx_and ((b : Nat) : Int) (-((b : Nat) : Int)) - 1) = ((lowb b : Nat) : Int) ∧ lowb b < 9 ∧ (b : Nat).testBit (lowb b) = true ∧ (∀ i : Fin 9, (i : Nat) < lowb b → (b : Nat).testBit (i : Nat) = false) := by decide +kernel
theorem low_all2 : ∀ b : Fin 512, (b : Nat) ≠ 0 → fx_and ((b : Nat) : Int) (((b : Nat) : Int) - 1) = (((b : Nat) &&& ((b : Nat) - 1) : Nat) : Int) ∧ (∀ i : Fin 9, ((b : Nat) &&& ((b : Nat) - 1)).testBit (i : Nat) = ((b : Nat).testBit (i : Nat) && decide ((i : Nat) ≠ lowb b))) := by decide +kernel
section LOW
variable {kc : List va_E} {d : Nat} {M : fx_M} {Q : Option fx_V → fx_M → Prop}
/-- lowest -/
theorem sp_lowest {b : Nat} (h0 : b ≠ 0) (h : b < 512) (K : Q (some (jI (lowb b : Nat))) M) : wc kc (d + 2) 87 [jI b] M Q := by
  have := low_all ⟨b, h⟩ h0
  refine s87 (sp_bitCount (s87_9 ?_))
  have e := this.1
  simp only at e
  rw [e]
  exact K
end LOW
theorem lowb_b {b : Nat} (h0 : b ≠ 0) (h : b < 512) : lowb b < 9 ∧ b.testBit (lowb b) = true ∧ (∀ i : Nat, i < lowb b → b.testBit i = false) := by
  have := low_all ⟨b, h⟩ h0
  simp only at this
  exact ⟨this.2.1, this.2.2.1, fun i hi => this.2.2.2 ⟨i, by omega⟩ hi⟩
theorem lowb_rm {b : Nat} (h0 : b ≠ 0) (h : b < 512) : fx_and (b : Int) ((b : Int) - 1) = ((b &&& (b - 1) : Nat) : Int) ∧ b &&& (b - 1) < 512 ∧ ∀ i : Nat, i < 9 → (b &&& (b - 1)).testBit i = (b.testBit i && decide (i ≠ lowb b)) := by
  have := low_all2 ⟨b, h⟩ h0
  simp only at this
  exact ⟨this.1, Nat.lt_of_le_of_lt Nat.and_le_left h, fun i hi => this.2 ⟨i, hi⟩⟩
