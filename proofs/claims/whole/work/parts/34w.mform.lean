/-! FORMS, the reference: the least text. -/
theorem mz_uc {M N : fx_M} {u : Int} {Z : PZ} (hz : mz M u Z) (ho : pz_ok Z) (h : ∀ b j, ucell u b j → N b j = M b j) : mz N u Z := by
  obtain ⟨h1, h2, h3, h4, h5, h6⟩ := hz
  have h12 := ho.2.2.2.2.2.2.1
  unfold mz
  rw [h 146 _ (by unfold ucell; omega), h 147 _ (by unfold ucell; omega), h 148 _ (by unfold ucell; omega), h 149 _ (by unfold ucell; omega)]
  refine ⟨h1, h2, h3, h4, fun r R hR => ?_, fun c hc => ?_⟩
  · have hrl := (List.getElem?_eq_some_iff.mp hR).1
    have h4l : R.2.2.length ≤ 4 := (ho.2.2.2.2.2.2.2.1 R (List.mem_of_getElem? hR)).2.2.2.2.2.1
    rw [h 150 _ (by unfold ucell; omega), h 151 _ (by unfold ucell; omega), h 152 _ (by unfold ucell; omega)]
    obtain ⟨a, b, c, e⟩ := h5 r R hR
    refine ⟨a, b, c, fun i x hx => ?_⟩
    have hil := (List.getElem?_eq_some_iff.mp hx).1
    rw [h 153 _ (by unfold ucell; omega)]
    exact e i x hx
  · rw [h 154 _ (by unfold ucell; omega)]
    exact h6 c hc
/-- the form kept is the text T -/
def mfo (M : fx_M) (T : List Int) : Prop := M 133 74 = T.length ∧ ∀ i : Nat, i < T.length → M 170 (i : Int) = T.getD i 0
/-- what finding a form leaves alone -/
def ffr (M N : fx_M) : Prop := ∀ b j, ¬ (b = 136 ∧ M 133 5 ≤ j) → ¬ ucell 3 b j → ¬ ucell 2 b j → b ≠ 169 → b ≠ 170 → ¬ (b = 133 ∧ j = 74) → N b j = M b j
theorem ffr_5 {M N : fx_M} (h : ffr M N) : N 133 5 = M 133 5 := h _ _ (by omega) (by unfold ucell; omega) (by unfold ucell; omega) (by omega) (by omega) (by omega)
theorem ffr_rf {M : fx_M} : ffr M M := fun _ _ _ _ _ _ _ _ => rfl
theorem ffr_tr {M N O : fx_M} (h : ffr M N) (g : ffr N O) : ffr M O := fun b j b1 b2 b3 b4 b5 b6 => by rw [g b j (by rw [ffr_5 h]; exact b1) b2 b3 b4 b5 b6, h b j b1 b2 b3 b4 b5 b6]
theorem ffr_mz {M N : fx_M} {u : Int} {Z : PZ} (h : ffr M N) (hz : mz M u Z) (ho : pz_ok Z) (hu : u = 0 ∨ u = 1) : mz N u Z := mz_uc hz ho (fun b j hb => by
  unfold ucell at hb
  exact h b j (by omega) (by unfold ucell; omega) (by unfold ucell; omega) (by omega) (by omega) (by omega))
def mnU (Z : PZ) (n : Nat) (Y : PZ) : Prop := (∃ (m : Int) (i : Nat), 0 ≤ m ∧ m < mps Z.1 Z.2.1 ∧ i < rgs Z ∧ Y = nvZ Z m i) ∧ ∀ k : Nat, k < n → ltW (tW Z ((k : Int) % mps Z.1 Z.2.1) ((k : Int) / mps Z.1 Z.2.1).toNat) (tText Y) = false
theorem mps_b {w h : Int} : 4 ≤ mps w h ∧ mps w h ≤ 8 := by
  unfold mps
  split <;> omega
theorem mnU_min {Z Y : PZ} {n : Nat} (hn : (n : Int) = mps Z.1 Z.2.1 * (rgs Z : Nat)) (h : mnU Z n Y) : isMin Z Y := by
  refine ⟨h.1, fun m i m0 m1 i1 => ?_⟩
  have hb := mps_b (w := Z.1) (h := Z.2.1)
  obtain ⟨p, hp⟩ : ∃ p : Nat, mps Z.1 Z.2.1 = (p : Int) := ⟨(mps Z.1 Z.2.1).toNat, by omega⟩
  obtain ⟨q, hq⟩ : ∃ q : Nat, m = (q : Int) := ⟨m.toNat, by omega⟩
  rw [hp] at m1 hn hb
  have hq1 : q < p := by omega
  have hn2 : n = p * rgs Z := by exact_mod_cast hn
  have h1 : p * i + q < n := by
    rw [hn2]
    calc p * i + q < p * i + p := by omega
      _ = p * (i + 1) := by rw [Nat.mul_add, Nat.mul_one]
      _ ≤ p * rgs Z := Nat.mul_le_mul_left _ i1
  have k := h.2 (p * i + q) h1
  have e1 : (((p * i + q : Nat) : Int)) % (p : Int) = q := by
    rw [← Int.natCast_emod, Nat.mul_add_mod, Nat.mod_eq_of_lt hq1]
  have e2 : (((p * i + q : Nat) : Int)) / (p : Int) = i := by
    rw [← Int.natCast_ediv, Nat.mul_add_div (by omega), Nat.div_eq_of_lt hq1, Nat.add_zero]
  rw [hp, e1, e2] at k
  rw [hq]
  exact k
section MFO
variable {kc : List va_E} {d : Nat} {M : fx_M} {Q : Option fx_V → fx_M → Prop} {Z : PZ} {u : Int}
/-- order: unit 3, its rules in order -/
theorem sp_order {X : PZ} (hz : mz M 3 X) (ho : pz_ok X) (hv : ∀ R ∈ X.2.2.2.1, vR (nR0 R)) (h0 : 0 ≤ M 133 5) (h6 : M 133 5 + 42 ≤ 6000) (K : ∀ M', mz M' 3 (X.1, X.2.1, X.2.2.1, srtR (X.2.2.2.1.map nR0), X.2.2.2.2) → (∀ b j, ¬ (b = 136 ∧ M 133 5 ≤ j) → ¬ ucell 3 b j → ¬ ucell 2 b j → M' b j = M b j) → Q none M') : wc kc (d + 6) 335 [jR 133, jI 3] M Q := by
  have h9 := pz_n ho
  have h12 := ho.2.2.2.2.2.2.1
  have hl := hz.2.2.2.1
  have hR9 : ∀ x ∈ X.2.2.2.1, pr_ok 9 x := fun x hx => by
    obtain ⟨r1, r2, r3, r4, r5, r6, r7, r8⟩ := ho.2.2.2.2.2.2.2.1 x hx
    exact ⟨r1, r2, r3, r4, r5, r6, fun c hc => by have := r7 c hc; omega, r8⟩
  have hvm : ∀ x ∈ X.2.2.2.1.map nR0, vR x := fun x hx => by
    obtain ⟨R, R1, R2⟩ := List.mem_map.mp hx
    rw [← R2]
    exact hv R R1
  have st := od_cells (kc := kc) (d := d + 4) (Q := Q) X.2.2.2.1 [] M (fun i R hi => mR_mz hz (by simpa using hi)) (by rw [List.length_nil]; omega) (by rw [hl, List.length_nil]; omega) (fun x hx => by cases hx) hR9 (fun N n1 n2 => by
    have n5 := ofr_5 n2
    have := od_main (kc := kc) (d := d) (Q := Q) (n := X.2.2.2.1.length) h12 (X.2.2.2.1.map nR0) [] 0 N (fun i R hi => by cases hi) (fun i R hi => by
      have := n1 i R hi
      rw [show (36 : Int) + ((0 : Nat) : Int) + i = 36 + i by omega]
      exact this) (Nat.le_refl _) (by rw [List.length_map]; omega) (by rw [n2 _ _ (by omega) (by omega) (by omega), hl]) (fun x hx => by cases hx) hvm List.Pairwise.nil (by omega) (by omega) (fun O o1 o2 o3 => ?_)
    · exact this
    · have f : ∀ b j, ¬ (b = 136 ∧ M 133 5 ≤ j) → ¬ ((b = 150 ∨ b = 151 ∨ b = 152) ∧ 24 ≤ j ∧ j < 48) → ¬ (b = 153 ∧ 96 ≤ j ∧ j < 192) → ¬ (b = 149 ∧ j = 3) → O b j = M b j := fun b j b1 b2 b3 b4 => by
        rw [o3 b j (by rw [n5]; exact b1) b2 b3 b4, n2 b j b1 b2 (by omega)]
      refine K O ⟨?_, ?_, ?_, o2, fun r R hR => ?_, fun c hc => ?_⟩ (fun b j b1 b2 b3 => f b j b1 ?_ ?_ ?_)
      · rw [f _ _ (by omega) (by omega) (by omega) (by omega)]
        exact hz.1
      · rw [f _ _ (by omega) (by omega) (by omega) (by omega)]
        exact hz.2.1
      · rw [f _ _ (by omega) (by omega) (by omega) (by omega)]
        exact hz.2.2.1
      · exact o1 r R hR
      · rw [f _ _ (by omega) (by omega) (by omega) (by omega)]
        exact hz.2.2.2.2.2 c hc
      · intro hx
        unfold ucell at b2 b3
        omega
      · intro hx
        unfold ucell at b2 b3
        omega
      · intro hx
        unfold ucell at b2 b3
        omega)
  exact s335 st
theorem mf_say {T : List Int} {v2 v3 : Int} (hT : T.length ≤ 600) (hf : mfo M T) (hO : m_ok M) : ∀ (t i : Nat), i + t = T.length → wp kc (d + 6) 334 55 [some (jR 133), some (jI u), some (jI v2), some (jI v3), some (jI T.length), none] [] (m_app M T) Q → wp kc (d + 6) 334 55 [some (jR 133), some (jI u), some (jI v2), some (jI v3), some (jI i), none] [] (m_app M (T.take i)) Q := by
  intro t
  induction t with
  | zero =>
    intro i hi K
    have e : i = T.length := by omega
    rw [e, List.take_length]
    exact K
  | succ t ih =>
    intro i hi K
    have hlt : i < T.length := by omega
    have e74 : (m_app M (T.take i)) 133 74 = T.length := by rw [m_app_ne (by omega) (by omega)]; exact hf.1
    have e170 : (m_app M (T.take i)) 170 i = T.getD i 0 := by rw [m_app_ne (by omega) (by omega)]; exact hf.2 i hlt
    refine s334_55 ?_
    rw [e74, e170]
    refine ⟨⟨⟨by omega, by omega⟩, ⟨by omega, by omega⟩⟩, fun h => by omega, fun _ => ⟨⟨by omega, by omega⟩, sp_sayByte (d := d + 4) (m_ok_app hO) (s334_75 ?_)⟩⟩
    have := ih (i + 1) (by omega) K
    rw [List.take_succ, List.getElem?_eq_getElem hlt, Option.toList_some, ← m_app_app, show ((i + 1 : Nat) : Int) = (i : Int) + 1 by omega] at this
    rw [List.getD_eq_getElem?_getD, List.getElem?_eq_getElem hlt, Option.getD_some]
    exact this
theorem mf_copy {W : List Int} {v2 v3 v4 : Int} (hW : W.length ≤ 600) (hv : 0 ≤ v4 ∧ v4 + W.length ≤ 6000) : ∀ (t i : Nat) (M : fx_M), i + t = W.length → (∀ j : Nat, j < W.length → M 136 (v4 + j) = W.getD j 0) → M 133 74 = W.length → (∀ j : Nat, j < i → M 170 (j : Int) = W.getD j 0) → (∀ M', mfo M' W → (∀ b j, b ≠ 170 → M' b j = M b j) → wp kc (d + 6) 334 12 [some (jR 133), some (jI u), some (jI v2), some (jI (v3 + 1)), none, none] [] (fx_up M' 133 5 v2) Q) → wp kc (d + 6) 334 120 [some (jR 133), some (jI u), some (jI v2), some (jI v3), some (jI v4), some (jI i)] [] M Q := by
  intro t
  induction t with
  | zero =>
    intro i M hi h136 h74 h170 K
    refine s334_120 ?_
    rw [h74]
    exact ⟨⟨⟨by omega, by omega⟩, ⟨by omega, by omega⟩⟩, fun _ => K M ⟨h74, fun j hj => h170 j (by omega)⟩ (fun _ _ _ => rfl), fun h => by omega⟩
  | succ t ih =>
    intro i M hi h136 h74 h170 K
    refine s334_120 ?_
    rw [h74, h136 i (by omega)]
    refine ⟨⟨⟨by omega, by omega⟩, ⟨by omega, by omega⟩⟩, fun h => by omega, fun _ => ⟨⟨by omega, by omega⟩, ⟨by omega, by omega⟩, ?_⟩⟩
    have := ih (i + 1) (fx_up M 170 (i : Int) (W.getD i 0)) (by omega) (fun j hj => by rw [fx_up_na (by omega)]; exact h136 j hj) (by rw [fx_up_na (by omega)]; exact h74) (fun j hj => by
      by_cases e : j = i
      · rw [e, fx_up_self]
      · rw [fx_up_nk (by omega)]
        exact h170 j (by omega)) (fun M' m1 m2 => K M' m1 (fun b j hb => by rw [m2 b j hb, fx_up_na hb]))
    rw [show ((i + 1 : Nat) : Int) = (i : Int) + 1 by omega] at this
    exact this
end MFO
