/-! THE STEP: what a request leaves stands in its bounds: play. -/
/-- the steps of play are of the puzzle -/
def pvS (V : fx_M) (Z : PZ) : Prop := ∀ (w i : Int), 0 ≤ w → w < 3 → 0 ≤ i → i < V 3 w → V 6 (100 * w + i) < Z.1 * Z.2.1 ∧ Z.2.2.2.2.getD (V 6 (100 * w + i)).toNat (-1) < 0 ∧ V 7 (100 * w + i) < Z.2.2.1 ∧ V 8 (100 * w + i) < Z.2.2.1
theorem mbit_0 : ∀ s : Fin 4, mbit 0 ((s : Nat) : Int) = 0 := by decide +kernel
theorem mbit_x : ∀ (m : Fin 16) (s t : Fin 4), s ≠ t → mbit (mxor ((m : Nat) : Int) ((s : Nat) : Int)) ((t : Nat) : Int) = mbit ((m : Nat) : Int) ((t : Nat) : Int) := by decide +kernel
theorem pn1 {V : fx_M} {j : Int} (j0 : 0 ≤ j) (j1 : j < 27) : pv_new V 1 j = -1 := by simp [pv_new, j0, j1]
theorem pn2 {V : fx_M} {j : Int} (j0 : 0 ≤ j) (j1 : j < 27) : pv_new V 2 j = 0 := by simp [pv_new, j0, j1]
theorem pn3 {V : fx_M} {j : Int} (j0 : 0 ≤ j) (j1 : j < 3) : pv_new V 3 j = 0 := by simp [pv_new, j0, j1]
theorem pv_in_new {V : fx_M} {Z : PZ} : pv_in (pv_new V) Z := fun w c w0 w1 hc => by
  refine ⟨fun s hs _ => ?_, fun h => ?_⟩
  · rw [pn2 (by omega) (by omega)]
    exact mbit_0 ⟨s, hs⟩
  · rw [pn1 (by omega) (by omega)] at h
    omega
theorem pvS_new {V : fx_M} {Z : PZ} : pvS (pv_new V) Z := fun w i w0 w1 i0 i1 => by
  rw [pn3 w0 w1] at i1
  omega
/-- an entry changed: what pv_in asks of it -/
theorem pv_in_e {V V' : fx_M} {Z : PZ} {w0 c0 s : Int} (h : pv_in V Z) (hw : 0 ≤ w0 ∧ w0 < 3) (hc : 0 ≤ c0 ∧ c0 < 9) (hs : 0 ≤ s → c0 < Z.1 * Z.2.1 ∧ Z.2.2.2.2.getD c0.toNat (-1) < 0 ∧ s < Z.2.2.1) (h2 : ∀ j, V' 2 j = V 2 j) (h1 : V' 1 (9 * w0 + c0) = s) (h1' : ∀ j, j ≠ 9 * w0 + c0 → V' 1 j = V 1 j) : pv_in V' Z := fun w c a b hc9 => by
  rw [h2]
  refine ⟨(h w c a b hc9).1, fun h0 => ?_⟩
  by_cases e : 9 * w + (c : Int) = 9 * w0 + c0
  · have ec : (c : Int) = c0 := by omega
    rw [e, h1] at h0 ⊢
    have := hs h0
    rw [ec]
    have ec2 : c0.toNat = c := by omega
    rw [ec2] at this
    exact this
  · rw [h1' _ e] at h0 ⊢
    exact (h w c a b hc9).2 h0
theorem vref0 {Z : PZ} {c s : Int} (h : v_ref Z c s = 0) : c < Z.1 * Z.2.1 ∧ Z.2.2.2.2.getD c.toNat (-1) < 0 ∧ s < Z.2.2.1 := by
  unfold v_ref at h
  split at h
  · split at h
    · split at h
      · exact ⟨by assumption, by assumption, by assumption⟩
      · omega
    · omega
  · omega
theorem hOk_put {V : fx_M} {Z : PZ} {c s : Int} (ho : pz_ok Z) (hv : pv_ok V) (hi : pv_in V Z) (hS : pvS V Z) (hc : 0 ≤ c) (hs : -1 ≤ s) : pv_ok (v_put V Z c s).2 ∧ pv_in (v_put V Z c s).2 Z ∧ pvS (v_put V Z c s).2 Z := by
  unfold v_put
  split
  · next h0 =>
    split
    · exact ⟨hv, hi, hS⟩
    · split
      · next hr =>
        have hn := pz_n ho
        have h4 := ho.2.2.2.2.2.1
        have h5 := ho.2.2.2.2.1
        obtain ⟨r1, r2, r3⟩ := vref0 h0
        have q := hv.2.2.2.1 (V 0 0) hv.1 hv.2.1
        have hw := hv.1
        have hw3 := hv.2.1
        have e1 : (v_putV V c s) 1 (9 * V 0 0 + c) = s := by
          unfold v_putV
          rw [fx_up_self]
        have e1' : ∀ j, j ≠ 9 * V 0 0 + c → (v_putV V c s) 1 j = V 1 j := fun j hj => by
          unfold v_putV
          rw [fx_up_nk hj, fx_up_na (by decide), fx_up_na (by decide), fx_up_na (by decide), fx_up_na (by decide), fx_up_na (by decide), fx_up_na (by decide)]
        have e2 : ∀ j, (v_putV V c s) 2 j = V 2 j := fun j => by
          unfold v_putV
          rw [fx_up_na (by decide), fx_up_na (by decide), fx_up_na (by decide), fx_up_na (by decide), fx_up_na (by decide), fx_up_na (by decide), fx_up_na (by decide)]
        have e3 : (v_putV V c s) 3 (V 0 0) = V 3 (V 0 0) + 1 := by
          unfold v_putV
          rw [fx_up_na (by decide), fx_up_self]
        have e3' : ∀ j, j ≠ V 0 0 → (v_putV V c s) 3 j = V 3 j := fun j hj => by
          unfold v_putV
          rw [fx_up_na (by decide), fx_up_nk hj, fx_up_na (by decide), fx_up_na (by decide), fx_up_na (by decide), fx_up_na (by decide), fx_up_na (by decide)]
        have e6 : (v_putV V c s) 6 (100 * V 0 0 + V 3 (V 0 0)) = c ∧ (v_putV V c s) 7 (100 * V 0 0 + V 3 (V 0 0)) = V 1 (9 * V 0 0 + c) ∧ (v_putV V c s) 8 (100 * V 0 0 + V 3 (V 0 0)) = s := by
          unfold v_putV
          refine ⟨?_, ?_, ?_⟩
          · rw [fx_up_na (by decide), fx_up_na (by decide), fx_up_na (by decide), fx_up_na (by decide), fx_up_na (by decide), fx_up_self]
          · rw [fx_up_na (by decide), fx_up_na (by decide), fx_up_na (by decide), fx_up_na (by decide), fx_up_self]
          · rw [fx_up_na (by decide), fx_up_na (by decide), fx_up_na (by decide), fx_up_self]
        have e6' : ∀ j, j ≠ 100 * V 0 0 + V 3 (V 0 0) → (v_putV V c s) 6 j = V 6 j ∧ (v_putV V c s) 7 j = V 7 j ∧ (v_putV V c s) 8 j = V 8 j := fun j hj => by
          unfold v_putV
          refine ⟨?_, ?_, ?_⟩
          · rw [fx_up_na (by decide), fx_up_na (by decide), fx_up_na (by decide), fx_up_na (by decide), fx_up_na (by decide), fx_up_nk hj, fx_up_na (by decide)]
          · rw [fx_up_na (by decide), fx_up_na (by decide), fx_up_na (by decide), fx_up_na (by decide), fx_up_nk hj, fx_up_na (by decide), fx_up_na (by decide)]
          · rw [fx_up_na (by decide), fx_up_na (by decide), fx_up_na (by decide), fx_up_nk hj, fx_up_na (by decide), fx_up_na (by decide), fx_up_na (by decide)]
        refine ⟨pv_ok_put hv ⟨hc, by omega⟩ ⟨hs, by omega⟩ hr, pv_in_e hi ⟨hw, hw3⟩ ⟨hc, by omega⟩ (fun _ => ⟨r1, r2, r3⟩) e2 e1 e1', fun w i w0 w1 i0 i1 => ?_⟩
        show (v_putV V c s) 6 (100 * w + i) < Z.1 * Z.2.1 ∧ Z.2.2.2.2.getD ((v_putV V c s) 6 (100 * w + i)).toNat (-1) < 0 ∧ (v_putV V c s) 7 (100 * w + i) < Z.2.2.1 ∧ (v_putV V c s) 8 (100 * w + i) < Z.2.2.1
        have i1' : i < (v_putV V c s) 3 w := i1
        have qw := hv.2.2.2.1 w w0 w1
        by_cases ew : w = V 0 0
        · subst ew
          rw [e3] at i1'
          by_cases ei : i = V 3 (V 0 0)
          · subst ei
            rw [e6.1, e6.2.1, e6.2.2]
            refine ⟨r1, r2, ?_, r3⟩
            by_cases hneg : 0 ≤ V 1 (9 * V 0 0 + c)
            · have := (hi (V 0 0) c.toNat hw hw3 (by omega)).2
              rw [show ((c.toNat : Nat) : Int) = c by omega] at this
              exact (this hneg).2.2
            · omega
          · have := e6' (100 * V 0 0 + i) (by omega)
            rw [this.1, this.2.1, this.2.2]
            exact hS (V 0 0) i w0 w1 i0 (by omega)
        · rw [e3' w ew] at i1'
          have := e6' (100 * w + i) (by omega)
          rw [this.1, this.2.1, this.2.2]
          exact hS w i w0 w1 i0 i1'
      · exact ⟨hv, hi, hS⟩
  · exact ⟨hv, hi, hS⟩
/-- one step back or on -/
theorem hOk_mv {V : fx_M} {Z : PZ} {i e x : Int} (hv : pv_ok V) (hi : pv_in V Z) (hS : pvS V Z) (hi0 : 0 ≤ i) (hi1 : i < V 3 (V 0 0)) (he : e = V 7 (100 * V 0 0 + i) ∨ e = V 8 (100 * V 0 0 + i)) (hx : -1 ≤ x ∧ x < V 3 (V 0 0)) : pv_ok (fx_up (fx_up V 1 (9 * V 0 0 + V 6 (100 * V 0 0 + i)) e) 4 (V 0 0) x) ∧ pv_in (fx_up (fx_up V 1 (9 * V 0 0 + V 6 (100 * V 0 0 + i)) e) 4 (V 0 0) x) Z ∧ pvS (fx_up (fx_up V 1 (9 * V 0 0 + V 6 (100 * V 0 0 + i)) e) 4 (V 0 0) x) Z := by
  have hw := hv.1
  have hw3 := hv.2.1
  have q := hv.2.2.2.2 (V 0 0) i hw hw3 hi0 hi1
  have p := hS (V 0 0) i hw hw3 hi0 hi1
  have hb : -1 ≤ e ∧ e < 4 := by
    rcases he with he | he
    · omega
    · omega
  have hs : e < Z.2.2.1 := by
    rcases he with he | he
    · omega
    · omega
  refine ⟨pv_ok_move hv ⟨by omega, by omega⟩ hb hx, pv_in_e (w0 := V 0 0) (c0 := V 6 (100 * V 0 0 + i)) (s := e) hi ⟨hw, hw3⟩ ⟨by omega, by omega⟩ (fun _ => ⟨p.1, p.2.1, hs⟩) (fun j => by rw [fx_up_na (by decide), fx_up_na (by decide)]) (by rw [fx_up_na (by decide), fx_up_self]) (fun j hj => by rw [fx_up_na (by decide), fx_up_nk hj]), fun w a w0 w1 a0 a1 => ?_⟩
  rw [fx_up_na (by decide), fx_up_na (by decide)] at a1
  rw [fx_up_na (by decide), fx_up_na (by decide), fx_up_na (by decide), fx_up_na (by decide), fx_up_na (by decide), fx_up_na (by decide)]
  exact hS w a w0 w1 a0 a1
theorem hOk_undo {V : fx_M} {Z : PZ} (hv : pv_ok V) (hi : pv_in V Z) (hS : pvS V Z) : pv_ok (unV (v_undo V) V) ∧ pv_in (unV (v_undo V) V) Z ∧ pvS (unV (v_undo V) V) Z := by
  by_cases h4 : 0 ≤ V 4 (V 0 0)
  · have e : v_undo V = (0, fx_up (fx_up V 1 (9 * V 0 0 + V 6 (100 * V 0 0 + V 4 (V 0 0))) (V 7 (100 * V 0 0 + V 4 (V 0 0)))) 4 (V 0 0) (V 5 (100 * V 0 0 + V 4 (V 0 0)))) := by
      unfold v_undo
      rw [if_pos h4]
    have e2 : unV (v_undo V) V = fx_up (fx_up V 1 (9 * V 0 0 + V 6 (100 * V 0 0 + V 4 (V 0 0))) (V 7 (100 * V 0 0 + V 4 (V 0 0)))) 4 (V 0 0) (V 5 (100 * V 0 0 + V 4 (V 0 0))) := by
      unfold unV
      rw [e, if_pos rfl]
    rw [e2]
    have q := hv.2.2.2.1 (V 0 0) hv.1 hv.2.1
    have p := hv.2.2.2.2 (V 0 0) (V 4 (V 0 0)) hv.1 hv.2.1 h4 q.2.2.2
    exact hOk_mv hv hi hS h4 q.2.2.2 (Or.inl rfl) ⟨by omega, by omega⟩
  · have e2 : unV (v_undo V) V = V := by
      unfold unV v_undo
      rw [if_neg h4]
      rfl
    rw [e2]
    exact ⟨hv, hi, hS⟩
theorem v_redo_x {V : fx_M} : ∀ (f : Nat) (n i : Int), (v_redo V f n i).2 = V ∨ ∃ m : Int, i ≤ m ∧ m < i + f ∧ (v_redo V f n i).2 = fx_up (fx_up V 1 (9 * V 0 0 + V 6 (100 * V 0 0 + m)) (V 8 (100 * V 0 0 + m))) 4 (V 0 0) m
  | 0, _, _ => Or.inl rfl
  | f + 1, n, i => by
    rw [v_redo]
    split
    · split
      · exact Or.inr ⟨i, by omega, by omega, rfl⟩
      · rcases v_redo_x f (n - 1) (i + 1) with h | ⟨m, m1, m2, m3⟩
        · exact Or.inl h
        · exact Or.inr ⟨m, by omega, by omega, m3⟩
    · rcases v_redo_x f n (i + 1) with h | ⟨m, m1, m2, m3⟩
      · exact Or.inl h
      · exact Or.inr ⟨m, by omega, by omega, m3⟩
theorem hOk_redo {V : fx_M} {Z : PZ} {a : Int} (hv : pv_ok V) (hi : pv_in V Z) (hS : pvS V Z) : pv_ok (unV (vRd V a) V) ∧ pv_in (unV (vRd V a) V) Z ∧ pvS (unV (vRd V a) V) Z := by
  unfold unV vRd
  split
  · have q := hv.2.2.2.1 (V 0 0) hv.1 hv.2.1
    rcases v_redo_x (V := V) (V 3 (V 0 0)).toNat a 0 with h | ⟨m, m1, m2, m3⟩
    · rw [h]
      exact ⟨hv, hi, hS⟩
    · rw [m3]
      exact hOk_mv hv hi hS m1 (by omega) (Or.inr rfl) ⟨by omega, by omega⟩
  · exact ⟨hv, hi, hS⟩
theorem hOk_who {V : fx_M} {Z : PZ} {a : Int} (hv : pv_ok V) (hi : pv_in V Z) (hS : pvS V Z) (ha : 0 ≤ a) : pv_ok (v_who V a).2 ∧ pv_in (v_who V a).2 Z ∧ pvS (v_who V a).2 Z := by
  refine ⟨pv_ok_who hv ha, ?_, ?_⟩
  · unfold v_who
    split
    · intro w c w0 w1 hc
      show (∀ s : Nat, s < 4 → Z.2.2.1 ≤ s → mbit ((fx_up V 0 0 a) 2 (9 * w + c)) s = 0) ∧ (0 ≤ (fx_up V 0 0 a) 1 (9 * w + c) → (c : Int) < Z.1 * Z.2.1 ∧ Z.2.2.2.2.getD c (-1) < 0 ∧ (fx_up V 0 0 a) 1 (9 * w + c) < Z.2.2.1)
      rw [fx_up_na (by decide), fx_up_na (by decide)]
      exact hi w c w0 w1 hc
    · exact hi
  · unfold v_who
    split
    · intro w i w0 w1 i0 i1
      have i1' : i < (fx_up V 0 0 a) 3 w := i1
      show (fx_up V 0 0 a) 6 (100 * w + i) < Z.1 * Z.2.1 ∧ Z.2.2.2.2.getD ((fx_up V 0 0 a) 6 (100 * w + i)).toNat (-1) < 0 ∧ (fx_up V 0 0 a) 7 (100 * w + i) < Z.2.2.1 ∧ (fx_up V 0 0 a) 8 (100 * w + i) < Z.2.2.1
      rw [fx_up_na (by decide)] at i1'
      rw [fx_up_na (by decide), fx_up_na (by decide), fx_up_na (by decide)]
      exact hS w i w0 w1 i0 i1'
    · exact hS
theorem hOk_mark {V : fx_M} {Z : PZ} {c s : Int} (ho : pz_ok Z) (hv : pv_ok V) (hi : pv_in V Z) (hS : pvS V Z) (hc : 0 ≤ c) (hs : 0 ≤ s) : pv_ok (v_mark V Z c s).2 ∧ pv_in (v_mark V Z c s).2 Z ∧ pvS (v_mark V Z c s).2 Z := by
  unfold v_mark
  split
  · next h0 =>
    have hn := pz_n ho
    have h4 := ho.2.2.2.2.2.1
    obtain ⟨r1, r2, r3⟩ := vref0 h0
    have hw := hv.1
    have hw3 := hv.2.1
    have q := hv.2.2.1 (9 * V 0 0 + c) (by omega) (by omega)
    have mb := mark_b (m := V 2 (9 * V 0 0 + c)) (s := s) ⟨q.2.2.1, q.2.2.2⟩ ⟨hs, by omega⟩
    refine ⟨pv_ok_mark hv ⟨mb.1, mb.2.1⟩, fun w c' w0 w1 hc9 => ?_, fun w i w0 w1 i0 i1 => ?_⟩
    · show (∀ t : Nat, t < 4 → Z.2.2.1 ≤ t → mbit ((fx_up V 2 (9 * V 0 0 + c) (mxor (V 2 (9 * V 0 0 + c)) s)) 2 (9 * w + c')) t = 0) ∧ (0 ≤ (fx_up V 2 (9 * V 0 0 + c) (mxor (V 2 (9 * V 0 0 + c)) s)) 1 (9 * w + c') → (c' : Int) < Z.1 * Z.2.1 ∧ Z.2.2.2.2.getD c' (-1) < 0 ∧ (fx_up V 2 (9 * V 0 0 + c) (mxor (V 2 (9 * V 0 0 + c)) s)) 1 (9 * w + c') < Z.2.2.1)
      have hh := hi w c' w0 w1 hc9
      refine ⟨fun t t4 ht => ?_, ?_⟩
      · by_cases e : 9 * w + (c' : Int) = 9 * V 0 0 + c
        · have hx := hh.1 t t4 ht
          rw [e] at hx ⊢
          rw [fx_up_self]
          have hxx := mbit_x ⟨(V 2 (9 * V 0 0 + c)).toNat, by omega⟩ ⟨s.toNat, by omega⟩ ⟨t, t4⟩ (fun y => by
            have := congrArg Fin.val y
            dsimp only at this
            omega)
          dsimp only at hxx
          rw [show (((V 2 (9 * V 0 0 + c)).toNat : Nat) : Int) = V 2 (9 * V 0 0 + c) by omega, show ((s.toNat : Nat) : Int) = s by omega] at hxx
          rw [hxx]
          exact hx
        · rw [fx_up_nk e]
          exact hh.1 t t4 ht
      · rw [fx_up_na (by decide)]
        exact hh.2
    · have i1' : i < (fx_up V 2 (9 * V 0 0 + c) (mxor (V 2 (9 * V 0 0 + c)) s)) 3 w := i1
      show (fx_up V 2 (9 * V 0 0 + c) (mxor (V 2 (9 * V 0 0 + c)) s)) 6 (100 * w + i) < Z.1 * Z.2.1 ∧ Z.2.2.2.2.getD ((fx_up V 2 (9 * V 0 0 + c) (mxor (V 2 (9 * V 0 0 + c)) s)) 6 (100 * w + i)).toNat (-1) < 0 ∧ (fx_up V 2 (9 * V 0 0 + c) (mxor (V 2 (9 * V 0 0 + c)) s)) 7 (100 * w + i) < Z.2.2.1 ∧ (fx_up V 2 (9 * V 0 0 + c) (mxor (V 2 (9 * V 0 0 + c)) s)) 8 (100 * w + i) < Z.2.2.1
      rw [fx_up_na (by decide)] at i1'
      rw [fx_up_na (by decide), fx_up_na (by decide), fx_up_na (by decide)]
      exact hS w i w0 w1 i0 i1'
  · exact ⟨hv, hi, hS⟩
