/-! PLAY as a value V: V 0 0 who; rows 1 entry, 2 marks, 3 steps, 4 at, 5 behind, 6 cell, 7 before, 8 after. The class holds row i in the array 53 + i, the reference in pvM i. -/
def pvL (i : Nat) : Int := if i = 1 ∨ i = 2 then 27 else if i = 3 ∨ i = 4 then 3 else 300
def pvM (i : Nat) : Nat := if i = 1 then 174 else if i = 2 then 175 else if i = 3 then 176 else if i = 4 then 177 else if i = 5 then 180 else if i = 6 then 178 else if i = 7 then 181 else 179
def cpv (M V : fx_M) : Prop := M 53 0 = V 0 0 ∧ ∀ (i : Nat) (j : Int), 1 ≤ i → i ≤ 8 → 0 ≤ j → j < pvL i → M (53 + i) j = V i j
def mpv (M V : fx_M) : Prop := M 133 80 = V 0 0 ∧ ∀ (i : Nat) (j : Int), 1 ≤ i → i ≤ 8 → 0 ≤ j → j < pvL i → M (pvM i) j = V i j
def pv_ok (V : fx_M) : Prop := 0 ≤ V 0 0 ∧ V 0 0 < 3 ∧ (∀ j : Int, 0 ≤ j → j < 27 → -1 ≤ V 1 j ∧ V 1 j < 4 ∧ 0 ≤ V 2 j ∧ V 2 j < 16) ∧ (∀ w : Int, 0 ≤ w → w < 3 → 0 ≤ V 3 w ∧ V 3 w ≤ 100 ∧ -1 ≤ V 4 w ∧ V 4 w < V 3 w) ∧ (∀ w k : Int, 0 ≤ w → w < 3 → 0 ≤ k → k < V 3 w → -1 ≤ V 5 (100 * w + k) ∧ V 5 (100 * w + k) < k ∧ 0 ≤ V 6 (100 * w + k) ∧ V 6 (100 * w + k) < 9 ∧ -1 ≤ V 7 (100 * w + k) ∧ V 7 (100 * w + k) < 4 ∧ -1 ≤ V 8 (100 * w + k) ∧ V 8 (100 * w + k) < 4)
def pv_new (V : fx_M) : fx_M := fun i j => if i = 1 ∧ 0 ≤ j ∧ j < 27 then -1 else if i = 2 ∧ 0 ≤ j ∧ j < 27 then 0 else if i = 3 ∧ 0 ≤ j ∧ j < 3 then 0 else if i = 4 ∧ 0 ≤ j ∧ j < 3 then -1 else V i j
theorem pv_new_ok {V : fx_M} (h : pv_ok V) : pv_ok (pv_new V) := by
  obtain ⟨h0, h1, h2, h3, h4⟩ := h
  refine ⟨h0, h1, fun j j0 j1 => ?_, fun w w0 w1 => ?_, fun w k w0 w1 k0 k1 => ?_⟩
  · have e1 : pv_new V 1 j = -1 := by simp [pv_new, j0, j1]
    have e2 : pv_new V 2 j = 0 := by simp [pv_new, j0, j1]
    rw [e1, e2]
    decide
  · have e1 : pv_new V 3 w = 0 := by simp [pv_new, w0, w1]
    have e2 : pv_new V 4 w = -1 := by simp [pv_new, w0, w1]
    rw [e1, e2]
    decide
  · have e1 : pv_new V 3 w = 0 := by simp [pv_new, w0, w1]
    rw [e1] at k1
    omega
theorem cpv_fr {M N V : fx_M} (h : cpv M V) (hf : ∀ b j, 53 ≤ b → b ≤ 61 → N b j = M b j) : cpv N V := ⟨by rw [hf _ _ (by omega) (by omega)]; exact h.1, fun i j i1 i8 j0 j1 => by rw [hf _ _ (by omega) (by omega)]; exact h.2 i j i1 i8 j0 j1⟩
theorem pvM_b {i : Nat} (h : 1 ≤ i) (h8 : i ≤ 8) : 174 ≤ pvM i ∧ pvM i ≤ 181 := by
  unfold pvM
  (repeat' split) <;> omega
theorem pvM_inj {i k : Nat} (h1 : 1 ≤ i) (h8 : i ≤ 8) (k1 : 1 ≤ k) (k8 : k ≤ 8) (h : pvM i = pvM k) : i = k := by
  unfold pvM at h
  (repeat' split at h) <;> omega
theorem mpv_fr {M N V : fx_M} (h : mpv M V) (h0 : N 133 80 = M 133 80) (hf : ∀ b j, 174 ≤ b → b ≤ 181 → N b j = M b j) : mpv N V := ⟨by rw [h0]; exact h.1, fun i j i1 i8 j0 j1 => by
  have := pvM_b i1 i8
  rw [hf _ _ (by omega) (by omega)]
  exact h.2 i j i1 i8 j0 j1⟩
theorem cpv_up {M V : fx_M} {i : Nat} {k v : Int} (h : cpv M V) (h1 : 1 ≤ i) (h8 : i ≤ 8) : cpv (fx_up M (53 + i) k v) (fx_up V i k v) := by
  refine ⟨by rw [fx_up_na (by omega), fx_up_na (by omega)]; exact h.1, fun t j t1 t8 j0 j1 => ?_⟩
  by_cases hc : t = i ∧ j = k
  · obtain ⟨rfl, rfl⟩ := hc
    rw [fx_up_self, fx_up_self]
  · rw [fx_up_ne (by omega), fx_up_ne hc]
    exact h.2 t j t1 t8 j0 j1
theorem mpv_up {M V : fx_M} {i : Nat} {k v : Int} (h : mpv M V) (h1 : 1 ≤ i) (h8 : i ≤ 8) : mpv (fx_up M (pvM i) k v) (fx_up V i k v) := by
  have hb := pvM_b h1 h8
  refine ⟨by rw [fx_up_na (by omega), fx_up_na (by omega)]; exact h.1, fun t j t1 t8 j0 j1 => ?_⟩
  by_cases hc : t = i ∧ j = k
  · obtain ⟨rfl, rfl⟩ := hc
    rw [fx_up_self, fx_up_self]
  · rw [fx_up_ne (fun hx => hc ⟨pvM_inj t1 t8 h1 h8 hx.1, hx.2⟩), fx_up_ne hc]
    exact h.2 t j t1 t8 j0 j1
section PLY
variable {kc : List va_E} {d : Nat} {Q : Option fx_V → fx_M → Prop}
theorem pbeg_one : ∀ (k : Nat) (M : fx_M) (c : Int), c + k = 27 → 0 ≤ c → (∀ M', (∀ j : Int, c ≤ j → j < 27 → M' 54 j = -1 ∧ M' 55 j = 0) → (∀ b j, ¬ ((b = 54 ∨ b = 55) ∧ c ≤ j ∧ j < 27) → M' b j = M b j) → wp kc (d + 1) 73 30 [some (jR 53), some (jI 0)] [] M' Q) → wp kc (d + 1) 73 2 [some (jR 53), some (jI c)] [] M Q
  | 0, M, c, hc, h0, K => s73_2 ⟨⟨by omega, by omega⟩, fun _ => K M (fun j j0 j1 => by omega) (fun _ _ _ => rfl), fun h => by omega⟩
  | k + 1, M, c, hc, h0, K => by
    refine s73_2 ⟨⟨by omega, by omega⟩, fun h => by omega, fun _ => ⟨⟨by omega, by omega⟩, ⟨by omega, by omega⟩, ?_⟩⟩
    refine pbeg_one k _ (c + 1) (by omega) (by omega) (fun M' h1 h2 => K M' (fun j j0 j1 => ?_) (fun b j hb => ?_))
    · by_cases hj : j = c
      · subst hj
        rw [h2 54 j (by omega), h2 55 j (by omega), fx_up_self, fx_up_na (by decide), fx_up_self]
        exact ⟨rfl, rfl⟩
      · exact h1 j (by omega) j1
    · rw [h2 b j (by omega), fx_up_ne (by omega), fx_up_ne (by omega)]
theorem pbeg_two : ∀ (k : Nat) (M : fx_M) (c : Int), c + k = 3 → 0 ≤ c → (∀ M', (∀ j : Int, c ≤ j → j < 3 → M' 56 j = 0 ∧ M' 57 j = -1) → (∀ b j, ¬ ((b = 56 ∨ b = 57) ∧ c ≤ j ∧ j < 3) → M' b j = M b j) → Q none M') → wp kc (d + 1) 73 30 [some (jR 53), some (jI c)] [] M Q
  | 0, M, c, hc, h0, K => s73_30 ⟨⟨by omega, by omega⟩, fun _ => K M (fun j j0 j1 => by omega) (fun _ _ _ => rfl), fun h => by omega⟩
  | k + 1, M, c, hc, h0, K => by
    refine s73_30 ⟨⟨by omega, by omega⟩, fun h => by omega, fun _ => ⟨⟨by omega, by omega⟩, ⟨by omega, by omega⟩, ?_⟩⟩
    refine pbeg_two k _ (c + 1) (by omega) (by omega) (fun M' h1 h2 => K M' (fun j j0 j1 => ?_) (fun b j hb => ?_))
    · by_cases hj : j = c
      · subst hj
        rw [h2 56 j (by omega), h2 57 j (by omega), fx_up_self, fx_up_na (by decide), fx_up_self]
        exact ⟨rfl, rfl⟩
      · exact h1 j (by omega) j1
    · rw [h2 b j (by omega), fx_up_ne (by omega), fx_up_ne (by omega)]
/-- begin -/
theorem sp_pbegin {M V : fx_M} (h : cpv M V) (K : ∀ M', cpv M' (pv_new V) → (∀ b j, ¬ (54 ≤ b ∧ b ≤ 57) → M' b j = M b j) → Q none M') : wc kc (d + 1) 73 [jR 53] M Q := by
  refine s73 (pbeg_one 27 M 0 (by omega) (by omega) (fun N n1 n2 => pbeg_two 3 N 0 (by omega) (by omega) (fun M' m1 m2 => K M' ?_ (fun b j hb => by rw [m2 b j (by omega), n2 b j (by omega)]))))
  refine ⟨by rw [m2 53 0 (by omega), n2 53 0 (by omega)]; exact h.1, fun i j i1 i8 j0 j1 => ?_⟩
  have hi : i = 1 ∨ i = 2 ∨ i = 3 ∨ i = 4 ∨ 5 ≤ i := by omega
  rcases hi with rfl | rfl | rfl | rfl | hi
  · have j1 : j < 27 := j1
    rw [m2 _ _ (by omega), (n1 j j0 j1).1]
    simp [pv_new, j0, j1]
  · have j1 : j < 27 := j1
    rw [m2 _ _ (by omega), (n1 j j0 j1).2]
    simp [pv_new, j0, j1]
  · have j1 : j < 3 := j1
    rw [(m1 j j0 j1).1]
    simp [pv_new, j0, j1]
  · have j1 : j < 3 := j1
    rw [(m1 j j0 j1).2]
    simp [pv_new, j0, j1]
  · rw [m2 _ _ (by omega), n2 _ _ (by omega), h.2 i j i1 i8 j0 j1]
    unfold pv_new
    rw [if_neg (by omega), if_neg (by omega), if_neg (by omega), if_neg (by omega)]
theorem mbeg_one : ∀ (k : Nat) (M : fx_M) (c : Int), c + k = 3 → 0 ≤ c → (∀ M', (∀ j : Int, c ≤ j → j < 3 → M' 176 j = 0 ∧ M' 177 j = -1) → (∀ b j, ¬ ((b = 176 ∨ b = 177) ∧ c ≤ j ∧ j < 3) → M' b j = M b j) → wp kc (d + 1) 215 29 [some (jR 133), some (jI 0)] [] M' Q) → wp kc (d + 1) 215 2 [some (jR 133), some (jI c)] [] M Q
  | 0, M, c, hc, h0, K => s215_2 ⟨⟨by omega, by omega⟩, fun _ => K M (fun j j0 j1 => by omega) (fun _ _ _ => rfl), fun h => by omega⟩
  | k + 1, M, c, hc, h0, K => by
    refine s215_2 ⟨⟨by omega, by omega⟩, fun h => by omega, fun _ => ⟨⟨by omega, by omega⟩, ⟨by omega, by omega⟩, ?_⟩⟩
    refine mbeg_one k _ (c + 1) (by omega) (by omega) (fun M' h1 h2 => K M' (fun j j0 j1 => ?_) (fun b j hb => ?_))
    · by_cases hj : j = c
      · subst hj
        rw [h2 176 j (by omega), h2 177 j (by omega), fx_up_self, fx_up_na (by decide), fx_up_self]
        exact ⟨rfl, rfl⟩
      · exact h1 j (by omega) j1
    · rw [h2 b j (by omega), fx_up_ne (by omega), fx_up_ne (by omega)]
theorem mbeg_two : ∀ (k : Nat) (M : fx_M) (c : Int), c + k = 27 → 0 ≤ c → (∀ M', (∀ j : Int, c ≤ j → j < 27 → M' 174 j = -1 ∧ M' 175 j = 0) → (∀ b j, ¬ ((b = 174 ∨ b = 175) ∧ c ≤ j ∧ j < 27) → M' b j = M b j) → Q none M') → wp kc (d + 1) 215 29 [some (jR 133), some (jI c)] [] M Q
  | 0, M, c, hc, h0, K => s215_29 ⟨⟨by omega, by omega⟩, fun _ => K M (fun j j0 j1 => by omega) (fun _ _ _ => rfl), fun h => by omega⟩
  | k + 1, M, c, hc, h0, K => by
    refine s215_29 ⟨⟨by omega, by omega⟩, fun h => by omega, fun _ => ⟨⟨by omega, by omega⟩, ⟨by omega, by omega⟩, ?_⟩⟩
    refine mbeg_two k _ (c + 1) (by omega) (by omega) (fun M' h1 h2 => K M' (fun j j0 j1 => ?_) (fun b j hb => ?_))
    · by_cases hj : j = c
      · subst hj
        rw [h2 174 j (by omega), h2 175 j (by omega), fx_up_self, fx_up_na (by decide), fx_up_self]
        exact ⟨rfl, rfl⟩
      · exact h1 j (by omega) j1
    · rw [h2 b j (by omega), fx_up_ne (by omega), fx_up_ne (by omega)]
/-- playAnew -/
theorem sp_playAnew {M V : fx_M} (h : mpv M V) (K : ∀ M', mpv M' (pv_new V) → (∀ b j, ¬ (174 ≤ b ∧ b ≤ 177) → M' b j = M b j) → Q none M') : wc kc (d + 1) 215 [jR 133] M Q := by
  refine s215 (mbeg_one 3 M 0 (by omega) (by omega) (fun N n1 n2 => mbeg_two 27 N 0 (by omega) (by omega) (fun M' m1 m2 => K M' ?_ (fun b j hb => by rw [m2 b j (by omega), n2 b j (by omega)]))))
  refine ⟨by rw [m2 133 80 (by omega), n2 133 80 (by omega)]; exact h.1, fun i j i1 i8 j0 j1 => ?_⟩
  have hh := h.2 i j i1 i8 j0 j1
  have hi : i = 1 ∨ i = 2 ∨ i = 3 ∨ i = 4 ∨ 5 ≤ i := by omega
  rcases hi with rfl | rfl | rfl | rfl | hi
  · have j1 : j < 27 := j1
    show M' 174 j = _
    rw [(m1 j j0 j1).1]
    simp [pv_new, j0, j1]
  · have j1 : j < 27 := j1
    show M' 175 j = _
    rw [(m1 j j0 j1).2]
    simp [pv_new, j0, j1]
  · have j1 : j < 3 := j1
    show M' 176 j = _
    rw [m2 _ _ (by omega), (n1 j j0 j1).1]
    simp [pv_new, j0, j1]
  · have j1 : j < 3 := j1
    show M' 177 j = _
    rw [m2 _ _ (by omega), (n1 j j0 j1).2]
    simp [pv_new, j0, j1]
  · have hb : 178 ≤ pvM i := by
      unfold pvM
      (repeat' split) <;> omega
    rw [m2 _ _ (by omega), n2 _ _ (by omega), hh]
    unfold pv_new
    rw [if_neg (by omega), if_neg (by omega), if_neg (by omega), if_neg (by omega)]
end PLY
