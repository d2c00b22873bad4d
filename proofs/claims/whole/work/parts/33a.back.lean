/-! A puzzle's text is read back without a fault. -/
/-- from p to the end e lies L -/
def lyT (g : Int → Int) (e p : Int) (L : List Int) : Prop := e = p + L.length ∧ ∀ (i : Nat) (v : Int), L[i]? = some v → g (p + i) = v
/-- no digit ahead -/
def nds (L : List Int) : Prop := ∀ c R, L = c :: R → ¬ isD c
def semi (L : List Int) : Prop := ∀ c R, L = c :: R → c = 59
theorem semi_nds {L : List Int} (h : semi L) : nds L := fun c R e => by
  rw [h c R e]
  unfold isD
  omega
theorem nds_cons {c : Int} {L : List Int} (h : ¬ isD c) : nds (c :: L) := fun d R e => by
  cases e
  exact h
section LYT
variable {g : Int → Int} {e p : Int} {L : List Int}
theorem ly_cons {c : Int} (h : lyT g e p (c :: L)) : p < e ∧ g p = c ∧ lyT g e (p + 1) L := by
  obtain ⟨h1, h2⟩ := h
  rw [List.length_cons] at h1
  refine ⟨by omega, ?_, by omega, fun i v hv => ?_⟩
  · have := h2 0 c rfl
    rw [show p + ((0 : Nat) : Int) = p by omega] at this
    exact this
  · have := h2 (i + 1) v (by rw [List.getElem?_cons_succ]; exact hv)
    rw [show p + ((i + 1 : Nat) : Int) = p + 1 + (i : Int) by omega] at this
    exact this
theorem ly_app : ∀ {A : List Int} {p : Int}, lyT g e p (A ++ L) → cpl g e A p = A.length ∧ lyT g e (p + A.length) L
  | [], p, h => ⟨rfl, by rw [show p + ((([] : List Int).length : Nat) : Int) = p from Int.add_zero p]; exact h⟩
  | c :: A, p, h => by
    obtain ⟨h1, h2, h3⟩ := ly_cons (L := A ++ L) h
    obtain ⟨h4, h5⟩ := ly_app (A := A) h3
    rw [cpl, if_pos h1, if_pos h2, h4, List.length_cons, show p + ((A.length + 1 : Nat) : Int) = p + 1 + (A.length : Int) by omega]
    exact ⟨rfl, h5⟩
theorem ly_nil (h : lyT g e p []) : e = p := by
  have := h.1
  rw [List.length_nil] at this
  omega
theorem ly_T {c : Int} (h : lyT g e p (c :: L)) : rT g e c p 0 = (p + 1, 0) := by
  obtain ⟨h1, h2, h3⟩ := ly_cons h
  unfold rT
  rw [if_pos rfl, if_pos h1, if_pos h2]
theorem ly_nd (h : lyT g e p L) (hn : nds L) : ¬ (p < e ∧ isD (g p)) := by
  cases L with
  | nil =>
    have := ly_nil h
    omega
  | cons c R =>
    obtain ⟨h1, h2, h3⟩ := ly_cons h
    rw [h2]
    exact fun x => hn c R rfl x.2
theorem dgs_2 {v : Int} (h : 10 ≤ v ∧ v < 100) : dgs v = [48 + v / 10, 48 + v % 10] := by
  have e1 : dgn v = 1 := by
    unfold dgn
    rw [if_neg (by omega), if_pos (by omega)]
  have e2 : dgk v 1 = (48 + v / ((10 ^ 1 : Nat) : Int) % 10) :: dgk v 0 := rfl
  have e3 : ((10 ^ 1 : Nat) : Int) = 10 := rfl
  have e4 : dgk v 0 = [48 + v % 10] := rfl
  unfold dgs
  rw [e1, e2, e3, e4, show v / 10 % 10 = v / 10 by omega]
theorem ly_N1 {v : Int} (hv : 0 ≤ v ∧ v < 10) (h : lyT g e p (dgs v ++ L)) : rN g e 1 p 0 = (v, p + 1, 0) ∧ lyT g e (p + 1) L := by
  rw [dgs_1 hv] at h
  obtain ⟨h1, h2, h3⟩ := ly_cons (L := L) h
  refine ⟨?_, h3⟩
  unfold rN
  rw [if_pos ⟨rfl, h1, by rw [h2]; unfold isD; omega⟩, h2]
  show (48 + v - 48, p + 1, (0 : Int)) = (v, p + 1, 0)
  rw [show 48 + v - 48 = v by omega]
theorem ly_N3 {v : Int} (hv : 0 ≤ v ∧ v < 100) (hn : nds L) (h : lyT g e p (dgs v ++ L)) : rN g e 3 p 0 = (v, p + (dgs v).length, 0) ∧ lyT g e (p + (dgs v).length) L := by
  refine ⟨?_, (ly_app h).2⟩
  by_cases hc : v < 10
  · rw [dgs_1 ⟨hv.1, hc⟩] at h ⊢
    obtain ⟨h1, h2, h3⟩ := ly_cons (L := L) h
    unfold rN
    rw [if_pos ⟨rfl, h1, by rw [h2]; unfold isD; omega⟩, h2]
    have nd := ly_nd h3 hn
    have e1 : rN1 g e (3 - 1) (48 + v - 48) (p + 1) = (48 + v - 48, p + 1) := by
      show rN1 g e (1 + 1) _ _ = _
      rw [rN1, if_neg (fun x => nd x.2)]
    rw [e1]
    show (48 + v - 48, p + 1, (0 : Int)) = (v, p + ((1 : Nat) : Int), 0)
    rw [show 48 + v - 48 = v by omega, show p + ((1 : Nat) : Int) = p + 1 by omega]
  · rw [dgs_2 ⟨by omega, hv.2⟩] at h ⊢
    obtain ⟨h1, h2, h3⟩ := ly_cons (L := (48 + v % 10) :: L) h
    obtain ⟨h4, h5, h6⟩ := ly_cons (L := L) h3
    have nd := ly_nd h6 hn
    unfold rN
    rw [if_pos ⟨rfl, h1, by rw [h2]; unfold isD; omega⟩, h2]
    have e1 : rN1 g e (3 - 1) (48 + v / 10 - 48) (p + 1) = (v, p + 1 + 1) := by
      show rN1 g e (1 + 1) _ _ = _
      rw [rN1, if_pos ⟨by omega, h4, by rw [h5]; unfold isD; omega⟩, h5]
      show rN1 g e (0 + 1) _ _ = _
      rw [rN1, if_neg (fun x => nd x.2), show (48 + v / 10 - 48) * 10 + (48 + v % 10) - 48 = v by omega]
    rw [e1]
    show (v, p + 1 + 1, (0 : Int)) = (v, p + ((2 : Nat) : Int), 0)
    rw [show p + ((2 : Nat) : Int) = p + 1 + 1 by omega]
theorem ly_BN1 {v : Int} (hv : 0 ≤ v ∧ v < 10) (h : lyT g e p (32 :: (dgs v ++ L))) : rBN g e 1 p 0 = (v, p + 2, 0) ∧ lyT g e (p + 2) L := by
  have h1 := ly_N1 hv (ly_cons h).2.2
  unfold rBN
  rw [ly_T h, show p + 2 = p + 1 + 1 by omega]
  exact h1
theorem ly_BN3 {v : Int} (hv : 0 ≤ v ∧ v < 100) (hn : nds L) (h : lyT g e p (32 :: (dgs v ++ L))) : rBN g e 3 p 0 = (v, p + 1 + (dgs v).length, 0) ∧ lyT g e (p + 1 + (dgs v).length) L := by
  have h1 := ly_N3 hv hn (ly_cons h).2.2
  unfold rBN
  rw [ly_T h]
  exact h1
/-- the word that stands there is chosen -/
theorem cpl_take : ∀ {w : List Int} {p : Int} (n : Nat), cpl g e w p = w.length → cpl g e (w.take n) p = (w.take n).length
  | [], _, n, _ => by
    rw [List.take_nil]
    rfl
  | c :: w, p, 0, _ => rfl
  | c :: w, p, n + 1, h => by
    rw [cpl, List.length_cons] at h
    by_cases h1 : p < e
    · rw [if_pos h1] at h
      by_cases h2 : g p = c
      · rw [if_pos h2] at h
        rw [List.take_succ_cons, cpl, if_pos h1, if_pos h2, cpl_take (w := w) n (by omega), List.length_cons]
      · rw [if_neg h2] at h
        omega
    · rw [if_neg h1] at h
      omega
theorem ch_at {bs : List Int32} {ws : List (List Int)} (hb : bs.map Int32.toInt = jw ws) (hne : ws ≠ []) (h32 : ∀ w ∈ ws, ∀ c ∈ w, c ≠ 32) (h0 : ∀ w ∈ ws, 0 < w.length) (hpf : ∀ j k : Fin ws.length, ws[j].take ws[k].length = ws[k] → j = k) {k : Nat} {w : List Int} (hk : ws[k]? = some w) (hc : cpl g e w p = w.length) : rC g e bs p 0 = ((k : Int), p + w.length, 0) := by
  have hs := chw_spec (g := g) (e := e) (p := p) ws (-1) 0 0 0 h0 (by omega) (by omega) (by omega)
  have hm := ml_ge (List.mem_of_getElem? hk) hc
  have hw0 := h0 w (List.mem_of_getElem? hk)
  obtain ⟨j, w', j1, j2, j3, j4⟩ := hs.2.2.2 (by omega)
  obtain ⟨hkl, hkw⟩ := List.getElem?_eq_some_iff.mp hk
  obtain ⟨hjl, hjw⟩ := List.getElem?_eq_some_iff.mp j1
  have ht : w'.take w.length = w := by
    refine cpl_eq (cpl_take w.length j3) hc ?_
    rw [List.length_take]
    omega
  have hjk : j = k := by
    have := hpf ⟨j, hjl⟩ ⟨k, hkl⟩ (by
      show (ws[j]).take (ws[k]).length = ws[k]
      rw [hjw, hkw]
      exact ht)
    exact congrArg Fin.val this
  subst hjk
  rw [j1] at hk
  cases hk
  have e1 : chs g e p bs = chw g e p ws (-1) 0 0 0 := by
    unfold chs
    rw [hb]
    exact chl_words ws _ _ _ _ hne h32
  unfold rC
  rw [if_pos rfl, e1, j2, hs.1, if_neg (by omega), if_neg (by omega), ← j4]
  refine Prod.ext (by dsimp only; omega) (Prod.ext ?_ rfl)
  dsimp only
  omega
theorem knm_ws : ∀ k : Fin 8, wsK[(k : Nat)]? = some (knm ((k : Nat) : Int)) := by decide +kernel
theorem ly_K {k n : Int} (hk : 0 ≤ k ∧ k < 8) (hn : 0 ≤ n ∧ n < 100) (hL : nds L) (h : lyT g e p (32 :: (knm k ++ ((if hasN k = true then 32 :: dgs n else []) ++ L)))) : ∃ m q, rK g e bsK p 0 = (k, m, q, 0) ∧ 0 ≤ m ∧ m ≤ 99 ∧ lyT g e q L := by
  obtain ⟨c1, c2⟩ := ly_app (ly_cons h).2.2
  have hw := knm_ws ⟨k.toNat, by omega⟩
  have ek : (((⟨k.toNat, by omega⟩ : Fin 8) : Nat) : Int) = k := by
    dsimp only
    omega
  rw [ek] at hw
  have hC := ch_at (g := g) (e := e) (p := p + 1) (bs := bsK) (ws := wsK) (by decide +kernel) (by decide) (by decide) (by decide) (by decide +kernel) hw c1
  rw [ek] at hC
  unfold rK
  rw [ly_T h]
  dsimp only
  rw [hC]
  dsimp only
  by_cases hh : hasN k = true
  · rw [if_pos hh]
    rw [if_pos hh] at c2
    have h3 := ly_BN3 hn hL (L := L) c2
    rw [h3.1]
    exact ⟨_, _, rfl, hn.1, by omega, h3.2⟩
  · rw [if_neg hh]
    rw [if_neg hh] at c2
    exact ⟨_, _, rfl, by omega, by omega, c2⟩
theorem nds_cells (hL : semi L) (l : List Int) : nds (l.flatMap (fun c => 32 :: dgs c) ++ L) := by
  cases l with
  | nil => exact semi_nds hL
  | cons c l => exact nds_cons (by unfold isD; omega)
theorem ly_R (hL : semi L) : ∀ (l : List Int) (f : Nat) (b : Bool) (p : Int), lyT g e p (l.flatMap (fun c => 32 :: dgs c) ++ L) → l.length < f → (b = true → l ≠ []) → (∀ c ∈ l, 0 ≤ c ∧ c < 100) → ∃ q, rR g e f b p 0 = (l, q, 0) ∧ lyT g e q L
  | [], 0, _, _, _, hf, _, _ => by cases hf
  | [], f + 1, b, p, h, _, hb, _ => by
    refine ⟨p, ?_, h⟩
    have h' : lyT g e p L := h
    rw [rR, if_neg]
    rintro ⟨_, x | x⟩
    · exact hb x rfl
    · cases L with
      | nil =>
        have := ly_nil h'
        omega
      | cons c R =>
        have h1 := (ly_cons h').2.1
        have := hL c R rfl
        omega
  | c :: l, 0, _, _, _, hf, _, _ => by cases hf
  | c :: l, f + 1, b, p, h, hf, hb, hc => by
    rw [List.flatMap_cons, List.cons_append, List.cons_append, List.append_assoc] at h
    have h1 := ly_cons h
    have h2 := ly_BN3 (hc c (List.mem_cons_self ..)) (nds_cells hL l) h
    rw [List.length_cons] at hf
    obtain ⟨q, q1, q2⟩ := ly_R hL l f false _ h2.2 (by omega) (fun x => by cases x) (fun y hy => hc y (List.mem_cons_of_mem _ hy))
    refine ⟨q, ?_, q2⟩
    rw [rR, if_pos ⟨rfl, Or.inr ⟨h1.1, h1.2.1⟩⟩, h2.1]
    dsimp only
    rw [q1]
end LYT
