/-! The class's lines: what is written of them as long as there is room. -/
theorem o_app_lo : ∀ {cs : List Int} {M : fx_M} {j : Int}, j < M 3 1 → o_app M 3 cs 4 j = M 4 j
  | [], M, j, _ => rfl
  | c :: cs, M, j, h => by
    have h1 : M 3 1 ≤ o_put M 3 c 3 1 := by
      unfold o_put
      split
      · rw [fx_up_self]
        omega
      · omega
    have h2 : o_put M 3 c 4 j = M 4 j := by
      unfold o_put
      split
      · rw [fx_up_na (by decide), fx_up_nk (by omega)]
      · rfl
    show o_app (o_put M 3 c) 3 cs 4 j = M 4 j
    rw [o_app_lo (by omega), h2]
theorem o_put_1 {M : fx_M} {c : Int} (h : M 3 1 < 5600) : o_put M 3 c 3 1 = M 3 1 + 1 ∧ o_put M 3 c 4 (M 3 1) = c ∧ ∀ j, j ≠ M 3 1 → o_put M 3 c 4 j = M 4 j := by
  unfold o_put
  rw [fx_ol3, if_pos (by omega)]
  exact ⟨by rw [fx_up_self], by rw [fx_up_na (by decide), fx_up_self], fun j hj => by rw [fx_up_na (by decide), fx_up_nk hj]⟩
theorem o_app_get : ∀ {cs : List Int} {M : fx_M} {i : Nat}, M 3 1 + cs.length ≤ 5600 → i < cs.length → o_app M 3 cs 4 (M 3 1 + i) = cs.getD i 0
  | [], M, i, _, h => by simp at h
  | c :: cs, M, i, h, hi => by
    simp only [List.length_cons] at h hi
    obtain ⟨h1, h2, h3⟩ := o_put_1 (M := M) (c := c) (by omega)
    show o_app (o_put M 3 c) 3 cs 4 (M 3 1 + i) = _
    cases i with
    | zero =>
      rw [show M 3 1 + ((0 : Nat) : Int) = M 3 1 by omega, o_app_lo (by omega), h2]
      rfl
    | succ i =>
      have := o_app_get (cs := cs) (M := o_put M 3 c) (i := i) (by omega) (by omega)
      rw [h1] at this
      rw [show M 3 1 + ((i + 1 : Nat) : Int) = M 3 1 + 1 + (i : Int) by omega, this]
      rfl
theorem o_app_hi : ∀ {cs : List Int} {M : fx_M} {j : Int}, M 3 1 + cs.length ≤ 5600 → M 3 1 + cs.length ≤ j → o_app M 3 cs 4 j = M 4 j
  | [], M, j, _, _ => rfl
  | c :: cs, M, j, h, hj => by
    simp only [List.length_cons] at h hj
    obtain ⟨h1, h2, h3⟩ := o_put_1 (M := M) (c := c) (by omega)
    show o_app (o_put M 3 c) 3 cs 4 j = _
    rw [o_app_hi (by omega) (by omega), h3 j (by omega)]
theorem o_app_l3 {cs : List Int} {M : fx_M} (h : M 3 1 + cs.length ≤ 5600) : o_app M 3 cs 3 1 = M 3 1 + cs.length := o_app_len (by rw [fx_ol3]; omega)
theorem o_app_ge : ∀ {cs : List Int} {M : fx_M}, o_ok M 3 → M 3 1 ≤ o_app M 3 cs 3 1 ∧ (5600 < M 3 1 + cs.length → o_app M 3 cs 3 1 = 5600)
  | [], M, hO => by
    unfold o_ok at hO
    rw [fx_ol3] at hO
    exact ⟨by simp [o_app], fun h => by simp at h; omega⟩
  | c :: cs, M, hO => by
    have ih := o_app_ge (cs := cs) (o_ok_put (c := c) hO)
    have h1 : o_put M 3 c 3 1 = if M 3 1 < 5600 then M 3 1 + 1 else M 3 1 := by
      unfold o_put
      rw [fx_ol3]
      split
      · next h => rw [fx_up_self, if_pos (by omega)]
      · next h => rw [if_neg (by omega)]
    have hO2 := o_ok_app (cs := cs) (o_ok_put (c := c) hO)
    unfold o_ok at hO hO2
    rw [fx_ol3] at hO hO2
    show M 3 1 ≤ o_app (o_put M 3 c) 3 cs 3 1 ∧ (5600 < M 3 1 + (c :: cs).length → o_app (o_put M 3 c) 3 cs 3 1 = 5600)
    rw [h1] at ih
    simp only [List.length_cons]
    split at ih
    · next h => exact ⟨by omega, fun h2 => ih.2 (by omega)⟩
    · next h => exact ⟨by omega, fun h2 => by omega⟩
/-- cs is written, as long as there is room -/
def cout (M M' : fx_M) (cs : List Int) : Prop := o_ok M' 3 ∧ M 3 1 ≤ M' 3 1 ∧ (M 3 1 + cs.length ≤ 5600 → M' 3 1 = o_app M 3 cs 3 1 ∧ ∀ j, M' 4 j = o_app M 3 cs 4 j) ∧ (5600 < M 3 1 + cs.length → 5596 ≤ M' 3 1)
theorem cout.ok {M M' : fx_M} {cs : List Int} (h : cout M M' cs) : o_ok M' 3 := h.1
theorem cout.mo {M M' : fx_M} {cs : List Int} (h : cout M M' cs) : M 3 1 ≤ M' 3 1 := h.2.1
theorem cout.ex {M M' : fx_M} {cs : List Int} (h : cout M M' cs) : M 3 1 + cs.length ≤ 5600 → M' 3 1 = o_app M 3 cs 3 1 ∧ ∀ j, M' 4 j = o_app M 3 cs 4 j := h.2.2.1
theorem cout.ov {M M' : fx_M} {cs : List Int} (h : cout M M' cs) : 5600 < M 3 1 + cs.length → 5596 ≤ M' 3 1 := h.2.2.2
theorem cout_app {M : fx_M} {cs : List Int} (hO : o_ok M 3) : cout M (o_app M 3 cs) cs := ⟨o_ok_app hO, (o_app_ge hO).1, fun _ => ⟨rfl, fun _ => rfl⟩, fun h => by rw [(o_app_ge hO).2 h]; omega⟩
theorem cout_put {M : fx_M} {c : Int} (hO : o_ok M 3) : cout M (o_put M 3 c) [c] := cout_app (cs := [c]) hO
theorem cout_fr {M N : fx_M} (hO : o_ok M 3) (h1 : N 3 1 = M 3 1) (h4 : ∀ j, N 4 j = M 4 j) : cout M N [] := by
  refine ⟨?_, by omega, fun _ => ⟨h1, h4⟩, fun h => ?_⟩
  · unfold o_ok at hO ⊢
    rw [h1]
    exact hO
  · unfold o_ok at hO
    rw [fx_ol3] at hO
    simp at h
    omega
theorem cout_rf {M : fx_M} (hO : o_ok M 3) : cout M M [] := cout_fr hO rfl (fun _ => rfl)
theorem cout_tr {M N O : fx_M} {cs ds : List Int} (h1 : cout M N cs) (h2 : cout N O ds) : cout M O (cs ++ ds) := by
  refine ⟨h2.ok, by have := h1.mo; have := h2.mo; omega, fun hl => ?_, fun hl => ?_⟩
  · rw [List.length_append] at hl
    obtain ⟨a1, a2⟩ := h1.ex (by omega)
    have e := o_app_l3 (cs := cs) (M := M) (by omega)
    obtain ⟨b1, b2⟩ := h2.ex (by rw [a1, e]; omega)
    have c1 := o_app_cg (cs := ds) a1 a2
    exact ⟨by rw [b1, c1.1, o_app_app], fun j => by rw [b2, c1.2, o_app_app]⟩
  · rw [List.length_append] at hl
    by_cases hc : M 3 1 + cs.length ≤ 5600
    · obtain ⟨a1, a2⟩ := h1.ex hc
      have e := o_app_l3 (cs := cs) (M := M) (by omega)
      exact h2.ov (by rw [a1, e]; omega)
    · have := h1.ov (by omega)
      have := h2.mo
      omega
theorem cout_0 {M N : fx_M} {cs : List Int} (h : cout M N (cs ++ [])) : cout M N cs := by
  rw [List.append_nil] at h
  exact h
/-- only what is written has changed -/
def fOu (M N : fx_M) : Prop := ∀ b j, ¬ (b = 3 ∧ j = 1) → b ≠ 4 → N b j = M b j
theorem fOu_rf {M : fx_M} : fOu M M := fun _ _ _ _ => rfl
theorem fOu_tr {M N O : fx_M} (h1 : fOu M N) (h2 : fOu N O) : fOu M O := fun b j a1 a2 => (h2 b j a1 a2).trans (h1 b j a1 a2)
theorem fOu_app {M : fx_M} {cs : List Int} : fOu M (o_app M 3 cs) := fun b j h1 h2 => o_app_n3 h1 h2
theorem fOu_put {M : fx_M} {c : Int} : fOu M (o_put M 3 c) := fun b j h1 h2 => o_put_n3 h1 h2
theorem cz_Ou {M N : fx_M} {Z : PZ} (hz : cz M 11 Z) (h : fOu M N) : cz N 11 Z := cz_fr hz (fun b j h1 h2 => h b j (by omega) (by omega))
theorem ckn_Ou {M N : fx_M} {Z : PZ} (hz : ckn M 11 Z) (h : fOu M N) : ckn N 11 Z := ckn_fr hz (fun b j h1 h2 => h b j (by omega) (by omega))
/-- literals of a cell -/
def tLt (sg c : Int) (m : Nat) : List Int := (List.range 4).flatMap fun y => if m.testBit y = true then lit sg c y else []
def tLr (sg c : Int) (m y t : Nat) : List Int := (List.range' y t).flatMap fun y => if m.testBit y = true then lit sg c y else []
theorem tLt_r {sg c : Int} {m : Nat} : tLt sg c m = tLr sg c m 0 4 := by
  unfold tLt tLr
  rw [List.range_eq_range']
section CLI
variable {kc : List va_E} {d : Nat} {Q : Option fx_V → fx_M → Prop}
/-- one literal at once -/
theorem lit_at {M : fx_M} {sg c : Int} {y : Nat} (hO : o_ok M 3) (hc : 0 ≤ c ∧ c < 10) (hy : y < 4) (h : M 3 1 + 5 ≤ 5600) : cout M (fx_up (fx_up (fx_up (fx_up (fx_up (fx_up M 4 (M 3 1) 32) 4 (M 3 1 + 1) sg) 4 (M 3 1 + 2) ((48 + c) % 65536)) 4 (M 3 1 + 3) 46) 4 (M 3 1 + 4) ((48 + (y : Int)) % 65536)) 3 1 (M 3 1 + 5)) (lit sg c y) := by
  have hl : (lit sg c y).length = 5 := rfl
  have e3 := o_app_l3 (cs := lit sg c y) (M := M) (by rw [hl]; omega)
  rw [hl] at e3
  unfold o_ok at hO
  refine ⟨?_, by rw [fx_up_self]; omega, fun _ => ⟨by rw [fx_up_self, e3]; rfl, fun j => ?_⟩, fun h2 => by rw [hl] at h2; omega⟩
  · unfold o_ok
    rw [fx_up_self, fx_ol3]
    omega
  · rw [fx_up_na (a := 3) (by decide)]
    by_cases j1 : j < M 3 1
    · rw [o_app_lo j1, fx_up_nk (by omega), fx_up_nk (by omega), fx_up_nk (by omega), fx_up_nk (by omega), fx_up_nk (by omega)]
    · by_cases j2 : M 3 1 + 5 ≤ j
      · rw [o_app_hi (by rw [hl]; omega) (by rw [hl]; omega), fx_up_nk (by omega), fx_up_nk (by omega), fx_up_nk (by omega), fx_up_nk (by omega), fx_up_nk (by omega)]
      · have g : ∀ i : Nat, i < 5 → o_app M 3 (lit sg c y) 4 (M 3 1 + i) = (lit sg c y).getD i 0 := fun i hi => o_app_get (by rw [hl]; omega) (by rw [hl]; exact hi)
        have hj : j = M 3 1 ∨ j = M 3 1 + 1 ∨ j = M 3 1 + 2 ∨ j = M 3 1 + 3 ∨ j = M 3 1 + 4 := by omega
        rcases hj with e | e | e | e | e
        · have := g 0 (by omega)
          rw [show M 3 1 + ((0 : Nat) : Int) = j by omega] at this
          rw [this, fx_up_nk (by omega), fx_up_nk (by omega), fx_up_nk (by omega), fx_up_nk (by omega), ← e, fx_up_self]
          rfl
        · have := g 1 (by omega)
          rw [show M 3 1 + ((1 : Nat) : Int) = j by omega] at this
          rw [this, fx_up_nk (by omega), fx_up_nk (by omega), fx_up_nk (by omega), ← e, fx_up_self]
          rfl
        · have := g 2 (by omega)
          rw [show M 3 1 + ((2 : Nat) : Int) = j by omega] at this
          rw [this, fx_up_nk (by omega), fx_up_nk (by omega), ← e, fx_up_self]
          show (48 + c) % 65536 = 48 + c
          omega
        · have := g 3 (by omega)
          rw [show M 3 1 + ((3 : Nat) : Int) = j by omega] at this
          rw [this, fx_up_nk (by omega), ← e, fx_up_self]
          rfl
        · have := g 4 (by omega)
          rw [show M 3 1 + ((4 : Nat) : Int) = j by omega] at this
          rw [this, ← e, fx_up_self]
          show (48 + (y : Int)) % 65536 = 48 + (y : Int)
          omega
theorem lits_loop {M0 : fx_M} {sg c : Int} {m : Nat} (hsg : 0 ≤ sg ∧ sg ≤ 65535) (hc : 0 ≤ c ∧ c < 10) (hm : m < 16) {cs : List Int} (K : ∀ M', cout M0 M' cs → fOu M0 M' → Q none M') : ∀ (t y : Nat) (M : fx_M) (ds : List Int), y + t = 4 → cout M0 M ds → fOu M0 M → ds ++ tLr sg c m y t = cs → wp kc (d + 1) 107 3 [some (jR 3), some (jI sg), some (jI c), some (jI m), some (jI y)] [] M Q := by
  intro t
  induction t with
  | zero =>
    intro y M ds hy ho hf he
    have he : ds = cs := by rw [← he]; simp [tLr]
    subst he
    exact s107_3 out3 ⟨⟨by omega, by omega⟩, fun _ => K M ho hf, fun h => by omega⟩
  | succ t ih =>
    intro y M ds hy ho hf he
    have hO := ho.ok
    have hOb := hO
    unfold o_ok at hOb
    rw [fx_ol3] at hOb
    have hb := sm_bit ⟨m, hm⟩ ⟨y, by omega⟩
    simp only at hb
    have er : tLr sg c m y (t + 1) = (if m.testBit y = true then lit sg c y else []) ++ tLr sg c m (y + 1) t := by
      unfold tLr
      rw [List.range'_succ, List.flatMap_cons]
    rw [er] at he
    refine s107_3 out3 ⟨⟨by omega, by omega⟩, fun h => by omega, fun _ => ?_⟩
    rw [hb, fx_ol3]
    have go : ∀ M' ds', cout M0 M' ds' → fOu M0 M' → ds' ++ tLr sg c m (y + 1) t = cs → wp kc (d + 1) 107 3 [some (jR 3), some (jI sg), some (jI c), some (jI m), some (jI ((y : Int) + 1))] [] M' Q := fun M' ds' h1 h2 h3 => by
      have nx := ih (y + 1) M' ds' (by omega) h1 h2 h3
      rw [show ((y + 1 : Nat) : Int) = (y : Int) + 1 by omega] at nx
      exact nx
    by_cases hbt : m.testBit y = true
    · rw [if_pos hbt]
      rw [if_pos hbt, ← List.append_assoc] at he
      refine ⟨⟨by omega, by omega⟩, fun h => by omega, fun _ => ⟨⟨⟨by omega, by omega⟩, ⟨by omega, by omega⟩⟩, fun hov => go M _ ?_ hf he, fun hok => ⟨⟨by omega, by omega⟩, ⟨⟨by omega, by omega⟩, hsg⟩, ⟨⟨by omega, by omega⟩, ⟨by omega, by omega⟩⟩, ⟨by omega, by omega⟩, ⟨⟨by omega, by omega⟩, ⟨by omega, by omega⟩⟩, go _ _ (cout_tr ho (lit_at hO hc (by omega) (by omega))) ?_ he⟩⟩⟩
      · -- no room: nothing is written
        have hl : (lit sg c y).length = 5 := rfl
        have h1 : cout M M (lit sg c y) := ⟨hO, by omega, fun h => by rw [hl] at h; omega, fun h => by omega⟩
        exact cout_tr ho h1
      · exact fOu_tr hf (fun b j h1 h2 => by rw [fx_up_ne h1, fx_up_na h2, fx_up_na h2, fx_up_na h2, fx_up_na h2, fx_up_na h2])
    · rw [if_neg hbt]
      rw [if_neg hbt, List.nil_append] at he
      exact ⟨⟨by omega, by omega⟩, fun _ => go M ds ho hf he, fun h => absurd rfl h⟩
theorem sp_literals {M : fx_M} {sg c : Int} {m : Nat} (hO : o_ok M 3) (hsg : 0 ≤ sg ∧ sg ≤ 65535) (hc : 0 ≤ c ∧ c < 10) (hm : m < 16) (K : ∀ M', cout M M' (tLt sg c m) → fOu M M' → Q none M') : wc kc (d + 1) 107 [jR 3, jI sg, jI c, jI m] M Q :=
  s107 out3 (lits_loop hsg hc hm K 4 0 M [] (by omega) (cout_rf hO) fOu_rf (by rw [tLt_r]; rfl))
theorem tLt_pow : ∀ (sg c : Int) (y : Fin 4), tLt sg c (2 ^ (y : Nat)) = lit sg c (y : Nat) := by
  intro sg c y
  have h : ∀ f : Nat → List Int, (List.range 4).flatMap f = f 0 ++ (f 1 ++ (f 2 ++ (f 3 ++ []))) := fun f => rfl
  unfold tLt
  rw [h]
  have hy : (y : Nat) = 0 ∨ (y : Nat) = 1 ∨ (y : Nat) = 2 ∨ (y : Nat) = 3 := by omega
  rcases hy with e | e | e | e <;> rw [e] <;> simp only [pow_bit] <;> simp
/-- all symbols that are not in a set -/
theorem tLt_not {Z : PZ} (ho : pz_ok Z) {sg c : Int} {m g : Nat} (hg : ∀ y : Nat, y < 4 → (g.testBit y = true ↔ ((y : Int) < Z.2.2.1 ∧ ¬ m.testBit y = true))) : tLt sg c g = (List.range Z.2.2.1.toNat).flatMap fun t => if m.testBit t = true then [] else lit sg c t := by
  have h1 := ho.2.2.2.2.1
  have h4 := ho.2.2.2.2.2.1
  have r4 : ∀ f : Nat → List Int, (List.range 4).flatMap f = f 0 ++ (f 1 ++ (f 2 ++ (f 3 ++ []))) := fun f => rfl
  have p : ∀ y : Nat, y < 4 → (if g.testBit y = true then lit sg c y else []) = if (y : Int) < Z.2.2.1 then (if m.testBit y = true then [] else lit sg c y) else [] := fun y hy => by
    by_cases h : (y : Int) < Z.2.2.1
    · by_cases hm : m.testBit y = true
      · rw [if_pos h, if_pos hm, if_neg (fun x => ((hg y hy).mp x).2 hm)]
      · rw [if_pos h, if_neg hm, if_pos ((hg y hy).mpr ⟨h, hm⟩)]
    · rw [if_neg h, if_neg (fun x => h ((hg y hy).mp x).1)]
  unfold tLt
  rw [r4, p 0 (by omega), p 1 (by omega), p 2 (by omega), p 3 (by omega)]
  have hs : Z.2.2.1 = 1 ∨ Z.2.2.1 = 2 ∨ Z.2.2.1 = 3 ∨ Z.2.2.1 = 4 := by omega
  have r1 : ∀ f : Nat → List Int, (List.range 1).flatMap f = f 0 ++ [] := fun f => rfl
  have r2 : ∀ f : Nat → List Int, (List.range 2).flatMap f = f 0 ++ (f 1 ++ []) := fun f => rfl
  have r3 : ∀ f : Nat → List Int, (List.range 3).flatMap f = f 0 ++ (f 1 ++ (f 2 ++ [])) := fun f => rfl
  rcases hs with e | e | e | e
  · rw [e, show (1 : Int).toNat = 1 from rfl, r1]
    simp
  · rw [e, show (2 : Int).toNat = 2 from rfl, r2]
    simp
  · rw [e, show (3 : Int).toNat = 3 from rfl, r3]
    simp
  · rw [e, show (4 : Int).toNat = 4 from rfl, r4]
    simp
end CLI
