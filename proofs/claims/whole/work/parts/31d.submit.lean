/-! Submitting, in the class. -/
def sbI (C : List CI) (i p : Nat) (tm : Int) (x : List Int) : Nat × List CI := match C[i]? with
  | none => (1, C)
  | some t => if 0 ≤ t.2.2.2.2 p then (2, C) else if (x.length : Int) = t.2.1.1 * t.2.1.2.1 ∧ (∀ y ∈ x, y < t.2.1.2.2.1) then (if okx t.2.1 x = true then (5, C.set i (t.1, t.2.1, t.2.2.1, t.2.2.2.1, fun q => if q = p then tm else t.2.2.2.2 q)) else (4, C.set i (t.1, t.2.1, t.2.2.1, (fun q => if q = p then t.2.2.2.1 q + 1 else t.2.2.2.1 q), t.2.2.2.2))) else (3, C)
/-- what submitting answers, and the items then -/
def sb (C : List CI) (nm : List Int) (p tm : Int) (x : List Int) : Nat × List CI := if 3 ≤ p then (0, C) else if fIt nm C 0 < 0 then (1, C) else sbI C (fIt nm C 0).toNat p.toNat tm x
/-- the digits that were read -/
def sdg (M : fx_M) (x : List Int) : Prop := M 7 0 = ((2 : Nat) : Int) ∧ M 7 9 = x.length ∧ 0 ≤ M 7 8 ∧ M 7 8 + x.length ≤ 5606 ∧ (∀ y ∈ x, 0 ≤ y ∧ y ≤ 9) ∧ ∀ (j : Nat) (c : Int), x[j]? = some c → M 2 (M 7 8 + j) = c + 48
def mdg (M : fx_M) (x : List Int) : Prop := M 133 22 = x.length ∧ 0 ≤ M 133 21 ∧ M 133 21 + x.length ≤ 6100 ∧ (∀ y ∈ x, 0 ≤ y ∧ y ≤ 9) ∧ ∀ (j : Nat) (c : Int), x[j]? = some c → M 135 (M 133 21 + j) = c + 48
theorem puz_it {i : Nat} (h : i < 6) : fx_puz (71 + 9 * i) := by
  rcases (by omega : i = 0 ∨ i = 1 ∨ i = 2 ∨ i = 3 ∨ i = 4 ∨ i = 5) with h | h | h | h | h | h <;> subst h <;> unfold fx_puz <;> decide
theorem cct_lrn {M N : fx_M} {C : List CI} (h : cct M C) {i : Nat} {t : CI} (hi : C[i]? = some t) (hz : cz N (71 + 9 * i) t.2.1) (f : ∀ b j, 62 ≤ b → b ≤ 124 → ¬ (71 + 9 * i ≤ b ∧ b ≤ 71 + 9 * i + 8) → N b j = M b j) (h6 : i < 6) (hl : C.length ≤ 6) : cct N C := by
  refine ⟨by rw [f 62 _ (by omega) (by omega) (by omega)]; exact h.1, fun j s hs => ?_⟩
  have hjl := (List.getElem?_eq_some_iff.mp hs).1
  obtain ⟨c1, c2, c3, c4, c5⟩ := h.2 j s hs
  refine ⟨by rw [f 64 _ (by omega) (by omega) (by omega)]; exact c1, fun a c hc => by rw [f 63 _ (by omega) (by omega) (by omega)]; exact c2 a c hc, ?_, by rw [f 66 _ (by omega) (by omega) (by omega)]; exact c4, fun p hp => by rw [f 67 _ (by omega) (by omega) (by omega), f 68 _ (by omega) (by omega) (by omega)]; exact c5 p hp⟩
  by_cases e : j = i
  · subst e
    rw [hi] at hs
    cases hs
    exact hz
  · exact cz_fr c3 (fun b k h1 h2 => f b k (by omega) (by omega) (by omega))
theorem cct_set {M N : fx_M} {C : List CI} (h : cct M C) {i : Nat} {t : CI} (hi : C[i]? = some t) (w r : Nat → Int) (f : ∀ b j, 62 ≤ b → b ≤ 124 → b ≠ 67 → b ≠ 68 → N b j = M b j) (g : ∀ q j : Nat, q < 3 → j < 6 → j ≠ i → N 67 (6 * (q : Int) + j) = M 67 (6 * (q : Int) + j) ∧ N 68 (6 * (q : Int) + j) = M 68 (6 * (q : Int) + j)) (hw : ∀ q : Nat, q < 3 → N 67 (6 * (q : Int) + i) = w q ∧ N 68 (6 * (q : Int) + i) = r q) (hl : C.length ≤ 6) : cct N (C.set i (t.1, t.2.1, t.2.2.1, w, r)) := by
  have hil := (List.getElem?_eq_some_iff.mp hi).1
  refine ⟨by rw [f 62 _ (by omega) (by omega) (by omega) (by omega), List.length_set]; exact h.1, fun j s hs => ?_⟩
  by_cases e : j = i
  · subst e
    rw [List.getElem?_set_self hil] at hs
    cases hs
    obtain ⟨c1, c2, c3, c4, c5⟩ := h.2 j t hi
    exact ⟨by rw [f 64 _ (by omega) (by omega) (by omega) (by omega)]; exact c1, fun a c hc => by rw [f 63 _ (by omega) (by omega) (by omega) (by omega)]; exact c2 a c hc, cz_fr c3 (fun b k h1 h2 => f b k (by omega) (by omega) (by omega) (by omega)), by rw [f 66 _ (by omega) (by omega) (by omega) (by omega)]; exact c4, fun p hp => hw p hp⟩
  · rw [List.getElem?_set_ne (fun x => e x.symm)] at hs
    have hjl := (List.getElem?_eq_some_iff.mp hs).1
    obtain ⟨c1, c2, c3, c4, c5⟩ := h.2 j s hs
    exact ⟨by rw [f 64 _ (by omega) (by omega) (by omega) (by omega)]; exact c1, fun a c hc => by rw [f 63 _ (by omega) (by omega) (by omega) (by omega)]; exact c2 a c hc, cz_fr c3 (fun b k h1 h2 => f b k (by omega) (by omega) (by omega) (by omega)), by rw [f 66 _ (by omega) (by omega) (by omega) (by omega)]; exact c4, fun p hp => by rw [(g p j hp (by omega) e).1, (g p j hp (by omega) e).2]; exact c5 p hp⟩
theorem fIt_i {nm : List Int} {C : List CI} (h : ¬ fIt nm C 0 < 0) : ∃ (i : Nat) (t : CI), fIt nm C 0 = (i : Int) ∧ C[i]? = some t := by
  rcases fIt_b (nm := nm) (C := C) (i := 0) with e | ⟨e1, e2⟩
  · omega
  · have hl : (fIt nm C 0).toNat < C.length := by omega
    exact ⟨(fIt nm C 0).toNat, C[(fIt nm C 0).toNat], by omega, List.getElem?_eq_getElem hl⟩
section CSB
variable {L : Nat} {xs : Nat → Int32} {d : Nat} {Q : Option fx_V → fx_M → Prop} {C : List CI} {nm x : List Int} {k : Nat}
/-- the filling is read and held against the item's puzzle -/
theorem sb_fill {M : fx_M} {v : Nat} {Z : PZ} (Hp : fx_puz v) (ho : pz_ok Z) (hc : ckn M v Z) (hx : sdg M x) (hl : (x.length : Int) = Z.1 * Z.2.1) {tm ix : Int} (K3 : ¬ (∀ y ∈ x, y < Z.2.2.1) → Q (some (jR 1000163)) M) (K : (∀ y ∈ x, y < Z.2.2.1) → wp (kcs L xs) (d + 3) 186 148 [some (jR 62), none, none, some (jI tm), none, some (jI ix), none, none, none, none, none] [jI (bI (okx Z x))] M Q) : ∀ (u i : Nat) (y : Int) (S : Nat → Nat), i + u = x.length → sta y S → s_ok Z S → (∀ j : Nat, j < i → S j = 2 ^ (x.getD j 0).toNat ∧ x.getD j 0 < Z.2.2.1) → wp (kcs L xs) (d + 3) 186 84 [some (jR 62), some (jR 7), none, some (jI tm), none, some (jI ix), some (jR v), some (jL y), none, some (jI i), none] [] M Q := by
  obtain ⟨o1, o2, o3, o4, o5, o6, _⟩ := ho
  have ho : pz_ok Z := ⟨o1, o2, o3, o4, o5, o6, by assumption⟩
  have h9 := pz_n ho
  obtain ⟨x0, x1, x2, x3, x4, x5⟩ := hx
  have m2 : M v 2 = x.length := by rw [hc.1.2.2.1, hl]
  have m3 : M v 3 = Z.2.2.1 := hc.1.2.2.2.1
  intro u
  induction u with
  | zero =>
    intro i y S hi hy hs hS
    have ha : ∀ j : Nat, j < x.length → 0 ≤ x.getD j 0 ∧ x.getD j 0 < Z.2.2.1 := fun j hj => by
      have e : x.getD j 0 = x[j] := by rw [List.getD_eq_getElem?_getD, List.getElem?_eq_getElem hj]; rfl
      exact ⟨by rw [e]; exact (x4 _ (List.getElem_mem hj)).1, (hS j (by omega)).2⟩
    have hall : ∀ z ∈ x, z < Z.2.2.1 := fun z hz => by
      obtain ⟨j, hj, e⟩ := List.getElem_of_mem hz
      have := (ha j hj).2
      rw [List.getD_eq_getElem?_getD, List.getElem?_eq_getElem hj] at this
      rw [← e]
      exact this
    refine s186_84 fx_scn7 Hp (h1n := 0) ?_
    rw [m2]
    exact ⟨⟨⟨by omega, by omega⟩, ⟨by omega, by omega⟩⟩, fun _ => sp_isAnswer Hp ho hc hl hs hy (fun j hj => (hS j (by omega)).1) ha (K hall), fun h => by omega⟩
  | succ u ih =>
    intro i y S hi hy hs hS
    have hil : i < x.length := by omega
    have e : x.getD i 0 = x[i] := by rw [List.getD_eq_getElem?_getD, List.getElem?_eq_getElem hil]; rfl
    have hb := x4 _ (List.getElem_mem hil)
    refine s186_84 fx_scn7 Hp (h1n := 5606) ?_
    rw [m2, m3, x0, Int.toNat_natCast, x5 i _ (List.getElem?_eq_getElem hil), show x[i] + 48 - 48 = x[i] by omega]
    refine ⟨⟨⟨by omega, by omega⟩, ⟨by omega, by omega⟩⟩, fun h => by omega, fun _ => ⟨⟨⟨fa2, by omega⟩, ⟨by omega, by omega⟩⟩, ⟨⟨by omega, by omega⟩, ⟨by omega, by omega⟩⟩, fun hlt => sp_only (d := d + 1) hy ⟨by omega, by omega⟩ ⟨by omega, by omega⟩ (fun z hz => s186_133 fx_scn7 Hp ?_), fun hge => K3 (fun hall => ?_)⟩⟩
    · have nx := ih (i + 1) z _ (by omega) hz (s_only_ok hs (by omega) (by omega)) (fun j hj => by
        rw [Int.toNat_natCast]
        unfold s_only
        by_cases hji : j = i
        · subst hji
          rw [if_pos rfl, e]
          exact ⟨rfl, hlt⟩
        · rw [if_neg hji]
          exact hS j (by omega))
      rw [show ((i + 1 : Nat) : Int) = (i : Int) + 1 by omega] at nx
      exact nx
    · have := hall _ (List.getElem_mem hil)
      omega
theorem sp_submit {M : fx_M} (hn : snm M nm) (hnm : nm_ok nm) (hC : cct M C) (ho : ct_ok k C) (hx : sdg M x) {p tm : Int} (hp : 0 ≤ p ∧ p < 1000) (K : ∀ M', cct M' (sb C nm p tm x).2 → (∀ b j, ¬ (b = 67 ∨ b = 68 ∨ (71 ≤ b ∧ b ≤ 124)) → M' b j = M b j) → Q (some (jR (1000157 + 2 * (sb C nm p tm x).1))) M') : wc (kcs L xs) (d + 4) 186 [jR 62, jR 7, jI p, jI tm] M Q := by
  have h6 := ho.2.1
  unfold sb at K
  refine s186 fx_scn7 ⟨⟨by omega, by omega⟩, fun hlt => sp_itemOf (d := d + 2) hn hnm hC ho ?_, fun hge => ?_⟩
  · rw [if_neg (by omega)] at K
    obtain ⟨q, rfl⟩ : ∃ q : Nat, p = (q : Int) := ⟨p.toNat, by omega⟩
    rcases Decidable.em (fIt nm C 0 < 0) with hf | hf
    · rw [if_pos hf] at K
      have hb := fIt_b (nm := nm) (C := C) (i := 0)
      exact s186_13 fx_scn7 ⟨⟨by omega, by omega⟩, fun h => by omega, fun _ => K M hC (fun _ _ _ => rfl)⟩
    · rw [if_neg hf] at K
      obtain ⟨i, t, e, hi⟩ := fIt_i hf
      have hil := (List.getElem?_eq_some_iff.mp hi).1
      have hok := ho.2.2 t (List.mem_of_getElem? hi)
      have hr := hok.2.2.2.2 q (by omega)
      have hzo := hok.2.1
      have h9 := pz_n hzo
      obtain ⟨c1, c2, c3, c4, c5⟩ := hC.2 i t hi
      rw [e, Int.toNat_natCast, Int.toNat_natCast] at K
      unfold sbI at K
      rw [hi] at K
      dsimp only at K
      refine s186_13 fx_scn7 ?_
      rw [e, Int.toNat_natCast, (c5 q (by omega)).2, c3.2.2.1, hx.2.1]
      have Hp := puz_it (i := i) (by omega)
      have hxl := hx.2.2.2.1
      have hxf := hx.2.2.1
      refine ⟨⟨by omega, by omega⟩, fun _ => ⟨⟨by omega, by omega⟩, ⟨by omega, by omega⟩, fun hlt2 => ?_, fun hge2 => ?_⟩, fun h => by omega⟩
      · rw [if_neg (by omega)] at K
        refine ⟨⟨by omega, by omega⟩, ⟨⟨by omega, by omega⟩, ⟨by omega, by omega⟩⟩, fun hl => sp_learn (d := d) Hp hzo c3 (fun N n1 n2 n3 => ?_), fun hl => ?_⟩
        · have hCN : cct N C := cct_lrn hC hi n1 (fun b j h1 h2 h3 => n3 b j (by omega) (by omega) (by omega)) (by omega) h6
          have fN : ∀ b j, ¬ (b = 67 ∨ b = 68 ∨ (71 ≤ b ∧ b ≤ 124)) → N b j = M b j := fun b j hb => n3 b j (by omega) (by omega) (by omega)
          have hxN : sdg N x := by
            obtain ⟨x0, x1, x2, x3, x4, x5⟩ := hx
            unfold sdg
            rw [fN 7 _ (by omega), fN 7 _ (by omega), fN 7 _ (by omega)]
            exact ⟨x0, x1, x2, x3, x4, fun j c hj => by rw [fN 2 _ (by omega)]; exact x5 j c hj⟩
          refine s186_74 fx_scn7 Hp (sp_free (d := d + 2) Hp n1 hzo (fun y hy => s186_79 fx_scn7 Hp ?_))
          refine sb_fill Hp hzo ⟨n1, n2⟩ hxN hl (fun hna => ?_) (fun hall => ?_) x.length 0 y (s_free t.2.1) (by omega) hy (s_free_ok hzo) (fun j hj => by omega)
          · rw [if_neg (fun h => hna h.2)] at K
            exact K N hCN fN
          · rw [if_pos ⟨hl, hall⟩] at K
            refine s186_148 fx_scn7 ?_
            cases hk : okx t.2.1 x
            · rw [hk, if_neg (by decide)] at K
              refine ⟨⟨by decide, by decide⟩, fun h => absurd rfl h, fun _ => ⟨⟨by omega, by omega⟩, ⟨by omega, by omega⟩, K _ ?_ (fun b j hb => by rw [fx_up_na (by omega)]; exact fN b j hb)⟩⟩
              have c5N := (hCN.2 i t hi).2.2.2.2
              refine cct_set hCN hi _ _ (fun b j h1 h2 h3 h4 => fx_up_na h3) (fun a j ha hj hne => ⟨fx_up_nk (by omega), fx_up_na (by decide)⟩) (fun a ha => ⟨?_, by rw [fx_up_na (by decide)]; exact (c5N a ha).2⟩) h6
              by_cases ea : a = q
              · subst ea
                rw [fx_up_self, if_pos rfl, (c5N a ha).1]
              · rw [fx_up_nk (by omega), if_neg ea]
                exact (c5N a ha).1
            · rw [hk, if_pos rfl] at K
              refine ⟨⟨by decide, by decide⟩, fun _ => ⟨⟨by omega, by omega⟩, K _ ?_ (fun b j hb => by rw [fx_up_na (by omega)]; exact fN b j hb)⟩, fun h => absurd h (by decide)⟩
              have c5N := (hCN.2 i t hi).2.2.2.2
              refine cct_set hCN hi _ _ (fun b j h1 h2 h3 h4 => fx_up_na h4) (fun a j ha hj hne => ⟨fx_up_na (by decide), fx_up_nk (by omega)⟩) (fun a ha => ⟨by rw [fx_up_na (by decide)]; exact (c5N a ha).1, ?_⟩) h6
              by_cases ea : a = q
              · subst ea
                rw [fx_up_self, if_pos rfl]
              · rw [fx_up_nk (by omega), if_neg ea]
                exact (c5N a ha).2
        · rw [if_neg (fun h => hl h.1)] at K
          exact K M hC (fun _ _ _ => rfl)
      · rw [if_pos hge2] at K
        exact K M hC (fun _ _ _ => rfl)
  · rw [if_pos hge] at K
    exact K M hC (fun _ _ _ => rfl)
end CSB
