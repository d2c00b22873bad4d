/-! Submitting, in the reference. -/
/-- the answers: 0 no person, 1 no item, 2 over, 3 no filling, 4 wrong, 5 right -/
def sbT (n : Nat) : List Int := if n = 0 then t_no (wrd 25) else if n = 1 then t_no 1769235821 else if n = 2 then wls 1870030194 else if n = 3 then t_no 28826362020720231 else if n = 4 then wls (wrd 32) else wls 491394656372
theorem sb_le {C : List CI} {nm : List Int} {p tm : Int} {x : List Int} : (sb C nm p tm x).1 ≤ 5 := by
  unfold sb
  split
  · dsimp only; omega
  · split
    · dsimp only; omega
    · unfold sbI
      split
      · dsimp only; omega
      · split
        · dsimp only; omega
        · split
          · split
            · dsimp only; omega
            · dsimp only; omega
          · dsimp only; omega
theorem sb_str {L : Nat} {xs : Nat → Int32} {n : Nat} (h : n ≤ 5) : ∃ bs : List Int32, fx_str (kcs L xs) (1000157 + 2 * n) bs ∧ bs.map Int32.toInt = sbT n := by
  rcases (by omega : n = 0 ∨ n = 1 ∨ n = 2 ∨ n = 3 ∨ n = 4 ∨ n = 5) with h | h | h | h | h | h <;> subst h
  · exact ⟨_, lt_1000157, by decide +kernel⟩
  · exact ⟨_, lt_1000159, by decide +kernel⟩
  · exact ⟨_, lt_1000161, by decide +kernel⟩
  · exact ⟨_, lt_1000163, by decide +kernel⟩
  · exact ⟨_, lt_1000165, by decide +kernel⟩
  · exact ⟨_, lt_1000167, by decide +kernel⟩
theorem mz_off {M N : fx_M} {u v : Int} {Z : PZ} (h : mz M u Z) (ho : pz_ok Z) (hf : ufr v M N) (huv : u ≠ v) : mz N u Z := by
  obtain ⟨h1, h2, h3, h4, h5, h6⟩ := h
  have h12 := ho.2.2.2.2.2.2.1
  unfold mz
  rw [hf 146 _ (by omega) (by omega) (by omega) (by omega), hf 147 _ (by omega) (by omega) (by omega) (by omega), hf 148 _ (by omega) (by omega) (by omega) (by omega), hf 149 _ (by omega) (by omega) (by omega) (by omega)]
  refine ⟨h1, h2, h3, h4, fun r R hR => ?_, fun c hc => ?_⟩
  · have hrl := (List.getElem?_eq_some_iff.mp hR).1
    have h4l : R.2.2.length ≤ 4 := (ho.2.2.2.2.2.2.2.1 R (List.mem_of_getElem? hR)).2.2.2.2.2.1
    rw [hf 150 _ (by omega) (by omega) (by omega) (by omega), hf 151 _ (by omega) (by omega) (by omega) (by omega), hf 152 _ (by omega) (by omega) (by omega) (by omega)]
    obtain ⟨a, b, c, e⟩ := h5 r R hR
    refine ⟨a, b, c, fun i x hx => ?_⟩
    have hil := (List.getElem?_eq_some_iff.mp hx).1
    rw [hf 153 _ (by omega) (by omega) (by omega) (by omega)]
    exact e i x hx
  · rw [hf 154 _ (by omega) (by omega) (by omega) (by omega)]
    exact h6 c hc
theorem mct_set {M N : fx_M} {C : List CI} (h : mct M C) {i : Nat} {t : CI} (hi : C[i]? = some t) (w r : Nat → Int) (f89 : N 133 89 = M 133 89) (f : ∀ b j, (146 ≤ b ∧ b ≤ 154) ∨ (182 ≤ b ∧ b ≤ 184) → N b j = M b j) (g : ∀ q j : Nat, q < 3 → j < 6 → j ≠ i → N 185 (6 * (q : Int) + j) = M 185 (6 * (q : Int) + j) ∧ N 186 (6 * (q : Int) + j) = M 186 (6 * (q : Int) + j) ∧ N 187 (6 * (q : Int) + j) = M 187 (6 * (q : Int) + j)) (hw : ∀ q : Nat, q < 3 → N 185 (6 * (q : Int) + i) = w q ∧ (0 ≤ r q → N 186 (6 * (q : Int) + i) = 1 ∧ N 187 (6 * (q : Int) + i) = r q) ∧ (r q < 0 → N 186 (6 * (q : Int) + i) = 0)) (hl : C.length ≤ 6) : mct N (C.set i (t.1, t.2.1, t.2.2.1, w, r)) := by
  have hil := (List.getElem?_eq_some_iff.mp hi).1
  refine ⟨by rw [f89, List.length_set]; exact h.1, fun j s hs => ?_⟩
  by_cases e : j = i
  · subst e
    rw [List.getElem?_set_self hil] at hs
    cases hs
    obtain ⟨c1, c2, c3, c4, c5⟩ := h.2 j t hi
    exact ⟨by rw [f _ _ (by omega)]; exact c1, fun a c hc => by rw [f _ _ (by omega)]; exact c2 a c hc, mz_frM c3 (fun b k h1 h2 => f b k (by omega)), by rw [f _ _ (by omega)]; exact c4, fun p hp => hw p hp⟩
  · rw [List.getElem?_set_ne (fun x => e x.symm)] at hs
    have hjl := (List.getElem?_eq_some_iff.mp hs).1
    obtain ⟨c1, c2, c3, c4, c5⟩ := h.2 j s hs
    exact ⟨by rw [f _ _ (by omega)]; exact c1, fun a c hc => by rw [f _ _ (by omega)]; exact c2 a c hc, mz_frM c3 (fun b k h1 h2 => f b k (by omega)), by rw [f _ _ (by omega)]; exact c4, fun p hp => by rw [(g p j hp (by omega) e).1, (g p j hp (by omega) e).2.1, (g p j hp (by omega) e).2.2]; exact c5 p hp⟩
theorem m_okq {M N : fx_M} (h : m_ok M) (e : N 133 5 = M 133 5) : m_ok N := by
  unfold m_ok at h ⊢
  rw [e]
  exact h
theorem m_app_fq {M N : fx_M} {cs : List Int} {b : Nat} {j : Int} (e : N 133 5 = M 133 5) (e2 : ∀ a, N 136 a = M 136 a) (e3 : N b j = M b j) : m_app N cs b j = m_app M cs b j := by
  have c := m_app_cg (cs := cs) e e2
  by_cases h : b = 133 ∧ j = 5
  · obtain ⟨rfl, rfl⟩ := h
    exact c.1
  · by_cases h2 : b = 136
    · subst h2
      exact c.2 j
    · rw [m_app_ne h h2, m_app_ne h h2]
      exact e3
section MSB
variable {kc : List va_E} {d : Nat} {Q : Option fx_V → fx_M → Prop} {C : List CI} {nm x : List Int} {k : Nat}
theorem sp_isFillingOf {M : fx_M} {u : Int} {Z : PZ} (hu : 0 ≤ u ∧ u < 10) (hz : mz M u Z) (ho : pz_ok Z) (hx : mdg M x) (K : Q (some (jI (if (x.length : Int) = Z.1 * Z.2.1 ∧ (∀ y ∈ x, y < Z.2.2.1) then 1 else 0))) M) : wc kc (d + 1) 351 [jR 133, jI u] M Q := by
  have h9 := pz_n ho
  have h5 := ho.2.2.2.2.1
  have h6 := ho.2.2.2.2.2.1
  obtain ⟨x1, x2, x3, x4, x5⟩ := hx
  have z : (x.length : Int) = Z.1 * Z.2.1 → ∀ (w i : Nat), i + w = x.length → (∀ j : Nat, j < i → x.getD j 0 < Z.2.2.1) → wp kc (d + 1) 351 28 [some (jR 133), some (jI u), some (jI 1), some (jI i)] [] M Q := by
    intro hl w
    induction w with
    | zero =>
      intro i hi hS
      have hall : ∀ z ∈ x, z < Z.2.2.1 := fun z hz => by
        obtain ⟨j, hj, e⟩ := List.getElem_of_mem hz
        have := hS j (by omega)
        rw [List.getD_eq_getElem?_getD, List.getElem?_eq_getElem hj] at this
        rw [← e]
        exact this
      rw [if_pos ⟨hl, hall⟩] at K
      refine s351_28 ?_
      rw [x1]
      exact ⟨⟨by omega, by omega⟩, fun h => by omega, fun _ => ⟨⟨⟨by omega, by omega⟩, ⟨by omega, by omega⟩⟩, fun _ => ⟨⟨by omega, by omega⟩, K⟩, fun h => by omega⟩⟩
    | succ w ih =>
      intro i hi hS
      have hil : i < x.length := by omega
      have e : x.getD i 0 = x[i] := by rw [List.getD_eq_getElem?_getD, List.getElem?_eq_getElem hil]; rfl
      have hb := x4 _ (List.getElem_mem hil)
      refine s351_28 ?_
      rw [x1, x5 i _ (List.getElem?_eq_getElem hil), hz.2.2.1, show x[i] + 48 - 48 = x[i] by omega]
      refine ⟨⟨by omega, by omega⟩, fun h => by omega, fun _ => ⟨⟨⟨by omega, by omega⟩, ⟨by omega, by omega⟩⟩, fun h => by omega, fun _ => ⟨⟨by omega, by omega⟩, hu, ⟨by omega, by omega⟩, ⟨by omega, by omega⟩, ?_⟩⟩⟩
      by_cases hlt : x[i] < Z.2.2.1
      · rw [if_pos hlt]
        have nx := ih (i + 1) (by omega) (fun j hj => by
          by_cases hji : j = i
          · subst hji
            rw [e]
            exact hlt
          · exact hS j (by omega))
        rw [show ((i + 1 : Nat) : Int) = (i : Int) + 1 by omega] at nx
        exact nx
      · rw [if_neg hlt]
        rw [if_neg (fun h => hlt (h.2 _ (List.getElem_mem hil)))] at K
        exact s351_28 ⟨⟨by omega, by omega⟩, fun _ => ⟨⟨by omega, by omega⟩, K⟩, fun h => absurd rfl h⟩
  refine s351 ?_
  rw [x1, hz.1, hz.2.1]
  refine ⟨hu, hu, ⟨by omega, by omega⟩, ⟨by omega, by omega⟩, ?_⟩
  by_cases hl : (x.length : Int) = Z.1 * Z.2.1
  · rw [if_pos hl]
    exact z hl x.length 0 (by omega) (fun j hj => by omega)
  · rw [if_neg hl]
    rw [if_neg (fun h => hl h.1)] at K
    exact s351_28 ⟨⟨by omega, by omega⟩, fun _ => ⟨⟨by omega, by omega⟩, K⟩, fun h => absurd rfl h⟩
theorem sp_isAnswerOf {M : fx_M} {u : Int} {Z Y : PZ} (hu : 4 ≤ u ∧ u < 10) (hz0 : mz M 0 Z) (ho0 : pz_ok Z) (hz : mz M u Y) (ho : pz_ok Y) (hx : mdg M x) (hl : (x.length : Int) = Y.1 * Y.2.1) (ha : ∀ y ∈ x, y < Y.2.2.1) (K : ∀ M', mz M' 0 Z → (∀ (v : Int) (W : PZ), 4 ≤ v → pz_ok W → mz M v W → mz M' v W) → (∀ b j, ¬ (146 ≤ b ∧ b ≤ 155) → M' b j = M b j) → Q (some (jI (bI (okx Y x)))) M') : wc kc (d + 5) 352 [jR 133, jI u] M Q := by
  have h9 := pz_n ho
  obtain ⟨x1, x2, x3, x4, x5⟩ := hx
  refine s352 (sp_mcopy (d := d + 2) ⟨by omega, by omega⟩ ⟨by omega, by omega⟩ (by omega) hz0 ho0 (fun N1 a1 f1 => s352_6 (sp_mcopy (d := d + 2) ⟨by omega, by omega⟩ ⟨by omega, by omega⟩ (by omega) (mz_off hz ho f1 (by omega)) ho (fun N2 a2 f2 => s352_12 ?_))))
  have a3 := mz_off a1 ho0 f2 (by omega)
  have fN : ∀ b j, ¬ (146 ≤ b ∧ b ≤ 155) → N2 b j = M b j := fun b j hb => by rw [f2 b j (by omega) (by omega) (by omega) (by omega), f1 b j (by omega) (by omega) (by omega) (by omega)]
  have z : ∀ (w i : Nat) (N : fx_M), i + w = x.length → (∀ b j, b ≠ 155 → N b j = N2 b j) → (∀ j : Nat, j < i → N 155 (j : Int) = x.getD j 0) → wp kc (d + 5) 352 14 [some (jR 133), none, some (jI i)] [] N Q := by
    intro w
    induction w with
    | zero =>
      intro i N hi fR hS
      refine s352_14 ?_
      rw [fR 133 _ (by omega), fN 133 _ (by omega), x1]
      refine ⟨⟨⟨by omega, by omega⟩, ⟨by omega, by omega⟩⟩, fun _ => sp_mIsAnswer (d := d) ho (mz_frM a2 (fun b j h1 h2 => fR b j (by omega))) hl (fun j hj => hS j (by omega)) (fun j hj => ?_) (s352_52 (sp_mcopy (d := d + 2) ⟨by omega, by omega⟩ ⟨by omega, by omega⟩ (by omega) (mz_frM a3 (fun b j h1 h2 => fR b j (by omega))) ho0 (fun N4 a4 f4 => s352_59 ⟨?_, K N4 a4 (fun v W hv hW hm => ?_) (fun b j hb => ?_)⟩))), fun h => by omega⟩
      · have e : x.getD j 0 = x[j] := by rw [List.getD_eq_getElem?_getD, List.getElem?_eq_getElem hj]; rfl
        rw [e]
        exact ⟨(x4 _ (List.getElem_mem hj)).1, ha _ (List.getElem_mem hj)⟩
      · cases okx Y x <;> exact ⟨by decide, by decide⟩
      · exact mz_off (mz_frM (mz_off (mz_off hm hW f1 (by omega)) hW f2 (by omega)) (fun b j h1 h2 => fR b j (by omega))) hW f4 (by omega)
      · rw [f4 b j (by omega) (by omega) (by omega) (by omega), fR b j (by omega), fN b j hb]
    | succ w ih =>
      intro i N hi fR hS
      have hil : i < x.length := by omega
      have e : x.getD i 0 = x[i] := by rw [List.getD_eq_getElem?_getD, List.getElem?_eq_getElem hil]; rfl
      have nx := ih (i + 1) (fx_up N 155 (i : Int) x[i]) (by omega) (fun b j hb => by rw [fx_up_na hb]; exact fR b j hb) (fun j hj => by
        by_cases hji : j = i
        · subst hji
          rw [fx_up_self, e]
        · rw [fx_up_nk (by omega)]
          exact hS j (by omega))
      rw [show ((i + 1 : Nat) : Int) = (i : Int) + 1 by omega] at nx
      refine s352_14 ?_
      rw [fR 133 _ (by omega), fR 133 _ (by omega), fR 135 _ (by omega), fN 133 _ (by omega), fN 133 _ (by omega), fN 135 _ (by omega), x1, x5 i _ (List.getElem?_eq_getElem hil), show x[i] + 48 - 48 = x[i] by omega]
      exact ⟨⟨⟨by omega, by omega⟩, ⟨by omega, by omega⟩⟩, fun h => by omega, fun _ => ⟨⟨by omega, by omega⟩, ⟨by omega, by omega⟩, nx⟩⟩
  exact z x.length 0 N2 (by omega) (fun _ _ _ => rfl) (fun j hj => by omega)
theorem sp_saySubmit {M : fx_M} {Z : PZ} (hn : mnm M nm) (hnm : nm_ok nm) (hC : mct M C) (ho : ct_ok k C) (hx : mdg M x) (hO : m_ok M) (hz0 : mz M 0 Z) (ho0 : pz_ok Z) {p tm : Int} (hp : 0 ≤ p ∧ p < 1000) (ht : 0 ≤ tm) (K : ∀ M', mct M' (sb C nm p tm x).2 → mz M' 0 Z → (∀ b j, ¬ (146 ≤ b ∧ b ≤ 155) → ¬ (185 ≤ b ∧ b ≤ 187) → M' b j = m_app M (sbT (sb C nm p tm x).1) b j) → Q none M') : wc kc (d + 6) 349 [jR 133, jI p, jI tm] M Q := by
  have h6 := ho.2.1
  have same : ∀ n, n ≤ 5 → sb C nm p tm x = (n, C) → Q none (m_app M (sbT n)) := fun n _ e => by
    rw [e] at K
    exact K _ (mct_app hC ho) (mz_frM hz0 (fun b j h1 h2 => m_app_ne (by omega) (by omega))) (fun _ _ _ _ => rfl)
  refine s349 ⟨⟨by omega, by omega⟩, fun hlt => sp_findItem (d := d + 4) hn hnm hC ho ?_, fun hge => ?_⟩
  · have e0 : ∀ y z : Nat × List CI, (if 3 ≤ p then y else z) = z := fun y z => if_neg (by omega)
    obtain ⟨q, rfl⟩ : ∃ q : Nat, p = (q : Int) := ⟨p.toNat, by omega⟩
    rcases Decidable.em (fIt nm C 0 < 0) with hf | hf
    · have hb := fIt_b (nm := nm) (C := C) (i := 0)
      exact s349_19 ⟨⟨by omega, by omega⟩, fun h => by omega, fun _ => sp_sayNo (d := d + 1) (by unfold w_ok; omega) hO (s349_31 (same 1 (by omega) (by unfold sb; rw [e0, if_pos hf])))⟩
    · obtain ⟨i, t, e, hi⟩ := fIt_i hf
      have hil := (List.getElem?_eq_some_iff.mp hi).1
      have hok := ho.2.2 t (List.mem_of_getElem? hi)
      have hr := hok.2.2.2.2 q (by omega)
      have hzo := hok.2.1
      obtain ⟨c1, c2, c3, c4, c5⟩ := hC.2 i t hi
      obtain ⟨c6, c7, c8⟩ := c5 q (by omega)
      have e1 : sb C nm (q : Int) tm x = (if 0 ≤ t.2.2.2.2 q then (2, C) else if (x.length : Int) = t.2.1.1 * t.2.1.2.1 ∧ (∀ y ∈ x, y < t.2.1.2.2.1) then (if okx t.2.1 x = true then (5, C.set i (t.1, t.2.1, t.2.2.1, t.2.2.2.1, fun a => if a = q then tm else t.2.2.2.2 a)) else (4, C.set i (t.1, t.2.1, t.2.2.1, (fun a => if a = q then t.2.2.2.1 a + 1 else t.2.2.2.1 a), t.2.2.2.2))) else (3, C)) := by
        unfold sb
        rw [e0, if_neg hf, e, Int.toNat_natCast, Int.toNat_natCast]
        unfold sbI
        rw [hi]
      refine s349_19 ?_
      rw [e]
      by_cases hr0 : 0 ≤ t.2.2.2.2 q
      · rw [(c7 hr0).1]
        exact ⟨⟨by omega, by omega⟩, fun _ => ⟨⟨by omega, by omega⟩, ⟨by omega, by omega⟩, fun h => by omega, fun _ => sp_sayWord (d := d + 2) (by unfold w_ok; omega) hO (s349_57 (same 2 (by omega) (by rw [e1, if_pos hr0])))⟩, fun h => by omega⟩
      · rw [c8 (by omega)]
        refine ⟨⟨by omega, by omega⟩, fun _ => ⟨⟨by omega, by omega⟩, ⟨by omega, by omega⟩, fun _ => sp_isFillingOf (d := d + 4) ⟨by omega, by omega⟩ c3 hzo hx ?_, fun h => absurd rfl h⟩, fun h => by omega⟩
        rw [if_neg hr0] at e1
        by_cases hfil : (x.length : Int) = t.2.1.1 * t.2.1.2.1 ∧ (∀ y ∈ x, y < t.2.1.2.2.1)
        · rw [if_pos hfil] at e1 ⊢
          refine s349_67 ⟨⟨by omega, by omega⟩, fun _ => sp_isAnswerOf (d := d) ⟨by omega, by omega⟩ hz0 ho0 c3 hzo hx hfil.1 hfil.2 (fun N n1 n2 n3 => ?_), fun h => by omega⟩
          have hCN : mct N C := by
            refine ⟨by rw [n3 133 _ (by omega)]; exact hC.1, fun j s hs => ?_⟩
            obtain ⟨b1, b2, b3, b4, b5⟩ := hC.2 j s hs
            exact ⟨by rw [n3 183 _ (by omega)]; exact b1, fun a c hc => by rw [n3 182 _ (by omega)]; exact b2 a c hc, n2 _ _ (by omega) (ho.2.2 s (List.mem_of_getElem? hs)).2.1 b3, by rw [n3 184 _ (by omega)]; exact b4, fun a ha => by rw [n3 185 _ (by omega), n3 186 _ (by omega), n3 187 _ (by omega)]; exact b5 a ha⟩
          have c5N := (hCN.2 i t hi).2.2.2.2
          refine s349_87 ?_
          cases hk : okx t.2.1 x
          · rw [hk, if_neg (by decide)] at e1
            refine ⟨⟨by decide, by decide⟩, fun _ => ⟨⟨by omega, by omega⟩, ⟨by omega, by omega⟩, sp_word (d := d + 4) (by omega) (by omega) (s349_133 (sp_sayWord (d := d + 2) (by unfold w_ok; decide +kernel) ?_ (s349_136 ?_)))⟩, fun h => absurd rfl h⟩
            · exact m_okq hO (by rw [fx_up_na (by decide), n3 133 _ (by omega)])
            · rw [e1] at K
              refine K _ ?_ ?_ (fun b j h1 h2 => ?_)
              · refine mct_set hCN hi _ _ (by rw [m_app_ne (by omega) (by decide), fx_up_na (by decide)]) (fun b j hb => by rw [m_app_ne (by omega) (by omega), fx_up_na (by omega)]) (fun a j ha hj hne => ⟨by rw [m_app_ne (by omega) (by omega), fx_up_nk (by omega)], by rw [m_app_ne (by omega) (by omega), fx_up_na (by decide)], by rw [m_app_ne (by omega) (by omega), fx_up_na (by decide)]⟩) (fun a ha => ?_) h6
                obtain ⟨g1, g2, g3⟩ := c5N a ha
                rw [m_app_ne (by omega) (by omega), m_app_ne (by omega) (by omega), m_app_ne (by omega) (by omega), fx_up_na (show (186 : Nat) ≠ 185 by decide), fx_up_na (show (187 : Nat) ≠ 185 by decide)]
                refine ⟨?_, g2, g3⟩
                by_cases ea : a = q
                · subst ea
                  rw [fx_up_self, if_pos rfl, g1]
                · rw [fx_up_nk (by omega), if_neg ea]
                  exact g1
              · exact mz_frM n1 (fun b j h1 h2 => by rw [m_app_ne (by omega) (by omega), fx_up_na (by omega)])
              · exact m_app_fq (by rw [fx_up_na (by decide), n3 133 _ (by omega)]) (fun a => by rw [fx_up_na (by decide), n3 136 _ (by omega)]) (by rw [fx_up_na (by omega), n3 b j h1])
          · rw [hk, if_pos rfl] at e1
            refine ⟨⟨by decide, by decide⟩, fun h => absurd h (by decide), fun _ => ⟨⟨by omega, by omega⟩, ⟨by omega, by omega⟩, sp_sayWord (d := d + 2) (by unfold w_ok; omega) ?_ (s349_113 ?_)⟩⟩
            · exact m_okq hO (by rw [fx_up_na (by decide), fx_up_na (by decide), n3 133 _ (by omega)])
            · rw [e1] at K
              refine K _ ?_ ?_ (fun b j h1 h2 => ?_)
              · refine mct_set hCN hi _ _ (by rw [m_app_ne (by omega) (by decide), fx_up_na (by decide), fx_up_na (by decide)]) (fun b j hb => by rw [m_app_ne (by omega) (by omega), fx_up_na (by omega), fx_up_na (by omega)]) (fun a j ha hj hne => ⟨by rw [m_app_ne (by omega) (by omega), fx_up_na (by decide), fx_up_na (by decide)], by rw [m_app_ne (by omega) (by omega), fx_up_na (by decide), fx_up_nk (by omega)], by rw [m_app_ne (by omega) (by omega), fx_up_nk (by omega), fx_up_na (by decide)]⟩) (fun a ha => ?_) h6
                obtain ⟨g1, g2, g3⟩ := c5N a ha
                rw [m_app_ne (by omega) (by omega), m_app_ne (by omega) (by omega), m_app_ne (by omega) (by omega), fx_up_na (show (185 : Nat) ≠ 187 by decide), fx_up_na (show (185 : Nat) ≠ 186 by decide), fx_up_na (show (186 : Nat) ≠ 187 by decide)]
                refine ⟨g1, ?_⟩
                by_cases ea : a = q
                · subst ea
                  rw [fx_up_self, fx_up_self, if_pos rfl]
                  exact ⟨fun _ => ⟨rfl, rfl⟩, fun h => by omega⟩
                · rw [fx_up_nk (by omega), fx_up_nk (by omega), if_neg ea, fx_up_na (by decide)]
                  exact ⟨g2, g3⟩
              · exact mz_frM n1 (fun b j h1 h2 => by rw [m_app_ne (by omega) (by omega), fx_up_na (by omega), fx_up_na (by omega)])
              · exact m_app_fq (by rw [fx_up_na (by decide), fx_up_na (by decide), n3 133 _ (by omega)]) (fun a => by rw [fx_up_na (by decide), fx_up_na (by decide), n3 136 _ (by omega)]) (by rw [fx_up_na (by omega), fx_up_na (by omega), n3 b j h1])
        · rw [if_neg hfil] at e1 ⊢
          exact s349_67 ⟨⟨by omega, by omega⟩, fun h => absurd rfl h, fun _ => sp_sayNo (d := d + 1) (by unfold w_ok; omega) hO (s349_77 (same 3 (by omega) e1))⟩
  · exact sp_word (d := d + 4) (by omega) (by omega) (s349_11 (sp_sayNo (d := d + 1) (by unfold w_ok; decide +kernel) hO (s349_14 (same 0 (by omega) (by unfold sb; rw [if_pos hge])))))
end MSB
