/-! goOn: as a function, with its lines; the reference's. -/
def lit (sg c : Int) (y : Nat) : List Int := [32, sg, 48 + c, 46, 48 + (y : Int)]
/-- what another cell may not have -/
def rsC (Z : PZ) (S : Nat → Nat) (c0 e : Int) : List Int := if e = c0 then [] else (List.range Z.2.2.1.toNat).flatMap fun t => if (S e.toNat).testBit t = true then [] else lit 43 e t
/-- the line of a reason -/
def tRs (Z : PZ) (S : Nat → Nat) (R : PR) (s : Option PR) (r : Nat) (q c : Int) (y : Nat) : List Int := (match s with
  | none => [114] ++ dgs (r : Int)
  | some _ => [119] ++ dgs (r : Int) ++ 32 :: dgs q) ++ lit 45 c y ++ (jnC R s).flatMap (rsC Z S c) ++ [59]
def rl (Z : PZ) (r : Nat) : PR := Z.2.2.2.1.getD r (0, 0, [])
theorem rl_of {Z : PZ} {r : Nat} {R : PR} (h : Z.2.2.2.1[r]? = some R) : rl Z r = R := by
  unfold rl
  rw [List.getD_eq_getElem?_getD, h]
  rfl
/-- going on: the standing, how many were taken, the lines -/
noncomputable def gOn (Z : PZ) : Nat → (Nat → Nat) → (Nat → Nat) × Nat × List Int
  | 0, S => (S, 0, [])
  | k + 1, S => if brk Z S then (S, 0, []) else match fO1 Z S Z.2.2.2.1 0 with
    | none => (S, 0, [])
    | some (r, c, y) => ((gOn Z k (s_wo S c.toNat y)).1, (gOn Z k (s_wo S c.toNat y)).2.1 + 1, tRs Z S (rl Z r) none r 0 c y ++ (gOn Z k (s_wo S c.toNat y)).2.2)
def totS (S : Nat → Nat) : Nat → Nat
  | 0 => 0
  | n + 1 => totS S n + pop4 (S n)
theorem pop4_clr : ∀ (m : Fin 16) (y : Fin 4), (m : Nat).testBit (y : Nat) = true → pop4 (clr (m : Nat) (y : Nat)) + 1 = pop4 (m : Nat) := by decide +kernel
theorem totS_wo {S : Nat → Nat} {c y : Nat} (hy : y < 4) (hS : S c < 16) (hb : (S c).testBit y = true) : ∀ n, totS (s_wo S c y) n + (if c < n then 1 else 0) = totS S n
  | 0 => by simp [totS]
  | n + 1 => by
    have ih := totS_wo hy hS hb n
    unfold totS
    by_cases e : n = c
    · subst e
      have := pop4_clr ⟨S n, hS⟩ ⟨y, hy⟩ hb
      simp only at this
      rw [if_neg (by omega)] at ih
      rw [if_pos (by omega)]
      have e2 : s_wo S n y n = clr (S n) y := by
        unfold s_wo
        rw [if_pos rfl]
      rw [e2]
      omega
    · have e2 : s_wo S c y n = S n := by
        unfold s_wo
        rw [if_neg e]
      rw [e2]
      split at ih <;> split <;> omega
theorem pop4_le (m : Nat) : pop4 m ≤ 4 := by
  unfold pop4
  refine Nat.le_trans (List.length_filter_le _ _) ?_
  simp
theorem totS_le {S : Nat → Nat} : ∀ n, totS S n ≤ 4 * n
  | 0 => by simp [totS]
  | n + 1 => by
    have := totS_le (S := S) n
    have := pop4_le (S n)
    unfold totS
    omega
theorem clr_lt {m y : Nat} (h : m < 16) : clr m y < 16 := Nat.lt_of_le_of_lt Nat.and_le_left h
theorem s_wo_16 {Z : PZ} {S : Nat → Nat} {c y : Nat} (hS : ∀ k : Nat, (k : Int) < Z.1 * Z.2.1 → S k < 16) : ∀ k : Nat, (k : Int) < Z.1 * Z.2.1 → s_wo S c y k < 16 := fun k hk => by
  unfold s_wo
  split
  · exact clr_lt (hS k hk)
  · exact hS k hk
/-- the first symbol that can be taken: its cell is one, and it stands there -/
theorem fO1_in {Z : PZ} (ho : pz_ok Z) {S : Nat → Nat} {r : Nat} {c : Int} {y : Nat} (h : fO1 Z S Z.2.2.2.1 0 = some (r, c, y)) : ∃ R, Z.2.2.2.1[r]? = some R ∧ (0 ≤ c ∧ c < Z.1 * Z.2.1) ∧ y < 4 ∧ (S c.toNat).testBit y = true ∧ fCl Z R none S (jnC R none) = some (c, y) ∧ c ∈ R.2.2 := by
  obtain ⟨R, h1, h2, h3, h4, h5, h6⟩ := fO1_some h
  rw [Nat.sub_zero] at h1
  have hc : c ∈ R.2.2 := by
    unfold jnC at h3
    rw [List.append_nil] at h3
    exact h3
  exact ⟨R, h1, (rule_cells ho (mem_at h1)).1 c hc, h4, h5.1, h6, hc⟩
/-! writing lines until they are long -/
def mout (M M' : fx_M) (cs : List Int) : Prop := M' 133 5 = m_app M cs 133 5 ∧ ∀ j, M' 136 j = m_app M cs 136 j
def mli (M : fx_M) : Prop := m_ok M ∧ ((M 133 57 = 0 ∧ M 133 5 ≤ 3000) ∨ M 133 57 = 1)
def mlo (M M' : fx_M) (cs : List Int) : Prop := mli M' ∧ (M 133 57 = 0 → M 133 5 + cs.length ≤ 3000 → mout M M' cs ∧ M' 133 57 = 0) ∧ (M 133 57 = 0 → 3000 < M 133 5 + cs.length → M' 133 57 = 1) ∧ (M 133 57 = 1 → M' 133 57 = 1)
theorem mlo.ok {M M' : fx_M} {cs : List Int} (h : mlo M M' cs) : mli M' := h.1
theorem mlo.ex {M M' : fx_M} {cs : List Int} (h : mlo M M' cs) : M 133 57 = 0 → M 133 5 + cs.length ≤ 3000 → mout M M' cs ∧ M' 133 57 = 0 := h.2.1
theorem mlo.ov {M M' : fx_M} {cs : List Int} (h : mlo M M' cs) : M 133 57 = 0 → 3000 < M 133 5 + cs.length → M' 133 57 = 1 := h.2.2.1
theorem mlo.lg {M M' : fx_M} {cs : List Int} (h : mlo M M' cs) : M 133 57 = 1 → M' 133 57 = 1 := h.2.2.2
theorem m_app_ge : ∀ {cs : List Int} {M : fx_M}, m_ok M → M 133 5 ≤ m_app M cs 133 5 ∧ (6000 < M 133 5 + cs.length → m_app M cs 133 5 = 6000)
  | [], M, hO => by
    unfold m_ok at hO
    exact ⟨by simp [m_app], fun h => by simp at h; omega⟩
  | c :: cs, M, hO => by
    have ih := m_app_ge (cs := cs) (m_ok_put (c := c) hO)
    have h1 : m_put M c 133 5 = if M 133 5 = 6000 then 6000 else M 133 5 + 1 := by
      unfold m_put
      split
      · next h => rw [h]
      · rw [fx_up_self]
    unfold m_ok at hO
    show M 133 5 ≤ m_app (m_put M c) cs 133 5 ∧ (6000 < M 133 5 + (c :: cs).length → m_app (m_put M c) cs 133 5 = 6000)
    rw [h1] at ih
    simp only [List.length_cons]
    split at ih
    · next h => exact ⟨by omega, fun h2 => by have h3 := m_ok_app (cs := cs) (m_ok_put (c := c) hO); unfold m_ok at h3; omega⟩
    · next h => exact ⟨by omega, fun h2 => ih.2 (by omega)⟩
theorem mout_rf {M : fx_M} : mout M M [] := ⟨rfl, fun _ => rfl⟩
theorem mout_app {M : fx_M} {cs : List Int} : mout M (m_app M cs) cs := ⟨rfl, fun _ => rfl⟩
theorem mout_tr {M N O : fx_M} {cs ds : List Int} (h1 : mout M N cs) (h2 : mout N O ds) : mout M O (cs ++ ds) := by
  have e := m_app_cg (cs := ds) h1.1 h1.2
  exact ⟨by rw [h2.1, e.1, m_app_app], fun j => by rw [h2.2, e.2, m_app_app]⟩
theorem mlo_rf {M : fx_M} (h : mli M) : mlo M M [] := ⟨h, fun h0 _ => ⟨mout_rf, h0⟩, fun h0 h1 => by
  simp at h1
  rcases h.2 with h2 | h2 <;> omega, fun h => h⟩
theorem mlo_fr {M N : fx_M} (h : mli M) (h5 : N 133 5 = M 133 5) (h57 : N 133 57 = M 133 57) (h136 : ∀ j, N 136 j = M 136 j) : mlo M N [] := by
  refine ⟨?_, fun h0 _ => ⟨⟨h5, h136⟩, by rw [h57]; exact h0⟩, fun h0 h1 => by
    simp at h1
    rcases h.2 with h2 | h2 <;> omega, fun h0 => by rw [h57]; exact h0⟩
  unfold mli m_ok at h ⊢
  rw [h5, h57]
  exact h
theorem mlo_tr {M N O : fx_M} {cs ds : List Int} (hM : mli M) (h1 : mlo M N cs) (h2 : mlo N O ds) : mlo M O (cs ++ ds) := by
  refine ⟨h2.ok, fun h0 hl => ?_, fun h0 hl => ?_, fun h0 => h2.lg (h1.lg h0)⟩
  · rw [List.length_append] at hl
    obtain ⟨a1, a2⟩ := h1.ex h0 (by omega)
    have e := m_app_len (M := M) (cs := cs) (by omega)
    obtain ⟨b1, b2⟩ := h2.ex a2 (by rw [a1.1, e]; omega)
    exact ⟨mout_tr a1 b1, b2⟩
  · rw [List.length_append] at hl
    by_cases hc : M 133 5 + cs.length ≤ 3000
    · obtain ⟨a1, a2⟩ := h1.ex h0 hc
      have e := m_app_len (M := M) (cs := cs) (by omega)
      exact h2.ov a2 (by rw [a1.1, e]; omega)
    · exact h2.lg (h1.ov h0 (by omega))
theorem mlo_0 {M N : fx_M} {cs : List Int} (h : mlo M N (cs ++ [])) : mlo M N cs := by
  rw [List.append_nil] at h
  exact h
/-- a line, whose end has been written -/
theorem mlo_line {M : fx_M} {cs : List Int} (h : mli M) (h0 : M 133 57 = 0) : mlo M (fx_up (m_app M cs) 133 57 (if 3000 < m_app M cs 133 5 then 1 else 0)) cs := by
  have hO := h.1
  have hO2 := m_ok_app (cs := cs) hO
  have hge := m_app_ge (cs := cs) hO
  refine ⟨⟨?_, ?_⟩, fun _ hl => ⟨⟨?_, fun j => ?_⟩, ?_⟩, fun _ hl => ?_, fun h1 => by omega⟩
  · unfold m_ok at hO2 ⊢
    rw [fx_up_nk (by decide)]
    exact hO2
  · rw [fx_up_self, fx_up_nk (by decide)]
    split
    · exact Or.inr rfl
    · exact Or.inl ⟨rfl, by omega⟩
  · rw [fx_up_nk (by decide)]
  · rw [fx_up_na (by decide)]
  · rw [fx_up_self, m_app_len (by omega), if_neg (by omega)]
  · rw [fx_up_self, if_pos]
    by_cases hc : M 133 5 + cs.length ≤ 6000
    · rw [m_app_len hc]
      exact hl
    · rw [hge.2 (by omega)]
      omega
section RGN
variable {kc : List va_E} {d : Nat} {Q : Option fx_V → fx_M → Prop} {Z : PZ} {S : Nat → Nat}
theorem sp_sayLiteral {M : fx_M} {p c : Int} {y : Nat} (hp : 0 ≤ p ∧ p ≤ 1) (hc : 0 ≤ c ∧ c < 10) (hy : y < 10) (hO : m_ok M) (K : Q none (m_app M (lit (if p = 0 then 45 else 43) c y))) : wc kc (d + 3) 316 [jR 133, jI p, jI c, jI y] M Q := by
  refine s316 (sp_sayByte hO (s316_6 ⟨⟨by omega, by omega⟩, sp_sayByte (m_ok_put hO) (s316_21 (sp_sayNumber (m_ok_put (m_ok_put hO)) (by omega) (by omega) (s316_26 (sp_sayByte (m_ok_app (m_ok_put (m_ok_put hO))) (s316_32 (sp_sayNumber (m_ok_put (m_ok_app (m_ok_put (m_ok_put hO)))) (by omega) (by omega) (s316_37 ?_)))))))⟩))
  rw [dgs_1 ⟨by omega, by omega⟩, dgs_1 ⟨by omega, by omega⟩]
  exact K
theorem sp_endLine {M : fx_M} (hO : m_ok M) (h57 : M 133 57 = 0) (K : Q none (fx_up (m_app M [59]) 133 57 (if 3000 < m_app M [59] 133 5 then 1 else 0))) : wc kc (d + 2) 317 [jR 133] M Q := by
  refine s317 (sp_sayByte hO (s317_6 ?_))
  have hO2 := m_ok_put (c := 59) hO
  have e57 : m_put M 59 133 57 = 0 := by rw [m_put_ne (by decide) (by omega)]; exact h57
  rw [e57]
  simp only [if_true]
  unfold m_ok at hO2
  refine ⟨⟨by omega, by omega⟩, fun _ => ⟨by omega, by omega⟩, by split <;> omega, K⟩
/-- the other cells of a reason -/
theorem st_in {M0 : fx_M} {v1 : Int} {e : Int} (hz : mz M0 0 Z) (ho : pz_ok Z) (hm : mst' M0 Z S) (hS : ∀ c : Nat, (c : Int) < Z.1 * Z.2.1 → S c < 16) (heb : 0 ≤ e ∧ e < Z.1 * Z.2.1) (hne : e ≠ M0 133 51) (h51 : fx_in32 (M0 133 51)) (hO : m_ok M0) {cs : List Int} (K : wp kc (d + 4) 315 64 [some (jR 133), some (jI (v1 + 1)), none, none] [] (m_app M0 cs) Q) : ∀ (t y : Nat) (ds : List Int), (y : Int) + t = Z.2.2.1 → ds ++ (List.range' y t).flatMap (fun t => if (S e.toNat).testBit t = true then [] else lit 43 e t) = cs → wp kc (d + 4) 315 81 [some (jR 133), some (jI v1), some (jI e), some (jI y)] [] (m_app M0 ds) Q := by
  have h9 := pz_n ho
  have h4 := ho.2.2.2.2.2.1
  intro t
  induction t with
  | zero =>
    intro y ds hy he
    refine s315_81 ?_
    rw [m_app_ne (by omega) (by decide), hz.2.2.1]
    refine ⟨⟨⟨by omega, by omega⟩, ⟨by omega, by omega⟩⟩, fun _ => ?_, fun h => by omega⟩
    rw [show cs = ds by rw [← he]; simp] at K
    exact K
  | succ t ih =>
    intro y ds hy he
    rw [List.range'_succ, List.flatMap_cons] at he
    have h16 := hS e.toNat (by omega)
    have e156 : m_app M0 ds 156 e = (S e.toNat : Nat) := by
      rw [m_app_ne (by omega) (by decide)]
      have := hm e.toNat (by omega)
      rw [show ((e.toNat : Nat) : Int) = e by omega] at this
      exact this
    have hb := sm_bit ⟨S e.toNat, h16⟩ ⟨y, by omega⟩
    simp only at hb
    refine s315_81 ?_
    rw [m_app_ne (b := 148) (by omega) (by decide), hz.2.2.1, e156, hb, m_app_ne (b := 133) (j := 51) (by omega) (by decide)]
    refine ⟨⟨⟨by omega, by omega⟩, ⟨by omega, by omega⟩⟩, fun h => by omega, fun _ => ⟨⟨⟨by omega, by omega⟩, h51⟩, fun h => absurd h hne, fun _ => ⟨⟨by omega, by omega⟩, by split <;> exact ⟨by omega, by omega⟩, fun hn => ?_, fun h0 => ?_⟩⟩⟩
    · have hbt : (S e.toNat).testBit y = true := by
        cases hx : (S e.toNat).testBit y with
        | true => rfl
        | false => rw [hx] at hn; simp at hn
      rw [if_pos hbt, List.nil_append] at he
      have nx := ih (y + 1) ds (by omega) he
      rw [show ((y + 1 : Nat) : Int) = (y : Int) + 1 by omega] at nx
      exact nx
    · have hbt : ¬ (S e.toNat).testBit y = true := fun hx => by rw [if_pos hx] at h0; omega
      rw [if_neg hbt] at he
      refine sp_sayLiteral ⟨by omega, by omega⟩ ⟨by omega, by omega⟩ (by omega) (m_ok_app hO) (s315_119 ?_)
      rw [m_app_app]
      have nx := ih (y + 1) (ds ++ lit 43 e y) (by omega) (by rw [List.append_assoc]; exact he)
      rw [show ((y + 1 : Nat) : Int) = (y : Int) + 1 by omega] at nx
      exact nx
theorem st_out {M0 : fx_M} {R : PR} {s : Option PR} {c : Int} (hz : mz M0 0 Z) (ho : pz_ok Z) (hm : mst' M0 Z S) (hS : ∀ c : Nat, (c : Int) < Z.1 * Z.2.1 → S c < 16) (hj : mjt M0 (jnC R s)) (hJ : ∀ e ∈ jnC R s, 0 ≤ e ∧ e < Z.1 * Z.2.1) (h51 : M0 133 51 = c) (hc : 0 ≤ c ∧ c < 9) (hO : m_ok M0) {cs : List Int} (K : wc kc (d + 3) 317 [jR 133] (m_app M0 cs) (fun v M1 => wp kc (d + 4) 315 135 [none, none, none, none] (v.toList ++ []) M1 Q)) : ∀ (t i : Nat) (ds : List Int), i + t = (jnC R s).length → ds ++ ((jnC R s).drop i).flatMap (rsC Z S c) = cs → wp kc (d + 4) 315 64 [some (jR 133), some (jI i), none, none] [] (m_app M0 ds) Q := by
  have h8 := hj.l8
  have h1s := ho.2.2.2.2.1
  intro t
  induction t with
  | zero =>
    intro i ds hi he
    refine s315_64 ?_
    rw [m_app_ne (by omega) (by decide), hj.n]
    refine ⟨⟨⟨by omega, by omega⟩, ⟨by omega, by omega⟩⟩, fun _ => ?_, fun h => by omega⟩
    rw [List.drop_eq_nil_of_le (by omega)] at he
    rw [show cs = ds by rw [← he]; simp] at K
    exact K
  | succ t ih =>
    intro i ds hi he
    have hil : i < (jnC R s).length := by omega
    have hmem := getD_mem hil
    have heb := hJ _ hmem
    rw [drop_consD hil, List.flatMap_cons] at he
    refine s315_64 ?_
    rw [m_app_ne (b := 133) (j := 48) (by omega) (by decide), hj.n, m_app_ne (b := 157) (by omega) (by decide), hj.c i hil]
    refine ⟨⟨⟨by omega, by omega⟩, ⟨by omega, by omega⟩⟩, fun h => by omega, fun _ => ⟨⟨by omega, by omega⟩, ?_⟩⟩
    by_cases ec : (jnC R s).getD i 0 = c
    · have : rsC Z S c ((jnC R s).getD i 0) = [] := by
        unfold rsC
        rw [if_pos ec]
      rw [this, List.nil_append] at he
      have nx := ih (i + 1) ds (by omega) he
      rw [show ((i + 1 : Nat) : Int) = (i : Int) + 1 by omega] at nx
      refine s315_81 ?_
      have h4 := ho.2.2.2.2.2.1
      rw [m_app_ne (b := 148) (by omega) (by decide), hz.2.2.1, m_app_ne (b := 133) (j := 51) (by omega) (by decide), h51]
      have hjb := hj.b i hil
      exact ⟨⟨⟨by omega, by omega⟩, ⟨by omega, by omega⟩⟩, fun _ => nx, fun _ => ⟨⟨⟨by omega, by omega⟩, ⟨by omega, by omega⟩⟩, fun _ => nx, fun h => absurd ec h⟩⟩
    · have nx := ih (i + 1) (ds ++ rsC Z S c ((jnC R s).getD i 0)) (by omega) (by rw [List.append_assoc]; exact he)
      rw [show ((i + 1 : Nat) : Int) = (i : Int) + 1 by omega] at nx
      refine st_in (v1 := (i : Int)) hz ho hm hS heb (by rw [h51]; exact ec) (by rw [h51]; exact ⟨by omega, by omega⟩) hO nx Z.2.2.1.toNat 0 ds (by omega) ?_
      unfold rsC
      rw [if_neg ec, List.range_eq_range']
theorem sp_sayTaken {M : fx_M} {R : PR} {s : Option PR} {r : Nat} {q c : Int} {y : Nat} (hz : mz M 0 Z) (ho : pz_ok Z) (hm : mst' M Z S) (hS : ∀ c : Nat, (c : Int) < Z.1 * Z.2.1 → S c < 16) (hR : pr_ok (Z.1 * Z.2.1) R) (hr : r < 12) (hs : sec Z q s) (hj : mjt M (jnC R s)) (h51 : M 133 51 = c) (hc : 0 ≤ c ∧ c < Z.1 * Z.2.1) (h52 : M 133 52 = (y : Int)) (hy : y < 4) (h53 : M 133 53 = (r : Int)) (h54 : M 133 54 = q) (hl : mli M) (K : ∀ M', mlo M M' (tRs Z S R s r q c y) → (∀ b j, b ≠ 136 → ¬ (b = 133 ∧ (j = 5 ∨ j = 57)) → M' b j = M b j) → Q none M') : wc kc (d + 5) 315 [jR 133] M Q := by
  have h9 := pz_n ho
  obtain ⟨j1, j2, j3⟩ := jnC_ok ho hR hs
  have hO := hl.1
  have hq12 : q < 12 := by
    rcases hs with ⟨h1, h2, h3⟩ | ⟨r2, R2, h1, h2, h3⟩
    · omega
    · have := (rule_in ho h3).2
      omega
  rcases hl.2 with ⟨h57, h3000⟩ | h57
  · have hqb : -1 ≤ q := by
      rcases hs with ⟨h1, h2, h3⟩ | ⟨r2, R2, h1, h2, h3⟩ <;> omega
    refine s315 ⟨by rw [h57]; exact ⟨by omega, by omega⟩, fun _ => ⟨by rw [h54]; exact ⟨by omega, by omega⟩, sp_sayByte hO (s315_26 ?_)⟩, fun h => by omega⟩
    rw [h54, m_put_ne (b := 133) (j := 53) (by decide) (by omega), h53]
    refine sp_sayNumber (m_ok_put hO) (by omega) (by omega) (s315_34 ?_)
    have e0 : ∀ c0 : Int, m_app (m_put M c0) (dgs (r : Int)) = m_app M ([c0] ++ dgs (r : Int)) := fun c0 => rfl
    rw [e0, m_app_ne (b := 133) (j := 54) (by omega) (by decide), h54, m_app_ne (b := 133) (j := 51) (by omega) (by decide), h51, m_app_ne (b := 133) (j := 52) (by omega) (by decide), h52]
    -- the rest, from the first literal on
    have rest : ∀ hd : List Int, hd ++ lit 45 c y ++ (jnC R s).flatMap (rsC Z S c) ++ [59] = tRs Z S R s r q c y → wc kc (d + 4) 316 [jR 133, jI 0, jI c, jI y] (m_app M hd) (fun v M1 => wp kc (d + 5) 315 62 [some (jR 133), none, none, none] (v.toList ++ []) M1 Q) := fun hd he => by
      refine sp_sayLiteral (d := d + 1) ⟨by omega, by omega⟩ ⟨by omega, by omega⟩ (by omega) (m_ok_app hO) (s315_62 ?_)
      rw [if_pos rfl, m_app_app]
      refine st_out (d := d + 1) hz ho hm hS hj j3 h51 ⟨hc.1, by omega⟩ hO (cs := hd ++ lit 45 c y ++ (jnC R s).flatMap (rsC Z S c)) ?_ (jnC R s).length 0 (hd ++ lit 45 c y) (by omega) (by rw [List.drop_zero])
      refine sp_endLine (m_ok_app hO) (by rw [m_app_ne (by omega) (by decide)]; exact h57) (s315_135 ?_)
      rw [m_app_app, he]
      refine K _ (mlo_line hl h57) (fun b j h1 h2 => ?_)
      rw [fx_up_ne (by omega), m_app_ne (by omega) h1]
    rcases hs with ⟨h1, h2, h3⟩ | ⟨r2, R2, h1, h2, h3⟩
    · refine ⟨⟨by omega, by omega⟩, fun _ => ?_, fun h => by omega⟩
      rw [if_pos h1]
      exact rest _ (by subst h3; rfl)
    · refine ⟨⟨by omega, by omega⟩, fun h => by omega, fun _ => sp_sayMore (m_ok_app hO) (by omega) (by omega) (s315_49 ?_)⟩
      rw [if_neg (by omega), m_app_app, m_app_ne (b := 133) (j := 51) (by omega) (by decide), h51, m_app_ne (b := 133) (j := 52) (by omega) (by decide), h52]
      exact rest _ (by subst h2; rfl)
  · refine s315 ⟨by rw [h57]; exact ⟨by omega, by omega⟩, fun h => by omega, fun _ => K M ⟨hl, fun h => by omega, fun h => by omega, fun h => h⟩ (fun _ _ _ _ => rfl)⟩
end RGN
