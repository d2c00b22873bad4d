/-! The reference's proof and grade. -/
theorem m_app_lo : ∀ {cs : List Int} {M : fx_M} {j : Int}, j < M 133 5 → m_app M cs 136 j = M 136 j
  | [], M, j, _ => rfl
  | c :: cs, M, j, h => by
    have h1 : M 133 5 ≤ m_put M c 133 5 := by
      unfold m_put
      split
      · omega
      · rw [fx_up_self]
        omega
    have h2 : m_put M c 136 j = M 136 j := by
      unfold m_put
      split
      · rfl
      · rw [fx_up_na (by decide), fx_up_nk (by omega)]
    show m_app (m_put M c) cs 136 j = M 136 j
    rw [m_app_lo (by omega), h2]
theorem m_app_get : ∀ {cs : List Int} {M : fx_M} {i : Nat}, M 133 5 + cs.length ≤ 6000 → i < cs.length → m_app M cs 136 (M 133 5 + i) = cs.getD i 0
  | [], M, i, _, h => by simp at h
  | c :: cs, M, i, h, hi => by
    simp only [List.length_cons] at h hi
    have h1 : m_put M c 133 5 = M 133 5 + 1 := by
      unfold m_put
      rw [if_neg (by omega), fx_up_self]
    have h2 : m_put M c 136 (M 133 5) = c := by
      unfold m_put
      rw [if_neg (by omega), fx_up_na (by decide), fx_up_self]
    show m_app (m_put M c) cs 136 (M 133 5 + i) = _
    cases i with
    | zero =>
      rw [show M 133 5 + ((0 : Nat) : Int) = M 133 5 by omega, m_app_lo (by omega), h2]
      rfl
    | succ i =>
      have := m_app_get (cs := cs) (M := m_put M c) (i := i) (by omega) (by omega)
      rw [h1] at this
      rw [show M 133 5 + ((i + 1 : Nat) : Int) = M 133 5 + 1 + (i : Int) by omega, this]
      rfl
/-- the reference's answer is cs -/
def mtq (M : fx_M) (cs : List Int) : Prop := M 133 5 = cs.length ∧ ∀ i : Nat, i < cs.length → M 136 (i : Int) = cs.getD i 0
/-- nothing but what a request uses and leaves has changed, and the answer -/
def mfrq (M M' : fx_M) : Prop := ∀ b j, ¬ msc b j → b ≠ 136 → ¬ (b = 133 ∧ j = 5) → M' b j = M b j
theorem mfrq_tr {M N O : fx_M} (h1 : mfrq M N) (h2 : mfrq N O) : mfrq M O := fun b j a1 a2 a3 => (h2 b j a1 a2 a3).trans (h1 b j a1 a2 a3)
theorem mfrq_rf {M : fx_M} : mfrq M M := fun _ _ _ _ _ => rfl
theorem mfrq_wr {M N : fx_M} {cs : List Int} (h : mwr M N cs) : mfrq M N := fun b j h1 h2 h3 => mwr_ne h h1 h2 h3
theorem mtq_out {M N : fx_M} {cs : List Int} (h0 : M 133 5 = 0) (hl : cs.length ≤ 6000) (h5 : N 133 5 = m_app M cs 133 5) (h136 : ∀ j, N 136 j = m_app M cs 136 j) : mtq N cs := by
  refine ⟨by rw [h5, m_app_len (by omega), h0]; omega, fun i hi => ?_⟩
  rw [h136]
  have := m_app_get (cs := cs) (M := M) (i := i) (by omega) hi
  rw [h0, show (0 : Int) + (i : Int) = i by omega] at this
  exact this
theorem mtq_wr {M N : fx_M} {cs : List Int} (h0 : M 133 5 = 0) (hl : cs.length ≤ 6000) (h : mwr M N cs) : mtq N cs := mtq_out h0 hl (h 133 5 msc_5) (fun j => h 136 j msc_136)
theorem mtq_mout {M N : fx_M} {cs : List Int} (h0 : M 133 5 = 0) (hl : cs.length ≤ 6000) (h : mout M N cs) : mtq N cs := mtq_out h0 hl h.1 h.2
section MPF
variable {kc : List va_E} {d : Nat} {Q : Option fx_V → fx_M → Prop} {Z : PZ}
theorem full_eq (ho : pz_ok Z) {M : fx_M} (hz : mz M 0 Z) : fx_shl 1 (M 148 0) - 1 = ((2 ^ Z.2.2.1.toNat - 1 : Nat) : Int) := by
  have h1 := ho.2.2.2.2.1
  have h4 := ho.2.2.2.2.2.1
  rw [hz.2.2.1, fx_shl_1 ⟨by omega, by omega⟩]
  have : 0 < (2 : Nat) ^ Z.2.2.1.toNat := Nat.pow_pos (by decide)
  omega
theorem sd_loop (ho : pz_ok Z) {M0 : fx_M} (K : ∀ M', mst' M' Z (s_first Z) → (∀ b j, b ≠ 156 → M' b j = M0 b j) → Q none M') : ∀ (t c : Nat) (M : fx_M), (c : Int) + t = Z.1 * Z.2.1 → mz M 0 Z → (∀ k : Nat, k < c → M 156 (k : Int) = (s_first Z k : Nat)) → (∀ b j, b ≠ 156 → M b j = M0 b j) → wp kc (d + 2) 295 2 [some (jR 133), some (jI c)] [] M Q := by
  have h9 := pz_n ho
  intro t
  induction t with
  | zero =>
    intro c M hc hz hk hf
    refine s295_2 (s248 (s295_7 ?_))
    rw [hz.1, hz.2.1]
    exact ⟨⟨⟨by omega, by omega⟩, ⟨by omega, by omega⟩⟩, fun _ => K M (fun k h => hk k (by omega)) hf, fun h => by omega⟩
  | succ t ih =>
    intro c M hc hz hk hf
    have hg := gv_b ho (c := c)
    have go : ∀ v : Int, v = (s_first Z c : Nat) → wp kc (d + 2) 295 2 [some (jR 133), some (jI ((c : Int) + 1))] [] (fx_up M 156 (c : Int) v) Q := fun v hv => by
      have nx := ih (c + 1) (fx_up M 156 (c : Int) v) (by omega) (mz_frM hz (fun b j h1 h2 => fx_up_na (by omega))) (fun k h => by
        by_cases e : k = c
        · subst e
          rw [fx_up_self]
          exact hv
        · rw [fx_up_nk (by omega)]
          exact hk k (by omega)) (fun b j hb => by rw [fx_up_na hb]; exact hf b j hb)
      rw [show ((c + 1 : Nat) : Int) = (c : Int) + 1 by omega] at nx
      exact nx
    refine s295_2 (s248 (s295_7 ?_))
    rw [hz.1, hz.2.1]
    refine ⟨⟨⟨by omega, by omega⟩, ⟨by omega, by omega⟩⟩, fun h => by omega, fun _ => s271 ⟨⟨by omega, by omega⟩, s295_20 ?_⟩⟩
    rw [mz_gv hz (by omega)]
    refine ⟨⟨by omega, by omega⟩, fun hp => s271 ⟨⟨by omega, by omega⟩, s295_36 ⟨⟨by omega, by omega⟩, ?_⟩⟩, fun hn => s296 (s295_27 ⟨⟨by omega, by omega⟩, ?_⟩)⟩
    · rw [mz_gv hz (by omega), fx_shl_1 ⟨by omega, by omega⟩]
      refine go _ ?_
      unfold s_first
      rw [if_pos (by omega), if_pos (show 0 ≤ Z.2.2.2.2.getD c (-1) from hp)]
      rfl
    · rw [full_eq ho hz]
      refine go _ ?_
      unfold s_first
      rw [if_pos (by omega), if_neg (show ¬ 0 ≤ Z.2.2.2.2.getD c (-1) from fun h => by have h : 0 ≤ gv Z c := h; omega)]
theorem sp_stand (ho : pz_ok Z) {M : fx_M} (hz : mz M 0 Z) (K : ∀ M', mst' M' Z (s_first Z) → (∀ b j, b ≠ 156 → M' b j = M b j) → Q none M') : wc kc (d + 2) 295 [jR 133] M Q :=
  s295 (sd_loop ho K (Z.1 * Z.2.1).toNat 0 M (by have := pz_n ho; omega) hz (fun k h => by omega) (fun _ _ _ => rfl))
/-- the lines of the givens -/
def tG1 (Z : PZ) (c : Nat) : List Int := if gv Z c < 0 then [] else [103] ++ dgs (c : Int) ++ lit 43 (c : Int) (gv Z c).toNat ++ [59]
theorem tG1_len {c : Nat} (hc : c < 9) : (tG1 Z c).length ≤ 8 := by
  unfold tG1
  split
  · simp
  · rw [dgs_1 ⟨by omega, by omega⟩]
    simp [lit]
theorem tGvs_r : tGvs Z = (List.range' 0 (Z.1 * Z.2.1).toNat).flatMap (tG1 Z) := by
  unfold tGvs tG1
  rw [List.range_eq_range']
theorem tG_len : ∀ (t c : Nat), c + t ≤ 9 → ((List.range' c t).flatMap (tG1 Z)).length ≤ 8 * t
  | 0, c, _ => by simp
  | t + 1, c, h => by
    rw [List.range'_succ, List.flatMap_cons, List.length_append]
    have h1 := tG1_len (Z := Z) (c := c) (by omega)
    have h2 := tG_len t (c + 1) (by omega)
    omega
theorem sgv_loop (ho : pz_ok Z) {M0 : fx_M} (h05 : M0 133 5 = 0) (hO : m_ok M0) {TT : List Int} (K : ∀ M', mout M0 M' TT → M' 133 57 = 0 → fLn M0 M' → Q none M') : ∀ (t c : Nat) (M : fx_M) (ds : List Int), (c : Int) + t = Z.1 * Z.2.1 → mz M 0 Z → mout M0 M ds → M 133 57 = 0 → fLn M0 M → ds.length ≤ 8 * c → ds ++ (List.range' c t).flatMap (tG1 Z) = TT → wp kc (d + 4) 385 2 [some (jR 133), some (jI c)] [] M Q := by
  have h9 := pz_n ho
  intro t
  induction t with
  | zero =>
    intro c M ds hc hz ho1 h57 hf hl he
    refine s385_2 (s248 (s385_7 ?_))
    rw [hz.1, hz.2.1]
    have he : ds = TT := by rw [← he]; simp
    subst he
    exact ⟨⟨⟨by omega, by omega⟩, ⟨by omega, by omega⟩⟩, fun _ => K M ho1 h57 hf, fun h => by omega⟩
  | succ t ih =>
    intro c M ds hc hz ho1 h57 hf hl he
    have hg := gv_b ho (c := c)
    rw [List.range'_succ, List.flatMap_cons] at he
    have e5 : M 133 5 = ds.length := by
      rw [ho1.1, m_app_len (by omega), h05]
      omega
    have hO1 : m_ok M := by
      unfold m_ok
      omega
    refine s385_2 (s248 (s385_7 ?_))
    rw [hz.1, hz.2.1]
    refine ⟨⟨⟨by omega, by omega⟩, ⟨by omega, by omega⟩⟩, fun h => by omega, fun _ => s271 ⟨⟨by omega, by omega⟩, s385_15 ?_⟩⟩
    rw [mz_gv hz (by omega)]
    refine ⟨⟨by omega, by omega⟩, fun hp => ?_, fun hn => ?_⟩
    · refine sp_sayByte hO1 (s385_27 (sp_sayNumber (m_ok_put hO1) (by omega) (by omega) (s385_32 (s271 ⟨⟨by omega, by omega⟩, s385_40 ?_⟩))))
      have e1 : m_app (m_put M 103) (dgs (c : Int)) = m_app M ([103] ++ dgs (c : Int)) := rfl
      rw [e1, m_app_ne (b := 154) (by omega) (by decide), mz_gv hz (by omega)]
      obtain ⟨g, eg⟩ : ∃ g : Nat, gv Z c = (g : Int) := ⟨(gv Z c).toNat, by omega⟩
      rw [eg]
      refine sp_sayLiteral ⟨by omega, by omega⟩ ⟨by omega, by omega⟩ (by omega) (m_ok_app hO1) (s385_43 ?_)
      rw [if_neg (by decide), m_app_app]
      refine sp_endLine (m_ok_app hO1) (by rw [m_app_ne (by omega) (by decide)]; exact h57) (s385_47 ?_)
      rw [m_app_app]
      have et : [103] ++ dgs (c : Int) ++ lit 43 (c : Int) g ++ [59] = tG1 Z c := by
        unfold tG1
        rw [if_neg (by omega), eg, Int.toNat_natCast]
      rw [et]
      have hl1 := tG1_len (Z := Z) (c := c) (by omega)
      have e5' : m_app M (tG1 Z c) 133 5 = ds.length + (tG1 Z c).length := by
        rw [m_app_len (by omega), e5]
      rw [e5', if_neg (by omega)]
      have nx := ih (c + 1) (fx_up (m_app M (tG1 Z c)) 133 57 0) (ds ++ tG1 Z c) (by omega) (mz_frM hz (fun b j h1 h2 => by rw [fx_up_na (by omega), m_app_ne (by omega) (by omega)])) (mout_tr ho1 ⟨by rw [fx_up_nk (by decide)], fun j => by rw [fx_up_na (by decide)]⟩) (by rw [fx_up_self]) (fun b j h1 h2 => by rw [fx_up_ne (by omega), m_app_ne (by omega) h1]; exact hf b j h1 h2) (by rw [List.length_append]; omega) (by rw [List.append_assoc]; exact he)
      rw [show ((c + 1 : Nat) : Int) = (c : Int) + 1 by omega] at nx
      exact nx
    · have e0 : tG1 Z c = [] := by
        unfold tG1
        rw [if_pos hn]
      rw [e0, List.nil_append] at he
      have nx := ih (c + 1) M ds (by omega) hz ho1 h57 hf (by omega) he
      rw [show ((c + 1 : Nat) : Int) = (c : Int) + 1 by omega] at nx
      exact nx
theorem sp_sayGivens (ho : pz_ok Z) {M : fx_M} (h05 : M 133 5 = 0) (h57 : M 133 57 = 0) (hz : mz M 0 Z) (K : ∀ M', mout M M' (tGvs Z) → M' 133 57 = 0 → fLn M M' → Q none M') : wc kc (d + 4) 385 [jR 133] M Q := by
  have h9 := pz_n ho
  have hO : m_ok M := by
    unfold m_ok
    omega
  exact s385 (sgv_loop ho h05 hO K (Z.1 * Z.2.1).toNat 0 M [] (by omega) hz mout_rf h57 (fun _ _ _ _ => rfl) (by simp) (by rw [tGvs_r]; rfl))
theorem s_first_lt (ho : pz_ok Z) : sLt Z (s_first Z) := fun c hc => by
  have h9 := pz_n ho
  exact (s_first_ok ho c (by omega)).1 hc
/-- the whole tree -/
noncomputable def vZ (Z : PZ) : Nat × Nat × List Int := vis Z 10 (s_first Z) []
/-- the whole tree fits -/
def vFit (Z : PZ) (p : Int) : Prop := (vZ Z).1 ≤ 100 ∧ (p = 1 → (tGvs Z).length + (vZ Z).2.2.length ≤ 3000)
theorem sp_grow (ho : pz_ok Z) {M : fx_M} {p : Int} (hp : 0 ≤ p ∧ p ≤ 1) (hz : mz M 0 Z) (h05 : M 133 5 = 0) (KA : vFit Z p → ∀ M', mfrq M M' → mout M M' (if p = 1 then tGvs Z ++ (vZ Z).2.2 else []) → M' 133 57 = 0 → M' 133 58 = ((vZ Z).1 : Nat) → M' 133 60 = ((vZ Z).2.1 : Nat) → (vZ Z).2.1 ≤ 9 → M' 133 61 = ((gOn Z 37 (s_first Z)).2.1 : Nat) → Q none M') (KB : ¬ vFit Z p → ∀ M', mfrq M M' → m_ok M' → M' 133 57 = 1 → Q none M') : wc kc (d + 9) 384 [jR 133, jI p] M Q := by
  have h9 := pz_n ho
  have hgl : (tGvs Z).length ≤ 72 := by
    rw [tGvs_r]
    have := tG_len (Z := Z) (Z.1 * Z.2.1).toNat 0 (by omega)
    omega
  -- from the standing on
  have main : ∀ M1 gs, mout M M1 gs → gs.length ≤ 72 → (gs.length : Int) = (if p = 1 then ((tGvs Z).length : Int) else 0) → (p = 1 → gs = tGvs Z) → (p = 0 → gs = []) → M1 133 57 = 0 → M1 133 56 = p → M1 133 58 = 0 → M1 133 59 = 0 → M1 133 60 = 0 → mfrq M M1 → mz M1 0 Z → wc kc (d + 8) 295 [jR 133] M1 (fun v M2 => wp kc (d + 9) 384 37 [some (jR 133), none, none, none, none] (v.toList ++ []) M2 Q) := fun M1 gs o1 hgs egl eg1 eg0 h57 h56 h58 h59 h60 f1 z1 => by
    have e5 : M1 133 5 = gs.length := by
      rw [o1.1, m_app_len (by omega), h05]
      omega
    refine sp_stand (d := d + 6) ho z1 (fun M2 m2 f2 => s384_37 ?_)
    have l2 : mli M2 := by
      refine ⟨?_, Or.inl ⟨by rw [f2 _ _ (by decide)]; exact h57, by rw [f2 _ _ (by decide)]; omega⟩⟩
      unfold m_ok
      rw [f2 _ _ (by decide)]
      omega
    have e25 : M2 133 5 = gs.length := by rw [f2 _ _ (by decide)]; exact e5
    have hop : opC (s_first Z) (Z.1 * Z.2.1).toNat < 10 := by
      have := opC_le (S := s_first Z) (Z.1 * Z.2.1).toNat
      omega
    refine gr_node (kc := kc) (d := d) (Q := Q) ho hp 10 (s_first Z) [] M2 0 0 _ hop rfl (s_first_lt ho) (mz_frM z1 (fun b j h1 h2 => f2 b j (by omega))) m2 (by rw [f2 _ _ (by decide)]; exact h56) l2 (by rw [f2 _ _ (by decide)]; exact h57) (by rw [f2 _ _ (by decide)]; exact h58) (by omega) (by rw [f2 _ _ (by decide)]; exact h60) (by omega) (fun i q hq => by simp at hq) (fun u M3 u0 u1 hw => s384_42 ⟨⟨by omega, by omega⟩, ?_⟩) (fun hfit M3 g1 g2 g3 g4 g5 g6 g7 => ?_) (fun hnf M3 g1 g2 g3 => ?_)
    · by_cases eu : u = 0
      · rw [if_pos eu]
        rw [if_pos eu] at hw
        exact hw
      · rw [if_neg eu]
        rw [if_neg eu] at hw
        exact hw
    · have hV : vFit Z p := ⟨by have := hfit.1; rw [Nat.zero_add] at this; exact this, fun p1 => by
        have := hfit.2 p1
        rw [e25, egl, if_pos p1] at this
        have h2 : ((tGvs Z).length : Int) + (vZ Z).2.2.length ≤ 3000 := this
        omega⟩
      have f3 : mfrq M M3 := mfrq_tr f1 (fun b j h1 h2 h3 => by
        unfold msc at h1
        rw [g1 b j (by omega) h2 (by omega) (by omega) (by omega), f2 b j (by omega)])
      refine s384_51 ⟨⟨by simp, by simp⟩, fun _ => KA hV M3 f3 ?_ g6 (by have h := g2; rw [Nat.zero_add] at h; exact h) (by have h := g3; rw [Nat.zero_max] at h; exact h) g4 (by rw [g7 rfl, f2 _ _ (by decide), h59, Int.zero_add]), fun h => by simp at h⟩
      have h57' : M2 133 57 = 0 := by rw [f2 _ _ (by decide)]; exact h57
      obtain ⟨q1, -⟩ := g5.ex h57' (by
        by_cases p1 : p = 1
        · rw [if_pos p1]
          exact hfit.2 p1
        · rw [if_neg p1, e25]
          simp
          omega)
      have o2 : mout M M2 gs := ⟨by rw [f2 _ _ (by decide)]; exact o1.1, fun j => by rw [f2 _ _ (by decide)]; exact o1.2 j⟩
      have o3 := mout_tr o2 q1
      by_cases p1 : p = 1
      · rw [if_pos p1] at o3
        rw [if_pos p1]
        rw [eg1 p1] at o3
        exact o3
      · rw [if_neg p1] at o3
        rw [if_neg p1]
        rw [eg0 (by omega)] at o3
        exact o3
    · refine KB (fun hV => hnf ⟨by rw [Nat.zero_add]; exact hV.1, fun p1 => ?_⟩) M3 (mfrq_tr f1 (fun b j h1 h2 h3 => by
        unfold msc at h1
        rw [g1 b j (by omega) h2 (by omega) (by omega) (by omega), f2 b j (by omega)])) g2 g3
      have := hV.2 p1
      rw [e25, egl, if_pos p1]
      show ((tGvs Z).length : Int) + (vZ Z).2.2.length ≤ 3000
      omega
  have fu : ∀ b j, ¬ (b = 133 ∧ 56 ≤ j ∧ j ≤ 60) → (fx_up (fx_up (fx_up (fx_up (fx_up M 133 56 p) 133 57 0) 133 58 0) 133 59 0) 133 60 0) b j = M b j := fun b j hb => by
    rw [fx_up_ne (by omega), fx_up_ne (by omega), fx_up_ne (by omega), fx_up_ne (by omega), fx_up_ne (by omega)]
  have u56 : (fx_up (fx_up (fx_up (fx_up (fx_up M 133 56 p) 133 57 0) 133 58 0) 133 59 0) 133 60 0) 133 56 = p := by
    rw [fx_up_nk (by decide), fx_up_nk (by decide), fx_up_nk (by decide), fx_up_nk (by decide), fx_up_self]
  have u57 : (fx_up (fx_up (fx_up (fx_up (fx_up M 133 56 p) 133 57 0) 133 58 0) 133 59 0) 133 60 0) 133 57 = 0 := by
    rw [fx_up_nk (by decide), fx_up_nk (by decide), fx_up_nk (by decide), fx_up_self]
  have u58 : (fx_up (fx_up (fx_up (fx_up (fx_up M 133 56 p) 133 57 0) 133 58 0) 133 59 0) 133 60 0) 133 58 = 0 := by
    rw [fx_up_nk (by decide), fx_up_nk (by decide), fx_up_self]
  have u59 : (fx_up (fx_up (fx_up (fx_up (fx_up M 133 56 p) 133 57 0) 133 58 0) 133 59 0) 133 60 0) 133 59 = 0 := by
    rw [fx_up_nk (by decide), fx_up_self]
  have u60 : (fx_up (fx_up (fx_up (fx_up (fx_up M 133 56 p) 133 57 0) 133 58 0) 133 59 0) 133 60 0) 133 60 = 0 := by
    rw [fx_up_self]
  have fq : mfrq M (fx_up (fx_up (fx_up (fx_up (fx_up M 133 56 p) 133 57 0) 133 58 0) 133 59 0) 133 60 0) := fun b j h1 h2 h3 => by
    unfold msc at h1
    exact fu b j (by omega)
  have zu := mz_frM hz (N := fx_up (fx_up (fx_up (fx_up (fx_up M 133 56 p) 133 57 0) 133 58 0) 133 59 0) 133 60 0) (fun b j h1 h2 => fu b j (by omega))
  have ou : mout M (fx_up (fx_up (fx_up (fx_up (fx_up M 133 56 p) 133 57 0) 133 58 0) 133 59 0) 133 60 0) [] := ⟨fu _ _ (by omega), fun j => fu _ _ (by omega)⟩
  refine s384 ⟨hp, ⟨by omega, by omega⟩, fun h0 => ?_, fun h1 => ?_⟩
  · exact main _ [] ou (by simp) (by rw [if_neg (by omega)]; rfl) (fun h => by omega) (fun _ => rfl) u57 u56 u58 u59 u60 fq zu
  · have p1 : p = 1 := by omega
    refine sp_sayGivens (d := d + 4) ho (by rw [fu _ _ (by omega)]; exact h05) u57 zu (fun M1 o1 h57 f1 => s384_33 ?_)
    have o01 := mout_tr ou o1
    rw [List.nil_append] at o01
    refine main M1 (tGvs Z) o01 hgl (by rw [if_pos p1]) (fun _ => rfl) (fun h => by omega) h57 (by rw [f1 _ _ (by decide) (by omega)]; exact u56) (by rw [f1 _ _ (by decide) (by omega)]; exact u58) (by rw [f1 _ _ (by decide) (by omega)]; exact u59) (by rw [f1 _ _ (by decide) (by omega)]; exact u60) (mfrq_tr fq (fun b j h1 h2 h3 => f1 b j h2 (by unfold msc at h1; omega))) (mz_frM zu (fun b j h1 h2 => f1 b j (by omega) (by omega)))
/-- long -/
def tLong : List Int := wls 1819242087
theorem sp_sayLong {M : fx_M} (K : ∀ M', (∀ b j, b ≠ 136 → ¬ (b = 133 ∧ j = 5) → M' b j = M b j) → mtq M' tLong → Q none M') : wc kc (d + 4) 390 [jR 133] M Q := by
  have e0 : (fx_up M 133 5 0) 133 5 = 0 := by rw [fx_up_self]
  have hO : m_ok (fx_up M 133 5 0) := by
    unfold m_ok
    rw [e0]
    omega
  have hl : tLong.length ≤ 6000 := by decide +kernel
  refine s390 (sp_sayWord (by unfold w_ok; omega) hO (s390_12 (K _ (fun b j h1 h2 => ?_) (mtq_mout e0 hl mout_app))))
  rw [m_app_ne h2 h1, fx_up_ne h2]
/-- prove -/
noncomputable def tProof (Z : PZ) : List Int := @ite _ (vFit Z 1) (Classical.propDecidable _) (tGvs Z ++ (vZ Z).2.2) tLong
theorem sp_sayProof (ho : pz_ok Z) {M : fx_M} (hz : mz M 0 Z) (h05 : M 133 5 = 0) (K : ∀ M', mfrq M M' → mtq M' (tProof Z) → Q none M') : wc kc (d + 10) 383 [jR 133] M Q := by
  unfold tProof at K
  refine s383 (sp_grow ho ⟨by omega, by omega⟩ hz h05 (fun hV M1 f1 o1 h57 _ _ _ _ => s383_5 ?_) (fun hV M1 f1 o1 h57 => s383_5 ?_))
  · rw [h57]
    refine ⟨⟨by omega, by omega⟩, fun _ => K M1 f1 ?_, fun h => absurd rfl h⟩
    rw [if_pos hV]
    rw [if_pos rfl] at o1
    have := hV.2 rfl
    exact mtq_mout h05 (by rw [List.length_append]; omega) o1
  · rw [h57]
    refine ⟨⟨by omega, by omega⟩, fun h => by omega, fun _ => sp_sayLong (d := d + 5) (fun M2 f2 t2 => s383_16 (K M2 (mfrq_tr f1 (fun b j _ h2 h3 => f2 b j h2 h3)) ?_))⟩
    rw [if_neg hV]
    exact t2
/-- grade -/
noncomputable def tGrade (Z : PZ) : List Int := @ite _ (vFit Z 0) (Classical.propDecidable _) (dgs ((gOn Z 37 (s_first Z)).2.1 : Nat) ++ (32 :: dgs ((vZ Z).1 : Nat)) ++ (32 :: dgs ((vZ Z).2.1 : Nat))) tLong
theorem gOn_cnt : ∀ (k : Nat) (S : Nat → Nat), (gOn Z k S).2.1 ≤ k
  | 0, S => Nat.le_refl _
  | k + 1, S => by
    rw [gOn]
    split
    · exact Nat.zero_le _
    · split
      · exact Nat.zero_le _
      · next r e y _ =>
        have := gOn_cnt k (s_wo S e.toNat y)
        show (gOn Z k (s_wo S e.toNat y)).2.1 + 1 ≤ k + 1
        omega
theorem dgs_len {v : Int} : (dgs v).length ≤ 9 := by
  have : ∀ k : Nat, (dgk v k).length = k + 1 := fun k => by
    induction k with
    | zero => rfl
    | succ k ih => simp [dgk, ih]
  unfold dgs
  rw [this]
  have := dgn_le v
  omega
theorem sp_sayGrade (ho : pz_ok Z) {M : fx_M} (hz : mz M 0 Z) (h05 : M 133 5 = 0) (K : ∀ M', mfrq M M' → mtq M' (tGrade Z) → Q none M') : wc kc (d + 10) 409 [jR 133] M Q := by
  unfold tGrade at K
  have hg := gOn_cnt (Z := Z) 37 (s_first Z)
  refine s409 (sp_grow ho ⟨by omega, by omega⟩ hz h05 (fun hV M1 f1 o1 h57 h58 h60 h609 h61 => s409_5 ?_) (fun hV M1 f1 o1 h57 => s409_5 ?_))
  · rw [if_neg (by decide)] at o1
    have e5 : M1 133 5 = 0 := by
      rw [o1.1]
      exact h05
    have hO : m_ok M1 := by
      unfold m_ok
      omega
    have hN := hV.1
    rw [h57, h61]
    refine ⟨⟨by omega, by omega⟩, fun _ => sp_sayNumber (d := d + 7) hO (by omega) (by omega) (s409_25 ?_), fun h => absurd rfl h⟩
    rw [m_app_ne (b := 133) (j := 58) (by omega) (by decide), h58]
    refine sp_sayMore (d := d + 6) (m_ok_app hO) (by omega) (by omega) (s409_33 ?_)
    rw [m_app_ne (b := 133) (j := 60) (by omega) (by decide), m_app_ne (b := 133) (j := 60) (by omega) (by decide), h60]
    refine sp_sayMore (d := d + 6) (m_ok_app (m_ok_app hO)) (by omega) (by omega) (s409_41 (K _ ?_ ?_))
    · rw [m_app_app, m_app_app]
      exact mfrq_tr f1 (mfrq_wr mwr_app)
    · rw [m_app_app, m_app_app, if_pos hV, ← List.append_assoc]
      have d1 := dgs_len (v := ((gOn Z 37 (s_first Z)).2.1 : Nat))
      have d2 := dgs_len (v := ((vZ Z).1 : Nat))
      have d3 := dgs_len (v := ((vZ Z).2.1 : Nat))
      exact mtq_mout e5 (by simp only [List.length_append, List.length_cons]; omega) mout_app
  · rw [h57]
    refine ⟨⟨by omega, by omega⟩, fun h => by omega, fun _ => sp_sayLong (d := d + 5) (fun M2 f2 t2 => s409_16 (K M2 (mfrq_tr f1 (fun b j _ h2 h3 => f2 b j h2 h3)) ?_))⟩
    rw [if_neg hV]
    exact t2
end MPF
