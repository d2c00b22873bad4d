/-! The reference's clash and least. -/
def gv (Z : PZ) (c : Nat) : Int := Z.2.2.2.2.getD c (-1)
def gdel (Z : PZ) (c : Nat) : PZ := z_give Z (c : Int) (-1)
theorem gv_give {Z : PZ} (hl : Z.2.2.2.2.length = 9) {c k : Nat} {s : Int} (hc : c < 9) : gv (z_give Z (c : Int) s) k = if k = c then s else gv Z k := by
  show (Z.2.2.2.2.set ((c : Int).toNat) s).getD k (-1) = _
  rw [Int.toNat_natCast, getD_set (by omega)]
  rfl
theorem pz_9 {Z : PZ} (ho : pz_ok Z) : Z.2.2.2.2.length = 9 := ho.2.2.2.2.2.2.2.2.1
theorem gdel_ok {Z : PZ} {c : Nat} (ho : pz_ok Z) (hc : (c : Int) < Z.1 * Z.2.1) : pz_ok (gdel Z c) := z_give_ok ho ⟨by omega, hc⟩ ⟨by omega, by have := ho.2.2.2.2.1; omega⟩
/-- how many givens -/
def cgv (Z : PZ) : Nat := ((List.range (Z.1 * Z.2.1).toNat).filter (fun c => decide (0 ≤ gv Z c))).length
def cgr (Z : PZ) (c t : Nat) : Nat := ((List.range' c t).filter (fun c => decide (0 ≤ gv Z c))).length
theorem cgr_0 {Z : PZ} {c : Nat} : cgr Z c 0 = 0 := rfl
theorem cgr_s {Z : PZ} {c t : Nat} : cgr Z c (t + 1) = (if gv Z c < 0 then 0 else 1) + cgr Z (c + 1) t := by
  unfold cgr
  rw [List.range'_succ, List.filter_cons]
  by_cases h : gv Z c < 0
  · rw [if_neg (by simp; omega), if_pos h]
    omega
  · rw [if_pos (by simp; omega), if_neg h, List.length_cons]
    omega
theorem cgr_le {Z : PZ} {c t : Nat} : cgr Z c t ≤ t := by
  unfold cgr
  refine Nat.le_trans (List.length_filter_le _ _) ?_
  rw [List.length_range']
  exact Nat.le_refl _
theorem cgv_r {Z : PZ} : cgv Z = cgr Z 0 (Z.1 * Z.2.1).toNat := by
  unfold cgv cgr
  rw [List.range_eq_range']
/-- written, but for what is left and for the givens -/
def mwg (M M' : fx_M) (cs : List Int) : Prop := ∀ b j, ¬ msc b j → ¬ (b = 154 ∧ 0 ≤ j ∧ j < 9) → M' b j = m_app M cs b j
theorem mwg_of {M N : fx_M} {cs : List Int} (h : mwr M N cs) : mwg M N cs := fun b j h1 _ => h b j h1
theorem mwg_up {M : fx_M} {k v : Int} (h : 0 ≤ k ∧ k < 9) : mwg M (fx_up M 154 k v) [] := fun b j _ h2 => fx_up_ne (by rintro ⟨rfl, rfl⟩; exact h2 ⟨rfl, h⟩)
theorem mwg_tr {M N O : fx_M} {cs ds : List Int} (h1 : mwg M N cs) (h2 : mwg N O ds) : mwg M O (cs ++ ds) := fun b j hb hg => by
  rw [h2 b j hb hg, ← m_app_app]
  have e := m_app_cg (cs := ds) (h1 133 5 msc_5 (by omega)) (fun j => h1 136 j msc_136 (by omega))
  by_cases h136 : b = 136
  · subst h136
    exact e.2 j
  · by_cases h5 : b = 133 ∧ j = 5
    · obtain ⟨rfl, rfl⟩ := h5
      exact e.1
    · rw [m_app_ne h5 h136, m_app_ne h5 h136]
      exact h1 b j hb hg
theorem mwg_0 {M N : fx_M} {cs : List Int} (h : mwg M N (cs ++ [])) : mwg M N cs := by
  rw [List.append_nil] at h
  exact h
theorem mwg_ok {M N : fx_M} {cs : List Int} (h : mwg M N cs) (ho : m_ok M) : m_ok N := by
  unfold m_ok
  rw [h 133 5 msc_5 (by omega)]
  exact m_ok_app ho
/-- clash, from cell c on -/
def clR : Nat → Nat → PZ → PZ
  | 0, _, Z => Z
  | t + 1, c, Z => clR t (c + 1) (if 0 ≤ gv Z c ∧ ans (gdel Z c) = [] then gdel Z c else Z)
def clT : Nat → Nat → PZ → List Int
  | 0, _, _ => []
  | t + 1, c, Z => if 0 ≤ gv Z c then (if ans (gdel Z c) = [] then clT t (c + 1) (gdel Z c) else (32 :: dgs (c : Int)) ++ clT t (c + 1) Z) else clT t (c + 1) Z
def tClash (Z : PZ) : List Int := if ans Z = [] then wls (wrd 17) ++ clT (Z.1 * Z.2.1).toNat 0 Z else wls 1852796517
theorem clR_sz : ∀ (t c : Nat) (Z : PZ), (clR t c Z).1 = Z.1 ∧ (clR t c Z).2.1 = Z.2.1 ∧ (clR t c Z).2.2.1 = Z.2.2.1
  | 0, _, _ => ⟨rfl, rfl, rfl⟩
  | t + 1, c, Z => by
    unfold clR
    have := clR_sz t (c + 1) (if 0 ≤ gv Z c ∧ ans (gdel Z c) = [] then gdel Z c else Z)
    refine ⟨this.1.trans ?_, this.2.1.trans ?_, this.2.2.trans ?_⟩ <;> split <;> rfl
theorem clR_ok : ∀ (t c : Nat) (Z : PZ), ((c + t : Nat) : Int) ≤ Z.1 * Z.2.1 → pz_ok Z → pz_ok (clR t c Z)
  | 0, _, _, _, h => h
  | t + 1, c, Z, hc, h => by
    unfold clR
    split
    · exact clR_ok t (c + 1) (gdel Z c) (by show ((c + 1 + t : Nat) : Int) ≤ Z.1 * Z.2.1; omega) (gdel_ok h (by omega))
    · exact clR_ok t (c + 1) Z (by omega) h
theorem clR_gv : ∀ (t c : Nat) (Z : PZ), ((c + t : Nat) : Int) ≤ Z.1 * Z.2.1 → pz_ok Z → ∀ k, k < c → gv (clR t c Z) k = gv Z k
  | 0, _, _, _, _ => fun _ _ => rfl
  | t + 1, c, Z, hc, h => fun k hk => by
    have h9 := pz_n h
    unfold clR
    split
    · rw [clR_gv t (c + 1) (gdel Z c) (by show ((c + 1 + t : Nat) : Int) ≤ Z.1 * Z.2.1; omega) (gdel_ok h (by omega)) k (by omega)]
      unfold gdel
      rw [gv_give (pz_9 h) (by omega), if_neg (by omega)]
    · exact clR_gv t (c + 1) Z (by omega) h k (by omega)
theorem clT_eq : ∀ (t c : Nat) (Z : PZ), ((c + t : Nat) : Int) ≤ Z.1 * Z.2.1 → pz_ok Z → (List.range' c t).flatMap (fun k : Nat => if 0 ≤ gv (clR t c Z) k then 32 :: dgs (k : Int) else []) = clT t c Z
  | 0, _, _, _, _ => rfl
  | t + 1, c, Z, hc, h => by
    have h9 := pz_n h
    rw [List.range'_succ, List.flatMap_cons]
    by_cases hg : 0 ≤ gv Z c
    · by_cases ha : ans (gdel Z c) = []
      · have e1 : clR (t + 1) c Z = clR t (c + 1) (gdel Z c) := by rw [clR, if_pos ⟨hg, ha⟩]
        have e2 : clT (t + 1) c Z = clT t (c + 1) (gdel Z c) := by rw [clT, if_pos hg, if_pos ha]
        have hok := gdel_ok h (show (c : Int) < Z.1 * Z.2.1 by omega)
        have hb : ((c + 1 + t : Nat) : Int) ≤ (gdel Z c).1 * (gdel Z c).2.1 := by show ((c + 1 + t : Nat) : Int) ≤ Z.1 * Z.2.1; omega
        have e3 : gv (gdel Z c) c = -1 := by
          unfold gdel
          rw [gv_give (pz_9 h) (by omega), if_pos rfl]
        rw [e1, e2, clT_eq t (c + 1) (gdel Z c) hb hok, clR_gv t (c + 1) (gdel Z c) hb hok c (by omega), e3, if_neg (by omega)]
        rfl
      · have e1 : clR (t + 1) c Z = clR t (c + 1) Z := by rw [clR, if_neg (fun x => ha x.2)]
        have e2 : clT (t + 1) c Z = (32 :: dgs (c : Int)) ++ clT t (c + 1) Z := by rw [clT, if_pos hg, if_neg ha]
        rw [e1, e2, clT_eq t (c + 1) Z (by omega) h, clR_gv t (c + 1) Z (by omega) h c (by omega), if_pos hg]
    · have e1 : clR (t + 1) c Z = clR t (c + 1) Z := by rw [clR, if_neg (fun x => hg x.1)]
      have e2 : clT (t + 1) c Z = clT t (c + 1) Z := by rw [clT, if_neg hg]
      rw [e1, e2, clT_eq t (c + 1) Z (by omega) h, clR_gv t (c + 1) Z (by omega) h c (by omega), if_neg hg]
      rfl
section MCL
variable {kc : List va_E} {d : Nat} {Q : Option fx_V → fx_M → Prop} {Z : PZ}
theorem mz_gv {M : fx_M} (hz : mz M 0 Z) {c : Nat} (hc : c < 9) : M 154 (c : Int) = gv Z c := by
  have := hz.2.2.2.2.2 c hc
  rw [show (9 * (0 : Int) + (c : Int)) = c by omega] at this
  exact this
theorem mz_giv {M : fx_M} (ho : pz_ok Z) (hz : mz M 0 Z) {c : Nat} {s : Int} (hc : c < 9) : mz (fx_up M 154 (c : Int) s) 0 (z_give Z (c : Int) s) := by
  have := mz_give (s := s) hz (pz_9 ho) (c := (c : Int)) ⟨by omega, by omega⟩
  rw [show (9 * (0 : Int) + (c : Int)) = c by omega] at this
  exact this
theorem gv_b (ho : pz_ok Z) {c : Nat} : -1 ≤ gv Z c ∧ gv Z c < 4 := by
  have := giv_bb ho c
  have h4 := ho.2.2.2.2.2.1
  unfold gv
  omega
theorem cg_loop (ho : pz_ok Z) {M : fx_M} (hz : mz M 0 Z) : ∀ (t c : Nat) (v : Nat), (c : Int) + t = Z.1 * Z.2.1 → v ≤ c → Q (some (jI ((v + cgr Z c t : Nat) : Int))) M → wp kc (d + 2) 280 4 [some (jR 133), some (jI v), some (jI c)] [] M Q := by
  have h9 := pz_n ho
  intro t
  induction t with
  | zero =>
    intro c v hc hv K
    refine s280_4 (s248 (s280_9 ?_))
    rw [hz.1, hz.2.1]
    exact ⟨⟨⟨by omega, by omega⟩, ⟨by omega, by omega⟩⟩, fun _ => K, fun h => by omega⟩
  | succ t ih =>
    intro c v hc hv K
    have hg := gv_b ho (c := c)
    refine s280_4 (s248 (s280_9 ?_))
    rw [hz.1, hz.2.1]
    refine ⟨⟨⟨by omega, by omega⟩, ⟨by omega, by omega⟩⟩, fun h => by omega, fun _ => s271 ⟨⟨by omega, by omega⟩, s280_18 ?_⟩⟩
    rw [mz_gv hz (by omega)]
    refine ⟨⟨by omega, by omega⟩, ?_⟩
    have e : ((v : Int) + (if gv Z c < 0 then (0 : Int) else 1)) = ((v + (if gv Z c < 0 then 0 else 1) : Nat) : Int) := by split <;> omega
    rw [e]
    have nx := ih (c + 1) (v + (if gv Z c < 0 then 0 else 1)) (by omega) (by split <;> omega) (by
      rw [cgr_s] at K
      rw [Nat.add_assoc]
      exact K)
    rw [show ((c + 1 : Nat) : Int) = (c : Int) + 1 by omega] at nx
    exact nx
theorem sp_countGivens (ho : pz_ok Z) {M : fx_M} (hz : mz M 0 Z) (K : Q (some (jI (cgv Z : Nat))) M) : wc kc (d + 2) 280 [jR 133] M Q := by
  have h9 := pz_n ho
  refine s280 (cg_loop ho hz (Z.1 * Z.2.1).toNat 0 0 (by omega) (by omega) ?_)
  rw [← cgv_r, Nat.zero_add]
  exact K
theorem cgv_le (ho : pz_ok Z) : cgv Z ≤ 9 := by
  have h9 := pz_n ho
  rw [cgv_r]
  have := cgr_le (Z := Z) (c := 0) (t := (Z.1 * Z.2.1).toNat)
  omega
theorem kg_loop {M0 : fx_M} (K : ∀ M', (∀ c : Nat, c < 9 → M' 167 (c : Int) = M0 154 (c : Int)) → (∀ b j, b ≠ 167 → M' b j = M0 b j) → Q none M') : ∀ (t c : Nat) (M : fx_M), c + t = 9 → (∀ k : Nat, k < c → M 167 (k : Int) = M0 154 (k : Int)) → (∀ b j, b ≠ 167 → M b j = M0 b j) → wp kc (d + 1) 282 2 [some (jR 133), some (jI c)] [] M Q := by
  intro t
  induction t with
  | zero =>
    intro c M hc h1 h2
    exact s282_2 ⟨⟨by omega, by omega⟩, fun _ => K M (fun k hk => h1 k (by omega)) h2, fun h => by omega⟩
  | succ t ih =>
    intro c M hc h1 h2
    refine s282_2 ⟨⟨by omega, by omega⟩, fun h => by omega, fun _ => ⟨⟨by omega, by omega⟩, ⟨by omega, by omega⟩, ?_⟩⟩
    have nx := ih (c + 1) (fx_up M 167 (c : Int) (M 154 (c : Int))) (by omega) (fun k hk => by
      by_cases e : k = c
      · subst e
        rw [fx_up_self, h2 _ _ (by decide)]
      · rw [fx_up_nk (by omega)]
        exact h1 k (by omega)) (fun b j hb => by rw [fx_up_na hb]; exact h2 b j hb)
    rw [show ((c + 1 : Nat) : Int) = (c : Int) + 1 by omega] at nx
    exact nx
theorem sp_keepGivens {M : fx_M} (K : ∀ M', (∀ c : Nat, c < 9 → M' 167 (c : Int) = M 154 (c : Int)) → (∀ b j, b ≠ 167 → M' b j = M b j) → Q none M') : wc kc (d + 1) 282 [jR 133] M Q :=
  s282 (kg_loop K 9 0 M (by omega) (fun k h => by omega) (fun _ _ _ => rfl))
theorem tg_loop {M0 : fx_M} (K : ∀ M', (∀ c : Nat, c < 9 → M' 154 (c : Int) = M0 167 (c : Int)) → (∀ b j, ¬ (b = 154 ∧ 0 ≤ j ∧ j < 9) → M' b j = M0 b j) → Q none M') : ∀ (t c : Nat) (M : fx_M), c + t = 9 → (∀ k : Nat, k < c → M 154 (k : Int) = M0 167 (k : Int)) → (∀ b j, ¬ (b = 154 ∧ 0 ≤ j ∧ j < 9) → M b j = M0 b j) → wp kc (d + 1) 283 2 [some (jR 133), some (jI c)] [] M Q := by
  intro t
  induction t with
  | zero =>
    intro c M hc h1 h2
    exact s283_2 ⟨⟨by omega, by omega⟩, fun _ => K M (fun k hk => h1 k (by omega)) h2, fun h => by omega⟩
  | succ t ih =>
    intro c M hc h1 h2
    refine s283_2 ⟨⟨by omega, by omega⟩, fun h => by omega, fun _ => ⟨⟨by omega, by omega⟩, ⟨by omega, by omega⟩, ?_⟩⟩
    have nx := ih (c + 1) (fx_up M 154 (c : Int) (M 167 (c : Int))) (by omega) (fun k hk => by
      by_cases e : k = c
      · subst e
        rw [fx_up_self, h2 _ _ (by omega)]
      · rw [fx_up_nk (by omega)]
        exact h1 k (by omega)) (fun b j hb => by rw [fx_up_ne (by omega)]; exact h2 b j hb)
    rw [show ((c + 1 : Nat) : Int) = (c : Int) + 1 by omega] at nx
    exact nx
theorem sp_takeGivens {M : fx_M} (K : ∀ M', (∀ c : Nat, c < 9 → M' 154 (c : Int) = M 167 (c : Int)) → (∀ b j, ¬ (b = 154 ∧ 0 ≤ j ∧ j < 9) → M' b j = M b j) → Q none M') : wc kc (d + 1) 283 [jR 133] M Q :=
  s283 (tg_loop K 9 0 M (by omega) (fun k h => by omega) (fun _ _ _ => rfl))
/-- the same givens elsewhere: the same puzzle -/
theorem mz_again {M N : fx_M} {Z2 : PZ} (h : mz M 0 Z2) (e1 : Z2.1 = Z.1) (e2 : Z2.2.1 = Z.2.1) (e3 : Z2.2.2.1 = Z.2.2.1) (e4 : Z2.2.2.2.1 = Z.2.2.2.1) (hg : ∀ c : Nat, c < 9 → N 154 (c : Int) = gv Z c) (hf : ∀ b j, 137 ≤ b → b ≤ 153 → N b j = M b j) : mz N 0 Z := by
  obtain ⟨h1, h2, h3, h4, h5, h6⟩ := h
  unfold mz
  rw [hf 146 _ (by decide) (by decide), hf 147 _ (by decide) (by decide), hf 148 _ (by decide) (by decide), hf 149 _ (by decide) (by decide), ← e1, ← e2, ← e3, ← e4]
  refine ⟨h1, h2, h3, h4, fun r R hR => ?_, fun c hc => ?_⟩
  · rw [hf 150 _ (by decide) (by decide), hf 151 _ (by decide) (by decide), hf 152 _ (by decide) (by decide)]
    obtain ⟨a, b, c, e⟩ := h5 r R hR
    exact ⟨a, b, c, fun i x hx => by rw [hf 153 _ (by decide) (by decide)]; exact e i x hx⟩
  · rw [show (9 * (0 : Int) + (c : Int)) = c by omega]
    exact hg c hc
end MCL
