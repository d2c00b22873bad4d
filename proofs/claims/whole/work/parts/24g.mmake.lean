/-! The reference's make. -/
def dws (s : Int) : Int := s * 6364136223846793005 + 1442695040888963407
def dwv (s k : Int) : Int := fx_lushr (dws s) 33 % k
def swp (r : Int → Int) (i j : Int) : Int → Int := fun k => if k = j then r i else if k = i then r j else r k
/-- the row that is drawn -/
def shf : Nat → Int → (Int → Int) → Int × (Int → Int)
  | 0, s, r => (s, r)
  | i + 1, s, r => shf i (dws s) (swp r ((i : Int) + 1) (dwv s ((i : Int) + 2)))
/-- no givens -/
def zfre (Z : PZ) : PZ := (Z.1, Z.2.1, Z.2.2.1, Z.2.2.2.1, List.replicate 9 (-1))
/-- a filling as givens -/
def zfil (Z : PZ) (x : List Int) : PZ := (Z.1, Z.2.1, Z.2.2.1, Z.2.2.2.1, x ++ List.replicate (9 - x.length) (-1))
def othC (k n c : Int) : Int := if k = 1 then n - 1 - c else c
def mkS (k n : Int) (Z : PZ) (c : Int) : PZ := if 0 ≤ gv Z c.toNat ∧ (ans (gdel (gdel Z c.toNat) (othC k n c).toNat)).length < 2 then gdel (gdel Z c.toNat) (othC k n c).toNat else Z
def mkR (k n : Int) (r : Int → Int) : Nat → Nat → PZ → PZ
  | 0, _, Z => Z
  | t + 1, i, Z => mkR k n r t (i + 1) (mkS k n Z (r i))
/-- what make leaves -/
def zMk (Z : PZ) (seed k : Int) : PZ := mkR k (Z.1 * Z.2.1) (shf ((Z.1 * Z.2.1).toNat - 1) (dws seed) (fun i => i)).2 (Z.1 * Z.2.1).toNat 0 (zfil Z ((ans (zfre Z)).getD (dwv seed (ans (zfre Z)).length).toNat []))
def tMade (Z : PZ) (seed k : Int) : List Int := wls 1835099237 ++ 32 :: dgs (cgv (zMk Z seed k) : Nat)
theorem lushr_b {v : Int} : 0 ≤ fx_lushr v 33 ∧ fx_lushr v 33 ≤ 9223372036854775807 := by
  have h1 := in64_lushr v 33
  have h2 := congrArg BitVec.toNat (lb_lushr v (s := 33) ⟨by omega, by omega⟩)
  rw [BitVec.toNat_ushiftRight] at h2
  unfold lb at h2
  rw [BitVec.toNat_ofInt, Nat.shiftRight_eq_div_pow] at h2
  have h3 : (BitVec.ofInt 64 v).toNat < 2 ^ 64 := BitVec.isLt _
  unfold fx_in64 at h1
  simp only [Nat.reducePow] at h2 h3
  have h4 : ((33 : Int).toNat) = 33 := rfl
  rw [h4] at h2
  simp only [Nat.reducePow] at h2
  omega
theorem dwv_b {s k : Int} (hk : 0 < k) : 0 ≤ dwv s k ∧ dwv s k < k := ⟨Int.emod_nonneg _ (by omega), Int.emod_lt_of_pos _ hk⟩
theorem swp_in {r : Int → Int} {i j n : Int} (h : ∀ k, 0 ≤ k → k < n → 0 ≤ r k ∧ r k < n) (hi : 0 ≤ i ∧ i < n) (hj : 0 ≤ j ∧ j < n) : ∀ k, 0 ≤ k → k < n → 0 ≤ swp r i j k ∧ swp r i j k < n := fun k h1 h2 => by
  unfold swp
  split
  · exact h i hi.1 hi.2
  · split
    · exact h j hj.1 hj.2
    · exact h k h1 h2
theorem shf_in {n : Int} : ∀ (i : Nat) (s : Int) (r : Int → Int), ((i + 1 : Nat) : Int) ≤ n → (∀ k, 0 ≤ k → k < n → 0 ≤ r k ∧ r k < n) → ∀ k, 0 ≤ k → k < n → 0 ≤ (shf i s r).2 k ∧ (shf i s r).2 k < n
  | 0, _, _, _, h => h
  | i + 1, s, r, hn, h => by
    have := dwv_b (s := s) (k := (i : Int) + 2) (by omega)
    exact shf_in i _ _ (by omega) (swp_in h ⟨by omega, by omega⟩ ⟨by omega, by omega⟩)
theorem zfre_ok {Z : PZ} (h : pz_ok Z) : pz_ok (zfre Z) := by
  obtain ⟨h1, h2, h3, h4, h5, h6, h7, h8, h9, h10, h11⟩ := h
  refine ⟨h1, h2, h3, h4, h5, h6, h7, h8, by simp [zfre], fun x hx => ?_, fun k hk => ?_⟩
  · have := List.eq_of_mem_replicate hx
    show -1 ≤ x ∧ x < Z.2.2.1
    omega
  · show (List.replicate 9 (-1 : Int)).getD k (-1) = -1
    rw [List.getD_eq_getElem?_getD, List.getElem?_replicate]
    split <;> rfl
theorem zfil_gv {Z : PZ} {x : List Int} (hx : x.length ≤ 9) (c : Nat) : gv (zfil Z x) c = if c < x.length then x.getD c 0 else -1 := by
  show (x ++ List.replicate (9 - x.length) (-1)).getD c (-1) = _
  rw [List.getD_eq_getElem?_getD]
  split
  · next h => rw [List.getElem?_append_left h, List.getD_eq_getElem?_getD, List.getElem?_eq_getElem h]; rfl
  · next h =>
    rw [List.getElem?_append_right (by omega), List.getElem?_replicate]
    split <;> rfl
theorem zfil_ok {Z : PZ} (h : pz_ok Z) {x : List Int} (hx : x ∈ ans (zfre Z)) : pz_ok (zfil Z x) := by
  have hn := pz_n h
  obtain ⟨hl, hv⟩ := ans_len hx
  have hok := okx_iff.mp (mem_sbx.mp hx).2
  have hl : x.length = (Z.1 * Z.2.1).toNat := hl
  have hg := zfil_gv (Z := Z) (x := x) (by omega)
  obtain ⟨h1, h2, h3, h4, h5, h6, h7, h8, h9, h10, h11⟩ := h
  refine ⟨h1, h2, h3, h4, h5, h6, h7, h8, ?_, fun s hs => ?_, fun k hk => ?_⟩
  · show (x ++ List.replicate (9 - x.length) (-1)).length = 9
    simp
    omega
  · show -1 ≤ s ∧ s < Z.2.2.1
    rcases List.mem_append.mp hs with hs | hs
    · obtain ⟨i, hi, rfl⟩ := mem_getD hs
      have a1 := hok.1 i hi
      have a2 := hv _ (getD_mem hi)
      exact ⟨by omega, a1.1⟩
    · have := List.eq_of_mem_replicate hs
      omega
  · have hk : Z.1 * Z.2.1 ≤ (k : Int) := hk
    have := hg k
    rw [if_neg (by omega)] at this
    exact this
theorem othC_b {k n c : Int} (hc : 0 ≤ c ∧ c < n) : 0 ≤ othC k n c ∧ othC k n c < n := by
  unfold othC
  split <;> omega
theorem mkS_sz {k n : Int} {Z : PZ} {c : Int} : (mkS k n Z c).1 = Z.1 ∧ (mkS k n Z c).2.1 = Z.2.1 := by
  unfold mkS
  split <;> exact ⟨rfl, rfl⟩
theorem mkS_ok {k : Int} {Z : PZ} {c : Int} (ho : pz_ok Z) (hc : 0 ≤ c ∧ c < Z.1 * Z.2.1) : pz_ok (mkS k (Z.1 * Z.2.1) Z c) := by
  unfold mkS
  split
  · refine gdel_ok (gdel_ok ho (show ((c.toNat : Nat) : Int) < Z.1 * Z.2.1 by omega)) ?_
    show (((othC k (Z.1 * Z.2.1) c).toNat : Nat) : Int) < Z.1 * Z.2.1
    have := othC_b (k := k) hc
    omega
  · exact ho
section MMK
variable {kc : List va_E} {d : Nat} {Q : Option fx_V → fx_M → Prop} {Z : PZ}
theorem sp_draw {M : fx_M} {k : Int} (hk : 0 < k ∧ k ≤ 1000000) (K : Q (some (jI (dwv (M 133 71) k))) (fx_up M 133 71 (dws (M 133 71)))) : wc kc (d + 1) 284 [jR 133, jI k] M Q :=
  s284 ⟨⟨by omega, by omega⟩, ⟨lushr_b, ⟨by omega, by omega⟩⟩, K⟩
/-- all givens away -/
theorem mk_clear {v1 v2 : Int} {M0 : fx_M} (K : ∀ M', (∀ c : Nat, c < 9 → M' 154 (c : Int) = -1) → (∀ b j, ¬ (b = 154 ∧ 0 ≤ j ∧ j < 9) → M' b j = M0 b j) → wc kc (d + 7) 268 [jR 133, jI 1000000] M' (fun v M1 => wp kc (d + 8) 281 45 [some (jR 133), some (jI v1), some (jI v2), none, none, none, none, none, none, none] (v.toList ++ []) M1 Q)) : ∀ (t c : Nat) (M : fx_M), c + t = 9 → (∀ k : Nat, k < c → M 154 (k : Int) = -1) → (∀ b j, ¬ (b = 154 ∧ 0 ≤ j ∧ j < 9) → M b j = M0 b j) → wp kc (d + 8) 281 19 [some (jR 133), some (jI v1), some (jI v2), some (jI c), none, none, none, none, none, none] [] M Q := by
  intro t
  induction t with
  | zero =>
    intro c M hc h1 h2
    exact s281_19 ⟨⟨by omega, by omega⟩, fun _ => K M (fun k hk => h1 k (by omega)) h2, fun h => by omega⟩
  | succ t ih =>
    intro c M hc h1 h2
    refine s281_19 ⟨⟨by omega, by omega⟩, fun h => by omega, fun _ => ⟨⟨by omega, by omega⟩, ?_⟩⟩
    have nx := ih (c + 1) (fx_up M 154 (c : Int) (-1)) (by omega) (fun k hk => by
      by_cases e : k = c
      · subst e
        rw [fx_up_self]
      · rw [fx_up_nk (by omega)]
        exact h1 k (by omega)) (fun b j hb => by rw [fx_up_ne (by omega)]; exact h2 b j hb)
    rw [show ((c + 1 : Nat) : Int) = (c : Int) + 1 by omega] at nx
    exact nx
/-- the answer of that number -/
theorem mk_pick (ho : pz_ok Z) {v2 : Int} {M0 : fx_M} {n : Nat} (hn : n < 1000000) (hn2 : n < (ans Z).length) (K : ∀ M' x, (ans Z)[n]? = some x → f159 M0 M' → syA M' x → wp kc (d + 8) 281 106 [some (jR 133), none, some (jI v2), none, none, some (jI 0), none, none, none, none] [] M' Q) : ∀ (t i : Nat) (M : fx_M) (x : List Int), i + t = n → f159 M0 M → msr M Z → (ans Z)[i]? = some x → syA M x → wp kc (d + 8) 281 84 [some (jR 133), none, some (jI v2), none, some (jI n), some (jI i), none, none, none, none] [] M Q := by
  intro t
  induction t with
  | zero =>
    intro i M x hi hq hm hx hs
    refine s281_84 ⟨⟨⟨by omega, by omega⟩, ⟨by omega, by omega⟩⟩, fun _ => K M x ?_ hq hs, fun h => by omega⟩
    rw [show n = i by omega]
    exact hx
  | succ t ih =>
    intro i M x hi hq hm hx hs
    refine s281_84 ⟨⟨⟨by omega, by omega⟩, ⟨by omega, by omega⟩⟩, fun h => by omega, fun _ => ?_⟩
    refine sp_seek0 ho hm hx hs (fun M' a ha hf hm' hs' => s281_96 ?_) (fun hn3 M' hf hm' => by omega)
    have nx := ih (i + 1) M' a (by omega) (f159_tr hq hf) hm' ha hs'
    rw [show ((i + 1 : Nat) : Int) = (i : Int) + 1 by omega] at nx
    exact nx
/-- its symbols as givens -/
theorem mk_set {v2 : Int} {M0 : fx_M} {x : List Int} (h9 : x.length ≤ 9) (hl : M0 146 0 * M0 147 0 = x.length) (hs : syA M0 x) (K : ∀ M', (∀ c : Nat, c < x.length → M' 154 (c : Int) = x.getD c 0) → (∀ (b : Nat) (j : Int), ¬ (b = 154 ∧ 0 ≤ j ∧ j < x.length) → M' b j = M0 b j) → wc kc (d + 7) 285 [jR 133] M' (fun v M1 => wp kc (d + 8) 281 139 [some (jR 133), none, some (jI v2), none, none, none, none, none, none, none] (v.toList ++ []) M1 Q)) : ∀ (t c : Nat) (M : fx_M), c + t = x.length → (∀ k : Nat, k < c → M 154 (k : Int) = x.getD k 0) → (∀ (b : Nat) (j : Int), ¬ (b = 154 ∧ 0 ≤ j ∧ j < x.length) → M b j = M0 b j) → wp kc (d + 8) 281 106 [some (jR 133), none, some (jI v2), none, none, some (jI c), none, none, none, none] [] M Q := by
  intro t
  induction t with
  | zero =>
    intro c M hc h1 h2
    refine s281_106 (s248 (s281_112 ?_))
    rw [h2 146 _ (by omega), h2 147 _ (by omega), hl]
    exact ⟨⟨⟨by omega, by omega⟩, ⟨by omega, by omega⟩⟩, fun _ => K M (fun k hk => h1 k (by omega)) h2, fun h => by omega⟩
  | succ t ih =>
    intro c M hc h1 h2
    refine s281_106 (s248 (s281_112 ?_))
    rw [h2 146 _ (by omega), h2 147 _ (by omega), hl]
    refine ⟨⟨⟨by omega, by omega⟩, ⟨by omega, by omega⟩⟩, fun h => by omega, fun _ => ⟨⟨by omega, by omega⟩, ⟨by omega, by omega⟩, ?_⟩⟩
    have e : M 155 (c : Int) = x.getD c 0 := by rw [h2 155 _ (by omega)]; exact hs c (by omega)
    rw [e]
    have nx := ih (c + 1) (fx_up M 154 (c : Int) (x.getD c 0)) (by omega) (fun k hk => by
      by_cases e : k = c
      · subst e
        rw [fx_up_self]
      · rw [fx_up_nk (by omega)]
        exact h1 k (by omega)) (fun b j hb => by rw [fx_up_ne (by omega)]; exact h2 b j hb)
    rw [show ((c + 1 : Nat) : Int) = (c : Int) + 1 by omega] at nx
    exact nx
/-- what shuffle may change -/
def f168 (M N : fx_M) : Prop := ∀ b j, b ≠ 168 → ¬ (b = 133 ∧ j = 71) → N b j = M b j
theorem sh_id {M0 : fx_M} {n : Nat} (h9 : n ≤ 9) (hl : M0 146 0 * M0 147 0 = n) (K : ∀ M', (∀ i : Nat, i < n → M' 168 (i : Int) = (i : Int)) → (∀ b j, b ≠ 168 → M' b j = M0 b j) → wp kc (d + 2) 285 30 [some (jR 133), some (jI ((n : Int) - 1)), none, none] [] M' Q) : ∀ (t i : Nat) (M : fx_M), i + t = n → (∀ k : Nat, k < i → M 168 (k : Int) = (k : Int)) → (∀ b j, b ≠ 168 → M b j = M0 b j) → wp kc (d + 2) 285 2 [some (jR 133), some (jI i), none, none] [] M Q := by
  intro t
  induction t with
  | zero =>
    intro i M hi h1 h2
    refine s285_2 (s248 (s285_7 ?_))
    rw [h2 146 _ (by decide), h2 147 _ (by decide), hl]
    refine ⟨⟨⟨by omega, by omega⟩, ⟨by omega, by omega⟩⟩, fun _ => s248 (s285_27 ?_), fun h => by omega⟩
    rw [h2 146 _ (by decide), h2 147 _ (by decide), hl]
    exact K M (fun k hk => h1 k (by omega)) h2
  | succ t ih =>
    intro i M hi h1 h2
    refine s285_2 (s248 (s285_7 ?_))
    rw [h2 146 _ (by decide), h2 147 _ (by decide), hl]
    refine ⟨⟨⟨by omega, by omega⟩, ⟨by omega, by omega⟩⟩, fun h => by omega, fun _ => ⟨⟨by omega, by omega⟩, ?_⟩⟩
    have nx := ih (i + 1) (fx_up M 168 (i : Int) (i : Int)) (by omega) (fun k hk => by
      by_cases e : k = i
      · subst e
        rw [fx_up_self]
      · rw [fx_up_nk (by omega)]
        exact h1 k (by omega)) (fun b j hb => by rw [fx_up_na hb]; exact h2 b j hb)
    rw [show ((i + 1 : Nat) : Int) = (i : Int) + 1 by omega] at nx
    exact nx
theorem sh_loop {M0 : fx_M} {n : Int} (h9 : n ≤ 9) : ∀ (i : Nat) (M : fx_M) (s : Int) (r : Int → Int), ((i + 1 : Nat) : Int) ≤ n → M 133 71 = s → (∀ k, 0 ≤ k → k < n → M 168 k = r k) → f168 M0 M → (∀ M', (∀ k, 0 ≤ k → k < n → M' 168 k = (shf i s r).2 k) → f168 M0 M' → Q none M') → wp kc (d + 2) 285 30 [some (jR 133), some (jI i), none, none] [] M Q := by
  intro i
  induction i with
  | zero =>
    intro M s r hi hs hr hf K
    exact s285_30 ⟨⟨by omega, by omega⟩, fun _ => K M hr hf, fun h => by omega⟩
  | succ i ih =>
    intro M s r hi hs hr hf K
    have hb := dwv_b (s := s) (k := (i : Int) + 2) (by omega)
    refine s285_30 ⟨⟨by omega, by omega⟩, fun h => by omega, fun _ => sp_draw ⟨by omega, by omega⟩ (s285_41 ?_)⟩
    rw [hs, show ((i + 1 : Nat) : Int) + 1 = (i : Int) + 2 by omega]
    refine ⟨⟨by omega, by omega⟩, ⟨by omega, by omega⟩, ⟨by omega, by omega⟩, ⟨by omega, by omega⟩, ?_⟩
    rw [fx_up_na (a := 133) (b := 168) (by decide), fx_up_na (a := 133) (b := 168) (by decide)]
    have nx := ih (fx_up (fx_up (fx_up M 133 71 (dws s)) 168 ((i + 1 : Nat) : Int) (M 168 (dwv s ((i : Int) + 2)))) 168 (dwv s ((i : Int) + 2)) (M 168 ((i + 1 : Nat) : Int))) (dws s) (swp r ((i : Int) + 1) (dwv s ((i : Int) + 2))) (by omega) (by rw [fx_up_na (by decide), fx_up_na (by decide), fx_up_self]) (fun k h1 h2 => by
      unfold swp
      by_cases e1 : k = dwv s ((i : Int) + 2)
      · rw [if_pos e1, e1, fx_up_self, hr _ (by omega) (by omega)]
        congr 1
      · rw [if_neg e1, fx_up_nk e1]
        by_cases e2 : k = (i : Int) + 1
        · rw [if_pos e2, show ((i + 1 : Nat) : Int) = k by omega, fx_up_self, hr _ (by omega) (by omega)]
        · rw [if_neg e2, fx_up_nk (by omega), fx_up_na (by decide)]
          exact hr k h1 h2) (fun b j h1 h2 => by
      rw [fx_up_na h1, fx_up_na h1, fx_up_ne h2]
      exact hf b j h1 h2) (fun M' k1 k2 => K M' k1 k2)
    rw [show ((i + 1 : Nat) : Int) + (-1) = (i : Int) by omega]
    exact nx
theorem sp_shuffle {M : fx_M} {n : Nat} (h9 : 1 ≤ n ∧ n ≤ 9) (hl : M 146 0 * M 147 0 = n) (K : ∀ M', (∀ k : Int, 0 ≤ k → k < n → M' 168 k = (shf (n - 1) (M 133 71) (fun i => i)).2 k) → f168 M M' → Q none M') : wc kc (d + 2) 285 [jR 133] M Q := by
  refine s285 (sh_id h9.2 hl (fun M1 h1 h2 => ?_) n 0 M (by omega) (fun k h => by omega) (fun _ _ _ => rfl))
  have nx := sh_loop (kc := kc) (d := d) (Q := Q) (M0 := M) (n := (n : Int)) (by omega) (n - 1) M1 (M 133 71) (fun i => i) (by omega) (h2 _ _ (by decide)) (fun k a1 a2 => by
    have := h1 k.toNat (by omega)
    rw [show ((k.toNat : Nat) : Int) = k by omega] at this
    exact this) (fun b j a1 a2 => h2 b j a1) K
  rw [show ((n - 1 : Nat) : Int) = (n : Int) - 1 by omega] at nx
  exact nx
end MMK
