/-! THE REFERENCE'S WRITING: words as longs, digits. -/
def m_put (M : fx_M) (c : Int) : fx_M := if M 133 5 = 6000 then M else fx_up (fx_up M 136 (M 133 5) c) 133 5 (M 133 5 + 1)
def m_app (M : fx_M) : List Int → fx_M
  | [] => M
  | c :: cs => m_app (m_put M c) cs
def m_ok (M : fx_M) : Prop := 0 ≤ M 133 5 ∧ M 133 5 ≤ 6000
theorem m_ok_put {M : fx_M} {c : Int} (h : m_ok M) : m_ok (m_put M c) := by
  unfold m_ok m_put at *
  split
  · exact h
  · rw [fx_up_self]
    omega
theorem m_ok_app : ∀ {cs : List Int} {M : fx_M}, m_ok M → m_ok (m_app M cs)
  | [], _, h => h
  | c :: cs, _, h => m_ok_app (cs := cs) (m_ok_put h)
theorem m_app_app : ∀ {cs ds : List Int} {M : fx_M}, m_app (m_app M cs) ds = m_app M (cs ++ ds)
  | [], _, _ => rfl
  | c :: cs, ds, M => m_app_app (cs := cs) (ds := ds) (M := m_put M c)
/-- the number of bytes of a word -/
def lnb : Nat → Int → Nat
  | 0, _ => 0
  | f + 1, w => if w = 0 then 0 else lnb f (w / 256) + 1
def wln (w : Int) : Nat := lnb 8 w
/-- letter i of a word -/
def wlt (w i : Int) : Int := w / ((2 ^ (8 * ((wln w : Int) - 1 - i)).toNat : Nat) : Int) % 256
/-- the letters of a word -/
def wls (w : Int) : List Int := (List.range (wln w)).map fun (i : Nat) => wlt w (i : Int)
theorem lnb_le : ∀ (f : Nat) (w : Int), lnb f w ≤ f
  | 0, _ => Nat.le_refl _
  | f + 1, w => by
    unfold lnb
    have := lnb_le f (w / 256)
    split <;> omega
section SAY
variable {kc : List va_E} {d : Nat} {M : fx_M} {Q : Option fx_V → fx_M → Prop}
theorem sp_sayByte {c : Int} (ho : m_ok M) (K : Q none (m_put M c)) : wc kc (d + 1) 254 [jR 133, jI c] M Q := by
  unfold m_ok at ho
  unfold m_put at K
  refine s254 ⟨⟨by omega, by omega⟩, fun h => ⟨⟨by omega, by omega⟩, ?_⟩, fun h => ?_⟩
  · rw [if_neg h] at K
    exact K
  · rw [if_pos h] at K
    exact K
theorem len_loop : ∀ (f : Nat) (v w : Int), 0 ≤ w → w < ((256 ^ f : Nat) : Int) → w ≤ 9223372036854775807 → Q (some (jI (v + lnb f w))) M → wp kc (d + 1) 223 4 [none, none, some (jI v), some (jL w), none] [] M Q
  | 0, v, w, h0, h1, h2, K => by
    have : w = 0 := by
      have : ((256 ^ 0 : Nat) : Int) = 1 := rfl
      omega
    subst this
    have K : Q (some (jI (v + 0))) M := K
    rw [Int.add_zero] at K
    exact s223_4 ⟨⟨by omega, by omega⟩, fun _ => K, fun h => absurd rfl h⟩
  | f + 1, v, w, h0, h1, h2, K => by
    have K : Q (some (jI (v + ((if w = 0 then 0 else lnb f (w / 256) + 1 : Nat) : Int)))) M := K
    by_cases hw : w = 0
    · subst hw
      rw [if_pos rfl] at K
      have K : Q (some (jI (v + 0))) M := K
      rw [Int.add_zero] at K
      exact s223_4 ⟨⟨by omega, by omega⟩, fun _ => K, fun h => absurd rfl h⟩
    · rw [if_neg hw] at K
      have e : fx_lshr w 8 = w / 256 := fx_lshr_eq ⟨by omega, by omega⟩ ⟨by omega, by omega⟩
      have hc : fx_cmp w 0 ≠ 0 := by
        unfold fx_cmp
        rw [if_pos (by omega)]
        decide
      refine s223_4 ⟨⟨by omega, by omega⟩, fun h => absurd h hc, fun _ => ?_⟩
      rw [e]
      refine len_loop f (v + 1) (w / 256) (by omega) ?_ (by omega) ?_
      · have : ((256 ^ (f + 1) : Nat) : Int) = ((256 ^ f : Nat) : Int) * 256 := by
          rw [Nat.pow_succ]
          omega
        omega
      · have e2 : v + ((lnb f (w / 256) + 1 : Nat) : Int) = v + 1 + (lnb f (w / 256) : Nat) := by omega
        rw [e2] at K
        exact K
/-- a word of bytes -/
def w_ok (w : Int) : Prop := 0 ≤ w ∧ w ≤ 9223372036854775807
theorem sp_lengthOf {w : Int} (hw : w_ok w) (K : Q (some (jI (wln w))) M) : wc kc (d + 1) 223 [jL w] M Q := by
  have h8 : ((256 ^ 8 : Nat) : Int) = 18446744073709551616 := by decide
  unfold w_ok at hw
  refine s223 (len_loop 8 0 w hw.1 (by omega) hw.2 ?_)
  rw [Int.zero_add]
  exact K
theorem sp_letterOf {w i : Int} (hw : w_ok w) (hi : 0 ≤ i ∧ i < wln w) (K : Q (some (jI (wlt w i))) M) : wc kc (d + 2) 224 [jL w, jI i] M Q := by
  refine s224 (sp_lengthOf hw (s224_7 ?_))
  have hl := lnb_le 8 w
  have hl2 : wln w ≤ 8 := hl
  unfold w_ok at hw
  rw [fx_lshr_eq ⟨by omega, by omega⟩ ⟨by omega, by omega⟩, fx_land_255]
  exact K
theorem wls_drop {w : Int} {j : Nat} (h : j < wln w) : (wls w).drop j = wlt w j :: (wls w).drop (j + 1) := by
  have hl : j < (wls w).length := by
    unfold wls
    simpa using h
  rw [List.drop_eq_getElem_cons hl]
  congr 1
  simp [wls]
theorem word_loop {w : Int} (hw : w_ok w) : ∀ (k j : Nat) (M : fx_M), j + k = wln w → m_ok M → Q none (m_app M ((wls w).drop j)) → wp kc (d + 3) 253 2 [some (jR 133), some (jL w), none, some (jI j)] [] M Q
  | 0, j, M, hj, ho, K => by
    have hl2 : wln w ≤ 8 := lnb_le 8 w
    refine s253_2 (sp_lengthOf hw (s253_7 ⟨⟨⟨by omega, by omega⟩, ⟨by omega, by omega⟩⟩, fun _ => ?_, fun h => by omega⟩))
    have e : (wls w).drop j = [] := by
      apply List.drop_eq_nil_of_le
      unfold wls
      simp
      omega
    rw [e] at K
    exact K
  | k + 1, j, M, hj, ho, K => by
    have hl2 : wln w ≤ 8 := lnb_le 8 w
    refine s253_2 (sp_lengthOf hw (s253_7 ⟨⟨⟨by omega, by omega⟩, ⟨by omega, by omega⟩⟩, fun h => by omega, fun _ => sp_letterOf hw ⟨by omega, by omega⟩ (s253_16 (sp_sayByte ho (s253_19 ?_)))⟩))
    rw [wls_drop (by omega)] at K
    have ih := word_loop hw k (j + 1) (m_put M (wlt w j)) (by omega) (m_ok_put ho) K
    have e1 : ((j + 1 : Nat) : Int) = (j : Int) + 1 := by omega
    rw [e1] at ih
    exact ih
theorem sp_sayWord {w : Int} (hw : w_ok w) (ho : m_ok M) (K : Q none (m_app M (wls w))) : wc kc (d + 3) 253 [jR 133, jL w] M Q :=
  s253 (word_loop hw (wln w) 0 M (by omega) ho K)
theorem say_fst {v : Int} (h0 : 0 ≤ v) (h1 : v < 1000000000) : ∀ (k j : Nat), k + j = dgn v → wp kc (d + 1) 256 18 [some (jR 133), some (jI v), some (jI ((10 ^ dgn v : Nat) : Int))] [] M Q → wp kc (d + 1) 256 2 [some (jR 133), some (jI v), some (jI ((10 ^ j : Nat) : Int))] [] M Q
  | 0, j, hj, K => by
    have h8 := dgn_le v
    have hj : j = dgn v := by omega
    subst hj
    have hp := pw_le h8
    have hq : ¬ 10 ≤ v / ((10 ^ dgn v : Nat) : Int) := fun h => absurd ((dgn_lt h0 h1 h8).mp h) (Nat.lt_irrefl _)
    have hv : 0 ≤ v / ((10 ^ dgn v : Nat) : Int) := Int.ediv_nonneg h0 (by omega)
    exact s256_2 ⟨⟨⟨by omega, by omega⟩, by omega, by omega⟩, ⟨by omega, by omega⟩, fun _ => K, fun h => absurd (by omega) hq⟩
  | k + 1, j, hj, K => by
    have h8 := dgn_le v
    have hp := pw_le (j := j) (by omega)
    have hq := (dgn_lt h0 h1 (j := j) (by omega)).mpr (by omega)
    have hv2 : v / ((10 ^ j : Nat) : Int) ≤ v := Int.ediv_le_self _ h0
    refine s256_2 ⟨⟨⟨by omega, by omega⟩, by omega, by omega⟩, ⟨by omega, by omega⟩, fun h => by omega, fun h => ?_⟩
    have ih := say_fst h0 h1 k (j + 1) (by omega) K
    have e2 : ((10 ^ (j + 1) : Nat) : Int) = ((10 ^ j : Nat) : Int) * 10 := by
      rw [Nat.pow_succ]
      omega
    rw [e2] at ih
    exact ih
theorem say_snd {v : Int} (h0 : 0 ≤ v) (h1 : v < 1000000000) : ∀ (k : Nat) (M : fx_M), k ≤ 8 → m_ok M → Q none (m_app M (dgk v k)) → wp kc (d + 2) 256 18 [some (jR 133), some (jI v), some (jI ((10 ^ k : Nat) : Int))] [] M Q
  | 0, M, _, ho, K => by
    have e0 : ((10 ^ 0 : Nat) : Int) = 1 := rfl
    have ev : v / 1 = v := Int.ediv_one v
    rw [e0]
    refine s256_18 ⟨⟨by omega, by omega⟩, fun h => by omega, fun _ => ?_⟩
    rw [ev]
    refine ⟨⟨⟨by omega, by omega⟩, by omega, by omega⟩, ⟨by omega, by omega⟩, sp_sayByte ho (s256_35 ⟨⟨by omega, by omega⟩, ?_⟩)⟩
    have e1 : (1 : Int) / 10 = 0 := by decide
    rw [e1]
    exact s256_18 ⟨⟨by omega, by omega⟩, fun _ => K, fun h => by omega⟩
  | k + 1, M, hk, ho, K => by
    have hp := pw_le hk
    have hv0 : 0 ≤ v / ((10 ^ (k + 1) : Nat) : Int) := Int.ediv_nonneg h0 (by omega)
    have hv2 : v / ((10 ^ (k + 1) : Nat) : Int) ≤ v := Int.ediv_le_self _ h0
    have e2 : ((10 ^ (k + 1) : Nat) : Int) / 10 = ((10 ^ k : Nat) : Int) := by
      rw [Nat.pow_succ]
      omega
    refine s256_18 ⟨⟨by omega, by omega⟩, fun h => by omega, fun _ => ⟨⟨⟨by omega, by omega⟩, by omega, by omega⟩, ⟨by omega, by omega⟩, sp_sayByte ho (s256_35 ⟨⟨by omega, by omega⟩, ?_⟩)⟩⟩
    rw [e2]
    exact say_snd h0 h1 k (m_put M (48 + v / ((10 ^ (k + 1) : Nat) : Int) % 10)) (by omega) (m_ok_put ho) K
theorem sp_sayNumber {v : Int} (ho : m_ok M) (h0 : 0 ≤ v) (h1 : v < 1000000000) (K : Q none (m_app M (dgs v))) : wc kc (d + 2) 256 [jR 133, jI v] M Q :=
  s256 (say_fst h0 h1 (dgn v) 0 (by omega) (say_snd h0 h1 (dgn v) M (dgn_le v) ho K))
theorem sp_sayMore {v : Int} (ho : m_ok M) (h0 : 0 ≤ v) (h1 : v < 1000000000) (K : Q none (m_app M (32 :: dgs v))) : wc kc (d + 3) 255 [jR 133, jI v] M Q :=
  s255 (sp_sayByte ho (s255_6 (sp_sayNumber (m_ok_put ho) h0 h1 (s255_11 K))))
theorem sp_sayCount {w v : Int} (hw : w_ok w) (ho : m_ok M) (h0 : 0 ≤ v) (h1 : v < 1000000000) (K : Q none (m_app M (wls w ++ 32 :: dgs v))) : wc kc (d + 4) 252 [jR 133, jL w, jI v] M Q :=
  s252 (sp_sayWord hw ho (s252_5 (sp_sayMore (m_ok_app ho) h0 h1 (s252_10 (by
    rw [m_app_app]
    exact K)))))
end SAY
