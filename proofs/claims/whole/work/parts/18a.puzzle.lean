/-! PUZZLES: a puzzle as a value; how the class holds it (object p) and how the reference does (unit u). -/
def area (l : List Int) : Int := l.foldl (fun a c => fx_or a (fx_shl 1 c)) 0
def pr_ok (n : Int) (R : PR) : Prop := 0 ≤ R.1 ∧ R.1 < 8 ∧ 0 ≤ R.2.1 ∧ R.2.1 ≤ 99 ∧ 1 ≤ R.2.2.length ∧ R.2.2.length ≤ 4 ∧ (∀ c ∈ R.2.2, 0 ≤ c ∧ c < n) ∧ R.2.2.Nodup
def pz_ok (Z : PZ) : Prop := 1 ≤ Z.1 ∧ Z.1 ≤ 3 ∧ 1 ≤ Z.2.1 ∧ Z.2.1 ≤ 3 ∧ 1 ≤ Z.2.2.1 ∧ Z.2.2.1 ≤ 4 ∧ Z.2.2.2.1.length ≤ 12 ∧ (∀ R ∈ Z.2.2.2.1, pr_ok (Z.1 * Z.2.1) R) ∧ Z.2.2.2.2.length = 9 ∧ (∀ s ∈ Z.2.2.2.2, -1 ≤ s ∧ s < Z.2.2.1) ∧ (∀ c : Nat, Z.1 * Z.2.1 ≤ c → Z.2.2.2.2.getD c (-1) = -1)
/-- the class's object p holds Z -/
def cz (M : fx_M) (p : Nat) (Z : PZ) : Prop := M p 0 = Z.1 ∧ M p 1 = Z.2.1 ∧ M p 2 = Z.1 * Z.2.1 ∧ M p 3 = Z.2.2.1 ∧ M p 4 = Z.2.2.2.1.length ∧ (∀ (r : Nat) (R : PR), Z.2.2.2.1[r]? = some R → M (p + 1) r = R.1 ∧ M (p + 2) r = R.2.1 ∧ M (p + 3) r = R.2.2.length ∧ (∀ i : Nat, i < 4 → M (p + 4) (4 * (r : Int) + i) = R.2.2.getD i 9) ∧ M (p + 5) r = area R.2.2) ∧ (∀ c : Nat, c < 9 → M (p + 6) c = Z.2.2.2.2.getD c (-1)) ∧ 0 ≤ M p 12 ∧ M p 12 ≤ Z.2.2.2.1.length ∧ wys M p Z
/-- the reference's unit u holds Z -/
def mz (M : fx_M) (u : Int) (Z : PZ) : Prop := M 146 u = Z.1 ∧ M 147 u = Z.2.1 ∧ M 148 u = Z.2.2.1 ∧ M 149 u = Z.2.2.2.1.length ∧ (∀ (r : Nat) (R : PR), Z.2.2.2.1[r]? = some R → M 150 (12 * u + r) = piK.getD R.1.toNat 0 ∧ M 151 (12 * u + r) = R.2.1 ∧ M 152 (12 * u + r) = R.2.2.length ∧ (∀ (i : Nat) (c : Int), R.2.2[i]? = some c → M 153 (4 * (12 * u + r) + i) = c)) ∧ (∀ c : Nat, c < 9 → M 154 (9 * u + c) = Z.2.2.2.2.getD c (-1))
theorem mul_le9 {a b : Int} (h1 : 1 ≤ a) (h2 : a ≤ 3) (h3 : 1 ≤ b) (h4 : b ≤ 3) : 1 ≤ a * b ∧ a * b ≤ 9 := by
  have ha : a = 1 ∨ a = 2 ∨ a = 3 := by omega
  rcases ha with rfl | rfl | rfl <;> omega
theorem pz_n {Z : PZ} (h : pz_ok Z) : 1 ≤ Z.1 * Z.2.1 ∧ Z.1 * Z.2.1 ≤ 9 := mul_le9 h.1 h.2.1 h.2.2.1 h.2.2.2.1
/-- only object p and its arrays have changed -/
def pfr (p : Nat) (M M' : fx_M) : Prop := ∀ b j, ¬ (p ≤ b ∧ b ≤ p + 8) → M' b j = M b j
theorem pfr_rf (p : Nat) (M : fx_M) : pfr p M M := fun _ _ _ => rfl
theorem pfr_up {p a : Nat} {k v : Int} {M N : fx_M} (ha : p ≤ a ∧ a ≤ p + 8) (h : pfr p M N) : pfr p M (fx_up N a k v) := fun b j hb => by rw [fx_up_na (by omega), h b j hb]
theorem pfr_tr {p : Nat} {M N P : fx_M} (h1 : pfr p M N) (h2 : pfr p N P) : pfr p M P := fun b j hb => by rw [h2 b j hb, h1 b j hb]
/-- new sizes -/
def z_new (w h s : Int) : PZ := (w, h, s, [], List.replicate 9 (-1))
def z_size (w h s : Int) : Prop := 1 ≤ w ∧ w ≤ 3 ∧ 1 ≤ h ∧ h ≤ 3 ∧ 1 ≤ s ∧ s ≤ 4
theorem z_new_ok {w h s : Int} (hz : z_size w h s) : pz_ok (z_new w h s) := by
  obtain ⟨h1, h2, h3, h4, h5, h6⟩ := hz
  refine ⟨h1, h2, h3, h4, h5, h6, by simp [z_new], fun R hR => by simp [z_new] at hR, by simp [z_new], fun x hx => ?_, fun c _ => ?_⟩
  · have : x = -1 := List.eq_of_mem_replicate hx
    subst this
    show -1 ≤ -1 ∧ -1 < s
    omega
  · show (List.replicate 9 (-1 : Int)).getD c (-1) = -1
    rw [List.getD_eq_getElem?_getD, List.getElem?_replicate]
    split <;> rfl
section PZS
variable {kc : List va_E} {d p : Nat} {M : fx_M} {Q : Option fx_V → fx_M → Prop}
theorem ren_loop (Hp : fx_puz p) : ∀ (k : Nat) (M : fx_M) (c : Int), c + k = 9 → 0 ≤ c → (∀ M', (∀ j : Int, c ≤ j → j < 9 → M' (p + 6) j = -1) → (∀ b j, ¬ (b = p + 6 ∧ c ≤ j ∧ j < 9) → M' b j = M b j) → Q (some (jR 1000013)) M') → wp kc (d + 1) 51 68 [some (jR p), none, none, none, some (jI c)] [] M Q
  | 0, M, c, hc, h0, K => s51_68 Hp ⟨⟨by omega, by omega⟩, fun _ => K M (fun j j0 j1 => by omega) (fun _ _ _ => rfl), fun h => by omega⟩
  | k + 1, M, c, hc, h0, K => by
    refine s51_68 Hp ⟨⟨by omega, by omega⟩, fun h => by omega, fun _ => ⟨⟨by omega, by omega⟩, ?_⟩⟩
    refine ren_loop Hp k _ (c + 1) (by omega) (by omega) (fun M' h1 h2 => K M' (fun j j0 j1 => ?_) (fun b j hb => ?_))
    · by_cases hj : j = c
      · subst hj
        rw [h2 (p + 6) j (by omega), fx_up_self]
      · exact h1 j (by omega) j1
    · rw [h2 b j (by omega), fx_up_ne (by omega)]
/-- renew: refused, or a puzzle without rules and givens -/
theorem sp_renew {w h s : Int} (Hp : fx_puz p) (hw : fx_in32 w) (hh : fx_in32 h) (hs : fx_in32 s) (K0 : ¬ z_size w h s → Q (some (jR 1000011)) M) (K1 : z_size w h s → ∀ M', cz M' p (z_new w h s) → pfr p M M' → Q (some (jR 1000013)) M') : wc kc (d + 1) 51 [jR p, jI w, jI h, jI s] M Q := by
  unfold z_size at *
  refine s51 Hp ⟨hw, fun h => K0 (by omega), fun a1 => ⟨hw, fun h => K0 (by omega), fun a2 => ⟨hh, fun h => K0 (by omega), fun a3 => ⟨hh, fun h => K0 (by omega), fun a4 => ⟨hs, fun h => K0 (by omega), fun a5 => ⟨hs, fun a6 => ?_, fun h => K0 (by omega)⟩⟩⟩⟩⟩⟩
  refine ren_loop Hp 9 _ 0 (by omega) (by omega) (fun M' h1 h2 => K1 (by omega) M' ?_ ?_)
  · have f : ∀ j : Int, M' p j = (fx_up (fx_up (fx_up (fx_up (fx_up (fx_up M p 0 w) p 1 h) p 2 (w * h)) p 3 s) p 4 0) p 12 0) p j := fun j => h2 p j (by omega)
    refine ⟨?_, ?_, ?_, ?_, ?_, fun r R hR => by simp [z_new] at hR, fun c hc => ?_, ?_, ?_, fun r R hR => by simp [z_new] at hR⟩
    · rw [f]; simp [fx_up]; rfl
    · rw [f]; simp [fx_up]; rfl
    · rw [f]; simp [fx_up]; rfl
    · rw [f]; simp [fx_up]; rfl
    · rw [f]; simp [fx_up]; rfl
    · rw [h1 c (by omega) (by omega)]
      show -1 = (List.replicate 9 (-1 : Int)).getD c (-1)
      rw [List.getD_eq_getElem?_getD, List.getElem?_replicate]
      split <;> rfl
    · rw [f]; simp [fx_up]
    · rw [f]; simp [fx_up]
  · intro b j hb
    rw [h2 b j (by omega), fx_up_na (by omega), fx_up_na (by omega), fx_up_na (by omega), fx_up_na (by omega), fx_up_na (by omega), fx_up_na (by omega)]
end PZS
