/-! WHAT A REQUEST DOES TO A PUZZLE, as a function: 0 done, 1 no size, 2 no cell, 3 no number, 4 no room, 5 no symbol; and the puzzle behind it. -/
def okb (n : Int) (l : List Int) : Bool := decide (1 ≤ l.length ∧ l.length ≤ 4 ∧ (∀ c ∈ l, 0 ≤ c ∧ c < n) ∧ l.Nodup)
theorem okb_iff {n : Int} {l : List Int} : okb n l = true ↔ okc n l := by
  unfold okb okc
  exact decide_eq_true_iff
def q_size (Z : PZ) (w h s : Int) : Int × PZ := if 1 ≤ w ∧ w ≤ 3 ∧ 1 ≤ h ∧ h ≤ 3 ∧ 1 ≤ s ∧ s ≤ 4 then (0, z_new w h s) else (1, Z)
def q_rule (Z : PZ) (k n : Int) (l : List Int) : Int × PZ := if okb (Z.1 * Z.2.1) l = true then (if 99 < n then (3, Z) else if 12 ≤ Z.2.2.2.1.length then (4, Z) else (0, z_add Z (k, n, l))) else (2, Z)
def q_each (Z : PZ) (s k n : Int) : Int × PZ := if 99 < n then (3, Z) else if 12 < (Z.2.2.2.1.length : Int) + eMany s Z.1 Z.2.1 then (4, Z) else (0, z_adds Z k n (eL s Z.1 Z.2.1 (Z.1 * Z.2.1).toNat))
def q_give (Z : PZ) (c s : Int) : Int × PZ := if 0 ≤ c ∧ c < Z.1 * Z.2.1 then (if Z.2.2.1 ≤ s then (5, Z) else (0, z_give Z c s)) else (2, Z)
/-- the literal at a tells the refusal r -/
def rfa (a : Nat) (r : Int) : Prop := (r = 0 ∧ (a = 1000013 ∨ a = 1000001)) ∨ (r = 1 ∧ a = 1000011) ∨ (r = 2 ∧ a = 1000017) ∨ (r = 3 ∧ a = 1000019) ∨ (r = 4 ∧ a = 1000021) ∨ (r = 5 ∧ a = 1000023)
section OPS
variable {kc : List va_E} {d p a : Nat} {M : fx_M} {Q : Option fx_V → fx_M → Prop} {Z : PZ} {u : Int}
theorem sp_renewQ {w h s : Int} (Hp : fx_puz p) (hz : cz M p Z) (ho : pz_ok Z) (hw : fx_in32 w) (hh : fx_in32 h) (hs : fx_in32 s) (K : ∀ M' b, rfa b (q_size Z w h s).1 → cz M' p (q_size Z w h s).2 → pz_ok (q_size Z w h s).2 → pfr p M M' → Q (some (jR b)) M') : wc kc (d + 1) 51 [jR p, jI w, jI h, jI s] M Q := by
  unfold q_size at K
  refine sp_renew Hp hw hh hs (fun hn => ?_) (fun hy M' m1 m2 => ?_)
  · have hn : ¬ (1 ≤ w ∧ w ≤ 3 ∧ 1 ≤ h ∧ h ≤ 3 ∧ 1 ≤ s ∧ s ≤ 4) := hn
    rw [if_neg hn] at K
    exact K M _ (Or.inr (Or.inl ⟨rfl, rfl⟩)) hz ho (pfr_rf p M)
  · have hy2 : 1 ≤ w ∧ w ≤ 3 ∧ 1 ≤ h ∧ h ≤ 3 ∧ 1 ≤ s ∧ s ≤ 4 := hy
    rw [if_pos hy2] at K
    exact K M' _ (Or.inl ⟨rfl, Or.inl rfl⟩) m1 (z_new_ok hy) m2
theorem sp_addRuleQ {l : List Int} {k n : Int} (Hp : fx_puz p) (Ha : fx_a a = some (0, 4)) (ha : a ≠ p ∧ a ≠ p + 1 ∧ a ≠ p + 2 ∧ a ≠ p + 3 ∧ a ≠ p + 4 ∧ a ≠ p + 5) (hz : cz M p Z) (ho : pz_ok Z) (hk : 0 ≤ k ∧ k < 8) (hn : 0 ≤ n ∧ n < 1000) (hll : l.length ≤ 100000) (hl : ∀ (i : Nat) (c : Int), l[i]? = some c → i < 4 → M a i = c) (hin : ∀ c ∈ l, 0 ≤ c ∧ c < 1000) (K : ∀ M' b, rfa b (q_rule Z k n l).1 → cz M' p (q_rule Z k n l).2 → pz_ok (q_rule Z k n l).2 → (∀ b j, ¬ (p ≤ b ∧ b ≤ p + 5) → M' b j = M b j) → Q (some (jR b)) M') : wc kc (d + 2) 52 [jR p, jI k, jI n, jR a, jI l.length] M Q := by
  unfold q_rule at K
  refine sp_addRule Hp Ha ha hz ho hn hll hl hin (fun h0 => ?_) (fun h0 h1 => ?_) (fun h0 h1 h2 => ?_) (fun h0 h1 h2 M' m1 m2 => ?_)
  · rw [if_neg (fun h => h0 (okb_iff.mp h))] at K
    exact K M _ (Or.inr (Or.inr (Or.inl ⟨rfl, rfl⟩))) hz ho (fun _ _ _ => rfl)
  · rw [if_pos (okb_iff.mpr h0), if_pos h1] at K
    exact K M _ (Or.inr (Or.inr (Or.inr (Or.inl ⟨rfl, rfl⟩)))) hz ho (fun _ _ _ => rfl)
  · rw [if_pos (okb_iff.mpr h0), if_neg (by omega), if_pos h2] at K
    exact K M _ (Or.inr (Or.inr (Or.inr (Or.inr (Or.inl ⟨rfl, rfl⟩))))) hz ho (fun _ _ _ => rfl)
  · rw [if_pos (okb_iff.mpr h0), if_neg (by omega), if_neg (by omega)] at K
    exact K M' _ (Or.inl ⟨rfl, Or.inl rfl⟩) m1 (z_add_ok ho h2 ⟨hk.1, hk.2, hn.1, h1, h0.1, h0.2.1, h0.2.2.1, h0.2.2.2⟩) m2
theorem sp_addEachQ {s k n : Int} (Hp : fx_puz p) (hz : cz M p Z) (ho : pz_ok Z) (hs : 0 ≤ s ∧ s < 3) (hk : 0 ≤ k ∧ k < 8) (hn : 0 ≤ n ∧ n < 1000) (K : ∀ M' b, rfa b (q_each Z s k n).1 → cz M' p (q_each Z s k n).2 → pz_ok (q_each Z s k n).2 → pfr p M M' → Q (some (jR b)) M') : wc kc (d + 2) 55 [jR p, jI s, jI k, jI n] M Q := by
  unfold q_each at K
  refine sp_addEach Hp hz ho hs hk hn (fun h1 => ?_) (fun h1 h2 => ?_) (fun h1 h2 M' m1 m2 m3 => ?_)
  · rw [if_pos h1] at K
    exact K M _ (Or.inr (Or.inr (Or.inr (Or.inl ⟨rfl, rfl⟩)))) hz ho (pfr_rf p M)
  · rw [if_neg (by omega), if_pos h2] at K
    exact K M _ (Or.inr (Or.inr (Or.inr (Or.inr (Or.inl ⟨rfl, rfl⟩))))) hz ho (pfr_rf p M)
  · rw [if_neg (by omega), if_neg (by omega)] at K
    exact K M' _ (Or.inl ⟨rfl, Or.inl rfl⟩) m1 m2 m3
theorem sp_giveQ {c s : Int} (Hp : fx_puz p) (hz : cz M p Z) (ho : pz_ok Z) (hc : fx_in32 c) (hs : fx_in32 s) (hs1 : -1 ≤ s) (K : ∀ M' b, rfa b (q_give Z c s).1 → cz M' p (q_give Z c s).2 → pz_ok (q_give Z c s).2 → pfr p M M' → Q (some (jR b)) M') : wc kc (d + 1) 57 [jR p, jI c, jI s] M Q := by
  unfold q_give at K
  refine sp_give Hp hz ho hc hs (fun h0 => ?_) (fun h0 h1 => ?_) (fun h0 h1 m1 => ?_)
  · rw [if_neg h0] at K
    exact K M _ (Or.inr (Or.inr (Or.inl ⟨rfl, rfl⟩))) hz ho (pfr_rf p M)
  · rw [if_pos h0, if_pos h1] at K
    exact K M _ (Or.inr (Or.inr (Or.inr (Or.inr (Or.inr ⟨rfl, rfl⟩))))) hz ho (pfr_rf p M)
  · rw [if_pos h0, if_neg (by omega)] at K
    exact K _ _ (Or.inl ⟨rfl, Or.inl rfl⟩) m1 (z_give_ok ho h0 ⟨hs1, h1⟩) (pfr_up (by omega) (pfr_rf p M))
/-! the reference -/
theorem sp_beginQ {w h s : Int} (hu : 0 ≤ u ∧ u < 10) (hz : mz M u Z) (ho : pz_ok Z) (hw : fx_in32 w) (hh : fx_in32 h) (hs : fx_in32 s) (K : ∀ M', mz M' u (q_size Z w h s).2 → pz_ok (q_size Z w h s).2 → ufr u M M' → Q (some (jI (q_size Z w h s).1)) M') : wc kc (d + 1) 214 [jR 133, jI u, jI w, jI h, jI s] M Q := by
  unfold q_size at K
  refine sp_begin hu hw hh hs (fun hn => ?_) (fun hy M' m1 m2 => ?_)
  · have hn : ¬ (1 ≤ w ∧ w ≤ 3 ∧ 1 ≤ h ∧ h ≤ 3 ∧ 1 ≤ s ∧ s ≤ 4) := hn
    rw [if_neg hn] at K
    exact K M hz ho (fun _ _ _ _ _ _ => rfl)
  · have hy2 : 1 ≤ w ∧ w ≤ 3 ∧ 1 ≤ h ∧ h ≤ 3 ∧ 1 ≤ s ∧ s ≤ 4 := hy
    rw [if_pos hy2] at K
    exact K M' m1 (z_new_ok hy) m2
theorem sp_maddRuleQ {l : List Int} {k n : Int} (hu : 0 ≤ u ∧ u < 10) (hz : mz M u Z) (ho : pz_ok Z) (hk : 0 ≤ k ∧ k < 8) (hn : 0 ≤ n ∧ n < 1000) (h1 : 1 ≤ l.length) (hll : l.length ≤ 100000) (h10 : M 133 10 = piK.getD k.toNat 0) (h11 : M 133 11 = n) (h12 : M 133 12 = l.length) (hl : ∀ (i : Nat) (c : Int), l[i]? = some c → i < 4 → M 137 i = c) (hin : ∀ c ∈ l, 0 ≤ c ∧ c < 1000) (K : ∀ M', mz M' u (q_rule Z k n l).2 → pz_ok (q_rule Z k n l).2 → ufr u M M' → Q (some (jI (q_rule Z k n l).1)) M') : wc kc (d + 2) 240 [jR 133, jI u] M Q := by
  unfold q_rule at K
  have rf : ufr u M M := fun _ _ _ _ _ _ => rfl
  refine sp_maddRule (k := k) (n := n) hu hz ho hn h1 hll h10 h11 h12 hl hin (fun h0 => ?_) (fun h0 a1 => ?_) (fun h0 a1 a2 => ?_) (fun h0 a1 a2 M' m1 m2 => ?_)
  · rw [if_neg (fun h => h0 (okb_iff.mp h))] at K
    exact K M hz ho rf
  · rw [if_pos (okb_iff.mpr h0), if_pos a1] at K
    exact K M hz ho rf
  · rw [if_pos (okb_iff.mpr h0), if_neg (by omega), if_pos a2] at K
    exact K M hz ho rf
  · rw [if_pos (okb_iff.mpr h0), if_neg (by omega), if_neg (by omega)] at K
    exact K M' m1 (z_add_ok ho a2 ⟨hk.1, hk.2, hn.1, a1, h0.1, h0.2.1, h0.2.2.1, h0.2.2.2⟩) m2
theorem sp_maddEachQ {s k n : Int} (hu : 0 ≤ u ∧ u < 10) (hz : mz M u Z) (ho : pz_ok Z) (hs : 0 ≤ s ∧ s < 3) (hk : 0 ≤ k ∧ k < 8) (hn : 0 ≤ n ∧ n < 1000) (h10 : M 133 10 = piK.getD k.toNat 0) (h11 : M 133 11 = n) (h14 : M 133 14 = piS.getD s.toNat 0) (K : ∀ M', mz M' u (q_each Z s k n).2 → pz_ok (q_each Z s k n).2 → ufr2 u M M' → Q (some (jI (q_each Z s k n).1)) M') : wc kc (d + 3) 243 [jR 133, jI u] M Q := by
  unfold q_each at K
  refine sp_maddEach hu hz ho hs hk hn h10 h11 h14 (fun h1 => ?_) (fun h1 h2 => ?_) (fun h1 h2 M' m1 m2 m3 => ?_)
  · rw [if_pos h1] at K
    exact K M hz ho (ufr2_rf u M)
  · rw [if_neg (by omega), if_pos h2] at K
    exact K M hz ho (ufr2_rf u M)
  · rw [if_neg (by omega), if_neg (by omega)] at K
    exact K M' m1 m2 m3
theorem sp_mgiveQ {c s : Int} (hu : 0 ≤ u ∧ u < 10) (hz : mz M u Z) (ho : pz_ok Z) (hc : fx_in32 c) (hs : fx_in32 s) (hs1 : -1 ≤ s) (K : ∀ M', mz M' u (q_give Z c s).2 → pz_ok (q_give Z c s).2 → ufr u M M' → Q (some (jI (q_give Z c s).1)) M') : wc kc (d + 2) 245 [jR 133, jI u, jI c, jI s] M Q := by
  have h9 := pz_n ho
  unfold q_give at K
  have rf : ufr u M M := fun _ _ _ _ _ _ => rfl
  refine sp_mgive hu hz ho hc hs (fun h0 => ?_) (fun h0 h1 => ?_) (fun h0 h1 m1 => ?_)
  · rw [if_neg h0] at K
    exact K M hz ho rf
  · rw [if_pos h0, if_pos h1] at K
    exact K M hz ho rf
  · rw [if_pos h0, if_neg (by omega)] at K
    exact K _ m1 (z_give_ok ho h0 ⟨hs1, h1⟩) (fun b j a1 a2 a3 a4 => fx_up_ne (by omega))
end OPS
