/-! Reading a text that lies elsewhere; the puzzle that stood before makes no odds. -/
/-- h holds from 0 on what g holds from a on -/
def sftd (g h : Int → Int) (a e : Int) : Prop := ∀ j, 0 ≤ j → j < e → g (a + j) = h j
section SHF
variable {g h : Int → Int} {a e : Int}
theorem sh_T (H : sftd g h a e) {c p w : Int} (hp : 0 ≤ p) : rT g (a + e) c (a + p) w = (a + (rT h e c p w).1, (rT h e c p w).2) := by
  unfold rT
  by_cases hw : w = 0
  · rw [if_pos hw, if_pos hw]
    by_cases hl : p < e
    · rw [if_pos hl, if_pos (show a + p < a + e by omega), H p hp hl]
      by_cases hc : h p = c
      · rw [if_pos hc, if_pos hc]
        exact Prod.ext (by dsimp only; omega) rfl
      · rw [if_neg hc, if_neg hc] <;> rfl
    · rw [if_neg hl, if_neg (show ¬ a + p < a + e by omega)] <;> rfl
  · rw [if_neg hw, if_neg hw] <;> rfl
theorem sh_N1 (H : sftd g h a e) : ∀ (n : Nat) (v p : Int), 0 ≤ p → rN1 g (a + e) n v (a + p) = ((rN1 h e n v p).1, a + (rN1 h e n v p).2)
  | 0, v, p, _ => rfl
  | n + 1, v, p, hp => by
    rw [rN1, rN1]
    by_cases hc : 0 < v ∧ p < e ∧ isD (h p)
    · rw [if_pos hc, if_pos ⟨hc.1, by omega, by rw [H p hp hc.2.1]; exact hc.2.2⟩, H p hp hc.2.1, show a + p + 1 = a + (p + 1) by omega]
      exact sh_N1 H n _ (p + 1) (by omega)
    · rw [if_neg hc, if_neg (fun x => hc ⟨x.1, by omega, by rw [← H p hp (by omega)]; exact x.2.2⟩)] <;> rfl
theorem sh_N (H : sftd g h a e) {m : Nat} {p w : Int} (hp : 0 ≤ p) : rN g (a + e) m (a + p) w = ((rN h e m p w).1, a + (rN h e m p w).2.1, (rN h e m p w).2.2) := by
  unfold rN
  by_cases hc : w = 0 ∧ p < e ∧ isD (h p)
  · rw [if_pos hc, if_pos ⟨hc.1, by omega, by rw [H p hp hc.2.1]; exact hc.2.2⟩, H p hp hc.2.1, show a + p + 1 = a + (p + 1) by omega, sh_N1 H _ _ (p + 1) (by omega)] <;> rfl
  · rw [if_neg hc, if_neg (fun x => hc ⟨x.1, by omega, by rw [← H p hp (by omega)]; exact x.2.2⟩)] <;> rfl
theorem sh_k (H : sftd g h a e) {p c n k : Int} (hp : 0 ≤ p) (hk : 0 ≤ k) : ch_k g (a + e) (a + p) c n k = ch_k h e p c n k := by
  unfold ch_k
  by_cases h1 : k = n
  · rw [if_pos h1, if_pos h1]
    by_cases h2 : p + k < e
    · rw [if_pos h2, if_pos (show a + p + k < a + e by omega), show a + p + k = a + (p + k) by omega, H (p + k) (by omega) h2]
    · rw [if_neg h2, if_neg (show ¬ a + p + k < a + e by omega)]
  · rw [if_neg h1, if_neg h1]
theorem ch_k0 {p c n k : Int} (hk : 0 ≤ k) : 0 ≤ ch_k h e p c n k := by
  unfold ch_k
  split
  · split
    · split <;> omega
    · exact hk
  · exact hk
theorem sh_chl (H : sftd g h a e) {p : Int} (hp : 0 ≤ p) : ∀ (cs : List Int) (b l r i n k : Int), 0 ≤ k → chl g (a + e) (a + p) cs b l r i n k = chl h e p cs b l r i n k
  | [], _, _, _, _, _, _, _ => rfl
  | c :: cs, b, l, r, i, n, k, hk => by
    rw [chl, chl]
    by_cases hc : c = 32
    · rw [if_pos hc, if_pos hc]
      exact sh_chl H hp cs _ _ _ _ _ _ (by omega)
    · rw [if_neg hc, if_neg hc, sh_k H hp hk]
      exact sh_chl H hp cs _ _ _ _ _ _ (ch_k0 hk)
theorem sh_C (H : sftd g h a e) {p w : Int} {bs : List Int32} (hp : 0 ≤ p) : rC g (a + e) bs (a + p) w = ((rC h e bs p w).1, a + (rC h e bs p w).2.1, (rC h e bs p w).2.2) := by
  have e1 : chs g (a + e) (a + p) bs = chs h e p bs := by
    unfold chs
    exact sh_chl H hp _ _ _ _ _ _ _ (by omega)
  unfold rC
  rw [e1]
  by_cases hw : w = 0
  · rw [if_pos hw, if_pos hw]
    refine Prod.ext rfl (Prod.ext ?_ rfl)
    dsimp only
    omega
  · rw [if_neg hw, if_neg hw] <;> rfl
theorem sh_BN (H : sftd g h a e) {m : Nat} {p w : Int} (hp : 0 ≤ p) (hpe : p ≤ e) : rBN g (a + e) m (a + p) w = ((rBN h e m p w).1, a + (rBN h e m p w).2.1, (rBN h e m p w).2.2) := by
  have h1 := rT_b (g := h) (c := 32) (w := w) hpe
  unfold rBN
  rw [sh_T H hp]
  exact sh_N H (by omega)
theorem sh_K (H : sftd g h a e) {p w : Int} {bs : List Int32} (hp : 0 ≤ p) (hpe : p ≤ e) : rK g (a + e) bs (a + p) w = ((rK h e bs p w).1, (rK h e bs p w).2.1, a + (rK h e bs p w).2.2.1, (rK h e bs p w).2.2.2) := by
  have h1 := rT_b (g := h) (c := 32) (w := w) hpe
  have h2 := rC_b (g := h) (bs := bs) (w := (rT h e 32 p w).2) h1.2.1
  unfold rK
  rw [sh_T H hp]
  dsimp only
  rw [sh_C H (by omega)]
  dsimp only
  by_cases hc : hasN (rC h e bs (rT h e 32 p w).1 (rT h e 32 p w).2).1 = true
  · rw [if_pos hc, if_pos hc, sh_BN H (by omega) (by omega)] <;> rfl
  · rw [if_neg hc, if_neg hc] <;> rfl
theorem sh_R (H : sftd g h a e) : ∀ (f : Nat) (b : Bool) (p w : Int), 0 ≤ p → p ≤ e → rR g (a + e) f b (a + p) w = ((rR h e f b p w).1, a + (rR h e f b p w).2.1, (rR h e f b p w).2.2)
  | 0, _, _, _, _, _ => rfl
  | f + 1, b, p, w, hp, hpe => by
    have h1 := rBN_b (g := h) (m := 3) (w := w) (by omega) hpe
    rw [rR, rR]
    by_cases hc : w = 0 ∧ (b = true ∨ (p < e ∧ h p = 32))
    · have hc2 : w = 0 ∧ (b = true ∨ (a + p < a + e ∧ g (a + p) = 32)) := ⟨hc.1, hc.2.elim Or.inl (fun x => Or.inr ⟨by omega, by rw [H p hp x.1]; exact x.2⟩)⟩
      rw [if_pos hc, if_pos hc2, sh_BN H hp hpe]
      dsimp only
      rw [sh_R H f false _ _ (by omega) (by omega)]
    · have hc2 : ¬ (w = 0 ∧ (b = true ∨ (a + p < a + e ∧ g (a + p) = 32))) := fun y => hc ⟨y.1, y.2.elim Or.inl (fun x => Or.inr ⟨by omega, by rw [← H p hp (by omega)]; exact x.2⟩)⟩
      rw [if_neg hc, if_neg hc2] <;> rfl
theorem sh_Sd (H : sftd g h a e) {p w : Int} (hp : 0 ≤ p) (hpe : p ≤ e) : rSd g (a + e) (a + p) w = ((rSd h e p w).1, a + (rSd h e p w).2.1, (rSd h e p w).2.2) := by
  have h1 := rT_b (g := h) (c := 32) (w := w) hpe
  unfold rSd
  rw [sh_T H hp]
  exact sh_C H (by omega)
theorem sh_Pt (H : sftd g h a e) {p : Int} (hp : 0 ≤ p) (hpe : p ≤ e) : rPt g (a + e) (a + p) = ((rPt h e p).1, a + (rPt h e p).2.1, (rPt h e p).2.2) := by
  have h1 := rC_b (g := h) (bs := bsP) (w := 0) hpe
  unfold rPt
  rw [sh_C H hp]
  dsimp only
  by_cases c0 : (rC h e bsP p 0).1 = 0
  · rw [if_pos c0, if_pos c0]
    have h2 := rK_b (g := h) (bs := bsK) (w := (rC h e bsP p 0).2.2) h1.2.2.2.1
    rw [sh_K H (by omega) (by omega)]
    dsimp only
    rw [show a + e - (a + (rK h e bsK (rC h e bsP p 0).2.1 (rC h e bsP p 0).2.2).2.2.1) = e - (rK h e bsK (rC h e bsP p 0).2.1 (rC h e bsP p 0).2.2).2.2.1 by omega, sh_R H _ _ _ _ (by omega) (by omega)]
  · rw [if_neg c0, if_neg c0]
    by_cases c1 : (rC h e bsP p 0).1 = 1
    · rw [if_pos c1, if_pos c1]
      have h2 := rSd_b (g := h) (w := (rC h e bsP p 0).2.2) h1.2.2.2.1
      rw [sh_Sd H (by omega) (by omega)]
      dsimp only
      rw [sh_K H (by omega) (by omega)]
    · rw [if_neg c1, if_neg c1]
      have h2 := rBN_b (g := h) (m := 3) (w := (rC h e bsP p 0).2.2) (by omega) h1.2.2.2.1
      rw [sh_BN H (by omega) (by omega)]
      dsimp only
      rw [sh_BN H (by omega) (by omega)]
theorem sh_Tx (H : sftd g h a e) : ∀ (f : Nat) (p w rf : Int) (Z : PZ), 0 ≤ p → p ≤ e → rTx g (a + e) f (a + p) w rf Z = (a + (rTx h e f p w rf Z).1, (rTx h e f p w rf Z).2)
  | 0, _, _, _, _, _, _ => rfl
  | f + 1, p, w, rf, Z, hp, hpe => by
    rw [rTx, rTx]
    by_cases hc : w = 0 ∧ p < e ∧ h p = 59
    · have h1 := rPt_b (g := h) (show p + 1 ≤ e by omega)
      rw [if_pos hc, if_pos ⟨hc.1, by omega, by rw [H p hp hc.2.1]; exact hc.2.2⟩, show a + p + 1 = a + (p + 1) by omega, sh_Pt H (by omega) (by omega)]
      dsimp only
      by_cases hd : (rPt h e (p + 1)).2.2 = 0 ∧ rf = 0
      · rw [if_pos hd, if_pos hd]
        exact sh_Tx H f _ _ _ _ (by omega) (by omega)
      · rw [if_neg hd, if_neg hd]
        exact sh_Tx H f _ _ _ _ (by omega) (by omega)
    · rw [if_neg hc, if_neg (fun x => hc ⟨x.1, by omega, by rw [← H p hp (by omega)]; exact x.2.2⟩)] <;> rfl
theorem sh_Text (H : sftd g h a e) {p w rf : Int} {Z : PZ} (hp : 0 ≤ p) (hpe : p ≤ e) : rText g (a + e) (a + p) w rf Z = (a + (rText h e p w rf Z).1, (rText h e p w rf Z).2) := by
  have h1 := rC_b (g := h) (bs := bsN) (w := w) hpe
  have e0 := sh_C H (bs := bsN) (w := w) hp
  have h2 := rBN_b (g := h) (m := 1) (w := (rC h e bsN p w).2.2) (by omega) h1.2.2.2.1
  have e1 : rZ1 g (a + e) (a + (rC h e bsN p w).2.1) (rC h e bsN p w).2.2 = ((rZ1 h e (rC h e bsN p w).2.1 (rC h e bsN p w).2.2).1, a + (rZ1 h e (rC h e bsN p w).2.1 (rC h e bsN p w).2.2).2.1, (rZ1 h e (rC h e bsN p w).2.1 (rC h e bsN p w).2.2).2.2) := sh_BN H (by omega) (by omega)
  have h3 := rBN_b (g := h) (m := 1) (w := (rZ1 h e (rC h e bsN p w).2.1 (rC h e bsN p w).2.2).2.2) (by omega) h2.2.1
  have e2 : rZ2 g (a + e) (a + (rC h e bsN p w).2.1) (rC h e bsN p w).2.2 = ((rZ2 h e (rC h e bsN p w).2.1 (rC h e bsN p w).2.2).1, a + (rZ2 h e (rC h e bsN p w).2.1 (rC h e bsN p w).2.2).2.1, (rZ2 h e (rC h e bsN p w).2.1 (rC h e bsN p w).2.2).2.2) := by
    unfold rZ2
    rw [e1]
    exact sh_BN H (by unfold rZ1; omega) h2.2.1
  have h4 := rBN_b (g := h) (m := 1) (w := (rZ2 h e (rC h e bsN p w).2.1 (rC h e bsN p w).2.2).2.2) (by omega) h3.2.1
  have e3 : rZ3 g (a + e) (a + (rC h e bsN p w).2.1) (rC h e bsN p w).2.2 = ((rZ3 h e (rC h e bsN p w).2.1 (rC h e bsN p w).2.2).1, a + (rZ3 h e (rC h e bsN p w).2.1 (rC h e bsN p w).2.2).2.1, (rZ3 h e (rC h e bsN p w).2.1 (rC h e bsN p w).2.2).2.2) := by
    unfold rZ3
    rw [e2]
    refine sh_BN H ?_ h3.2.1
    have := h3.1
    unfold rZ1 at this
    unfold rZ2 rZ1
    omega
  have q0 : 0 ≤ (rZ3 h e (rC h e bsN p w).2.1 (rC h e bsN p w).2.2).2.1 := by
    have t3 := h3.1
    have t4 := h4.1
    unfold rZ2 rZ1 at t4
    unfold rZ1 at t3
    unfold rZ3 rZ2 rZ1
    omega
  have q1 : (rZ3 h e (rC h e bsN p w).2.1 (rC h e bsN p w).2.2).2.1 ≤ e := h4.2.1
  unfold rText
  rw [e0]
  dsimp only
  rw [e1, e2, e3]
  dsimp only
  rw [show a + e - (a + (rZ3 h e (rC h e bsN p w).2.1 (rC h e bsN p w).2.2).2.1) = e - (rZ3 h e (rC h e bsN p w).2.1 (rC h e bsN p w).2.2).2.1 by omega]
  split
  · exact sh_Tx H _ _ _ _ _ q0 q1
  · exact sh_Tx H _ _ _ _ _ q0 q1
theorem rTx_rf {f : Nat} : ∀ {p w rf : Int} {Z : PZ}, rf ≠ 0 → (rTx g e f p w rf Z).2.2.1 = rf := by
  induction f with
  | zero => exact fun _ => rfl
  | succ f ih =>
    intro p w rf Z hr
    rw [rTx]
    split
    · rw [if_neg (fun x => hr x.2)]
      exact ih hr
    · rfl
theorem rTx_w2 {f : Nat} {p w rf : Int} {Z : PZ} (hw : w ≠ 0) : rTx g e f p w rf Z = (p, w, rf, Z) := by
  cases f with
  | zero => rfl
  | succ f =>
    rw [rTx, if_neg (fun x => hw x.1)]
/-- what stood in the puzzle before makes no odds -/
theorem rText_Z {p w : Int} {Z Y : PZ} : (rText g e p w 0 Z).2.2.1 = (rText g e p w 0 Y).2.2.1 ∧ ((rText g e p w 0 Z).2.1 = 0 → (rText g e p w 0 Z).2.2.1 = 0 → (rText g e p w 0 Z).2.2.2 = (rText g e p w 0 Y).2.2.2) := by
  unfold rText
  by_cases hw : (rZ3 g e (rC g e bsN p w).2.1 (rC g e bsN p w).2.2).2.2 = 0
  · rw [if_pos ⟨hw, rfl⟩, if_pos ⟨hw, rfl⟩]
    unfold q_size
    split
    · exact ⟨rfl, fun _ _ => rfl⟩
    · dsimp only
      rw [rTx_rf (by decide), rTx_rf (by decide)]
      exact ⟨rfl, fun _ h => absurd h (by decide)⟩
  · rw [if_neg (fun x => hw x.1), if_neg (fun x => hw x.1), rTx_w2 hw, rTx_w2 hw]
    exact ⟨rfl, fun h => absurd h hw⟩
end SHF
