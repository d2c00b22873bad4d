/-! TEXTS read: the parts of a puzzle's text (the class). -/
/-- what a part asks: which (0 rule, 1 each, 2 give), kind, number, cells, side or cell, symbol -/
abbrev PO : Type := Int × Int × Int × List Int × Int × Int
def q_op (Z : PZ) (o : PO) : Int × PZ := if o.1 = 0 then q_rule Z o.2.1 o.2.2.1 o.2.2.2.1 else if o.1 = 1 then q_each Z o.2.2.2.2.1 o.2.1 o.2.2.1 else q_give Z o.2.2.2.2.1 o.2.2.2.2.2
/-- a part behind its semicolon: what it asks, place, wrong -/
def rPt (g : Int → Int) (e p : Int) : PO × Int × Int :=
  if (rC g e bsP p 0).1 = 0 then ((0, (rK g e bsK (rC g e bsP p 0).2.1 (rC g e bsP p 0).2.2).1, (rK g e bsK (rC g e bsP p 0).2.1 (rC g e bsP p 0).2.2).2.1, (rR g e ((e - (rK g e bsK (rC g e bsP p 0).2.1 (rC g e bsP p 0).2.2).2.2.1).toNat + 1) true (rK g e bsK (rC g e bsP p 0).2.1 (rC g e bsP p 0).2.2).2.2.1 (rK g e bsK (rC g e bsP p 0).2.1 (rC g e bsP p 0).2.2).2.2.2).1, 0, 0), (rR g e ((e - (rK g e bsK (rC g e bsP p 0).2.1 (rC g e bsP p 0).2.2).2.2.1).toNat + 1) true (rK g e bsK (rC g e bsP p 0).2.1 (rC g e bsP p 0).2.2).2.2.1 (rK g e bsK (rC g e bsP p 0).2.1 (rC g e bsP p 0).2.2).2.2.2).2)
  else if (rC g e bsP p 0).1 = 1 then ((1, (rK g e bsK (rSd g e (rC g e bsP p 0).2.1 (rC g e bsP p 0).2.2).2.1 (rSd g e (rC g e bsP p 0).2.1 (rC g e bsP p 0).2.2).2.2).1, (rK g e bsK (rSd g e (rC g e bsP p 0).2.1 (rC g e bsP p 0).2.2).2.1 (rSd g e (rC g e bsP p 0).2.1 (rC g e bsP p 0).2.2).2.2).2.1, [], (rSd g e (rC g e bsP p 0).2.1 (rC g e bsP p 0).2.2).1, 0), (rK g e bsK (rSd g e (rC g e bsP p 0).2.1 (rC g e bsP p 0).2.2).2.1 (rSd g e (rC g e bsP p 0).2.1 (rC g e bsP p 0).2.2).2.2).2.2)
  else ((2, 0, 0, [], (rBN g e 3 (rC g e bsP p 0).2.1 (rC g e bsP p 0).2.2).1, (rBN g e 1 (rBN g e 3 (rC g e bsP p 0).2.1 (rC g e bsP p 0).2.2).2.1 (rBN g e 3 (rC g e bsP p 0).2.1 (rC g e bsP p 0).2.2).2.2).1), (rBN g e 1 (rBN g e 3 (rC g e bsP p 0).2.1 (rC g e bsP p 0).2.2).2.1 (rBN g e 3 (rC g e bsP p 0).2.1 (rC g e bsP p 0).2.2).2.2).2)
/-- the parts: place, wrong, refusal, puzzle -/
def rTx (g : Int → Int) (e : Int) : Nat → Int → Int → Int → PZ → Int × Int × Int × PZ
  | 0, p, w, rf, Z => (p, w, rf, Z)
  | f + 1, p, w, rf, Z => if w = 0 ∧ p < e ∧ g p = 59 then (if (rPt g e (p + 1)).2.2 = 0 ∧ rf = 0 then rTx g e f (rPt g e (p + 1)).2.1 (rPt g e (p + 1)).2.2 (q_op Z (rPt g e (p + 1)).1).1 (q_op Z (rPt g e (p + 1)).1).2 else rTx g e f (rPt g e (p + 1)).2.1 (rPt g e (p + 1)).2.2 rf Z) else (p, w, rf, Z)
theorem rTx_w {g : Int → Int} {e : Int} {f : Nat} {p rf : Int} {Z : PZ} : rTx g e f p 1 rf Z = (p, 1, rf, Z) := by
  cases f with
  | zero => rfl
  | succ f =>
    unfold rTx
    rw [if_neg (by omega)]
theorem rR_l {g : Int → Int} {e : Int} : ∀ (f : Nat) (b : Bool) (p w : Int), p ≤ e → (∀ c ∈ (rR g e f b p w).1, 0 ≤ c ∧ c < 1000) ∧ ((rR g e f b p w).1.length : Int) ≤ f
  | 0, b, p, w, h => by
    unfold rR
    simp
  | f + 1, b, p, w, h => by
    have hb := rBN_b (g := g) (e := e) (m := 3) (p := p) (w := w) (by omega) h
    have ih := rR_l (g := g) (e := e) f false (rBN g e 3 p w).2.1 (rBN g e 3 p w).2.2 (by omega)
    have e3 : ((10 ^ 3 : Nat) : Int) = 1000 := rfl
    unfold rR
    split
    · refine ⟨fun c hc => ?_, ?_⟩
      · rcases List.mem_cons.mp hc with rfl | hc
        · omega
        · exact ih.1 c hc
      · simp only [List.length_cons]
        omega
    · simp
      omega
theorem rR_1 {g : Int → Int} {e : Int} {f : Nat} {p w : Int} (h0 : (rR g e (f + 1) true p w).2.2 = 0) : 1 ≤ (rR g e (f + 1) true p w).1.length := by
  unfold rR at *
  split at h0
  · next hc =>
    rw [if_pos hc]
    simp
  · next hc =>
    have : w = 0 := h0
    exact absurd ⟨this, Or.inl rfl⟩ hc
theorem rPt_b {g : Int → Int} {e p : Int} (h : p ≤ e) : p ≤ (rPt g e p).2.1 ∧ (rPt g e p).2.1 ≤ e ∧ 0 ≤ (rPt g e p).2.2 ∧ (rPt g e p).2.2 ≤ 1 := by
  have hc := rC_b (g := g) (e := e) (bs := bsP) (p := p) (w := 0) h
  unfold rPt
  split
  · have hk := rK_b (g := g) (e := e) (bs := bsK) (p := (rC g e bsP p 0).2.1) (w := (rC g e bsP p 0).2.2) (by omega)
    have hr := rR_b (g := g) (e := e) ((e - (rK g e bsK (rC g e bsP p 0).2.1 (rC g e bsP p 0).2.2).2.2.1).toNat + 1) true (rK g e bsK (rC g e bsP p 0).2.1 (rC g e bsP p 0).2.2).2.2.1 (rK g e bsK (rC g e bsP p 0).2.1 (rC g e bsP p 0).2.2).2.2.2 (by omega) (by omega) (by omega)
    dsimp only
    omega
  · split
    · have hs := rSd_b (g := g) (e := e) (p := (rC g e bsP p 0).2.1) (w := (rC g e bsP p 0).2.2) (by omega)
      have hk := rK_b (g := g) (e := e) (bs := bsK) (p := (rSd g e (rC g e bsP p 0).2.1 (rC g e bsP p 0).2.2).2.1) (w := (rSd g e (rC g e bsP p 0).2.1 (rC g e bsP p 0).2.2).2.2) (by omega)
      dsimp only
      omega
    · have h1 := rBN_b (g := g) (e := e) (m := 3) (p := (rC g e bsP p 0).2.1) (w := (rC g e bsP p 0).2.2) (by omega) (by omega)
      have h2 := rBN_b (g := g) (e := e) (m := 1) (p := (rBN g e 3 (rC g e bsP p 0).2.1 (rC g e bsP p 0).2.2).2.1) (w := (rBN g e 3 (rC g e bsP p 0).2.1 (rC g e bsP p 0).2.2).2.2) (by omega) (by omega)
      dsimp only
      omega
theorem scn_puz {s p : Nat} (Hs : fx_scn s) (Hp : fx_puz p) : ¬ (p ≤ s ∧ s ≤ p + 8) ∧ ¬ (p ≤ s + 3 ∧ s + 3 ≤ p + 8) := by
  unfold fx_scn at Hs
  unfold fx_puz at Hp
  simp at Hs Hp
  omega
theorem fx_a_cells {s : Nat} (Hs : fx_scn s) : fx_a (s + 3) = some (0, 4) := by
  have h : ∀ q ∈ [7, 129], fx_a (q + 3) = some (0, 4) := by decide +kernel
  exact h s Hs
section RFE
variable {L : Nat} {xs : Nat → Int32} {d : Nat} {M : fx_M} {Q : Option fx_V → fx_M → Prop}
theorem rfa_lit {a : Nat} {r : Int} (h : rfa a r) : fx_lit (kcs L xs) a := by
  unfold rfa at h
  rcases h with ⟨-, rfl | rfl⟩ | ⟨-, rfl⟩ | ⟨-, rfl⟩ | ⟨-, rfl⟩ | ⟨-, rfl⟩ | ⟨-, rfl⟩
  · exact ⟨_, lt_1000013⟩
  · exact ⟨_, lt_1000001⟩
  · exact ⟨_, lt_1000011⟩
  · exact ⟨_, lt_1000017⟩
  · exact ⟨_, lt_1000019⟩
  · exact ⟨_, lt_1000021⟩
  · exact ⟨_, lt_1000023⟩
theorem sp_rfEmpty {a : Nat} {r : Int} (h : rfa a r) (K : Q (some (jI (if r = 0 then 1 else 0))) M) : wc (kcs L xs) (d + 1) 50 [jR a] M Q := by
  unfold rfa at h
  rcases h with ⟨rfl, rfl | rfl⟩ | ⟨rfl, rfl⟩ | ⟨rfl, rfl⟩ | ⟨rfl, rfl⟩ | ⟨rfl, rfl⟩ | ⟨rfl, rfl⟩
  · exact sp_isEmpty lt_1000013 K
  · exact sp_isEmpty lt_1000001 K
  · exact sp_isEmpty lt_1000011 K
  · exact sp_isEmpty lt_1000017 K
  · exact sp_isEmpty lt_1000019 K
  · exact sp_isEmpty lt_1000021 K
  · exact sp_isEmpty lt_1000023 K
end RFE
