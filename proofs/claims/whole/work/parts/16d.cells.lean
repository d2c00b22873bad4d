/-! SCAN: a blank and a name, a blank and digits, the cells of a rule. -/
/-- a blank, a name: from, length, wrong (the place behind is from + length) -/
def rBM (g : Int → Int) (e p w : Int) : Int × Int × Int := ((rT g e 32 p w).1, rNm g e (rT g e 32 p w).1 (rT g e 32 p w).2)
/-- a blank, digits: from, how many, wrong -/
def rDg (g : Int → Int) (e p w : Int) : Int × Int := if w = 0 then ((rDs g e (e - p).toNat p : Nat), if rDs g e (e - p).toNat p = 0 then 1 else 0) else (0, 1)
def rBD (g : Int → Int) (e p w : Int) : Int × Int × Int := ((rT g e 32 p w).1, rDg g e (rT g e 32 p w).1 (rT g e 32 p w).2)
theorem rDg_b {g : Int → Int} {e p w : Int} (h : p ≤ e) : 0 ≤ (rDg g e p w).1 ∧ p + (rDg g e p w).1 ≤ e ∧ 0 ≤ (rDg g e p w).2 ∧ (rDg g e p w).2 ≤ 1 := by
  have := rDs_b g e (e - p).toNat p h
  unfold rDg
  split
  · dsimp only
    refine ⟨by omega, by omega, ?_, ?_⟩ <;> split <;> omega
  · dsimp only
    omega
/-- the cells of a rule: a blank and a number, again while a blank is ahead: cells, place, wrong -/
def rR (g : Int → Int) (e : Int) : Nat → Bool → Int → Int → List Int × Int × Int
  | 0, _, p, w => ([], p, w)
  | f + 1, b, p, w => if w = 0 ∧ (b = true ∨ (p < e ∧ g p = 32)) then ((rBN g e 3 p w).1 :: (rR g e f false (rBN g e 3 p w).2.1 (rBN g e 3 p w).2.2).1, (rR g e f false (rBN g e 3 p w).2.1 (rBN g e 3 p w).2.2).2) else ([], p, w)
theorem rR_b {g : Int → Int} {e : Int} : ∀ (f : Nat) (b : Bool) (p w : Int), p ≤ e → 0 ≤ w → w ≤ 1 → p ≤ (rR g e f b p w).2.1 ∧ (rR g e f b p w).2.1 ≤ e ∧ 0 ≤ (rR g e f b p w).2.2 ∧ (rR g e f b p w).2.2 ≤ 1
  | 0, b, p, w, h, h0, h1 => by
    unfold rR
    dsimp only
    omega
  | f + 1, b, p, w, h, h0, h1 => by
    unfold rR
    split
    · have hb := rBN_b (g := g) (e := e) (m := 3) (p := p) (w := w) (by omega) h
      have ih := rR_b (g := g) (e := e) f false (rBN g e 3 p w).2.1 (rBN g e 3 p w).2.2 (by omega) (by omega) (by omega)
      dsimp only
      omega
    · dsimp only
      omega
/-- cells written from number c on; only four have room -/
def wcl (M : fx_M) (s : Nat) (c : Int) : List Int → fx_M
  | [] => M
  | v :: l => wcl (if c < 4 then fx_up (fx_up M (s + 3) c v) s 14 (c + 1) else fx_up M s 14 (c + 1)) s (c + 1) l
theorem wcl_rd {s : Nat} {p w : Int} : ∀ (l : List Int) (c : Int) (M : fx_M), wcl (rd M s p w) s c l = rd (wcl M s c l) s p w
  | [], _, _ => rfl
  | v :: l, c, M => by
    unfold wcl
    rw [← wcl_rd l]
    congr 1
    split
    · rw [up_rd (by omega), up_rd (by omega)]
    · rw [up_rd (by omega)]
section SC5
variable {L : Nat} {xs : Nat → Int32} {d s a n : Nat} {M : fx_M} {Q : Option fx_V → fx_M → Prop}
theorem sp_tellName (Hs : fx_scn s) (hS : sc_at M s a n) (K : Q none (rd (fx_up (fx_up M s 6 (rBM (M a) (M s 2) (M s 1) (M s 3)).1) s 7 (rBM (M a) (M s 2) (M s 1) (M s 3)).2.1) s ((rBM (M a) (M s 2) (M s 1) (M s 3)).1 + (rBM (M a) (M s 2) (M s 1) (M s 3)).2.1) (rBM (M a) (M s 2) (M s 1) (M s 3)).2.2)) : wc (kcs L xs) (d + 3) 39 [jR s] M Q := by
  have hp := sc_p hS
  have hb := rT_b (g := M a) (c := 32) (w := M s 3) hp.1
  refine s39 Hs (sp_take Hs hS (by omega) (s39_6 Hs ?_))
  have hS' := sc_at_rd (p := (rT (M a) (M s 2) 32 (M s 1) (M s 3)).1) (w := (rT (M a) (M s 2) 32 (M s 1) (M s 3)).2) Hs hS (by omega) (by omega)
  have hg := rd_g (p := (rT (M a) (M s 2) 32 (M s 1) (M s 3)).1) (v := (rT (M a) (M s 2) 32 (M s 1) (M s 3)).2) Hs hS
  refine sp_name Hs hS' (s39_10 Hs ?_)
  rw [hg.1, hg.2, rd_1, rd_3, up_rd (by omega), up_rd (by omega), rd_rd]
  exact K
theorem dig_loop (Hs : fx_scn s) : ∀ (k : Nat) (M : fx_M) (l : Int), sc_at M s a n → M s 3 = 0 → M s 9 = l → M s 1 + k = M s 2 → 0 ≤ l → l ≤ M s 1 → Q none (rd (fx_up M s 9 (l + rDs (M a) (M s 2) k (M s 1))) s (M s 1 + rDs (M a) (M s 2) k (M s 1)) (if l + rDs (M a) (M s 2) k (M s 1) = 0 then 1 else 0)) → wp (kcs L xs) (d + 2) 42 19 [some (jR s)] [] M Q := by
  intro k
  induction k with
  | zero =>
    intro M l hS h3 h7 hl h0 hl2 K
    obtain ⟨a0, a1, a2, a3, a4, a5, a6, a7, a8⟩ := hS
    have K : Q none (rd (fx_up M s 9 (l + ((0 : Nat) : Int))) s (M s 1 + ((0 : Nat) : Int)) (if l + ((0 : Nat) : Int) = 0 then 1 else 0)) := K
    have e1 : l + ((0 : Nat) : Int) = l := by omega
    have e2 : M s 1 + ((0 : Nat) : Int) = M s 1 := by omega
    rw [e1, e2, ← h7] at K
    have e3 : fx_up M s 9 (M s 9) = M := by
      funext b j
      by_cases h : b = s ∧ j = 9
      · obtain ⟨rfl, rfl⟩ := h
        rw [fx_up_self]
      · rw [fx_up_ne h]
    rw [e3] at K
    refine s42_19 (h1n := n) (h2n := n) (h3n := n) Hs ⟨⟨by omega, by omega⟩, fun h => absurd h3 h, fun _ => ⟨⟨⟨by omega, by omega⟩, ⟨by omega, by omega⟩⟩, fun _ => ⟨⟨by omega, by omega⟩, fun _ => ⟨by omega, by omega⟩, ⟨by (repeat' split) <;> omega, by (repeat' split) <;> omega⟩, ?_⟩, fun h => by omega⟩⟩
    rw [if_pos h3, rd_w]
    exact K
  | succ k ih =>
    intro M l hS h3 h7 hl h0 hl2 K
    have hS2 := hS
    obtain ⟨a0, a1, a2, a3, a4, a5, a6, a7, a8⟩ := hS
    have ea : (M s 0).toNat = a := by
      rw [a0]
      rfl
    have ha := scn_arr Hs a1
    have e3 : fx_up M s 9 (M s 9) = M := by
      funext b j
      by_cases h : b = s ∧ j = 9
      · obtain ⟨rfl, rfl⟩ := h
        rw [fx_up_self]
      · rw [fx_up_ne h]
    have stop : ¬ (M s 1 < M s 2 ∧ isD (M a (M s 1))) → Q none (fx_up M s 3 (if M s 3 = 0 then ((if M s 9 = 0 then (1 : Int) else 0) : Int) else 1)) := by
      intro hn
      unfold rDs at K
      rw [if_neg hn] at K
      have e1 : l + ((0 : Nat) : Int) = l := by omega
      have e2 : M s 1 + ((0 : Nat) : Int) = M s 1 := by omega
      rw [e1, e2, ← h7, e3] at K
      rw [if_pos h3, rd_w]
      exact K
    refine s42_19 (h1n := n) (h2n := n) (h3n := n) Hs ⟨⟨by omega, by omega⟩, fun h => absurd h3 h, fun _ => ⟨⟨⟨by omega, by omega⟩, ⟨by omega, by omega⟩⟩, fun h => by omega, fun hp => ?_⟩⟩
    rw [ea]
    have hg := a8 (M s 1) a3 (by omega)
    refine ⟨⟨⟨a1, by omega⟩, a3, by omega⟩, s43 ⟨⟨by omega, by omega⟩, fun _ => ⟨by omega, by omega⟩, ⟨by (repeat' split) <;> omega, by (repeat' split) <;> omega⟩, ?_⟩⟩
    by_cases hc : 48 ≤ M a (M s 1) ∧ M a (M s 1) ≤ 57
    · rw [if_neg (by omega), if_neg (by omega)]
      unfold rDs at K
      rw [if_pos ⟨hp, hc⟩] at K
      refine s42_49 Hs ⟨⟨by omega, by omega⟩, fun h => by omega, fun _ => ?_⟩
      have eM : fx_up (fx_up M s 1 (M s 1 + 1)) s 9 (M s 9 + 1) = rd (fx_up M s 9 (l + 1)) s (M s 1 + 1) 0 := by
        rw [rd_p, h3, h7, up_rd (by omega)]
      rw [eM]
      have hS7 : sc_at (fx_up M s 9 (l + 1)) s a n := sc_at_up hS2 (by omega) (by omega)
      have k2 : (fx_up M s 9 (l + 1)) s 2 = M s 2 := fx_up_nk (by decide)
      have hS' := sc_at_rd (p := M s 1 + 1) (w := 0) Hs hS7 (by omega) (by omega)
      have hg' := rd_g (p := M s 1 + 1) (v := 0) Hs hS7
      have ka : (fx_up M s 9 (l + 1)) a = M a := by
        funext j
        exact fx_up_na ha
      refine ih _ (l + 1) hS' (rd_3 _ _ _ _) (by rw [rd_ne (by omega), fx_up_self]) (by rw [rd_1, hg'.2, k2]; omega) (by omega) (by rw [rd_1]; omega) ?_
      rw [hg'.1, hg'.2, rd_1, up_rd (by omega), up_up, rd_rd, ka, k2]
      have e4 : l + 1 + (rDs (M a) (M s 2) k (M s 1 + 1) : Int) = l + ((rDs (M a) (M s 2) k (M s 1 + 1) + 1 : Nat) : Int) := by omega
      have e5 : M s 1 + 1 + (rDs (M a) (M s 2) k (M s 1 + 1) : Int) = M s 1 + ((rDs (M a) (M s 2) k (M s 1 + 1) + 1 : Nat) : Int) := by omega
      rw [e4, e5]
      exact K
    · have hz : (if M a (M s 1) < 48 then (0 : Int) else (if 57 < M a (M s 1) then (0 : Int) else 1)) = 0 := by
        (repeat' split) <;> omega
      rw [hz]
      exact s42_49 Hs ⟨⟨by omega, by omega⟩, fun _ => ⟨⟨by omega, by omega⟩, fun _ => ⟨by omega, by omega⟩, ⟨by (repeat' split) <;> omega, by (repeat' split) <;> omega⟩, stop (by omega)⟩, fun h => absurd rfl h⟩
theorem sp_tellDigits (Hs : fx_scn s) (hS : sc_at M s a n) (K : Q none (rd (fx_up (fx_up M s 8 (rBD (M a) (M s 2) (M s 1) (M s 3)).1) s 9 (rBD (M a) (M s 2) (M s 1) (M s 3)).2.1) s ((rBD (M a) (M s 2) (M s 1) (M s 3)).1 + (rBD (M a) (M s 2) (M s 1) (M s 3)).2.1) (rBD (M a) (M s 2) (M s 1) (M s 3)).2.2)) : wc (kcs L xs) (d + 2) 42 [jR s] M Q := by
  have hp := sc_p hS
  have hb := rT_b (g := M a) (c := 32) (w := M s 3) hp.1
  have ha := scn_arr Hs hS.2.1
  refine s42 Hs (sp_take Hs hS (by omega) (s42_6 Hs ?_))
  unfold rBD rDg at K
  generalize rT (M a) (M s 2) 32 (M s 1) (M s 3) = t at K hb
  have hS8 : sc_at (fx_up (fx_up M s 8 t.1) s 9 0) s a n := sc_at_up (sc_at_up hS (by omega) (by omega)) (by omega) (by omega)
  have eM : fx_up (fx_up (rd M s t.1 t.2) s 8 ((rd M s t.1 t.2) s 1)) s 9 0 = rd (fx_up (fx_up M s 8 t.1) s 9 0) s t.1 t.2 := by
    rw [rd_1, up_rd (by omega), up_rd (by omega)]
  rw [eM]
  have k2 : (fx_up (fx_up M s 8 t.1) s 9 0) s 2 = M s 2 := by rw [fx_up_nk (by decide), fx_up_nk (by decide)]
  have ka : (fx_up (fx_up M s 8 t.1) s 9 0) a = M a := by
    funext j
    rw [fx_up_na ha, fx_up_na ha]
  have hS' := sc_at_rd (p := t.1) (w := t.2) Hs hS8 (by omega) (by omega)
  have hg := rd_g (p := t.1) (v := t.2) Hs hS8
  have k9 : (rd (fx_up (fx_up M s 8 t.1) s 9 0) s t.1 t.2) s 9 = 0 := by rw [rd_ne (by omega), fx_up_self]
  by_cases h3 : t.2 = 0
  · rw [if_pos h3] at K
    refine dig_loop Hs (M s 2 - t.1).toNat _ 0 hS' (by rw [rd_3, h3]) k9 (by rw [rd_1, hg.2, k2]; omega) (by omega) (by rw [rd_1]; omega) ?_
    rw [hg.1, hg.2, rd_1, ka, k2, up_rd (by omega), up_up, rd_rd]
    have e1 : (0 : Int) + (rDs (M a) (M s 2) (M s 2 - t.1).toNat t.1 : Int) = (rDs (M a) (M s 2) (M s 2 - t.1).toNat t.1 : Int) := by omega
    have e2 : (if (rDs (M a) (M s 2) (M s 2 - t.1).toNat t.1 : Int) = 0 then (1 : Int) else 0) = if rDs (M a) (M s 2) (M s 2 - t.1).toNat t.1 = 0 then 1 else 0 := by
      by_cases h : rDs (M a) (M s 2) (M s 2 - t.1).toNat t.1 = 0
      · rw [if_pos h, if_pos (by omega)]
      · rw [if_neg h, if_neg (by omega)]
    rw [e1, e2]
    exact K
  · rw [if_neg h3] at K
    have e0 : t.1 + 0 = t.1 := by omega
    dsimp only at K
    rw [e0] at K
    refine s42_19 (h1n := n) (h2n := n) (h3n := n) Hs ?_
    rw [rd_3, k9]
    refine ⟨⟨by omega, by omega⟩, fun _ => ⟨⟨by omega, by omega⟩, fun h => absurd h h3, ⟨by (repeat' split) <;> omega, by (repeat' split) <;> omega⟩, ?_⟩, fun h => absurd h h3⟩
    rw [if_neg h3, rd_w, rd_1, rd_rd]
    exact K
theorem rc_loop (Hs : fx_scn s) : ∀ (f : Nat) (M : fx_M) (c i : Int), sc_at M s a n → a ≠ s + 3 → M s 14 = c → 0 ≤ c → c ≤ M s 2 → (M s 3 = 0 → i ≤ M s 1) → (M s 3 = 0 → c ≤ M s 1) → 0 ≤ i → i ≤ M s 2 + 1 → M s 2 - M s 1 < f → Q none (rd (wcl M s c (rR (M a) (M s 2) f (decide (c = 0)) (M s 1) (M s 3)).1) s (rR (M a) (M s 2) f (decide (c = 0)) (M s 1) (M s 3)).2.1 (rR (M a) (M s 2) f (decide (c = 0)) (M s 1) (M s 3)).2.2) → wp (kcs L xs) (d + 2) 47 10 [some (jR s), some (jI i), none] [] M Q := by
  intro f
  induction f with
  | zero =>
    intro M c i hS hne h14 h0 hce hi hci hi0 hie hf K
    have := sc_p hS
    omega
  | succ f ih =>
    intro M c i hS hne h14 h0 hce hi hci hi0 hie hf K
    have hS2 := hS
    obtain ⟨a0, a1, a2, a3, a4, a5, a6, a7, a8⟩ := hS
    have ha := scn_arr Hs a1
    have stop : ¬ (M s 3 = 0 ∧ (decide (c = 0) = true ∨ (M s 1 < M s 2 ∧ M a (M s 1) = 32))) → Q none M := by
      intro hn
      unfold rR at K
      rw [if_neg hn] at K
      have K : Q none (rd M s (M s 1) (M s 3)) := K
      rw [rd_id] at K
      exact K
    have go : M s 3 = 0 → (decide (c = 0) = true ∨ (M s 1 < M s 2 ∧ M a (M s 1) = 32)) → wc (kcs L xs) (d + 1) 34 [jR s, jI 32] M (fun v M1 => wp (kcs L xs) (d + 2) 47 47 [some (jR s), some (jI i), none] (v.toList ++ []) M1 Q) := by
      intro h3 hc
      unfold rR at K
      rw [if_pos ⟨h3, hc⟩] at K
      have hb := rT_b (g := M a) (c := 32) (w := M s 3) a4
      refine sp_take Hs hS2 (by omega) (s47_47 Hs ?_)
      have hS' := sc_at_rd (p := (rT (M a) (M s 2) 32 (M s 1) (M s 3)).1) (w := (rT (M a) (M s 2) 32 (M s 1) (M s 3)).2) Hs hS2 (by omega) (by omega)
      have hg := rd_g (p := (rT (M a) (M s 2) 32 (M s 1) (M s 3)).1) (v := (rT (M a) (M s 2) 32 (M s 1) (M s 3)).2) Hs hS2
      refine sp_num (m := 3) Hs hS' (by omega) ?_
      rw [hg.1, hg.2, rd_1, rd_3, rd_rd]
      have hq := rBN_b (g := M a) (e := M s 2) (m := 3) (p := M s 1) (w := M s 3) (by omega) a4
      have hq2 := rBN_2 (g := M a) (e := M s 2) (m := 3) (p := M s 1) (w := M s 3) (by omega) a4
      show wp (kcs L xs) (d + 2) 47 52 [some (jR s), some (jI i), none] [jI (rBN (M a) (M s 2) 3 (M s 1) (M s 3)).1] (rd M s (rBN (M a) (M s 2) 3 (M s 1) (M s 3)).2.1 (rBN (M a) (M s 2) 3 (M s 1) (M s 3)).2.2) Q
      generalize rBN (M a) (M s 2) 3 (M s 1) (M s 3) = q at K hq hq2
      have hS3 := sc_at_rd (p := q.2.1) (w := q.2.2) Hs hS2 (by omega) (by omega)
      have hg3 := rd_g (p := q.2.1) (v := q.2.2) Hs hS2
      have r14 : (rd M s q.2.1 q.2.2) s 14 = c := by rw [rd_ne (by omega), h14]
      have hcd : decide (c + 1 = 0) = false := by
        rw [decide_eq_false_iff_not]
        omega
      have hce2 : c + 1 ≤ M s 2 ∨ M s 2 < c + 1 := by omega
      refine s47_52 Hs ?_
      rw [r14]
      refine ⟨⟨by omega, by omega⟩, fun h4 => ?_, fun h4 => ⟨⟨by omega, by omega⟩, ?_⟩⟩
      · have hSn : sc_at (fx_up (rd M s q.2.1 q.2.2) s 14 (c + 1)) s a n := sc_at_up hS3 (by omega) (by omega)
        have n1 : (fx_up (rd M s q.2.1 q.2.2) s 14 (c + 1)) s 1 = q.2.1 := by rw [fx_up_nk (by decide), rd_1]
        have n2 : (fx_up (rd M s q.2.1 q.2.2) s 14 (c + 1)) s 2 = M s 2 := by rw [fx_up_nk (by decide), hg3.2]
        have n3 : (fx_up (rd M s q.2.1 q.2.2) s 14 (c + 1)) s 3 = q.2.2 := by rw [fx_up_nk (by decide), rd_3]
        have na : (fx_up (rd M s q.2.1 q.2.2) s 14 (c + 1)) a = M a := by
          funext j
          rw [fx_up_na ha, hg3.1]
        by_cases hw : q.2.2 = 0
        · refine ih _ (c + 1) (i + 1) hSn hne (fx_up_self _ _ _ _) (by omega) (by omega) (fun _ => by omega) (fun _ => by omega) (by omega) (by omega) (by omega) ?_
          rw [na, n1, n2, n3, hcd, up_rd (by omega), wcl_rd, rd_rd]
          unfold wcl at K
          rw [if_neg (by omega)] at K
          exact K
        · have eR : rR (M a) (M s 2) f false q.2.1 q.2.2 = ([], q.2.1, q.2.2) := by
            cases f with
            | zero => rfl
            | succ f =>
              unfold rR
              rw [if_neg (by omega)]
          rw [eR] at K
          unfold wcl wcl at K
          rw [if_neg (by omega), ← up_rd (by omega)] at K
          refine s47_10 Hs ?_
          rw [n2, n3]
          exact ⟨⟨⟨by omega, by omega⟩, ⟨by omega, by omega⟩⟩, fun _ => K, fun _ => ⟨⟨by omega, by omega⟩, fun _ => K, fun h => absurd h hw⟩⟩
      · have hSn : sc_at (fx_up (fx_up (rd M s q.2.1 q.2.2) (s + 3) c q.1) s 14 (c + 1)) s a n := sc_at_up (sc_at_up hS3 (by omega) (by omega)) (by omega) (by omega)
        have n1 : (fx_up (fx_up (rd M s q.2.1 q.2.2) (s + 3) c q.1) s 14 (c + 1)) s 1 = q.2.1 := by rw [fx_up_nk (by decide), fx_up_na (by omega), rd_1]
        have n2 : (fx_up (fx_up (rd M s q.2.1 q.2.2) (s + 3) c q.1) s 14 (c + 1)) s 2 = M s 2 := by rw [fx_up_nk (by decide), fx_up_na (by omega), hg3.2]
        have n3 : (fx_up (fx_up (rd M s q.2.1 q.2.2) (s + 3) c q.1) s 14 (c + 1)) s 3 = q.2.2 := by rw [fx_up_nk (by decide), fx_up_na (by omega), rd_3]
        have na : (fx_up (fx_up (rd M s q.2.1 q.2.2) (s + 3) c q.1) s 14 (c + 1)) a = M a := by
          funext j
          rw [fx_up_na ha, fx_up_na hne, hg3.1]
        by_cases hw : q.2.2 = 0
        · refine ih _ (c + 1) (i + 1) hSn hne (fx_up_self _ _ _ _) (by omega) (by omega) (fun _ => by omega) (fun _ => by omega) (by omega) (by omega) (by omega) ?_
          rw [na, n1, n2, n3, hcd, up_rd (by omega), up_rd (by omega), wcl_rd, rd_rd]
          unfold wcl at K
          rw [if_pos h4] at K
          exact K
        · have eR : rR (M a) (M s 2) f false q.2.1 q.2.2 = ([], q.2.1, q.2.2) := by
            cases f with
            | zero => rfl
            | succ f =>
              unfold rR
              rw [if_neg (by omega)]
          rw [eR] at K
          unfold wcl wcl at K
          rw [if_pos h4, ← up_rd (by omega), ← up_rd (by omega)] at K
          refine s47_10 Hs ?_
          rw [n2, n3]
          exact ⟨⟨⟨by omega, by omega⟩, ⟨by omega, by omega⟩⟩, fun _ => K, fun _ => ⟨⟨by omega, by omega⟩, fun _ => K, fun h => absurd h hw⟩⟩
    refine s47_10 Hs ⟨⟨⟨by omega, by omega⟩, ⟨by omega, by omega⟩⟩, fun h => stop (by
      intro hx
      have := hi hx.1
      omega), fun _ => ⟨⟨by omega, by omega⟩, fun h => stop (by omega), fun h3 => ⟨⟨by omega, by omega⟩, fun h => go h3 (Or.inl (by rw [decide_eq_true_eq]; omega)), fun h => ?_⟩⟩⟩
    have hc0 : ¬ decide (c = 0) = true := by
      rw [decide_eq_true_eq]
      omega
    refine sp_ahead Hs hS2 (by omega) (fun h1 h2 h3' => s47_38 Hs ⟨⟨by omega, by omega⟩, fun h => by omega, fun _ => go h1 (Or.inr ⟨h2, h3'⟩)⟩) (fun hn => s47_38 Hs ⟨⟨by omega, by omega⟩, fun _ => stop ?_, fun h => absurd rfl h⟩)
    intro hx
    rcases hx.2 with h | h
    · exact hc0 h
    · exact hn ⟨hx.1, h⟩
theorem sp_ruleCells (Hs : fx_scn s) (hS : sc_at M s a n) (hne : a ≠ s + 3) (K : Q none (rd (wcl (fx_up M s 14 0) s 0 (rR (M a) (M s 2) ((M s 2 - M s 1).toNat + 1) true (M s 1) (M s 3)).1) s (rR (M a) (M s 2) ((M s 2 - M s 1).toNat + 1) true (M s 1) (M s 3)).2.1 (rR (M a) (M s 2) ((M s 2 - M s 1).toNat + 1) true (M s 1) (M s 3)).2.2)) : wc (kcs L xs) (d + 2) 47 [jR s] M Q := by
  have hp := sc_p hS
  have ha := scn_arr Hs hS.2.1
  have hS' : sc_at (fx_up M s 14 0) s a n := sc_at_up hS (by omega) (by omega)
  have n1 : (fx_up M s 14 0) s 1 = M s 1 := fx_up_nk (by decide)
  have n2 : (fx_up M s 14 0) s 2 = M s 2 := fx_up_nk (by decide)
  have n3 : (fx_up M s 14 0) s 3 = M s 3 := fx_up_nk (by decide)
  have na : (fx_up M s 14 0) a = M a := by
    funext j
    exact fx_up_na ha
  refine s47 Hs (rc_loop Hs ((M s 2 - M s 1).toNat + 1) _ 0 (M s 1) hS' hne (fx_up_self _ _ _ _) (by omega) (by omega) (fun _ => by omega) (fun _ => by omega) (by omega) (by omega) (by omega) ?_)
  rw [na, n1, n2, n3]
  exact K
end SC5
