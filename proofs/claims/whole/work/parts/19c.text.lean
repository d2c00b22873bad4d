/-! TEXTS read: the class's loop over the parts. -/
/-- reading s out of a, into the puzzle object p, which holds Z; rf was refused before -/
def tx_st (M : fx_M) (s p a n : Nat) (rf : Int) (Z : PZ) : Prop := sc_at M s a n ∧ 0 ≤ M s 4 ∧ rfa (M s 4).toNat rf ∧ cz M p Z ∧ pz_ok Z
def tfr (s p : Nat) (M M' : fx_M) : Prop := (∀ b j, b ≠ s → b ≠ s + 3 → ¬ (p ≤ b ∧ b ≤ p + 8) → M' b j = M b j) ∧ M' s 2 = M s 2 ∧ M' s 0 = M s 0
theorem tfr_rf (s p : Nat) (M : fx_M) : tfr s p M M := ⟨fun _ _ _ _ _ => rfl, rfl, rfl⟩
theorem tfr_tr {s p : Nat} {M N P : fx_M} (h1 : tfr s p M N) (h2 : tfr s p N P) : tfr s p M P := ⟨fun b j a1 a2 a3 => by rw [h2.1 b j a1 a2 a3, h1.1 b j a1 a2 a3], by rw [h2.2.1, h1.2.1], by rw [h2.2.2, h1.2.2]⟩
/-- only reading has changed N from M -/
def rfr (s : Nat) (M N : fx_M) : Prop := ∀ b j, ¬ (b = s ∧ j ≠ 0 ∧ j ≠ 2 ∧ j ≠ 4) → b ≠ s + 3 → N b j = M b j
theorem rfr_tfr {s p : Nat} {M N : fx_M} (h : rfr s M N) : tfr s p M N := ⟨fun b j a1 a2 _ => h b j (by omega) a2, h s 2 (by omega) (by omega), h s 0 (by omega) (by omega)⟩
theorem rfr_rf (s : Nat) (M : fx_M) : rfr s M M := fun _ _ _ _ => rfl
theorem rfr_tr {s : Nat} {M N P : fx_M} (h1 : rfr s M N) (h2 : rfr s N P) : rfr s M P := fun b j a1 a2 => by rw [h2 b j a1 a2, h1 b j a1 a2]
theorem rfr_rd {s : Nat} {M N : fx_M} {p w : Int} (h : rfr s M N) : rfr s M (rd N s p w) := fun b j a1 a2 => by rw [rd_ne (by omega), h b j a1 a2]
theorem rfr_up {s : Nat} {M N : fx_M} {k v : Int} (hk : k ≠ 0 ∧ k ≠ 2 ∧ k ≠ 4) (h : rfr s M N) : rfr s M (fx_up N s k v) := fun b j a1 a2 => by rw [fx_up_ne (by omega), h b j a1 a2]
theorem rfr_cl {s : Nat} {M N : fx_M} {k v : Int} (h : rfr s M N) : rfr s M (fx_up N (s + 3) k v) := fun b j a1 a2 => by rw [fx_up_na a2, h b j a1 a2]
theorem wcl_fr {s : Nat} : ∀ (l : List Int) (c : Int) (M : fx_M) (b : Nat) (j : Int), ¬ (b = s ∧ j = 14) → b ≠ s + 3 → (wcl M s c l) b j = M b j
  | [], _, _, _, _, _, _ => rfl
  | v :: l, c, M, b, j, h1, h2 => by
    unfold wcl
    rw [wcl_fr l _ _ b j h1 h2]
    split
    · rw [fx_up_ne h1, fx_up_na h2]
    · rw [fx_up_ne h1]
theorem wcl_len {s : Nat} : ∀ (l : List Int) (c : Int) (M : fx_M), M s 14 = c → (wcl M s c l) s 14 = c + l.length
  | [], c, M, h => by
    show M s 14 = c + (([] : List Int).length : Int)
    rw [h]
    simp
  | v :: l, c, M, h => by
    unfold wcl
    rw [wcl_len l (c + 1) _ (by split <;> exact fx_up_self _ _ _ _)]
    simp only [List.length_cons]
    omega
theorem wcl_lt {s : Nat} : ∀ (l : List Int) (c : Int) (M : fx_M) (j : Int), j < c → (wcl M s c l) (s + 3) j = M (s + 3) j
  | [], _, _, _, _ => rfl
  | v :: l, c, M, j, h => by
    unfold wcl
    rw [wcl_lt l (c + 1) _ j (by omega)]
    split
    · rw [fx_up_na (by omega), fx_up_nk (by omega)]
    · rw [fx_up_na (by omega)]
theorem wcl_at {s : Nat} : ∀ (l : List Int) (c : Int) (M : fx_M) (i : Nat) (v : Int), l[i]? = some v → c + i < 4 → 0 ≤ c → (wcl M s c l) (s + 3) (c + i) = v
  | [], _, _, _, _, h, _, _ => by simp at h
  | x :: l, c, M, 0, v, h, h4, h0 => by
    have : x = v := by simpa using h
    subst this
    unfold wcl
    rw [show c + ((0 : Nat) : Int) = c by omega, wcl_lt l (c + 1) _ c (by omega), if_pos (by omega), fx_up_na (by omega), fx_up_self]
  | x :: l, c, M, i + 1, v, h, h4, h0 => by
    unfold wcl
    rw [show c + ((i + 1 : Nat) : Int) = c + 1 + i by omega]
    exact wcl_at l (c + 1) _ i v (by simpa using h) (by omega) (by omega)
theorem cz_rfr {s p : Nat} {M N : fx_M} {Z : PZ} (Hs : fx_scn s) (Hp : fx_puz p) (h : rfr s M N) (hz : cz M p Z) : cz N p Z := by
  have hd := scn_puz Hs Hp
  have f : ∀ (b : Nat) (j : Int), p ≤ b → b ≤ p + 8 → N b j = M b j := fun b j h1 h2 => h b j (by omega) (by omega)
  obtain ⟨z0, z1, z2, z3, z4, z5, z6, z7, z8, zw⟩ := hz
  refine ⟨by rw [f _ _ (by omega) (by omega)]; exact z0, by rw [f _ _ (by omega) (by omega)]; exact z1, by rw [f _ _ (by omega) (by omega)]; exact z2, by rw [f _ _ (by omega) (by omega)]; exact z3, by rw [f _ _ (by omega) (by omega)]; exact z4, fun r R hR => ?_, fun c hc => by rw [f _ _ (by omega) (by omega)]; exact z6 c hc, by rw [f _ _ (by omega) (by omega)]; exact z7, by rw [f _ _ (by omega) (by omega)]; exact z8, wys_fr zw (f _ _ (by omega) (by omega)) (fun j => f _ _ (by omega) (by omega))⟩
  obtain ⟨a1, a2, a3, a4, a5⟩ := z5 r R hR
  exact ⟨by rw [f _ _ (by omega) (by omega)]; exact a1, by rw [f _ _ (by omega) (by omega)]; exact a2, by rw [f _ _ (by omega) (by omega)]; exact a3, fun i hi => by rw [f _ _ (by omega) (by omega)]; exact a4 i hi, by rw [f _ _ (by omega) (by omega)]; exact a5⟩
section TXL
variable {L : Nat} {xs : Nat → Int32} {d s p a n : Nat} {Q : Option fx_V → fx_M → Prop} {rf : Int} {Z : PZ}
theorem tx_read {M N : fx_M} (Hs : fx_scn s) (Hp : fx_puz p) (ha3 : a ≠ s + 3) (h : tx_st M s p a n rf Z) (hr : rfr s M N) (h1 : 0 ≤ N s 1 ∧ N s 1 ≤ M s 2) (h3 : 0 ≤ N s 3 ∧ N s 3 ≤ 1) : tx_st N s p a n rf Z := by
  obtain ⟨⟨a0, a1, a2, a3, a4, a5, a6, a7, a8⟩, b1, b2, b3, b4⟩ := h
  have ha := scn_arr Hs a1
  have e0 : N s 0 = M s 0 := hr s 0 (by omega) (by omega)
  have e2 : N s 2 = M s 2 := hr s 2 (by omega) (by omega)
  have e4 : N s 4 = M s 4 := hr s 4 (by omega) (by omega)
  refine ⟨⟨by rw [e0]; exact a0, a1, a2, h1.1, by omega, by omega, h3.1, h3.2, fun j j0 j1 => by rw [hr a j (by omega) ha3]; exact a8 j j0 j1⟩, by omega, by rw [e4]; exact b2, cz_rfr Hs Hp hr b3, b4⟩
/-- behind an operation of the puzzle: its answer is what was refused -/
theorem tx_did {N P : fx_M} {b : Nat} {r : Int} {Z' : PZ} (Hs : fx_scn s) (Hp : fx_puz p) (hap : ¬ (p ≤ a ∧ a ≤ p + 8)) (h : tx_st N s p a n rf Z) (hb : rfa b r) (hz : cz P p Z') (ho : pz_ok Z') (hf : pfr p N P) : tx_st (fx_up P s 4 ((b : Nat) : Int)) s p a n r Z' ∧ tfr s p N (fx_up P s 4 ((b : Nat) : Int)) ∧ (fx_up P s 4 ((b : Nat) : Int)) s 1 = N s 1 ∧ (fx_up P s 4 ((b : Nat) : Int)) s 3 = N s 3 := by
  obtain ⟨⟨a0, a1, a2, a3, a4, a5, a6, a7, a8⟩, b1, b2, b3, b4⟩ := h
  have ha := scn_arr Hs a1
  have hd := scn_puz Hs Hp
  have e : ∀ j : Int, j ≠ 4 → (fx_up P s 4 ((b : Nat) : Int)) s j = N s j := fun j hj => by rw [fx_up_nk hj, hf s j hd.1]
  refine ⟨⟨⟨by rw [e 0 (by decide)]; exact a0, a1, a2, by rw [e 1 (by decide)]; exact a3, by rw [e 1 (by decide), e 2 (by decide)]; exact a4, by rw [e 2 (by decide)]; exact a5, by rw [e 3 (by decide)]; exact a6, by rw [e 3 (by decide)]; exact a7, fun j j0 j1 => by rw [fx_up_na ha, hf a j hap]; exact a8 j j0 j1⟩, by rw [fx_up_self]; omega, by rw [fx_up_self]; exact hb, ?_, ho⟩, ⟨fun c j c1 c2 c3 => by rw [fx_up_na c1, hf c j c3], e 2 (by decide), e 0 (by decide)⟩, e 1 (by decide), e 3 (by decide)⟩
  have f : ∀ (c : Nat) (j : Int), p ≤ c → c ≤ p + 8 → (fx_up P s 4 ((b : Nat) : Int)) c j = P c j := fun c j h1 h2 => fx_up_na (by omega)
  obtain ⟨z0, z1, z2, z3, z4, z5, z6, z7, z8, zw⟩ := hz
  refine ⟨by rw [f _ _ (by omega) (by omega)]; exact z0, by rw [f _ _ (by omega) (by omega)]; exact z1, by rw [f _ _ (by omega) (by omega)]; exact z2, by rw [f _ _ (by omega) (by omega)]; exact z3, by rw [f _ _ (by omega) (by omega)]; exact z4, fun r R hR => ?_, fun c hc => by rw [f _ _ (by omega) (by omega)]; exact z6 c hc, by rw [f _ _ (by omega) (by omega)]; exact z7, by rw [f _ _ (by omega) (by omega)]; exact z8, wys_fr zw (f _ _ (by omega) (by omega)) (fun j => f _ _ (by omega) (by omega))⟩
  obtain ⟨x1, x2, x3, x4, x5⟩ := z5 r R hR
  exact ⟨by rw [f _ _ (by omega) (by omega)]; exact x1, by rw [f _ _ (by omega) (by omega)]; exact x2, by rw [f _ _ (by omega) (by omega)]; exact x3, fun i hi => by rw [f _ _ (by omega) (by omega)]; exact x4 i hi, by rw [f _ _ (by omega) (by omega)]; exact x5⟩
/-- what a part asks, as the scan holds it -/
def po_at (N : fx_M) (s : Nat) (v3 : Int) (o : PO) : Prop := o.1 = (if v3 = 0 then 0 else if v3 = 1 then 1 else 2) ∧ (v3 = 0 → N s 11 = o.2.1 ∧ N s 12 = o.2.2.1 ∧ N s 14 = o.2.2.2.1.length ∧ 0 ≤ o.2.1 ∧ o.2.1 < 8 ∧ 0 ≤ o.2.2.1 ∧ o.2.2.1 < 1000 ∧ o.2.2.2.1.length ≤ 100000 ∧ (∀ (i : Nat) (c : Int), o.2.2.2.1[i]? = some c → i < 4 → N (s + 3) i = c) ∧ (∀ c ∈ o.2.2.2.1, 0 ≤ c ∧ c < 1000)) ∧ (v3 = 1 → N s 10 = o.2.2.2.2.1 ∧ N s 11 = o.2.1 ∧ N s 12 = o.2.2.1 ∧ 0 ≤ o.2.1 ∧ o.2.1 < 8 ∧ 0 ≤ o.2.2.1 ∧ o.2.2.1 < 1000 ∧ 0 ≤ o.2.2.2.2.1 ∧ o.2.2.2.2.1 < 3) ∧ (v3 ≠ 0 → v3 ≠ 1 → N (s + 3) 0 = o.2.2.2.2.1 ∧ N (s + 3) 1 = o.2.2.2.2.2 ∧ 0 ≤ o.2.2.2.2.1 ∧ o.2.2.2.2.1 < 1000 ∧ 0 ≤ o.2.2.2.2.2 ∧ o.2.2.2.2.2 < 1000)
/-- a part is done, where it is not wrong and nothing was refused before -/
theorem tx_do {N : fx_M} {v2 v3 : Int} {o : PO} (Hs : fx_scn s) (Hp : fx_puz p) (hap : ¬ (p ≤ a ∧ a ≤ p + 8)) (h : tx_st N s p a n rf Z) (h3 : N s 3 = 0) (hv : fx_in32 v3) (hpo : po_at N s v3 o) (K : ∀ P rf' Z', (rf' = if rf = 0 then (q_op Z o).1 else rf) → (Z' = if rf = 0 then (q_op Z o).2 else Z) → tx_st P s p a n rf' Z' → tfr s p N P → P s 1 = N s 1 → P s 3 = N s 3 → wp (kcs L xs) (d + 3) 49 85 [some (jR s), some (jR p), some (jI (v2 + 1)), none] [] P Q) : fx_lit (kcs L xs) ((N s 4).toNat) ∧ wc (kcs L xs) (d + 2) 50 [jR ((N s 4).toNat)] N (fun v M1 => wp (kcs L xs) (d + 3) 49 198 [some (jR s), some (jR p), some (jI v2), some (jI v3)] (v.toList ++ []) M1 Q) := by
  have h2 := h
  obtain ⟨hS, b1, b2, b3, b4⟩ := h
  have hd := scn_puz Hs Hp
  refine ⟨rfa_lit b2, sp_rfEmpty b2 ?_⟩
  by_cases hr : rf = 0
  · rw [if_pos hr]
    obtain ⟨p0, p1, p2, p3⟩ := hpo
    refine s49_198 Hs Hp ⟨i01.2, fun h => by omega, fun _ => ⟨hv, fun n0 => ⟨hv, fun n1 => ?_, fun e1 => ?_⟩, fun e0 => ?_⟩⟩
    · obtain ⟨c0, c1, c2, c3, c4, c5⟩ := p3 n0 n1
      rw [if_neg n0, if_neg n1] at p0
      have eq : q_op Z o = q_give Z o.2.2.2.2.1 o.2.2.2.2.2 := by
        unfold q_op
        rw [if_neg (by omega), if_neg (by omega)]
      rw [c0, c1]
      refine sp_giveQ Hp b3 b4 ⟨by omega, by omega⟩ ⟨by omega, by omega⟩ (by omega) (fun M' b r1 r2 r3 r4 => s49_269 Hs Hp ?_)
      obtain ⟨t1, t2, t3, t4⟩ := tx_did (b := b) Hs Hp hap h2 r1 r2 r3 r4
      exact K _ _ _ (by rw [if_pos hr, eq]) (by rw [if_pos hr, eq]) t1 t2 t3 t4
    · obtain ⟨c0, c1, c2, c3, c4, c5, c6, c7, c8⟩ := p2 e1
      rw [if_neg n0, if_pos e1] at p0
      have eq : q_op Z o = q_each Z o.2.2.2.2.1 o.2.1 o.2.2.1 := by
        unfold q_op
        rw [if_neg (by omega), if_pos p0]
      rw [c0, c1, c2]
      refine sp_addEachQ Hp b3 b4 ⟨c7, c8⟩ ⟨c3, c4⟩ ⟨c5, c6⟩ (fun M' b r1 r2 r3 r4 => s49_250 Hs Hp ?_)
      obtain ⟨t1, t2, t3, t4⟩ := tx_did (b := b) Hs Hp hap h2 r1 r2 r3 r4
      exact K _ _ _ (by rw [if_pos hr, eq]) (by rw [if_pos hr, eq]) t1 t2 t3 t4
    · obtain ⟨c0, c1, c2, c3, c4, c5, c6, c7, c8, c9⟩ := p1 e0
      rw [if_pos e0] at p0
      have eq : q_op Z o = q_rule Z o.2.1 o.2.2.1 o.2.2.2.1 := by
        unfold q_op
        rw [if_pos p0]
      rw [c0, c1, c2]
      refine sp_addRuleQ Hp (fx_a_cells Hs) ⟨by omega, by omega, by omega, by omega, by omega, by omega⟩ b3 b4 ⟨c3, c4⟩ ⟨c5, c6⟩ c7 c8 c9 (fun M' b r1 r2 r3 r4 => s49_226 Hs Hp ?_)
      obtain ⟨t1, t2, t3, t4⟩ := tx_did (b := b) Hs Hp hap h2 r1 r2 r3 (fun c j hc => r4 c j (by omega))
      exact K _ _ _ (by rw [if_pos hr, eq]) (by rw [if_pos hr, eq]) t1 t2 t3 t4
  · rw [if_neg hr]
    exact s49_198 Hs Hp ⟨i01.1, fun _ => K N rf Z (by rw [if_neg hr]) (by rw [if_neg hr]) h2 (tfr_rf s p N) rfl rfl, fun h => absurd rfl h⟩
end TXL
