/-! What a text says is a puzzle within bounds. -/
theorem eL_ok : ∀ (s w h : Fin 3), (eL ((s : Nat) : Int) (((w : Nat) : Int) + 1) (((h : Nat) : Int) + 1) (((w : Nat) + 1) * ((h : Nat) + 1))).all (fun l => okb ((((w : Nat) + 1) * ((h : Nat) + 1) : Nat) : Int) l) = true := by decide +kernel
theorem q_op_ok {Z : PZ} {o : PO} (ho : pz_ok Z) (hk : o.1 = 0 ∨ o.1 = 1 → 0 ≤ o.2.1 ∧ o.2.1 < 8) (hn : 0 ≤ o.2.2.1) (hs : o.1 = 1 → 0 ≤ o.2.2.2.2.1 ∧ o.2.2.2.2.1 < 3) (hy : 0 ≤ o.2.2.2.2.2) : pz_ok (q_op Z o).2 := by
  have h9 := pz_n ho
  unfold q_op
  split
  · rename_i h0
    have hkk := hk (Or.inl h0)
    unfold q_rule
    split
    · rename_i hb
      unfold okb at hb
      have hb := of_decide_eq_true hb
      split
      · exact ho
      · split
        · exact ho
        · refine z_add_ok ho (by omega) ⟨hkk.1, hkk.2, hn, by dsimp only; omega, hb.1, hb.2.1, hb.2.2.1, hb.2.2.2⟩
    · exact ho
  · split
    · rename_i h0 h1
      have hkk := hk (Or.inr h1)
      have hss := hs h1
      unfold q_each
      split
      · exact ho
      · split
        · exact ho
        · rename_i hn9 hr12
          have hlen := eL_len hss ⟨ho.1, ho.2.1⟩ ⟨ho.2.2.1, ho.2.2.2.1⟩
          have hal := eL_ok ⟨o.2.2.2.2.1.toNat, by omega⟩ ⟨(Z.1 - 1).toNat, by have := ho.1; have := ho.2.1; omega⟩ ⟨(Z.2.1 - 1).toNat, by have := ho.2.2.1; have := ho.2.2.2.1; omega⟩
          have hz1 := ho.1
          have hz2 := ho.2.2.1
          have e1 : ((o.2.2.2.2.1.toNat : Nat) : Int) = o.2.2.2.2.1 := by omega
          have e2 : (((Z.1 - 1).toNat : Nat) : Int) + 1 = Z.1 := by omega
          have e3 : (((Z.2.1 - 1).toNat : Nat) : Int) + 1 = Z.2.1 := by omega
          have e4 : ((((Z.1 - 1).toNat + 1) * ((Z.2.1 - 1).toNat + 1) : Nat) : Int) = Z.1 * Z.2.1 := by
            rw [Int.natCast_mul, Int.natCast_add, Int.natCast_add, show ((1 : Nat) : Int) = 1 from rfl, e2, e3]
          have e5 : ((Z.1 - 1).toNat + 1) * ((Z.2.1 - 1).toNat + 1) = (Z.1 * Z.2.1).toNat := by omega
          dsimp only at hal
          rw [e1, e2, e3, e4, e5] at hal
          rw [List.all_eq_true] at hal
          obtain ⟨a1, a2, a3, a4, a5, a6, a7, a8, a9⟩ := ho
          refine ⟨a1, a2, a3, a4, a5, a6, ?_, fun R hR => ?_, a9⟩
          · show (Z.2.2.2.1 ++ (eL o.2.2.2.2.1 Z.1 Z.2.1 (Z.1 * Z.2.1).toNat).map (fun l => (o.2.1, o.2.2.1, l))).length ≤ 12
            rw [List.length_append, List.length_map]
            omega
          · rcases List.mem_append.mp hR with h | h
            · exact a8 R h
            · obtain ⟨l, l1, l2⟩ := List.mem_map.mp h
              have hb := hal l l1
              unfold okb at hb
              have hb := of_decide_eq_true hb
              rw [← l2]
              exact ⟨hkk.1, hkk.2, hn, by dsimp only; omega, hb.1, hb.2.1, hb.2.2.1, hb.2.2.2⟩
    · unfold q_give
      split
      · rename_i hc
        split
        · exact ho
        · exact z_give_ok ho hc ⟨by omega, by omega⟩
      · exact ho
theorem rPt_ok {g : Int → Int} {e p : Int} {Z : PZ} (hp : p ≤ e) (ho : pz_ok Z) (h : (rPt g e p).2.2 = 0) : pz_ok (q_op Z (rPt g e p).1).2 := by
  have hc := rC_b (g := g) (e := e) (bs := bsP) (p := p) (w := 0) hp
  unfold rPt at h ⊢
  split at h
  · rename_i h0
    rw [if_pos h0]
    have hw := rR_w0 h
    have hk := rK_0 hw
    have hb := rK_b (g := g) (e := e) (bs := bsK) (p := (rC g e bsP p 0).2.1) (w := (rC g e bsP p 0).2.2) hc.2.2.2.1
    refine q_op_ok ho (fun _ => ⟨hk.1, hk.2.1⟩) hb.2.2.1 (fun x => ?_) (by dsimp only; omega)
    dsimp only at x
    omega
  · rename_i h0
    rw [if_neg h0]
    split at h
    · rename_i h1
      rw [if_pos h1]
      have hk := rK_0 h
      have hs := rSd_0 hk.2.2
      have hsb := rSd_b (g := g) (e := e) (p := (rC g e bsP p 0).2.1) (w := (rC g e bsP p 0).2.2) hc.2.2.2.1
      have hb := rK_b (g := g) (e := e) (bs := bsK) (p := (rSd g e (rC g e bsP p 0).2.1 (rC g e bsP p 0).2.2).2.1) (w := (rSd g e (rC g e bsP p 0).2.1 (rC g e bsP p 0).2.2).2.2) hsb.2.2.2.1
      exact q_op_ok ho (fun _ => ⟨hk.1, hk.2.1⟩) hb.2.2.1 (fun _ => hs) (by dsimp only; omega)
    · rename_i h1
      rw [if_neg h1]
      have hb1 := rBN_b (g := g) (e := e) (m := 3) (p := (rC g e bsP p 0).2.1) (w := (rC g e bsP p 0).2.2) (by omega) hc.2.2.2.1
      have hb2 := rBN_b (g := g) (e := e) (m := 1) (p := (rBN g e 3 (rC g e bsP p 0).2.1 (rC g e bsP p 0).2.2).2.1) (w := (rBN g e 3 (rC g e bsP p 0).2.1 (rC g e bsP p 0).2.2).2.2) (by omega) (by omega)
      refine q_op_ok ho (fun x => ?_) (by dsimp only; omega) (fun x => ?_) ?_
      · dsimp only at x
        omega
      · dsimp only at x
        omega
      · dsimp only
        omega
theorem rTx_ok {g : Int → Int} {e : Int} : ∀ {f : Nat} {p w rf : Int} {Z : PZ}, p ≤ e → pz_ok Z → pz_ok (rTx g e f p w rf Z).2.2.2
  | 0, _, _, _, _, _, h => h
  | f + 1, p, w, rf, Z, hp, h => by
    rw [rTx]
    split
    · rename_i hc
      have hb := rPt_b (g := g) (e := e) (p := p + 1) (by omega)
      split
      · rename_i h2
        exact rTx_ok hb.2.1 (rPt_ok (by omega) h h2.1)
      · exact rTx_ok hb.2.1 h
    · exact h
theorem rZ3_e {g : Int → Int} {e p w : Int} (hp : p ≤ e) : (rZ3 g e p w).2.1 ≤ e := by
  have h1 := rBN_b (g := g) (e := e) (m := 1) (p := p) (w := w) (by omega) hp
  have h2 := rBN_b (g := g) (e := e) (m := 1) (p := (rZ1 g e p w).2.1) (w := (rZ1 g e p w).2.2) (by omega) h1.2.1
  have h3 := rBN_b (g := g) (e := e) (m := 1) (p := (rZ2 g e p w).2.1) (w := (rZ2 g e p w).2.2) (by omega) h2.2.1
  exact h3.2.1
theorem rText_ok {g : Int → Int} {e p w rf : Int} {Z : PZ} (hp : p ≤ e) (ho : pz_ok Z) : pz_ok (rText g e p w rf Z).2.2.2 := by
  have hc := rC_b (g := g) (e := e) (bs := bsN) (p := p) (w := w) hp
  have hz := rZ3_e (g := g) (e := e) (p := (rC g e bsN p w).2.1) (w := (rC g e bsN p w).2.2) hc.2.2.2.1
  unfold rText
  split
  · refine rTx_ok hz ?_
    unfold q_size
    split
    · rename_i h
      exact z_new_ok h
    · exact ho
  · exact rTx_ok hz ho
theorem bZ_ok {g : Int → Int} {e : Int} (hb : bk_b g) (hE : bEn g e) : pz_ok (bZ g e) := by
  obtain ⟨⟨a1, a2, a3, a4, a5, a6⟩, b1, b2, b3, b4⟩ := hE
  have hf : bFr g e = 32 * bCh g e + g (32 * bCh g e) + 3 := rfl
  have v1 := hb (bFr g e - 2) (by omega) (by omega)
  have v2 := hb (bFr g e - 1) (by omega) (by omega)
  have hto : bTo g e = bFr g e + g (bFr g e - 2) + 256 * g (bFr g e - 1) := rfl
  exact rText_ok (by omega) (z_new_ok ⟨by omega, by omega, by omega, by omega, by omega, by omega⟩)
