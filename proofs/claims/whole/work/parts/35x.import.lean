/-! REQUESTS, the class: import. -/
/-- what stood in the puzzle makes no odds to the entries -/
theorem rBk_Z {g : Int → Int} {e : Int} : ∀ {f : Nat} {p w rf rf' : Int} {Z Z' : PZ}, p ≤ e → (rBk g e f p w rf Z).1 = (rBk g e f p w rf' Z').1 ∧ (rBk g e f p w rf Z).2.1 = (rBk g e f p w rf' Z').2.1 ∧ (rBk g e f p w rf Z).2.2.1 = (rBk g e f p w rf' Z').2.2.1
  | 0, _, _, _, _, _, _, _ => ⟨rfl, rfl, rfl⟩
  | f + 1, p, w, rf, rf', Z, Z', hp => by
    by_cases hw : w = 0
    · subst hw
      rcases rT_i (g := g) (e := e) (c := 47) (p := p) with ⟨e1, l1, g1⟩ | ⟨e1, no⟩
      · by_cases hl : p + 1 < e ∧ isL (g (p + 1))
        · obtain ⟨n, n1, n2, n3, n4⟩ := rNm_i hl.1 hl.2
          obtain ⟨q, w, hq⟩ : ∃ q w, rT g e 32 (p + 1 + n) 0 = (q, w) := ⟨_, _, rfl⟩
          have tb := rT_b (g := g) (e := e) (c := 32) (p := p + 1 + n) (w := 0) n4
          rw [hq] at tb
          rw [rBk_go e1 hl n1 hq, rBk_go e1 hl n1 hq]
          have pw : (rText g e q w rf Z).1 = (rText g e q w rf' Z').1 ∧ (rText g e q w rf Z).2.1 = (rText g e q w rf' Z').2.1 := by
            have hw : w = 0 ∨ w = 1 := by
              have := tb.2.2
              dsimp only at this
              omega
            rcases hw with hw | hw
            · rw [hw]
              exact rText_pw2
            · rw [hw]
              have a := rText_w1 (g := g) (e := e) (p := q) (rf := rf) (Z := Z)
              have b := rText_w1 (g := g) (e := e) (p := q) (rf := rf') (Z := Z')
              exact ⟨by rw [a.1, b.1], by rw [a.2, b.2]⟩
          have xb := rText_b (g := g) (e := e) (p := q) (w := w) (rf := rf') (Z := Z') tb.2.1
          rw [pw.1, pw.2]
          have ih := rBk_Z (g := g) (e := e) (f := f) (p := (rText g e q w rf' Z').1) (w := (rText g e q w rf' Z').2.1) (rf := (rText g e q w rf Z).2.2.1) (rf' := (rText g e q w rf' Z').2.2.1) (Z := (rText g e q w rf Z).2.2.2) (Z' := (rText g e q w rf' Z').2.2.2) xb.2.1
          exact ⟨by rw [ih.1], ih.2.1, ih.2.2⟩
        · rw [rBk_no e1 (fun x => hl x.2), rBk_no e1 (fun x => hl x.2)]
          exact ⟨rfl, rfl, rfl⟩
      · rw [rBk_no e1 (fun x => by have := x.1; omega), rBk_no e1 (fun x => by have := x.1; omega)]
        exact ⟨rfl, rfl, rfl⟩
    · rw [rBk_w hw, rBk_w hw]
      exact ⟨rfl, rfl, rfl⟩
theorem rBs_b {g : Int → Int} {e p w : Int} (h : p ≤ e) : p ≤ (rBs g e p w).2.1 ∧ (rBs g e p w).2.1 ≤ e ∧ 0 ≤ (rBs g e p w).2.2 ∧ (rBs g e p w).2.2 ≤ 1 ∧ 0 ≤ (rBs g e p w).1 ∧ (rBs g e p w).1 < 1000 := by
  have hc := rC_b (g := g) (e := e) (bs := bsB) (p := p) (w := w) h
  have hn := rBN_b (g := g) (e := e) (m := 3) (p := (rC g e bsB p w).2.1) (w := (rC g e bsB p w).2.2) (by omega) hc.2.2.2.1
  have e10 := e3_10
  unfold rBs
  omega
theorem rBo_Z {g : Int → Int} {e p w : Int} {Z Z' : PZ} (h : p ≤ e) : (rBo g e p w Z).1 = (rBo g e p w Z').1 ∧ (rBo g e p w Z).2.1 = (rBo g e p w Z').2.1 ∧ (rBo g e p w Z).2.2.1 = (rBo g e p w Z').2.2.1 := rBk_Z (rBs_b h).2.1
theorem rBo_b {g : Int → Int} {e p w : Int} {Z : PZ} (h : p ≤ e) : p ≤ (rBo g e p w Z).2.1 ∧ (rBo g e p w Z).2.1 ≤ e ∧ 0 ≤ (rBo g e p w Z).2.2.1 ∧ (rBo g e p w Z).2.2.1 ≤ 1 := by
  have hb := rBs_b (w := w) (g := g) h
  have := rBk_b (g := g) (e := e) (f := (e - (rBs g e p w).2.1).toNat + 1) (p := (rBs g e p w).2.1) (w := (rBs g e p w).2.2) (rf := 0) (Z := Z) hb.2.1 hb.2.2.1 hb.2.2.2.1
  have e1 : rBk g e ((e - (rBs g e p w).2.1).toNat + 1) (rBs g e p w).2.1 (rBs g e p w).2.2 0 Z = rBo g e p w Z := rfl
  rw [e1] at this
  omega
/-- the entries of a book that was read well lie behind its head -/
theorem rBo_I {g : Int → Int} {e p w : Int} {Z : PZ} (h : p ≤ e) (h0 : (rBo g e p w Z).2.2.1 = 0) : bkI g e (rBo g e p w Z).1 (rBs g e p w).2.1 ∧ (rBo g e p w Z).2.2.2.1 = rfB g e (rBo g e p w Z).1 := by
  have hb := rBs_b (w := w) (g := g) h
  have e1 : rBo g e p w Z = rBk g e ((e - (rBs g e p w).2.1).toNat + 1) (rBs g e p w).2.1 (rBs g e p w).2.2 0 Z := rfl
  rw [e1] at h0 ⊢
  have hw : (rBs g e p w).2.2 = 0 := by
    by_cases hw : (rBs g e p w).2.2 = 0
    · exact hw
    · rw [rBk_w hw] at h0
      exact h0
  rw [hw] at h0 ⊢
  exact ⟨rBk_I hb.2.1 h0, rBk_rfB hb.2.1 h0⟩
theorem bkI_len {g : Int → Int} {e : Int} : ∀ {E : List BE} {p : Int}, bkI g e E p → p ≤ e → p + 12 * (E.length : Int) ≤ e
  | [], p, _, hp => by
    rw [List.length_nil]
    omega
  | x :: E, p, h, hp => by
    obtain ⟨h1, h2, h3, h4, h5, h6, h7, h8, h9, h10, h11, h12⟩ := h
    have hx := rText_9 h9 h11
    have xb := rText_b (g := g) (e := e) (p := x.2.2) (w := 0) (rf := 0) (Z := z_new 1 1 1) h9
    have ih := bkI_len h12 xb.2.1
    have hp1 : x.1 = p + 1 := by
      rcases rT_i (g := g) (e := e) (c := 47) (p := p) with ⟨e1, _⟩ | ⟨e1, _⟩
      · rw [e1] at h1
        exact (Prod.mk.inj h1).1.symm
      · rw [e1] at h1
        have := (Prod.mk.inj h1).2
        omega
    have hq1 : x.2.2 = x.1 + x.2.1 + 1 := by
      rcases rT_i (g := g) (e := e) (c := 32) (p := x.1 + x.2.1) with ⟨e1, _⟩ | ⟨e1, _⟩
      · rw [e1] at h8
        exact (Prod.mk.inj h8).1.symm
      · rw [e1] at h8
        have := (Prod.mk.inj h8).2
        omega
    rw [List.length_cons]
    omega
def rIm (g : Int → Int) (n p : Int) : List BE × Int × Int × Int × PZ := rBo g n (rT g n 32 p 0).1 (rT g n 32 p 0).2 (z_new 1 1 1)
def rIn (g : Int → Int) (n p : Int) : Int × Int × Int := rN g n 6 (rIm g n p).2.1 (rIm g n p).2.2.1
def imA (g : Int → Int) (n p : Int) : Int × Int × Int := rBs g n (rT g n 32 p 0).1 (rT g n 32 p 0).2
def imC (g : Int → Int) (n p : Int) : Int := ckS 7 ((List.range ((rIm g n p).2.1 - (rT g n 32 p 0).1).toNat).map (fun i : Nat => g ((rT g n 32 p 0).1 + (i : Int))))
noncomputable def imK (g : Int → Int) (n p : Int) (S : HS) : (Int → Int) × List (Int × Int) × Bool := impB S.2.2.2.2.1 S.2.2.2.2.2 (eL2 g n (rIm g n p).1)
noncomputable def imW (g : Int → Int) (n p : Int) (S : HS) : (Int → Int) × List (Int × Int) := if (imA g n p).1 = (rIm g n p).1.length ∧ imC g n p = (rIn g n p).1 ∧ rfB g n (rIm g n p).1 = 0 then ((imK g n p S).1, (imK g n p S).2.1) else (S.2.2.2.2.1, S.2.2.2.2.2)
noncomputable def imT (g : Int → Int) (n p : Int) (S : HS) : List Int := tImp (imA g n p).1 (rIm g n p).1.length (imC g n p) (rIn g n p).1 (rfB g n (rIm g n p).1) (imK g n p S).2.2
noncomputable def rq_import (g : Int → Int) (n p : Int) (S : HS) : Int × Int × List Int × HS := ((rIn g n p).2.1, (rIn g n p).2.2, bkS S (imT g n p S, (S.1, S.2.1, S.2.2.1, S.2.2.2.1, imW g n p S)))
theorem tImp_len {a : Int} {n : Nat} {c s r : Int} {k : Bool} : (tImp a n c s r k).length ≤ 20 := by
  have h1 := t_no_len (w := wrd 50)
  have h2 := t_no_len (w := wrd 11)
  have h3 := t_rf_len (r := r)
  have h4 := t_rf_len (r := 4)
  have h5 : t_ok.length ≤ 20 := by decide
  unfold tImp
  split
  · omega
  · split
    · omega
    · split
      · omega
      · split
        · omega
        · omega
section RQX
variable {L : Nat} {xs : Nat → Int32} {d : Nat} {M : fx_M} {Q : Option fx_V → fx_M → Prop} {S : HS} {k : Nat}
theorem ca_import {n p : Int} {Y : PZ} (h : cIn M n p 0) (hY : cz M 20 Y) (hYo : pz_ok Y) (K : ∀ N rf Z, tx_st N 7 20 2 5606 rf Z → aF M N → N 7 1 = (rIn (M 2) n p).2.1 → N 7 3 = (rIn (M 2) n p).2.2 → N 7 2 = n → N 9 0 = (imA (M 2) n p).1 → N 9 1 = (rIm (M 2) n p).1.length → N 9 2 = imC (M 2) n p → N 9 3 = (rIn (M 2) n p).1 → N 7 15 = (imA (M 2) n p).2.1 → ((rIm (M 2) n p).2.2.1 = 0 → rf = rfB (M 2) n (rIm (M 2) n p).1) → Q none N) : wc (kcs L xs) (d + 9) 32 [jR 0, jI 43] M Q := by
  obtain ⟨c0, c1, c2, c3, c4, c5, c6, c7⟩ := cin_b h
  refine ca_long ⟨by omega, by omega⟩ lg_1.2.2.2.2 (s44 ⟨⟨by omega, by omega⟩, fun h => by omega, fun h => by omega, fun h => by omega, fun h => by omega, fun _ => ?_, fun _ _ _ _ h => absurd rfl h⟩)
  refine tTk (d := d + 6) c0 (fun N n1 n2 => s44_141 ?_)
  rw [c1, c2, c3] at n2
  have f : ∀ b j, ¬ (b = 7 ∧ (j = 1 ∨ j = 3)) → N b j = M b j := fun b j h => by rw [n2, rd_ne h]
  have hst : tx_st N 7 20 2 5606 0 Y := by
    refine ⟨n1, ?_, ?_, cz_fr hY (fun b j b1 b2 => f b j (by omega)), hYo⟩
    · rw [f 7 4 (by omega), c4]
      omega
    · rw [f 7 4 (by omega), c4]
      exact Or.inl ⟨rfl, Or.inr rfl⟩
  have e2 : N 2 = M 2 := funext (fun j => f 2 j (by omega))
  have e72 : N 7 2 = n := by rw [f 7 2 (by omega), c2]
  have e1 : N 7 1 = (rT (M 2) n 32 p 0).1 := by rw [n2, rd_1]
  have e3 : N 7 3 = (rT (M 2) n 32 p 0).2 := by rw [n2, rd_3]
  have tb := rT_b (g := M 2) (e := n) (c := 32) (p := p) (w := 0) c6
  obtain ⟨z1, z2, z3⟩ := rBo_Z (g := M 2) (e := n) (p := (rT (M 2) n 32 p 0).1) (w := (rT (M 2) n 32 p 0).2) (Z := Y) (Z' := z_new 1 1 1) tb.2.1
  refine sp_book (d := d) hst (fun O o1 o2 o3 o4 o5 o6 o7 o8 o9 o10 o11 => s44_152 (s32_351 ?_))
  rw [e2, e72, e1, e3] at o1 o2 o3 o4 o5 o6 o7 o8
  rw [z2] at o6
  rw [z2, z3] at o2 o3 o7
  rw [z1] at o5
  refine K O _ _ o1 (fun b j b1 b2 b3 b4 b5 => by rw [o9 b j b1 b2 b3 b4, f b j (by omega)]) o2 o3 (by rw [o10, e72]) o4 o5 o6 o7 o8 (fun h0 => ?_)
  have h0' : (rBo (M 2) n (rT (M 2) n 32 p 0).1 (rT (M 2) n 32 p 0).2 Y).2.2.1 = 0 := z3.trans h0
  have := (rBo_I tb.2.1 h0').2
  rw [z1] at this
  exact this
theorem cw_import {n p : Int} (h : cIn M n p 0) (hS : cRl M S) (hk : hOk k S) (K : ∀ M', cRl M' (fnR n S (rq_import (M 2) n p S)).2 → ctx M' (fnR n S (rq_import (M 2) n p S)).1 → cEnd M M' → Q none M') : wp (kcs L xs) (d + 25) 17 22 [some (jR 0), some (jI n), none] [jI 43] M Q := by
  obtain ⟨c0, c1, c2, c3, c4, c5, c6, c7⟩ := cin_b h
  obtain ⟨Y, y1, y2⟩ := hS.2.1
  refine s17_22 (ca_import (d := d + 15) h y1 y2 (fun A rf Z n0 ng a1 a3 a2 a90 a91 a92 a93 a15 arf => ?_))
  have tb := rT_b (g := M 2) (e := n) (c := 32) (p := p) (w := 0) c6
  have ob : (rT (M 2) n 32 p 0).1 ≤ (rIm (M 2) n p).2.1 ∧ (rIm (M 2) n p).2.1 ≤ n ∧ 0 ≤ (rIm (M 2) n p).2.2.1 ∧ (rIm (M 2) n p).2.2.1 ≤ 1 := rBo_b tb.2.1
  have sb : (rT (M 2) n 32 p 0).1 ≤ (imA (M 2) n p).2.1 ∧ (imA (M 2) n p).2.1 ≤ n ∧ 0 ≤ (imA (M 2) n p).2.2 ∧ (imA (M 2) n p).2.2 ≤ 1 ∧ 0 ≤ (imA (M 2) n p).1 ∧ (imA (M 2) n p).1 < 1000 := rBs_b tb.2.1
  have nb : (rIm (M 2) n p).2.1 ≤ (rIn (M 2) n p).2.1 ∧ (rIn (M 2) n p).2.1 ≤ n ∧ 0 ≤ (rIn (M 2) n p).2.2 ∧ (rIn (M 2) n p).2.2 ≤ 1 ∧ 0 ≤ (rIn (M 2) n p).1 ∧ (rIn (M 2) n p).1 < ((10 ^ 6 : Nat) : Int) := rN_b (by omega) ob.2.1
  have e10 := e6_10
  have kb : 0 ≤ imC (M 2) n p ∧ imC (M 2) n p < 65521 := ckS_b ⟨by omega, by omega⟩
  have hN : cRl A S := cRl_sp hS hk.2.2.2.2.1 ⟨_, n0.2.2.2.1, n0.2.2.2.2⟩ (fun b j hb => ng b j (by omega) (by omega) (by omega) (by omega) (by omega))
  refine cw_fin (d := d + 20) (r := rq_import (M 2) n p S) ⟨by omega, by omega⟩ ⟨by omega, by omega⟩ hN hk (aF_end ng) a1 (show 0 ≤ (rIn (M 2) n p).2.1 ∧ (rIn (M 2) n p).2.1 ≤ 5606 by omega) a3 (show (rIn (M 2) n p).2.2 = 0 ∨ (rIn (M 2) n p).2.2 = 1 by omega) K (fun e3 e1 hSN h30 hO R hR => ⟨fun h => by omega, fun _ h => by omega, fun _ h => by omega, fun _ h => by omega, fun _ h => by omega, fun _ h => by omega, fun _ ho => ?_, fun _ ho _ _ => ?_⟩)
  · have eo : S.2.2.2.1 = 1 := by omega
    have ew : (rIm (M 2) n p).2.2.1 = 0 := by
      have hx : (rIm (M 2) n p).2.2.1 = 0 ∨ (rIm (M 2) n p).2.2.1 = 1 := by omega
      rcases hx with hx | hx
      · exact hx
      · have e4 : (rIn (M 2) n p).2.2 = 0 := e3
        unfold rIn at e4
        rw [hx, rN_w] at e4
        cases e4
    have et : (rq_import (M 2) n p S).2.2 = (imT (M 2) n p S, (S.1, S.2.1, S.2.2.1, S.2.2.2.1, imW (M 2) n p S)) := by
      unfold rq_import bkS
      rw [if_neg (by omega)]
    rw [et] at hR
    have hI : bkI (M 2) n (rIm (M 2) n p).1 (imA (M 2) n p).2.1 := (rBo_I tb.2.1 ew).1
    have hlen := bkI_len hI sb.2.1
    have u7 : ∀ j, (fx_up A 3 1 0) 7 j = A 7 j := fun j => fx_up_na (by decide)
    have u9 : ∀ j, (fx_up A 3 1 0) 9 j = A 9 j := fun j => fx_up_na (by decide)
    have u2 : (fx_up A 3 1 0) 2 = M 2 := by
      funext j
      rw [fx_up_na (by decide), ng 2 j (by decide) (by decide) (by decide) (by omega) (by omega)]
    have hT : tx_st (fx_up A 3 1 0) 7 20 2 5606 rf Z := by
      obtain ⟨q1, q2, q3, q4, q5⟩ := n0
      exact ⟨sc_at_up q1 (by decide) (by omega), by rw [u7]; exact q2, by rw [u7]; exact q3, cz_fr q4 (fun b j b1 b2 => fx_up_na (by omega)), q5⟩
    have hH := hk.2.2.2.2.2.2.2.1 eo
    refine s190 ⟨⟨by omega, by omega⟩, fun h => by omega, fun h => by omega, fun h => by omega, fun h => by omega, fun h => by omega, fun h => by omega, fun h => by omega, fun _ => ?_, fun h => by omega⟩
    refine sp_importBook (d := d + 15) (E := (rIm (M 2) n p).1) (b := S.2.2.2.2.1) (W := S.2.2.2.2.2) (p0 := (imA (M 2) n p).2.1) (a := (imA (M 2) n p).1) (ck := imC (M 2) n p) (sk := (rIn (M 2) n p).1) hT (by rw [u7, a3]; exact e3) ⟨by rw [u9, a90], by rw [u9, a91], by rw [u9, a92], by rw [u9, a93]⟩ ⟨⟨by omega, by omega⟩, ⟨by omega, by omega⟩, ⟨by omega, by omega⟩⟩ (by omega) (by rw [u7, a15]) ⟨by omega, by rw [u7, a2]; omega⟩ (by rw [u2, u7, a2]; exact arf ew) (by rw [u2, u7, a2]; exact hI) hSN.2.2.2.2.2.1 hH hk.2.2.2.2.2.2.1 hSN.2.2.2.2.2.2 (ca_ok0 h30) (fun M' b' W' m1 m2 m3 m4 m5 => s190_296 ?_)
    rw [u2, u7, a2, arf ew] at m1
    rw [u2, u7, a2, arf ew] at m5
    have f : ∀ b j, b ≠ 3 → b ≠ 4 → ¬ (b = 5 ∨ b = 6 ∨ b = 7 ∨ b = 10) → ¬ (20 ≤ b ∧ b ≤ 28) → ¬ (b = 125 ∧ j = 2) → ¬ (126 ≤ b ∧ b ≤ 128) → M' b j = (fx_up A 3 1 0) b j := fun b j b1 b2 b3 b4 b5 b6 => by rw [m5 b j b3 b4 b5 b6 (fun h => absurd h b1), o_app_ne b1 b2]
    obtain ⟨h1, h2, h3, h4, h5, h6, h7⟩ := hSN
    have eW : imW (M 2) n p S = (b', W') := m1.symm
    rw [eW] at hR
    refine hR M' ⟨cz_fr h1 (fun b j b1 b2 => f b j (by omega) (by omega) (by omega) (by omega) (by omega) (by omega)), m2, cpv_fr h3 (fun b j b1 b2 => f b j (by omega) (by omega) (by omega) (by omega) (by omega) (by omega)), cct_fr h4 hk.2.2.2.2.1 (fun b j b1 => f b j (by omega) (by omega) (by omega) (by omega) (by omega) (by omega)), ?_, m3, m4⟩ (ctx_out h30 (Nat.le_trans tImp_len (by omega)) (m5 3 1 (by decide) (by omega) (by omega) (by omega) (fun _ => rfl)) (fun j => m5 4 j (by decide) (by omega) (by omega) (by omega) (fun h => by omega))) (fun b j hb => f b j (by omega) (by omega) (by omega) (by omega) (by omega) (by omega))
    exact (f 125 1 (by decide) (by decide) (by decide) (by omega) (by omega) (by omega)).trans h5
  · have et : (rq_import (M 2) n p S).2.2 = (wls 1936225652, S) := by
      unfold rq_import bkS
      rw [if_pos ho]
    rw [et] at hR
    obtain ⟨r1, r2, r3⟩ := fi_wr (cs := wls 1936225652) hSN hk.2.2.2.2.1 h30 (Nat.le_trans wls_8 (by omega)) cwr_o
    exact hR _ r1 r2 r3
end RQX
