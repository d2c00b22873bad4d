/-! REQUESTS, the class: from the word to the answer. -/
/-- the request of its group, with memory M -/
def dsp (L : Nat) (xs : Nat → Int32) (d : Nat) (v o : Int) (M : fx_M) (R : Option fx_V → fx_M → Prop) : Prop := (v ≤ 6 → wc (kcs L xs) (d + 4) 66 [jR 0, jI v] M R) ∧ (6 < v → v ≤ 13 → wc (kcs L xs) (d + 4) 74 [jR 0, jI v] M R) ∧ (13 < v → v ≤ 20 → wc (kcs L xs) (d + 4) 103 [jR 0, jI v] M R) ∧ (20 < v → v ≤ 24 → wc (kcs L xs) (d + 4) 145 [jR 0, jI v] M R) ∧ (24 < v → v ≤ 31 → wc (kcs L xs) (d + 4) 167 [jR 0, jI v] M R) ∧ (31 < v → v ≤ 35 → wc (kcs L xs) (d + 4) 176 [jR 0, jI v] M R) ∧ (35 < v → (o = 1 ∨ v = 40 ∨ v = 41) → wc (kcs L xs) (d + 4) 190 [jR 0, jI v] M R) ∧ (35 < v → o = 0 → v ≠ 40 → v ≠ 41 → R none (o_app M 3 (wls 1936225652)))
/-- what reading the arguments may change -/
def aF (M N : fx_M) : Prop := ∀ b j, b ≠ 7 → b ≠ 9 → b ≠ 10 → ¬ (20 ≤ b ∧ b ≤ 28) → ¬ (34 ≤ b ∧ b ≤ 39) → N b j = M b j
/-- what no request of the class changes -/
def cEnd (M N : fx_M) : Prop := ∀ b j, (b = 0 ∨ b = 1 ∨ b = 2 ∨ 133 ≤ b) → N b j = M b j
/-- the class's scan at the arguments -/
def cIn (M : fx_M) (n p w : Int) : Prop := sc_at M 7 2 5606 ∧ M 7 1 = p ∧ M 7 2 = n ∧ M 7 3 = w ∧ M 7 4 = 1000001
theorem cEnd_tr {M N O : fx_M} (h : cEnd M N) (g : cEnd N O) : cEnd M O := fun b j hb => (g b j hb).trans (h b j hb)
theorem aF_end {M N : fx_M} (h : aF M N) : cEnd M N := fun b j hb => h b j (by omega) (by omega) (by omega) (by omega) (by omega)
theorem clg_fr {M N : fx_M} {W : List (Int × Int)} (h : clg M W) (f : ∀ b j, 125 ≤ b → b ≤ 128 → N b j = M b j) : clg N W := ⟨by rw [f _ _ (by omega) (by omega)]; exact h.1, fun i x hi => ⟨by rw [f _ _ (by omega) (by omega)]; exact (h.2 i x hi).1, by rw [f _ _ (by omega) (by omega)]; exact (h.2 i x hi).2⟩⟩
theorem cRl_sp {M N : fx_M} {S : HS} {k : Nat} (h : cRl M S) (hk : ct_ok k S.2.2.1) (hY : ∃ Y, cz N 20 Y ∧ pz_ok Y) (f : ∀ b j, (11 ≤ b ∧ b ≤ 19) ∨ (53 ≤ b ∧ b ≤ 128) → N b j = M b j) : cRl N S := by
  obtain ⟨h1, h2, h3, h4, h5, h6, h7⟩ := h
  refine ⟨cz_fr h1 (fun b j b1 b2 => f b j (by omega)), hY, cpv_fr h3 (fun b j b1 b2 => f b j (by omega)), cct_fr h4 hk (fun b j b1 => f b j (by omega)), by rw [f _ _ (by omega)]; exact h5, ?_, clg_fr h7 (fun b j b1 b2 => f b j (by omega))⟩
  rw [← h6]
  funext j
  exact f 126 j (by omega)
theorem cRl_fr {M N : fx_M} {S : HS} {k : Nat} (h : cRl M S) (hk : ct_ok k S.2.2.1) (f : ∀ b j, (11 ≤ b ∧ b ≤ 28) ∨ (53 ≤ b ∧ b ≤ 128) → N b j = M b j) : cRl N S := by
  obtain ⟨Y, y1, y2⟩ := h.2.1
  exact cRl_sp h hk ⟨Y, cz_fr y1 (fun b j b1 b2 => f b j (by omega)), y2⟩ (fun b j hb => f b j (by omega))
theorem ctx_app {M : fx_M} {cs : List Int} (h0 : M 3 1 = 0) (hl : cs.length ≤ 5600) : ctx (o_app M 3 cs) cs := ctx_out h0 hl rfl (fun _ => rfl)
theorem t_bad_len {p : Int} : (t_bad p).length ≤ 13 := by
  have := dgs_len (v := p)
  unfold t_bad
  rw [List.length_append]
  simp only [List.length_cons, List.length_nil]
  omega
section RQC
variable {L : Nat} {xs : Nat → Int32} {d : Nat} {M N : fx_M} {Q : Option fx_V → fx_M → Prop} {S : HS} {k : Nat}
theorem up3 {b : Nat} {j : Int} (h : b ≠ 3) : (fx_up N 3 1 0) b j = N b j := fx_up_na h
/-- behind the arguments, to the answer -/
theorem cw_fin {n v : Int} {r : Int × Int × List Int × HS} (hv : fx_in32 v) (hn : 0 ≤ n ∧ n ≤ 5606) (hS : cRl N S) (hk : hOk k S) (hM : cEnd M N) (h1 : N 7 1 = r.1) (h1b : 0 ≤ r.1 ∧ r.1 ≤ 5606) (h3 : N 7 3 = r.2.1) (h3b : r.2.1 = 0 ∨ r.2.1 = 1) (K : ∀ M', cRl M' (fnR n S r).2 → ctx M' (fnR n S r).1 → cEnd M M' → Q none M')
    (K1 : r.2.1 = 0 → n ≤ r.1 → cRl (fx_up N 3 1 0) S → (fx_up N 3 1 0) 3 1 = 0 → o_ok (fx_up N 3 1 0) 3 → ∀ R : Option fx_V → fx_M → Prop, (∀ M1, cRl M1 r.2.2.2 → ctx M1 r.2.2.1 → cEnd (fx_up N 3 1 0) M1 → R none M1) → dsp L xs d v S.2.2.2.1 (fx_up N 3 1 0) R) :
    wp (kcs L xs) (d + 5) 17 28 [some (jR 0), some (jI n), some (jI v)] [] N Q := by
  have hSN : cRl (fx_up N 3 1 0) S := cRl_fr hS hk.2.2.2.2.1 (fun b j hb => fx_up_na (by omega))
  have h30 : (fx_up N 3 1 0) 3 1 = 0 := fx_up_self _ _ _ _
  have hO : o_ok (fx_up N 3 1 0) 3 := by
    unfold o_ok
    rw [h30]
    omega
  have hME : cEnd M (fx_up N 3 1 0) := cEnd_tr hM (fun b j hb => fx_up_na (by omega))
  have hop : N 125 1 = S.2.2.2.1 := hS.2.2.2.2.1
  refine cl_fin hv hn (by omega) (by omega) (by rw [hop]; exact hk.2.2.2.2.2.1) (fun hb => ?_) (fun e3 e1 R hR => ?_)
  · rw [h1, h3] at hb
    unfold fnR at K
    rw [if_pos hb] at K
    rw [h1]
    refine K _ (cRl_fr hSN hk.2.2.2.2.1 (fun b j hb => o_app_ne (by omega) (by omega))) (ctx_app h30 (by have := t_bad_len (p := r.1); omega)) (cEnd_tr hME (fun b j hb => o_app_ne (by omega) (by omega)))
  · rw [h3] at e3
    rw [h1] at e1
    unfold fnR at K
    rw [if_neg (by omega)] at K
    have := K1 e3 e1 hSN h30 hO R (fun M1 m1 m2 m3 => hR M1 (K M1 m1 m2 (cEnd_tr hME m3)))
    unfold dsp at this
    rw [hop]
    exact this
end RQC
