/-! REQUESTS, the class: set, submit. -/
/-- l bytes from place a on -/
def nmO (g : Int → Int) (a l : Int) : List Int := (List.range l.toNat).map (fun i : Nat => g (a + (i : Int)))
def dgO (g : Int → Int) (a l : Int) : List Int := (List.range l.toNat).map (fun i : Nat => g (a + (i : Int)) - 48)
theorem nmO_len {g : Int → Int} {a l : Int} : (nmO g a l).length = l.toNat := by
  unfold nmO
  rw [List.length_map, List.length_range]
theorem dgO_len {g : Int → Int} {a l : Int} : (dgO g a l).length = l.toNat := by
  unfold dgO
  rw [List.length_map, List.length_range]
theorem nmO_get {g : Int → Int} {a l : Int} {j : Nat} {c : Int} (h : (nmO g a l)[j]? = some c) : g (a + (j : Int)) = c := by
  have hl := (List.getElem?_eq_some_iff.mp h).1
  rw [nmO_len] at hl
  unfold nmO at h
  rw [List.getElem?_map, List.getElem?_range hl] at h
  simpa using h
theorem dgO_get {g : Int → Int} {a l : Int} {j : Nat} {c : Int} (h : (dgO g a l)[j]? = some c) : g (a + (j : Int)) = c + 48 := by
  have hl := (List.getElem?_eq_some_iff.mp h).1
  rw [dgO_len] at hl
  unfold dgO at h
  rw [List.getElem?_map, List.getElem?_range hl] at h
  have : g (a + (j : Int)) - 48 = c := by simpa using h
  omega
theorem rDs_d {g : Int → Int} {e : Int} : ∀ (k : Nat) (p : Int) (i : Nat), i < rDs g e k p → isD (g (p + (i : Int)))
  | 0, p, i, h => by
    rw [rDs] at h
    omega
  | k + 1, p, i, h => by
    rw [rDs] at h
    split at h
    · rename_i hc
      cases i with
      | zero =>
        rw [show p + ((0 : Nat) : Int) = p by omega]
        exact hc.2
      | succ i =>
        have := rDs_d (g := g) (e := e) k (p + 1) i (by omega)
        rw [show p + 1 + (i : Int) = p + ((i + 1 : Nat) : Int) by omega] at this
        exact this
    · omega
section RQO
variable {L : Nat} {xs : Nat → Int32} {d : Nat} {M : fx_M} {Q : Option fx_V → fx_M → Prop} {S : HS} {k : Nat}
theorem sn_of {N : fx_M} {a l : Int} (h : sq N) (h6 : N 7 6 = a) (h7 : N 7 7 = l) (ha : 0 ≤ a) (hl : 0 ≤ l) (hal : a + l ≤ 5606) : snm N (nmO (N 2) a l) := by
  refine ⟨h.1, by rw [nmO_len, h7]; omega, by omega, by rw [nmO_len]; omega, fun j c hj => ?_⟩
  rw [h6]
  exact nmO_get hj
theorem nm_of {N : fx_M} {a l : Int} (h : sq N) (ha : 0 ≤ a) (hl : 1 ≤ l ∧ l ≤ 8) (hal : a + l ≤ 5606) : nm_ok (nmO (N 2) a l) := by
  refine ⟨by rw [nmO_len]; omega, by rw [nmO_len]; omega, fun c hc => ?_⟩
  obtain ⟨j, hj1, hj2⟩ := List.mem_map.mp hc
  have hj := List.mem_range.mp hj1
  rw [← hj2]
  have := h.2.2.2.2.2.2.2.2 (a + (j : Int)) (by omega) (by omega)
  exact this
theorem rBM_0 {g : Int → Int} {n p w : Int} (hp : p ≤ n) : 0 ≤ (rBM g n p w).2.1 ∧ (rBM g n p w).2.1 ≤ 8 ∧ p ≤ (rBM g n p w).1 ∧ (rBM g n p w).1 + (rBM g n p w).2.1 ≤ n ∧ ((rBM g n p w).2.2 = 0 ∨ (rBM g n p w).2.2 = 1) ∧ ((rBM g n p w).2.2 = 0 → 1 ≤ (rBM g n p w).2.1) := by
  have h1 := rT_b (g := g) (e := n) (c := 32) (p := p) (w := w) hp
  have h2 := rNm_b (g := g) (e := n) (p := (rT g n 32 p w).1) (w := (rT g n 32 p w).2) h1.2.1
  have e1 : (rBM g n p w).1 = (rT g n 32 p w).1 := rfl
  have e2 : (rBM g n p w).2 = rNm g n (rT g n 32 p w).1 (rT g n 32 p w).2 := rfl
  rw [e1, e2]
  refine ⟨h2.1, h2.2.1, h1.1, h2.2.2.1, by omega, fun h => ?_⟩
  unfold rNm at h ⊢
  split at h
  · rename_i hw
    rw [if_pos hw]
    dsimp only at h ⊢
    split at h
    · omega
    · omega
  · dsimp only at h
    omega
theorem rBN_wz {g : Int → Int} {n p w : Int} {m : Nat} (h : (rBN g n m p w).2.2 = 0) (hw : w = 0 ∨ w = 1) : w = 0 := by
  rcases hw with e | e
  · exact e
  · rw [e, rBN_w] at h
    cases h
end RQO
def rSt (g : Int → Int) (n p : Int) : Int × Int × Int := rBN g n 3 ((rBM g n p 0).1 + (rBM g n p 0).2.1) (rBM g n p 0).2.2
def stN (g : Int → Int) (n p : Int) : List Int := nmO g (rBM g n p 0).1 (rBM g n p 0).2.1
def rq_set (g : Int → Int) (n p : Int) (S : HS) : Int × Int × List Int × HS := ((rSt g n p).2.1, (rSt g n p).2.2, (if S.2.2.2.1 = 0 then wls 1936225652 else stW (stP S.2.2.2.2.1 (stN g n p) S.2.2.1 (rSt g n p).1).1), (S.1, S.2.1, (if S.2.2.2.1 = 0 then S.2.2.1 else (stP S.2.2.2.2.1 (stN g n p) S.2.2.1 (rSt g n p).1).2), S.2.2.2))
theorem stW_len {n : Nat} : (stW n).length ≤ 20 := by
  unfold stW
  split
  · exact Nat.le_trans t_no_len (by omega)
  · split
    · exact Nat.le_trans wls_8 (by omega)
    · split
      · exact t_rf_len
      · decide
section RQO2
variable {L : Nat} {xs : Nat → Int32} {d : Nat} {M : fx_M} {Q : Option fx_V → fx_M → Prop} {S : HS} {k : Nat}
theorem cw_set {n p : Int} (h : cIn M n p 0) (hS : cRl M S) (hk : hOk k S) (K : ∀ M', cRl M' (fnR n S (rq_set (M 2) n p S)).2 → ctx M' (fnR n S (rq_set (M 2) n p S)).1 → cEnd M M' → Q none M') : wp (kcs L xs) (d + 25) 17 22 [some (jR 0), some (jI n), none] [jI 33] M Q := by
  obtain ⟨c0, c1, c2, c3, c4, c5, c6, c7⟩ := cin_b h
  refine s17_22 (ca_nn (d := d + 18) rfl c0 (fun A n0 ng a1 a2 a3 a4 a5 => ?_))
  rw [c1, c2, c3] at a1 a2 a3 a4 a5
  have mb := rBM_0 (g := M 2) (n := n) (p := p) (w := 0) c6
  have nb := rBN_b (g := M 2) (e := n) (m := 3) (p := (rBM (M 2) n p 0).1 + (rBM (M 2) n p 0).2.1) (w := (rBM (M 2) n p 0).2.2) (by omega) (by omega)
  have er : rBN (M 2) n 3 ((rBM (M 2) n p 0).1 + (rBM (M 2) n p 0).2.1) (rBM (M 2) n p 0).2.2 = rSt (M 2) n p := rfl
  rw [er] at nb a1 a2 a5
  have e10 := e3_10
  have hN := cR_aG hS hk.2.2.2.2.1 ng
  refine cw_fin (d := d + 20) (r := rq_set (M 2) n p S) ⟨by omega, by omega⟩ ⟨by omega, by omega⟩ hN hk (aF_end (aG_F ng)) a1 (show 0 ≤ (rSt (M 2) n p).2.1 ∧ (rSt (M 2) n p).2.1 ≤ 5606 by omega) a2 (show (rSt (M 2) n p).2.2 = 0 ∨ (rSt (M 2) n p).2.2 = 1 by omega) K (fun e3 e1 hSN h30 hO R hR => ⟨fun h => by omega, fun _ h => by omega, fun _ h => by omega, fun _ h => by omega, fun _ h => by omega, fun _ _ => ?_, fun h => by omega, fun h => by omega⟩)
  have hw := rBN_wz (g := M 2) (n := n) (m := 3) (p := (rBM (M 2) n p 0).1 + (rBM (M 2) n p 0).2.1) (w := (rBM (M 2) n p 0).2.2) e3 mb.2.2.2.2.1
  have hl1 := mb.2.2.2.2.2 hw
  have eg : A 2 = M 2 := (aG_2 ng).1
  have hsq : sq (fx_up A 3 1 0) := sc_at_up n0 (by decide) (by omega)
  have eg2 : (fx_up A 3 1 0) 2 = M 2 := by
    rw [← eg]
    funext j
    exact fx_up_na (by decide)
  have hsn : snm (fx_up A 3 1 0) (stN (M 2) n p) := by
    have := sn_of hsq (a := (rBM (M 2) n p 0).1) (l := (rBM (M 2) n p 0).2.1) (by rw [fx_up_na (by decide)]; exact a3) (by rw [fx_up_na (by decide)]; exact a4) (by omega) (by omega) (by omega)
    rw [eg2] at this
    exact this
  have hnm : nm_ok (stN (M 2) n p) := by
    have := nm_of hsq (a := (rBM (M 2) n p 0).1) (l := (rBM (M 2) n p 0).2.1) (by omega) (by omega) (by omega)
    rw [eg2] at this
    exact this
  have et : (rq_set (M 2) n p S).2.2 = ((if S.2.2.2.1 = 0 then wls 1936225652 else stW (stP S.2.2.2.2.1 (stN (M 2) n p) S.2.2.1 (rSt (M 2) n p).1).1), (S.1, S.2.1, (if S.2.2.2.1 = 0 then S.2.2.1 else (stP S.2.2.2.2.1 (stN (M 2) n p) S.2.2.1 (rSt (M 2) n p).1).2), S.2.2.2)) := rfl
  rw [et] at hR
  refine s176 ⟨⟨by omega, by omega⟩, fun h => by omega, fun _ => ?_, fun h => by omega, fun h => by omega⟩
  obtain ⟨h1, ⟨Y, y1, y2⟩, h3, h4, h5, h6, h7⟩ := hSN
  rcases hk.2.2.2.2.2.1 with e0 | e0
  · rw [if_pos e0, if_pos e0] at hR
    have es : ([115, 104, 117, 116] : List Int32).map Int32.toInt = wls 1936225652 := by decide +kernel
    refine s177 ?_
    rw [h5, e0]
    refine ⟨⟨by omega, by omega⟩, fun h => absurd rfl h, fun _ => sp_puts (d := d + 18) fx_out3 lt_1000147 hO (s177_19 (s176_53 ?_))⟩
    rw [es]
    obtain ⟨r1, r2, r3⟩ := fi_wr (cs := wls 1936225652) (S := S) ⟨h1, ⟨Y, y1, y2⟩, h3, h4, h5, h6, h7⟩ hk.2.2.2.2.1 h30 (Nat.le_trans wls_8 (by omega)) cwr_o
    exact hR _ r1 r2 r3
  · rw [if_neg (by omega), if_neg (by omega)] at hR
    refine sp_setItem (d := d + 15) (pts := (rSt (M 2) n p).1) hsn hnm h6 hk.2.2.2.2.2.2.1 (hk.2.2.2.2.2.2.2.1 e0) y1 y2 h4 hk.2.2.2.2.1 hO (by rw [fx_up_na (by decide)]; exact a5) ⟨by omega, by omega⟩ (by rw [h5, e0]) (fun M' m1 m2 m3 => s176_53 ?_)
    have f : ∀ b j, b ≠ 3 → b ≠ 4 → b ≠ 129 → b ≠ 132 → ¬ (20 ≤ b ∧ b ≤ 28) → ¬ (62 ≤ b ∧ b ≤ 124) → M' b j = (fx_up A 3 1 0) b j := fun b j b1 b2 b3 b4 b5 b6 => by rw [m3 b j b3 b4 b5 b6 (fun h => absurd h b1), o_app_ne b1 b2]
    refine hR M' ⟨cz_fr h1 (fun b j b1 b2 => f b j (by omega) (by omega) (by omega) (by omega) (by omega) (by omega)), m2, cpv_fr h3 (fun b j b1 b2 => f b j (by omega) (by omega) (by omega) (by omega) (by omega) (by omega)), m1, by rw [f _ _ (by omega) (by omega) (by omega) (by omega) (by omega) (by omega)]; exact h5, ?_, clg_fr h7 (fun b j b1 b2 => f b j (by omega) (by omega) (by omega) (by omega) (by omega) (by omega))⟩ (ctx_out h30 (Nat.le_trans stW_len (by omega)) (m3 3 1 (by decide) (by decide) (by omega) (by omega) (fun _ => rfl)) (fun j => m3 4 j (by decide) (by decide) (by omega) (by omega) (fun h => by omega))) (fun b j hb => f b j (by omega) (by omega) (by omega) (by omega) (by omega) (by omega))
    show M' 126 = S.2.2.2.2.1
    rw [← h6]
    funext j
    exact f 126 j (by omega) (by omega) (by omega) (by omega) (by omega) (by omega)
end RQO2
