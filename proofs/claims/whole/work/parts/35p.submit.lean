/-! REQUESTS, the class: submit. -/
def sbA1 (g : Int → Int) (n p : Int) : Int × Int × Int := rBN g n 1 p 0
def sbA2 (g : Int → Int) (n p : Int) : Int × Int × Int := rBM g n (sbA1 g n p).2.1 (sbA1 g n p).2.2
def sbA3 (g : Int → Int) (n p : Int) : Int × Int × Int := rBN g n 3 ((sbA2 g n p).1 + (sbA2 g n p).2.1) (sbA2 g n p).2.2
def sbA4 (g : Int → Int) (n p : Int) : Int × Int × Int := rBD g n (sbA3 g n p).2.1 (sbA3 g n p).2.2
def sbR (g : Int → Int) (n p : Int) (C : List CI) : Nat × List CI := sb C (nmO g (sbA2 g n p).1 (sbA2 g n p).2.1) (sbA1 g n p).1 (sbA3 g n p).1 (dgO g (sbA4 g n p).1 (sbA4 g n p).2.1)
def rq_submit (g : Int → Int) (n p : Int) (S : HS) : Int × Int × List Int × HS := ((sbA4 g n p).1 + (sbA4 g n p).2.1, (sbA4 g n p).2.2, sbT (sbR g n p S.2.2.1).1, (S.1, S.2.1, (sbR g n p S.2.2.1).2, S.2.2.2))
theorem sbT_len {n : Nat} : (sbT n).length ≤ 20 := by
  unfold sbT
  split
  · exact Nat.le_trans t_no_len (by omega)
  · split
    · exact Nat.le_trans t_no_len (by omega)
    · split
      · exact Nat.le_trans wls_8 (by omega)
      · split
        · exact Nat.le_trans t_no_len (by omega)
        · split
          · exact Nat.le_trans wls_8 (by omega)
          · exact Nat.le_trans wls_8 (by omega)
theorem rBD_0 {g : Int → Int} {n p w : Int} (hp : p ≤ n) : 0 ≤ (rBD g n p w).2.1 ∧ p ≤ (rBD g n p w).1 ∧ (rBD g n p w).1 + (rBD g n p w).2.1 ≤ n ∧ ((rBD g n p w).2.2 = 0 ∨ (rBD g n p w).2.2 = 1) ∧ ((rBD g n p w).2.2 = 0 → w = 0 ∧ ∀ i : Nat, (i : Int) < (rBD g n p w).2.1 → isD (g ((rBD g n p w).1 + (i : Int)))) := by
  have h1 := rT_b (g := g) (e := n) (c := 32) (p := p) (w := w) hp
  have h2 := rDg_b (g := g) (e := n) (p := (rT g n 32 p w).1) (w := (rT g n 32 p w).2) h1.2.1
  have e1 : (rBD g n p w).1 = (rT g n 32 p w).1 := rfl
  have e2 : (rBD g n p w).2 = rDg g n (rT g n 32 p w).1 (rT g n 32 p w).2 := rfl
  rw [e1, e2]
  refine ⟨h2.1, h1.1, h2.2.1, by omega, fun h => ?_⟩
  unfold rDg at h ⊢
  split at h
  · rename_i hw
    rw [if_pos hw]
    refine ⟨(rT_0 hw).2.1, fun i hi => rDs_d (g := g) (e := n) ((n - (rT g n 32 p w).1).toNat) _ i ?_⟩
    dsimp only at hi
    omega
  · dsimp only at h
    omega
theorem rBM_wz {g : Int → Int} {n p w : Int} (h : (rBM g n p w).2.2 = 0) : w = 0 := by
  have e2 : (rBM g n p w).2 = rNm g n (rT g n 32 p w).1 (rT g n 32 p w).2 := rfl
  rw [e2] at h
  unfold rNm at h
  split at h
  · rename_i hw
    exact (rT_0 hw).2.1
  · dsimp only at h
    omega
section RQP
variable {L : Nat} {xs : Nat → Int32} {d : Nat} {M : fx_M} {Q : Option fx_V → fx_M → Prop} {S : HS} {k : Nat}
theorem cw_submit {n p : Int} (h : cIn M n p 0) (hS : cRl M S) (hk : hOk k S) (K : ∀ M', cRl M' (fnR n S (rq_submit (M 2) n p S)).2 → ctx M' (fnR n S (rq_submit (M 2) n p S)).1 → cEnd M M' → Q none M') : wp (kcs L xs) (d + 25) 17 22 [some (jR 0), some (jI n), none] [jI 34] M Q := by
  obtain ⟨c0, c1, c2, c3, c4, c5, c6, c7⟩ := cin_b h
  refine s17_22 (ca_sb (d := d + 18) rfl c0 (fun A n0 ng a1 a2 a3 a4 a5 a6 a7 a8 => ?_))
  rw [c1, c2, c3] at a1 a2 a3 a4 a5 a6 a7 a8
  have g1 : rBN (M 2) n 1 p 0 = sbA1 (M 2) n p := rfl
  rw [g1] at a1 a2 a3 a4 a5 a6 a7 a8
  have g2 : rBM (M 2) n (sbA1 (M 2) n p).2.1 (sbA1 (M 2) n p).2.2 = sbA2 (M 2) n p := rfl
  rw [g2] at a1 a2 a4 a5 a6 a7 a8
  have g3 : rBN (M 2) n 3 ((sbA2 (M 2) n p).1 + (sbA2 (M 2) n p).2.1) (sbA2 (M 2) n p).2.2 = sbA3 (M 2) n p := rfl
  rw [g3] at a1 a2 a6 a7 a8
  have g4 : rBD (M 2) n (sbA3 (M 2) n p).2.1 (sbA3 (M 2) n p).2.2 = sbA4 (M 2) n p := rfl
  rw [g4] at a1 a2 a7 a8
  have b1 := rBN_b (g := M 2) (e := n) (m := 1) (p := p) (w := 0) (by omega) c6
  rw [g1] at b1
  have b2 := rBM_0 (g := M 2) (n := n) (p := (sbA1 (M 2) n p).2.1) (w := (sbA1 (M 2) n p).2.2) b1.2.1
  rw [g2] at b2
  have b3 := rBN_b (g := M 2) (e := n) (m := 3) (p := (sbA2 (M 2) n p).1 + (sbA2 (M 2) n p).2.1) (w := (sbA2 (M 2) n p).2.2) (by omega) (by omega)
  rw [g3] at b3
  have b4 := rBD_0 (g := M 2) (n := n) (p := (sbA3 (M 2) n p).2.1) (w := (sbA3 (M 2) n p).2.2) b3.2.1
  rw [g4] at b4
  have e10 := e3_10
  have e11 := e1_10
  have hN := cR_aG hS hk.2.2.2.2.1 ng
  refine cw_fin (d := d + 20) (r := rq_submit (M 2) n p S) ⟨by omega, by omega⟩ ⟨by omega, by omega⟩ hN hk (aF_end (aG_F ng)) a1 (show 0 ≤ (sbA4 (M 2) n p).1 + (sbA4 (M 2) n p).2.1 ∧ (sbA4 (M 2) n p).1 + (sbA4 (M 2) n p).2.1 ≤ 5606 by omega) a2 (show (sbA4 (M 2) n p).2.2 = 0 ∨ (sbA4 (M 2) n p).2.2 = 1 by omega) K (fun e3 e1 hSN h30 hO R hR => ⟨fun h => by omega, fun _ h => by omega, fun _ h => by omega, fun _ h => by omega, fun _ h => by omega, fun _ _ => ?_, fun h => by omega, fun h => by omega⟩)
  have d4 := b4.2.2.2.2 e3
  have d3 := rBN_wz (g := M 2) (n := n) (m := 3) (p := (sbA2 (M 2) n p).1 + (sbA2 (M 2) n p).2.1) (w := (sbA2 (M 2) n p).2.2) d4.1 b2.2.2.2.2.1
  have l1 := b2.2.2.2.2.2 d3
  have eg : A 2 = M 2 := (aG_2 ng).1
  have hsq : sq (fx_up A 3 1 0) := sc_at_up n0 (by decide) (by omega)
  have eg2 : (fx_up A 3 1 0) 2 = M 2 := by
    rw [← eg]
    funext j
    exact fx_up_na (by decide)
  have u7 : ∀ j, (fx_up A 3 1 0) 7 j = A 7 j := fun j => fx_up_na (by decide)
  have hsn : snm (fx_up A 3 1 0) (nmO (M 2) (sbA2 (M 2) n p).1 (sbA2 (M 2) n p).2.1) := by
    have := sn_of hsq (a := (sbA2 (M 2) n p).1) (l := (sbA2 (M 2) n p).2.1) (by rw [u7]; exact a4) (by rw [u7]; exact a5) (by omega) (by omega) (by omega)
    rw [eg2] at this
    exact this
  have hnm : nm_ok (nmO (M 2) (sbA2 (M 2) n p).1 (sbA2 (M 2) n p).2.1) := by
    have := nm_of hsq (a := (sbA2 (M 2) n p).1) (l := (sbA2 (M 2) n p).2.1) (by omega) (by omega) (by omega)
    rw [eg2] at this
    exact this
  have hdg : sdg (fx_up A 3 1 0) (dgO (M 2) (sbA4 (M 2) n p).1 (sbA4 (M 2) n p).2.1) := by
    refine ⟨hsq.1, by rw [u7, a8, dgO_len]; omega, by rw [u7, a7]; omega, by rw [u7, a7, dgO_len]; omega, fun y hy => ?_, fun j c hj => by rw [u7, a7, eg2]; exact dgO_get hj⟩
    obtain ⟨j, hj1, hj2⟩ := List.mem_map.mp hy
    have hj := List.mem_range.mp hj1
    have := d4.2 j (by omega)
    unfold isD at this
    omega
  refine s176 ⟨⟨by omega, by omega⟩, fun h => by omega, fun h => by omega, fun _ => ?_, fun h => by omega⟩
  rw [up9, up9, a3, a6]
  have et : (rq_submit (M 2) n p S).2.2 = (sbT (sbR (M 2) n p S.2.2.1).1, (S.1, S.2.1, (sbR (M 2) n p S.2.2.1).2, S.2.2.2)) := rfl
  rw [et] at hR
  obtain ⟨h1, ⟨Y, y1, y2⟩, h3, h4, h5, h6, h7⟩ := hSN
  refine sp_submit (d := d + 19) hsn hnm h4 hk.2.2.2.2.1 hdg ⟨by omega, by omega⟩ (fun M' m1 m2 => s176_89 ?_)
  obtain ⟨bs, q1, q2⟩ := sb_str (L := L) (xs := xs) (sb_le (C := S.2.2.1) (nm := nmO (M 2) (sbA2 (M 2) n p).1 (sbA2 (M 2) n p).2.1) (p := (sbA1 (M 2) n p).1) (tm := (sbA3 (M 2) n p).1) (x := dgO (M 2) (sbA4 (M 2) n p).1 (sbA4 (M 2) n p).2.1))
  have m30 : M' 3 1 = 0 := by rw [m2 3 1 (by omega), h30]
  refine sp_puts (d := d + 19) fx_out3 q1 (ca_ok0 m30) (s176_92 ?_)
  rw [q2]
  have f : ∀ b j, b ≠ 3 → b ≠ 4 → ¬ (62 ≤ b ∧ b ≤ 124) → (o_app M' 3 (sbT (sbR (M 2) n p S.2.2.1).1)) b j = (fx_up A 3 1 0) b j := fun b j b1 b2 b3 => by rw [o_app_ne b1 b2, m2 b j (by omega)]
  have hC' : cct (o_app M' 3 (sbT (sbR (M 2) n p S.2.2.1).1)) (sbR (M 2) n p S.2.2.1).2 := by
    refine ⟨by rw [o_app_ne (by decide) (by decide)]; exact m1.1, fun i t hi => ?_⟩
    obtain ⟨z1, z2, z3, z4, z5⟩ := m1.2 i t hi
    exact ⟨by rw [o_app_ne (by decide) (by decide)]; exact z1, fun j c hj => by rw [o_app_ne (by decide) (by decide)]; exact z2 j c hj, cz_fr z3 (fun b j b1 b2 => o_app_ne (by omega) (by omega)), by rw [o_app_ne (by decide) (by decide)]; exact z4, fun pp hp => ⟨by rw [o_app_ne (by decide) (by decide)]; exact (z5 pp hp).1, by rw [o_app_ne (by decide) (by decide)]; exact (z5 pp hp).2⟩⟩
  refine hR _ ⟨cz_fr h1 (fun b j b1 b2 => f b j (by omega) (by omega) (by omega)), ⟨Y, cz_fr y1 (fun b j b1 b2 => f b j (by omega) (by omega) (by omega)), y2⟩, cpv_fr h3 (fun b j b1 b2 => f b j (by omega) (by omega) (by omega)), hC', (f 125 1 (by omega) (by omega) (by omega)).trans h5, ?_, clg_fr h7 (fun b j b1 b2 => f b j (by omega) (by omega) (by omega))⟩ (ctx_app m30 (Nat.le_trans sbT_len (by omega))) (fun b j hb => f b j (by omega) (by omega) (by omega))
  show (o_app M' 3 (sbT (sbR (M 2) n p S.2.2.1).1)) 126 = S.2.2.2.2.1
  rw [← h6]
  funext j
  exact f 126 j (by omega) (by omega) (by omega)
end RQP
