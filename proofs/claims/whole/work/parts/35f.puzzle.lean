/-! REQUESTS, the class: new, rule, each, give, drop, text, load. -/
theorem tChg_len {v b r : Int} {Z : PZ} : (tChg v b r Z).length ≤ 20 := by
  unfold tChg
  have h1 := dgs_len (v := b)
  have h2 := dgs_len (v := (Z.2.2.2.1.length : Int) - b)
  split
  · split
    · rw [List.length_append]
      simp only [List.length_cons, List.length_nil]
      omega
    · split
      · rw [List.length_append]
        simp only [List.length_cons, List.length_nil]
        omega
      · decide
  · exact t_rf_len
/-- new: the end, wrong, the answer, the state -/
def rq_new (g : Int → Int) (n p : Int) (S : HS) : Int × Int × List Int × HS := ((rZ3 g n p 0).2.1, (rZ3 g n p 0).2.2, tChg 0 (S.1.2.2.2.1.length : Int) (q_size S.1 (rZ1 g n p 0).1 (rZ2 g n p 0).1 (rZ3 g n p 0).1).1 (q_size S.1 (rZ1 g n p 0).1 (rZ2 g n p 0).1 (rZ3 g n p 0).1).2, ((q_size S.1 (rZ1 g n p 0).1 (rZ2 g n p 0).1 (rZ3 g n p 0).1).2, vNew (q_size S.1 (rZ1 g n p 0).1 (rZ2 g n p 0).1 (rZ3 g n p 0).1).1 S.2.1, S.2.2))
def rq_rule (g : Int → Int) (n p : Int) (S : HS) : Int × Int × List Int × HS := ((rRu g n p 0).2.1, (rRu g n p 0).2.2, tChg 1 (S.1.2.2.2.1.length : Int) (q_rule S.1 (rK g n bsK p 0).1 (rK g n bsK p 0).2.1 (rRu g n p 0).1).1 (q_rule S.1 (rK g n bsK p 0).1 (rK g n bsK p 0).2.1 (rRu g n p 0).1).2, ((q_rule S.1 (rK g n bsK p 0).1 (rK g n bsK p 0).2.1 (rRu g n p 0).1).2, vNew (q_rule S.1 (rK g n bsK p 0).1 (rK g n bsK p 0).2.1 (rRu g n p 0).1).1 S.2.1, S.2.2))
def rEa (g : Int → Int) (n p : Int) : Int × Int × Int × Int := rK g n bsK (rSd g n p 0).2.1 (rSd g n p 0).2.2
def rq_each (g : Int → Int) (n p : Int) (S : HS) : Int × Int × List Int × HS := ((rEa g n p).2.2.1, (rEa g n p).2.2.2, tChg 2 (S.1.2.2.2.1.length : Int) (q_each S.1 (rSd g n p 0).1 (rEa g n p).1 (rEa g n p).2.1).1 (q_each S.1 (rSd g n p 0).1 (rEa g n p).1 (rEa g n p).2.1).2, ((q_each S.1 (rSd g n p 0).1 (rEa g n p).1 (rEa g n p).2.1).2, vNew (q_each S.1 (rSd g n p 0).1 (rEa g n p).1 (rEa g n p).2.1).1 S.2.1, S.2.2))
def rCs (g : Int → Int) (n p : Int) : Int × Int × Int := rBS g n (rBN g n 3 p 0).2.1 (rBN g n 3 p 0).2.2
def rq_give (g : Int → Int) (n p : Int) (S : HS) : Int × Int × List Int × HS := ((rCs g n p).2.1, (rCs g n p).2.2, tChg 3 (S.1.2.2.2.1.length : Int) (q_give S.1 (rBN g n 3 p 0).1 (rCs g n p).1).1 (q_give S.1 (rBN g n 3 p 0).1 (rCs g n p).1).2, ((q_give S.1 (rBN g n 3 p 0).1 (rCs g n p).1).2, vNew (q_give S.1 (rBN g n 3 p 0).1 (rCs g n p).1).1 S.2.1, S.2.2))
section RQF
variable {L : Nat} {xs : Nat → Int32} {d : Nat} {M : fx_M} {Q : Option fx_V → fx_M → Prop} {S : HS} {k : Nat}
theorem ch_end {B P M' V' : fx_M} {Z' : PZ} {cs : List Int} (hB : cRl B S) (hk : ct_ok k S.2.2.1) (h30 : B 3 1 = 0) (hP : pfr 11 B P) (hz : cz M' 11 Z') (hv : cpv M' V') (f : chF P M' cs) (hl : cs.length ≤ 5600) : cRl M' (Z', V', S.2.2) ∧ ctx M' cs ∧ cEnd B M' := by
  obtain ⟨h1, ⟨Y, y1, y2⟩, h3, h4, h5, h6, h7⟩ := hB
  have g : ∀ b j, b ≠ 3 → b ≠ 4 → ¬ (11 ≤ b ∧ b ≤ 19) → ¬ (54 ≤ b ∧ b ≤ 57) → M' b j = B b j := fun b j b1 b2 b3 b4 => by rw [f b j b4 (fun h => absurd h b1), o_app_ne b1 b2, hP b j b3]
  refine ⟨⟨hz, ⟨Y, cz_fr y1 (fun b j b1 b2 => g b j (by omega) (by omega) (by omega) (by omega)), y2⟩, hv, cct_fr h4 hk (fun b j b1 => g b j (by omega) (by omega) (by omega) (by omega)), by rw [g _ _ (by omega) (by omega) (by omega) (by omega)]; exact h5, ?_, clg_fr h7 (fun b j b1 b2 => g b j (by omega) (by omega) (by omega) (by omega))⟩, ?_, fun b j hb => g b j (by omega) (by omega) (by omega) (by omega)⟩
  · rw [← h6]
    funext j
    exact g 126 j (by omega) (by omega) (by omega) (by omega)
  · have e3 : P 3 1 = B 3 1 := hP 3 1 (by omega)
    exact ctx_out (M := P) (by rw [e3]; exact h30) hl (f 3 1 (by omega) (fun _ => rfl)) (fun j => f 4 j (by omega) (fun h => by omega))
theorem q_b {Z : PZ} {w h s : Int} : 0 ≤ (q_size Z w h s).1 ∧ (q_size Z w h s).1 ≤ 5 ∧ ((q_size Z w h s).1 = 0 → (q_size Z w h s).2.2.2.2.1 = []) := by
  unfold q_size
  split
  · exact ⟨by omega, by omega, fun _ => rfl⟩
  · exact ⟨by dsimp only; omega, by dsimp only; omega, fun h => by dsimp only at h; omega⟩
theorem qr_b {Z : PZ} {kk nn : Int} {l : List Int} : 0 ≤ (q_rule Z kk nn l).1 ∧ (q_rule Z kk nn l).1 ≤ 5 := by
  unfold q_rule
  split
  · split
    · exact ⟨by dsimp only; omega, by dsimp only; omega⟩
    · split
      · exact ⟨by dsimp only; omega, by dsimp only; omega⟩
      · exact ⟨by dsimp only; omega, by dsimp only; omega⟩
  · exact ⟨by dsimp only; omega, by dsimp only; omega⟩
theorem qe_b {Z : PZ} {s kk nn : Int} : 0 ≤ (q_each Z s kk nn).1 ∧ (q_each Z s kk nn).1 ≤ 5 ∧ (Z.2.2.2.1.length : Int) ≤ (q_each Z s kk nn).2.2.2.2.1.length := by
  unfold q_each
  split
  · exact ⟨by dsimp only; omega, by dsimp only; omega, by dsimp only; omega⟩
  · split
    · exact ⟨by dsimp only; omega, by dsimp only; omega, by dsimp only; omega⟩
    · refine ⟨by dsimp only; omega, by dsimp only; omega, ?_⟩
      unfold z_adds
      dsimp only
      rw [List.length_append]
      omega
theorem qg_b {Z : PZ} {c s : Int} : 0 ≤ (q_give Z c s).1 ∧ (q_give Z c s).1 ≤ 5 := by
  unfold q_give
  split
  · split
    · exact ⟨by dsimp only; omega, by dsimp only; omega⟩
    · exact ⟨by dsimp only; omega, by dsimp only; omega⟩
  · exact ⟨by dsimp only; omega, by dsimp only; omega⟩
theorem cin_b {n p : Int} (h : cIn M n p 0) : sq M ∧ M 7 1 = p ∧ M 7 2 = n ∧ M 7 3 = 0 ∧ M 7 4 = 1000001 ∧ 0 ≤ p ∧ p ≤ n ∧ n ≤ 5606 := by
  obtain ⟨h1, h2, h3, h4, h5⟩ := h
  have a := h1.2.2.2.1
  have b := h1.2.2.2.2.1
  have c := h1.2.2.2.2.2.1
  exact ⟨h1, h2, h3, h4, h5, by omega, by omega, by omega⟩
theorem cR_aG {N : fx_M} (h : cRl M S) (hk : ct_ok k S.2.2.1) (g : aG M N) : cRl N S := cRl_fr h hk (fun b j hb => g b j (by omega) (by omega) (by omega))
theorem cw_new {n p : Int} (h : cIn M n p 0) (hS : cRl M S) (hk : hOk k S) (K : ∀ M', cRl M' (fnR n S (rq_new (M 2) n p S)).2 → ctx M' (fnR n S (rq_new (M 2) n p S)).1 → cEnd M M' → Q none M') : wp (kcs L xs) (d + 25) 17 22 [some (jR 0), some (jI n), none] [jI 0] M Q := by
  obtain ⟨c0, c1, c2, c3, c4, c5, c6, c7⟩ := cin_b h
  refine s17_22 (ca_new (d := d + 18) rfl c0 (fun N n0 ng n1 n2 n3 n4 n5 => ?_))
  rw [c1, c2, c3] at n1 n2 n3 n4 n5
  have b1 := rBN_b (g := M 2) (e := n) (m := 1) (p := p) (w := 0) (by omega) c6
  have b2 := rBN_b (g := M 2) (e := n) (m := 1) (p := (rZ1 (M 2) n p 0).2.1) (w := (rZ1 (M 2) n p 0).2.2) (by omega) b1.2.1
  have b3 := rBN_b (g := M 2) (e := n) (m := 1) (p := (rZ2 (M 2) n p 0).2.1) (w := (rZ2 (M 2) n p 0).2.2) (by omega) b2.2.1
  have w1 : fx_in32 (rZ1 (M 2) n p 0).1 := ⟨by have := b1.2.2.2.2; unfold rZ1; omega, by have := b1.2.2.2.2; unfold rZ1; omega⟩
  have w2 : fx_in32 (rZ2 (M 2) n p 0).1 := ⟨by have := b2.2.2.2.2; unfold rZ2; omega, by have := b2.2.2.2.2; unfold rZ2; omega⟩
  have w3 : fx_in32 (rZ3 (M 2) n p 0).1 := ⟨by have := b3.2.2.2.2; unfold rZ3; omega, by have := b3.2.2.2.2; unfold rZ3; omega⟩
  have ep : (rZ3 (M 2) n p 0) = rBN (M 2) n 1 (rZ2 (M 2) n p 0).2.1 (rZ2 (M 2) n p 0).2.2 := rfl
  have eq2 : (rZ2 (M 2) n p 0) = rBN (M 2) n 1 (rZ1 (M 2) n p 0).2.1 (rZ1 (M 2) n p 0).2.2 := rfl
  have eq1 : (rZ1 (M 2) n p 0) = rBN (M 2) n 1 p 0 := rfl
  rw [← ep] at b3
  rw [← eq2] at b2
  rw [← eq1] at b1
  have hN := cR_aG hS hk.2.2.2.2.1 ng
  refine cw_fin (d := d + 20) (r := rq_new (M 2) n p S) ⟨by omega, by omega⟩ ⟨by omega, by omega⟩ hN hk (aF_end (aG_F ng)) n1 (show 0 ≤ (rZ3 (M 2) n p 0).2.1 ∧ (rZ3 (M 2) n p 0).2.1 ≤ 5606 by omega) n2 (show (rZ3 (M 2) n p 0).2.2 = 0 ∨ (rZ3 (M 2) n p 0).2.2 = 1 by omega) K (fun e3 e1 hSN h30 hO R hR => ⟨fun _ => ?_, fun h => by omega, fun h => by omega, fun h => by omega, fun h => by omega, fun h => by omega, fun h => by omega, fun h => by omega⟩)
  refine s66 ⟨⟨by omega, by omega⟩, fun _ => ?_, fun h => by omega, fun h => by omega, fun h => by omega, fun h => by omega, fun h => by omega, fun h => by omega, fun h => by omega⟩
  rw [fx_up_na (b := 9) (by decide), fx_up_na (b := 9) (by decide), fx_up_na (b := 9) (by decide), n3, n4, n5]
  have h4 := hSN.1.2.2.2.2.1
  have h12 := hk.1.2.2.2.2.2.2.1
  refine sp_renewQ (d := d + 22) puz11 hSN.1 hk.1 w1 w2 w3 (fun P a p1 p2 p3 p4 => s66_90 ⟨rfa_lit p1, sp_rfEmpty (d := d + 22) p1 ?_⟩)
  rw [h4]
  have e3P : P 3 1 = 0 := by rw [p4 3 1 (by omega), h30]
  refine cl_232 (d := d + 19) ⟨by omega, by omega⟩ (by omega) p1 ⟨q_b.1, q_b.2.1⟩ ⟨by omega, by omega, fun h => by omega⟩ p3 p2 (cpv_fr hSN.2.2.1 (fun b j b1 b2 => p4 b j (by omega))) (by unfold o_ok; rw [e3P]; omega) (fun M' m1 m2 m3 => ?_)
  obtain ⟨r1, r2, r3⟩ := ch_end hSN hk.2.2.2.2.1 h30 p4 m1 m2 m3 (by have := tChg_len (v := 0) (b := (S.1.2.2.2.1.length : Int)) (r := (q_size S.1 (rZ1 (M 2) n p 0).1 (rZ2 (M 2) n p 0).1 (rZ3 (M 2) n p 0).1).1) (Z := (q_size S.1 (rZ1 (M 2) n p 0).1 (rZ2 (M 2) n p 0).1 (rZ3 (M 2) n p 0).1).2); omega)
  exact hR M' r1 r2 r3
end RQF
