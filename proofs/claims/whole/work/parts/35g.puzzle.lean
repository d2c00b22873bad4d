/-! REQUESTS, the class: rule, each, give, drop, text, load. -/
theorem rK_p {g : Int → Int} {n p : Int} (hp : p ≤ n) : p ≤ (rK g n bsK p 0).2.2.1 ∧ (rK g n bsK p 0).2.2.1 ≤ n := by
  have := rK_b (g := g) (e := n) (bs := bsK) (p := p) (w := 0) hp
  omega
def t_norule : List Int := [110, 111, 32, 114, 117, 108, 101]
def rq_drop (p : Int) (S : HS) : Int × Int × List Int × HS := (p, 0, (if S.1.2.2.2.1 = [] then t_norule else t_ok), (if S.1.2.2.2.1 = [] then S else (z_drop S.1, pv_new S.2.1, S.2.2)))
def rq_text (p : Int) (S : HS) : Int × Int × List Int × HS := (p, 0, tText S.1, S)
/-- the text behind a blank -/
def rLo (g : Int → Int) (n p : Int) (Y : PZ) : Int × Int × Int × PZ := rText g n (rT g n 32 p 0).1 (rT g n 32 p 0).2 0 Y
def rq_load (g : Int → Int) (n p : Int) (S : HS) : Int × Int × List Int × HS := ((rLo g n p (z_new 1 1 1)).1, (rLo g n p (z_new 1 1 1)).2.1, t_rf (rLo g n p (z_new 1 1 1)).2.2.1, ((if (rLo g n p (z_new 1 1 1)).2.2.1 = 0 then (rLo g n p (z_new 1 1 1)).2.2.2 else S.1), vNew (rLo g n p (z_new 1 1 1)).2.2.1 S.2.1, S.2.2))
section RQG
variable {L : Nat} {xs : Nat → Int32} {d : Nat} {M : fx_M} {Q : Option fx_V → fx_M → Prop} {S : HS} {k : Nat}
theorem cw_rule {n p : Int} (h : cIn M n p 0) (hS : cRl M S) (hk : hOk k S) (K : ∀ M', cRl M' (fnR n S (rq_rule (M 2) n p S)).2 → ctx M' (fnR n S (rq_rule (M 2) n p S)).1 → cEnd M M' → Q none M') : wp (kcs L xs) (d + 25) 17 22 [some (jR 0), some (jI n), none] [jI 1] M Q := by
  obtain ⟨c0, c1, c2, c3, c4, c5, c6, c7⟩ := cin_b h
  refine s17_22 (ca_rule (d := d + 15) c0 (fun N n0 ng n1 n2 n3 n4 n5 n6 => ?_))
  rw [c1, c2, c3] at n1 n2 n3 n4 n5 n6
  have kb := rK_b (g := M 2) (e := n) (bs := bsK) (p := p) (w := 0) c6
  have rb := rR_b (g := M 2) (e := n) ((n - (rK (M 2) n bsK p 0).2.2.1).toNat + 1) true (rK (M 2) n bsK p 0).2.2.1 (rK (M 2) n bsK p 0).2.2.2 (by omega) (by omega) (by omega)
  have rl := rR_l (g := M 2) (e := n) ((n - (rK (M 2) n bsK p 0).2.2.1).toNat + 1) true (rK (M 2) n bsK p 0).2.2.1 (rK (M 2) n bsK p 0).2.2.2 (by omega)
  have er : rR (M 2) n ((n - (rK (M 2) n bsK p 0).2.2.1).toNat + 1) true (rK (M 2) n bsK p 0).2.2.1 (rK (M 2) n bsK p 0).2.2.2 = rRu (M 2) n p 0 := rfl
  rw [er] at rb rl
  have hN := cR_aG hS hk.2.2.2.2.1 ng
  refine cw_fin (d := d + 20) (r := rq_rule (M 2) n p S) ⟨by omega, by omega⟩ ⟨by omega, by omega⟩ hN hk (aF_end (aG_F ng)) n1 (show 0 ≤ (rRu (M 2) n p 0).2.1 ∧ (rRu (M 2) n p 0).2.1 ≤ 5606 by omega) n2 (show (rRu (M 2) n p 0).2.2 = 0 ∨ (rRu (M 2) n p 0).2.2 = 1 by omega) K (fun e3 e1 hSN h30 hO R hR => ⟨fun _ => ?_, fun h => by omega, fun h => by omega, fun h => by omega, fun h => by omega, fun h => by omega, fun h => by omega, fun h => by omega⟩)
  have hw : (rK (M 2) n bsK p 0).2.2.2 = 0 := rR_w0 (g := M 2) (e := n) (f := (n - (rK (M 2) n bsK p 0).2.2.1).toNat + 1) (b := true) (p := (rK (M 2) n bsK p 0).2.2.1) e3
  have hk0 := rK_0 hw
  refine s66 ⟨⟨by omega, by omega⟩, fun h => by omega, fun _ => ?_, fun h => by omega, fun h => by omega, fun h => by omega, fun h => by omega, fun h => by omega, fun h => by omega⟩
  rw [fx_up_na (b := 7) (by decide), fx_up_na (b := 7) (by decide), fx_up_na (b := 7) (by decide), n3, n4, n5]
  have h4 := hSN.1.2.2.2.2.1
  have h12 := hk.1.2.2.2.2.2.2.1
  refine sp_addRuleQ (d := d + 21) puz11 (by decide +kernel) (by decide) hSN.1 hk.1 ⟨hk0.1, hk0.2.1⟩ ⟨kb.2.2.1, kb.2.2.2.1⟩ (by omega) (fun i c hi h4 => by rw [fx_up_na (by decide)]; exact n6 i c hi h4) rl.1 (fun P a p1 p2 p3 p4 => s66_129 ⟨rfa_lit p1, sp_rfEmpty (d := d + 22) p1 ?_⟩)
  rw [h4]
  have p4' : pfr 11 (fx_up N 3 1 0) P := fun b j hb => p4 b j (by omega)
  have e3P : P 3 1 = 0 := by rw [p4' 3 1 (by omega), h30]
  refine cl_232 (d := d + 19) ⟨by omega, by omega⟩ (by omega) p1 ⟨qr_b.1, qr_b.2⟩ ⟨by omega, by omega, fun h => by omega⟩ p3 p2 (cpv_fr hSN.2.2.1 (fun b j b1 b2 => p4' b j (by omega))) (by unfold o_ok; rw [e3P]; omega) (fun M' m1 m2 m3 => ?_)
  obtain ⟨r1, r2, r3⟩ := ch_end hSN hk.2.2.2.2.1 h30 p4' m1 m2 m3 (Nat.le_trans tChg_len (by omega))
  exact hR M' r1 r2 r3
theorem cw_each {n p : Int} (h : cIn M n p 0) (hS : cRl M S) (hk : hOk k S) (K : ∀ M', cRl M' (fnR n S (rq_each (M 2) n p S)).2 → ctx M' (fnR n S (rq_each (M 2) n p S)).1 → cEnd M M' → Q none M') : wp (kcs L xs) (d + 25) 17 22 [some (jR 0), some (jI n), none] [jI 2] M Q := by
  obtain ⟨c0, c1, c2, c3, c4, c5, c6, c7⟩ := cin_b h
  refine s17_22 (ca_each (d := d + 15) c0 (fun N n0 ng n1 n2 n3 n4 n5 => ?_))
  rw [c1, c2, c3] at n1 n2 n3 n4 n5
  have sb := rSd_b (g := M 2) (e := n) (p := p) (w := 0) c6
  have kb := rK_b (g := M 2) (e := n) (bs := bsK) (p := (rSd (M 2) n p 0).2.1) (w := (rSd (M 2) n p 0).2.2) (by omega)
  have er : rK (M 2) n bsK (rSd (M 2) n p 0).2.1 (rSd (M 2) n p 0).2.2 = rEa (M 2) n p := rfl
  rw [er] at kb n1 n2 n4 n5
  have hN := cR_aG hS hk.2.2.2.2.1 ng
  refine cw_fin (d := d + 20) (r := rq_each (M 2) n p S) ⟨by omega, by omega⟩ ⟨by omega, by omega⟩ hN hk (aF_end (aG_F ng)) n1 (show 0 ≤ (rEa (M 2) n p).2.2.1 ∧ (rEa (M 2) n p).2.2.1 ≤ 5606 by omega) n2 (show (rEa (M 2) n p).2.2.2 = 0 ∨ (rEa (M 2) n p).2.2.2 = 1 by omega) K (fun e3 e1 hSN h30 hO R hR => ⟨fun _ => ?_, fun h => by omega, fun h => by omega, fun h => by omega, fun h => by omega, fun h => by omega, fun h => by omega, fun h => by omega⟩)
  have hk0 := rK_0 (g := M 2) (e := n) (p := (rSd (M 2) n p 0).2.1) (w := (rSd (M 2) n p 0).2.2) e3
  have hs0 := rSd_0 hk0.2.2
  rw [er] at hk0
  refine s66 ⟨⟨by omega, by omega⟩, fun h => by omega, fun h => by omega, fun _ => ?_, fun h => by omega, fun h => by omega, fun h => by omega, fun h => by omega, fun h => by omega⟩
  rw [fx_up_na (b := 7) (by decide), fx_up_na (b := 7) (by decide), fx_up_na (b := 7) (by decide), n3, n4, n5]
  have h4 := hSN.1.2.2.2.2.1
  have h12 := hk.1.2.2.2.2.2.2.1
  refine sp_addEachQ (d := d + 21) puz11 hSN.1 hk.1 hs0 ⟨hk0.1, hk0.2.1⟩ ⟨kb.2.2.1, kb.2.2.2.1⟩ (fun P a p1 p2 p3 p4 => s66_161 ⟨rfa_lit p1, sp_rfEmpty (d := d + 22) p1 ?_⟩)
  rw [h4]
  have e3P : P 3 1 = 0 := by rw [p4 3 1 (by omega), h30]
  refine cl_232 (d := d + 19) ⟨by omega, by omega⟩ (by omega) p1 ⟨qe_b.1, qe_b.2.1⟩ ⟨by omega, by omega, fun _ _ => qe_b.2.2⟩ p3 p2 (cpv_fr hSN.2.2.1 (fun b j b1 b2 => p4 b j (by omega))) (by unfold o_ok; rw [e3P]; omega) (fun M' m1 m2 m3 => ?_)
  obtain ⟨r1, r2, r3⟩ := ch_end hSN hk.2.2.2.2.1 h30 p4 m1 m2 m3 (Nat.le_trans tChg_len (by omega))
  exact hR M' r1 r2 r3
theorem cw_give {n p : Int} (h : cIn M n p 0) (hS : cRl M S) (hk : hOk k S) (K : ∀ M', cRl M' (fnR n S (rq_give (M 2) n p S)).2 → ctx M' (fnR n S (rq_give (M 2) n p S)).1 → cEnd M M' → Q none M') : wp (kcs L xs) (d + 25) 17 22 [some (jR 0), some (jI n), none] [jI 3] M Q := by
  obtain ⟨c0, c1, c2, c3, c4, c5, c6, c7⟩ := cin_b h
  refine s17_22 (ca_cs (d := d + 18) (Or.inl rfl) c0 (fun N n0 ng n1 n2 n3 n4 => ?_))
  rw [c1, c2, c3] at n1 n2 n3 n4
  have nb := rBN_b (g := M 2) (e := n) (m := 3) (p := p) (w := 0) (by omega) c6
  have sb := rBS_b (g := M 2) (e := n) (p := (rBN (M 2) n 3 p 0).2.1) (w := (rBN (M 2) n 3 p 0).2.2) (by omega)
  have er : rBS (M 2) n (rBN (M 2) n 3 p 0).2.1 (rBN (M 2) n 3 p 0).2.2 = rCs (M 2) n p := rfl
  rw [er] at sb n1 n2 n4
  have e10 : ((10 ^ 3 : Nat) : Int) = 1000 := rfl
  have hN := cR_aG hS hk.2.2.2.2.1 ng
  refine cw_fin (d := d + 20) (r := rq_give (M 2) n p S) ⟨by omega, by omega⟩ ⟨by omega, by omega⟩ hN hk (aF_end (aG_F ng)) n1 (show 0 ≤ (rCs (M 2) n p).2.1 ∧ (rCs (M 2) n p).2.1 ≤ 5606 by omega) n2 (show (rCs (M 2) n p).2.2 = 0 ∨ (rCs (M 2) n p).2.2 = 1 by omega) K (fun e3 e1 hSN h30 hO R hR => ⟨fun _ => ?_, fun h => by omega, fun h => by omega, fun h => by omega, fun h => by omega, fun h => by omega, fun h => by omega, fun h => by omega⟩)
  refine s66 ⟨⟨by omega, by omega⟩, fun h => by omega, fun h => by omega, fun h => by omega, fun _ => ?_, fun h => by omega, fun h => by omega, fun h => by omega, fun h => by omega⟩
  rw [fx_up_na (b := 9) (by decide), fx_up_na (b := 9) (by decide), n3, n4]
  have h4 := hSN.1.2.2.2.2.1
  have h12 := hk.1.2.2.2.2.2.2.1
  refine sp_giveQ (d := d + 22) puz11 hSN.1 hk.1 ⟨by omega, by omega⟩ ⟨by omega, by omega⟩ sb.2.2.2.2.1 (fun P a p1 p2 p3 p4 => s66_190 ⟨rfa_lit p1, sp_rfEmpty (d := d + 22) p1 ?_⟩)
  rw [h4]
  have e3P : P 3 1 = 0 := by rw [p4 3 1 (by omega), h30]
  refine cl_232 (d := d + 19) ⟨by omega, by omega⟩ (by omega) p1 ⟨qg_b.1, qg_b.2⟩ ⟨by omega, by omega, fun h => by omega⟩ p3 p2 (cpv_fr hSN.2.2.1 (fun b j b1 b2 => p4 b j (by omega))) (by unfold o_ok; rw [e3P]; omega) (fun M' m1 m2 m3 => ?_)
  obtain ⟨r1, r2, r3⟩ := ch_end hSN hk.2.2.2.2.1 h30 p4 m1 m2 m3 (Nat.le_trans tChg_len (by omega))
  exact hR M' r1 r2 r3
theorem cw_drop {n p : Int} (h : cIn M n p 0) (hS : cRl M S) (hk : hOk k S) (K : ∀ M', cRl M' (fnR n S (rq_drop p S)).2 → ctx M' (fnR n S (rq_drop p S)).1 → cEnd M M' → Q none M') : wp (kcs L xs) (d + 25) 17 22 [some (jR 0), some (jI n), none] [jI 4] M Q := by
  obtain ⟨c0, c1, c2, c3, c4, c5, c6, c7⟩ := cin_b h
  refine s17_22 (ca_none (d := d + 15) ⟨by omega, by omega⟩ (by unfold lgV; omega) (by omega) ?_)
  refine cw_fin (d := d + 20) (r := rq_drop p S) ⟨by omega, by omega⟩ ⟨by omega, by omega⟩ hS hk (fun _ _ _ => rfl) c1 (show 0 ≤ p ∧ p ≤ 5606 by omega) c3 (Or.inl rfl) K (fun e3 e1 hSN h30 hO R hR => ⟨fun _ => ?_, fun h => by omega, fun h => by omega, fun h => by omega, fun h => by omega, fun h => by omega, fun h => by omega, fun h => by omega⟩)
  refine s66 ⟨⟨by omega, by omega⟩, fun h => by omega, fun h => by omega, fun h => by omega, fun h => by omega, fun _ => ?_, fun h => by omega, fun h => by omega, fun h => by omega⟩
  have h4 := hSN.1.2.2.2.2.1
  have h12 := hk.1.2.2.2.2.2.2.1
  refine sp_drop (d := d + 22) puz11 hSN.1 hk.1 (fun e => ?_) (fun e P p1 p2 => ?_)
  · have ha : (rq_drop p S).2.2 = (t_norule, S) := by
      unfold rq_drop
      rw [if_pos e, if_pos e]
    rw [ha] at hR
    have es : ([110, 111, 32, 114, 117, 108, 101] : List Int32).map Int32.toInt = t_norule := by decide +kernel
    refine s66_201 ⟨⟨_, lt_1000035⟩, sp_isEmpty (d := d + 22) lt_1000035 (s66_232 ⟨⟨by decide, by decide⟩, fun h => absurd rfl h, fun _ => sp_puts (d := d + 19) fx_out3 lt_1000035 hO (s66_243 ?_)⟩)⟩
    rw [es]
    exact hR _ (cRl_fr hSN hk.2.2.2.2.1 (fun b j hb => o_app_ne (by omega) (by omega))) (ctx_app h30 (by decide)) (fun b j hb => o_app_ne (by omega) (by omega))
  · have ha : (rq_drop p S).2.2 = (t_ok, (z_drop S.1, pv_new S.2.1, S.2.2)) := by
      unfold rq_drop
      rw [if_neg e, if_neg e]
    rw [ha] at hR
    have p2' : pfr 11 (fx_up M 3 1 0) P := fun b j hb => p2 b j (by omega)
    have e3P : P 3 1 = 0 := by rw [p2' 3 1 (by omega), h30]
    have hr : rfa 1000013 0 := Or.inl ⟨rfl, Or.inl rfl⟩
    refine s66_201 ⟨rfa_lit hr, sp_rfEmpty (d := d + 22) hr ?_⟩
    rw [h4]
    refine cl_232 (d := d + 19) ⟨by omega, by omega⟩ (by omega) hr ⟨by omega, by omega⟩ ⟨by omega, by omega, fun h => by omega⟩ (z_drop_ok hk.1) p1 (cpv_fr hSN.2.2.1 (fun b j b1 b2 => p2' b j (by omega))) (by unfold o_ok; rw [e3P]; omega) (fun M' m1 m2 m3 => ?_)
    obtain ⟨r1, r2, r3⟩ := ch_end hSN hk.2.2.2.2.1 h30 p2' m1 m2 m3 (Nat.le_trans tChg_len (by omega))
    have et : tChg 4 (S.1.2.2.2.1.length : Int) 0 (z_drop S.1) = t_ok := by
      unfold tChg
      rw [if_pos rfl, if_neg (by omega), if_neg (by omega)]
    have ev : vNew 0 S.2.1 = pv_new S.2.1 := by
      unfold vNew
      rw [if_pos rfl]
    rw [et] at r2
    rw [ev] at r1
    exact hR M' r1 r2 r3
theorem cw_text {n p : Int} (h : cIn M n p 0) (hS : cRl M S) (hk : hOk k S) (K : ∀ M', cRl M' (fnR n S (rq_text p S)).2 → ctx M' (fnR n S (rq_text p S)).1 → cEnd M M' → Q none M') : wp (kcs L xs) (d + 25) 17 22 [some (jR 0), some (jI n), none] [jI 5] M Q := by
  obtain ⟨c0, c1, c2, c3, c4, c5, c6, c7⟩ := cin_b h
  refine s17_22 (ca_none (d := d + 15) ⟨by omega, by omega⟩ (by unfold lgV; omega) (by omega) ?_)
  refine cw_fin (d := d + 20) (r := rq_text p S) ⟨by omega, by omega⟩ ⟨by omega, by omega⟩ hS hk (fun _ _ _ => rfl) c1 (show 0 ≤ p ∧ p ≤ 5606 by omega) c3 (Or.inl rfl) K (fun e3 e1 hSN h30 hO R hR => ⟨fun _ => ?_, fun h => by omega, fun h => by omega, fun h => by omega, fun h => by omega, fun h => by omega, fun h => by omega, fun h => by omega⟩)
  refine s66 ⟨⟨by omega, by omega⟩, fun h => by omega, fun h => by omega, fun h => by omega, fun h => by omega, fun h => by omega, fun _ => ?_, fun h => by omega, fun h => by omega⟩
  refine sp_write (d := d + 17) puz11 fx_out3 hk.1 hSN.1 hO (s66_227 (hR _ (cRl_fr hSN hk.2.2.2.2.1 (fun b j hb => o_app_ne (by omega) (by omega))) (ctx_app h30 ?_) (fun b j hb => o_app_ne (by omega) (by omega))))
  have := (tText_b hk.1).1
  show (tText S.1).length ≤ 5600
  omega
end RQG
