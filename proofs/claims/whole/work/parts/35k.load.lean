/-! REQUESTS, the class: load, form, vary, cover, barred. -/
theorem cvL_b : ∀ (l : List Nat) (r left : Nat), ∀ c ∈ cvL l r left, c.length ≤ l.length ∧ ∀ x ∈ c, x < r + l.length
  | [], r, left, c, h => by
    rw [cvL] at h
    split at h
    · rw [List.mem_singleton.mp h]
      exact ⟨Nat.le_refl _, fun x hx => by cases hx⟩
    · cases h
  | m :: l, r, left, c, h => by
    rw [cvL] at h
    split at h
    · rw [List.mem_singleton.mp h]
      exact ⟨by simp, fun x hx => by cases hx⟩
    · rcases List.mem_append.mp h with h | h
      · split at h
        · obtain ⟨e, e1, e2⟩ := List.mem_map.mp h
          have ih := cvL_b l (r + 1) (anb left m) e e1
          rw [← e2]
          refine ⟨by rw [List.length_cons, List.length_cons]; omega, fun x hx => ?_⟩
          rw [List.length_cons]
          rcases List.mem_cons.mp hx with y | y
          · omega
          · have := ih.2 x y
            omega
        · cases h
      · have ih := cvL_b l (r + 1) left c h
        refine ⟨by rw [List.length_cons]; omega, fun x hx => ?_⟩
        have := ih.2 x hx
        rw [List.length_cons]
        omega
theorem tCw_len : ∀ (c : List Nat) (b : Bool), (∀ x ∈ c, x < 100) → (tCw b c).length ≤ 1 + 3 * c.length
  | [], b, _ => by
    rw [tCw]
    simp
  | x :: c, b, h => by
    have ih := tCw_len c false (fun y hy => h y (List.mem_cons_of_mem _ hy))
    have hx := h x (List.mem_cons_self ..)
    have hd := (dgs_b (v := (x : Int)) ⟨by omega, by omega⟩).1
    rw [tCw, List.length_append, List.length_append, List.length_cons]
    have : (if b = true then ([] : List Int) else [43]).length ≤ 1 := by
      split
      · simp
      · simp
    omega
theorem tCov_len {Z : PZ} (ho : pz_ok Z) {n : Nat} (hn : n ≤ 100) : (tCov Z n).length ≤ 3708 := by
  have h12 := ho.2.2.2.2.2.2.1
  have hr : (rmS Z).length = Z.2.2.2.1.length := by
    unfold rmS
    exact List.length_map ..
  have h1 := fm_len (f := tCw true) (m := 37) ((covs Z).take n) (fun c hc => by
    have hb := cvL_b (rmS Z) 0 (wl Z) c (List.mem_of_mem_take hc)
    have := tCw_len c true (fun x hx => by have := hb.2 x hx; omega)
    omega)
  have h2 : ((covs Z).take n).length ≤ 100 := by
    rw [List.length_take]
    omega
  have h3 : (if n < (covs Z).length then wls 1836020325 else wls 6384748).length ≤ 8 := by
    split
    · exact wls_8
    · exact wls_8
  unfold tCov tCs
  rw [List.length_append]
  have : 37 * ((covs Z).take n).length ≤ 3700 := by omega
  omega
theorem tBar_len {Z : PZ} (ho : pz_ok Z) : (tBar Z).length ≤ 20 := by
  have h9 := pz_n ho
  have hw := wls_8 (w := wrd 24)
  unfold tBar
  split
  · rename_i x A h
    have := (bar_len h).1
    rw [List.length_append, List.length_append, tFil_len]
    simp only [List.length_cons, List.length_nil]
    omega
  · split
    · rename_i x A h
      have := (bar_len h).1
      rw [List.length_append, List.length_append, tFil_len]
      simp only [List.length_cons, List.length_nil]
      omega
    · exact Nat.le_trans wls_8 (by omega)
noncomputable def rq_form (p : Int) (S : HS) : Int × Int × List Int × HS := (p, 0, fmT S.1, S)
def rq_vary (g : Int → Int) (n p : Int) (S : HS) : Int × Int × List Int × HS := ((rBN g n 3 p 0).2.1, (rBN g n 3 p 0).2.2, t_ok, (vrZ S.1 ((rBN g n 3 p 0).1 % mps S.1.1 S.1.2.1) ((rBN g n 3 p 0).1 / mps S.1.1 S.1.2.1 % (rgs S.1 : Nat)).toNat, pv_new S.2.1, S.2.2))
def rq_cover (g : Int → Int) (n p : Int) (S : HS) : Int × Int × List Int × HS := ((rBN g n 3 p 0).2.1, (rBN g n 3 p 0).2.2, (if 100 < (rBN g n 3 p 0).1 then t_rf 3 else tCov S.1 (rBN g n 3 p 0).1.toNat), S)
def rq_barred (p : Int) (S : HS) : Int × Int × List Int × HS := (p, 0, tBar S.1, S)
section RQK
variable {L : Nat} {xs : Nat → Int32} {d : Nat} {M : fx_M} {Q : Option fx_V → fx_M → Prop} {S : HS} {k : Nat}
theorem cw_load {n p : Int} (h : cIn M n p 0) (hS : cRl M S) (hk : hOk k S) (K : ∀ M', cRl M' (fnR n S (rq_load (M 2) n p S)).2 → ctx M' (fnR n S (rq_load (M 2) n p S)).1 → cEnd M M' → Q none M') : wp (kcs L xs) (d + 25) 17 22 [some (jR 0), some (jI n), none] [jI 6] M Q := by
  obtain ⟨c0, c1, c2, c3, c4, c5, c6, c7⟩ := cin_b h
  obtain ⟨Y, y1, y2⟩ := hS.2.1
  refine s17_22 (ca_load (d := d + 15) c0 c4 y1 y2 (fun A n0 ng a1 a2 a3 a4 a5 a6 => ?_))
  rw [c1, c2, c3] at a1 a2 a4 a5 a6
  have er : rText (M 2) n (rT (M 2) n 32 p 0).1 (rT (M 2) n 32 p 0).2 0 Y = rLo (M 2) n p Y := rfl
  rw [er] at a1 a2 a4 a5 a6
  obtain ⟨z1, z2, z3, z4⟩ := rLo_Z (g := M 2) (n := n) (p := p) (Y := Y) (X := z_new 1 1 1)
  rw [z1] at a1
  rw [z2] at a2 z4
  rw [z3] at a4 z4
  have hp := sq_p n0
  have hw := sq_w n0
  have h72 := n0.2.2.2.2.2.1
  have hN : cRl A S := cRl_sp hS hk.2.2.2.2.1 ⟨_, a5, a6⟩ (fun b j hb => ng b j (by omega) (by omega) (by omega) (by omega) (by omega))
  refine cw_fin (d := d + 20) (r := rq_load (M 2) n p S) ⟨by omega, by omega⟩ ⟨by omega, by omega⟩ hN hk (aF_end ng) a1 (show 0 ≤ (rLo (M 2) n p (z_new 1 1 1)).1 ∧ (rLo (M 2) n p (z_new 1 1 1)).1 ≤ 5606 by omega) a2 (show (rLo (M 2) n p (z_new 1 1 1)).2.1 = 0 ∨ (rLo (M 2) n p (z_new 1 1 1)).2.1 = 1 by omega) K (fun e3 e1 hSN h30 hO R hR => ⟨fun _ => ?_, fun h => by omega, fun h => by omega, fun h => by omega, fun h => by omega, fun h => by omega, fun h => by omega, fun h => by omega⟩)
  have et : (rq_load (M 2) n p S).2.2 = (t_rf (rLo (M 2) n p (z_new 1 1 1)).2.2.1, ((if (rLo (M 2) n p (z_new 1 1 1)).2.2.1 = 0 then (rLo (M 2) n p (z_new 1 1 1)).2.2.2 else S.1), vNew (rLo (M 2) n p (z_new 1 1 1)).2.2.1 S.2.1, S.2.2)) := rfl
  rw [et] at hR
  have z4' := z4 e3
  have hzA : cz (fx_up A 3 1 0) 20 (rLo (M 2) n p Y).2.2.2 := cz_fr a5 (fun b j b1 b2 => fx_up_na (by omega))
  refine s66 ⟨⟨by omega, by omega⟩, fun h => by omega, fun h => by omega, fun h => by omega, fun h => by omega, fun h => by omega, fun h => by omega, fun _ => ?_, fun h => by omega⟩
  rw [fx_up_na (b := 7) (by decide)]
  have h4 := hSN.1.2.2.2.2.1
  have h12 := hk.1.2.2.2.2.2.2.1
  generalize rLo (M 2) n p (z_new 1 1 1) = X at *
  refine ⟨rfa_lit a4, sp_rfEmpty (d := d + 22) a4 ?_⟩
  by_cases e : X.2.2.1 = 0
  · rw [if_pos e]
    rw [if_pos e] at hR
    rw [z4' e] at hzA a6
    refine s66_232 ⟨⟨by omega, by omega⟩, fun _ => ⟨⟨by omega, by omega⟩, fun h => absurd rfl h, fun _ => sp_copy (d := d + 22) puz11 puz20 (by decide) hzA a6 (fun P p1 p2 => s66_261 ?_)⟩, fun h => by omega⟩
    refine sp_pbegin (d := d + 22) (cpv_fr hSN.2.2.1 (fun b j b1 b2 => p2 b j (by omega))) (fun T t1 t2 => ?_)
    have hzT : cz T 11 X.2.2.2 := cz_fr p1 (fun b j b1 b2 => t2 b j (by omega))
    have g : ∀ b j, ¬ (11 ≤ b ∧ b ≤ 19) → ¬ (54 ≤ b ∧ b ≤ 57) → T b j = (fx_up A 3 1 0) b j := fun b j b1 b2 => by rw [t2 b j b2, p2 b j (by omega)]
    have t30 : T 3 1 = 0 := by rw [g 3 1 (by omega) (by omega), h30]
    have e3b : vNew X.2.2.1 S.2.1 = pv_new S.2.1 := by
      unfold vNew
      rw [if_pos e]
    rw [e3b] at hR
    have e4b : tChg 6 (S.1.2.2.2.1.length : Int) 0 X.2.2.2 = t_rf X.2.2.1 := by
      rw [e]
      unfold tChg
      rw [if_pos rfl, if_neg (by omega), if_neg (by omega)]
      decide +kernel
    rw [h4]
    refine cl_268 (d := d + 19) (Z := X.2.2.2) ⟨by omega, by omega⟩ ⟨by omega, by omega, fun h => by omega⟩ a6.2.2.2.2.2.2.1 hzT.2.2.2.2.1 (ca_ok0 t30) ?_
    rw [e4b]
    refine hR _ ?_ (ctx_app t30 (Nat.le_trans t_rf_len (by omega))) (fun b j hb => by rw [o_app_ne (by omega) (by omega), g b j (by omega) (by omega)])
    exact cRl_mk hSN hk.2.2.2.2.1 (cz_fr hzT (fun b j b1 b2 => o_app_ne (by omega) (by omega))) (cpv_fr t1 (fun b j b1 b2 => o_app_ne (by omega) (by omega))) (fun b j hb => by rw [o_app_ne (by omega) (by omega), g b j (by omega) (by omega)])
  · rw [if_neg e]
    rw [if_neg e] at hR
    have e3b : vNew X.2.2.1 S.2.1 = S.2.1 := by
      unfold vNew
      rw [if_neg e]
    rw [e3b] at hR
    obtain ⟨bs, b1, b2⟩ := rfa_str (L := L) (xs := xs) a4 e
    refine s66_232 ⟨⟨by omega, by omega⟩, fun h => absurd rfl h, fun _ => sp_puts (d := d + 19) fx_out3 b1 hO (s66_243 ?_)⟩
    rw [b2]
    obtain ⟨r1, r2, r3⟩ := fi_wr (cs := t_rf X.2.2.1) hSN hk.2.2.2.2.1 h30 (Nat.le_trans t_rf_len (by omega)) cwr_o
    exact hR _ r1 r2 r3
end RQK
