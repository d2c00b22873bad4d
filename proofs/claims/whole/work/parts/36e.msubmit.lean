/-! REQUESTS, the reference: the arguments of submit. -/
section MRE
variable {kc : List va_E} {d : Nat} {Q : Option fx_V → fx_M → Prop} {g : Int → Int} {e : Int}
theorem rN_1 {p : Int} : rN g e 1 p 0 = if p < e ∧ isD (g p) then (g p - 48, p + 1, 0) else (0, p, 1) := by
  unfold rN
  by_cases c : p < e ∧ isD (g p)
  · rw [if_pos c, if_pos ⟨rfl, c⟩]
    rfl
  · rw [if_neg c, if_neg (fun x => c x.2)]
theorem rBM_w1 {p : Int} : rBM g e p 1 = (p, 0, 1) := rfl
theorem rBD_w1 {p : Int} : rBD g e p 1 = (p, 0, 1) := rfl
theorem sb_w3 {p : Int} (h : (sbA3 g e p).2.2 = 1) : sbA4 g e p = ((sbA3 g e p).2.1, 0, 1) := by
  unfold sbA4
  rw [h]
  exact rBD_w1
theorem sb_w2 {p : Int} (h : (sbA2 g e p).2.2 = 1) : sbA4 g e p = ((sbA2 g e p).1 + (sbA2 g e p).2.1, 0, 1) := by
  have h3 : sbA3 g e p = (0, (sbA2 g e p).1 + (sbA2 g e p).2.1, 1) := by
    unfold sbA3
    rw [h]
    exact rBN_w
  rw [sb_w3 (by rw [h3]), h3]
theorem sb_w1 {p : Int} (h : (sbA1 g e p).2.2 = 1) : sbA4 g e p = ((sbA1 g e p).2.1, 0, 1) := by
  have h2 : sbA2 g e p = ((sbA1 g e p).2.1, 0, 1) := by
    unfold sbA2
    rw [h]
    exact rBM_w1
  rw [sb_w2 (by rw [h2]), h2]
  show ((sbA1 g e p).2.1 + 0, (0 : Int), (1 : Int)) = _
  rw [Int.add_zero]
/-- the digits -/
theorem sbd_loop {a : Int} {M : fx_M} : ∀ (f : Nat) (N : fx_M), (e - N 133 7).toNat = f → ms_at N → N 135 = g → N 133 3 = e → N 133 21 = a → 0 ≤ a ∧ a ≤ N 133 7 → mfr M N → (∀ M', mfr M M' → (∀ j, j ≠ 7 → j ≠ 8 → j ≠ 22 → M' 133 j = N 133 j) → M' 133 7 = N 133 7 + (rDs g e f (N 133 7) : Nat) → M' 133 22 = N 133 7 + (rDs g e f (N 133 7) : Nat) - a → Q (some (jI (if 0 < N 133 7 + (rDs g e f (N 133 7) : Nat) - a then (1 : Int) else 0))) M') → wp kc (d + 6) 250 78 [some (jR 133)] [] N Q := by
  intro f
  induction f with
  | zero =>
    intro N hf h hg he h21 ha hr K
    have hp := ms_p h
    refine s250_78 (sp_scanDigit (d := d + 3) h (s250_82 ?_))
    rw [hg, he, rN_1, if_neg (fun x => by have := x.1; omega)]
    dsimp only
    refine ⟨⟨by omega, by omega⟩, fun _ => ?_, fun h => absurd rfl h⟩
    rw [md_7, md_ne (show ¬ ((133 : Nat) = 133 ∧ ((21 : Int) = 7 ∨ (21 : Int) = 8)) by omega), h21]
    have e0 : N 133 7 + ((rDs g e 0 (N 133 7) : Nat) : Int) - a = N 133 7 - a := by
      rw [rDs]
      omega
    rw [e0] at K
    refine ⟨⟨by omega, by omega⟩, by split <;> decide, K _ (fun b j b1 b2 => by rw [fx_up_ne (by omega), md_ne (by omega), hr b j b1 b2]) (fun j j1 j2 j3 => by rw [fx_up_nk (by omega), md_ne (by omega)]) ?_ (fx_up_self ..)⟩
    rw [fx_up_nk (by decide), md_7, rDs]
    omega
  | succ f ih =>
    intro N hf h hg he h21 ha hr K
    have hp := ms_p h
    refine s250_78 (sp_scanDigit (d := d + 3) h (s250_82 ?_))
    rw [hg, he, rN_1]
    rw [rDs] at K
    by_cases c : N 133 7 < e ∧ isD (g (N 133 7))
    · rw [if_pos c] at K ⊢
      dsimp only
      refine ⟨⟨by omega, by omega⟩, fun h => absurd h (show ¬ (1 : Int) - 0 = 0 by decide), fun _ => ?_⟩
      rw [if_pos rfl, md_7]
      have e7 : (fx_up (md N (N 133 7 + 1) (g (N 133 7) - 48)) 133 22 (N 133 7 + 1)) 133 7 = N 133 7 + 1 := by rw [fx_up_nk (by decide), md_7]
      have e3 : (fx_up (md N (N 133 7 + 1) (g (N 133 7) - 48)) 133 22 (N 133 7 + 1)) 133 3 = e := by rw [fx_up_nk (by decide), md_ne (by omega), he]
      have e5 : ∀ j, (fx_up (md N (N 133 7 + 1) (g (N 133 7) - 48)) 133 22 (N 133 7 + 1)) 135 j = N 135 j := fun j => by rw [fx_up_na (by decide), md_ne (by omega)]
      refine ih _ (by rw [e7]; omega) (ms_q h (by rw [e7]; omega) (by rw [e3, he]) e5) (by rw [← hg]; exact funext e5) e3 (by rw [fx_up_nk (by decide), md_ne (by omega), h21]) (by rw [e7]; omega) (fun b j b1 b2 => by rw [fx_up_ne (by omega), md_ne (by omega), hr b j b1 b2]) ?_
      rw [e7]
      intro M' m1 m2 m3 m4
      have ee : N 133 7 + ((rDs g e f (N 133 7 + 1) + 1 : Nat) : Int) = N 133 7 + 1 + ((rDs g e f (N 133 7 + 1) : Nat) : Int) := by omega
      rw [ee] at K
      exact K M' m1 (fun j j1 j2 j3 => by rw [m2 j j1 j2 j3, fx_up_nk j3, md_ne (by omega)]) m3 m4
    · rw [if_neg c] at K ⊢
      dsimp only
      refine ⟨⟨by omega, by omega⟩, fun _ => ?_, fun h => absurd rfl h⟩
      rw [md_7, md_ne (show ¬ ((133 : Nat) = 133 ∧ ((21 : Int) = 7 ∨ (21 : Int) = 8)) by omega), h21]
      have e0 : N 133 7 + ((0 : Nat) : Int) - a = N 133 7 - a := by omega
      rw [e0] at K
      refine ⟨⟨by omega, by omega⟩, by split <;> decide, K _ (fun b j b1 b2 => by rw [fx_up_ne (by omega), md_ne (by omega), hr b j b1 b2]) (fun j j1 j2 j3 => by rw [fx_up_nk (by omega), md_ne (by omega)]) ?_ (fx_up_self ..)⟩
      rw [fx_up_nk (by decide), md_7]
      exact (Int.add_zero _).symm
theorem sp_scanSubmit {M : fx_M} (h : ms_at M) (K1 : (sbA4 (M 135) (M 133 3) (M 133 7)).2.2 = 0 → ∀ M', mfr M M' → M' 133 7 = (sbA4 (M 135) (M 133 3) (M 133 7)).1 + (sbA4 (M 135) (M 133 3) (M 133 7)).2.1 → M' 133 9 = (sbA1 (M 135) (M 133 3) (M 133 7)).1 → M' 133 15 = (sbA2 (M 135) (M 133 3) (M 133 7)).1 → M' 133 16 = (sbA2 (M 135) (M 133 3) (M 133 7)).2.1 → M' 133 20 = (sbA3 (M 135) (M 133 3) (M 133 7)).1 → M' 133 21 = (sbA4 (M 135) (M 133 3) (M 133 7)).1 → M' 133 22 = (sbA4 (M 135) (M 133 3) (M 133 7)).2.1 → Q (some (jI 1)) M') (K0 : (sbA4 (M 135) (M 133 3) (M 133 7)).2.2 = 1 → ∀ M', mfr M M' → M' 133 7 = (sbA4 (M 135) (M 133 3) (M 133 7)).1 + (sbA4 (M 135) (M 133 3) (M 133 7)).2.1 → Q (some (jI 0)) M') : wc kc (d + 6) 250 [jR 133] M Q := by
  have hp := ms_p h
  obtain ⟨g, hG⟩ : ∃ g, M 135 = g := ⟨_, rfl⟩
  obtain ⟨e, hE⟩ : ∃ e, M 133 3 = e := ⟨_, rfl⟩
  obtain ⟨p, hP⟩ : ∃ p, M 133 7 = p := ⟨_, rfl⟩
  have hg : ∀ N, mfr M N → N 135 = g ∧ N 133 3 = e := fun N f => ⟨by rw [← hG]; exact funext (fun j => f 135 j (by omega) (by omega)), by rw [f 133 3 (by omega) (by omega), hE]⟩
  have hms : ∀ N, mfr M N → 0 ≤ N 133 7 → N 133 7 ≤ e → ms_at N := fun N f a b => ms_q h ⟨a, by rw [hE]; exact b⟩ (f 133 3 (by omega) (by omega)) (fun j => f 135 j (by omega) (by omega))
  rw [hG, hE, hP] at K1 K0
  rw [hE, hP] at hp
  have z0 : ∀ (x : Int) (N : fx_M), sbA4 g e p = (x, 0, 1) → mfr M N → N 133 7 = x → Q (some (jI 0)) N := fun x N hx f h7 => K0 (by rw [hx]) N f (by rw [hx, h7]; exact (Int.add_zero _).symm)
  have mdf : ∀ (N : fx_M) (q x : Int), mfr M N → mfr M (md N q x) := fun N q x f b j b1 b2 => by rw [md_ne (by omega), f b j b1 b2]
  have upf : ∀ (N : fx_M) (i x : Int), 7 ≤ i ∧ i ≤ 22 → mfr M N → mfr M (fx_up N 133 i x) := fun N i x hi f b j b1 b2 => by rw [fx_up_ne (by omega), f b j b1 b2]
  have f0 : mfr M M := fun _ _ _ _ => rfl
  refine s250 (sp_isByteR (d := d + 3) h ⟨by omega, by omega⟩ (s250_6 ?_))
  rw [hG, hE, hP]
  have tb := rT_b (g := g) (e := e) (c := 32) (p := p) (w := 0) hp.2.1
  have a1 : sbA1 g e p = rN g e 1 (rT g e 32 p 0).1 (rT g e 32 p 0).2 := rfl
  generalize rT g e 32 p 0 = t at a1 tb ⊢
  rcases (show t.2 = 1 ∨ t.2 = 0 by omega) with e1 | e1
  · rw [e1, rN_w] at a1
    rw [e1]
    exact ⟨⟨by omega, by omega⟩, fun _ => z0 t.1 _ (by rw [sb_w1 (by rw [a1]), a1]) (mdf M _ _ f0) (md_7 _ _ _), fun h => absurd rfl h⟩
  rw [e1] at a1 ⊢
  refine ⟨⟨by omega, by omega⟩, fun h => absurd h (by decide), fun _ => ?_⟩
  have fA := mdf M t.1 (M 133 8) f0
  refine sp_scanDigit (d := d + 3) (hms _ fA (by rw [md_7]; omega) (by rw [md_7]; omega)) (s250_13 ?_)
  rw [(hg _ fA).1, (hg _ fA).2, md_7, md_md, ← a1]
  have b1 := rN_b (g := g) (e := e) (m := 1) (p := t.1) (w := 0) (by omega) tb.2.1
  rw [← a1] at b1
  rcases (show (sbA1 g e p).2.2 = 1 ∨ (sbA1 g e p).2.2 = 0 by omega) with e2 | e2
  · rw [e2]
    exact ⟨⟨by omega, by omega⟩, fun h => absurd rfl h, fun _ => z0 _ _ (sb_w1 e2) (mdf M _ _ f0) (md_7 _ _ _)⟩
  rw [e2, if_pos rfl, md_8]
  refine ⟨⟨by omega, by omega⟩, fun _ => ?_, fun h => absurd h (by decide)⟩
  have fB := upf _ 9 (sbA1 g e p).1 ⟨by omega, by omega⟩ (mdf M (sbA1 g e p).2.1 (sbA1 g e p).1 f0)
  have v7 : (fx_up (md M (sbA1 g e p).2.1 (sbA1 g e p).1) 133 9 (sbA1 g e p).1) 133 7 = (sbA1 g e p).2.1 := by rw [fx_up_nk (by decide), md_7]
  have v9 : (fx_up (md M (sbA1 g e p).2.1 (sbA1 g e p).1) 133 9 (sbA1 g e p).1) 133 9 = (sbA1 g e p).1 := fx_up_self ..
  generalize fx_up (md M (sbA1 g e p).2.1 (sbA1 g e p).1) 133 9 (sbA1 g e p).1 = B at fB v7 v9 ⊢
  refine sp_isByteR (d := d + 3) (hms _ fB (by rw [v7]; omega) (by rw [v7]; omega)) ⟨by omega, by omega⟩ (s250_32 ?_)
  rw [(hg _ fB).1, (hg _ fB).2, v7]
  have tb2 := rT_b (g := g) (e := e) (c := 32) (p := (sbA1 g e p).2.1) (w := 0) b1.2.1
  have a2 : sbA2 g e p = ((rT g e 32 (sbA1 g e p).2.1 (sbA1 g e p).2.2).1, rNm g e (rT g e 32 (sbA1 g e p).2.1 (sbA1 g e p).2.2).1 (rT g e 32 (sbA1 g e p).2.1 (sbA1 g e p).2.2).2) := rfl
  rw [e2] at a2
  generalize rT g e 32 (sbA1 g e p).2.1 0 = t2 at a2 tb2 ⊢
  rcases (show t2.2 = 1 ∨ t2.2 = 0 by omega) with e3 | e3
  · rw [e3] at a2 ⊢
    have a2' : sbA2 g e p = (t2.1, 0, 1) := a2
    refine ⟨⟨by omega, by omega⟩, fun _ => z0 t2.1 _ (by rw [sb_w2 (by rw [a2']), a2']; exact congrArg (fun x => (x, (0 : Int), (1 : Int))) (Int.add_zero _)) (mdf B _ _ fB) (md_7 _ _ _), fun h => absurd rfl h⟩
  rw [e3] at a2 ⊢
  refine ⟨⟨by omega, by omega⟩, fun h => absurd h (by decide), fun _ => ?_⟩
  have fC := mdf B t2.1 (B 133 8) fB
  refine sp_scanName (d := d + 3) (hms _ fC (by rw [md_7]; omega) (by rw [md_7]; omega)) (s250_39 ?_)
  rw [(hg _ fC).1, (hg _ fC).2, md_7, md_8]
  have nb := rNm_b (g := g) (e := e) (p := t2.1) (w := 0) tb2.2.1
  generalize rNm g e t2.1 0 = z at a2 nb ⊢
  generalize hD : fx_up (md (fx_up (md B t2.1 (B 133 8)) 133 15 t2.1) (t2.1 + z.1) (B 133 8)) 133 16 z.1 = D
  have fD : mfr M D := by
    rw [← hD]
    exact upf _ 16 _ ⟨by omega, by omega⟩ (mdf _ _ _ (upf _ 15 _ ⟨by omega, by omega⟩ fC))
  have d7 : D 133 7 = t2.1 + z.1 := by rw [← hD, fx_up_nk (by decide), md_7]
  have d9 : D 133 9 = (sbA1 g e p).1 := by rw [← hD, fx_up_nk (by decide), md_ne (by omega), fx_up_nk (by decide), md_ne (by omega), v9]
  have d15 : D 133 15 = t2.1 := by rw [← hD, fx_up_nk (by decide), md_ne (by omega), fx_up_self]
  have d16 : D 133 16 = z.1 := by rw [← hD, fx_up_self]
  have c21 : (sbA2 g e p).1 = t2.1 := by rw [a2]
  have c22 : (sbA2 g e p).2 = z := by rw [a2]
  rcases (show z.2 = 1 ∨ z.2 = 0 by omega) with e4 | e4
  · rw [e4]
    refine ⟨⟨by omega, by omega⟩, fun _ => z0 (t2.1 + z.1) D ?_ fD d7, fun h => absurd rfl h⟩
    rw [sb_w2 (by rw [c22]; exact e4), c21, c22]
  rw [e4]
  refine ⟨⟨by omega, by omega⟩, fun h => absurd h (by decide), fun _ => ?_⟩
  have hmD := hms D fD (by rw [d7]; omega) (by rw [d7]; omega)
  refine sp_scanBlankNumber (d := d) hmD (s250_46 ?_)
  rw [(hg _ fD).1, (hg _ fD).2, d7]
  have a3 : sbA3 g e p = rBN g e 3 ((sbA2 g e p).1 + (sbA2 g e p).2.1) (sbA2 g e p).2.2 := rfl
  rw [c21, c22, e4] at a3
  rw [← a3]
  have b3 := rBN_b (g := g) (e := e) (m := 3) (p := t2.1 + z.1) (w := 0) (by omega) (by omega)
  rw [← a3] at b3
  rcases (show (sbA3 g e p).2.2 = 1 ∨ (sbA3 g e p).2.2 = 0 by omega) with e5 | e5
  · rw [e5]
    exact ⟨⟨by omega, by omega⟩, fun h => absurd rfl h, fun _ => z0 _ _ (sb_w3 e5) (mdf D _ _ fD) (md_7 _ _ _)⟩
  rw [e5, if_pos rfl, md_8]
  refine ⟨⟨by omega, by omega⟩, fun _ => ?_, fun h => absurd h (by decide)⟩
  generalize hF : fx_up (md D (sbA3 g e p).2.1 (sbA3 g e p).1) 133 20 (sbA3 g e p).1 = F
  have fF : mfr M F := by
    rw [← hF]
    exact upf _ 20 _ ⟨by omega, by omega⟩ (mdf _ _ _ fD)
  have g7 : F 133 7 = (sbA3 g e p).2.1 := by rw [← hF, fx_up_nk (by decide), md_7]
  have g9 : F 133 9 = (sbA1 g e p).1 := by rw [← hF, fx_up_nk (by decide), md_ne (by omega), d9]
  have g15 : F 133 15 = (sbA2 g e p).1 := by rw [← hF, fx_up_nk (by decide), md_ne (by omega), d15, c21]
  have g16 : F 133 16 = (sbA2 g e p).2.1 := by rw [← hF, fx_up_nk (by decide), md_ne (by omega), d16, c22]
  have g20 : F 133 20 = (sbA3 g e p).1 := by rw [← hF, fx_up_self]
  refine sp_isByteR (d := d + 3) (hms F fF (by rw [g7]; omega) (by rw [g7]; omega)) ⟨by omega, by omega⟩ (s250_65 ?_)
  rw [(hg _ fF).1, (hg _ fF).2, g7]
  have tb4 := rT_b (g := g) (e := e) (c := 32) (p := (sbA3 g e p).2.1) (w := 0) b3.2.1
  have a4 : sbA4 g e p = ((rT g e 32 (sbA3 g e p).2.1 (sbA3 g e p).2.2).1, rDg g e (rT g e 32 (sbA3 g e p).2.1 (sbA3 g e p).2.2).1 (rT g e 32 (sbA3 g e p).2.1 (sbA3 g e p).2.2).2) := rfl
  rw [e5] at a4
  generalize rT g e 32 (sbA3 g e p).2.1 0 = t4 at a4 tb4 ⊢
  rcases (show t4.2 = 1 ∨ t4.2 = 0 by omega) with e6 | e6
  · rw [e6] at a4 ⊢
    exact ⟨⟨by omega, by omega⟩, fun h => absurd rfl h, fun _ => z0 t4.1 _ a4 (mdf F _ _ fF) (md_7 _ _ _)⟩
  rw [e6] at a4 ⊢
  refine ⟨⟨by omega, by omega⟩, fun _ => ?_, fun h => absurd h (by decide)⟩
  rw [md_7]
  have fG := upf _ 21 t4.1 ⟨by omega, by omega⟩ (mdf F t4.1 (F 133 8) fF)
  have w7 : (fx_up (md F t4.1 (F 133 8)) 133 21 t4.1) 133 7 = t4.1 := by rw [fx_up_nk (by decide), md_7]
  have w21 : (fx_up (md F t4.1 (F 133 8)) 133 21 t4.1) 133 21 = t4.1 := fx_up_self ..
  have wj : ∀ j, j ≠ 7 → j ≠ 8 → j ≠ 21 → (fx_up (md F t4.1 (F 133 8)) 133 21 t4.1) 133 j = F 133 j := fun j j1 j2 j3 => by rw [fx_up_nk j3, md_ne (by omega)]
  generalize fx_up (md F t4.1 (F 133 8)) 133 21 t4.1 = G at fG w7 w21 wj ⊢
  refine sbd_loop (d := d) (g := g) (e := e) (a := t4.1) (M := M) ((e - t4.1).toNat) G (by rw [w7]) (hms G fG (by rw [w7]; omega) (by rw [w7]; omega)) (hg _ fG).1 (hg _ fG).2 w21 (by rw [w7]; omega) fG ?_
  rw [w7]
  intro M' m1 m2 m3 m4
  have db := rDs_b g e (e - t4.1).toNat t4.1 tb4.2.1
  have a5 : rDg g e t4.1 0 = (((rDs g e (e - t4.1).toNat t4.1 : Nat) : Int), if rDs g e (e - t4.1).toNat t4.1 = 0 then (1 : Int) else 0) := rfl
  rw [a5] at a4
  generalize rDs g e (e - t4.1).toNat t4.1 = c at a4 m3 m4 db ⊢
  by_cases hc : c = 0
  · rw [if_pos hc] at a4
    rw [if_neg (by omega)]
    exact K0 (by rw [a4]) M' m1 (by rw [a4]; exact m3)
  · rw [if_neg hc] at a4
    rw [if_pos (by omega)]
    refine K1 (by rw [a4]) M' m1 (by rw [a4]; exact m3) (by rw [m2 9 (by omega) (by omega) (by omega), wj 9 (by omega) (by omega) (by omega), g9]) (by rw [m2 15 (by omega) (by omega) (by omega), wj 15 (by omega) (by omega) (by omega), g15]) (by rw [m2 16 (by omega) (by omega) (by omega), wj 16 (by omega) (by omega) (by omega), g16]) (by rw [m2 20 (by omega) (by omega) (by omega), wj 20 (by omega) (by omega) (by omega), g20]) (by rw [m2 21 (by omega) (by omega) (by omega), w21, a4]) ?_
    rw [m4, a4]
    dsimp only
    omega
end MRE
