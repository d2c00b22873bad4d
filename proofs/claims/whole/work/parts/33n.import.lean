/-! Importing a book, in the class. -/
def eL2 (g : Int → Int) (e : Int) (E : List BE) : List (List Int × PZ) := E.map (fun x => (enm g x, ezz g e x))
/-- what importing answers: says, entries, check, said check, refusal, all kept -/
def tImp (a : Int) (n : Nat) (c s r : Int) (k : Bool) : List Int := if a ≠ n then t_no (wrd 50) else if c ≠ s then t_no (wrd 11) else if r ≠ 0 then t_rf r else if k = true then t_ok else t_rf 4
def fim (M M' : fx_M) (cs : List Int) : Prop := ∀ b j, ¬ (b = 5 ∨ b = 6 ∨ b = 7 ∨ b = 10) → ¬ (20 ≤ b ∧ b ≤ 28) → ¬ (b = 125 ∧ j = 2) → ¬ (126 ≤ b ∧ b ≤ 128) → (b = 3 → j = 1) → M' b j = o_app M 3 cs b j
section IMP
variable {L : Nat} {xs : Nat → Int32} {d : Nat} {Q : Option fx_V → fx_M → Prop}
/-- amid importing -/
def imS (g : Int → Int) (e : Int) (M N : fx_M) (p : Int) (b : Int → Int) (W : List (Int × Int)) : Prop := (∃ Z, tx_st N 7 20 2 5606 0 Z) ∧ N 2 = g ∧ N 7 2 = e ∧ N 7 1 = p ∧ N 7 3 = 0 ∧ N 126 = b ∧ clg N W ∧ ∀ b' j, ¬ (b' = 5 ∨ b' = 6 ∨ b' = 7 ∨ b' = 10) → ¬ (20 ≤ b' ∧ b' ≤ 28) → ¬ (b' = 125 ∧ j = 2) → ¬ (126 ≤ b' ∧ b' ≤ 128) → N b' j = M b' j
theorem im_loop {g : Int → Int} {e : Int} {M : fx_M} {n : Nat} (hO : o_ok M 3) (hn : n ≤ 6000) (KF : (Int → Int) × List (Int × Int) × Bool) (K : ∀ N, (∃ Z, cz N 20 Z ∧ pz_ok Z) → N 126 = KF.1 → clg N KF.2.1 → fim M N (if KF.2.2 = true then t_ok else t_rf 4) → Q none N) : ∀ (E : List BE) (i : Nat) (N : fx_M) (p : Int) (b : Int → Int) (W : List (Int × Int)), i + E.length = n → bkI g e E p → (∀ x ∈ E, (rText g e x.2.2 0 0 (z_new 1 1 1)).2.2.1 = 0) → bMd b → bk_b b → imS g e M N p b W → impB b W (eL2 g e E) = KF → wp (kcs L xs) (d + 8) 201 110 [some (jR 0), some (jI n), some (jI i)] [] N Q := by
  intro E
  induction E with
  | nil =>
    intro i N p b W hi hI hr hM hb hN hK
    have ei : i = n := hi
    obtain ⟨⟨Z, hZ⟩, n2, n72, n71, n73, n126, nW, nf⟩ := hN
    have oN : N 3 1 = M 3 1 := nf 3 1 (by omega) (by omega) (by omega) (by omega)
    have hON : o_ok N 3 := by
      unfold o_ok
      rw [oN]
      exact hO
    refine s201_110 ⟨⟨⟨by omega, by omega⟩, ⟨by omega, by omega⟩⟩, fun _ => sp_puts (d := d + 3) out3 lt_1000063 hON (s201_228 ?_), fun h => by omega⟩
    have et : ([111, 107] : List Int32).map Int32.toInt = t_ok := by decide +kernel
    have eK : KF = (b, W, true) := hK.symm
    rw [eK] at K
    rw [et]
    refine K _ ⟨Z, cz_app puz20 out3 hZ.2.2.2.1, hZ.2.2.2.2⟩ ?_ ?_ (fun b' j c1 c2 c3 c4 c5 => ?_)
    · funext j
      rw [o_app_ne (by decide) (by decide), n126]
    · refine ⟨by rw [o_app_ne (by decide) (by decide)]; exact nW.1, fun k x hx => ?_⟩
      rw [o_app_ne (by decide) (by decide), o_app_ne (by decide) (by decide)]
      exact nW.2 k x hx
    · rw [if_pos rfl]
      exact o_app_fq oN (fun a => nf 4 a (by omega) (by omega) (by omega) (by omega)) (nf b' j c1 c2 c3 c4) c5
  | cons x E ih =>
    intro i N p b W hi hI hr hM hb hN hK
    rw [List.length_cons] at hi
    obtain ⟨i1, i2, i3, i4, i5, i6, i7, i8, i9, i10, i11, i12⟩ := hI
    have hr0 := hr x (List.mem_cons_self ..)
    obtain ⟨⟨Z, hZ⟩, n2, n72, n71, n73, n126, nW, nf⟩ := hN
    have hS := hZ.1
    have hp := sc_p hS
    refine s201_110 ⟨⟨⟨by omega, by omega⟩, ⟨by omega, by omega⟩⟩, fun h => by omega, fun _ => sp_take (d := d + 6) fx_scn7 hS (by omega) (s201_124 ?_)⟩
    rw [n2, n72, n71, n73, i1]
    dsimp only
    have hb1 := rT_b (g := g) (e := e) (c := 47) (p := p) (w := 0) (by omega)
    rw [i1] at hb1
    dsimp only at hb1
    have hT : tx_st (rd N 7 x.1 0) 7 20 2 5606 0 Z := tx_read fx_scn7 puz20 (by decide) hZ (fun b j c1 c2 => rd_ne (by omega)) (by rw [rd_1]; omega) (by rw [rd_3]; omega)
    have g2 : (rd N 7 x.1 0) 2 = g := by
      funext j
      rw [rd_ne (by omega), n2]
    have g7 : (rd N 7 x.1 0) 7 2 = e := by rw [rd_ne (by omega), n72]
    refine bk_entry (d := d + 1) (n := x.2.1) (q := x.2.2) (w := 0) hT (rd_1 _ _ _ _) (rd_3 _ _ _ _) (by rw [g2, g7]; exact i4) (by rw [g2, g7]; exact i8) ⟨i5, i6, by rw [g7]; exact i7⟩ (fun P hP => s201_131 hP) (fun P hP => s201_140 hP) (fun P m1 m2 m3 m4 m6 m7 => s201_151 (s63 (d := d + 6) out5k (s201_158 ?_)))
    rw [g2, g7] at m1 m2 m3
    have hZZ := rText_Z (g := g) (e := e) (p := x.2.2) (w := 0) (Z := Z) (Y := z_new 1 1 1)
    have pw := rText_pw2 (g := g) (e := e) (p := x.2.2) (rf := 0) (rf' := 0) (Z := Z) (Z' := z_new 1 1 1)
    rw [hZZ.1, hZZ.2 (by rw [pw.2]; exact i11) (by rw [hZZ.1]; exact hr0), hr0] at m1
    rw [pw.1] at m2
    rw [pw.2, i11] at m3
    have hz : pz_ok (ezz g e x) := m1.2.2.2.2
    have hzc : cz P 20 (ezz g e x) := m1.2.2.2.1
    have hTx := tText_b hz
    have nk := enm_ok i4 ⟨i5, i6⟩
    -- the text is written
    have hO5 : o_ok (fx_up P 5 1 0) 5 := by
      unfold o_ok
      rw [fx_up_self]
      omega
    refine sp_write (d := d + 1) puz20 out5k hz (cz_fr hzc (fun b j b1 b2 => fx_up_na (by omega))) hO5 (s201_169 ?_)
    have ho5 := otx_app (M := fx_up P 5 1 0) (T := tText (ezz g e x)) (fx_up_self ..) (by omega) hTx.2
    generalize hX : o_app (fx_up P 5 1 0) 5 (tText (ezz g e x)) = X at ho5 ⊢
    have xf : ∀ b j, b ≠ 5 → b ≠ 6 → X b j = P b j := fun b j b1 b2 => by rw [← hX, o_app_ne b1 b2, fx_up_na b1]
    have pf : ∀ b' j, ¬ (b' = 5 ∨ b' = 6 ∨ b' = 7 ∨ b' = 10) → ¬ (20 ≤ b' ∧ b' ≤ 28) → P b' j = N b' j := fun b' j c1 c2 => by rw [m4.1 b' j (by omega) (by omega) c2, rd_ne (by omega)]
    have x2 : X 2 = g := by
      funext j
      rw [xf 2 j (by decide) (by decide), pf 2 j (by omega) (by omega), n2]
    have x126 : X 126 = b := by
      funext j
      rw [xf 126 j (by decide) (by decide), pf 126 j (by omega) (by omega), n126]
    have hsn : snm X (enm g x) := by
      unfold snm
      rw [xf 7 0 (by decide) (by decide), xf 7 7 (by decide) (by decide), xf 7 6 (by decide) (by decide), m6, m7, nk.1]
      refine ⟨m1.1.1, by omega, by omega, ?_, fun j c hj => ?_⟩
      · have := hS.2.2.2.2.2.1
        omega
      · have hjl := (List.getElem?_eq_some_iff.mp hj).1
        rw [nk.1] at hjl
        unfold enm at hj
        rw [List.getElem?_map, List.getElem?_range hjl] at hj
        cases hj
        rw [x2]
    have hnm : nm_ok (enm g x) := ⟨by rw [nk.1]; omega, by rw [nk.1]; omega, fun c hc => by have := nk.2 c hc; omega⟩
    have e6 : X 7 6 = X 7 6 := rfl
    refine sp_keep (d := d + 3) (T := tText (ezz g e x)) hsn hnm (fun c hc => by have := nk.2 c hc; omega) ho5 x126 hb (bMd_H hM) (fun hF => s201_198 ⟨⟨by omega, by omega⟩, fun h => absurd rfl h, fun _ => ?_⟩) (fun hF1 hF2 Y y1 => s201_198 ⟨⟨by omega, by omega⟩, fun _ => ?_, fun h => by omega⟩)
    · have eK : KF = (b, W, false) := by
        rw [← hK]
        show impB b W ((enm g x, ezz g e x) :: eL2 g e E) = _
        rw [impB]
        exact if_pos hF
      rw [eK] at K
      have oX : X 3 1 = M 3 1 := by rw [xf 3 1 (by decide) (by decide), pf 3 1 (by omega) (by omega), nf 3 1 (by omega) (by omega) (by omega) (by omega)]
      have hOX : o_ok X 3 := by
        unfold o_ok
        rw [oX]
        exact hO
      have et : ([110, 111, 32, 114, 111, 111, 109] : List Int32).map Int32.toInt = t_rf 4 := by decide +kernel
      refine sp_puts (d := d + 3) out3 lt_1000169 hOX (s201_211 ?_)
      rw [et]
      refine K _ ⟨_, cz_app puz20 out3 (cz_fr hzc (fun b j b1 b2 => xf b j (by omega) (by omega))), hz⟩ ?_ ?_ (fun b' j c1 c2 c3 c4 c5 => ?_)
      · funext j
        rw [o_app_ne (by decide) (by decide), x126]
      · refine ⟨?_, fun k y hy => ?_⟩
        · rw [o_app_ne (by decide) (by decide), xf 125 2 (by decide) (by decide), pf 125 2 (by omega) (by omega)]
          exact nW.1
        · rw [o_app_ne (by decide) (by decide), o_app_ne (by decide) (by decide), xf 127 _ (by decide) (by decide), xf 128 _ (by decide) (by decide), pf 127 _ (by omega) (by omega), pf 128 _ (by omega) (by omega)]
          exact nW.2 k y hy
      · show o_app X 3 (t_rf 4) b' j = o_app M 3 (t_rf 4) b' j
        refine o_app_fq oX (fun a => ?_) ?_ c5
        · rw [xf 4 a (by decide) (by decide), pf 4 a (by omega) (by omega), nf 4 a (by omega) (by omega) (by omega) (by omega)]
        · rw [xf b' j (by omega) (by omega), pf b' j c1 c2, nf b' j c1 c2 c3 c4]
    · have hkF : ¬ kpF b (enm g x) (ezz g e x) := fun h => by
        rcases h with h | h <;> omega
      have hko := kp_ok hM hb hz (by rw [nk.1]; omega) (by rw [nk.1]; omega) nk.2 hkF
      have hK2 : impB (bCut b (kpD b (enm g x) (ezz g e x))) (wLog b (kpD b (enm g x) (ezz g e x))) (eL2 g e E) = KF := by
        rw [← hK]
        show _ = impB b W ((enm g x, ezz g e x) :: eL2 g e E)
        rw [impB]
        exact (if_neg hkF).symm
      have yf : ∀ b' j, b' ≠ 5 → b' ≠ 6 → ¬ (b' = 125 ∧ j = 2) → ¬ (126 ≤ b' ∧ b' ≤ 128) → Y b' j = P b' j := fun b' j c1 c2 c3 c4 => by rw [y1.2.2 b' j c3 (by omega) (by omega) (by omega), xf b' j c1 c2]
      have hYt : tx_st Y 7 20 2 5606 0 (ezz g e x) := by
        obtain ⟨⟨a0, a1, a2, a3, a4, a5, a6, a7, a8⟩, b1, b2, b3, b4⟩ := m1
        have ef : ∀ j, Y 7 j = P 7 j := fun j => yf 7 j (by decide) (by decide) (by omega) (by omega)
        exact ⟨⟨by rw [ef]; exact a0, a1, a2, by rw [ef]; exact a3, by rw [ef, ef]; exact a4, by rw [ef]; exact a5, by rw [ef]; exact a6, by rw [ef]; exact a7, fun j j0 j1 => by rw [yf 2 j (by decide) (by decide) (by omega) (by omega)]; exact a8 j j0 j1⟩, by rw [ef]; exact b1, by rw [ef]; exact b2, cz_fr b3 (fun b j h1 h2 => yf b j (by omega) (by omega) (by omega) (by omega)), b4⟩
      have nx := ih (i + 1) Y (rText g e x.2.2 0 0 (z_new 1 1 1)).1 _ _ (by omega) i12 (fun y hy => hr y (List.mem_cons_of_mem _ hy)) hko.1 hko.2.1 ⟨⟨_, hYt⟩, ?_, ?_, ?_, ?_, y1.1, y1.2.1, fun b' j c1 c2 c3 c4 => ?_⟩ hK2
      · rw [show ((i + 1 : Nat) : Int) = (i : Int) + 1 by omega] at nx
        exact nx
      · funext j
        rw [yf 2 j (by decide) (by decide) (by omega) (by omega), pf 2 j (by omega) (by omega), n2]
      · rw [yf 7 2 (by decide) (by decide) (by omega) (by omega), m4.2.1, g7]
      · rw [yf 7 1 (by decide) (by decide) (by omega) (by omega), m2]
      · rw [yf 7 3 (by decide) (by decide) (by omega) (by omega), m3]
      · rw [yf b' j (by omega) (by omega) c3 c4, pf b' j c1 c2, nf b' j c1 c2 c3 c4]
theorem sp_importBook {M : fx_M} {Z : PZ} {E : List BE} {b : Int → Int} {W : List (Int × Int)} {p0 a ck sk rf : Int} (h : tx_st M 7 20 2 5606 rf Z) (h3 : M 7 3 = 0) (h9 : M 9 0 = a ∧ M 9 1 = E.length ∧ M 9 2 = ck ∧ M 9 3 = sk) (hi : fx_in32 a ∧ fx_in32 ck ∧ fx_in32 sk) (hEl : E.length ≤ 6000) (h15 : M 7 15 = p0) (hp0 : 0 ≤ p0 ∧ p0 ≤ M 7 2) (hrf : rf = rfB (M 2) (M 7 2) E) (hI : bkI (M 2) (M 7 2) E p0) (hg : M 126 = b) (hM : bMd b) (hb : bk_b b) (hW : clg M W) (hO : o_ok M 3) (K : ∀ M' b' W', (b', W') = (if a = E.length ∧ ck = sk ∧ rf = 0 then ((impB b W (eL2 (M 2) (M 7 2) E)).1, (impB b W (eL2 (M 2) (M 7 2) E)).2.1) else (b, W)) → (∃ Y, cz M' 20 Y ∧ pz_ok Y) → M' 126 = b' → clg M' W' → fim M M' (tImp a E.length ck sk rf (impB b W (eL2 (M 2) (M 7 2) E)).2.2) → Q none M') : wc (kcs L xs) (d + 8) 201 [jR 0] M Q := by
  obtain ⟨q0, q1, q2, q3⟩ := h9
  have hS := h.1
  have he5 : M 7 2 ≤ 5606 := hS.2.2.2.2.2.1
  have same : ∀ cs, (b, W) = (if a = E.length ∧ ck = sk ∧ rf = 0 then ((impB b W (eL2 (M 2) (M 7 2) E)).1, (impB b W (eL2 (M 2) (M 7 2) E)).2.1) else (b, W)) → cs = tImp a E.length ck sk rf (impB b W (eL2 (M 2) (M 7 2) E)).2.2 → Q none (o_app M 3 cs) := fun cs e1 e2 => by
    refine K _ b W e1 ⟨Z, cz_app puz20 out3 h.2.2.2.1, h.2.2.2.2⟩ ?_ ⟨by rw [o_app_ne (by decide) (by decide)]; exact hW.1, fun k x hx => ?_⟩ (fun b' j _ _ _ _ _ => by rw [e2])
    · funext j
      rw [o_app_ne (by decide) (by decide), hg]
    · rw [o_app_ne (by decide) (by decide), o_app_ne (by decide) (by decide)]
      exact hW.2 k x hx
  refine s201 ?_
  rw [q0, q1, q2, q3]
  refine ⟨⟨hi.1, ⟨by omega, by omega⟩⟩, fun ea => ⟨⟨hi.2.1, hi.2.2⟩, fun ec => ⟨rfa_lit h.2.2.1, sp_rfEmpty (d := d + 6) h.2.2.1 (s201_76 ?_)⟩, fun nc => ?_⟩, fun na => ?_⟩
  · by_cases hr0 : rf = 0
    · rw [if_pos hr0]
      refine ⟨⟨by omega, by omega⟩, fun _ => ?_, fun h => by omega⟩
      rw [h15]
      refine s202 (d := d + 6) fx_scn7 ⟨⟨by omega, by omega⟩, ?_⟩
      rw [if_neg (by omega), rd_p, h3]
      have hT : tx_st (rd M 7 p0 0) 7 20 2 5606 rf Z := tx_read fx_scn7 puz20 (by decide) h (fun b j c1 c2 => rd_ne (by omega)) (by rw [rd_1]; omega) (by rw [rd_3]; omega)
      rw [hr0] at hT
      have KK := fun (N : fx_M) => K N (impB b W (eL2 (M 2) (M 7 2) E)).1 (impB b W (eL2 (M 2) (M 7 2) E)).2.1 (by rw [if_pos ⟨ea, ec, hr0⟩])
      have et : tImp a E.length ck sk rf (impB b W (eL2 (M 2) (M 7 2) E)).2.2 = (if (impB b W (eL2 (M 2) (M 7 2) E)).2.2 = true then t_ok else t_rf 4) := by
        unfold tImp
        rw [if_neg (fun x => x ea), if_neg (fun x => x ec), if_neg (fun x => x hr0)]
      rw [et] at KK
      refine s201_108 (im_loop (d := d) (g := M 2) (e := M 7 2) (M := M) hO hEl (impB b W (eL2 (M 2) (M 7 2) E)) (fun N a1 a2 a3 a4 => KK N a1 a2 a3 a4) E 0 _ p0 b W (by omega) hI (rfB_0 (by rw [← hrf]; exact hr0)) hM hb ⟨⟨Z, hT⟩, ?_, rd_ne (by omega), rd_1 _ _ _ _, rd_3 _ _ _ _, ?_, ⟨by rw [rd_ne (by omega)]; exact hW.1, fun k x hx => by rw [rd_ne (by omega), rd_ne (by omega)]; exact hW.2 k x hx⟩, fun b' j c1 c2 c3 c4 => rd_ne (by omega)⟩ rfl)
      · funext j
        exact rd_ne (by omega)
      · funext j
        rw [rd_ne (by omega), hg]
    · rw [if_neg hr0]
      obtain ⟨bs, s1, s2⟩ := rfa_str (L := L) (xs := xs) h.2.2.1 hr0
      refine ⟨⟨by omega, by omega⟩, fun h => absurd rfl h, fun _ => sp_puts (d := d + 3) out3 s1 hO (s201_93 ?_)⟩
      rw [s2]
      refine same _ (by rw [if_neg (fun x => hr0 x.2.2)]) ?_
      unfold tImp
      rw [if_neg (fun x => x ea), if_neg (fun x => x ec), if_pos hr0]
  · refine sp_puts (d := d + 3) out3 lt_1000179 hO (s201_65 ?_)
    have et : ([110, 111, 32, 99, 104, 101, 99, 107] : List Int32).map Int32.toInt = t_no (wrd 11) := by decide +kernel
    rw [et]
    refine same _ (by rw [if_neg (fun x => nc x.2.1)]) ?_
    unfold tImp
    rw [if_neg (fun x => x ea), if_pos nc]
  · refine sp_puts (d := d + 3) out3 lt_1000177 hO (s201_33 ?_)
    have et : ([110, 111, 32, 99, 111, 117, 110, 116] : List Int32).map Int32.toInt = t_no (wrd 50) := by decide +kernel
    rw [et]
    refine same _ (by rw [if_neg (fun x => na x.1)]) ?_
    unfold tImp
    rw [if_pos na]
end IMP
