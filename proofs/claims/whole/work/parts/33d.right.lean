/-! Keeping and removing leave the book right. -/
theorem bRoo_run {g : Int → Int} {m : Nat} : ∀ {u : Nat} {p : Int}, 0 ≤ bRoo g m u p → bRun g (bRoo g m u p) m = true
  | 0, _, h => by
    rw [bRoo] at h
    omega
  | u + 1, p, h => by
    rw [bRoo] at h ⊢
    by_cases c1 : 32 < p + (m : Int)
    · rw [if_pos c1] at h
      omega
    · rw [if_neg c1] at h ⊢
      by_cases c2 : bRun g p m = true
      · rw [if_pos c2]
        exact c2
      · rw [if_neg c2] at h ⊢
        exact bRoo_run h
theorem bUs_no {g : Int → Int} {p : Int} : ∀ {n : Nat}, bUs g p n = false → ∀ i : Nat, i < n → ¬ (bCh g (i : Int) ≤ p ∧ p < bCh g (i : Int) + bPg g (i : Int))
  | 0, _, i, hi => by omega
  | n + 1, h, i, hi => by
    rw [bUs, Bool.or_eq_false_iff] at h
    by_cases e : i = n
    · subst e
      intro x
      rw [decide_eq_true x.1, decide_eq_true x.2] at h
      exact absurd h.2 (by decide)
    · exact bUs_no h.1 i (by omega)
theorem bRun_us {g : Int → Int} {p : Int} {m : Nat} (h : bRun g p m = true) {q : Int} (h1 : p ≤ q) (h2 : q < p + (m : Int)) {e : Int} (he : 0 ≤ e ∧ e < g (bRt g)) : ¬ (bCh g e ≤ q ∧ q < bCh g e + bPg g e) := by
  have hf : bFre g q = true := by
    cases hc : bFre g q with
    | true => rfl
    | false =>
      rw [bRun_has h1 h2 hc] at h
      cases h
  unfold bFre at hf
  rw [Bool.and_eq_true, Bool.not_eq_true'] at hf
  have := bUs_no hf.2 e.toNat (by omega)
  rw [show ((e.toNat : Nat) : Int) = e by omega] at this
  exact this
theorem prs_get {g : Int → Int} {o : Int} : ∀ {n e : Nat}, 2 * e + 1 < (prs g o n).length → ∃ e' : Int, 0 ≤ e' ∧ e' < (n : Int) ∧ (prs g o n)[2 * e]? = some (bCh g e') ∧ (prs g o n)[2 * e + 1]? = some (bPg g e')
  | 0, e, h => by
    rw [prs, List.length_nil] at h
    omega
  | n + 1, e, h => by
    have hl := prs_len (g := g) (o := o) n
    rw [prs] at h ⊢
    by_cases c1 : 2 * e + 1 < (prs g o n).length
    · obtain ⟨e', h1, h2, h3, h4⟩ := prs_get c1
      rw [List.getElem?_append_left (by omega), List.getElem?_append_left c1]
      exact ⟨e', h1, by omega, h3, h4⟩
    · by_cases c2 : (n : Int) = o
      · rw [if_pos c2, List.append_nil] at h
        exact absurd h c1
      · rw [if_neg c2] at h ⊢
        have h2 : (prs g o n ++ [bCh g (n : Int), bPg g (n : Int)]).length = (prs g o n).length + 2 := by
          rw [List.length_append]
          rfl
        have he : 2 * e = (prs g o n).length := by
          rw [h2] at h
          split at hl <;> omega
        rw [List.getElem?_append_right (by omega), List.getElem?_append_right (by omega), show 2 * e - (prs g o n).length = 0 by omega, show 2 * e + 1 - (prs g o n).length = 1 by omega]
        exact ⟨(n : Int), by omega, by omega, rfl, rfl⟩
theorem rtB_ent {g : Int → Int} {o c m : Int} (h0 : 0 ≤ g (bRt g)) (ho : -1 ≤ o ∧ o < g (bRt g)) {e : Nat} (he : (e : Int) < aft (g (bRt g)) o m) : (∃ e' : Int, 0 ≤ e' ∧ e' < g (bRt g) ∧ (rtB g o c m)[1 + 2 * e]? = some (bCh g e') ∧ (rtB g o c m)[2 + 2 * e]? = some (bPg g e')) ∨ (0 < m ∧ (rtB g o c m)[1 + 2 * e]? = some c ∧ (rtB g o c m)[2 + 2 * e]? = some m) := by
  have hl := prs_len (g := g) (o := o) (g (bRt g)).toNat
  unfold aft at he
  unfold rtB
  generalize aft (g (bRt g)) o m = a
  generalize (a + (prs g o (g (bRt g)).toNat ++ nwp c m).sum) % 251 = s
  have hpr := fun (e : Nat) => prs_get (g := g) (o := o) (n := (g (bRt g)).toNat) (e := e)
  generalize prs g o (g (bRt g)).toNat = ps at hl hpr ⊢
  have at1 : ∀ i : Nat, i < (ps ++ nwp c m).length → (a :: (ps ++ nwp c m) ++ List.replicate (30 - (ps ++ nwp c m).length) 0 ++ [s])[i + 1]? = (ps ++ nwp c m)[i]? := fun i hi => by
    rw [List.append_assoc, List.getElem?_append_left (by rw [List.length_cons]; omega), List.getElem?_cons_succ]
  have hpl : (ps.length : Int) = 2 * (g (bRt g)) - (if o < 0 then (0 : Int) else 2) := by
    by_cases c1 : o < 0
    · rw [if_pos c1]
      rw [if_neg (by omega)] at hl
      omega
    · rw [if_neg c1]
      rw [if_pos (by omega)] at hl
      omega
  by_cases c1 : 2 * e + 1 < ps.length
  · obtain ⟨e', h1, h2, h3, h4⟩ := hpr e c1
    left
    refine ⟨e', h1, by omega, ?_, ?_⟩
    · rw [show 1 + 2 * e = 2 * e + 1 by omega, at1 (2 * e) (by rw [List.length_append]; omega), List.getElem?_append_left (by omega)]
      exact h3
    · rw [show 2 + 2 * e = 2 * e + 1 + 1 by omega, at1 (2 * e + 1) (by rw [List.length_append]; omega), List.getElem?_append_left c1]
      exact h4
  · have hm : 0 < m := by
      by_cases hm : 0 < m
      · exact hm
      · rw [if_neg hm] at he
        by_cases c2 : o < 0
        · rw [if_pos c2] at he hpl
          omega
        · rw [if_neg c2] at he hpl
          omega
    have he2 : 2 * e = ps.length := by
      rw [if_pos hm] at he
      by_cases c2 : o < 0
      · rw [if_pos c2] at he hpl
        omega
      · rw [if_neg c2] at he hpl
        omega
    have hw : nwp c m = [c, m] := by
      unfold nwp
      rw [if_pos hm]
    rw [hw] at at1 ⊢
    have hl2 : (ps ++ [c, m]).length = ps.length + 2 := by
      rw [List.length_append]
      rfl
    right
    refine ⟨hm, ?_, ?_⟩
    · rw [show 1 + 2 * e = 2 * e + 1 by omega, at1 (2 * e) (by omega), List.getElem?_append_right (by omega), show 2 * e - ps.length = 0 by omega]
      rfl
    · rw [show 2 + 2 * e = 2 * e + 1 + 1 by omega, at1 (2 * e + 1) (by omega), List.getElem?_append_right (by omega), show 2 * e + 1 - ps.length = 1 by omega]
      rfl
/-- the book written -/
theorem nb_at {g : Int → Int} {o c m f : Int} {E : List Int} (h32 : (rtB g o c m).length = 32) {j : Int} : bCut g (plc (32 * f) E ++ rtD g o c m) j = if j = 0 then 3 - bRt g / 32 else if 96 - bRt g ≤ j ∧ j < 96 - bRt g + 32 then (rtB g o c m).getD (j - (96 - bRt g)).toNat 0 else if 32 * f ≤ j ∧ j < 32 * f + E.length then E.getD (j - 32 * f).toNat 0 else g j := by
  unfold rtD
  rw [← List.append_assoc, bCut_app, bCut_two]
  unfold bUp
  dsimp only
  by_cases h : j = 0
  · rw [if_pos h, if_pos h]
  · rw [if_neg h, if_neg h, bCut_plc, h32, bCut_plc]
    rfl
theorem bEn_tr {g h : Int → Int} {e e' : Int} (hb : bk_b g) (h1 : bCh h e = bCh g e') (h2 : bPg h e = bPg g e') (hs : ∀ j, 32 * bCh g e' ≤ j → j < 32 * bCh g e' + 32 * bPg g e' → h j = g j) (hE : bEn g e') : bEn h e := by
  obtain ⟨⟨a1, a2, a3, a4, a5, a6⟩, b1, b2, b3, b4⟩ := hE
  have s0 : h (32 * bCh g e') = g (32 * bCh g e') := hs _ (by omega) (by omega)
  have ef : bFr h e = bFr g e' := by
    unfold bFr
    rw [h1, s0]
  have hf : bFr g e' = 32 * bCh g e' + g (32 * bCh g e') + 3 := rfl
  have et : bTo h e = bTo g e' := by
    unfold bTo
    rw [ef, hs (bFr g e' - 2) (by omega) (by omega), hs (bFr g e' - 1) (by omega) (by omega)]
  have v1 := hb (bFr g e' - 2) (by omega) (by omega)
  have v2 := hb (bFr g e' - 1) (by omega) (by omega)
  have hto : bTo g e' = bFr g e' + g (bFr g e' - 2) + 256 * g (bFr g e' - 1) := rfl
  have ex : bTx h e = bTx g e' := by
    have S1 : sftd g (fun j => g (bFr g e' + j)) (bFr g e') (bTo g e' - bFr g e') := fun j _ _ => rfl
    have S2 : sftd h (fun j => g (bFr g e' + j)) (bFr g e') (bTo g e' - bFr g e') := fun j j0 j1 => hs _ (by omega) (by omega)
    have t1 := sh_Text S1 (p := 0) (w := 0) (rf := 0) (Z := z_new 1 1 1) (by omega) (by omega)
    have t2 := sh_Text S2 (p := 0) (w := 0) (rf := 0) (Z := z_new 1 1 1) (by omega) (by omega)
    rw [show bFr g e' + (bTo g e' - bFr g e') = bTo g e' by omega, show bFr g e' + 0 = bFr g e' by omega] at t1 t2
    unfold bTx
    rw [ef, et, t1, t2]
  refine ⟨⟨by rw [h1]; exact a1, by rw [h2]; exact a2, by rw [h1, h2]; exact a3, by rw [h1, s0]; exact a4, by rw [h1, s0]; exact a5, fun i i1 i2 => ?_⟩, by rw [et, h1, h2]; exact b1, by rw [ex]; exact b2, by rw [ex, et]; exact b3, by rw [ex]; exact b4⟩
  rw [h1, s0] at i2
  rw [h1, hs _ (by omega) (by omega)]
  exact a6 i i1 i2
theorem bEn_new {h : Int → Int} {e c : Int} {nm : List Int} {Z : PZ} (ho : pz_ok Z) (hn1 : 1 ≤ nm.length) (hn8 : nm.length ≤ 8) (hna : ∀ x ∈ nm, 97 ≤ x ∧ x ≤ 122) (hc : 3 ≤ c) (h1 : bCh h e = c) (h2 : bPg h e = (ned nm (tText Z) : Nat)) (h3 : c + (ned nm (tText Z) : Nat) ≤ 32) (hs : ∀ i : Nat, i < 32 * ned nm (tText Z) → h (32 * c + i) = (eB nm (tText Z)).getD i 0) : bEn h e := by
  obtain ⟨tl, tb⟩ := tText_b ho
  have ht := fun (g : Int → Int) (e p : Int) => ly_text (g := g) (e := e) (p := p) (Y := z_new 1 1 1) ho
  generalize tText Z = T at *
  have hned : ned nm T = (nm.length + 3 + T.length + 31) / 32 := rfl
  have hne1 : 1 ≤ ned nm T := by
    rw [hned]
    omega
  have hne3 : nm.length + 3 + T.length ≤ 32 * ned nm T := by
    rw [hned]
    omega
  clear hned
  have hg : ∀ i : Nat, i < 32 * ned nm T → h (32 * c + i) = (if i = 0 then (nm.length : Int) else if i ≤ nm.length then nm.getD (i - 1) 0 else if i = nm.length + 1 then (T.length : Int) % 256 else if i = nm.length + 2 then (T.length : Int) / 256 else T.getD (i - (nm.length + 3)) 0) := fun i hi => by
    rw [hs i hi, List.getD_eq_getElem?_getD, eB_get hi]
    rfl
  generalize ned nm T = nd at *
  have g0 : h (32 * c) = nm.length := by
    have := hg 0 (by omega)
    rw [if_pos rfl, show 32 * c + ((0 : Nat) : Int) = 32 * c by omega] at this
    exact this
  have ef : bFr h e = 32 * c + nm.length + 3 := by
    unfold bFr
    rw [h1, g0]
  have g1 := hg (nm.length + 1) (by omega)
  rw [if_neg (by omega), if_neg (by omega), if_pos rfl] at g1
  have g2 := hg (nm.length + 2) (by omega)
  rw [if_neg (by omega), if_neg (by omega), if_neg (by omega), if_pos rfl] at g2
  have et : bTo h e = 32 * c + nm.length + 3 + T.length := by
    unfold bTo
    rw [ef, show 32 * c + (nm.length : Int) + 3 - 2 = 32 * c + ((nm.length + 1 : Nat) : Int) by omega, show 32 * c + (nm.length : Int) + 3 - 1 = 32 * c + ((nm.length + 2 : Nat) : Int) by omega, g1, g2]
    omega
  have hl : lyT h (bTo h e) (bFr h e) T := by
    refine ⟨by rw [et, ef], fun i v hv => ?_⟩
    have hil := (List.getElem?_eq_some_iff.mp hv).1
    have := hg (nm.length + 3 + i) (by omega)
    rw [if_neg (by omega), if_neg (by omega), if_neg (by omega), if_neg (by omega), show nm.length + 3 + i - (nm.length + 3) = i by omega, List.getD_eq_getElem?_getD, hv] at this
    rw [ef, show 32 * c + (nm.length : Int) + 3 + (i : Int) = 32 * c + ((nm.length + 3 + i : Nat) : Int) by omega, this]
    rfl
  obtain ⟨f1, f2, f3⟩ := ht h _ _ hl
  refine ⟨⟨by omega, by omega, by omega, by rw [h1, g0]; omega, by rw [h1, g0]; omega, fun i i1 i2 => ?_⟩, by rw [et, h1, h2]; omega, f2, f1, f3⟩
  rw [h1, g0] at i2
  have := hg i.toNat (by omega)
  rw [if_neg (by omega), if_pos (by omega), show ((i.toNat : Nat) : Int) = i by omega] at this
  rw [h1, this, List.getD_eq_getElem?_getD, List.getElem?_eq_getElem (show i.toNat - 1 < nm.length by omega)]
  exact hna _ (List.getElem_mem _)
theorem sum_rep0 : ∀ n : Nat, (List.replicate n (0 : Int)).sum = 0
  | 0 => rfl
  | n + 1 => by
    rw [List.replicate_succ, List.sum_cons, sum_rep0 n]
    rfl
theorem bMd_new {g : Int → Int} (hM : bMd g) (hb : bk_b g) {o c m : Int} {E : List Int} (ho : -1 ≤ o ∧ o < g (bRt g)) (ha : aft (g (bRt g)) o m ≤ 15) (hE : E = [] ∨ 3 ≤ c) (hd : ∀ e : Int, 0 ≤ e → e < g (bRt g) → 32 * bCh g e + 32 * bPg g e ≤ 32 * c ∨ 32 * c + (E.length : Int) ≤ 32 * bCh g e) (hnew : 0 < m → ∀ (h : Int → Int) (e : Int), bCh h e = c → bPg h e = m → (∀ i : Nat, i < E.length → h (32 * c + i) = E.getD i 0) → bEn h e) : bMd (bCut g (plc (32 * c) E ++ rtD g o c m)) := by
  have hrb := bRt_b (g := g)
  have h0 := hb (bRt g) (by omega) (by omega)
  have ha0 := aft_b (m := m) h0.1 ho
  have h30 := prs_30 h0.1 ho ha c
  have h32 := rtB_len h30
  have hat := fun (j : Int) => nb_at (g := g) (o := o) (c := c) (m := m) (f := c) (E := E) h32 (j := j)
  generalize hX : bCut g (plc (32 * c) E ++ rtD g o c m) = X at hat ⊢
  have hr0 : rtB g o c m = (aft (g (bRt g)) o m :: (prs g o (g (bRt g)).toNat ++ nwp c m) ++ List.replicate (30 - (prs g o (g (bRt g)).toNat ++ nwp c m).length) 0) ++ [(aft (g (bRt g)) o m + (prs g o (g (bRt g)).toNat ++ nwp c m).sum) % 251] := rfl
  have hen := fun (e : Nat) => rtB_ent (g := g) (o := o) (c := c) (m := m) h0.1 ho (e := e)
  have x0 : X 0 = 3 - bRt g / 32 := by rw [hat 0, if_pos rfl]
  have hrg : bRg X := by
    unfold bRg
    rw [x0]
    omega
  have hrt : bRt X = 96 - bRt g := by
    have e0 : bRt X = if X 0 = 2 then 64 else 32 := rfl
    rw [e0, x0]
    rcases hrb with e | e
    · rw [e]
      rfl
    · rw [e]
      rfl
  have xr : ∀ i : Nat, i < 32 → X (96 - bRt g + i) = (rtB g o c m).getD i 0 := fun i hi => by
    rw [hat, if_neg (by omega), if_pos (by omega), show (96 - bRt g + (i : Int) - (96 - bRt g)).toNat = i by omega]
  have hl31 : (aft (g (bRt g)) o m :: (prs g o (g (bRt g)).toNat ++ nwp c m) ++ List.replicate (30 - (prs g o (g (bRt g)).toNat ++ nwp c m).length) 0).length = 31 := by
    rw [List.length_append, List.length_cons, List.length_replicate]
    omega
  have xc : X (96 - bRt g) = aft (g (bRt g)) o m := by
    have := xr 0 (by omega)
    rw [show 96 - bRt g + ((0 : Nat) : Int) = 96 - bRt g by omega] at this
    rw [this]
    rfl
  refine ⟨hrg, by rw [hrt, xc]; exact ha, ?_, fun e e0 e1 => ?_⟩
  · rw [hrt, bSum_L (L := rtB g o c m) 31 (by omega) (fun i hi => xr i (by omega)), show 96 - bRt g + 31 = 96 - bRt g + ((31 : Nat) : Int) by omega, xr 31 (by omega), hr0, List.take_left' hl31, List.getD_eq_getElem?_getD, List.getElem?_append_right (by omega), hl31, List.sum_append, List.sum_cons, sum_rep0]
    simp
  · rw [hrt, xc] at e1
    have c1 : bCh X e = (rtB g o c m).getD (1 + 2 * e.toNat) 0 := by
      unfold bCh
      rw [hrt, ← xr (1 + 2 * e.toNat) (by omega), show 96 - bRt g + 1 + 2 * e = 96 - bRt g + ((1 + 2 * e.toNat : Nat) : Int) by omega]
    have c2 : bPg X e = (rtB g o c m).getD (2 + 2 * e.toNat) 0 := by
      unfold bPg
      rw [hrt, ← xr (2 + 2 * e.toNat) (by omega), show 96 - bRt g + 2 + 2 * e = 96 - bRt g + ((2 + 2 * e.toNat : Nat) : Int) by omega]
    rw [List.getD_eq_getElem?_getD] at c1 c2
    rcases hen e.toNat (by omega) with ⟨e', p1, p2, p3, p4⟩ | ⟨p1, p2, p3⟩
    · rw [p3] at c1
      rw [p4] at c2
      have hEn := hM.2.2.2 e' p1 p2
      have hdd := hd e' p1 p2
      have a1 := hEn.1.1
      refine bEn_tr hb c1 c2 (fun j j0 j1 => ?_) hEn
      rw [hat, if_neg (by omega), if_neg (by omega), if_neg (by omega)]
    · rw [p2] at c1
      rw [p3] at c2
      refine hnew p1 X e c1 c2 (fun i hi => ?_)
      rcases hE with hE | hE
      · rw [hE] at hi
        exact absurd hi (Nat.not_lt_zero i)
      · rw [hat, if_neg (by omega), if_neg (by omega), if_pos (by omega), show (32 * c + (i : Int) - 32 * c).toNat = i by omega]
theorem bMd_rm {g : Int → Int} (hM : bMd g) (hb : bk_b g) {o : Int} (ho : 0 ≤ o ∧ o < g (bRt g)) : bMd (bCut g (rtD g o 0 0)) := by
  have h15 := hM.2.1
  have := bMd_new hM hb (o := o) (c := 0) (m := 0) (E := []) ⟨by omega, ho.2⟩ (by
    unfold aft
    rw [if_neg (by omega), if_neg (by decide)]
    omega) (Or.inl rfl) (fun e e0 e1 => by
      have := (hM.2.2.2 e e0 e1).1.1
      right
      show 32 * 0 + ((0 : Nat) : Int) ≤ _
      omega) (fun h => by omega)
  exact this
theorem bMd_ke {g : Int → Int} (hM : bMd g) (hb : bk_b g) {o : Int} {nm : List Int} {Z : PZ} (hz : pz_ok Z) (hn1 : 1 ≤ nm.length) (hn8 : nm.length ≤ 8) (hna : ∀ x ∈ nm, 97 ≤ x ∧ x ≤ 122) (ho : -1 ≤ o ∧ o < g (bRt g)) (hlt : g (bRt g) - (if o < 0 then (0 : Int) else 1) < 15) (hc : 0 ≤ bRoo g (ned nm (tText Z)) 30 3) : bMd (bCut g (keD g o (bRoo g (ned nm (tText Z)) 30 3) nm (tText Z))) := by
  have hri := bRoo_in (g := g) (m := ned nm (tText Z)) (u := 30) (p := 3)
  have hrun := bRoo_run hc
  have hEl := eB_len (nm := nm) (T := tText Z)
  have hnw := fun (h : Int → Int) (e c : Int) => bEn_new (h := h) (e := e) (c := c) hz hn1 hn8 hna
  have hne1 : 1 ≤ ned nm (tText Z) := by
    unfold ned
    omega
  unfold keD
  generalize bRoo g (ned nm (tText Z)) 30 3 = c at hri hrun hc ⊢
  refine bMd_new hM hb ho ?_ (Or.inr (by omega)) (fun e e0 e1 => ?_) (fun _ h e h1 h2 h3 => hnw h e c (by omega) h1 h2 (by omega) (fun i hi => h3 i (by omega)))
  · unfold aft
    rw [if_pos (show (0 : Int) < ((ned nm (tText Z) : Nat) : Int) by omega)]
    omega
  · obtain ⟨a1, a2, a3, _⟩ := (hM.2.2.2 e e0 e1).1
    rw [hEl]
    by_cases k1 : bCh g e + bPg g e ≤ c
    · left
      omega
    · by_cases k2 : c + ((ned nm (tText Z) : Nat) : Int) ≤ bCh g e
      · right
        omega
      · exfalso
        by_cases k3 : c ≤ bCh g e
        · exact bRun_us hrun (q := bCh g e) k3 (by omega) ⟨e0, e1⟩ ⟨by omega, by omega⟩
        · exact bRun_us hrun (q := c) (by omega) (by omega) ⟨e0, e1⟩ ⟨by omega, by omega⟩
