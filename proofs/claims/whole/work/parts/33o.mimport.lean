/-! Importing a book, in the reference. -/
theorem rTx_r5 {g : Int → Int} {e : Int} : ∀ {f : Nat} {p w rf : Int} {Z : PZ}, 0 ≤ rf ∧ rf ≤ 5 → 0 ≤ (rTx g e f p w rf Z).2.2.1 ∧ (rTx g e f p w rf Z).2.2.1 ≤ 5
  | 0, _, _, _, _, h => h
  | f + 1, p, w, rf, Z, h => by
    rw [rTx]
    split
    · split
      · exact rTx_r5 q_op_b
      · exact rTx_r5 h
    · exact h
theorem rText_r5 {g : Int → Int} {e p w : Int} {Z : PZ} : 0 ≤ (rText g e p w 0 Z).2.2.1 ∧ (rText g e p w 0 Z).2.2.1 ≤ 5 := by
  unfold rText
  split
  · refine rTx_r5 ?_
    unfold q_size
    split <;> (dsimp only; omega)
  · exact rTx_r5 ⟨by omega, by omega⟩
theorem mtq_app0 {M : fx_M} {cs : List Int} (h0 : M 133 5 = 0) (hl : cs.length ≤ 6000) : mtq (m_app M cs) cs := by
  refine ⟨?_, fun i hi => ?_⟩
  · rw [m_app_len (by omega), h0]
    omega
  · have := m_app_get (cs := cs) (M := M) (i := i) (by omega) hi
    rw [h0, show (0 : Int) + (i : Int) = (i : Int) by omega] at this
    exact this
theorem t_rf_len {r : Int} : (t_rf r).length ≤ 20 := by
  have h : ∀ k : Fin 6, (t_rf ((k : Nat) : Int)).length ≤ 20 := by decide +kernel
  by_cases c : 0 ≤ r ∧ r ≤ 5
  · have := h ⟨r.toNat, by omega⟩
    rw [show (((⟨r.toNat, by omega⟩ : Fin 6) : Nat) : Int) = r by dsimp only; omega] at this
    exact this
  · have e : t_rf r = t_rf 0 := by
      unfold t_rf
      rw [if_neg (by omega), if_neg (by omega), if_neg (by omega), if_neg (by omega), if_neg (by omega), if_neg (by decide), if_neg (by decide), if_neg (by decide), if_neg (by decide), if_neg (by decide)]
    rw [e]
    exact h 0
section MIM
variable {kc : List va_E} {d : Nat} {Q : Option fx_V → fx_M → Prop} {g : Int → Int} {e : Int} {E : List BE}
/-- the text of an entry is read into unit 1 -/
theorem mi_text {M N : fx_M} {x : BE} (hg : ∀ j, N 135 j = g j) (he : N 133 3 = e) (hg0 : ∀ j, 0 ≤ j → j < e → 0 ≤ g j ∧ g j ≤ 65535) (he6 : e ≤ 6100) (hx : 0 ≤ x.2.2 ∧ x.2.2 ≤ e ∧ (rText g e x.2.2 0 0 (z_new 1 1 1)).2.1 = 0) (hN : N = fx_up M 133 7 x.2.2) (K : ∀ M', M' 133 23 = (rText g e x.2.2 0 0 (z_new 1 1 1)).2.2.1 → ((rText g e x.2.2 0 0 (z_new 1 1 1)).2.2.1 = 0 → mz M' 1 (ezz g e x) ∧ pz_ok (ezz g e x)) → mtf 1 M M' → Q (some (jI 1)) M') : wc kc (d + 8) 238 [jR 133, jI 1] N Q := by
  have n7 : N 133 7 = x.2.2 := by rw [hN, fx_up_self]
  have hm : ms_at (fx_up N 133 23 0) := by
    unfold ms_at
    rw [fx_up_nk (by decide), fx_up_nk (by decide), he, n7]
    refine ⟨by omega, by omega, by omega, fun j j0 j1 => ?_⟩
    rw [fx_up_na (by decide), hg j]
    exact hg0 j j0 j1
  have eg : N 135 = g := by
    funext j
    exact hg j
  refine sp_scanTextG (d := d) (Z := z_new 1 1 1) (u := 1) (by omega) (by omega) hm ?_ ?_
  · rw [eg, he, n7, mText_eq (by omega)]
    intro hw M' m1 m2 m3
    refine K M' m1.2.1 (fun h0 => m1.2.2.2.2.2 (by omega) h0) (fun b j a1 a2 a3 => ?_)
    rw [m3 b j a1 a2 a3, hN, fx_up_ne (by omega)]
  · rw [eg, he, n7, mText_eq (by omega)]
    intro hw
    omega
theorem sp_refusalOfBook {M : fx_M} (hg : ∀ j, M 135 j = g j) (he : M 133 3 = e) (hg0 : ∀ j, 0 ≤ j → j < e → 0 ≤ g j ∧ g j ≤ 65535) (he6 : e ≤ 6100) (hE : mbE M 0 E) (h31 : M 133 31 = E.length) (h300 : E.length ≤ 299) (hx : ∀ x ∈ E, 0 ≤ x.2.2 ∧ x.2.2 ≤ e ∧ (rText g e x.2.2 0 0 (z_new 1 1 1)).2.1 = 0) (K : ∀ M', mtf 1 M M' → Q (some (jI (rfB g e E))) M') : wc kc (d + 9) 378 [jR 133] M Q := by
  have z : ∀ (u i : Nat) (N : fx_M), i + u = E.length → mtf 1 M N → rfB g e (E.drop i) = rfB g e E → wp kc (d + 9) 378 2 [some (jR 133), some (jI i)] [] N Q := by
    intro u
    induction u with
    | zero =>
      intro i N hi fN hr
      rw [List.drop_eq_nil_of_le (by omega)] at hr
      rw [← hr] at K
      have n31 : N 133 31 = E.length := by rw [fN 133 31 (by omega) (by decide) (by unfold ucell; omega), h31]
      refine s378_2 ?_
      rw [n31]
      exact ⟨⟨⟨by omega, by omega⟩, ⟨by omega, by omega⟩⟩, fun _ => K N fN, fun h => by omega⟩
    | succ u ih =>
      intro i N hi fN hr
      have hil : i < E.length := by omega
      have n31 : N 133 31 = E.length := by rw [fN 133 31 (by omega) (by decide) (by unfold ucell; omega), h31]
      have hxi := hx _ (List.getElem_mem hil)
      have hEi := hE i _ (List.getElem?_eq_getElem hil)
      rw [Nat.zero_add] at hEi
      have n145 : N 145 (i : Int) = E[i].2.2 := by rw [fN 145 _ (by omega) (by decide) (by unfold ucell; omega)]; exact hEi.2.2
      rw [List.drop_eq_getElem_cons hil, rfB] at hr
      refine s378_2 ?_
      rw [n31, n145]
      refine ⟨⟨⟨by omega, by omega⟩, ⟨by omega, by omega⟩⟩, fun h => by omega, fun _ => ⟨⟨by omega, by omega⟩, ?_⟩⟩
      refine mi_text (d := d) (M := N) (g := g) (e := e) (fun j => ?_) ?_ hg0 he6 hxi rfl (fun M' m1 m2 m3 => s378_25 ?_)
      · rw [fx_up_na (by decide), fN 135 j (by omega) (by decide) (by unfold ucell; omega), hg j]
      · rw [fx_up_nk (by decide), fN 133 3 (by omega) (by decide) (by unfold ucell; omega), he]
      · have fM : mtf 1 M M' := fun b j a1 a2 a3 => by rw [m3 b j a1 a2 a3, fN b j a1 a2 a3]
        rw [m1]
        have rb : 0 ≤ (rText g e E[i].2.2 0 0 (z_new 1 1 1)).2.2.1 ∧ (rText g e E[i].2.2 0 0 (z_new 1 1 1)).2.2.1 ≤ 5 := rText_r5
        by_cases h0 : (rText g e E[i].2.2 0 0 (z_new 1 1 1)).2.2.1 = 0
        · rw [if_pos h0] at hr
          have nx := ih (i + 1) M' (by omega) fM hr
          rw [show ((i + 1 : Nat) : Int) = (i : Int) + 1 by omega] at nx
          exact ⟨⟨by omega, by omega⟩, fun _ => nx, fun h => absurd h0 h⟩
        · rw [if_neg h0] at hr
          rw [← hr] at K
          exact ⟨⟨by omega, by omega⟩, fun h => absurd h h0, fun _ => K M' fM⟩
  exact s378 (z E.length 0 M (by omega) (fun _ _ _ _ _ => rfl) rfl)
end MIM
theorem kp_mlg {b : Int → Int} {nm : List Int} {Z : PZ} {R : fx_M} (hM : bMd b) (hb : bk_b b) (hz : pz_ok Z) (hn1 : 1 ≤ nm.length) (hn8 : nm.length ≤ 8) (hna : ∀ x ∈ nm, 97 ≤ x ∧ x ≤ 122) (hk : ¬ kpF b nm Z) (r2 : ∀ j, 0 ≤ j → j < 1024 → R 189 j = b j) (r3 : R 133 99 = bRoo b (ned nm (tText Z)) 30 3) (r4 : R 133 100 = (ned nm (tText Z) : Nat)) (r5 : R 133 101 = 3 - bRt b / 32) (r6 : R 133 102 = 32 * ((ned nm (tText Z) : Nat) : Int) + 33) : mlg R (wLog b (kpD b nm Z)) := by
  have hrb := bRt_b (g := b)
  have h0 := hb (bRt b) (by omega) (by omega)
  have h15 := hM.2.1
  have hf := bFd_b (g := b) (nm := nm) (u := (b (bRt b)).toNat) (i := 0)
  unfold kpF at hk
  have hlt : b (bRt b) - (if bFd b nm (b (bRt b)).toNat 0 < 0 then (0 : Int) else 1) < 15 := by
    have := fun h => hk (Or.inl h)
    omega
  have hc : 0 ≤ bRoo b (ned nm (tText Z)) 30 3 := by
    have := fun h => hk (Or.inr h)
    omega
  have hri := bRoo_in (g := b) (m := ned nm (tText Z)) (u := 30) (p := 3)
  have hEl := eB_len (nm := nm) (T := tText Z)
  have hne1 : 1 ≤ ned nm (tText Z) := by
    unfold ned
    omega
  unfold kpD
  generalize bFd b nm (b (bRt b)).toNat 0 = o at hf hlt ⊢
  generalize bRoo b (ned nm (tText Z)) 30 3 = c at hc hri r3 ⊢
  have ha : aft (b (bRt b)) o (ned nm (tText Z) : Nat) ≤ 15 := by
    unfold aft
    rw [if_pos (show (0 : Int) < ((ned nm (tText Z) : Nat) : Int) by omega)]
    omega
  have h30 := prs_30 h0.1 ⟨by omega, by omega⟩ ha c
  have h32 := rtB_len h30
  unfold keD
  refine log_mlg (Or.inr (by omega)) hEl h30 ⟨by omega, by omega⟩ (by omega) r3 r4 r5 r6 r2 (fun x hx => ?_)
  rcases List.mem_append.mp hx with e | e
  · have h1 := plc_in e
    omega
  · unfold rtD at e
    rcases List.mem_append.mp e with e | e
    · have h1 := plc_in e
      omega
    · rw [List.mem_singleton.mp e]
      dsimp only
      omega
section MIN
variable {kc : List va_E} {d : Nat} {Q : Option fx_V → fx_M → Prop} {g : Int → Int} {e : Int} {E : List BE}
/-- what importing leaves as it was -/
def fmi (M M' : fx_M) : Prop := ∀ b j, ¬ (b = 133 ∧ (j = 5 ∨ (7 ≤ j ∧ j ≤ 23) ∨ (99 ≤ j ∧ j ≤ 102))) → b ≠ 136 → b ≠ 137 → b ≠ 188 → b ≠ 189 → ¬ ucell 1 b j → M' b j = M b j
def miS (M N : fx_M) (b : Int → Int) (W : List (Int × Int)) : Prop := mbk N b ∧ mlg N W ∧ N 133 5 = 0 ∧ fmi M N
theorem mi_end {M N : fx_M} {b : Int → Int} {W : List (Int × Int)} {r : Int} (hN : miS M N b W) (hr : fx_in32 r) (K : ∀ M', mbk M' b → mlg M' W → mtq M' (t_rf r) → fmi M M' → Q none M') : wc kc (d + 8) 259 [jR 133, jI r] N Q := by
  obtain ⟨h1, h2, h3, h4⟩ := hN
  refine sp_sayRefusal (d := d + 3) hr ⟨by omega, by omega⟩ (K _ (mbk_fr h1 (fun j => m_app_ne (by omega) (by decide))) ?_ (mtq_app0 h3 (by have := t_rf_len (r := r); omega)) (fun b j a1 a2 a3 a4 a5 a6 => ?_))
  · obtain ⟨w0, w1, w2, w3, w4⟩ := h2
    unfold mlg
    rw [m_app_ne (by omega) (by decide), m_app_ne (by omega) (by decide), m_app_ne (by omega) (by decide), m_app_ne (by omega) (by decide)]
    exact ⟨w0, w1, w2, w3, fun i x hx => ⟨(w4 i x hx).1, by rw [m_app_ne (by omega) (by decide)]; exact (w4 i x hx).2⟩⟩
  · rw [m_app_ne (by omega) a2, h4 b j a1 a2 a3 a4 a5 a6]
theorem mi_loop {M : fx_M} (hg : ∀ j, M 135 j = g j) (he : M 133 3 = e) (hg0 : ∀ j, 0 ≤ j → j < e → 0 ≤ g j ∧ g j ≤ 65535) (he6 : e ≤ 6100) {n : Nat} (h31 : M 133 31 = n) (h300 : n ≤ 299) (KF : (Int → Int) × List (Int × Int) × Bool) (K : ∀ N, mbk N KF.1 → mlg N KF.2.1 → mtq N (if KF.2.2 = true then t_ok else t_rf 4) → fmi M N → Q none N) : ∀ (E : List BE) (i : Nat) (p : Int) (N : fx_M) (b : Int → Int) (W : List (Int × Int)), i + E.length = n → 0 ≤ p → bkI g e E p → (∀ x ∈ E, (rText g e x.2.2 0 0 (z_new 1 1 1)).2.2.1 = 0) → mbE M i E → bMd b → bk_b b → miS M N b W → impB b W (eL2 g e E) = KF → wp kc (d + 9) 377 82 [some (jR 133), none, some (jI 0), some (jI i)] [] N Q := by
  intro E
  induction E with
  | nil =>
    intro i p N b W hi hp hI hr hE hM hb hN hK
    have ei : i = n := hi
    have n31 : N 133 31 = n := by rw [hN.2.2.2 133 31 (by omega) (by decide) (by decide) (by decide) (by decide) (by unfold ucell; omega), h31]
    have eK : KF = (b, W, true) := hK.symm
    rw [eK] at K
    have et : t_rf 0 = t_ok := by decide +kernel
    refine s377_82 ?_
    rw [n31]
    refine ⟨⟨⟨by omega, by omega⟩, ⟨by omega, by omega⟩⟩, fun _ => mi_end (d := d) hN ⟨by omega, by omega⟩ (fun M' a1 a2 a3 a4 => s377_155 (K M' a1 a2 ?_ a4)), fun h => by omega⟩
    rw [et] at a3
    rw [if_pos rfl]
    exact a3
  | cons x E ih =>
    intro i p N b W hi hp hI hr hE hM hb hN hK
    rw [List.length_cons] at hi
    obtain ⟨i1, i2, i3, i4, i5, i6, i7, i8, i9, i10, i11, i12⟩ := hI
    have hr0 := hr x (List.mem_cons_self ..)
    obtain ⟨hNb, hNW, hN5, hNf⟩ := hN
    have n31 : N 133 31 = n := by rw [hNf 133 31 (by omega) (by decide) (by decide) (by decide) (by decide) (by unfold ucell; omega), h31]
    have hE0 := hE 0 x rfl
    rw [Nat.add_zero] at hE0
    have nE : ∀ b' : Nat, 143 ≤ b' → b' ≤ 145 → ∀ j, N b' j = M b' j := fun b' b1 b2 j => hNf b' j (by omega) (by omega) (by omega) (by omega) (by omega) (by unfold ucell; omega)
    have n145 : N 145 (i : Int) = x.2.2 := by rw [nE 145 (by omega) (by omega)]; exact hE0.2.2
    refine s377_82 ?_
    rw [n31, n145]
    refine ⟨⟨⟨by omega, by omega⟩, ⟨by omega, by omega⟩⟩, fun h => by omega, fun _ => ⟨⟨by omega, by omega⟩, fun h => absurd rfl h, fun _ => ⟨⟨by omega, by omega⟩, ?_⟩⟩⟩
    refine mi_text (d := d) (M := N) (g := g) (e := e) (x := x) (fun j => ?_) ?_ hg0 he6 ⟨by omega, i9, i11⟩ rfl (fun P m1 m2 m3 => s377_109 ?_)
    · rw [fx_up_na (by decide), hNf 135 j (by omega) (by decide) (by decide) (by decide) (by decide) (by unfold ucell; omega), hg j]
    · rw [fx_up_nk (by decide), hNf 133 3 (by omega) (by decide) (by decide) (by decide) (by decide) (by unfold ucell; omega), he]
    obtain ⟨hz, hzo⟩ := m2 hr0
    have pE : ∀ b' : Nat, 143 ≤ b' → b' ≤ 145 → ∀ j, P b' j = M b' j := fun b' b1 b2 j => by rw [m3 b' j (by omega) (by omega) (by unfold ucell; omega), nE b' b1 b2 j]
    rw [pE 143 (by omega) (by omega), pE 144 (by omega) (by omega), hE0.1, hE0.2.1]
    have nk := enm_ok i4 ⟨i5, i6⟩
    refine ⟨⟨by omega, by omega⟩, ⟨by omega, by omega⟩, ?_⟩
    generalize hA : fx_up (fx_up P 133 15 x.1) 133 16 x.2.1 = A
    have af : ∀ b j, ¬ (b = 133 ∧ (j = 15 ∨ j = 16)) → A b j = P b j := fun b j hb => by rw [← hA, fx_up_ne (by omega), fx_up_ne (by omega)]
    have a15 : A 133 15 = x.1 := by rw [← hA, fx_up_nk (by decide), fx_up_self]
    have a16 : A 133 16 = x.2.1 := by rw [← hA, fx_up_self]
    have aN : ∀ b j, ¬ (b = 133 ∧ 7 ≤ j ∧ j ≤ 23) → b ≠ 137 → ¬ ucell 1 b j → A b j = N b j := fun b j c1 c2 c3 => by rw [af b j (by omega), m3 b j c1 c2 (fun y => c3 y.2)]
    have a5 : A 133 5 = 0 := by rw [aN 133 5 (by omega) (by decide) (by unfold ucell; omega), hN5]
    have hb1 := rT_b (g := g) (e := e) (c := 47) (p := p) (w := 0) (by
      have : x.2.2 ≤ e := i9
      omega)
    rw [i1] at hb1
    dsimp only at hb1
    have hmn : mnm A (enm g x) := by
      unfold mnm
      rw [a15, a16, nk.1]
      refine ⟨by omega, by omega, by omega, fun j c hj => ?_⟩
      have hjl := (List.getElem?_eq_some_iff.mp hj).1
      rw [nk.1] at hjl
      unfold enm at hj
      rw [List.getElem?_map, List.getElem?_range hjl] at hj
      cases hj
      rw [aN 135 _ (by omega) (by decide) (by unfold ucell; omega), hNf 135 _ (by omega) (by decide) (by decide) (by decide) (by decide) (by unfold ucell; omega), hg]
    have hnm : nm_ok (enm g x) := ⟨by rw [nk.1]; omega, by rw [nk.1]; omega, fun c hc => by have := nk.2 c hc; omega⟩
    have hbA : mbk A b := mbk_fr hNb (fun j => aN 188 j (by omega) (by decide) (by unfold ucell; omega))
    have hzA : mz A 1 (ezz g e x) := mz_frM hz (fun b j b1 b2 => af b j (by omega))
    have hlA : mlg A W := by
      obtain ⟨w0, w1, w2, w3, w4⟩ := hNW
      unfold mlg
      rw [aN 133 102 (by omega) (by decide) (by unfold ucell; omega), aN 133 99 (by omega) (by decide) (by unfold ucell; omega), aN 133 100 (by omega) (by decide) (by unfold ucell; omega), aN 133 101 (by omega) (by decide) (by unfold ucell; omega)]
      exact ⟨w0, w1, w2, w3, fun i x hx => ⟨(w4 i x hx).1, by rw [aN 189 _ (by omega) (by decide) (by unfold ucell; omega)]; exact (w4 i x hx).2⟩⟩
    have fA : fmi M A := fun b j c1 c2 c3 c4 c5 c6 => by rw [aN b j (by omega) c3 c6, hNf b j c1 c2 c3 c4 c5 c6]
    refine sp_keeps (d := d + 2) (u := 1) (by omega) hzA hzo hmn hnm (fun c hc => by have := nk.2 c hc; omega) hbA hb hM.1 (bMd_H hM) ⟨by omega, by omega⟩ (fun hF R r1 r2 => s377_135 ⟨⟨by omega, by omega⟩, ?_⟩) (fun hF1 hF2 R r1 r2 r3 r4 r5 r6 r7 r8 => s377_135 ⟨⟨by omega, by omega⟩, ?_⟩)
    · rw [if_pos rfl]
      have eK : KF = (b, W, false) := by
        rw [← hK]
        show impB b W ((enm g x, ezz g e x) :: eL2 g e E) = _
        rw [impB]
        exact if_pos hF
      rw [eK] at K
      have hRS : miS M R b W := by
        refine ⟨mbk_fr hbA (fun j => r1 188 j (by decide)), ?_, by rw [r1 133 5 (by decide), a5], fun b j c1 c2 c3 c4 c5 c6 => by rw [r1 b j c2, fA b j c1 c2 c3 c4 c5 c6]⟩
        obtain ⟨w0, w1, w2, w3, w4⟩ := hlA
        unfold mlg
        rw [r1 133 102 (by decide), r1 133 99 (by decide), r1 133 100 (by decide), r1 133 101 (by decide)]
        exact ⟨w0, w1, w2, w3, fun i x hx => ⟨(w4 i x hx).1, by rw [r1 189 _ (by decide)]; exact (w4 i x hx).2⟩⟩
      have r31 : R 133 31 = n := by rw [r1 133 31 (by decide), aN 133 31 (by omega) (by decide) (by unfold ucell; omega), n31]
      have fin : wc kc (d + 8) 259 [jR 133, jI 4] R (fun v M1 => wp kc (d + 9) 377 155 [none, none, none, none] (v.toList ++ []) M1 Q) := mi_end (d := d) hRS ⟨by omega, by omega⟩ (fun M' a1 a2 a3 a4 => s377_155 (K M' a1 a2 (by rw [if_neg (show ¬ (false = true) by decide)]; exact a3) a4))
      refine s377_82 ?_
      rw [r31]
      exact ⟨⟨⟨by omega, by omega⟩, ⟨by omega, by omega⟩⟩, fun _ => fin, fun _ => ⟨⟨by omega, by omega⟩, fun _ => fin, fun h => by omega⟩⟩
    · rw [if_neg (by decide)]
      have hkF : ¬ kpF b (enm g x) (ezz g e x) := fun h => by
        rcases h with h | h <;> omega
      have hko := kp_ok hM hb hzo (by rw [nk.1]; omega) (by rw [nk.1]; omega) nk.2 hkF
      have hK2 : impB (bCut b (kpD b (enm g x) (ezz g e x))) (wLog b (kpD b (enm g x) (ezz g e x))) (eL2 g e E) = KF := by
        rw [← hK]
        show _ = impB b W ((enm g x, ezz g e x) :: eL2 g e E)
        rw [impB]
        exact (if_neg hkF).symm
      have hlog : mlg R (wLog b (kpD b (enm g x) (ezz g e x))) := kp_mlg hM hb hzo (by rw [nk.1]; omega) (by rw [nk.1]; omega) nk.2 hkF r2 r3 r4 r5 r6
      have hRf : fmi M R := fun b j c1 c2 c3 c4 c5 c6 => by rw [r7 b j c2 c4 c5 (by omega), fA b j c1 c2 c3 c4 c5 c6]
      have nx := ih (i + 1) (rText g e x.2.2 0 0 (z_new 1 1 1)).1 R _ _ (by omega) (by have := rText_b (g := g) (e := e) (p := x.2.2) (w := 0) (rf := 0) (Z := z_new 1 1 1) i9; omega) i12 (fun y hy => hr y (List.mem_cons_of_mem _ hy)) (fun k y hy => ?_) hko.1 hko.2.1 ⟨r1, hlog, by rw [r7 133 5 (by decide) (by decide) (by decide) (by omega), a5], hRf⟩ hK2
      · rw [show ((i + 1 : Nat) : Int) = (i : Int) + 1 by omega] at nx
        exact nx
      · have := hE (k + 1) y (by rw [List.getElem?_cons_succ]; exact hy)
        rw [show i + 1 + k = i + (k + 1) by omega]
        exact this
theorem sp_sayImport {M : fx_M} {b : Int → Int} {W : List (Int × Int)} {p0 a cf sk : Int} (hg : ∀ j, M 135 j = g j) (he : M 133 3 = e) (hg0 : ∀ j, 0 ≤ j → j < e → 0 ≤ g j ∧ g j ≤ 65535) (he6 : e ≤ 6100) (h30 : M 133 30 = a ∧ M 133 31 = E.length ∧ M 133 32 = sk ∧ M 133 33 = cf) (hi : fx_in32 a ∧ fx_in32 sk) (h300 : E.length ≤ 299) (hcf : 7 ≤ cf ∧ cf ≤ e) (hE : mbE M 0 E) (hp0 : 0 ≤ p0) (hI : bkI g e E p0) (hgb : mbk M b) (hM : bMd b) (hb : bk_b b) (hW : mlg M W) (h5 : M 133 5 = 0) (K : ∀ M' b' W', (b', W') = (if a = E.length ∧ ckS 7 ((List.range (cf - 7).toNat).map (fun i : Nat => g (7 + (i : Int)))) = sk ∧ rfB g e E = 0 then ((impB b W (eL2 g e E)).1, (impB b W (eL2 g e E)).2.1) else (b, W)) → mbk M' b' → mlg M' W' → mtq M' (tImp a E.length (ckS 7 ((List.range (cf - 7).toNat).map (fun i : Nat => g (7 + (i : Int))))) sk (rfB g e E) (impB b W (eL2 g e E)).2.2) → fmi M M' → Q none M') : wc kc (d + 10) 377 [jR 133] M Q := by
  obtain ⟨q0, q1, q2, q3⟩ := h30
  have bad : ∀ (N : fx_M) (cs : List Int), cs.length ≤ 100 → mtf 1 M N → N 133 5 = 0 → (b, W) = (if a = E.length ∧ ckS 7 ((List.range (cf - 7).toNat).map (fun i : Nat => g (7 + (i : Int)))) = sk ∧ rfB g e E = 0 then ((impB b W (eL2 g e E)).1, (impB b W (eL2 g e E)).2.1) else (b, W)) → cs = tImp a E.length (ckS 7 ((List.range (cf - 7).toNat).map (fun i : Nat => g (7 + (i : Int))))) sk (rfB g e E) (impB b W (eL2 g e E)).2.2 → Q none (m_app N cs) := fun N cs hl fN n5 e1 e2 => by
    have nf : ∀ b' j, ¬ (b' = 133 ∧ 7 ≤ j ∧ j ≤ 23) → b' ≠ 137 → ¬ ucell 1 b' j → N b' j = M b' j := fun b' j c1 c2 c3 => fN b' j c1 c2 (fun y => c3 y.2)
    refine K _ b W e1 (mbk_fr hgb (fun j => by rw [m_app_ne (by omega) (by decide), nf 188 j (by omega) (by decide) (by unfold ucell; omega)])) ?_ (by rw [← e2]; exact mtq_app0 n5 (by omega)) (fun b' j c1 c2 c3 c4 c5 c6 => by rw [m_app_ne (by omega) c2, nf b' j (by omega) c3 c6])
    obtain ⟨w0, w1, w2, w3, w4⟩ := hW
    unfold mlg
    rw [m_app_ne (by omega) (by decide), m_app_ne (by omega) (by decide), m_app_ne (by omega) (by decide), m_app_ne (by omega) (by decide), nf 133 102 (by omega) (by decide) (by unfold ucell; omega), nf 133 99 (by omega) (by decide) (by unfold ucell; omega), nf 133 100 (by omega) (by decide) (by unfold ucell; omega), nf 133 101 (by omega) (by decide) (by unfold ucell; omega)]
    exact ⟨w0, w1, w2, w3, fun i x hx => ⟨(w4 i x hx).1, by rw [m_app_ne (by omega) (by decide), nf 189 _ (by omega) (by decide) (by unfold ucell; omega)]; exact (w4 i x hx).2⟩⟩
  have hm : m_ok M := ⟨by omega, by omega⟩
  have hll : ((List.range (cf - 7).toNat).map (fun i : Nat => g (7 + (i : Int)))).length = (cf - 7).toNat := by rw [List.length_map, List.length_range]
  have hlg : ∀ i : Nat, i < (cf - 7).toNat → ((List.range (cf - 7).toNat).map (fun i : Nat => g (7 + (i : Int))))[i]? = some (g (7 + (i : Int))) := fun i hi => by
    rw [List.getElem?_map, List.getElem?_range hi]
    rfl
  generalize (List.range (cf - 7).toNat).map (fun i : Nat => g (7 + (i : Int))) = l at K bad hll hlg
  have hcb := ckS_b (l := l) (s := 7) ⟨by omega, by omega⟩
  have rest : a = E.length → ckS 7 l = sk → wc kc (d + 9) 378 [jR 133] M (fun v M1 => wp kc (d + 10) 377 79 [some (jR 133), none, none, none] (v.toList ++ []) M1 Q) := fun ea ec => by
    have hxx : ∀ (E : List BE) (p : Int), 0 ≤ p → bkI g e E p → ∀ x ∈ E, 0 ≤ x.2.2 ∧ x.2.2 ≤ e ∧ (rText g e x.2.2 0 0 (z_new 1 1 1)).2.1 = 0 := by
      intro E
      induction E with
      | nil => exact fun _ _ _ x hx => by cases hx
      | cons y E ih =>
        intro p hp hI x hx
        obtain ⟨i1, i2, i3, i4, i5, i6, i7, i8, i9, i10, i11, i12⟩ := hI
        rcases List.mem_cons.mp hx with ex | ex
        · rw [ex]
          exact ⟨by omega, i9, i11⟩
        · have := rText_b (g := g) (e := e) (p := y.2.2) (w := 0) (rf := 0) (Z := z_new 1 1 1) i9
          exact ih _ (by omega) i12 x ex
    refine sp_refusalOfBook (d := d) hg he hg0 he6 hE q1 h300 (hxx E p0 hp0 hI) (fun N fN => s377_79 ?_)
    have nf : ∀ b' j, ¬ (b' = 133 ∧ 7 ≤ j ∧ j ≤ 23) → b' ≠ 137 → ¬ ucell 1 b' j → N b' j = M b' j := fun b' j c1 c2 c3 => fN b' j c1 c2 (fun y => c3 y.2)
    have hNS : miS M N b W := by
      refine ⟨mbk_fr hgb (fun j => nf 188 j (by omega) (by decide) (by unfold ucell; omega)), ?_, by rw [nf 133 5 (by omega) (by decide) (by unfold ucell; omega), h5], fun b' j c1 c2 c3 c4 c5 c6 => nf b' j (by omega) c3 c6⟩
      obtain ⟨w0, w1, w2, w3, w4⟩ := hW
      unfold mlg
      rw [nf 133 102 (by omega) (by decide) (by unfold ucell; omega), nf 133 99 (by omega) (by decide) (by unfold ucell; omega), nf 133 100 (by omega) (by decide) (by unfold ucell; omega), nf 133 101 (by omega) (by decide) (by unfold ucell; omega)]
      exact ⟨w0, w1, w2, w3, fun i x hx => ⟨(w4 i x hx).1, by rw [nf 189 _ (by omega) (by decide) (by unfold ucell; omega)]; exact (w4 i x hx).2⟩⟩
    by_cases hr0 : rfB g e E = 0
    · rw [hr0]
      have KK := fun (N : fx_M) => K N (impB b W (eL2 g e E)).1 (impB b W (eL2 g e E)).2.1 (by rw [if_pos ⟨ea, ec, hr0⟩])
      have et : tImp a E.length (ckS 7 l) sk (rfB g e E) (impB b W (eL2 g e E)).2.2 = (if (impB b W (eL2 g e E)).2.2 = true then t_ok else t_rf 4) := by
        unfold tImp
        rw [if_neg (fun x => x ea), if_neg (fun x => x ec), if_neg (fun x => x hr0)]
      rw [et] at KK
      exact mi_loop (d := d + 1) (M := M) hg he hg0 he6 q1 h300 (impB b W (eL2 g e E)) (fun N a1 a2 a3 a4 => KK N a1 a2 a3 a4) E 0 p0 N b W (by omega) hp0 hI (rfB_0 hr0) hE hM hb hNS rfl
    · have rb : 0 ≤ rfB g e E ∧ rfB g e E ≤ 5 := by
        have gen : ∀ E : List BE, 0 ≤ rfB g e E ∧ rfB g e E ≤ 5 := fun E => by
          induction E with
          | nil => exact ⟨Int.le_refl _, by show (0 : Int) ≤ 5; omega⟩
          | cons y E ih =>
            rw [rfB]
            split
            · exact ih
            · exact rText_r5
        exact gen E
      have et : tImp a E.length (ckS 7 l) sk (rfB g e E) (impB b W (eL2 g e E)).2.2 = t_rf (rfB g e E) := by
        unfold tImp
        rw [if_neg (fun x => x ea), if_neg (fun x => x ec), if_pos hr0]
      rw [et] at K
      have fin : wc kc (d + 9) 259 [jR 133, jI (rfB g e E)] N (fun v M1 => wp kc (d + 10) 377 155 [none, none, none, none] (v.toList ++ []) M1 Q) := mi_end (d := d + 1) hNS ⟨by omega, by omega⟩ (fun M' a1 a2 a3 a4 => s377_155 (K M' b W (by rw [if_neg (fun x => hr0 x.2.2)]) a1 a2 a3 a4))
      refine s377_82 ?_
      rw [nf 133 31 (by omega) (by decide) (by unfold ucell; omega), q1]
      exact ⟨⟨⟨by omega, by omega⟩, ⟨by omega, by omega⟩⟩, fun _ => fin, fun _ => ⟨⟨by omega, by omega⟩, fun _ => fin, fun h => absurd h hr0⟩⟩
  have z : a = E.length → ∀ (u i : Nat), i + u = (cf - 7).toNat → wp kc (d + 10) 377 27 [some (jR 133), some (jI (ckS 7 (l.take i))), some (jI (7 + (i : Int))), none] [] M Q := by
    intro ea u
    induction u with
    | zero =>
      intro i hiu
      rw [List.take_of_length_le (by omega)]
      refine s377_27 ?_
      rw [q3, q2]
      refine ⟨⟨⟨by omega, by omega⟩, ⟨by omega, by omega⟩⟩, fun _ => ⟨⟨hi.2, ⟨by omega, by omega⟩⟩, fun ec => rest ea ec.symm, fun nc => ?_⟩, fun h => by omega⟩
      refine sp_word (d := d + 8) (by omega) (by omega) (s377_71 (sp_sayNo (d := d + 5) (by unfold w_ok; decide +kernel) hm (s377_74 ?_)))
      refine bad M _ (by decide +kernel) (fun _ _ _ _ _ => rfl) h5 (by rw [if_neg (fun x => nc x.2.1.symm)]) ?_
      unfold tImp
      rw [if_neg (fun x => x ea), if_pos (fun x => nc x.symm)]
    | succ u ih =>
      intro i hiu
      have hx := hlg i (by omega)
      have hil : i < l.length := by omega
      have ex : l[i] = g (7 + (i : Int)) := by
        have := List.getElem?_eq_getElem hil
        rw [hx] at this
        exact (Option.some.inj this).symm
      have hb2 := ckS_b (l := l.take i) (s := 7) ⟨by omega, by omega⟩
      have hc := hg0 (7 + (i : Int)) (by omega) (by omega)
      have nx := ih (i + 1) (by omega)
      rw [List.take_succ_eq_append_getElem hil, ckS_s, ex, show (7 : Int) + ((i + 1 : Nat) : Int) = 7 + (i : Int) + 1 by omega, Int.mul_comm _ 31] at nx
      refine s377_27 ?_
      rw [q3, hg]
      exact ⟨⟨⟨by omega, by omega⟩, ⟨by omega, by omega⟩⟩, fun h => by omega, fun _ => ⟨⟨by omega, by omega⟩, ⟨by omega, by omega⟩, nx⟩⟩
  refine s377 ?_
  rw [q0, q1]
  refine ⟨⟨hi.1, ⟨by omega, by omega⟩⟩, fun ea => ?_, fun na => ?_⟩
  · have := z ea (cf - 7).toNat 0 (by omega)
    rw [show (7 : Int) + ((0 : Nat) : Int) = 7 by omega] at this
    exact this
  · refine sp_word (d := d + 8) (by omega) (by omega) (s377_17 (sp_sayNo (d := d + 5) (by unfold w_ok; decide +kernel) hm (s377_20 ?_)))
    refine bad M _ (by decide +kernel) (fun _ _ _ _ _ => rfl) h5 (by rw [if_neg (fun x => na x.1)]) ?_
    unfold tImp
    rw [if_pos na]
end MIN
