/-! The reference reads a whole book. -/
theorem rBN1_2 {g : Int → Int} {e p w : Int} (h : (rBN g e 1 p w).2.2 = 0) : (rBN g e 1 p w).2.1 = p + 2 ∧ w = 0 := by
  have hw := rBN_w0 h
  subst hw
  unfold rBN at h ⊢
  rcases rT_i (g := g) (e := e) (c := 32) (p := p) with ⟨e1, l1, g1⟩ | ⟨e1, no⟩
  · rw [e1] at h ⊢
    dsimp only at h ⊢
    unfold rN at h ⊢
    split at h
    · rename_i hc
      rw [if_pos hc]
      refine ⟨?_, rfl⟩
      show p + 1 + 1 = p + 2
      omega
    · exact absurd h (by show ¬ (1 : Int) = 0; decide)
  · rw [e1] at h
    dsimp only at h
    unfold rN at h
    rw [if_neg (by omega)] at h
    exact absurd h (by show ¬ (1 : Int) = 0; decide)
theorem rCN_3 {g : Int → Int} {e p w : Int} (h : (rC g e bsN p w).2.2 = 0) : (rC g e bsN p w).2.1 = p + 3 := by
  have hs := swN (g := g) (e := e) (p := p)
  have h0 := rC_o h
  unfold rC at h h0 ⊢
  split at h
  · rename_i hw
    rw [if_pos hw] at h0 ⊢
    dsimp only at h0 ⊢
    rcases hs.2 with ⟨x, _⟩ | ⟨x1, x2, x3, x4, x5, x6⟩
    · omega
    · have e0 : (swl g e p 1 0 0 (-1)).1 = 0 := by omega
      rw [e0] at x6
      have e3 : wln (wrd 0) = 3 := by decide +kernel
      rw [if_neg (by omega), x6, e3]
      rfl
  · exact absurd h (by show ¬ (1 : Int) = 0; decide)
theorem rText_9 {g : Int → Int} {e p w rf : Int} {Z : PZ} (hp : p ≤ e) (h : (rText g e p w rf Z).2.1 = 0) : p + 9 ≤ (rText g e p w rf Z).1 ∧ w = 0 := by
  have hc := rC_b (g := g) (e := e) (bs := bsN) (p := p) (w := w) hp
  have hz := rZ3_e (g := g) (e := e) (p := (rC g e bsN p w).2.1) (w := (rC g e bsN p w).2.2) hc.2.2.2.1
  have step : (rZ3 g e (rC g e bsN p w).2.1 (rC g e bsN p w).2.2).2.2 = 0 → (rZ3 g e (rC g e bsN p w).2.1 (rC g e bsN p w).2.2).2.1 = p + 9 ∧ w = 0 := fun h3 => by
    unfold rZ3 at h3 ⊢
    have a3 := rBN1_2 h3
    unfold rZ2 at a3 ⊢
    have a2 := rBN1_2 a3.2
    unfold rZ1 at a2 a3 ⊢
    have a1 := rBN1_2 a2.2
    have a0 := rCN_3 a1.2
    refine ⟨by omega, ?_⟩
    have h4 := a1.2
    unfold rC at h4
    split at h4
    · rename_i hw
      exact hw
    · exact absurd h4 (by show ¬ (1 : Int) = 0; decide)
  unfold rText at h ⊢
  generalize rZ3 g e (rC g e bsN p w).2.1 (rC g e bsN p w).2.2 = z at h hz step ⊢
  by_cases hz0 : z.2.2 = 0
  · have s := step hz0
    refine ⟨?_, s.2⟩
    split
    · have := rTx_b (g := g) (e := e) (f := (e - z.2.1).toNat + 1) (p := z.2.1) (w := z.2.2) (rf := (q_size Z (rZ1 g e (rC g e bsN p w).2.1 (rC g e bsN p w).2.2).1 (rZ2 g e (rC g e bsN p w).2.1 (rC g e bsN p w).2.2).1 z.1).1) (Z := (q_size Z (rZ1 g e (rC g e bsN p w).2.1 (rC g e bsN p w).2.2).1 (rZ2 g e (rC g e bsN p w).2.1 (rC g e bsN p w).2.2).1 z.1).2) hz (by omega) (by omega)
      omega
    · have := rTx_b (g := g) (e := e) (f := (e - z.2.1).toNat + 1) (p := z.2.1) (w := z.2.2) (rf := rf) (Z := Z) hz (by omega) (by omega)
      omega
  · rw [if_neg (fun x => hz0 x.1), rTx_w2 hz0] at h
    exact absurd h hz0
theorem rText_w1 {g : Int → Int} {e p rf : Int} {Z : PZ} : (rText g e p 1 rf Z).1 = p ∧ (rText g e p 1 rf Z).2.1 = 1 := by
  unfold rText
  rw [rC_w]
  dsimp only
  rw [rZ_w, if_neg (fun x => absurd x.1 (show ¬ ((1 : Int) = 0) by decide)), rTx_w]
  exact ⟨rfl, rfl⟩
theorem rText_pw2 {g : Int → Int} {e p rf rf' : Int} {Z Z' : PZ} : (rText g e p 0 rf Z).1 = (rText g e p 0 rf' Z').1 ∧ (rText g e p 0 rf Z).2.1 = (rText g e p 0 rf' Z').2.1 := by
  have h1 := mText_pw (u := 0) (g := g) (e := e) (p := p) (rf := rf) (Z := Z) (Z' := Z)
  have h2 := mText_pw (u := 0) (g := g) (e := e) (p := p) (rf := rf') (Z := Z) (Z' := Z')
  exact ⟨h1.1.symm.trans h2.1, h1.2.symm.trans h2.2⟩
section MBK
variable {kc : List va_E} {d : Nat} {Q : Option fx_V → fx_M → Prop}
def fmb (M M' : fx_M) : Prop := ∀ b j, ¬ (b = 133 ∧ ((7 ≤ j ∧ j ≤ 23) ∨ (30 ≤ j ∧ j ≤ 33))) → b ≠ 137 → ¬ (143 ≤ b ∧ b ≤ 145) → M' b j = M b j
theorem fmb_tr {M N P : fx_M} (h1 : fmb M N) (h2 : fmb N P) : fmb M P := fun b j a1 a2 a3 => by rw [h2 b j a1 a2 a3, h1 b j a1 a2 a3]
theorem fmb_mfr {M N : fx_M} (h : mfr M N) : fmb M N := fun b j a1 a2 a3 => h b j (by omega) a2
theorem fmb_mtf {M N : fx_M} (h : mtf (-1) M N) : fmb M N := fun b j a1 a2 a3 => h b j (by omega) a2 (fun x => by have := x.1; omega)
/-- what was read of the entries from the k-th on -/
def mbE (M : fx_M) (k : Nat) (E : List BE) : Prop := ∀ (i : Nat) (x : BE), E[i]? = some x → M 143 ((k + i : Nat) : Int) = x.1 ∧ M 144 ((k + i : Nat) : Int) = x.2.1 ∧ M 145 ((k + i : Nat) : Int) = x.2.2
theorem ms_q {M N : fx_M} (h : ms_at M) (h7 : 0 ≤ N 133 7 ∧ N 133 7 ≤ M 133 3) (h3 : N 133 3 = M 133 3) (h5 : ∀ j, N 135 j = M 135 j) : ms_at N := ⟨h7.1, by rw [h3]; exact h7.2, by rw [h3]; exact h.2.2.1, fun j j0 j1 => by rw [h5 j]; exact h.2.2.2 j j0 (by omega)⟩
theorem mb_loop : ∀ (f : Nat) (M : fx_M) (k : Nat) (rf : Int) (Z : PZ) (R : Option fx_V → fx_M → Prop), ms_at M → M 133 3 ≤ 3500 → M 133 31 = k → 12 * (k : Int) ≤ M 133 7 → M 133 3 - M 133 7 < f → (∀ M1, Q (some (jI 0)) M1 → R (some (jI 0)) M1) → (∀ M1, wp kc (d + 9) 251 53 [some (jR 133)] [] M1 Q → R (some (jI 1)) M1) → ((rBk (M 135) (M 133 3) f (M 133 7) 0 rf Z).2.2.1 = 0 → ∀ M', ms_at M' → M' 133 7 = (rBk (M 135) (M 133 3) f (M 133 7) 0 rf Z).2.1 → M' 133 31 = ((k + (rBk (M 135) (M 133 3) f (M 133 7) 0 rf Z).1.length : Nat) : Int) → mbE M' k (rBk (M 135) (M 133 3) f (M 133 7) 0 rf Z).1 → (∀ b j, 143 ≤ b → b ≤ 145 → j < (k : Int) → M' b j = M b j) → M' 133 30 = M 133 30 → fmb M M' → wc kc (d + 8) 233 [jR 133, jI 6] (fx_up M' 133 33 (M' 133 7)) (fun v M1 => wp kc (d + 9) 251 153 [some (jR 133)] (v.toList ++ []) M1 Q)) → ((rBk (M 135) (M 133 3) f (M 133 7) 0 rf Z).2.2.1 = 1 → ∀ M', ms_at M' → M' 133 7 = (rBk (M 135) (M 133 3) f (M 133 7) 0 rf Z).2.1 → fmb M M' → Q (some (jI 0)) M') → wc kc (d + 8) 227 [jR 133, jI 47] M R := by
  intro f
  induction f with
  | zero =>
    intro M k rf Z R h h35 h31 h12 hf r0 r1 K1 K0
    have := ms_p h
    omega
  | succ f ih =>
    intro M k rf Z R h h35 h31 h12 hf r0 r1 K1 K0
    have hp := ms_p h
    refine sp_isByteR (d := d + 6) h (by omega) ?_
    rcases rT_i (g := M 135) (e := M 133 3) (c := 47) (p := M 133 7) with ⟨e1, l1, g1⟩ | ⟨e1, no⟩
    case inr =>
      rw [e1]
      rw [rBk_no e1 (fun x => by have := x.1; omega)] at K0
      dsimp only
      try rw [show (1 : Int) - 1 = 0 from rfl]
      refine r0 _ (K0 rfl _ (ms_md h (by omega)) (md_7 _ _ _) (fmb_mfr (mfr_md (mfr_rf M))))
    case inl =>
      rw [e1]
      dsimp only
      try rw [show (1 : Int) - 0 = 1 from rfl]
      refine r1 _ ?_
      have hS := ms_md (p := M 133 7 + 1) (v := M 133 8) h (by omega)
      have s7 : (md M (M 133 7 + 1) (M 133 8)) 133 7 = M 133 7 + 1 := md_7 _ _ _
      have s3 : (md M (M 133 7 + 1) (M 133 8)) 133 3 = M 133 3 := md_g.2
      have s5 : (md M (M 133 7 + 1) (M 133 8)) 135 = M 135 := md_g.1
      have s31 : (md M (M 133 7 + 1) (M 133 8)) 133 31 = k := by rw [md_ne (by omega), h31]
      have sf : mfr M (md M (M 133 7 + 1) (M 133 8)) := mfr_md (mfr_rf M)
      have sg : ∀ b j, ¬ (b = 133 ∧ (j = 7 ∨ j = 8)) → (md M (M 133 7 + 1) (M 133 8)) b j = M b j := fun b j hb => md_ne hb
      generalize md M (M 133 7 + 1) (M 133 8) = S at hS s7 s3 s5 s31 sf sg ⊢
      refine s251_53 (sp_scanName (d := d + 6) hS (s251_57 ?_))
      rw [s5, s3, s7]
      by_cases hl : M 133 7 + 1 < M 133 3 ∧ isL (M 135 (M 133 7 + 1))
      case neg =>
        rw [rBk_no e1 (fun x => hl x.2)] at K1
        have hr : rNm (M 135) (M 133 3) (M 133 7 + 1) 0 = (0, 1) := by
          have : rL (M 135) (M 133 3) 8 (M 133 7 + 1) = 0 := by rw [rL, if_neg hl]
          unfold rNm
          rw [if_pos rfl, this]
          rfl
        rw [hr]
        dsimp only
        try rw [show (1 : Int) - 1 = 0 from rfl]
        refine ⟨⟨by omega, by omega⟩, fun _ => ?_, fun h => absurd rfl h⟩
        generalize hA : fx_up (md (fx_up S 133 15 (M 133 7 + 1)) (M 133 7 + 1 + 0) (S 133 8)) 133 16 0 = A
        have af : ∀ b j, ¬ (b = 133 ∧ 7 ≤ j ∧ j ≤ 23) → A b j = M b j := fun b j hb => by rw [← hA, fx_up_ne (by omega), md_ne (by omega), fx_up_ne (by omega), sg b j (by omega)]
        have a7 : A 133 7 = M 133 7 + 1 := by rw [← hA, fx_up_nk (by decide), md_7]; omega
        exact K1 rfl A (ms_q h (by omega) (af 133 3 (by omega)) (fun j => af 135 j (by omega))) a7 (by rw [af 133 31 (by omega), h31]; rfl) (fun i x hx => by cases hx) (fun b j b1 b2 _ => af b j (by omega)) (af 133 30 (by omega)) (fun b j b1 b2 b3 => af b j (by omega))
      case pos =>
        obtain ⟨n, n1, n2, n3, n4⟩ := rNm_i hl.1 hl.2
        obtain ⟨q, w, hq⟩ : ∃ q w, rT (M 135) (M 133 3) 32 (M 133 7 + 1 + n) 0 = (q, w) := ⟨_, _, rfl⟩
        rw [rBk_go e1 hl n1 hq] at K1 K0
        have tb := rT_b (g := M 135) (e := M 133 3) (c := 32) (p := M 133 7 + 1 + n) (w := 0) n4
        rw [hq] at tb
        dsimp only at tb
        rw [n1]
        dsimp only
        try rw [show (1 : Int) - 0 = 1 from rfl]
        generalize hA : fx_up (md (fx_up S 133 15 (M 133 7 + 1)) (M 133 7 + 1 + n) (S 133 8)) 133 16 n = A
        have af : ∀ b j, ¬ (b = 133 ∧ 7 ≤ j ∧ j ≤ 23) → A b j = M b j := fun b j hb => by rw [← hA, fx_up_ne (by omega), md_ne (by omega), fx_up_ne (by omega), sg b j (by omega)]
        have a7 : A 133 7 = M 133 7 + 1 + n := by rw [← hA, fx_up_nk (by decide), md_7]
        have a15 : A 133 15 = M 133 7 + 1 := by rw [← hA, fx_up_nk (by decide), md_ne (by omega), fx_up_self]
        have a16 : A 133 16 = n := by rw [← hA, fx_up_self]
        have a31 : A 133 31 = k := by rw [af 133 31 (by omega), h31]
        rw [a31, a15, a16]
        refine ⟨⟨by omega, by omega⟩, fun h => by omega, fun _ => ⟨⟨by omega, by omega⟩, ⟨by omega, by omega⟩, ?_⟩⟩
        generalize hB : fx_up (fx_up A 143 (k : Int) (M 133 7 + 1)) 144 (k : Int) n = B
        have bf : ∀ b j, ¬ (b = 133 ∧ 7 ≤ j ∧ j ≤ 23) → ¬ ((b = 143 ∨ b = 144) ∧ j = (k : Int)) → B b j = M b j := fun b j hb hc => by rw [← hB, fx_up_ne (by omega), fx_up_ne (by omega), af b j hb]
        have b7 : B 133 7 = M 133 7 + 1 + n := by rw [← hB, fx_up_na (by decide), fx_up_na (by decide), a7]
        have b143 : B 143 (k : Int) = M 133 7 + 1 := by rw [← hB, fx_up_na (by decide), fx_up_self]
        have b144 : B 144 (k : Int) = n := by rw [← hB, fx_up_self]
        have bS : ms_at B := ms_q h (by omega) (bf 133 3 (by omega) (by omega)) (fun j => bf 135 j (by omega) (by omega))
        have b5 : B 135 = M 135 := by
          funext j
          exact bf 135 j (by omega) (by omega)
        have b3 : B 133 3 = M 133 3 := bf 133 3 (by omega) (by omega)
        refine sp_isByteR (d := d + 6) bS (by omega) (s251_92 ?_)
        rw [b5, b3, b7, hq]
        dsimp only
        have cS := ms_md (p := q) (v := B 133 8) bS (by omega)
        have cf : ∀ b j, ¬ (b = 133 ∧ 7 ≤ j ∧ j ≤ 23) → ¬ ((b = 143 ∨ b = 144) ∧ j = (k : Int)) → (md B q (B 133 8)) b j = M b j := fun b j hb hc => by rw [md_ne (by omega), bf b j hb hc]
        have c7 : (md B q (B 133 8)) 133 7 = q := md_7 _ _ _
        have c143 : (md B q (B 133 8)) 143 (k : Int) = M 133 7 + 1 := by rw [md_ne (by omega), b143]
        have c144 : (md B q (B 133 8)) 144 (k : Int) = n := by rw [md_ne (by omega), b144]
        generalize md B q (B 133 8) = C at cS cf c7 c143 c144 ⊢
        have c31 : C 133 31 = k := by rw [cf 133 31 (by omega) (by omega), h31]
        rcases (by omega : w = 0 ∨ w = 1) with hw | hw
        case inr =>
          subst hw
          rw [rText_w1.2, rBk_w (by decide), rText_w1.1] at K0
          exact ⟨⟨by omega, by omega⟩, fun h => absurd rfl h, fun _ => K0 rfl C cS c7 (fun b j a1 a2 a3 => cf b j (by omega) (by omega))⟩
        case inl =>
          subst hw
          rw [c31, c7]
          refine ⟨⟨by omega, by omega⟩, fun _ => ⟨⟨by omega, by omega⟩, ?_⟩, fun h => by omega⟩
          generalize hD : fx_up (fx_up C 145 (k : Int) q) 133 31 ((k : Int) + 1) = D
          have df : ∀ b j, ¬ (b = 133 ∧ ((7 ≤ j ∧ j ≤ 23) ∨ j = 31)) → ¬ ((143 ≤ b ∧ b ≤ 145) ∧ j = (k : Int)) → D b j = M b j := fun b j hb hc => by rw [← hD, fx_up_ne (by omega), fx_up_ne (by omega), cf b j (by omega) (by omega)]
          have d7 : D 133 7 = q := by rw [← hD, fx_up_nk (by decide), fx_up_na (by decide), c7]
          have d31 : D 133 31 = ((k + 1 : Nat) : Int) := by rw [← hD, fx_up_self]; omega
          have d143 : D 143 (k : Int) = M 133 7 + 1 := by rw [← hD, fx_up_na (by decide), fx_up_na (by decide), c143]
          have d144 : D 144 (k : Int) = n := by rw [← hD, fx_up_na (by decide), fx_up_na (by decide), c144]
          have d145 : D 145 (k : Int) = q := by rw [← hD, fx_up_na (by decide), fx_up_self]
          have d3 : D 133 3 = M 133 3 := df 133 3 (by omega) (by omega)
          have d5 : D 135 = M 135 := by
            funext j
            exact df 135 j (by omega) (by omega)
          have dS : ms_at D := ms_q h (by omega) d3 (fun j => df 135 j (by omega) (by omega))
          have dF : fmb M D := fun b j a1 a2 a3 => df b j (by omega) (by omega)
          have dm : ms_at (fx_up D 133 23 0) := ms_q dS (by rw [fx_up_nk (by decide)]; exact ⟨dS.1, dS.2.1⟩) (fx_up_nk (by decide)) (fun j => fx_up_na (by decide))
          have pw := mText_pw (u := -1) (g := M 135) (e := M 133 3) (p := q) (rf := rf) (Z := Z) (Z' := Z)
          refine sp_scanTextG (d := d) (Z := Z) (u := -1) (by omega) (by omega) dm ?_ ?_
          · rw [d5, d3, d7, pw.1, pw.2]
            intro hw M' m1 m2 m3
            rw [hw] at K1 K0
            have x9 := (rText_9 tb.2.1 hw).1
            have q1e : q = M 133 7 + 1 + n + 1 := by
              rcases rT_i (g := M 135) (e := M 133 3) (c := 32) (p := M 133 7 + 1 + n) with ⟨x1, _, _⟩ | ⟨x1, _⟩
              · rw [hq] at x1
                exact congrArg Prod.fst x1
              · rw [hq] at x1
                have := congrArg Prod.snd x1
                dsimp only at this
                omega
            have mF := fmb_mtf m3
            have mS := m1.1
            have m31 : M' 133 31 = ((k + 1 : Nat) : Int) := by rw [m3 133 31 (by omega) (by decide) (fun x => by have := x.1; omega), d31]
            have e3 : M' 133 3 = M 133 3 := by rw [m3 133 3 (by omega) (by decide) (fun x => by have := x.1; omega), d3]
            have e5 : M' 135 = M 135 := by
              funext j
              rw [m3 135 j (by omega) (by decide) (fun x => by have := x.1; omega), d5]
            have eC : ∀ b j, 143 ≤ b → b ≤ 145 → M' b j = D b j := fun b j b1 b2 => m3 b j (by omega) (by omega) (fun x => by have := x.1; omega)
            refine s251_125 ⟨⟨by omega, by omega⟩, fun h => by omega, fun _ => ?_⟩
            refine ih M' (k + 1) (rText (M 135) (M 133 3) q 0 rf Z).2.2.1 (rText (M 135) (M 133 3) q 0 rf Z).2.2.2 _ mS (by omega) m31 (by rw [m2]; omega) (by rw [m2, e3]; omega) (fun M1 hq => s251_134 ⟨⟨by omega, by omega⟩, fun h => absurd rfl h, fun _ => hq⟩) (fun M1 hq => s251_134 ⟨⟨by omega, by omega⟩, fun _ => hq, fun h => by omega⟩) ?_ ?_
            · rw [e3, e5, m2]
              intro b0 P q1 q2 q3 q4 q5 q6 q7
              refine K1 b0 P q1 q2 ?_ (fun i x hx => ?_) (fun b j b1 b2 b3 => ?_) ?_ (fmb_tr dF (fmb_tr mF q7))
              · rw [q3, List.length_cons, show k + 1 + (rBk (M 135) (M 133 3) f (rText (M 135) (M 133 3) q 0 rf Z).1 0 (rText (M 135) (M 133 3) q 0 rf Z).2.2.1 (rText (M 135) (M 133 3) q 0 rf Z).2.2.2).1.length = k + ((rBk (M 135) (M 133 3) f (rText (M 135) (M 133 3) q 0 rf Z).1 0 (rText (M 135) (M 133 3) q 0 rf Z).2.2.1 (rText (M 135) (M 133 3) q 0 rf Z).2.2.2).1.length + 1) by omega]
              · cases i with
                | zero =>
                  cases hx
                  dsimp only
                  rw [Nat.add_zero, q5 143 _ (by omega) (by omega) (by omega), q5 144 _ (by omega) (by omega) (by omega), q5 145 _ (by omega) (by omega) (by omega), eC 143 _ (by omega) (by omega), eC 144 _ (by omega) (by omega), eC 145 _ (by omega) (by omega)]
                  exact ⟨d143, d144, d145⟩
                | succ i =>
                  rw [List.getElem?_cons_succ] at hx
                  have := q4 i x hx
                  rw [show k + (i + 1) = k + 1 + i by omega]
                  exact this
              · rw [q5 b j b1 b2 (by omega), eC b j b1 b2, df b j (by omega) (by omega)]
              · rw [q6, m3 133 30 (by omega) (by decide) (fun x => by have := x.1; omega), df 133 30 (by omega) (by omega)]
            · rw [e3, e5, m2]
              intro b0 P q1 q2 q3
              exact K0 b0 P q1 q2 (fmb_tr dF (fmb_tr mF q3))
          · rw [d5, d3, d7, pw.1, pw.2]
            intro hw M' m1 m2 m3
            rw [hw, rBk_w (by decide)] at K0
            exact s251_125 ⟨⟨by omega, by omega⟩, fun _ => K0 rfl M' m1 m2 (fmb_tr dF (fmb_mtf m3)), fun h => absurd rfl h⟩
theorem sp_scanBook {M : fx_M} {Z : PZ} (h : ms_at M) (h35 : M 133 3 ≤ 3500) (K1 : (rN (M 135) (M 133 3) 6 (rBo (M 135) (M 133 3) (M 133 7) 0 Z).2.1 (rBo (M 135) (M 133 3) (M 133 7) 0 Z).2.2.1).2.2 = 0 → ∀ M', ms_at M' → M' 133 7 = (rN (M 135) (M 133 3) 6 (rBo (M 135) (M 133 3) (M 133 7) 0 Z).2.1 (rBo (M 135) (M 133 3) (M 133 7) 0 Z).2.2.1).2.1 → M' 133 30 = (rBs (M 135) (M 133 3) (M 133 7) 0).1 → M' 133 31 = (rBo (M 135) (M 133 3) (M 133 7) 0 Z).1.length → M' 133 32 = (rN (M 135) (M 133 3) 6 (rBo (M 135) (M 133 3) (M 133 7) 0 Z).2.1 (rBo (M 135) (M 133 3) (M 133 7) 0 Z).2.2.1).1 → M' 133 33 = (rBo (M 135) (M 133 3) (M 133 7) 0 Z).2.1 → mbE M' 0 (rBo (M 135) (M 133 3) (M 133 7) 0 Z).1 → fmb M M' → Q (some (jI 1)) M') (K0 : (rN (M 135) (M 133 3) 6 (rBo (M 135) (M 133 3) (M 133 7) 0 Z).2.1 (rBo (M 135) (M 133 3) (M 133 7) 0 Z).2.2.1).2.2 = 1 → ∀ M', ms_at M' → M' 133 7 = (rN (M 135) (M 133 3) 6 (rBo (M 135) (M 133 3) (M 133 7) 0 Z).2.1 (rBo (M 135) (M 133 3) (M 133 7) 0 Z).2.2.1).2.1 → fmb M M' → Q (some (jI 0)) M') : wc kc (d + 9) 251 [jR 133] M Q := by
  have hp := ms_p h
  have hcb := rC_b (g := M 135) (e := M 133 3) (bs := bsB) (p := M 133 7) (w := 0) (by omega)
  refine s251 (sp_scanW (bs := bsB) (pi := piB) (n := 1) (a := 56) (N := 1) swB (by omega) h (by omega) (by omega) (by omega) (fun w0 k0 k1 p0 p1 => ?_) (fun w1 => ?_))
  · unfold rBo rBs at K1
    unfold rBo at K0
    rw [w0] at K1 K0
    generalize hpi : piB.getD (rC (M 135) (M 133 3) bsB (M 133 7) 0).1.toNat 0 = v at p0 p1
    generalize rC (M 135) (M 133 3) bsB (M 133 7) 0 = c at K1 K0 hcb w0
    have hS := ms_md (p := c.2.1) (v := M 133 8) h (by omega)
    have s7 : (md M c.2.1 (M 133 8)) 133 7 = c.2.1 := md_7 _ _ _
    have s3 : (md M c.2.1 (M 133 8)) 133 3 = M 133 3 := md_g.2
    have s5 : (md M c.2.1 (M 133 8)) 135 = M 135 := md_g.1
    have sf : mfr M (md M c.2.1 (M 133 8)) := mfr_md (mfr_rf M)
    refine s251_8 ⟨⟨by omega, by omega⟩, fun h => by omega, fun _ => ?_⟩
    generalize md M c.2.1 (M 133 8) = S at hS s7 s3 s5 sf ⊢
    have hSb := ms_p hS
    have bb := rBN_b (g := S 135) (e := S 133 3) (m := 3) (p := S 133 7) (w := 0) (by omega) (by omega)
    have e10 : ((10 ^ 3 : Nat) : Int) = 1000 := rfl
    rw [← s5, ← s3, ← s7] at K1 K0
    have bad : (rBN (S 135) (S 133 3) 3 (S 133 7) 0).2.2 = 1 → ∀ M1, M1 = md S (rBN (S 135) (S 133 3) 3 (S 133 7) 0).2.1 (S 133 8) → Q (some (jI 0)) M1 := fun hw M1 e1 => by
      rw [hw, rBk_w (by decide)] at K0
      dsimp only at K0
      rw [rN_w] at K0
      subst e1
      exact K0 rfl _ (ms_md hS (by omega)) (md_7 _ _ _) (fmb_tr (fmb_mfr sf) (fmb_mfr (mfr_md (mfr_rf S))))
    refine sp_bd3 (d := d + 4) (S := fun v M1 => wp kc (d + 9) 251 24 [some (jR 133)] (v.toList ++ []) M1 Q) hS (fun hw M1 e1 => s251_17 ⟨i01.1, fun _ => bad hw M1 e1, fun h => absurd rfl h⟩) (fun M1 hz => s251_17 ⟨i01.2, fun h => by omega, fun _ => hz⟩) (fun hw M1 e1 => s251_24 ⟨i01.1, fun h => absurd rfl h, fun _ => bad hw M1 e1⟩) (fun hw => s251_24 ⟨i01.2, fun _ => ?_, fun h => by omega⟩)
    rw [hw] at K1 K0
    clear bad
    generalize rBN (S 135) (S 133 3) 3 (S 133 7) 0 = z at K1 K0 bb hw ⊢
    rw [md_8]
    generalize hT : fx_up (fx_up (md S z.2.1 z.1) 133 30 z.1) 133 31 0 = T
    have tf : ∀ b j, ¬ (b = 133 ∧ (j = 7 ∨ j = 8 ∨ j = 30 ∨ j = 31)) → T b j = S b j := fun b j hb => by rw [← hT, fx_up_ne (by omega), fx_up_ne (by omega), md_ne (by omega)]
    have t7 : T 133 7 = z.2.1 := by rw [← hT, fx_up_nk (by decide), fx_up_nk (by decide), md_7]
    have t30 : T 133 30 = z.1 := by rw [← hT, fx_up_nk (by decide), fx_up_self]
    have t31 : T 133 31 = ((0 : Nat) : Int) := by rw [← hT, fx_up_self]; rfl
    have t3 : T 133 3 = S 133 3 := tf 133 3 (by omega)
    have t5 : T 135 = S 135 := by
      funext j
      exact tf 135 j (by omega)
    have tS : ms_at T := ms_q hS (by omega) t3 (fun j => tf 135 j (by omega))
    have tF : fmb M T := fmb_tr (fmb_mfr sf) (fun b j a1 a2 a3 => tf b j (by omega))
    refine mb_loop (d := d) (Q := Q) ((S 133 3 - z.2.1).toNat + 1) T 0 0 Z _ tS (by omega) t31 (by omega) (by omega) (fun M1 hq => s251_48 ⟨⟨by omega, by omega⟩, fun h => absurd rfl h, fun _ => hq⟩) (fun M1 hq => s251_48 ⟨⟨by omega, by omega⟩, fun _ => hq, fun h => by omega⟩) ?_ ?_
    · rw [t3, t5, t7]
      intro b0 P q1 q2 q3 q4 q5 q6 q7
      rw [b0] at K1 K0
      have pb := ms_p q1
      have q33 : ms_at (fx_up P 133 33 (P 133 7)) := ms_up q1 (by decide) (by omega)
      have g5 : (fx_up P 133 33 (P 133 7)) 135 = S 135 := by
        funext j
        rw [fx_up_na (by decide), q7 135 j (by omega) (by decide) (by omega), t5]
      have g3 : (fx_up P 133 33 (P 133 7)) 133 3 = S 133 3 := by rw [fx_up_nk (by decide), q7 133 3 (by omega) (by decide) (by omega), t3]
      have g7 : (fx_up P 133 33 (P 133 7)) 133 7 = (rBk (S 135) (S 133 3) ((S 133 3 - z.2.1).toNat + 1) z.2.1 0 0 Z).2.1 := by rw [fx_up_nk (by decide), q2]
      have g33 : (fx_up P 133 33 (P 133 7)) 133 33 = (rBk (S 135) (S 133 3) ((S 133 3 - z.2.1).toNat + 1) z.2.1 0 0 Z).2.1 := by rw [fx_up_self, q2]
      have g30 : (fx_up P 133 33 (P 133 7)) 133 30 = z.1 := by rw [fx_up_nk (by decide), q6, t30]
      have g31 : (fx_up P 133 33 (P 133 7)) 133 31 = (rBk (S 135) (S 133 3) ((S 133 3 - z.2.1).toNat + 1) z.2.1 0 0 Z).1.length := by rw [fx_up_nk (by decide), q3, Nat.zero_add]
      have gE : ∀ b j, 143 ≤ b → b ≤ 145 → (fx_up P 133 33 (P 133 7)) b j = P b j := fun b j b1 b2 => fx_up_na (by omega)
      have gF : fmb M (fx_up P 133 33 (P 133 7)) := fmb_tr tF (fmb_tr q7 (fun b j a1 a2 a3 => fx_up_ne (by omega)))
      generalize fx_up P 133 33 (P 133 7) = G at q33 g5 g3 g7 g33 g30 g31 gE gF ⊢
      have gb := ms_p q33
      rw [g7, g3] at gb
      refine sp_scanDigits (d := d + 5) (m := 6) q33 (by omega) (s251_153 ?_)
      rw [g5, g3, g7]
      have nb := rN_b (g := S 135) (e := S 133 3) (m := 6) (p := (rBk (S 135) (S 133 3) ((S 133 3 - z.2.1).toNat + 1) z.2.1 0 0 Z).2.1) (w := 0) (by omega) gb.2.1
      generalize rBk (S 135) (S 133 3) ((S 133 3 - z.2.1).toNat + 1) z.2.1 0 0 Z = B at K1 K0 q4 g33 g31 gb nb ⊢
      generalize rN (S 135) (S 133 3) 6 B.2.1 0 = y at K1 K0 nb ⊢
      rcases (by omega : y.2.2 = 0 ∨ y.2.2 = 1) with hy | hy
      · rw [hy, if_pos rfl]
        refine ⟨⟨by omega, by omega⟩, fun _ => ?_, fun h => by omega⟩
        rw [md_8]
        have xf : ∀ b j, ¬ (b = 133 ∧ (j = 7 ∨ j = 8 ∨ j = 32)) → fx_up (md G y.2.1 y.1) 133 32 y.1 b j = G b j := fun b j hb => by rw [fx_up_ne (by omega), md_ne (by omega)]
        refine K1 hy _ (ms_up (ms_md q33 (by omega)) (by decide) (by omega)) (by rw [fx_up_nk (by decide), md_7]) (by rw [xf 133 30 (by omega), g30]) (by rw [xf 133 31 (by omega), g31]) (fx_up_self ..) (by rw [xf 133 33 (by omega), g33]) (fun i x hx => ?_) (fmb_tr gF (fun b j a1 a2 a3 => xf b j (by omega)))
        have := q4 i x hx
        rw [xf 143 _ (by omega), xf 144 _ (by omega), xf 145 _ (by omega), gE 143 _ (by omega) (by omega), gE 144 _ (by omega) (by omega), gE 145 _ (by omega) (by omega)]
        exact this
      · rw [hy]
        exact ⟨⟨by omega, by omega⟩, fun h => absurd rfl h, fun _ => K0 hy _ (ms_md q33 (by omega)) (md_7 _ _ _) (fmb_tr gF (fmb_mfr (mfr_md (mfr_rf G))))⟩
    · rw [t3, t5, t7]
      intro b0 P q1 q2 q3
      rw [b0] at K0
      rw [rN_w] at K0
      exact K0 rfl P q1 q2 (fmb_tr tF q3)
  · unfold rBo at K0
    rw [w1, rBN_w] at K0
    dsimp only at K0
    rw [rBk_w (by decide)] at K0
    dsimp only at K0
    rw [rN_w] at K0
    generalize rC (M 135) (M 133 3) bsB (M 133 7) 0 = c at K0 hcb w1
    exact s251_8 ⟨⟨by omega, by omega⟩, fun _ => K0 rfl _ (ms_md h (by omega)) (md_7 _ _ _) (fmb_mfr (mfr_md (mfr_rf M))), fun h => by omega⟩
end MBK
