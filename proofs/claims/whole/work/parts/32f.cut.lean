/-! What was written into the book last, and cutting it off; the list of names in the reference. -/
def bUp (g : Int → Int) (a v : Int) : Int → Int := fun j => if j = a then v else g j
/-- the book with these places put back -/
def bCut (g : Int → Int) (W : List (Int × Int)) : Int → Int := W.foldl (fun h x => bUp h x.1 x.2) g
def lg_ok (W : List (Int × Int)) : Prop := W.length ≤ 1024 ∧ ∀ x ∈ W, 0 ≤ x.1 ∧ x.1 < 1024 ∧ 0 ≤ x.2 ∧ x.2 ≤ 255
/-- the class's log: places, and what stood there -/
def clg (M : fx_M) (W : List (Int × Int)) : Prop := M 125 2 = W.length ∧ ∀ (i : Nat) (x : Int × Int), W[i]? = some x → M 127 (i : Int) = x.1 ∧ M 128 (i : Int) = x.2
/-- the i-th place written, as the reference tells it -/
def wrP (f n r i : Int) : Int := if 32 * n ≤ i then (if i - 32 * n < 32 then 32 * r + (i - 32 * n) else 0) else 32 * f + i
def mlg (M : fx_M) (W : List (Int × Int)) : Prop := M 133 102 = W.length ∧ (0 ≤ M 133 99 ∧ M 133 99 ≤ 32) ∧ (0 ≤ M 133 100 ∧ M 133 100 ≤ 32) ∧ (0 ≤ M 133 101 ∧ M 133 101 ≤ 32) ∧ ∀ (i : Nat) (x : Int × Int), W[i]? = some x → wrP (M 133 99) (M 133 100) (M 133 101) (i : Int) = x.1 ∧ M 189 x.1 = x.2
theorem up126 {M : fx_M} {a v : Int} : (fx_up M 126 a v) 126 = bUp (M 126) a v := by
  funext j
  unfold bUp
  by_cases h : j = a
  · rw [h, fx_up_self, if_pos rfl]
  · rw [fx_up_nk h, if_neg h]
theorem bUp_b {g : Int → Int} (h : bk_b g) {a v : Int} (hv : 0 ≤ v ∧ v ≤ 255) : bk_b (bUp g a v) := fun j j0 j1 => by
  unfold bUp
  split
  · exact hv
  · exact h j j0 j1
theorem bCut_b : ∀ {W : List (Int × Int)} {g : Int → Int}, bk_b g → (∀ x ∈ W, 0 ≤ x.2 ∧ x.2 ≤ 255) → bk_b (bCut g W)
  | [], _, h, _ => h
  | x :: W, g, h, hW => bCut_b (W := W) (bUp_b h (hW x (List.mem_cons_self ..))) (fun y hy => hW y (List.mem_cons_of_mem _ hy))
theorem mbk_up {M : fx_M} {g : Int → Int} (h : mbk M g) {a v : Int} : mbk (fx_up M 188 a v) (bUp g a v) := fun j j0 j1 => by
  unfold bUp
  by_cases e : j = a
  · rw [e, fx_up_self, if_pos rfl]
  · rw [fx_up_nk e, if_neg e]
    exact h j j0 j1
section BCT
variable {kc : List va_E} {d : Nat} {Q : Option fx_V → fx_M → Prop} {g : Int → Int} {W : List (Int × Int)}
theorem sp_cut {M : fx_M} (hg : M 126 = g) (hW : clg M W) (hk : lg_ok W) (h1 : M 125 1 = 0 ∨ M 125 1 = 1) {n : Int} (hn : 0 ≤ n ∧ n < 1000) (K0 : ¬ (M 125 1 = 1 ∧ W ≠ [] ∧ n ≤ W.length) → Q (some (jI 0)) M) (K1 : (M 125 1 = 1 ∧ W ≠ [] ∧ n ≤ W.length) → ∀ M', M' 126 = bCut g (W.drop n.toNat) → M' 125 1 = 0 → (∀ b j, b ≠ 126 → ¬ (b = 125 ∧ j = 1) → M' b j = M b j) → Q (some (jI 1)) M') : wc kc (d + 1) 198 [jR 125, jI n] M Q := by
  have hl := hk.1
  have z : (∀ M', M' 126 = bCut g (W.drop n.toNat) → M' 125 1 = 0 → (∀ b j, b ≠ 126 → ¬ (b = 125 ∧ j = 1) → M' b j = M b j) → Q (some (jI 1)) M') → ∀ (u i : Nat) (N : fx_M), i + u = W.length → bCut (N 126) (W.drop i) = bCut g (W.drop n.toNat) → (∀ b j, b ≠ 126 → N b j = M b j) → wp kc (d + 1) 198 30 [some (jR 125), none, some (jI i)] [] N Q := by
    intro KK u
    induction u with
    | zero =>
      intro i N hi hc fR
      rw [List.drop_eq_nil_of_le (by omega)] at hc
      refine s198_30 ?_
      rw [fR 125 2 (by decide), hW.1]
      refine ⟨⟨⟨by omega, by omega⟩, ⟨by omega, by omega⟩⟩, fun _ => KK _ ?_ (fx_up_self ..) (fun b j a1 a2 => by rw [fx_up_ne a2, fR b j a1]), fun h => by omega⟩
      rw [← hc]
      funext j
      exact fx_up_na (by decide)
    | succ u ih =>
      intro i N hi hc fR
      have hil : i < W.length := by omega
      have hx := hW.2 i _ (List.getElem?_eq_getElem hil)
      have hxo := hk.2 _ (List.getElem_mem hil)
      refine s198_30 ?_
      rw [fR 125 2 (by decide), hW.1, fR 127 _ (by decide), fR 128 _ (by decide), hx.1, hx.2]
      have nx := ih (i + 1) (fx_up N 126 W[i].1 W[i].2) (by omega) (by rw [up126, ← hc, List.drop_eq_getElem_cons hil]; rfl) (fun b j hb => by rw [fx_up_na hb]; exact fR b j hb)
      rw [show ((i + 1 : Nat) : Int) = (i : Int) + 1 by omega] at nx
      exact ⟨⟨⟨by omega, by omega⟩, ⟨by omega, by omega⟩⟩, fun h => by omega, fun _ => ⟨⟨by omega, by omega⟩, ⟨by omega, by omega⟩, ⟨⟨by omega, by omega⟩, ⟨by omega, by omega⟩⟩, nx⟩⟩
  refine s198 ?_
  rw [hW.1]
  refine ⟨⟨by omega, by omega⟩, fun h => K0 (fun x => by have := x.1; omega), fun ho => ⟨⟨by omega, by omega⟩, fun h => K0 (fun x => x.2.1 (List.length_eq_zero_iff.mp (by omega))), fun hne => ⟨⟨⟨by omega, by omega⟩, ⟨by omega, by omega⟩⟩, fun hle => ⟨⟨by omega, by omega⟩, ?_⟩, fun hgt => K0 (fun x => by have := x.2.2; omega)⟩⟩⟩
  rw [if_neg (by omega)]
  have nx := z (K1 ⟨by omega, fun e => hne (by rw [e]; rfl), hle⟩) (W.length - n.toNat) n.toNat M (by omega) (by rw [hg]) (fun _ _ _ => rfl)
  rw [show ((n.toNat : Nat) : Int) = n by omega] at nx
  exact nx
theorem sp_written {M : fx_M} (hW : mlg M W) {i : Int} (hi : 0 ≤ i ∧ i < 2000) (K : Q (some (jI (wrP (M 133 99) (M 133 100) (M 133 101) i))) M) : wc kc (d + 1) 359 [jR 133, jI i] M Q := by
  obtain ⟨_, b1, b2, b3, _⟩ := hW
  unfold wrP at K
  refine s359 ⟨⟨⟨by omega, by omega⟩, ⟨by omega, by omega⟩⟩, fun hle => ⟨⟨by omega, by omega⟩, ?_⟩, fun hlt => ?_⟩
  · rw [if_pos hle] at K
    exact K
  · rw [if_neg (by omega)] at K
    exact K
theorem sp_sayCut {M : fx_M} (hg : mbk M g) (hW : mlg M W) (hk : lg_ok W) (h1 : M 133 96 = 0 ∨ M 133 96 = 1) (hO : m_ok M) {n : Int} (hn : 0 ≤ n ∧ n < 1000) (K0 : ¬ (M 133 96 = 1 ∧ W ≠ [] ∧ n ≤ W.length) → Q none (m_app M (t_no (wrd 41)))) (K1 : (M 133 96 = 1 ∧ W ≠ [] ∧ n ≤ W.length) → ∀ M', mbk M' (bCut g (W.drop n.toNat)) → M' 133 96 = 0 → (∀ b j, b ≠ 188 → ¬ (b = 133 ∧ j = 96) → M' b j = m_app M t_ok b j) → Q none M') : wc kc (d + 6) 358 [jR 133, jI n] M Q := by
  have hl := hk.1
  have z : (∀ M', mbk M' (bCut g (W.drop n.toNat)) → M' 133 96 = 0 → (∀ b j, b ≠ 188 → ¬ (b = 133 ∧ j = 96) → M' b j = m_app M t_ok b j) → Q none M') → ∀ (u i : Nat) (h : Int → Int) (N : fx_M), i + u = W.length → mbk N h → bCut h (W.drop i) = bCut g (W.drop n.toNat) → (∀ b j, b ≠ 188 → N b j = M b j) → wp kc (d + 6) 358 34 [some (jR 133), none, some (jI i)] [] N Q := by
    intro KK u
    induction u with
    | zero =>
      intro i h N hi hm hc fR
      rw [List.drop_eq_nil_of_le (by omega)] at hc
      refine s358_34 ?_
      rw [fR 133 102 (by decide), hW.1]
      refine ⟨⟨⟨by omega, by omega⟩, ⟨by omega, by omega⟩⟩, fun _ => sp_sayOk (d := d + 1) (m_okq hO (by rw [fx_up_nk (by decide), fR 133 5 (by decide)])) (s358_77 (KK _ ?_ ?_ (fun b j a1 a2 => m_app_fq (by rw [fx_up_nk (by decide), fR 133 5 (by decide)]) (fun a => by rw [fx_up_na (by decide), fR 136 a (by decide)]) (by rw [fx_up_ne a2, fR b j a1])))), fun h => by omega⟩
      · rw [← hc]
        exact mbk_fr hm (fun j => by rw [m_app_ne (by omega) (by decide), fx_up_na (by decide)])
      · rw [m_app_ne (by omega) (by decide), fx_up_self]
    | succ u ih =>
      intro i h N hi hm hc fR
      have hil : i < W.length := by omega
      have hx := hW.2.2.2.2 i _ (List.getElem?_eq_getElem hil)
      have hxo := hk.2 _ (List.getElem_mem hil)
      have hWN : mlg N W := by
        obtain ⟨w0, w1, w2, w3, w4⟩ := hW
        unfold mlg
        rw [fR 133 102 (by decide), fR 133 99 (by decide), fR 133 100 (by decide), fR 133 101 (by decide)]
        exact ⟨w0, w1, w2, w3, fun j x hx => ⟨(w4 j x hx).1, by rw [fR 189 _ (by decide)]; exact (w4 j x hx).2⟩⟩
      have hxN := hWN.2.2.2.2 i _ (List.getElem?_eq_getElem hil)
      have nx := ih (i + 1) (bUp h W[i].1 W[i].2) (fx_up N 188 W[i].1 W[i].2) (by omega) (mbk_up hm) (by rw [← hc, List.drop_eq_getElem_cons hil]; rfl) (fun b j hb => by rw [fx_up_na hb]; exact fR b j hb)
      rw [show ((i + 1 : Nat) : Int) = (i : Int) + 1 by omega] at nx
      refine s358_34 ?_
      rw [fR 133 102 (by decide), hW.1]
      refine ⟨⟨⟨by omega, by omega⟩, ⟨by omega, by omega⟩⟩, fun h => by omega, fun _ => sp_written (d := d + 4) hWN ⟨by omega, by omega⟩ (s358_51 (sp_written (d := d + 4) hWN ⟨by omega, by omega⟩ (s358_60 ?_)))⟩
      rw [hxN.1, hxN.2]
      exact ⟨⟨by omega, by omega⟩, ⟨by omega, by omega⟩, nx⟩
  have no : ¬ (M 133 96 = 1 ∧ W ≠ [] ∧ n ≤ W.length) → wc kc (d + 5) 221 [jI 41] M (fun v M1 => wp kc (d + 6) 358 28 [none, none, none] (v.toList ++ [jR 133]) M1 Q) := fun hx => sp_word (d := d + 4) (by omega) (by omega) (s358_28 (sp_sayNo (d := d + 1) (by unfold w_ok; decide +kernel) hO (s358_31 (K0 hx))))
  refine s358 ?_
  rw [hW.1]
  refine ⟨⟨by omega, by omega⟩, fun h => no (fun x => by have := x.1; omega), fun ho => ⟨⟨by omega, by omega⟩, fun h => no (fun x => x.2.1 (List.length_eq_zero_iff.mp (by omega))), fun hne => ⟨⟨⟨by omega, by omega⟩, ⟨by omega, by omega⟩⟩, fun hle => ?_, fun hgt => no (fun x => by have := x.2.2; omega)⟩⟩⟩
  have nx := z (K1 ⟨by omega, fun e => hne (by rw [e]; rfl), hle⟩) (W.length - n.toNat) n.toNat g M (by omega) hg rfl (fun _ _ _ => rfl)
  rw [show ((n.toNat : Nat) : Int) = n by omega] at nx
  exact nx
/-- the names, each with a blank behind it, and a dot -/
def tLst (g : Int → Int) : Nat → List Int
  | 0 => []
  | n + 1 => tLst g n ++ (bNm g (n : Int) ++ [32])
theorem sp_sayList {M : fx_M} (hg : mbk M g) (hb : bk_b g) (hr : bRg g) (hH : bHs g) (hO : m_ok M) (K : Q none (m_app M (tLst g (g (bRt g)).toNat ++ [46]))) : wc kc (d + 4) 374 [jR 133] M Q := by
  have hrb := bRt_b (g := g)
  have h0 := hb (bRt g) (by omega) (by omega)
  have h15 := hH.1
  have z : ∀ (u i : Nat), (i : Int) + u = g (bRt g) → wp kc (d + 4) 374 2 [some (jR 133), some (jI i)] [] (m_app M (tLst g i)) Q := by
    intro u
    induction u with
    | zero =>
      intro i hi
      rw [show (g (bRt g)).toNat = i by omega, ← m_app_app] at K
      exact s374_2 (sp_mentries (d := d + 1) (mbk_fr hg (fun j => m_app_ne (by omega) (by decide))) hr (s374_7 ⟨⟨⟨by omega, by omega⟩, ⟨by omega, by omega⟩⟩, fun _ => sp_sayByte (d := d + 2) (m_ok_app hO) (s374_27 K), fun h => by omega⟩))
    | succ u ih =>
      intro i hi
      have nx := ih (i + 1) (by omega)
      rw [tLst, ← m_app_app, show ((i + 1 : Nat) : Int) = (i : Int) + 1 by omega] at nx
      have hgN : mbk (m_app M (tLst g i)) g := mbk_fr hg (fun j => m_app_ne (by omega) (by decide))
      exact s374_2 (sp_mentries (d := d + 1) hgN hr (s374_7 ⟨⟨⟨by omega, by omega⟩, ⟨by omega, by omega⟩⟩, fun h => by omega, fun _ => sp_sayEntryName hgN hr (m_ok_app hO) (hH.2 i (by omega) (by omega)) (by omega) (s374_15 nx)⟩))
  exact s374 (z (g (bRt g)).toNat 0 (by omega))
end BCT
