/-! Entries by their names, and the names written, on both sides. -/
def bNm (g : Int → Int) (e : Int) : List Int := (List.range (g (32 * bCh g e)).toNat).map (fun i : Nat => g (32 * bCh g e + 1 + (i : Int)))
/-- the first entry of a name, or -1 -/
def bFd (g : Int → Int) (nm : List Int) : Nat → Nat → Int
  | 0, _ => -1
  | u + 1, i => if bNm g (i : Int) = nm then (i : Int) else bFd g nm u (i + 1)
def bHs (g : Int → Int) : Prop := g (bRt g) ≤ 15 ∧ ∀ e : Int, 0 ≤ e → e < g (bRt g) → bHd g e
theorem bNm_get {g : Int → Int} {e : Int} {n : Nat} : (bNm g e)[n]? = if n < (g (32 * bCh g e)).toNat then some (g (32 * bCh g e + 1 + (n : Int))) else none := by
  unfold bNm
  by_cases h : n < (g (32 * bCh g e)).toNat
  · rw [if_pos h, List.getElem?_map, List.getElem?_range h]
    rfl
  · rw [if_neg h]
    exact List.getElem?_eq_none (by rw [List.length_map, List.length_range]; omega)
theorem bNm_len {g : Int → Int} {e : Int} : (bNm g e).length = (g (32 * bCh g e)).toNat := by
  unfold bNm
  rw [List.length_map, List.length_range]
theorem bNm_iff {g : Int → Int} {e : Int} {nm : List Int} (h0 : 0 ≤ g (32 * bCh g e)) : bNm g e = nm ↔ (g (32 * bCh g e) = nm.length ∧ ∀ n : Nat, n < nm.length → nm[n]? = some (g (32 * bCh g e + 1 + (n : Int)))) := by
  constructor
  · intro h
    have hl := bNm_len (g := g) (e := e)
    rw [h] at hl
    refine ⟨by omega, fun n hn => ?_⟩
    rw [← h, bNm_get, if_pos (by omega)]
  · intro ⟨h1, h2⟩
    refine List.ext_getElem? (fun n => ?_)
    rw [bNm_get]
    by_cases hn : n < nm.length
    · rw [if_pos (by omega), h2 n hn]
    · rw [if_neg (by omega), List.getElem?_eq_none (by omega)]
theorem bFd_b {g : Int → Int} {nm : List Int} : ∀ {u i : Nat}, bFd g nm u i = -1 ∨ ((i : Int) ≤ bFd g nm u i ∧ bFd g nm u i < i + u)
  | 0, i => Or.inl rfl
  | u + 1, i => by
    rw [bFd]
    split
    · right
      omega
    · rcases bFd_b (g := g) (nm := nm) (u := u) (i := i + 1) with h | h
      · exact Or.inl h
      · right
        omega
theorem hd_31 {g : Int → Int} {e : Int} (h : bHd g e) : bCh g e ≤ 31 := by
  obtain ⟨h3, h1, h32, _⟩ := h
  omega
section BNM
variable {kc : List va_E} {d : Nat} {Q : Option fx_V → fx_M → Prop} {M : fx_M} {g : Int → Int} {nm : List Int}
theorem sp_bplace {e : Int} (hg : M 126 = g) (hb : bk_b g) (he : 0 ≤ e ∧ e < 15) (h31 : bCh g e ≤ 31) (K : Q (some (jI (32 * bCh g e))) M) : wc kc (d + 2) 428 [jR 125, jI e] M Q := by
  have h := bRt_b (g := g)
  have hc := hb (bRt g + 1 + 2 * e) (by omega) (by omega)
  have e1 : bCh g e = g (bRt g + 1 + 2 * e) := rfl
  rw [e1] at h31 K
  refine s428 (sp_root hg hb (s428_10 ?_))
  rw [hg, if_neg (show ¬ 31 < g (bRt g + 1 + 2 * e) by omega)]
  exact ⟨⟨by omega, by omega⟩, ⟨by omega, by omega⟩, K⟩
theorem eo_cmp (hn : snm M nm) (hnm : nm_ok nm) (hg : M 126 = g) (hb : bk_b g) {i : Nat} (hh : bHd g i) (h15 : i < 15) (K1 : bNm g i = nm → Q (some (jI i)) M) (K0 : bNm g i ≠ nm → wp kc (d + 3) 178 3 [some (jR 125), some (jR 2), some (jI (M 7 6)), some (jI (M 7 7)), some (jI ((i : Int) + 1)), none, none] [] M Q) : ∀ (u j : Nat), j + u = nm.length → (∀ n : Nat, n < j → nm[n]? = some (g (32 * bCh g i + 1 + (n : Int)))) → wp kc (d + 3) 178 23 [some (jR 125), some (jR 2), some (jI (M 7 6)), some (jI (M 7 7)), some (jI i), some (jI (32 * bCh g i)), some (jI j)] [] M Q := by
  obtain ⟨h3, h1, h32, hn1, hn8, hlt⟩ := hh
  obtain ⟨q1, q2, q3⟩ := hnm
  obtain ⟨n0, n1, n2, n3, n4⟩ := hn
  have h0 := hb (32 * bCh g i) (by omega) (by omega)
  intro u
  induction u with
  | zero =>
    intro j hj heq
    refine s178_23 ?_
    rw [n1] at K0 ⊢
    rw [hg]
    refine ⟨⟨⟨by omega, by omega⟩, ⟨by omega, by omega⟩⟩, fun _ => ⟨⟨⟨by omega, by omega⟩, ⟨by omega, by omega⟩⟩, fun h => by omega, fun _ => ⟨⟨by omega, by omega⟩, ⟨⟨by omega, by omega⟩, ⟨by omega, by omega⟩⟩, fun hne => K0 (fun x => hne ((bNm_iff h0.1).mp x).1), fun he => K1 ((bNm_iff h0.1).mpr ⟨he, fun n hn => heq n (by omega)⟩)⟩⟩, fun h => by omega⟩
  | succ u ih =>
    intro j hj heq
    have hjn : j < nm.length := by omega
    have hnj := List.getElem?_eq_getElem hjn
    have e2 := n4 j _ hnj
    have b2 := q3 _ (List.getElem_mem hjn)
    have b1 := hb (32 * bCh g i + 1 + j) (by omega) (by omega)
    refine s178_23 ?_
    rw [hg, e2]
    rw [n1] at K0 ih ⊢
    refine ⟨⟨⟨by omega, by omega⟩, ⟨by omega, by omega⟩⟩, fun h => by omega, fun _ => ⟨⟨by omega, by omega⟩, ⟨by omega, by omega⟩, ⟨⟨by omega, by omega⟩, ⟨by omega, by omega⟩⟩, fun hne => ⟨⟨⟨by omega, by omega⟩, ⟨by omega, by omega⟩⟩, fun _ => K0 (fun x => hne ?_), fun h => by omega⟩, fun he => ?_⟩⟩
    · have := ((bNm_iff h0.1).mp x).2 j hjn
      rw [hnj] at this
      exact (Option.some.inj this).symm
    · have nx := ih (j + 1) (by omega) (fun n hn2 => by
        by_cases e : n = j
        · subst e
          rw [hnj, he]
        · exact heq n (by omega))
      rw [show ((j + 1 : Nat) : Int) = (j : Int) + 1 by omega] at nx
      exact nx
theorem sp_entryOf (hn : snm M nm) (hnm : nm_ok nm) (hg : M 126 = g) (hb : bk_b g) (hH : bHs g) (K : Q (some (jI (bFd g nm (g (bRt g)).toNat 0))) M) : wc kc (d + 3) 178 [jR 125, jR 2, jI (M 7 6), jI (M 7 7)] M Q := by
  have hr := bRt_b (g := g)
  have h0 := hb (bRt g) (by omega) (by omega)
  have h15 := hH.1
  have eN : bNE g = g (bRt g) := by
    unfold bNE
    rw [if_neg (by omega)]
  have z : ∀ (u i : Nat), (i : Int) + u = g (bRt g) → bFd g nm u i = bFd g nm (g (bRt g)).toNat 0 → wp kc (d + 3) 178 3 [some (jR 125), some (jR 2), some (jI (M 7 6)), some (jI (M 7 7)), some (jI i), none, none] [] M Q := by
    intro u
    induction u with
    | zero =>
      intro i hi e
      rw [bFd] at e
      refine s178_3 (sp_entries hg hb (s178_9 ?_))
      rw [eN]
      rw [← e] at K
      exact ⟨⟨⟨by omega, by omega⟩, ⟨by omega, by omega⟩⟩, fun _ => K, fun h => by omega⟩
    | succ u ih =>
      intro i hi e
      rw [bFd] at e
      refine s178_3 (sp_entries hg hb (s178_9 ?_))
      rw [eN]
      refine ⟨⟨⟨by omega, by omega⟩, ⟨by omega, by omega⟩⟩, fun h => by omega, fun _ => sp_bplace hg hb ⟨by omega, by omega⟩ (hd_31 (hH.2 i (by omega) (by omega))) (s178_18 (eo_cmp hn hnm hg hb (hH.2 i (by omega) (by omega)) (by omega) (fun e1 => ?_) (fun e1 => ?_) nm.length 0 (by omega) (fun n hn2 => by omega)))⟩
      · rw [if_pos e1] at e
        rw [← e] at K
        exact K
      · rw [if_neg e1] at e
        have nx := ih (i + 1) (by omega) e
        rw [show ((i + 1 : Nat) : Int) = (i : Int) + 1 by omega] at nx
        exact nx
  exact s178 (z (g (bRt g)).toNat 0 (by omega) rfl)
theorem sp_isNamed (hn : mnm M nm) (hnm : nm_ok nm) (hg : mbk M g) (hb : bk_b g) (hr : bRg g) {i : Nat} (hh : bHd g i) (h15 : i < 15) (K1 : bNm g i = nm → Q (some (jI 1)) M) (K0 : bNm g i ≠ nm → Q (some (jI 0)) M) : wc kc (d + 3) 367 [jR 133, jI i] M Q := by
  obtain ⟨h3, h1, h32, hn1, hn8, hlt⟩ := hh
  obtain ⟨q1, q2, q3⟩ := hnm
  obtain ⟨n1, n2, n3, n4⟩ := hn
  have h0 := hb (32 * bCh g i) (by omega) (by omega)
  have z : g (32 * bCh g i) = nm.length → ∀ (u j : Nat), j + u = nm.length → (∀ n : Nat, n < j → nm[n]? = some (g (32 * bCh g i + 1 + (n : Int)))) → wp kc (d + 3) 367 26 [some (jR 133), none, some (jI (32 * bCh g i)), some (jI j)] [] M Q := by
    intro hl u
    induction u with
    | zero =>
      intro j hj heq
      refine s367_26 ?_
      rw [n1]
      exact ⟨⟨⟨by omega, by omega⟩, ⟨by omega, by omega⟩⟩, fun _ => K1 ((bNm_iff h0.1).mpr ⟨hl, fun n hn => heq n (by omega)⟩), fun h => by omega⟩
    | succ u ih =>
      intro j hj heq
      have hjn : j < nm.length := by omega
      have hnj := List.getElem?_eq_getElem hjn
      have e2 := n4 j _ hnj
      have b2 := q3 _ (List.getElem_mem hjn)
      have b1 := hb (32 * bCh g i + 1 + j) (by omega) (by omega)
      refine s367_26 ?_
      rw [n1, hg (32 * bCh g i + 1 + j) (by omega) (by omega), e2]
      refine ⟨⟨⟨by omega, by omega⟩, ⟨by omega, by omega⟩⟩, fun h => by omega, fun _ => ⟨⟨by omega, by omega⟩, ⟨by omega, by omega⟩, ⟨⟨by omega, by omega⟩, ⟨by omega, by omega⟩⟩, fun he => ?_, fun hne => K0 (fun x => hne ?_)⟩⟩
      · have nx := ih (j + 1) (by omega) (fun n hn2 => by
          by_cases e : n = j
          · subst e
            rw [hnj, he]
          · exact heq n (by omega))
        rw [show ((j + 1 : Nat) : Int) = (j : Int) + 1 by omega] at nx
        exact nx
      · have := ((bNm_iff h0.1).mp x).2 j hjn
        rw [hnj] at this
        exact (Option.some.inj this).symm
  refine s367 (sp_mfirst hg hr ⟨by omega, by omega⟩ (s367_7 ?_))
  rw [n1, hg (32 * bCh g i) (by omega) (by omega)]
  exact ⟨⟨by omega, by omega⟩, ⟨⟨by omega, by omega⟩, ⟨by omega, by omega⟩⟩, fun he => z he nm.length 0 (by omega) (fun n hn => by omega), fun hne => K0 (fun x => hne ((bNm_iff h0.1).mp x).1)⟩
theorem sp_find (hn : mnm M nm) (hnm : nm_ok nm) (hg : mbk M g) (hb : bk_b g) (hr : bRg g) (hH : bHs g) (K : Q (some (jI (bFd g nm (g (bRt g)).toNat 0))) M) : wc kc (d + 4) 366 [jR 133] M Q := by
  have hrb := bRt_b (g := g)
  have h0 := hb (bRt g) (by omega) (by omega)
  have h15 := hH.1
  have z : ∀ (u i : Nat), (i : Int) + u = g (bRt g) → bFd g nm u i = bFd g nm (g (bRt g)).toNat 0 → wp kc (d + 4) 366 2 [some (jR 133), some (jI i)] [] M Q := by
    intro u
    induction u with
    | zero =>
      intro i hi e
      rw [bFd] at e
      rw [← e] at K
      exact s366_2 (sp_mentries (d := d + 1) hg hr (s366_7 ⟨⟨⟨by omega, by omega⟩, ⟨by omega, by omega⟩⟩, fun _ => K, fun h => by omega⟩))
    | succ u ih =>
      intro i hi e
      rw [bFd] at e
      refine s366_2 (sp_mentries (d := d + 1) hg hr (s366_7 ⟨⟨⟨by omega, by omega⟩, ⟨by omega, by omega⟩⟩, fun h => by omega, fun _ => sp_isNamed hn hnm hg hb hr (hH.2 i (by omega) (by omega)) (by omega) (fun e1 => s366_15 ⟨⟨by omega, by omega⟩, fun h => by omega, fun _ => ?_⟩) (fun e1 => s366_15 ⟨⟨by omega, by omega⟩, fun _ => ?_, fun h => absurd rfl h⟩)⟩))
      · rw [if_pos e1] at e
        rw [← e] at K
        exact K
      · rw [if_neg e1] at e
        have nx := ih (i + 1) (by omega) e
        rw [show ((i + 1 : Nat) : Int) = (i : Int) + 1 by omega] at nx
        exact nx
  exact s366 (z (g (bRt g)).toNat 0 (by omega) rfl)
theorem bNm_take {e : Int} {j : Nat} (h : j < (bNm g e).length) : (bNm g e).take (j + 1) = (bNm g e).take j ++ [g (32 * bCh g e + 1 + (j : Int))] := by
  rw [List.take_succ_eq_append_getElem h]
  have e1 := bNm_get (g := g) (e := e) (n := j)
  rw [bNm_len] at h
  rw [if_pos h, List.getElem?_eq_getElem (by rw [bNm_len]; exact h)] at e1
  rw [Option.some.inj e1]
theorem sp_writeName (hg : M 126 = g) (hb : bk_b g) (hO : o_ok M 3) {i : Nat} (hh : bHd g i) (h15 : i < 15) (K : Q none (o_app M 3 (bNm g i ++ [32]))) : wc kc (d + 3) 197 [jR 125, jI i, jR 3] M Q := by
  obtain ⟨h3, h1, h32, hn1, hn8, hlt⟩ := hh
  have hl := bNm_len (g := g) (e := (i : Int))
  have z : ∀ (u j : Nat), j + u = (bNm g i).length → wp kc (d + 3) 197 9 [some (jR 125), none, some (jR 3), some (jI (32 * bCh g i)), some (jI ((j : Int) + 1))] [] (o_app M 3 ((bNm g i).take j)) Q := by
    intro u
    induction u with
    | zero =>
      intro j hj
      rw [List.take_of_length_le (by omega)]
      refine s197_9 out3 ?_
      rw [o_app_ne (by decide) (by decide), hg]
      refine ⟨⟨by omega, by omega⟩, ⟨⟨by omega, by omega⟩, ⟨by omega, by omega⟩⟩, fun _ => sp_put (d := d + 1) out3 (o_ok_app hO) ⟨by omega, by omega⟩ (s197_52 out3 ?_), fun h => by omega⟩
      rw [← o_app_app] at K
      exact K
    | succ u ih =>
      intro j hj
      have hx := hlt ((j : Int) + 1) (by omega) (by omega)
      have nx := ih (j + 1) (by omega)
      rw [bNm_take (by omega), ← o_app_app, show ((j + 1 : Nat) : Int) + 1 = (j : Int) + 1 + 1 by omega] at nx
      refine s197_9 out3 ?_
      rw [o_app_ne (by decide) (by decide), o_app_ne (by decide) (by decide), hg, show 32 * bCh g i + ((j : Int) + 1) = 32 * bCh g i + 1 + (j : Int) by omega]
      rw [show 32 * bCh g i + ((j : Int) + 1) = 32 * bCh g i + 1 + (j : Int) by omega] at hx
      exact ⟨⟨by omega, by omega⟩, ⟨⟨by omega, by omega⟩, ⟨by omega, by omega⟩⟩, fun h => by omega, fun _ => ⟨⟨by omega, by omega⟩, fun h => by omega, fun _ => ⟨⟨by omega, by omega⟩, sp_put (d := d + 1) out3 (o_ok_app hO) ⟨by omega, by omega⟩ (s197_40 out3 nx)⟩⟩⟩
  exact s197 out3 (sp_bplace hg hb ⟨by omega, by omega⟩ (by omega) (s197_5 out3 (z (bNm g i).length 0 (by omega))))
theorem sp_sayEntryName (hg : mbk M g) (hr : bRg g) (hO : m_ok M) {i : Nat} (hh : bHd g i) (h15 : i < 15) (K : Q none (m_app M (bNm g i ++ [32]))) : wc kc (d + 3) 347 [jR 133, jI i] M Q := by
  obtain ⟨h3, h1, h32, hn1, hn8, hlt⟩ := hh
  have hl := bNm_len (g := g) (e := (i : Int))
  have z : ∀ (u j : Nat), j + u = (bNm g i).length → wp kc (d + 3) 347 11 [some (jR 133), none, some (jI (32 * bCh g i)), some (jI j)] [] (m_app M ((bNm g i).take j)) Q := by
    intro u
    induction u with
    | zero =>
      intro j hj
      rw [List.take_of_length_le (by omega)]
      refine s347_11 ?_
      rw [m_app_ne (by omega) (by decide), hg (32 * bCh g i) (by omega) (by omega)]
      refine ⟨⟨by omega, by omega⟩, ⟨⟨by omega, by omega⟩, ⟨by omega, by omega⟩⟩, fun _ => sp_sayByte (d := d + 1) (m_ok_app hO) (s347_47 ?_), fun h => by omega⟩
      rw [← m_app_app] at K
      exact K
    | succ u ih =>
      intro j hj
      have nx := ih (j + 1) (by omega)
      rw [bNm_take (by omega), ← m_app_app, show ((j + 1 : Nat) : Int) = (j : Int) + 1 by omega] at nx
      refine s347_11 ?_
      rw [m_app_ne (by omega) (by decide), m_app_ne (by omega) (by decide), hg (32 * bCh g i) (by omega) (by omega), hg (32 * bCh g i + 1 + j) (by omega) (by omega)]
      exact ⟨⟨by omega, by omega⟩, ⟨⟨by omega, by omega⟩, ⟨by omega, by omega⟩⟩, fun h => by omega, fun _ => ⟨⟨by omega, by omega⟩, sp_sayByte (d := d + 1) (m_ok_app hO) (s347_35 nx)⟩⟩
  exact s347 (sp_mfirst hg hr ⟨by omega, by omega⟩ (s347_7 (z (bNm g i).length 0 (by omega))))
end BNM
