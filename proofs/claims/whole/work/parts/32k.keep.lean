/-! Keeping an entry, in the class. -/
/-- the text in the second out -/
def otx (M : fx_M) (T : List Int) : Prop := M 5 1 = T.length ∧ T.length ≤ 512 ∧ (∀ v ∈ T, 0 ≤ v ∧ v ≤ 255) ∧ ∀ (i : Nat) (v : Int), T[i]? = some v → M 6 (i : Int) = v
def eH (nm : List Int) (n : Nat) : List Int := ((nm.length : Int) :: nm) ++ [(n : Int) % 256] ++ [(n : Int) / 256]
def eT (T : List Int) (k : Nat) : List Int := (List.range k).map (fun i => T.getD i 0)
def ned (nm T : List Int) : Nat := (nm.length + 3 + T.length + 31) / 32
/-- the bytes of an entry's pages -/
def eB (nm T : List Int) : List Int := eH nm T.length ++ eT T (32 * ned nm T - (nm.length + 3))
/-- what keeping writes -/
def keD (g : Int → Int) (o c : Int) (nm T : List Int) : List (Int × Int) := plc (32 * c) (eB nm T) ++ rtD g o c (ned nm T : Int)
theorem eT_s {T : List Int} {k : Nat} : eT T (k + 1) = eT T k ++ [T.getD k 0] := by
  unfold eT
  rw [List.range_succ, List.map_append]
  rfl
theorem eT_len {T : List Int} {k : Nat} : (eT T k).length = k := by
  unfold eT
  rw [List.length_map, List.length_range]
theorem eH_len {nm : List Int} {n : Nat} : (eH nm n).length = nm.length + 3 := by
  unfold eH
  rw [List.length_append, List.length_append, List.length_cons, List.length_singleton, List.length_singleton]
theorem bRoo_in {g : Int → Int} {m : Nat} : ∀ {u : Nat} {p : Int}, bRoo g m u p = -1 ∨ (p ≤ bRoo g m u p ∧ bRoo g m u p + (m : Int) ≤ 32)
  | 0, p => Or.inl rfl
  | u + 1, p => by
    rw [bRoo]
    split
    · exact Or.inl rfl
    · split
      · right
        omega
      · rcases bRoo_in (g := g) (m := m) (u := u) (p := p + 1) with h | h
        · exact Or.inl h
        · right
          omega
theorem getD_b {T : List Int} (h : ∀ v ∈ T, 0 ≤ v ∧ v ≤ 255) (k : Nat) : 0 ≤ T.getD k 0 ∧ T.getD k 0 ≤ 255 := by
  rw [List.getD_eq_getElem?_getD]
  cases e : T[k]? with
  | none => exact ⟨by decide, by decide⟩
  | some v => exact h v (List.mem_of_getElem? e)
theorem out5k : fx_out 5 := by
  unfold fx_out
  decide
section BKP
variable {kc : List va_E} {d : Nat} {Q : Option fx_V → fx_M → Prop} {g : Int → Int} {nm T : List Int} {M : fx_M}
theorem sp_keep (hn : snm M nm) (hnm : nm_ok nm) (hn255 : ∀ c ∈ nm, 0 ≤ c ∧ c ≤ 255) (hT : otx M T) (hg : M 126 = g) (hb : bk_b g) (hH : bHs g) (K0 : (15 ≤ g (bRt g) - (if bFd g nm (g (bRt g)).toNat 0 < 0 then (0 : Int) else 1) ∨ bRoo g (ned nm T) 30 3 < 0) → Q (some (jI 0)) M) (K1 : g (bRt g) - (if bFd g nm (g (bRt g)).toNat 0 < 0 then (0 : Int) else 1) < 15 → 0 ≤ bRoo g (ned nm T) 30 3 → ∀ M', cwSt g (keD g (bFd g nm (g (bRt g)).toNat 0) (bRoo g (ned nm T) 30 3) nm T) M M' → Q (some (jI 1)) M') : wc kc (d + 4) 191 [jR 125, jR 2, jI (M 7 6), jI (M 7 7), jR 5] M Q := by
  have hr := bRt_b (g := g)
  have h0 := hb (bRt g) (by omega) (by omega)
  have h15 := hH.1
  have hf := bFd_b (g := g) (nm := nm) (u := (g (bRt g)).toNat) (i := 0)
  obtain ⟨q1, q2, q3⟩ := hnm
  obtain ⟨t1, t2, t3, t4⟩ := hT
  have hned : ned nm T = (nm.length + 3 + T.length + 31) / 32 := rfl
  have eN : bNE g = g (bRt g) := by
    unfold bNE
    rw [if_neg (by omega)]
  have hri := bRoo_in (g := g) (m := ned nm T) (u := 30) (p := 3)
  unfold keD at K1
  have en : ((nm.length : Int) + 3 + T.length + 32 - 1) / 32 = ((ned nm T : Nat) : Int) := by
    rw [hned]
    omega
  have hne1 : 1 ≤ ned nm T := by
    rw [hned]
    omega
  have hne2 : ned nm T ≤ 200 := by
    rw [hned]
    omega
  have hne3 : nm.length + 3 + T.length ≤ 32 * ned nm T := by
    rw [hned]
    omega
  refine s191 out5k (sp_entryOf (d := d) hn ⟨q1, q2, q3⟩ hg hb hH (s191_7 out5k ?_))
  obtain ⟨n0, n1, n2, n3, n4⟩ := hn
  generalize bFd g nm (g (bRt g)).toNat 0 = o at K0 K1 hf ⊢
  rw [n1, t1, en]
  refine ⟨⟨by omega, by omega⟩, sp_freePages (d := d) hg hb hH ⟨hne1, hne2⟩ (s191_34 out5k (sp_entries (d := d + 1) hg hb (s191_40 out5k ?_)))⟩
  rw [eN]
  generalize bRoo g (ned nm T) 30 3 = c at K0 K1 hri ⊢
  clear hned en
  generalize hnd : ned nm T = nd at K0 K1 hri hne1 hne2 hne3 ⊢
  have hi : (if o < 0 then (0 : Int) else 1) = 0 ∨ (if o < 0 then (0 : Int) else 1) = 1 := by split <;> simp
  refine ⟨⟨by omega, by omega⟩, ⟨by omega, by omega⟩, fun hge => K0 (Or.inl hge), fun hlt => ⟨⟨by omega, by omega⟩, fun hc0 => ?_, fun hneg => K0 (Or.inr hneg)⟩⟩
  have K2 := K1 hlt hc0
  have hcr : 3 ≤ c ∧ c + (nd : Int) ≤ 32 := by omega
  have hE : (eB nm T).length = 32 * nd := by
    unfold eB
    rw [List.length_append, eH_len, eT_len, hnd]
    omega
  have ha : aft (g (bRt g)) o (nd : Int) ≤ 15 := by
    unfold aft
    rw [if_pos (show (0 : Int) < (nd : Int) by omega)]
    omega
  have l0 : lgv [] := fun x hx => by cases hx
  have e8 : fx_and (T.length : Int) 255 = (T.length : Int) % 256 := fx_and_mask 8 (by decide) (by decide)
  have e9 : fx_shr (T.length : Int) 8 = (T.length : Int) / 256 := fx_shr_eq ⟨by omega, by omega⟩ ⟨by omega, by omega⟩
  have z2 : ∀ (u k : Nat) (N : fx_M), nm.length + 3 + k + u = 32 * nd → wst g [] (32 * c) (eH nm T.length ++ eT T k) M N → wp kc (d + 4) 191 156 [some (jR 125), none, none, some (jI nm.length), some (jR 5), some (jI o), some (jI nd), some (jI c), some (jI (32 * c)), some (jI ((nm.length : Int) + 3 + k))] [] N Q := by
    intro u
    induction u with
    | zero =>
      intro k N hk hw
      have ek : eH nm T.length ++ eT T k = eB nm T := by
        unfold eB
        rw [hnd, show 32 * nd - (nm.length + 3) = k by omega]
      rw [ek] at hw
      refine s191_156 out5k ⟨⟨⟨by omega, by omega⟩, ⟨by omega, by omega⟩⟩, fun _ => ?_, fun h => by omega⟩
      refine sp_turn (d := d) (D := plc (32 * c) (eB nm T)) (M := M) hw.1 hb (wst_ok l0 hw.2 (by omega) (by rw [hE]; omega)) (fun x hx => ?_) (by rw [plc_len, hE]; omega) h15 ⟨by omega, by omega⟩ ⟨by omega, by omega⟩ ⟨by omega, by omega⟩ ha (fun N' h => s191_221 out5k (K2 N' h))
      have := plc_in hx
      omega
    | succ u ih =>
      intro k N hk hw
      have n5 : N 5 1 = T.length := by rw [hw.1.2.2 5 1 (by omega) (by omega) (by omega) (by omega)]; exact t1
      have hL : (eH nm T.length ++ eT T k).length = nm.length + 3 + k := by rw [List.length_append, eH_len, eT_len]
      have ev : (if (nm.length : Int) + 3 + k - nm.length - 3 < N 5 1 then N (5 + 1) ((nm.length : Int) + 3 + k - nm.length - 3) else 0) = T.getD k 0 := by
        rw [n5, show (nm.length : Int) + 3 + k - nm.length - 3 = (k : Int) by omega, List.getD_eq_getElem?_getD]
        by_cases hkt : k < T.length
        · rw [if_pos (by omega), hw.1.2.2 (5 + 1) _ (by omega) (by omega) (by omega) (by omega), List.getElem?_eq_getElem hkt]
          exact t4 k _ (List.getElem?_eq_getElem hkt)
        · rw [if_neg (by omega), List.getElem?_eq_none (by omega)]
          rfl
      refine s191_156 out5k ?_
      rw [ev, n5]
      refine ⟨⟨⟨by omega, by omega⟩, ⟨by omega, by omega⟩⟩, fun h => by omega, fun _ => ⟨⟨by omega, by omega⟩, ⟨by omega, by omega⟩, fun h => ?_, wst_next (d := d + 2) hw hb l0 (by omega) (by rw [hL]; omega) (by omega) (by rw [hL, List.length_nil]; omega) (getD_b t3 k) (fun N1 w1 => s191_205 out5k ?_)⟩⟩
      · rw [fx_ol5]
        exact ⟨by omega, by omega⟩
      · rw [List.append_assoc, ← eT_s] at w1
        have nx := ih (k + 1) N1 (by omega) w1
        rw [show (nm.length : Int) + 3 + ((k + 1 : Nat) : Int) = (nm.length : Int) + 3 + (k : Int) + 1 by omega] at nx
        exact nx
  have z1 : ∀ (u j : Nat) (N : fx_M), j + u = nm.length → wst g [] (32 * c) ((nm.length : Int) :: nm.take j) M N → wp kc (d + 4) 191 85 [some (jR 125), some (jR 2), some (jI (M 7 6)), some (jI nm.length), some (jR 5), some (jI o), some (jI nd), some (jI c), some (jI (32 * c)), some (jI j)] [] N Q := by
    intro u
    induction u with
    | zero =>
      intro j N hj hw
      rw [List.take_of_length_le (by omega)] at hw
      have n5 : N 5 1 = T.length := by rw [hw.1.2.2 5 1 (by omega) (by omega) (by omega) (by omega)]; exact t1
      have hL : ((nm.length : Int) :: nm).length = nm.length + 1 := List.length_cons ..
      refine s191_85 out5k ?_
      rw [n5, e8]
      refine ⟨⟨⟨by omega, by omega⟩, ⟨by omega, by omega⟩⟩, fun _ => wst_next (d := d + 2) hw hb l0 (by omega) (by rw [hL]; omega) (by omega) (by rw [hL, List.length_nil]; omega) ⟨by omega, by omega⟩ (fun N1 w1 => s191_133 out5k ?_), fun h => by omega⟩
      have n6 : N1 5 1 = T.length := by rw [w1.1.2.2 5 1 (by omega) (by omega) (by omega) (by omega)]; exact t1
      rw [n6, e9]
      refine wst_next (d := d + 2) w1 hb l0 (by omega) (by rw [List.length_append, hL, List.length_singleton]; omega) (by omega) (by rw [List.length_append, hL, List.length_singleton, List.length_nil]; omega) ⟨by omega, by omega⟩ (fun N2 w2 => s191_151 out5k ?_)
      have nx := z2 (32 * nd - (nm.length + 3)) 0 N2 (by omega) (by unfold eT; rw [List.range_zero, List.map_nil, List.append_nil]; exact w2)
      rw [show (nm.length : Int) + 3 + ((0 : Nat) : Int) = (nm.length : Int) + 3 by omega] at nx
      exact nx
    | succ u ih =>
      intro j N hj hw
      have hjl : j < nm.length := by omega
      have hb2 := hn255 _ (List.getElem_mem hjl)
      have hL : ((nm.length : Int) :: nm.take j).length = j + 1 := by
        rw [List.length_cons, List.length_take]
        omega
      refine s191_85 out5k ?_
      rw [hw.1.2.2 2 _ (by omega) (by omega) (by omega) (by omega), n4 j _ (List.getElem?_eq_getElem hjl)]
      refine ⟨⟨⟨by omega, by omega⟩, ⟨by omega, by omega⟩⟩, fun h => by omega, fun _ => ⟨⟨by omega, by omega⟩, wst_next (d := d + 2) hw hb l0 (by omega) (by rw [hL]; omega) (by omega) (by rw [hL, List.length_nil]; omega) hb2 (fun N1 w1 => s191_108 out5k ?_)⟩⟩
      rw [List.cons_append, ← List.take_succ_eq_append_getElem hjl] at w1
      have nx := ih (j + 1) N1 (by omega) w1
      rw [show ((j + 1 : Nat) : Int) = (j : Int) + 1 by omega] at nx
      exact nx
  have w0 : wst g [] (32 * c) [] M (fx_up M 125 2 0) := ⟨cwSt_0 hg, fun v hv => by cases hv⟩
  exact wst_next (d := d + 2) (x := 32 * c) (v := (nm.length : Int)) w0 hb l0 (by omega) (by rw [List.length_nil]; omega) (by omega) (show 0 + 0 < 1024 by omega) ⟨by omega, by omega⟩ (fun N1 w1 => s191_82 out5k (z1 nm.length 0 N1 (by omega) w1))
end BKP
