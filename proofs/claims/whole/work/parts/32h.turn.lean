/-! The new root page is written, in the class. -/
section BTT
variable {kc : List va_E} {d : Nat} {Q : Option fx_V → fx_M → Prop} {g : Int → Int} {D : List (Int × Int)} {M : fx_M}
theorem prs_no {o : Int} {i : Nat} (h : (i : Int) ≠ o) (a : Int) : a :: prs g o i ++ [bCh g i] ++ [bPg g i] = a :: prs g o (i + 1) := by
  rw [prs, if_neg h, List.append_assoc, List.cons_append]
  rfl
theorem prs_sum {o : Int} {i : Nat} (h : (i : Int) ≠ o) : (prs g o (i + 1)).sum = (prs g o i).sum + (bCh g i + bPg g i) ∧ (prs g o (i + 1)).length = (prs g o i).length + 2 := by
  rw [prs, if_neg h, List.sum_append, List.length_append]
  exact ⟨by rw [List.sum_cons, List.sum_cons, List.sum_nil, Int.add_zero], rfl⟩
theorem tn_fill (hb : bk_b g) (hD : lgv D) (hl : D.length ≤ 960) {a b v4 : Int} (hb0 : b = 32 ∨ b = 64) (ha : 0 ≤ a ∧ a ≤ 15) (h4 : 0 ≤ v4 ∧ v4 ≤ 3) {ps : List Int} (hp : ∀ v ∈ ps, 0 ≤ v ∧ v ≤ 255) (hp30 : ps.length ≤ 30) (K : ∀ N', cwSt g (D ++ (plc b (a :: ps ++ List.replicate (30 - ps.length) 0 ++ [(a + ps.sum) % 251]) ++ [(0, v4)])) M N' → Q none N') : ∀ (u j : Nat) (N : fx_M), j + u = 30 - ps.length → wst g D b (a :: ps ++ List.replicate j 0) M N → wp kc (d + 3) 194 170 [some (jR 125), none, none, none, some (jI v4), some (jI b), none, none, some (jI (a + ps.sum)), none, some (jI (b + 1 + ps.length + j))] [] N Q := by
  have hs := sum_01 hp
  intro u
  induction u with
  | zero =>
    intro j N hj hw
    have e : j = 30 - ps.length := by omega
    subst e
    have hL : (a :: ps ++ List.replicate (30 - ps.length) 0).length = 31 := by
      rw [List.length_append, List.length_cons, List.length_replicate]
      omega
    refine s194_170 ⟨⟨⟨by omega, by omega⟩, ⟨by omega, by omega⟩⟩, fun _ => ⟨⟨by omega, by omega⟩, wst_next (d := d + 1) hw hb hD (by omega) (by rw [hL]; omega) (by omega) (by rw [hL]; omega) ⟨by omega, by omega⟩ (fun N1 w1 => s194_212 ?_)⟩, fun h => by omega⟩
    refine sp_bwrite (d := d + 1) w1.1 hb (wst_ok hD w1.2 (by omega) ?_) ?_ ⟨by omega, by omega⟩ ⟨by omega, by omega⟩ (fun N2 w2 => s194_219 (K N2 ?_))
    · rw [List.length_append, hL, List.length_singleton]
      omega
    · rw [List.length_append, plc_len, List.length_append, hL, List.length_singleton]
      omega
    · rw [← List.append_assoc]
      exact w2
  | succ u ih =>
    intro j N hj hw
    have hL : (a :: ps ++ List.replicate j 0).length = 1 + ps.length + j := by
      rw [List.length_append, List.length_cons, List.length_replicate]
      omega
    refine s194_170 ⟨⟨⟨by omega, by omega⟩, ⟨by omega, by omega⟩⟩, fun h => by omega, fun _ => wst_next (d := d + 1) hw hb hD (by omega) (by rw [hL]; omega) (by omega) (by rw [hL]; omega) ⟨by omega, by omega⟩ (fun N1 w1 => s194_189 ?_)⟩
    have nx := ih (j + 1) N1 (by omega) (by rw [List.replicate_succ', ← List.append_assoc]; exact w1)
    rw [show b + 1 + (ps.length : Int) + ((j + 1 : Nat) : Int) = b + 1 + (ps.length : Int) + (j : Int) + 1 by omega] at nx
    exact nx
theorem aft_b {n o m : Int} (hn : 0 ≤ n) (ho : -1 ≤ o ∧ o < n) : 0 ≤ aft n o m := by
  unfold aft
  split <;> split <;> omega
theorem prs_30 {o m : Int} (h0 : 0 ≤ g (bRt g)) (ho : -1 ≤ o ∧ o < g (bRt g)) (ha : aft (g (bRt g)) o m ≤ 15) (c : Int) : (prs g o (g (bRt g)).toNat ++ nwp c m).length ≤ 30 := by
  have h := prs_len (g := g) (o := o) (g (bRt g)).toNat
  rw [List.length_append]
  unfold aft at ha
  unfold nwp
  by_cases h1 : o < 0
  · rw [if_neg (by omega)] at h
    rw [if_pos h1] at ha
    by_cases h2 : 0 < m
    · rw [if_pos h2] at ha ⊢
      rw [List.length_cons, List.length_singleton]
      omega
    · rw [if_neg h2] at ha ⊢
      rw [List.length_nil]
      omega
  · rw [if_pos (by omega)] at h
    rw [if_neg h1] at ha
    by_cases h2 : 0 < m
    · rw [if_pos h2] at ha ⊢
      rw [List.length_cons, List.length_singleton]
      omega
    · rw [if_neg h2] at ha ⊢
      rw [List.length_nil]
      omega
theorem sp_turn {N : fx_M} (hN : cwSt g D M N) (hb : bk_b g) (hD : lgv D) (hv : avd g D) (hl : D.length ≤ 960) (h15 : g (bRt g) ≤ 15) {o c m : Int} (ho : -1 ≤ o ∧ o < g (bRt g)) (hc : 0 ≤ c ∧ c ≤ 255) (hm : 0 ≤ m ∧ m ≤ 255) (ha : aft (g (bRt g)) o m ≤ 15) (K : ∀ N', cwSt g (D ++ rtD g o c m) M N' → Q none N') : wc kc (d + 3) 194 [jR 125, jI o, jI c, jI m] N Q := by
  have hr := bRt_b (g := g)
  have h0 := hb (bRt g) (by omega) (by omega)
  have ha0 := aft_b (m := m) h0.1 ho
  have hp30 := prs_30 h0.1 ho ha c
  have hpl := prs_len (g := g) (o := o) (g (bRt g)).toNat
  obtain ⟨k, hk⟩ : ∃ k : Nat, g (bRt g) = (k : Int) := ⟨(g (bRt g)).toNat, by omega⟩
  unfold rtD rtB at K
  rw [hk, Int.toNat_natCast] at K hp30
  rw [hk] at ha0 ha ho h15
  have hpv := prs_v hb (o := o) k (by omega)
  generalize hA : aft (k : Int) o m = a at K ha0 ha
  obtain ⟨b, hbb⟩ : ∃ b : Int, b = 96 - bRt g := ⟨_, rfl⟩
  rw [← hbb] at K
  have w0 : wst g D b [] M N := ⟨by rw [plc, List.append_nil]; exact hN, fun v h => by cases h⟩
  have hbs : 32 * (3 - bRt g / 32) = b := by omega
  have z1 : ∀ (u i : Nat) (N : fx_M), i + u = k → wst g D b (a :: prs g o i) M N → wp kc (d + 3) 194 69 [some (jR 125), some (jI o), some (jI c), some (jI m), some (jI (3 - bRt g / 32)), some (jI b), some (jI k), none, some (jI (a + (prs g o i).sum)), some (jI (b + 1 + (prs g o i).length)), some (jI i)] [] N Q := by
    intro u
    induction u with
    | zero =>
      intro i N hi hw
      have e : i = k := by omega
      subst e
      have hL : (a :: prs g o i).length = 1 + (prs g o i).length := by
        rw [List.length_cons]
        omega
      have hpi := prs_len (g := g) (o := o) i
      refine s194_69 ⟨⟨⟨by omega, by omega⟩, ⟨by omega, by omega⟩⟩, fun _ => ⟨⟨by omega, by omega⟩, fun hle => ?_, fun hgt => ?_⟩, fun h => by omega⟩
      · have en : nwp c m = [] := by
          unfold nwp
          rw [if_neg (by omega)]
        rw [en, List.append_nil] at K hp30
        have nx := tn_fill (kc := kc) (d := d) (Q := Q) (M := M) hb hD hl (by omega) ⟨ha0, ha⟩ (v4 := 3 - bRt g / 32) ⟨by omega, by omega⟩ hpv hp30 K (30 - (prs g o i).length) 0 N (by omega) (by rw [List.replicate_zero, List.append_nil]; exact hw)
        rw [show b + 1 + ((prs g o i).length : Int) + ((0 : Nat) : Int) = b + 1 + ((prs g o i).length : Int) by omega] at nx
        exact nx
      · have en : nwp c m = [c, m] := by
          unfold nwp
          rw [if_pos hgt]
        rw [en] at K hp30
        rw [List.length_append] at hp30
        have hp28 : (prs g o i).length + 2 ≤ 30 := hp30
        refine wst_next (d := d + 1) hw hb hD (by omega) (by rw [hL]; omega) (by omega) (by rw [hL]; omega) hc (fun N1 w1 => s194_146 (wst_next (d := d + 1) w1 hb hD (by omega) (by rw [List.length_append, hL, List.length_singleton]; omega) (by omega) (by rw [List.length_append, hL, List.length_singleton]; omega) hm (fun N2 w2 => s194_155 ?_)))
        have e3 : a :: prs g o i ++ [c] ++ [m] = a :: (prs g o i ++ [c, m]) := by
          rw [List.append_assoc, List.cons_append]
          rfl
        rw [e3] at w2
        have hpv2 : ∀ v ∈ prs g o i ++ [c, m], 0 ≤ v ∧ v ≤ 255 := fun v hv => by
          rcases List.mem_append.mp hv with h | h
          · exact hpv v h
          · rcases List.mem_cons.mp h with h | h
            · rw [h]
              exact hc
            · rw [List.mem_singleton.mp h]
              exact hm
        have nx := tn_fill (kc := kc) (d := d) (Q := Q) (M := M) hb hD hl (by omega) ⟨ha0, ha⟩ (v4 := 3 - bRt g / 32) ⟨by omega, by omega⟩ hpv2 (by rw [List.length_append]; exact hp30) K (30 - (prs g o i ++ [c, m]).length) 0 N2 (by omega) (by rw [List.replicate_zero, List.append_nil]; exact w2)
        have es : (prs g o i ++ [c, m]).sum = (prs g o i).sum + (c + m) := by rw [List.sum_append, List.sum_cons, List.sum_cons, List.sum_nil, Int.add_zero]
        have el : (((prs g o i ++ [c, m]).length : Nat) : Int) = (prs g o i).length + 2 := by
          rw [List.length_append]
          rfl
        rw [es, el, ← Int.add_assoc, show b + 1 + (((prs g o i).length : Int) + 2) + ((0 : Nat) : Int) = b + 1 + ((prs g o i).length : Int) + 2 by omega] at nx
        exact nx
    | succ u ih =>
      intro i N hi hw
      have hL : (a :: prs g o i).length = 1 + (prs g o i).length := by
        rw [List.length_cons]
        omega
      have hpi := prs_len (g := g) (o := o) i
      have hli : (prs g o i).length ≤ 2 * i := by
        split at hpi <;> omega
      have hcb := bCh_b hb (e := (i : Int)) ⟨by omega, by omega⟩
      refine s194_69 ⟨⟨⟨by omega, by omega⟩, ⟨by omega, by omega⟩⟩, fun h => by omega, fun _ => ⟨⟨⟨by omega, by omega⟩, ⟨by omega, by omega⟩⟩, fun he => ?_, fun hne => ?_⟩⟩
      · have ep : prs g o (i + 1) = prs g o i := by rw [prs, if_pos he, List.append_nil]
        have nx := ih (i + 1) N (by omega) (by rw [ep]; exact hw)
        rw [ep, show ((i + 1 : Nat) : Int) = (i : Int) + 1 by omega] at nx
        exact nx
      · have hps := prs_sum (g := g) hne
        refine wst_ch (d := d) hw hb hD hv hbb (by rw [hL]; omega) ⟨by omega, by omega⟩ (s194_91 (wst_next (d := d + 1) hw hb hD (by omega) (by rw [hL]; omega) (by omega) (by rw [hL]; omega) ⟨by omega, by omega⟩ (fun N1 w1 => s194_94 ?_)))
        have hL1 : (a :: prs g o i ++ [bCh g i]).length = 2 + (prs g o i).length := by
          rw [List.length_append, hL, List.length_singleton]
          omega
        refine wst_pg (d := d) w1 hb hD hv hbb (by rw [hL1]; omega) ⟨by omega, by omega⟩ (s194_105 (wst_next (d := d + 1) w1 hb hD (by omega) (by rw [hL1]; omega) (by omega) (by rw [hL1]; omega) ⟨by omega, by omega⟩ (fun N2 w2 => s194_108 ?_)))
        rw [prs_no hne] at w2
        have hL2 : (a :: prs g o (i + 1)).length ≤ 32 := by
          rw [List.length_cons, hps.2]
          omega
        refine wst_ch (d := d) w2 hb hD hv hbb hL2 ⟨by omega, by omega⟩ (s194_116 (wst_pg (d := d) w2 hb hD hv hbb hL2 ⟨by omega, by omega⟩ (s194_122 ?_)))
        have nx := ih (i + 1) N2 (by omega) w2
        rw [hps.1, hps.2, ← Int.add_assoc, show ((i + 1 : Nat) : Int) = (i : Int) + 1 by omega, show b + 1 + (((prs g o i).length + 2 : Nat) : Int) = b + 1 + ((prs g o i).length : Int) + 2 by omega] at nx
        exact nx
  obtain ⟨h, h1, h2, h3, h4, h5⟩ := wst_g w0 hb hD hv hbb (by rw [List.length_nil]; omega)
  have en : bNE h = (k : Int) := by
    unfold bNE
    rw [h3, h4, hk, if_neg (by omega)]
  refine s194 (sp_root (d := d + 1) h1 h2 (s194_5 ?_))
  rw [h3, hbs]
  refine ⟨⟨by omega, by omega⟩, sp_entries (d := d) h1 h2 (s194_22 ?_)⟩
  rw [en]
  have ea : (k : Int) - (if o < 0 then (0 : Int) else 1) + (if 0 < m then (1 : Int) else 0) = a := hA
  rw [ea]
  refine ⟨⟨by omega, by omega⟩, ⟨by omega, by omega⟩, wst_next (d := d + 1) w0 hb hD (by omega) (by rw [List.length_nil]; omega) (by omega) (by rw [List.length_nil]; omega) ⟨by omega, by omega⟩ (fun N1 w1 => s194_66 ?_)⟩
  have nx := z1 k 0 N1 (by omega) w1
  rw [prs, List.sum_nil, Int.add_zero, List.length_nil, show b + 1 + ((0 : Nat) : Int) = b + 1 by omega] at nx
  exact nx
end BTT
