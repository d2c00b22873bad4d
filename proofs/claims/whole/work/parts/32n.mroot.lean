/-! The reference's new root page, whole. -/
section BWS
variable {kc : List va_E} {d : Nat} {Q : Option fx_V → fx_M → Prop} {h : Int → Int} {M : fx_M}
theorem sp_writeRoot (hg : mbk M h) (hb : bk_b h) (hr : bRg h) (h15 : h (bRt h) ≤ 15) {o c m : Int} (ho : -1 ≤ o ∧ o < h (bRt h)) (hc : 0 ≤ c ∧ c ≤ 255) (hm : 0 ≤ m ∧ m ≤ 255) (ha : aft (h (bRt h)) o m ≤ 15) (K : ∀ M', mbk M' (bCut h (rtD h o c m)) → M' 133 99 = c → M' 133 100 = m → M' 133 101 = 3 - bRt h / 32 → M' 133 102 = 32 * m + 33 → (∀ b j, b ≠ 188 → ¬ (b = 133 ∧ 99 ≤ j ∧ j ≤ 102) → M' b j = M b j) → Q none M') : wc kc (d + 3) 371 [jR 133, jI o, jI c, jI m] M Q := by
  have hrb := bRt_b (g := h)
  have h0 := hb (bRt h) (by omega) (by omega)
  have ha0 := aft_b (m := m) h0.1 ho
  have hp30 := prs_30 h0.1 ho ha c
  have he0 := bRg_e hr
  obtain ⟨k, hk⟩ : ∃ k : Nat, h (bRt h) = (k : Int) := ⟨(h (bRt h)).toNat, by omega⟩
  unfold rtD rtB at K
  rw [hk, Int.toNat_natCast] at K hp30
  rw [hk] at ha0 ha ho h15
  have hpv := prs_v hb (o := o) k (by omega)
  have hA : aft (k : Int) o m = (k : Int) - (if o < 0 then (0 : Int) else 1) + (if 0 < m then (1 : Int) else 0) := rfl
  generalize aft (k : Int) o m = a at K ha0 ha hA
  obtain ⟨b, hbb⟩ : ∃ b : Int, b = 96 - bRt h := ⟨_, rfl⟩
  obtain ⟨v4, hv4⟩ : ∃ v4 : Int, v4 = 3 - bRt h / 32 := ⟨_, rfl⟩
  rw [← hbb, ← hv4] at K
  have hlen : ∀ i : Nat, i ≤ k → (prs h o i).length ≤ 2 * i := fun i hi => by
    have := prs_len (g := h) (o := o) i
    split at this <;> omega
  have av : ∀ L : List Int, L.length ≤ 31 → avd h (plc (b + 1) L) := fun L hL x hx => by
    have := plc_in hx
    omega
  have z1 : ∀ (u i q : Nat) (N : fx_M), i + u = k → (prs h o i).length = 2 * q → mbk N (bCut h (plc (b + 1) (prs h o i))) → (∀ x y, x ≠ 188 → N x y = M x y) → wp kc (d + 3) 371 23 [some (jR 133), some (jI o), some (jI c), some (jI m), some (jI v4), some (jI b), some (jI q), some (jI i)] [] N Q := by
    intro u
    induction u with
    | zero =>
      intro i q N hi hq hN fR
      have e : i = k := by omega
      subst e
      have hl := hlen i (by omega)
      obtain ⟨r1, r2, r3, r4⟩ := rt_same (av (prs h o i) (by omega))
      have hr' : bRg (bCut h (plc (b + 1) (prs h o i))) := by
        unfold bRg
        rw [r2]
        exact hr
      have hpi := prs_len (g := h) (o := o) i
      refine s371_23 (sp_mentries (d := d) hN hr' (s371_29 ?_))
      rw [r1, r3, hk]
      refine ⟨⟨⟨by omega, by omega⟩, ⟨by omega, by omega⟩⟩, fun _ => ⟨⟨by omega, by omega⟩, fun hle => ?_, fun hgt => ?_⟩, fun h => by omega⟩
      · have en : nwp c m = [] := by
          unfold nwp
          rw [if_neg (by omega)]
        rw [en, List.append_nil] at K hp30
        have eq : (q : Int) = a := by
          rw [hA, if_neg (show ¬ (0 : Int) < m by omega)]
          by_cases ho0 : o < 0
          · rw [if_pos ho0]
            rw [if_neg (by omega)] at hpi
            omega
          · rw [if_neg ho0]
            rw [if_pos (by omega)] at hpi
            omega
        have m1 := mbk_up hN (a := b) (v := (q : Int))
        rw [cut_head, eq] at m1
        have nx := wr_fill (kc := kc) (d := d) (Q := Q) (M := M) hb (c := c) (m := m) (v4 := v4) ⟨by omega, by omega⟩ (by omega) ⟨ha0, ha⟩ hpv hp30 K (30 - (prs h o i).length) 0 _ (by omega) (by rw [List.replicate_zero, List.append_nil]; exact m1) (fun x y hx => by rw [fx_up_na hx]; exact fR x y hx)
        rw [show 1 + ((prs h o i).length : Int) + ((0 : Nat) : Int) = 1 + 2 * (q : Int) by omega] at nx
        rw [eq]
        rw [eq] at nx
        exact ⟨⟨by omega, by omega⟩, nx⟩
      · have en : nwp c m = [c, m] := by
          unfold nwp
          rw [if_pos hgt]
        rw [en] at K hp30
        have hp28 : (prs h o i).length + 2 ≤ 30 := by
          rw [List.length_append] at hp30
          exact hp30
        have eq : (q : Int) + 1 = a := by
          rw [hA, if_pos hgt]
          by_cases ho0 : o < 0
          · rw [if_pos ho0]
            rw [if_neg (by omega)] at hpi
            omega
          · rw [if_neg ho0]
            rw [if_pos (by omega)] at hpi
            omega
        have m1 := mbk_up (mbk_up (mbk_up hN (a := b + 1 + 2 * (q : Int)) (v := c)) (a := b + 2 + 2 * (q : Int)) (v := m)) (a := b) (v := (q : Int) + 1)
        rw [cut_1 (by omega), cut_1 (by rw [List.length_append, List.length_singleton]; omega), cut_head, List.append_assoc, eq] at m1
        have hpv2 : ∀ v ∈ prs h o i ++ [c, m], 0 ≤ v ∧ v ≤ 255 := fun v hv => by
          rcases List.mem_append.mp hv with e | e
          · exact hpv v e
          · rcases List.mem_cons.mp e with e | e
            · rw [e]
              exact hc
            · rw [List.mem_singleton.mp e]
              exact hm
        have nx := wr_fill (kc := kc) (d := d) (Q := Q) (M := M) hb (c := c) (m := m) (v4 := v4) ⟨by omega, by omega⟩ (by omega) ⟨ha0, ha⟩ hpv2 hp30 K (30 - (prs h o i ++ [c, m]).length) 0 _ (by omega) (by rw [List.replicate_zero, List.append_nil]; exact m1) (fun x y hx => by rw [fx_up_na hx, fx_up_na hx, fx_up_na hx]; exact fR x y hx)
        have el : (((prs h o i ++ [c, m]).length : Nat) : Int) = (prs h o i).length + 2 := by
          rw [List.length_append]
          rfl
        rw [el, show 1 + (((prs h o i).length : Int) + 2) + ((0 : Nat) : Int) = 1 + 2 * ((q : Int) + 1) by omega] at nx
        rw [eq] at nx ⊢
        exact ⟨⟨by omega, by omega⟩, ⟨by omega, by omega⟩, ⟨by omega, by omega⟩, nx⟩
    | succ u ih =>
      intro i q N hi hq hN fR
      have hl := hlen i (by omega)
      have hcb := bCh_b hb (e := (i : Int)) ⟨by omega, by omega⟩
      obtain ⟨r1, r2, r3, r4⟩ := rt_same (av (prs h o i) (by omega))
      have hr' : bRg (bCut h (plc (b + 1) (prs h o i))) := by
        unfold bRg
        rw [r2]
        exact hr
      refine s371_23 (sp_mentries (d := d) hN hr' (s371_29 ?_))
      rw [r1, r3, hk]
      refine ⟨⟨⟨by omega, by omega⟩, ⟨by omega, by omega⟩⟩, fun h => by omega, fun _ => ⟨⟨⟨by omega, by omega⟩, ⟨by omega, by omega⟩⟩, fun hne => ?_, fun he => ?_⟩⟩
      · refine sp_mfirst (d := d) hN hr' ⟨by omega, by omega⟩ (s371_60 ?_)
        rw [(r4 i (by omega) (by omega)).1]
        have m1 := mbk_up hN (a := b + 1 + 2 * (q : Int)) (v := bCh h i)
        rw [cut_1 (by omega)] at m1
        have hl1 : (prs h o i ++ [bCh h i]).length ≤ 31 := by
          rw [List.length_append, List.length_singleton]
          omega
        obtain ⟨s1, s2, s3, s4⟩ := rt_same (av _ hl1)
        have hs' : bRg (bCut h (plc (b + 1) (prs h o i ++ [bCh h i]))) := by
          unfold bRg
          rw [s2]
          exact hr
        refine ⟨⟨by omega, by omega⟩, sp_mpages (d := d) m1 hs' ⟨by omega, by omega⟩ (s371_80 ?_)⟩
        rw [(s4 i (by omega) (by omega)).2]
        have m2 := mbk_up m1 (a := b + 2 + 2 * (q : Int)) (v := bPg h i)
        rw [cut_1 (by rw [List.length_append, List.length_singleton]; omega)] at m2
        have ep : prs h o i ++ [bCh h i] ++ [bPg h i] = prs h o (i + 1) := by
          rw [prs, if_neg hne, List.append_assoc]
          rfl
        rw [ep] at m2
        have nx := ih (i + 1) (q + 1) _ (by omega) (by rw [(prs_sum hne).2]; omega) m2 (fun x y hx => by rw [fx_up_na hx, fx_up_na hx]; exact fR x y hx)
        rw [show ((i + 1 : Nat) : Int) = (i : Int) + 1 by omega, show ((q + 1 : Nat) : Int) = (q : Int) + 1 by omega] at nx
        exact ⟨⟨by omega, by omega⟩, nx⟩
      · have ep : prs h o (i + 1) = prs h o i := by rw [prs, if_pos he, List.append_nil]
        have nx := ih (i + 1) q N (by omega) (by rw [ep]; exact hq) (by rw [ep]; exact hN) fR
        rw [show ((i + 1 : Nat) : Int) = (i : Int) + 1 by omega] at nx
        exact nx
  refine s371 ?_
  rw [hg 0 (by omega) (by omega), show 3 - h 0 = v4 by omega, show 32 * v4 = b by omega]
  exact z1 k 0 0 M (by omega) rfl hg (fun _ _ _ => rfl)
end BWS
