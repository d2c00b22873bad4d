/-! The class's solve and teach. -/
theorem only_nb {Z : PZ} {S : Nat → Nat} {c y : Nat} (h : ¬ brk Z S) : ¬ brk Z (s_only S c y) := fun hb => by
  obtain ⟨k, h1, h2⟩ := brk_iff.mp hb
  unfold s_only at h2
  split at h2
  · have := Nat.pow_pos (n := y) (show 0 < 2 by decide)
    omega
  · exact h (brk_iff.mpr ⟨k, h1, h2⟩)
section CSV
variable {L : Nat} {xs : Nat → Int32} {d : Nat} {Q : Option fx_V → fx_M → Prop} {Z : PZ} {S : Nat → Nat}
theorem csv_loop (ho : pz_ok Z) {M0 : fx_M} : ∀ (k : Nat) (S : Nat → Nat) (v : Int) (M : fx_M) (v8 : Int) (n : Nat) (a b c : Int), totS S (Z.1 * Z.2.1).toNat < k → n + totS S (Z.1 * Z.2.1).toNat ≤ 36 → s_ok Z S → sta v S → ckn M 11 Z → o_ok M 3 → M 31 2 = 0 → fSc M0 M → v8 = (if brk Z S then 0 else ((fSt Z S).1 : Int)) → (¬ brk Z S → (fSt Z S).1 ≠ 0 → M 31 5 = (fSt Z S).2.2.2.1 ∧ M 31 6 = ((fSt Z S).2.2.2.2 : Nat)) → (∀ M' v', fSc M0 M' → sta v' (sRn Z k S).1 → s_ok Z (sRn Z k S).1 → wc (kcs L xs) (d + 15) 114 [jL v'] M' (fun u M1 => wp (kcs L xs) (d + 16) 142 131 [some (jR 31), none, none, some (jL v'), none, some (jI (a + (sCt (sRn Z k S) 1 : Nat))), some (jI (b + (sCt (sRn Z k S) 2 : Nat))), some (jI (c + (sCt (sRn Z k S) 3 : Nat))), none, none] (u.toList ++ [jR 3]) M1 Q)) → wp (kcs L xs) (d + 16) 142 26 [some (jR 31), none, none, some (jL v), none, some (jI a), some (jI b), some (jI c), some (jI v8), some (jI (n : Nat))] [] M Q := by
  have h9 := pz_n ho
  intro k
  induction k with
  | zero =>
    intro S v M v8 n a b c hk
    omega
  | succ k ih =>
    intro S v M v8 n a b c hk hn hs hv hc hO h2 hf hv8 hfd K
    by_cases hb : brk Z S ∨ (fSt Z S).1 = 0
    · have v0 : v8 = 0 := by
        rw [hv8]
        split
        · rfl
        · next hnb =>
          rcases hb with h | h
          · exact absurd h hnb
          · rw [h]
            rfl
      rw [sRn_end hb] at K
      have e0 : ∀ (x : Int) (i : Nat), x + ((sCt (S, 0, 0, 0, []) i : Nat) : Int) = x := fun x i => by
        have : sCt (S, 0, 0, 0, []) i = 0 := by
          unfold sCt
          split
          · rfl
          · split <;> rfl
        rw [this]
        omega
      have KK := K M v hf hv hs
      rw [e0, e0, e0] at KK
      subst v0
      exact s142_26 ⟨⟨by omega, by omega⟩, fun _ => KK, fun _ => ⟨⟨by omega, by omega⟩, fun _ => KK, fun h => absurd rfl h⟩⟩
    · have hnb : ¬ brk Z S := fun h => hb (Or.inl h)
      have hf0 : (fSt Z S).1 ≠ 0 := fun h => hb (Or.inr h)
      have htp := totS_pos ho hs hnb
      obtain ⟨g1, g2, g3⟩ := sRn_go (k := k) hb
      obtain ⟨a1, a2, a3, a4, a5, a6, a7⟩ := fSt_in ho hf0
      rw [if_neg hnb] at hv8
      obtain ⟨b1, b2⟩ := hfd hnb hf0
      obtain ⟨cn, hcn⟩ : ∃ cn : Nat, (fSt Z S).2.2.2.1 = (cn : Int) := ⟨(fSt Z S).2.2.2.1.toNat, by omega⟩
      rw [hcn, Int.toNat_natCast] at a5 g1 g3
      rw [hcn] at b1 a3
      have htot := totS_wo (S := S) a4 (s_ok_16 ho hs (c := cn) (by omega)) a5 (Z.1 * Z.2.1).toNat
      rw [if_pos (by omega)] at htot
      have hs1 := s_wo_ok (s := (fSt Z S).2.2.2.2) hs a3
      have hv1 := sta_wo hv (c := (cn : Int)) (s := ((fSt Z S).2.2.2.2 : Nat)) ⟨by omega, by omega⟩ ⟨by omega, by omega⟩
      rw [Int.toNat_natCast, Int.toNat_natCast] at hv1
      have es : ∀ (x : Int) (i : Nat), 1 ≤ i → i ≤ 3 → x + (if v8 = (i : Int) then (1 : Int) else 0) + ((sCt (sRn Z k (s_wo S cn (fSt Z S).2.2.2.2)) i : Nat) : Int) = x + ((sCt (sRn Z (k + 1) S) i : Nat) : Int) := fun x i i1 i3 => by
        rw [g3 i i1 i3]
        by_cases e : (fSt Z S).1 = i
        · rw [if_pos e, if_pos (show v8 = (i : Int) by omega)]
          omega
        · rw [if_neg e, if_neg (show ¬ v8 = (i : Int) by omega)]
          omega
      have e1 := es a 1 (by omega) (by omega)
      have e2 := es b 2 (by omega) (by omega)
      have e3 := es c 3 (by omega) (by omega)
      have KK : ∀ M' v', fSc M0 M' → sta v' (sRn Z k (s_wo S cn (fSt Z S).2.2.2.2)).1 → s_ok Z (sRn Z k (s_wo S cn (fSt Z S).2.2.2.2)).1 → wc (kcs L xs) (d + 15) 114 [jL v'] M' (fun u M1 => wp (kcs L xs) (d + 16) 142 131 [some (jR 31), none, none, some (jL v'), none, some (jI (a + (if v8 = 1 then (1 : Int) else 0) + (sCt (sRn Z k (s_wo S cn (fSt Z S).2.2.2.2)) 1 : Nat))), some (jI (b + (if v8 = 2 then (1 : Int) else 0) + (sCt (sRn Z k (s_wo S cn (fSt Z S).2.2.2.2)) 2 : Nat))), some (jI (c + (if v8 = 3 then (1 : Int) else 0) + (sCt (sRn Z k (s_wo S cn (fSt Z S).2.2.2.2)) 3 : Nat))), none, none] (u.toList ++ [jR 3]) M1 Q) := fun M' v' q1 q2 q3 => by
        have h := K M' v' q1 (by rw [g1]; exact q2) (by rw [g1]; exact q3)
        rw [← e1, ← e2, ← e3] at h
        exact h
      refine s142_26 ⟨⟨by omega, by omega⟩, fun h => by omega, fun _ => ⟨⟨by omega, by omega⟩, fun h => by omega, fun _ => ⟨⟨by omega, by omega⟩, ⟨by omega, by omega⟩, ⟨by omega, by omega⟩, ?_⟩⟩⟩
      rw [b1, b2]
      refine s113 (s142_98 (sp_isBroken (d := d + 14) ho hs1 hv1 (s142_103 ?_)))
      by_cases hb1 : brk Z (s_wo S cn (fSt Z S).2.2.2.2)
      · rw [if_pos hb1]
        refine ⟨⟨by omega, by omega⟩, fun h => by omega, fun _ => ?_⟩
        have nx := ih _ _ M 0 (n + 1) _ _ _ (by omega) (by omega) hs1 hv1 hc hO h2 hf (by rw [if_pos hb1]) (fun h => absurd hb1 h) KK
        rw [show ((n + 1 : Nat) : Int) = (n : Int) + 1 by omega] at nx
        exact nx
      · rw [if_neg hb1]
        refine ⟨⟨by omega, by omega⟩, fun _ => sp_cFindStep (d := d + 1) (w := 0) ho hc hO hs1 hb1 hv1 ⟨by omega, by omega⟩ h2 (fun M2 f2 x1 x2 x3 => s142_115 ?_), fun h => absurd rfl h⟩
        have hO2 : o_ok M2 3 := by
          unfold o_ok at hO ⊢
          rw [f2 _ _ (by omega)]
          exact hO
        have nx := ih _ _ M2 _ (n + 1) _ _ _ (by omega) (by omega) hs1 hv1 (ckn_fr hc (fun b j h1 h2 => f2 b j (by omega))) hO2 (by rw [f2 _ _ (by omega)]; exact h2) (fSc_tr hf f2) (by rw [if_neg hb1]) (fun _ => x1) KK
        rw [show ((n + 1 : Nat) : Int) = (n : Int) + 1 by omega] at nx
        exact nx
theorem tot_36 (ho : pz_ok Z) : totS S (Z.1 * Z.2.1).toNat ≤ 36 := by
  have h9 := pz_n ho
  have := totS_le (S := S) (Z.1 * Z.2.1).toNat
  omega
theorem sp_solve {M : fx_M} (ho : pz_ok Z) (hc : ckn M 11 Z) (h0 : M 3 1 = 0) (hs : s_ok Z S) (hnb : ¬ brk Z S) {v : Int} (hv : sta v S) (K : ∀ M', cfrq M M' → ctx M' (tSolve Z S) → Q none M') : wc (kcs L xs) (d + 16) 142 [jR 31, jL v] M Q := by
  have ht := tot_36 (S := S) ho
  refine s142 (sp_startR (d := d + 14) ⟨by omega, by omega⟩ (fun M1 f1 e2 _ _ _ _ => s142_5 ?_))
  have c1 : ckn M1 11 Z := ckn_fr hc (fun b j h1 h2 => f1 b j (by omega))
  have h01 : M1 3 1 = 0 := by rw [f1 _ _ (by omega)]; exact h0
  have hO1 : o_ok M1 3 := by
    unfold o_ok
    rw [h01]
    omega
  have q1 : cfrq M M1 := fun b j h1 _ _ => f1 b j (by unfold csc at h1; omega)
  refine sp_cFindStep (d := d + 1) (w := 0) ho c1 hO1 hs hnb hv ⟨by omega, by omega⟩ e2 (fun M2 f2 a1 a2 a3 => s142_21 ?_)
  have hO2 : o_ok M2 3 := by
    unfold o_ok at hO1 ⊢
    rw [f2 _ _ (by omega)]
    exact hO1
  refine csv_loop (L := L) (xs := xs) (d := d) (Q := Q) (M0 := M1) ho 37 S v M2 _ 0 0 0 0 (by omega) (by omega) hs hv (ckn_fr c1 (fun b j h1 h2 => f2 b j (by omega))) hO2 (by rw [f2 _ _ (by omega)]; exact e2) f2 (by rw [if_neg hnb]) (fun _ => a1) (fun M3 v3 f3 hv3 hs3 => ?_)
  have h03 : M3 3 1 = 0 := by rw [f3 _ _ (by omega)]; exact h01
  have hO3 : o_ok M3 3 := by
    unfold o_ok
    rw [h03]
    omega
  have q3 : cfrq M M3 := cfrq_tr q1 (fun b j h1 _ _ => f3 b j (by unfold csc at h1; omega))
  have n1 := sCt_b (Z := Z) (S := S) 37 1
  have n2 := sCt_b (Z := Z) (S := S) 37 2
  have n3 := sCt_b (Z := Z) (S := S) 37 3
  rw [Int.zero_add, Int.zero_add, Int.zero_add]
  have body : ∀ hd : List Int, hd = eW (endZ Z (sRn Z 37 S).1) ++ [32] → wp (kcs L xs) (d + 16) 142 156 [some (jR 31), none, none, none, none, some (jI ((sCt (sRn Z 37 S) 1 : Nat) : Int)), some (jI ((sCt (sRn Z 37 S) 2 : Nat) : Int)), some (jI ((sCt (sRn Z 37 S) 3 : Nat) : Int)), none, none] [] (o_app M3 3 hd) Q := fun hd ehd => by
    have hO4 := o_ok_app (cs := hd) hO3
    refine s142_156 (s135 (sp_number (d := d + 13) out3 hO4 (by omega) (by omega) (s135_8 (sp_put out3 (o_ok_app hO4) ⟨by omega, by omega⟩ (s135_17 (sp_number (d := d + 13) out3 (o_ok_put (o_ok_app hO4)) (by omega) (by omega) (s135_25 (sp_put out3 (o_ok_app (o_ok_put (o_ok_app hO4))) ⟨by omega, by omega⟩ (s135_34 (sp_number (d := d + 13) out3 (o_ok_put (o_ok_app (o_ok_put (o_ok_app hO4)))) (by omega) (by omega) (s135_42 (s142_166 ?_))))))))))))
    have e : o_app (o_put (o_app (o_put (o_app (o_app M3 3 hd) 3 (dgs (sCt (sRn Z 37 S) 1 : Nat))) 3 32) 3 (dgs (sCt (sRn Z 37 S) 2 : Nat))) 3 32) 3 (dgs (sCt (sRn Z 37 S) 3 : Nat)) = o_app M3 3 (hd ++ dgs (sCt (sRn Z 37 S) 1 : Nat) ++ (32 :: dgs (sCt (sRn Z 37 S) 2 : Nat)) ++ (32 :: dgs (sCt (sRn Z 37 S) 3 : Nat))) := by
      rw [← o_app_app, ← o_app_app, ← o_app_app]
      rfl
    rw [e]
    have et : hd ++ dgs (sCt (sRn Z 37 S) 1 : Nat) ++ (32 :: dgs (sCt (sRn Z 37 S) 2 : Nat)) ++ (32 :: dgs (sCt (sRn Z 37 S) 3 : Nat)) = tSolve Z S := by
      unfold tSolve
      rw [ehd]
      simp
    rw [et]
    refine K _ (cfrq_tr q3 (cfrq_Ou fOu_app)) (ctx_cout h03 ?_ (cout_app hO3))
    unfold tSolve
    have d1 := dgs_len (v := (sCt (sRn Z 37 S) 1 : Nat))
    have d2 := dgs_len (v := (sCt (sRn Z 37 S) 2 : Nat))
    have d3 := dgs_len (v := (sCt (sRn Z 37 S) 3 : Nat))
    have w1 := eW_l (e := endZ Z (sRn Z 37 S).1)
    simp only [List.length_append, List.length_cons]
    omega
  have t1 : ([98, 114, 111, 107, 101, 110, 32] : List Int32).map Int32.toInt = wls 108243635103086 ++ [32] := by decide +kernel
  have t2 : ([115, 111, 108, 118, 101, 100, 32] : List Int32).map Int32.toInt = wls 126922398262628 ++ [32] := by decide +kernel
  have t3 : ([115, 116, 117, 99, 107, 32] : List Int32).map Int32.toInt = wls 495875089259 ++ [32] := by decide +kernel
  refine sp_isBroken (d := d + 14) ho hs3 hv3 (s142_131 ?_)
  by_cases hb : brk Z (sRn Z 37 S).1
  · rw [if_pos hb]
    refine ⟨⟨by omega, by omega⟩, fun h => by omega, fun _ => sp_puts (d := d + 11) out3 lt_1000109 hO3 (body _ ?_)⟩
    rw [t1]
    unfold eW endZ
    rw [if_pos hb, if_neg (by decide), if_neg (by decide)]
  · rw [if_neg hb]
    refine ⟨⟨by omega, by omega⟩, fun _ => sp_isFillingL (d := d + 14) ho hs3 hb hv3 (s142_143 ?_), fun h => absurd rfl h⟩
    by_cases hf : cCh Z (sRn Z 37 S).1 < 0
    · rw [if_pos hf]
      refine ⟨⟨by omega, by omega⟩, fun h => by omega, fun _ => sp_puts (d := d + 11) out3 lt_1000111 hO3 (body _ ?_)⟩
      rw [t2]
      unfold eW endZ
      rw [if_neg hb, if_pos hf, if_pos rfl]
    · rw [if_neg hf]
      refine ⟨⟨by omega, by omega⟩, fun _ => sp_puts (d := d + 11) out3 lt_1000113 hO3 (body _ ?_), fun h => absurd rfl h⟩
      rw [t3]
      unfold eW endZ
      rw [if_neg hb, if_neg hf, if_neg (by decide), if_pos rfl]
/-- what teaching may change -/
def fTc (M N : fx_M) : Prop := ∀ b j, ¬ (b = 31 ∧ (3 ≤ j ∧ j ≤ 7)) → ¬ (32 ≤ b ∧ b ≤ 33) → ¬ (b = 3 ∧ j = 1) → b ≠ 4 → N b j = M b j
theorem fTc_tr {M N O : fx_M} (h1 : fTc M N) (h2 : fTc N O) : fTc M O := fun b j a1 a2 a3 a4 => (h2 b j a1 a2 a3 a4).trans (h1 b j a1 a2 a3 a4)
theorem fTc_rf {M : fx_M} : fTc M M := fun _ _ _ _ _ _ => rfl
theorem fTc_Ou {M N : fx_M} (h : fOu M N) : fTc M N := fun b j _ _ a3 a4 => h b j a3 a4
theorem fTc_Sc {M N : fx_M} (h : fSc M N) : fTc M N := fun b j a1 _ _ _ => h b j a1
theorem ckn_Tc {M N : fx_M} (hc : ckn M 11 Z) (h : fTc M N) : ckn N 11 Z := ckn_fr hc (fun b j h1 h2 => h b j (by omega) (by omega) (by omega) (by omega))
theorem cfrq_Tc {M N : fx_M} (h : fTc M N) : cfrq M N := fun b j h1 h2 h3 => by
  unfold csc at h1
  exact h b j (by omega) (by omega) h2 h3
theorem sp_writeStep {M : fx_M} (ho : pz_ok Z) (hc : ckn M 11 Z) (hO : o_ok M 3) (hs : s_ok Z S) (hnb : ¬ brk Z S) {v : Int} (hv : sta v S) (h2 : M 31 2 = 1) (hk : (fSt Z S).1 ≠ 0) (h5 : M 31 5 = (fSt Z S).2.2.2.1) (h6 : M 31 6 = ((fSt Z S).2.2.2.2 : Nat)) (h3 : (fSt Z S).1 = 1 ∨ (fSt Z S).1 = 2 → M 31 3 = ((fSt Z S).2.1 : Nat)) (h4 : (fSt Z S).1 = 2 → M 31 4 = (fSt Z S).2.2.1) (K : ∀ M', fTc M M' → cout M M' (stT Z S) → Q none M') : wc (kcs L xs) (d + 5) 144 [jR 31, jL v, jI ((fSt Z S).1 : Nat)] M Q := by
  have h9 := pz_n ho
  obtain ⟨a1, a2, a3, a4, a5, a6, a7⟩ := fSt_in ho hk
  refine s144 ⟨⟨by omega, by omega⟩, fun h3' => ?_, fun h3' => ⟨⟨by omega, by omega⟩, ?_⟩⟩
  · have e3 : (fSt Z S).1 = 3 := by omega
    obtain ⟨cn, hcn⟩ : ∃ cn : Nat, (fSt Z S).2.2.2.1 = (cn : Int) := ⟨(fSt Z S).2.2.2.1.toNat, by omega⟩
    have est : stT Z S = (gOn Z 37 (s_only S cn (fSt Z S).2.2.2.2)).2.2 ++ tDone [((cn : Int), (fSt Z S).2.2.2.2)] := by
      unfold stT
      rw [if_neg (by omega), hcn, Int.toNat_natCast]
    rw [hcn, Int.toNat_natCast] at a5
    rw [hcn] at a3 h5
    have hsy : ((fSt Z S).2.2.2.2 : Int) < Z.2.2.1 := sLt_bit ho (s_ok_lt ho hs) (c := cn) a3 a5
    rw [h5, h6]
    have fu : ∀ b j, ¬ (32 ≤ b ∧ b ≤ 33) → (fx_up (fx_up M 32 0 (cn : Int)) 33 0 ((fSt Z S).2.2.2.2 : Nat)) b j = M b j := fun b j hb => by rw [fx_up_ne (by omega), fx_up_ne (by omega)]
    have t1 : fTc M (fx_up (fx_up M 32 0 (cn : Int)) 33 0 ((fSt Z S).2.2.2.2 : Nat)) := fun b j _ hb _ _ => fu b j hb
    have hO1 : o_ok (fx_up (fx_up M 32 0 (cn : Int)) 33 0 ((fSt Z S).2.2.2.2 : Nat)) 3 := by
      unfold o_ok at hO ⊢
      rw [fu _ _ (by omega)]
      exact hO
    refine sp_only (d := d + 3) hv ⟨by omega, by omega⟩ ⟨by omega, by omega⟩ (fun u hu => s144_56 ?_)
    rw [Int.toNat_natCast, Int.toNat_natCast] at hu
    refine sp_goOn ho (w := 1) ⟨by omega, by omega⟩ (only_nb hnb) (s_only_ok hs a3 hsy) hu (ckn_Tc hc t1) (by rw [fu _ _ (by omega)]; exact h2) hO1 (fun M2 u2 f2 _ _ _ o2 => s144_59 ?_)
    rw [if_pos rfl] at o2
    have hch : cchs M2 [((cn : Int), (fSt Z S).2.2.2.2)] := fun i q hq => by
      cases i with
      | zero =>
        rw [List.getElem?_cons_zero] at hq
        cases hq
        refine ⟨?_, ?_, by omega, by omega, a4⟩
        · show M2 32 0 = (cn : Int)
          rw [f2 _ _ (by omega) (by omega) (by decide), fx_up_na (by decide), fx_up_self]
        · show M2 33 0 = ((fSt Z S).2.2.2.2 : Int)
          rw [f2 _ _ (by omega) (by omega) (by decide), fx_up_self]
      | succ i => simp at hq
    refine sp_writeChoices (d := d + 2) (ch := [((cn : Int), (fSt Z S).2.2.2.2)]) hch (by simp) o2.ok (fun M3 o3 f3 => s144_65 (K M3 (fTc_tr t1 (fTc_tr (fun b j b1 b2 b3 b4 => f2 b j (by omega) b3 b4) (fTc_Ou f3))) ?_))
    rw [est]
    have o1 := cout_fr (M := M) (N := fx_up (fx_up M 32 0 (cn : Int)) 33 0 ((fSt Z S).2.2.2.2 : Nat)) hO (fu _ _ (by omega)) (fun j => fu _ _ (by omega))
    have o4 := cout_tr o1 (cout_tr o2 o3)
    rw [List.nil_append] at o4
    exact o4
  · obtain ⟨R, r1, r2, r3⟩ := a6 (by omega)
    have est : stT Z S = tRs Z S R (secR Z (fSt Z S).2.2.1) (fSt Z S).2.1 (fSt Z S).2.2.1 (fSt Z S).2.2.2.1 (fSt Z S).2.2.2.2 := by
      unfold stT
      rw [if_pos (by omega), rl_of r1]
    rw [est] at K
    have hx : ((if (((fSt Z S).1 : Nat) : Int) = 2 then (1 : Int) else 0) = 0 ∧ secR Z (fSt Z S).2.2.1 = none) ∨ ((if (((fSt Z S).1 : Nat) : Int) = 2 then (1 : Int) else 0) = 1 ∧ 0 ≤ (fSt Z S).2.2.1) := by
      by_cases e1 : (fSt Z S).1 = 1
      · refine Or.inl ⟨if_neg (by omega), ?_⟩
        unfold secR
        rw [if_pos (by have := r3.mp e1; omega)]
      · have e2 : (fSt Z S).1 = 2 := by omega
        exact Or.inr ⟨if_pos (by omega), (fSt_q ho e2).1⟩
    refine sp_writeReason (d := d + 2) ho hc.1 hs hv r1 r2 hx (h3 (by omega)) (fun hq => h4 ?_) h5 h6 ⟨a2, a3⟩ a4 hO (fun M2 o2 f2 => s144_20 (K M2 (fTc_Ou f2) o2))
    have : ¬ (fSt Z S).1 = 1 := fun e => by
      have := r3.mp e
      omega
    omega
theorem cte_loop (ho : pz_ok Z) {M0 : fx_M} (h00 : M0 3 1 = 0) : ∀ (k : Nat) (S : Nat → Nat) (v : Int) (M : fx_M) (v3 : Int) (n : Nat) (cs : List Int), totS S (Z.1 * Z.2.1).toNat < k → n + totS S (Z.1 * Z.2.1).toNat ≤ 36 → s_ok Z S → sta v S → ckn M 11 Z → M 31 2 = 1 → fTc M0 M → cout M0 M cs → v3 = (if brk Z S then 0 else ((fSt Z S).1 : Int)) → (¬ brk Z S → ((fSt Z S).1 ≠ 0 → M 31 5 = (fSt Z S).2.2.2.1 ∧ M 31 6 = ((fSt Z S).2.2.2.2 : Nat)) ∧ ((fSt Z S).1 = 1 ∨ (fSt Z S).1 = 2 → M 31 3 = ((fSt Z S).2.1 : Nat)) ∧ ((fSt Z S).1 = 2 → M 31 4 = (fSt Z S).2.2.1)) → (∀ M' v' S', fTc M0 M' → o_ok M' 3 → sta v' S' → s_ok Z S' → ((S' = (sRn Z k S).1 ∧ cout M0 M' (cs ++ (sRn Z k S).2.2.2.2)) ∨ (3000 < M' 3 1 ∧ 3000 < (cs ++ (sRn Z k S).2.2.2.2).length)) → wc (kcs L xs) (d + 15) 114 [jL v'] M' (fun u M1 => wp (kcs L xs) (d + 16) 143 104 [some (jR 31), some (jL v'), none, none, none, none, none] (u.toList ++ []) M1 Q)) → wp (kcs L xs) (d + 16) 143 26 [some (jR 31), some (jL v), none, some (jI v3), some (jI (n : Nat)), none, none] [] M Q := by
  have h9 := pz_n ho
  intro k
  induction k with
  | zero =>
    intro S v M v3 n cs hk
    omega
  | succ k ih =>
    intro S v M v3 n cs hk hn hs hv hc h2 hf ho1 hv3 hfd K
    have hO := ho1.ok
    by_cases hb : brk Z S ∨ (fSt Z S).1 = 0
    · have v0 : v3 = 0 := by
        rw [hv3]
        split
        · rfl
        · next hnb =>
          rcases hb with h | h
          · exact absurd h hnb
          · rw [h]
            rfl
      rw [sRn_end hb] at K
      have KK := K M v S hf hO hv hs (Or.inl ⟨rfl, by rw [List.append_nil]; exact ho1⟩)
      subst v0
      exact s143_26 ⟨⟨by omega, by omega⟩, fun _ => KK, fun _ => ⟨⟨by omega, by omega⟩, fun _ => KK, fun h => absurd rfl h⟩⟩
    · have hnb : ¬ brk Z S := fun h => hb (Or.inl h)
      have hf0 : (fSt Z S).1 ≠ 0 := fun h => hb (Or.inr h)
      have htp := totS_pos ho hs hnb
      obtain ⟨g1, g2, g3⟩ := sRn_go (k := k) hb
      obtain ⟨a1, a2, a3, a4, a5, a6, a7⟩ := fSt_in ho hf0
      rw [if_neg hnb] at hv3
      obtain ⟨b0, b3, b4⟩ := hfd hnb
      obtain ⟨b1, b2⟩ := b0 hf0
      subst hv3
      refine s143_26 ⟨⟨by omega, by omega⟩, fun h => by omega, fun _ => ⟨⟨by omega, by omega⟩, fun h => by omega, fun _ => ?_⟩⟩
      refine sp_writeStep (d := d + 10) ho hc hO hs hnb hv h2 hf0 b1 b2 b3 b4 (fun M1 f1 o1 => s143_55 ?_)
      obtain ⟨cn, hcn⟩ : ∃ cn : Nat, (fSt Z S).2.2.2.1 = (cn : Int) := ⟨(fSt Z S).2.2.2.1.toNat, by omega⟩
      rw [hcn, Int.toNat_natCast] at a5 g1 g2
      rw [hcn] at b1 a3
      rw [b1, b2]
      have htot := totS_wo (S := S) a4 (s_ok_16 ho hs (c := cn) (by omega)) a5 (Z.1 * Z.2.1).toNat
      rw [if_pos (by omega)] at htot
      have hs1 := s_wo_ok (s := (fSt Z S).2.2.2.2) hs a3
      have hv1 := sta_wo hv (c := (cn : Int)) (s := ((fSt Z S).2.2.2.2 : Nat)) ⟨by omega, by omega⟩ ⟨by omega, by omega⟩
      rw [Int.toNat_natCast, Int.toNat_natCast] at hv1
      have o01 := cout_tr ho1 o1
      have f01 := fTc_tr hf f1
      have c1 := ckn_Tc hc f1
      have e21 : M1 31 2 = 1 := by rw [f1 _ _ (by omega) (by omega) (by omega) (by decide)]; exact h2
      have KK : ∀ M' v' S', fTc M0 M' → o_ok M' 3 → sta v' S' → s_ok Z S' → ((S' = (sRn Z k (s_wo S cn (fSt Z S).2.2.2.2)).1 ∧ cout M0 M' (cs ++ stT Z S ++ (sRn Z k (s_wo S cn (fSt Z S).2.2.2.2)).2.2.2.2)) ∨ (3000 < M' 3 1 ∧ 3000 < (cs ++ stT Z S ++ (sRn Z k (s_wo S cn (fSt Z S).2.2.2.2)).2.2.2.2).length)) → wc (kcs L xs) (d + 15) 114 [jL v'] M' (fun u M1 => wp (kcs L xs) (d + 16) 143 104 [some (jR 31), some (jL v'), none, none, none, none, none] (u.toList ++ []) M1 Q) := fun M' v' S' q1 q2 q3 q4 q5 => by
        rw [List.append_assoc, ← g2, ← g1] at q5
        exact K M' v' S' q1 q2 q3 q4 q5
      refine s113 (s143_63 (sp_isBroken (d := d + 14) ho hs1 hv1 (s143_68 ?_)))
      have hO1 := o01.ok
      have hO1' := hO1
      unfold o_ok at hO1'
      rw [fx_ol3] at hO1'
      by_cases hb1 : brk Z (s_wo S cn (fSt Z S).2.2.2.2)
      · rw [if_pos hb1]
        refine ⟨⟨by omega, by omega⟩, fun _ => ?_, fun h => by omega⟩
        have nx := ih _ _ M1 0 (n + 1) (cs ++ stT Z S) (by omega) (by omega) hs1 hv1 c1 e21 f01 o01 (by rw [if_pos hb1]) (fun h => absurd hb1 h) KK
        rw [show ((n + 1 : Nat) : Int) = (n : Int) + 1 by omega] at nx
        exact nx
      · rw [if_neg hb1]
        refine ⟨⟨by omega, by omega⟩, fun h => absurd rfl h, fun _ => ⟨⟨by omega, by omega⟩, fun hle => ?_, fun hgt => ?_⟩⟩
        · refine sp_cFindStep (d := d + 1) (w := 1) ho c1 hO1 hs1 hb1 hv1 ⟨by omega, by omega⟩ e21 (fun M2 f2 x1 x2 x3 => s143_93 ?_)
          have o02 := cout_0 (cout_tr o01 (cout_fr (N := M2) hO1 (f2 _ _ (by omega)) (fun j => f2 _ _ (by omega))))
          have nx := ih _ _ M2 _ (n + 1) (cs ++ stT Z S) (by omega) (by omega) hs1 hv1 (ckn_Tc c1 (fTc_Sc f2)) (by rw [f2 _ _ (by omega)]; exact e21) (fTc_tr f01 (fTc_Sc f2)) o02 (by rw [if_neg hb1]) (fun _ => ⟨x1, x2, x3⟩) KK
          rw [show ((n + 1 : Nat) : Int) = (n : Int) + 1 by omega] at nx
          exact nx
        · have hlen : 3000 < (cs ++ stT Z S ++ (sRn Z k (s_wo S cn (fSt Z S).2.2.2.2)).2.2.2.2).length := by
            rw [List.length_append]
            by_cases hle : M0 3 1 + ((cs ++ stT Z S).length : Int) ≤ 5600
            · have := (o01.ex hle).1
              rw [o_app_l3 hle] at this
              omega
            · omega
          have fin := KK M1 _ _ f01 hO1 hv1 hs1 (Or.inr ⟨hgt, hlen⟩)
          refine s143_26 ⟨⟨by omega, by omega⟩, fun _ => fin, fun _ => ⟨⟨by omega, by omega⟩, fun _ => fin, fun h => absurd rfl h⟩⟩
theorem sp_teach {M : fx_M} (ho : pz_ok Z) (hc : ckn M 11 Z) (h0 : M 3 1 = 0) (K : ∀ M', cfrq M M' → ctx M' (tLesson Z) → Q none M') : wc (kcs L xs) (d + 16) 143 [jR 31] M Q := by
  have ht := tot_36 (S := s_first Z) ho
  have hg := tGvs_72 ho
  unfold tLesson at K
  refine s143 (sp_startR (d := d + 14) ⟨by omega, by omega⟩ (fun M1 f1 e2 _ _ _ e11 => s143_5 ?_))
  have c1 : ckn M1 11 Z := ckn_fr hc (fun b j h1 h2 => f1 b j (by omega))
  have h01 : M1 3 1 = 0 := by rw [f1 _ _ (by omega)]; exact h0
  have hO1 : o_ok M1 3 := by
    unfold o_ok
    rw [h01]
    omega
  have q1 : cfrq M M1 := fun b j h1 _ _ => f1 b j (by unfold csc at h1; omega)
  -- the end
  have fin : ∀ M6, fTc M1 M6 → o_ok M6 3 → (cout M1 M6 (tLes Z) ∨ (3000 < M6 3 1 ∧ 3000 < (tLes Z).length)) → wc (kcs L xs) (d + 15) 119 [jR 31] M6 (fun u N => wp (kcs L xs) (d + 16) 143 136 [some (jR 31), none, none, none, none, none, none] (u.toList ++ []) N Q) := fun M6 f6 hO6 h6 => by
    have q6 := cfrq_tr q1 (cfrq_Tc f6)
    have e6 : M6 31 11 = 0 := by rw [f6 _ _ (by omega) (by omega) (by omega) (by decide)]; exact e11
    have hO6' := hO6
    unfold o_ok at hO6'
    rw [fx_ol3] at hO6'
    refine s119 ?_
    rw [e6]
    refine ⟨⟨by omega, by omega⟩, fun h => absurd rfl h, fun _ => ⟨⟨by omega, by omega⟩, fun hle => s143_136 ?_, fun hgt => sp_clearLong (d := d + 8) (fun M7 f7 t7 => s143_136 ?_)⟩⟩
    · have hT : (tLes Z).length ≤ 3000 ∧ ctx M6 (tLes Z) := by
        rcases h6 with h | h
        · by_cases hl : (tLes Z).length ≤ 5600
          · have := ctx_cout h01 hl h
            exact ⟨by have := this.1; omega, this⟩
          · have := h.ov (by omega)
            omega
        · omega
      rw [if_pos hT.1] at K
      refine ⟨⟨by omega, by omega⟩, fun hn => ?_, fun hz => ?_⟩
      · rw [if_neg (by have := hT.2.1; omega)] at K
        exact K M6 q6 hT.2
      · rw [if_pos (by have := hT.2.1; omega)] at K
        exact sp_put (d := d + 14) out3 hO6 ⟨by omega, by omega⟩ (s143_155 (K _ (cfrq_tr q6 (cfrq_Ou fOu_put)) (ctx_cout hz (by decide) (cout_put hO6))))
    · have hT : ¬ (tLes Z).length ≤ 3000 := by
        rcases h6 with h | h
        · intro hl
          have := (ctx_cout h01 (by omega) h).1
          omega
        · omega
      rw [if_neg hT] at K
      have e7 := t7.1
      have l7 : tLong.length = 4 := by decide +kernel
      rw [l7] at e7
      exact ⟨⟨by omega, by omega⟩, fun _ => K M7 (cfrq_tr q6 (cfrq_Ou f7)) t7, fun h => by omega⟩
  refine sp_writeGivens (d := d + 13) ho c1.1 hO1 (fun M2 o2 f2 => s143_9 ?_)
  have c2 := ckn_Ou c1 f2
  have e22 : M2 31 2 = 1 := by rw [f2 _ _ (by omega) (by decide)]; exact e2
  refine sp_first (d := d + 13) puz11 c2.1 ho (fun v hv => s143_16 ?_)
  refine sp_cFindStep (d := d + 1) (w := 1) ho c2 o2.ok (s_first_ok ho) (s_first_nb ho) hv ⟨by omega, by omega⟩ e22 (fun M3 f3 x1 x2 x3 => s143_22 ?_)
  have o03 := cout_0 (cout_tr o2 (cout_fr (N := M3) o2.ok (f3 _ _ (by omega)) (fun j => f3 _ _ (by omega))))
  refine cte_loop (L := L) (xs := xs) (d := d) (Q := Q) (M0 := M1) ho h01 37 (s_first Z) v M3 _ 0 (tGvs Z) (by omega) (by omega) (s_first_ok ho) hv (ckn_Tc c2 (fTc_Sc f3)) (by rw [f3 _ _ (by omega)]; exact e22) (fTc_tr (fTc_Ou f2) (fTc_Sc f3)) o03 (by rw [if_neg (s_first_nb ho)]) (fun _ => ⟨x1, x2, x3⟩) (fun M4 v4 S4 f4 hO4 hv4 hs4 h4 => ?_)
  have c4 := ckn_Tc c1 f4
  -- a text behind a longer one
  have more : ∀ {M5 : fx_M} {ds : List Int}, cout M4 M5 ds → (S4 = (sRn Z 37 (s_first Z)).1 → tGvs Z ++ (sRn Z 37 (s_first Z)).2.2.2.2 ++ ds = tLes Z) → (cout M1 M5 (tLes Z) ∨ (3000 < M5 3 1 ∧ 3000 < (tLes Z).length)) := fun {M5 ds} h e => by
    rcases h4 with ⟨p1, p2⟩ | ⟨p1, p2⟩
    · left
      rw [← e p1]
      exact cout_tr p2 h
    · right
      refine ⟨by have := h.mo; omega, ?_⟩
      unfold tLes
      rw [List.length_append, List.length_append]
      omega
  have nil_ch : ∀ N : fx_M, cchs N [] := fun N i q hq => by simp at hq
  refine sp_isBroken (d := d + 14) ho hs4 hv4 (s143_104 ?_)
  by_cases hb : brk Z S4
  · rw [if_pos hb]
    refine ⟨⟨by omega, by omega⟩, fun h => by omega, fun _ => sp_writeChoices (d := d + 13) (ch := []) (nil_ch _) (by decide) hO4 (fun M5 o5 f5 => s143_112 (fin M5 (fTc_tr f4 (fTc_Ou f5)) o5.ok (more o5 (fun e => ?_))))⟩
    have ee : endZ Z (sRn Z 37 (s_first Z)).1 = 2 := by
      unfold endZ
      rw [← e, if_pos hb]
    unfold tLes
    rw [ee, if_neg (by decide), if_pos (by decide), List.append_nil]
  · rw [if_neg hb]
    refine ⟨⟨by omega, by omega⟩, fun _ => sp_isFillingL (d := d + 14) ho hs4 hb hv4 (s143_119 ?_), fun h => absurd rfl h⟩
    by_cases hf : cCh Z S4 < 0
    · rw [if_pos hf]
      refine ⟨⟨by omega, by omega⟩, fun h => by omega, fun _ => sp_writeLeaf (d := d + 13) ho c4.1 hs4 hb hf hv4 hO4 (fun M5 o5 f5 => s143_127 (sp_writeChoices (d := d + 13) (ch := []) (nil_ch _) (by decide) o5.ok (fun M6 o6 f6 => s143_132 (fin M6 (fTc_tr f4 (fTc_tr (fTc_Ou f5) (fTc_Ou f6))) o6.ok (more (cout_tr o5 o6) (fun e => ?_))))))⟩
      have ee : endZ Z (sRn Z 37 (s_first Z)).1 = 1 := by
        unfold endZ
        rw [← e, if_neg hb, if_pos hf]
      unfold tLes
      rw [ee, if_pos rfl, if_pos (by decide), e]
      simp only [List.append_assoc]
    · rw [if_neg hf]
      refine ⟨⟨by omega, by omega⟩, fun _ => fin M4 f4 hO4 (more (cout_rf hO4) (fun e => ?_)), fun h => absurd rfl h⟩
      have ee : endZ Z (sRn Z 37 (s_first Z)).1 = 0 := by
        unfold endZ
        rw [← e, if_neg hb, if_neg hf]
      unfold tLes
      rw [ee, if_neg (by decide), if_neg (by decide)]
      simp only [List.append_nil]
end CSV
