/-! The class: leaf, choices and givens as lines; a node and all behind it. -/
section CVI
variable {kc : List va_E} {L : Nat} {xs : Nat → Int32} {d : Nat} {Q : Option fx_V → fx_M → Prop} {Z : PZ} {S : Nat → Nat}
/-- a filled cell's symbol -/
theorem pop1_pow : ∀ m : Fin 16, (m : Nat) ≠ 0 → pop4 (m : Nat) ≤ 1 → lowb (m : Nat) < 4 ∧ (m : Nat) = 2 ^ lowb (m : Nat) := by decide +kernel
theorem cl_lf (ho : pz_ok Z) {M0 : fx_M} (hc0 : cz M0 11 Z) (hs : s_ok Z S) (hnb : ¬ brk Z S) (hfil : cCh Z S < 0) {v : Int} (hv : sta v S) {cs : List Int} (K : ∀ M', cout M0 M' cs → fOu M0 M' → wc kc (d + 1) 69 [jR 3, jI 59] M' (fun w M1 => wp kc (d + 2) 117 52 [none, none, none, none] (w.toList ++ []) M1 Q)) : ∀ (t c : Nat) (M : fx_M) (ds : List Int), (c : Int) + t = Z.1 * Z.2.1 → cout M0 M ds → fOu M0 M → ds ++ (List.range' c t).flatMap (fun (c : Nat) => lit 45 (c : Int) (lowb (S c))) = cs → wp kc (d + 2) 117 11 [some (jR 31), some (jL v), none, some (jI c)] [] M Q := by
  have h9 := pz_n ho
  intro t
  induction t with
  | zero =>
    intro c M ds hc ho1 hf he
    have he : ds = cs := by rw [← he]; simp
    subst he
    refine s117_11 ?_
    rw [hf 11 2 (by omega) (by decide), hc0.2.2.1]
    exact ⟨⟨⟨by omega, by omega⟩, ⟨by omega, by omega⟩⟩, fun _ => K M ho1 hf, fun h => by omega⟩
  | succ t ih =>
    intro c M ds hc ho1 hf he
    rw [List.range'_succ, List.flatMap_cons] at he
    have h16 := s_ok_16 ho hs (c := c) (by omega)
    have hne : S c ≠ 0 := fun h => hnb (brk_iff.mpr ⟨c, by omega, h⟩)
    obtain ⟨p1, p2⟩ := pop1_pow ⟨S c, h16⟩ hne (cCh_neg hfil c (by omega))
    simp only at p1 p2
    refine s117_11 ?_
    rw [hf 11 2 (by omega) (by decide), hc0.2.2.1]
    refine ⟨⟨⟨by omega, by omega⟩, ⟨by omega, by omega⟩⟩, fun h => by omega, fun _ => sp_may hv ⟨by omega, by omega⟩ (by rw [Int.toNat_natCast]; exact h16) (s117_34 ?_)⟩
    rw [Int.toNat_natCast]
    refine sp_literals ho1.ok ⟨by omega, by omega⟩ ⟨by omega, by omega⟩ h16 (fun M2 o2 f2 => s117_37 ?_)
    have et : tLt 45 (c : Int) (S c) = lit 45 (c : Int) (lowb (S c)) := by
      rw [show tLt 45 (c : Int) (S c) = tLt 45 (c : Int) (2 ^ lowb (S c)) by rw [← p2]]
      exact tLt_pow 45 (c : Int) ⟨lowb (S c), p1⟩
    rw [et] at o2
    have nx := ih (c + 1) M2 (ds ++ lit 45 (c : Int) (lowb (S c))) (by omega) (cout_tr ho1 o2) (fOu_tr hf f2) (by rw [List.append_assoc]; exact he)
    rw [show ((c + 1 : Nat) : Int) = (c : Int) + 1 by omega] at nx
    exact nx
theorem sp_writeLeaf (ho : pz_ok Z) {M : fx_M} (hc : cz M 11 Z) (hs : s_ok Z S) (hnb : ¬ brk Z S) (hfil : cCh Z S < 0) {v : Int} (hv : sta v S) (hO : o_ok M 3) (K : ∀ M', cout M M' (tLeaf Z S) → fOu M M' → Q none M') : wc kc (d + 2) 117 [jR 31, jL v] M Q := by
  have h9 := pz_n ho
  refine s117 (sp_put out3 hO ⟨by omega, by omega⟩ (s117_9 ?_))
  refine cl_lf (d := d) ho hc hs hnb hfil hv (cs := [98] ++ (List.range (Z.1 * Z.2.1).toNat).flatMap (fun (c : Nat) => lit 45 (c : Int) (lowb (S c)))) (fun M' o1 f1 => sp_put out3 o1.ok ⟨by omega, by omega⟩ (s117_52 (K _ (cout_tr o1 (cout_put o1.ok)) (fOu_tr f1 fOu_put)))) (Z.1 * Z.2.1).toNat 0 (o_put M 3 98) [98] (by omega) (cout_put hO) fOu_put (by rw [List.range_eq_range'])
/-- the choices so far -/
def cchs (M : fx_M) (ch : List (Int × Nat)) : Prop := ∀ (i : Nat) (q : Int × Nat), ch[i]? = some q → M 32 (i : Int) = q.1 ∧ M 33 (i : Int) = (q.2 : Int) ∧ 0 ≤ q.1 ∧ q.1 < 9 ∧ q.2 < 4
theorem wch_loop {M0 : fx_M} {ch : List (Int × Nat)} (hc : cchs M0 ch) (h10 : ch.length ≤ 9) {cs : List Int} (K : ∀ M', cout M0 M' cs → fOu M0 M' → wc kc (d + 1) 69 [jR 3, jI 59] M' (fun w M1 => wp kc (d + 2) 118 54 [none, none, none] (w.toList ++ []) M1 Q)) : ∀ (t i : Nat) (M : fx_M) (ds : List Int), i + t = ch.length → cout M0 M ds → fOu M0 M → ds ++ (ch.drop i).flatMap (fun q => lit 45 q.1 q.2) = cs → wp kc (d + 2) 118 11 [some (jR 31), some (jI (ch.length : Nat)), some (jI i)] [] M Q := by
  intro t
  induction t with
  | zero =>
    intro i M ds hi ho1 hf he
    rw [List.drop_eq_nil_of_le (by omega)] at he
    have he : ds = cs := by rw [← he]; simp
    subst he
    exact s118_11 ⟨⟨⟨by omega, by omega⟩, ⟨by omega, by omega⟩⟩, fun _ => K M ho1 hf, fun h => by omega⟩
  | succ t ih =>
    intro i M ds hi ho1 hf he
    have hil : i < ch.length := by omega
    obtain ⟨a1, a2, a3, a4, a5⟩ := hc i _ (List.getElem?_eq_getElem hil)
    rw [List.drop_eq_getElem_cons hil, List.flatMap_cons] at he
    refine s118_11 ⟨⟨⟨by omega, by omega⟩, ⟨by omega, by omega⟩⟩, fun h => by omega, fun _ => ⟨⟨by omega, by omega⟩, ⟨by omega, by omega⟩, ?_⟩⟩
    rw [hf 32 _ (by omega) (by decide), hf 33 _ (by omega) (by decide), a1, a2, fx_shl_1 ⟨by omega, by omega⟩, Int.toNat_natCast]
    refine sp_literals ho1.ok ⟨by omega, by omega⟩ ⟨by omega, by omega⟩ (pow_16 ⟨(ch[i]).2, a5⟩) (fun M2 o2 f2 => s118_39 ?_)
    rw [show tLt 45 (ch[i]).1 (2 ^ (ch[i]).2) = lit 45 (ch[i]).1 (ch[i]).2 from tLt_pow 45 _ ⟨(ch[i]).2, a5⟩] at o2
    have nx := ih (i + 1) M2 (ds ++ lit 45 (ch[i]).1 (ch[i]).2) (by omega) (cout_tr ho1 o2) (fOu_tr hf f2) (by rw [List.append_assoc]; exact he)
    rw [show ((i + 1 : Nat) : Int) = (i : Int) + 1 by omega] at nx
    exact nx
theorem sp_writeChoices {M : fx_M} {ch : List (Int × Nat)} (hc : cchs M ch) (h10 : ch.length ≤ 9) (hO : o_ok M 3) (K : ∀ M', cout M M' (tDone ch) → fOu M M' → Q none M') : wc kc (d + 2) 118 [jR 31, jI (ch.length : Nat)] M Q := by
  refine s118 (sp_put out3 hO ⟨by omega, by omega⟩ (s118_9 ?_))
  exact wch_loop (d := d) hc h10 (cs := [117] ++ ch.flatMap (fun q => lit 45 q.1 q.2)) (fun M' o1 f1 => sp_put out3 o1.ok ⟨by omega, by omega⟩ (s118_54 (K _ (cout_tr o1 (cout_put o1.ok)) (fOu_tr f1 fOu_put)))) ch.length 0 (o_put M 3 117) [117] (by omega) (cout_put hO) fOu_put (by rw [List.drop_zero])
theorem wg_loop (ho : pz_ok Z) {M0 : fx_M} (hc0 : cz M0 11 Z) {cs : List Int} (K : ∀ M', cout M0 M' cs → fOu M0 M' → Q none M') : ∀ (t c : Nat) (M : fx_M) (ds : List Int), (c : Int) + t = Z.1 * Z.2.1 → cout M0 M ds → fOu M0 M → ds ++ (List.range' c t).flatMap (tG1 Z) = cs → wp kc (d + 2) 106 2 [some (jR 31), some (jI c)] [] M Q := by
  have h9 := pz_n ho
  intro t
  induction t with
  | zero =>
    intro c M ds hc ho1 hf he
    have he : ds = cs := by rw [← he]; simp
    subst he
    refine s106_2 ?_
    rw [hf 11 2 (by omega) (by decide), hc0.2.2.1]
    exact ⟨⟨⟨by omega, by omega⟩, ⟨by omega, by omega⟩⟩, fun _ => K M ho1 hf, fun h => by omega⟩
  | succ t ih =>
    intro c M ds hc ho1 hf he
    rw [List.range'_succ, List.flatMap_cons] at he
    have hg := gv_b ho (c := c)
    have e17 : M 17 (c : Int) = gv Z c := by
      rw [hf 17 _ (by omega) (by decide)]
      exact cz_gv hc0 (by omega)
    refine s106_2 ?_
    rw [hf 11 2 (by omega) (by decide), hc0.2.2.1, e17]
    refine ⟨⟨⟨by omega, by omega⟩, ⟨by omega, by omega⟩⟩, fun h => by omega, fun _ => ⟨⟨by omega, by omega⟩, ⟨by omega, by omega⟩, fun hn => ?_, fun hp => ?_⟩⟩
    · have e0 : tG1 Z c = [] := by
        unfold tG1
        rw [if_pos hn]
      rw [e0, List.nil_append] at he
      have nx := ih (c + 1) M ds (by omega) ho1 hf he
      rw [show ((c + 1 : Nat) : Int) = (c : Int) + 1 by omega] at nx
      exact nx
    · refine sp_put out3 ho1.ok ⟨by omega, by omega⟩ (s106_34 (sp_number out3 (o_ok_put ho1.ok) (by omega) (by omega) (s106_42 ?_)))
      have e1 : o_app (o_put M 3 103) 3 (dgs (c : Int)) = o_app M 3 ([103] ++ dgs (c : Int)) := rfl
      rw [e1, o_app_n3 (b := 17) (by omega) (by decide), e17]
      obtain ⟨g, eg⟩ : ∃ g : Nat, gv Z c = (g : Int) := ⟨(gv Z c).toNat, by omega⟩
      have o1 := cout_tr ho1 (cout_app (cs := [103] ++ dgs (c : Int)) ho1.ok)
      have f1 := fOu_tr hf (fOu_app (M := M) (cs := [103] ++ dgs (c : Int)))
      refine ⟨⟨by omega, by omega⟩, ?_⟩
      rw [eg, fx_shl_1 ⟨by omega, by omega⟩, Int.toNat_natCast]
      refine sp_literals o1.ok ⟨by omega, by omega⟩ ⟨by omega, by omega⟩ (pow_16 ⟨g, by omega⟩) (fun M2 o2 f2 => s106_63 ?_)
      rw [show tLt 43 (c : Int) (2 ^ g) = lit 43 (c : Int) g from tLt_pow 43 (c : Int) ⟨g, by omega⟩] at o2
      have o12 := cout_tr o1 o2
      refine sp_put out3 o12.ok ⟨by omega, by omega⟩ (s106_72 ?_)
      have o3 := cout_tr o12 (cout_put (c := 59) o12.ok)
      have et : [103] ++ dgs (c : Int) ++ lit 43 (c : Int) g ++ [59] = tG1 Z c := by
        unfold tG1
        rw [if_neg (by omega), eg, Int.toNat_natCast]
      have nx := ih (c + 1) (o_put M2 3 59) (ds ++ tG1 Z c) (by omega) (by rw [← et]; simp only [← List.append_assoc] at o3 ⊢; exact o3) (fOu_tr f1 (fOu_tr f2 fOu_put)) (by rw [List.append_assoc]; exact he)
      rw [show ((c + 1 : Nat) : Int) = (c : Int) + 1 by omega] at nx
      exact nx
theorem sp_writeGivens (ho : pz_ok Z) {M : fx_M} (hc : cz M 11 Z) (hO : o_ok M 3) (K : ∀ M', cout M M' (tGvs Z) → fOu M M' → Q none M') : wc kc (d + 2) 106 [jR 31] M Q := by
  have h9 := pz_n ho
  exact s106 (wg_loop ho hc K (Z.1 * Z.2.1).toNat 0 M [] (by omega) (cout_rf hO) fOu_rf (by rw [tGvs_r]; rfl))
/-- what visiting at depth dp may change -/
def fVs (dp : Nat) (M N : fx_M) : Prop := ∀ b j, ¬ (b = 31 ∧ (j = 3 ∨ j = 5 ∨ j = 6 ∨ j = 7 ∨ (j = 8 ∧ dp = 0) ∨ j = 9 ∨ j = 10 ∨ j = 11)) → ¬ (32 ≤ b ∧ b ≤ 33 ∧ (dp : Int) ≤ j) → ¬ (b = 3 ∧ j = 1) → b ≠ 4 → N b j = M b j
theorem fVs_tr {dp : Nat} {M N O : fx_M} (h1 : fVs dp M N) (h2 : fVs dp N O) : fVs dp M O := fun b j a1 a2 a3 a4 => (h2 b j a1 a2 a3 a4).trans (h1 b j a1 a2 a3 a4)
theorem fVs_up {dp e : Nat} {M N : fx_M} (he : dp ≤ e) (h : fVs e M N) : fVs dp M N := fun b j h1 h2 h3 h4 => h b j (by omega) (by omega) h3 h4
theorem fVs_Ou {dp : Nat} {M N : fx_M} (h : fOu M N) : fVs dp M N := fun b j _ _ h3 h4 => h b j h3 h4
theorem fVs_rf {dp : Nat} {M : fx_M} : fVs dp M M := fun _ _ _ _ _ _ => rfl
theorem ckn_Vs {dp : Nat} {M N : fx_M} (hc : ckn M 11 Z) (h : fVs dp M N) : ckn N 11 Z := ckn_fr hc (fun b j h1 h2 => h b j (by omega) (by omega) (by omega) (by omega))
/-- a node of the class's tree: what its whole subtree leaves -/
def vsS (L : Nat) (xs : Nat → Int32) (Z : PZ) (w : Int) (k : Nat) : Prop := ∀ (d : Nat) (Q : Option fx_V → fx_M → Prop) (S : Nat → Nat) (ch : List (Int × Nat)) (v : Int) (M : fx_M) (n0 d0 : Nat), opC S (Z.1 * Z.2.1).toNat < k → ch.length + k = 10 → s_ok Z S → ¬ brk Z S → sta v S → ckn M 11 Z → o_ok M 3 → M 31 2 = w → M 31 9 = n0 → n0 ≤ 100 → M 31 10 = d0 → d0 ≤ 9 → M 31 11 = 0 → cchs M ch → (grF w n0 (vis Z k S ch).1 (M 3 1) (vis Z k S ch).2.2.length → ∀ M', fVs ch.length M M' → M' 31 9 = (n0 + (vis Z k S ch).1 : Nat) → M' 31 10 = (max d0 (vis Z k S ch).2.1 : Nat) → (vis Z k S ch).2.1 ≤ 9 → M' 31 11 = 0 → cout M M' (if w = 1 then (vis Z k S ch).2.2 else []) → (ch.length = 0 → M' 31 8 = ((gOn Z 37 S).2.1 : Nat)) → Q none M') → (¬ grF w n0 (vis Z k S ch).1 (M 3 1) (vis Z k S ch).2.2.length → ∀ M', fVs ch.length M M' → o_ok M' 3 → M' 31 11 = 1 → (w = 0 → cout M M' []) → Q none M') → wc (kcs L xs) (d + k + 6) 108 [jR 31, jL v, jI (ch.length : Nat)] M Q
/-- the end of a node -/
theorem vs_end {M0 M : fx_M} {ch : List (Int × Nat)} {w : Int} {l : Int} {TT ds : List Int} (hw : 0 ≤ w ∧ w ≤ 1) (h10 : ch.length ≤ 9) (hl : M0 3 1 = l) (hO0 : o_ok M0 3) (ho1 : cout M0 M (if w = 1 then ds else [])) (hT : ds ++ tDone ch = TT) (h2 : M 31 2 = w) (h11 : M 31 11 = 0 ∨ M 31 11 = 1) (hc : cchs M ch) (KA : M 31 11 = 0 → (w = 1 → l + TT.length ≤ 3000) → ∀ M', fVs ch.length M M' → (∀ b j, ¬ (b = 31 ∧ j = 11) → ¬ (b = 3 ∧ j = 1) → b ≠ 4 → M' b j = M b j) → M' 31 11 = 0 → cout M0 M' (if w = 1 then TT else []) → Q none M') (KB : M 31 11 = 1 ∨ (w = 1 ∧ 3000 < l + TT.length) → ∀ M', fVs ch.length M M' → o_ok M' 3 → M' 31 11 = 1 → (w = 0 → cout M0 M' []) → Q none M') : ((w = 0 → Q none M) ∧ (w ≠ 0 → wc kc (d + 2) 118 [jR 31, jI (ch.length : Nat)] M (fun u M1 => wp kc (d + 3) 108 191 [some (jR 31), none, none, none, none, none, none, none] (u.toList ++ []) M1 Q))) := by
  constructor
  · intro w0
    rcases h11 with h | h
    · refine KA h (fun w1 => by omega) M fVs_rf (fun _ _ _ _ _ => rfl) h ?_
      rw [if_neg (by omega)] at ho1 ⊢
      exact ho1
    · exact KB (Or.inl h) M fVs_rf ho1.ok h (fun _ => by rw [if_neg (by omega)] at ho1; exact ho1)
  · intro wn
    have w1 : w = 1 := by omega
    rw [if_pos w1] at ho1 KA
    refine sp_writeChoices hc h10 ho1.ok (fun M1 o1 f1 => s108_191 ?_)
    have e11 : M1 31 11 = M 31 11 := f1 _ _ (by omega) (by decide)
    have o2 := cout_tr ho1 o1
    rw [hT] at o2
    have hO1 := o2.ok
    unfold o_ok at hO1
    rw [fx_ol3] at hO1
    rcases h11 with h | h
    · rw [e11, h]
      simp only [if_true]
      refine ⟨⟨by omega, by omega⟩, fun _ => ⟨by omega, by omega⟩, by split <;> omega, ?_⟩
      have fu : ∀ x : Int, ∀ b j, ¬ (b = 31 ∧ j = 11) → (fx_up M1 31 11 x) b j = M1 b j := fun x b j hb => fx_up_ne hb
      by_cases h3 : 3000 < M1 3 1
      · rw [if_pos h3]
        refine KB (Or.inr ⟨w1, ?_⟩) _ (fun b j b1 b2 b3 b4 => by rw [fu _ b j (by omega)]; exact f1 b j b3 b4) ?_ (by rw [fx_up_self]) (fun h => by omega)
        · by_cases hle : M0 3 1 + TT.length ≤ 5600
          · have := (o2.ex hle).1
            rw [o_app_l3 hle] at this
            omega
          · omega
        · have := o2.ok
          unfold o_ok at this ⊢
          rw [fu _ _ _ (by omega)]
          exact this
      · rw [if_neg h3]
        have hle : M0 3 1 + TT.length ≤ 5600 := by
          apply Classical.byContradiction
          intro hn
          have := o2.ov (by omega)
          omega
        have e3 := (o2.ex hle).1
        rw [o_app_l3 hle] at e3
        refine KA h (fun _ => by omega) _ (fun b j b1 b2 b3 b4 => by rw [fu _ b j (by omega)]; exact f1 b j b3 b4) (fun b j b1 b2 b3 => by rw [fu _ b j b1]; exact f1 b j b2 b3) (by rw [fx_up_self]) ?_
        exact cout_0 (cout_tr o2 (cout_fr o2.ok (fu _ _ _ (by omega)) (fun j => fu _ _ _ (by omega))))
    · rw [e11, h]
      rw [if_neg (by decide)]
      refine ⟨⟨by omega, by omega⟩, fun h0 => by omega, by omega, ?_⟩
      refine KB (Or.inl h) _ (fun b j b1 b2 b3 b4 => by rw [fx_up_ne (by omega)]; exact f1 b j b3 b4) ?_ (by rw [fx_up_self]) (fun h => by omega)
      have := o2.ok
      unfold o_ok at this ⊢
      rw [fx_up_na (by decide)]
      exact this
end CVI
