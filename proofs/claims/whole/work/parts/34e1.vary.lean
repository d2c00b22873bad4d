/-! FORMS: turning and renaming, from the spare puzzle into the puzzle (as 34e, the puzzles changed about). -/
section VRZ
variable {L : Nat} {xs : Nat → Int32} {kc : List va_E} {d : Nat} {Q : Option fx_V → fx_M → Prop} {M : fx_M} {Z : PZ}
def fvr2 (M M' : fx_M) : Prop := ∀ b j, b ≠ 43 → b ≠ 44 → ¬ (11 ≤ b ∧ b ≤ 19) → M' b j = M b j
theorem sp_cvary2 {n : Int} (hz : cz M 20 Z) (ho : pz_ok Z) (hn : 0 ≤ n ∧ n < 1000) (K : ∀ M', cz M' 11 (vrZ Z (n % mps Z.1 Z.2.1) (n / mps Z.1 Z.2.1 % (rgs Z : Nat)).toNat) → fvr2 M M' → Q none M') : wc kc (d + 4) 159 [jR 40, jR 20, jI n, jR 11] M Q := by
  have h9 := pz_n ho
  have hrb := rgs_b ho
  have o1 := ho.1
  have o2 := ho.2.1
  have o3 := ho.2.2.1
  have o4 := ho.2.2.2.1
  have o5 := ho.2.2.2.2.1
  have o6 := ho.2.2.2.2.2.1
  have o7 := ho.2.2.2.2.2.2.1
  have hmp : mps Z.1 Z.2.1 = 8 ∨ mps Z.1 Z.2.1 = 4 := by
    unfold mps
    split
    · exact Or.inl rfl
    · exact Or.inr rfl
  have hm : 0 ≤ n % mps Z.1 Z.2.1 ∧ n % mps Z.1 Z.2.1 < mps Z.1 Z.2.1 := ⟨Int.emod_nonneg _ (by omega), Int.emod_lt_of_pos _ (by omega)⟩
  have hq0 : 0 ≤ n / mps Z.1 Z.2.1 := Int.ediv_nonneg (by omega) (by omega)
  have hql : n / mps Z.1 Z.2.1 ≤ n := by
    rcases hmp with e | e <;> rw [e] <;> omega
  obtain ⟨k, hk⟩ : ∃ k : Nat, n / mps Z.1 Z.2.1 % ((rgs Z : Nat) : Int) = (k : Int) := ⟨(n / mps Z.1 Z.2.1 % ((rgs Z : Nat) : Int)).toNat, by have := Int.emod_nonneg (n / mps Z.1 Z.2.1) (show ((rgs Z : Nat) : Int) ≠ 0 by omega); omega⟩
  have hk2 : k < rgs Z := by
    have := Int.emod_lt_of_pos (n / mps Z.1 Z.2.1) (show (0 : Int) < ((rgs Z : Nat) : Int) by omega)
    omega
  have hkf : k < fcN Z.2.2.1.toNat := by omega
  obtain ⟨s, hs⟩ : ∃ s : Nat, Z.2.2.1 = (s : Int) := ⟨Z.2.2.1.toNat, by omega⟩
  rw [hk, Int.toNat_natCast] at K
  have hvo := vrZ_ok ho hm hkf
  refine s159 frm40 puz20 puz11 (sp_maps (d := d + 2) puz20 hz ho (s159_4 frm40 puz20 puz11 ⟨⟨by omega, by omega⟩, sp_renamings (d := d + 2) puz20 hz ho (s159_14 frm40 puz20 puz11 ?_)⟩))
  rw [if_neg (show ¬ mps Z.1 Z.2.1 < 1 by omega), if_neg (show ¬ ((rgs Z : Nat) : Int) < 1 by omega), hk]
  generalize n % mps Z.1 Z.2.1 = m at K hm hvo ⊢
  refine ⟨⟨by omega, by omega⟩, ⟨⟨by omega, by omega⟩, ⟨by omega, by omega⟩⟩, ⟨⟨by omega, by omega⟩, ⟨by omega, by omega⟩⟩, ⟨⟨by omega, by omega⟩, ⟨by omega, by omega⟩⟩, ?_⟩
  rw [hz.2.2.2.1, hs]
  refine sp_crename (d := d) frm40 (s := s) (k := k) ⟨by omega, by omega⟩ (by rw [hs, Int.toNat_natCast] at hkf; exact hkf) (fun N n1 n2 => s159_41 frm40 puz20 puz11 ?_)
  have hzN : cz N 20 Z := cz_fr hz (fun b j b1 b2 => n2 b j (by omega))
  rw [hzN.1, hzN.2.1, hzN.2.2.2.1]
  refine sp_renew (d := d + 2) puz11 ⟨by omega, by omega⟩ ⟨by omega, by omega⟩ ⟨by omega, by omega⟩ (fun h => absurd ⟨o1, o2, o3, o4, o5, o6⟩ h) (fun _ P p1 p2 => s159_57 frm40 puz20 puz11 ?_)
  have fP : fvr2 M P := fun b j b1 b2 b3 => by rw [p2 b j (by omega), n2 b j b1]
  have hrn : ∀ j : Nat, j < s → P 43 (j : Int) = (rnm s k).getD j 0 := fun j hj => by rw [p2 43 _ (by omega)]; exact n1 j hj
  have e6 : Z.2.2.1.toNat = s := by omega
  -- the givens
  have z2 : ∀ (u c : Nat) (R : fx_M), (c : Int) + u = Z.1 * Z.2.1 → cz R 11 (Z.1, Z.2.1, Z.2.2.1, Z.2.2.2.1.map (vrR Z.1 Z.2.1 m), vgi Z m (rnm s k) c) → fvr2 M R → (∀ j : Nat, j < s → R 43 (j : Int) = (rnm s k).getD j 0) → pz_ok (Z.1, Z.2.1, Z.2.2.1, Z.2.2.2.1.map (vrR Z.1 Z.2.1 m), vgi Z m (rnm s k) c) → wp kc (d + 4) 159 149 [some (jR 40), some (jR 20), none, some (jR 11), none, none, some (jI m), some (jI c), none] [] R Q := by
    intro u
    induction u with
    | zero =>
      intro c R hc rz fR rr ro
      have hzR : cz R 20 Z := cz_fr hz (fun b j b1 b2 => fR b j (by omega) (by omega) (by omega))
      refine s159_149 frm40 puz20 puz11 ?_
      rw [hzR.2.2.1]
      refine ⟨⟨⟨by omega, by omega⟩, ⟨by omega, by omega⟩⟩, fun _ => K R ?_ fR, fun h => by omega⟩
      have ev := vgi_n ho hm (r := rnm s k)
      rw [show (Z.1 * Z.2.1).toNat = c by omega] at ev
      unfold vrZ
      rw [e6, ← ev]
      exact rz
    | succ u ih =>
      intro c R hc rz fR rr ro
      have hzR : cz R 20 Z := cz_fr hz (fun b j b1 b2 => fR b j (by omega) (by omega) (by omega))
      have hcn : (c : Int) < Z.1 * Z.2.1 := by omega
      have hc9 : c < 9 := by omega
      have hg := hzR.2.2.2.2.2.2.1 c hc9
      have hlt : c < Z.2.2.2.2.length := by
        rw [ho.2.2.2.2.2.2.2.2.1]
        omega
      have hgm : Z.2.2.2.2.getD c (-1) ∈ Z.2.2.2.2 := by
        rw [List.getD_eq_getElem?_getD, List.getElem?_eq_getElem hlt]
        exact List.getElem_mem hlt
      have hgb := ho.2.2.2.2.2.2.2.2.2.1 _ hgm
      have hs1 := vgi_s ho hm (r := rnm s k) hcn
      have hs2 := vgi_at ho hm (r := rnm s k) hcn
      refine s159_149 frm40 puz20 puz11 ?_
      rw [hzR.2.2.1, hg]
      generalize Z.2.2.2.2.getD c (-1) = y at hg hgb hs1 hs2 ⊢
      refine ⟨⟨⟨by omega, by omega⟩, ⟨by omega, by omega⟩⟩, fun h => by omega, fun _ => ⟨⟨by omega, by omega⟩, ⟨by omega, by omega⟩, fun hneg => ?_, fun hy => ?_⟩⟩
      · have nx := ih (c + 1) R (by omega) (by rw [hs2 hneg]; exact rz) fR rr (by rw [hs2 hneg]; exact ro)
        rw [show ((c + 1 : Nat) : Int) = (c : Int) + 1 by omega] at nx
        exact nx
      · refine sp_mapped (d := d + 2) puz20 hzR ho hm ⟨by omega, by omega⟩ (s159_177 frm40 puz20 puz11 ?_)
        rw [if_pos hcn]
        have hmc := mp_one ⟨o1, o2⟩ ⟨o3, o4⟩ hm (c := (c : Int)) ⟨by omega, hcn⟩
        have hg2 : R (20 + 6) (c : Int) = y := hg
        have ea := and3 ⟨y.toNat, by omega⟩
        dsimp only at ea
        rw [show ((y.toNat : Nat) : Int) = y by omega] at ea
        have er := rr y.toNat (by omega)
        rw [show ((y.toNat : Nat) : Int) = y by omega] at er
        have hrg := rnm_get (s := s) (k := k) ⟨by omega, by omega⟩ (by rw [e6] at hkf; exact hkf) (i := y.toNat) (by omega)
        rw [hg2, ea, show (40 + 3 : Nat) = 43 from rfl, er]
        rw [if_neg (by omega)] at hs1
        refine ⟨⟨by omega, by omega⟩, ⟨by omega, by omega⟩, ?_⟩
        refine sp_giveQ (d := d + 2) puz11 rz ro ⟨by omega, by omega⟩ ⟨by omega, by omega⟩ (by omega) (fun T b t1 t2 t3 t4 => s159_194 frm40 puz20 puz11 ?_)
        have eq : q_give (Z.1, Z.2.1, Z.2.2.1, Z.2.2.2.1.map (vrR Z.1 Z.2.1 m), vgi Z m (rnm s k) c) (mpC Z.1 Z.2.1 m (c : Int)) ((rnm s k).getD y.toNat 0) = (0, (Z.1, Z.2.1, Z.2.2.1, Z.2.2.2.1.map (vrR Z.1 Z.2.1 m), vgi Z m (rnm s k) (c + 1))) := by
          unfold q_give
          rw [if_pos ⟨hmc.1, hmc.2.1⟩, if_neg (by dsimp only; omega), hs1]
          rfl
        rw [eq] at t2 t3
        have nx := ih (c + 1) T (by omega) t2 (fun b j b1 b2 b3 => by rw [t4 b j (by omega), fR b j b1 b2 b3]) (fun j hj => by rw [t4 43 _ (by omega)]; exact rr j hj) t3
        rw [show ((c + 1 : Nat) : Int) = (c : Int) + 1 by omega] at nx
        exact nx
  -- the rules
  have z1 : ∀ (u r : Nat) (R : fx_M), r + u = Z.2.2.2.1.length → cz R 11 (Z.1, Z.2.1, Z.2.2.1, (Z.2.2.2.1.take r).map (vrR Z.1 Z.2.1 m), List.replicate 9 (-1)) → fvr2 M R → (∀ j : Nat, j < s → R 43 (j : Int) = (rnm s k).getD j 0) → pz_ok (Z.1, Z.2.1, Z.2.2.1, (Z.2.2.2.1.take r).map (vrR Z.1 Z.2.1 m), List.replicate 9 (-1)) → wp kc (d + 4) 159 61 [some (jR 40), some (jR 20), none, some (jR 11), none, none, some (jI m), some (jI r), none] [] R Q := by
    intro u
    induction u with
    | zero =>
      intro r R hr rz fR rr ro
      have hzR : cz R 20 Z := cz_fr hz (fun b j b1 b2 => fR b j (by omega) (by omega) (by omega))
      rw [List.take_of_length_le (by omega)] at rz ro
      refine s159_61 frm40 puz20 puz11 ?_
      rw [hzR.2.2.2.2.1]
      refine ⟨⟨⟨by omega, by omega⟩, ⟨by omega, by omega⟩⟩, fun _ => z2 (Z.1 * Z.2.1).toNat 0 R (by omega) (by rw [vgi_0 ho hm]; exact rz) fR rr (by rw [vgi_0 ho hm]; exact ro), fun h => by omega⟩
    | succ u ih =>
      intro r R hr rz fR rr ro
      have hrl : r < Z.2.2.2.1.length := by omega
      have hg : Z.2.2.2.1[r]? = some Z.2.2.2.1[r] := List.getElem?_eq_getElem hrl
      have hzR : cz R 20 Z := cz_fr hz (fun b j b1 b2 => fR b j (by omega) (by omega) (by omega))
      obtain ⟨a1, a2, a3, a4, a5⟩ := hzR.2.2.2.2.2.1 r _ hg
      have hRok := ho.2.2.2.2.2.2.2.1 _ (List.getElem_mem hrl)
      have hvk := vrR_ok ⟨o1, o2⟩ ⟨o3, o4⟩ hm hRok
      have hts := List.take_succ_eq_append_getElem hrl
      refine s159_61 frm40 puz20 puz11 ?_
      rw [hzR.2.2.2.2.1]
      refine ⟨⟨⟨by omega, by omega⟩, ⟨by omega, by omega⟩⟩, fun h => by omega, fun _ => ?_⟩
      generalize Z.2.2.2.1[r] = X at hg a1 a2 a3 a4 a5 hRok hvk hts
      obtain ⟨r1, r2, r3, r4, r5, r6, r7, r8⟩ := hRok
      have zi : ∀ (v i : Nat) (T : fx_M), i + v = 4 → (∀ b j, b ≠ 44 → T b j = R b j) → (∀ q : Nat, q < i → ∀ c, X.2.2[q]? = some c → T 44 (q : Int) = mpC Z.1 Z.2.1 m c) → wp kc (d + 4) 159 73 [some (jR 40), some (jR 20), none, some (jR 11), none, none, some (jI m), some (jI r), some (jI i)] [] T Q := by
        intro v
        induction v with
        | zero =>
          intro i T hi fT hS
          have ei : i = 4 := by omega
          subst ei
          refine s159_73 frm40 puz20 puz11 ?_
          rw [fT 21 _ (by decide), fT 22 _ (by decide), fT 23 _ (by decide)]
          have a1' : R 21 (r : Int) = X.1 := a1
          have a2' : R 22 (r : Int) = X.2.1 := a2
          have a3' : R 23 (r : Int) = X.2.2.length := a3
          rw [a1', a2', a3']
          refine ⟨⟨by omega, by omega⟩, fun _ => ⟨⟨by omega, by omega⟩, ⟨by omega, by omega⟩, ⟨by omega, by omega⟩, ?_⟩, fun h => by omega⟩
          have hl : (X.2.2.map (mpC Z.1 Z.2.1 m)).length = X.2.2.length := List.length_map ..
          rw [← hl]
          refine sp_addRuleQ (d := d + 1) (a := 44) (l := X.2.2.map (mpC Z.1 Z.2.1 m)) puz11 fa44 ⟨by omega, by omega, by omega, by omega, by omega, by omega⟩ (cz_fr rz (fun b j b1 b2 => fT b j (by omega))) ro ⟨r1, r2⟩ ⟨r3, by omega⟩ (by omega) (fun q c hq h4 => ?_) (fun c hc => ?_) (fun T2 b t1 t2 t3 t4 => s159_139 frm40 puz20 puz11 ?_)
          · rw [List.getElem?_map] at hq
            cases hx : X.2.2[q]? with
            | none =>
              rw [hx] at hq
              cases hq
            | some c' =>
              rw [hx] at hq
              cases hq
              exact hS q h4 c' hx
          · have := hvk.2.2.2.2.2.2.1 c hc
            omega
          · have eq : q_rule (Z.1, Z.2.1, Z.2.2.1, (Z.2.2.2.1.take r).map (vrR Z.1 Z.2.1 m), List.replicate 9 (-1)) X.1 X.2.1 (X.2.2.map (mpC Z.1 Z.2.1 m)) = (0, (Z.1, Z.2.1, Z.2.2.1, (Z.2.2.2.1.take (r + 1)).map (vrR Z.1 Z.2.1 m), List.replicate 9 (-1))) := by
              unfold q_rule
              have hok : okb (Z.1 * Z.2.1) (X.2.2.map (mpC Z.1 Z.2.1 m)) = true := by
                unfold okb
                exact decide_eq_true ⟨hvk.2.2.2.2.1, hvk.2.2.2.2.2.1, hvk.2.2.2.2.2.2.1, hvk.2.2.2.2.2.2.2⟩
              rw [if_pos hok, if_neg (by omega), if_neg (by dsimp only; rw [List.length_map, List.length_take]; omega), hts, List.map_append]
              rfl
            rw [eq] at t2 t3
            have nx := ih (r + 1) T2 (by omega) t2 (fun b j b1 b2 b3 => by rw [t4 b j (by omega), fT b j b2, fR b j b1 b2 b3]) (fun j hj => by rw [t4 43 _ (by omega), fT 43 _ (by decide)]; exact rr j hj) t3
            rw [show ((r + 1 : Nat) : Int) = (r : Int) + 1 by omega] at nx
            exact nx
        | succ v ih2 =>
          intro i T hi fT hS
          have hzT : cz T 20 Z := cz_fr hzR (fun b j b1 b2 => fT b j (by omega))
          have hcell : T (20 + 4) (4 * (r : Int) + i) = X.2.2.getD i 9 := by
            rw [fT 24 _ (by decide)]
            exact a4 i (by omega)
          have hcb : 0 ≤ X.2.2.getD i 9 ∧ X.2.2.getD i 9 ≤ 9 := by
            rw [List.getD_eq_getElem?_getD]
            cases hx : X.2.2[i]? with
            | none => exact ⟨by decide, by decide⟩
            | some c =>
              have := r7 c (List.mem_of_getElem? hx)
              show 0 ≤ c ∧ c ≤ 9
              omega
          refine s159_73 frm40 puz20 puz11 ?_
          rw [hcell]
          refine ⟨⟨by omega, by omega⟩, fun h => by omega, fun _ => ⟨⟨by omega, by omega⟩, sp_mapped (d := d + 2) puz20 hzT ho hm hcb (s159_103 frm40 puz20 puz11 ⟨⟨by omega, by omega⟩, ?_⟩)⟩⟩
          have nx := ih2 (i + 1) (fx_up T 44 (i : Int) (if X.2.2.getD i 9 < Z.1 * Z.2.1 then mpC Z.1 Z.2.1 m (X.2.2.getD i 9) else X.2.2.getD i 9)) (by omega) (fun b j hb => by rw [fx_up_na hb, fT b j hb]) (fun q hq c hc => by
            by_cases e : q = i
            · subst e
              have ec : X.2.2.getD q 9 = c := by
                rw [List.getD_eq_getElem?_getD, hc]
                rfl
              have := r7 c (List.mem_of_getElem? hc)
              rw [fx_up_self, ec, if_pos this.2]
            · rw [fx_up_nk (by omega)]
              exact hS q (by omega) c hc)
          rw [show ((i + 1 : Nat) : Int) = (i : Int) + 1 by omega] at nx
          exact nx
      exact zi 4 0 R (by omega) (fun _ _ _ => rfl) (fun q hq => by omega)
  exact z1 Z.2.2.2.1.length 0 P (by omega) p1 fP hrn (z_new_ok ⟨o1, o2, o3, o4, o5, o6⟩)
end VRZ
