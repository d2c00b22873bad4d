/-! FORMS: turning and renaming in the reference. -/
section MVR
variable {kc : List va_E} {d : Nat} {Q : Option fx_V → fx_M → Prop} {M : fx_M} {Z : PZ} {u m : Int} {k : Nat}
theorem ufr_uc {v : Int} {M N : fx_M} (h : ∀ b j, ¬ ucell v b j → N b j = M b j) : ufr v M N := fun b j a1 a2 a3 a4 => h b j (by unfold ucell; omega)
theorem sp_mvary (hu : u = 0 ∨ u = 1) (hz : mz M u Z) (ho : pz_ok Z) (hm : 0 ≤ m ∧ m < mps Z.1 Z.2.1) (hk : k < fcN Z.2.2.1.toNat) (K : ∀ M', mz M' 3 (vrZ Z m k) → (∀ b j, b ≠ 169 → ¬ ucell 3 b j → M' b j = M b j) → Q none M') : wc kc (d + 3) 289 [jR 133, jI u, jI m, jI k, jI 3] M Q := by
  have h9 := pz_n ho
  have o1 := ho.1
  have o2 := ho.2.1
  have o3 := ho.2.2.1
  have o4 := ho.2.2.2.1
  have o5 := ho.2.2.2.2.1
  have o6 := ho.2.2.2.2.2.1
  have o7 := ho.2.2.2.2.2.2.1
  obtain ⟨s, hs⟩ : ∃ s : Nat, Z.2.2.1 = (s : Int) := ⟨Z.2.2.1.toNat, by omega⟩
  have e6 : Z.2.2.1.toNat = s := by omega
  rw [e6] at hk
  refine s289 (sp_mcopy (d := d) (by omega) (by omega) (by omega) hz ho (fun P p1 p2 => s289_7 ?_))
  have hzP : mz P u Z := mz_off hz ho p2 (by omega)
  rw [hzP.2.2.1, hs]
  refine ⟨by omega, sp_mrename (d := d + 1) (s := s) (k := k) ⟨by omega, by omega⟩ hk (fun N n1 n2 => s289_18 ?_)⟩
  have hzN : mz N u Z := mz_frM hzP (fun b j b1 b2 => n2 b j (by omega))
  have hzN3 : mz N 3 Z := mz_frM p1 (fun b j b1 b2 => n2 b j (by omega))
  have fN : ∀ b j, b ≠ 169 → ¬ ucell 3 b j → N b j = M b j := fun b j b1 b2 => by
    unfold ucell at b2
    rw [n2 b j b1, p2 b j (by omega) (by omega) (by omega) (by omega)]
  -- the givens
  have z2 : ∀ (w c : Nat) (T : fx_M), (c : Int) + w = Z.1 * Z.2.1 → (∀ b j, ¬ (b = 153 ∧ 144 ≤ j ∧ j < 192) → ¬ (b = 154 ∧ 27 ≤ j ∧ j < 36) → T b j = N b j) → (∀ (r : Nat) (X : PR), Z.2.2.2.1[r]? = some X → ∀ (i : Nat) (x : Int), X.2.2[i]? = some x → T 153 (4 * (12 * 3 + (r : Int)) + i) = mpC Z.1 Z.2.1 m x) → (∀ j : Nat, j < 9 → T 154 (27 + (j : Int)) = if (j : Int) < Z.1 * Z.2.1 ∧ mpC Z.1 Z.2.1 (mpI m) (j : Int) < (c : Int) then vrg Z m (rnm s k) (j : Int) else Z.2.2.2.2.getD j (-1)) → wp kc (d + 3) 289 108 [some (jR 133), some (jI u), some (jI m), none, some (jI 3), some (jI c), none] [] T Q := by
    intro w
    induction w with
    | zero =>
      intro c T hc fT hC hG
      have hzT : mz T u Z := mz_off hzN ho (ufr_uc (v := 3) (fun b j hb => by unfold ucell at hb; exact fT b j (by omega) (by omega))) (by omega)
      refine s289_108 ?_
      rw [hzT.1, hzT.2.1]
      refine ⟨by omega, by omega, ⟨⟨by omega, by omega⟩, ⟨by omega, by omega⟩⟩, fun _ => K T ?_ (fun b j b1 b2 => ?_), fun h => by omega⟩
      · obtain ⟨q1, q2, q3, q4, q5, q6⟩ := hzN3
        refine ⟨?_, ?_, ?_, ?_, fun r R hR => ?_, fun c9 hc9 => ?_⟩
        · rw [fT 146 _ (by omega) (by omega)]
          exact q1
        · rw [fT 147 _ (by omega) (by omega)]
          exact q2
        · rw [fT 148 _ (by omega) (by omega)]
          exact q3
        · rw [fT 149 _ (by omega) (by omega), q4]
          show ((Z.2.2.2.1.length : Nat) : Int) = ((Z.2.2.2.1.map (vrR Z.1 Z.2.1 m)).length : Nat)
          rw [List.length_map]
        · have hR2 : (Z.2.2.2.1.map (vrR Z.1 Z.2.1 m))[r]? = some R := hR
          rw [List.getElem?_map] at hR2
          cases hx : Z.2.2.2.1[r]? with
          | none =>
            rw [hx] at hR2
            cases hR2
          | some X =>
            rw [hx] at hR2
            cases hR2
            obtain ⟨b1, b2, b3, b4⟩ := q5 r X hx
            rw [fT 150 _ (by omega) (by omega), fT 151 _ (by omega) (by omega), fT 152 _ (by omega) (by omega)]
            refine ⟨b1, b2, ?_, fun i c hi => ?_⟩
            · rw [b3]
              show ((X.2.2.length : Nat) : Int) = ((X.2.2.map (mpC Z.1 Z.2.1 m)).length : Nat)
              rw [List.length_map]
            · have hi2 : (X.2.2.map (mpC Z.1 Z.2.1 m))[i]? = some c := hi
              rw [List.getElem?_map] at hi2
              cases hy : X.2.2[i]? with
              | none =>
                rw [hy] at hi2
                cases hi2
              | some x =>
                rw [hy] at hi2
                cases hi2
                exact hC r X hx i x hy
        · have := hG c9 hc9
          rw [show 9 * 3 + (c9 : Int) = 27 + (c9 : Int) by omega, this]
          show _ = (vrG Z m (rnm Z.2.2.1.toNat k)).getD c9 (-1)
          rw [e6]
          unfold vrG
          rw [getD_map9 hc9]
          have hI := mpI_ok hm
          by_cases hcn : (c9 : Int) < Z.1 * Z.2.1
          · have h1 := mp_one ⟨o1, o2⟩ ⟨o3, o4⟩ ⟨hI.1, hI.2.1⟩ (c := (c9 : Int)) ⟨by omega, hcn⟩
            rw [if_pos ⟨hcn, by omega⟩]
          · rw [if_neg (fun x => hcn x.1)]
            unfold vrg
            rw [if_neg (fun x => hcn x.2)]
            exact ho.2.2.2.2.2.2.2.2.2.2 c9 (by omega)
      · unfold ucell at b2
        rw [fT b j (by omega) (by omega), fN b j b1 (by unfold ucell; omega)]
    | succ w ih =>
      intro c T hc fT hC hG
      have hcn : (c : Int) < Z.1 * Z.2.1 := by omega
      have hzT : mz T u Z := mz_off hzN ho (ufr_uc (v := 3) (fun b j hb => by unfold ucell at hb; exact fT b j (by omega) (by omega))) (by omega)
      have hg := hzT.2.2.2.2.2 c (by omega)
      have hmc := mp_one ⟨o1, o2⟩ ⟨o3, o4⟩ hm (c := (c : Int)) ⟨by omega, hcn⟩
      have hI := mpI_ok hm
      have hlt : c < Z.2.2.2.2.length := by
        rw [ho.2.2.2.2.2.2.2.2.1]
        omega
      have hgm : Z.2.2.2.2.getD c (-1) ∈ Z.2.2.2.2 := by
        rw [List.getD_eq_getElem?_getD, List.getElem?_eq_getElem hlt]
        exact List.getElem_mem hlt
      have hgb := ho.2.2.2.2.2.2.2.2.2.1 _ hgm
      refine s289_108 ?_
      rw [hzT.1, hzT.2.1, hg]
      refine ⟨by omega, by omega, ⟨⟨by omega, by omega⟩, ⟨by omega, by omega⟩⟩, fun h => by omega, fun _ => ⟨⟨by omega, by omega⟩, sp_mmapped (d := d + 1) (by omega) hzT ho hm ⟨by omega, by omega⟩ (s289_157 ?_)⟩⟩
      have e169 : ∀ j : Nat, j < s → T 169 (j : Int) = (rnm s k).getD j 0 := fun j hj => by rw [fT 169 _ (by omega) (by omega)]; exact n1 j hj
      have ev : (if Z.2.2.2.2.getD c (-1) < 0 then ((-1) : Int) else T 169 (Z.2.2.2.2.getD c (-1))) = vrg Z m (rnm s k) (mpC Z.1 Z.2.1 m (c : Int)) := by
        have e0 : vrg Z m (rnm s k) (mpC Z.1 Z.2.1 m (c : Int)) = (if Z.2.2.2.2.getD c (-1) < 0 then -1 else (rnm s k).getD (Z.2.2.2.2.getD c (-1)).toNat 0) := by
          unfold vrg
          rw [if_pos ⟨hmc.1, hmc.2.1⟩, hmc.2.2, Int.toNat_natCast]
        rw [e0]
        by_cases h0 : Z.2.2.2.2.getD c (-1) < 0
        · rw [if_pos h0, if_pos h0]
        · rw [if_neg h0, if_neg h0]
          have := e169 (Z.2.2.2.2.getD c (-1)).toNat (by omega)
          rw [show (((Z.2.2.2.2.getD c (-1)).toNat : Nat) : Int) = Z.2.2.2.2.getD c (-1) by omega] at this
          exact this
      rw [ev]
      refine ⟨⟨by omega, by omega⟩, fun _ => ⟨by omega, by omega⟩, ⟨by omega, by omega⟩, ?_⟩
      have nx := ih (c + 1) (fx_up T 154 (9 * 3 + mpC Z.1 Z.2.1 m (c : Int)) (vrg Z m (rnm s k) (mpC Z.1 Z.2.1 m (c : Int)))) (by omega) (fun b j b1 b2 => by rw [fx_up_ne (by omega), fT b j b1 b2]) (fun r X hX i x hx => by rw [fx_up_na (by decide)]; exact hC r X hX i x hx) (fun j hj => by
        by_cases e : (j : Int) = mpC Z.1 Z.2.1 m (c : Int)
        · rw [show 27 + (j : Int) = 9 * 3 + mpC Z.1 Z.2.1 m (c : Int) by omega, fx_up_self, if_pos ⟨by omega, by rw [e, hmc.2.2]; omega⟩, e]
        · rw [fx_up_nk (by omega), hG j hj]
          by_cases hjn : (j : Int) < Z.1 * Z.2.1
          · have h2 := mp_one ⟨o1, o2⟩ ⟨o3, o4⟩ ⟨hI.1, hI.2.1⟩ (c := (j : Int)) ⟨by omega, hjn⟩
            rw [hI.2.2] at h2
            have hne : mpC Z.1 Z.2.1 (mpI m) (j : Int) ≠ (c : Int) := fun x => e (by
              have h3 := h2.2.2
              rw [x] at h3
              exact h3.symm)
            by_cases hl : mpC Z.1 Z.2.1 (mpI m) (j : Int) < (c : Int)
            · rw [if_pos ⟨hjn, hl⟩, if_pos ⟨hjn, by omega⟩]
            · rw [if_neg (fun x => hl x.2), if_neg (fun x => hl (by have := x.2; omega))]
          · rw [if_neg (fun x => hjn x.1), if_neg (fun x => hjn x.1)])
      rw [show ((c + 1 : Nat) : Int) = (c : Int) + 1 by omega] at nx
      exact nx
  -- the cells of the rules
  have z1 : ∀ (w r : Nat) (T : fx_M), r + w = Z.2.2.2.1.length → (∀ b j, ¬ (b = 153 ∧ 144 ≤ j ∧ j < 192) → T b j = N b j) → (∀ (r' : Nat) (X : PR), r' < r → Z.2.2.2.1[r']? = some X → ∀ (i : Nat) (x : Int), X.2.2[i]? = some x → T 153 (4 * (12 * 3 + (r' : Int)) + i) = mpC Z.1 Z.2.1 m x) → wp kc (d + 3) 289 21 [some (jR 133), some (jI u), some (jI m), none, some (jI 3), some (jI r), none] [] T Q := by
    intro w
    induction w with
    | zero =>
      intro r T hr fT hC
      have hzT : mz T u Z := mz_off hzN ho (ufr_uc (v := 3) (fun b j hb => by unfold ucell at hb; exact fT b j (by omega))) (by omega)
      refine s289_21 ?_
      rw [hzT.2.2.2.1]
      refine ⟨by omega, ⟨⟨by omega, by omega⟩, ⟨by omega, by omega⟩⟩, fun _ => z2 (Z.1 * Z.2.1).toNat 0 T (by omega) (fun b j b1 _ => fT b j b1) (fun r' X hX => ?_) (fun j hj => ?_), fun h => by omega⟩
      · have := (List.getElem?_eq_some_iff.mp hX).1
        exact hC r' X (by omega) hX
      · have hI := mpI_ok hm
        rw [fT 154 _ (by omega), show 27 + (j : Int) = 9 * 3 + (j : Int) by omega, hzN3.2.2.2.2.2 j hj]
        rw [if_neg (fun x => by
          have := mp_one ⟨o1, o2⟩ ⟨o3, o4⟩ ⟨hI.1, hI.2.1⟩ (c := (j : Int)) ⟨by omega, x.1⟩
          omega)]
    | succ w ih =>
      intro r T hr fT hC
      have hrl : r < Z.2.2.2.1.length := by omega
      have hg : Z.2.2.2.1[r]? = some Z.2.2.2.1[r] := List.getElem?_eq_getElem hrl
      have hRok := ho.2.2.2.2.2.2.2.1 _ (List.getElem_mem hrl)
      have hzT : mz T u Z := mz_off hzN ho (ufr_uc (v := 3) (fun b j hb => by unfold ucell at hb; exact fT b j (by omega))) (by omega)
      generalize Z.2.2.2.1[r] = X at hg hRok
      obtain ⟨r1, r2, r3, r4, r5, r6, r7, r8⟩ := hRok
      refine s289_21 ?_
      rw [hzT.2.2.2.1]
      refine ⟨by omega, ⟨⟨by omega, by omega⟩, ⟨by omega, by omega⟩⟩, fun h => by omega, fun _ => ?_⟩
      have zi : ∀ (v i : Nat) (S : fx_M), i + v = X.2.2.length → (∀ b j, ¬ (b = 153 ∧ 4 * (36 + (r : Int)) ≤ j ∧ j < 4 * (36 + (r : Int)) + 4) → S b j = T b j) → (∀ (q : Nat) (x : Int), q < i → X.2.2[q]? = some x → S 153 (4 * (12 * 3 + (r : Int)) + q) = mpC Z.1 Z.2.1 m x) → wp kc (d + 3) 289 35 [some (jR 133), some (jI u), some (jI m), none, some (jI 3), some (jI r), some (jI i)] [] S Q := by
        intro v
        induction v with
        | zero =>
          intro i S hi fS hS
          have hsz : S 152 (12 * u + (r : Int)) = X.2.2.length := by
            rw [fS 152 _ (by omega)]
            exact (hzT.2.2.2.2.1 r X hg).2.2.1
          refine s289_35 ?_
          rw [hsz]
          refine ⟨by omega, ⟨⟨by omega, by omega⟩, ⟨by omega, by omega⟩⟩, fun _ => ?_, fun h => by omega⟩
          have nx := ih (r + 1) S (by omega) (fun b j hb => by rw [fS b j (by omega), fT b j hb]) (fun r' X' hr' hX' i' x' hx' => by
            have hl' := (List.getElem?_eq_some_iff.mp hx').1
            have h4' : X'.2.2.length ≤ 4 := (ho.2.2.2.2.2.2.2.1 X' (List.mem_of_getElem? hX')).2.2.2.2.2.1
            by_cases e : r' = r
            · subst e
              rw [hg] at hX'
              cases hX'
              exact hS i' x' (by omega) hx'
            · rw [fS 153 _ (by omega)]
              exact hC r' X' (by omega) hX' i' x' hx')
          rw [show ((r + 1 : Nat) : Int) = (r : Int) + 1 by omega] at nx
          exact nx
        | succ v ih2 =>
          intro i S hi fS hS
          have hsz : S 152 (12 * u + (r : Int)) = X.2.2.length := by
            rw [fS 152 _ (by omega)]
            exact (hzT.2.2.2.2.1 r X hg).2.2.1
          have hil : i < X.2.2.length := by omega
          have hx := List.getElem?_eq_getElem hil
          have hxb := r7 _ (List.getElem_mem hil)
          have hzS : mz S u Z := mz_off hzT ho (ufr_uc (v := 3) (fun b j hb => by unfold ucell at hb; exact fS b j (by omega))) (by omega)
          have hcl : S 153 (4 * (12 * u + (r : Int)) + i) = X.2.2[i] := (hzS.2.2.2.2.1 r X hg).2.2.2 i _ hx
          refine s289_35 ?_
          rw [hsz, hcl]
          refine ⟨by omega, ⟨⟨by omega, by omega⟩, ⟨by omega, by omega⟩⟩, fun h => by omega, fun _ => ⟨⟨by omega, by omega⟩, sp_mmapped (d := d + 1) (by omega) hzS ho hm ⟨by omega, by omega⟩ (s289_92 ⟨⟨by omega, by omega⟩, ?_⟩)⟩⟩
          have nx := ih2 (i + 1) (fx_up S 153 (4 * (12 * 3 + (r : Int)) + i) (mpC Z.1 Z.2.1 m X.2.2[i])) (by omega) (fun b j hb => by rw [fx_up_ne (by omega), fS b j hb]) (fun q x hq hqx => by
            by_cases e : q = i
            · subst e
              rw [hx] at hqx
              cases hqx
              exact fx_up_self ..
            · rw [fx_up_nk (by omega)]
              exact hS q x (by omega) hqx)
          rw [show ((i + 1 : Nat) : Int) = (i : Int) + 1 by omega] at nx
          exact nx
      exact zi X.2.2.length 0 T (by omega) (fun _ _ _ => rfl) (fun q x hq => by omega)
  exact z1 Z.2.2.2.1.length 0 N (by omega) (fun _ _ _ => rfl) (fun r' X hr' => by omega)
theorem sp_sayVary {V : fx_M} {n : Int} (hz : mz M 0 Z) (ho : pz_ok Z) (hn : 0 ≤ n ∧ n < 1000) (hv : mpv M V) (hO : m_ok M) (K : ∀ M', mz M' 0 (vrZ Z (n % mps Z.1 Z.2.1) (n / mps Z.1 Z.2.1 % (rgs Z : Nat)).toNat) → mpv M' (pv_new V) → (∀ b j, b ≠ 169 → ¬ ucell 3 b j → ¬ ucell 0 b j → ¬ (174 ≤ b ∧ b ≤ 177) → M' b j = m_app M t_ok b j) → Q none M') : wc kc (d + 5) 286 [jR 133, jI n] M Q := by
  have hrb := rgs_b ho
  have hmp : mps Z.1 Z.2.1 = 8 ∨ mps Z.1 Z.2.1 = 4 := by
    unfold mps
    split
    · exact Or.inl rfl
    · exact Or.inr rfl
  have hm : 0 ≤ n % mps Z.1 Z.2.1 ∧ n % mps Z.1 Z.2.1 < mps Z.1 Z.2.1 := ⟨Int.emod_nonneg _ (by omega), Int.emod_lt_of_pos _ (by omega)⟩
  have hq0 : 0 ≤ n / mps Z.1 Z.2.1 := Int.ediv_nonneg (by omega) (by omega)
  have hql : n / mps Z.1 Z.2.1 ≤ n := by
    rcases hmp with e | e <;> rw [e] <;> omega
  obtain ⟨k, hk⟩ : ∃ k : Nat, n / mps Z.1 Z.2.1 % ((rgs Z : Nat) : Int) = (k : Int) := ⟨(n / mps Z.1 Z.2.1 % ((rgs Z : Nat) : Int)).toNat, by have := Int.emod_nonneg (n / mps Z.1 Z.2.1) (show ((rgs Z : Nat) : Int) ≠ 0 by omega); omega⟩
  have hk2 : k < rgs Z := by
    have := Int.emod_lt_of_pos (n / mps Z.1 Z.2.1) (show (0 : Int) < ((rgs Z : Nat) : Int) by omega)
    omega
  have hkf : k < fcN Z.2.2.1.toNat := by omega
  rw [hk, Int.toNat_natCast] at K
  refine s286 (sp_mmaps (d := d + 3) (by omega) hz ho (s286_5 ?_))
  refine ⟨⟨⟨by omega, by omega⟩, ⟨by omega, by omega⟩⟩, ⟨⟨by omega, by omega⟩, ⟨by omega, by omega⟩⟩, sp_mrenamings (d := d + 3) (by omega) hz ho (s286_19 ?_)⟩
  rw [hk]
  generalize n % mps Z.1 Z.2.1 = m at K hm ⊢
  refine ⟨⟨⟨by omega, by omega⟩, ⟨by omega, by omega⟩⟩, ?_⟩
  have hvo := vrZ_ok ho hm hkf
  refine sp_mvary (d := d + 1) (Or.inl rfl) hz ho hm hkf (fun N n1 n2 => s286_24 ?_)
  refine sp_mcopy (d := d + 2) (by omega) (by omega) (by omega) n1 hvo (fun P p1 p2 => s286_30 ?_)
  have fP : ∀ b j, b ≠ 169 → ¬ ucell 3 b j → ¬ ucell 0 b j → P b j = M b j := fun b j b1 b2 b3 => by
    unfold ucell at b3
    rw [p2 b j (by omega) (by omega) (by omega) (by omega), n2 b j b1 b2]
  refine sp_playAnew (d := d + 3) (mpv_fr hv (fP 133 80 (by decide) (by unfold ucell; omega) (by unfold ucell; omega)) (fun b j b1 b2 => fP b j (by omega) (by unfold ucell; omega) (by unfold ucell; omega))) (fun R r1 r2 => s286_34 ?_)
  have fR : ∀ b j, b ≠ 169 → ¬ ucell 3 b j → ¬ ucell 0 b j → ¬ (174 ≤ b ∧ b ≤ 177) → R b j = M b j := fun b j b1 b2 b3 b4 => by rw [r2 b j b4, fP b j b1 b2 b3]
  have q5 : R 133 5 = M 133 5 := fR 133 5 (by decide) (by unfold ucell; omega) (by unfold ucell; omega) (by omega)
  refine sp_sayOk (d := d) (m_okq hO q5) (s286_38 (K _ (mz_frM p1 (fun b j b1 b2 => ?_)) (mpv_fr r1 (m_app_ne (by omega) (by decide)) (fun b j b1 b2 => m_app_ne (by omega) (by omega))) (fun b j b1 b2 b3 b4 => m_app_fq q5 (fun a => fR 136 a (by decide) (by unfold ucell; omega) (by unfold ucell; omega) (by omega)) (fR b j b1 b2 b3 b4))))
  rw [m_app_ne (by omega) (by omega), r2 b j (by omega)]
end MVR
