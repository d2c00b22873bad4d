/-! The reference reads the lines of a proof. -/
/-- a literal as a number -/
def lcd (Z : PZ) (x : LT) : Int := if x.2.1 < Z.1 * Z.2.1 ∧ x.2.2 < Z.2.2.1 then (if x.1 = 0 then 1 else 0) + 2 * x.2.2 + 8 * x.2.1 else -1
theorem rT_ok {g : Int → Int} {e c p : Int} (h : p < e) (hg : g p = c) : rT g e c p 0 = (p + 1, 0) := by
  unfold rT
  rw [if_pos rfl, if_pos h, if_pos hg]
theorem rT_no {g : Int → Int} {e c p : Int} (h : ¬ (p < e ∧ g p = c)) : rT g e c p 0 = (p, 1) := by
  unfold rT
  rw [if_pos rfl]
  by_cases h1 : p < e
  · rw [if_pos h1, if_neg (fun h2 => h ⟨h1, h2⟩)]
  · rw [if_neg h1]
theorem rLt_1 {g : Int → Int} {e p w : Int} (h : (rLb g e p w).2.2 = 1) : (rLt g e p w).2 = ((rLb g e p w).2.1, 1) := by
  show (rLd g e p w).2 = _
  unfold rLd rLc
  rw [h, rT_w1, rN_w1]
theorem rLt_2 {g : Int → Int} {e p w : Int} (h : (rLc g e p w).2 = 1) : (rLt g e p w).2 = ((rLc g e p w).1, 1) := by
  show (rLd g e p w).2 = _
  unfold rLd
  rw [h, rN_w1]
theorem rLt_0 {g : Int → Int} {e p w : Int} (h : (rLa g e p w).2.2 = 1) : (rLt g e p w).2 = ((rLa g e p w).2.1, 1) := by
  have hb : rLb g e p w = (0, (rLa g e p w).2.1, 1) := by
    unfold rLb
    rw [h, rN_w1]
  rw [rLt_1 (by rw [hb]), hb]
theorem rN_up {g : Int → Int} {e p : Int} {m : Nat} (h : p ≤ e) (h0 : (rN g e m p 0).2.2 = 0) : p + 1 ≤ (rN g e m p 0).2.1 := by
  unfold rN at h0 ⊢
  split at h0
  · next hc =>
    rw [if_pos hc]
    have hd : 48 ≤ g p ∧ g p ≤ 57 := hc.2.2
    exact (rN1_b (g := g) (e := e) (m - 1) (g p - 48) (p + 1) (by omega) (by omega)).1
  · simp at h0
/-- a literal that is right has five bytes at least -/
theorem rLt_5 {g : Int → Int} {e p : Int} (h : p < e) (hg : g p = 32) (h0 : (rLt g e p 0).2.2 = 0) : p + 5 ≤ (rLt g e p 0).2.1 := by
  have e1 := rT_ok h hg
  have b := rLa_b (g := g) (e := e) (p := p) (w := 0) (by omega)
  have ha : (rLa g e p 0).2.2 = 0 := by
    by_cases hne : (rLa g e p 0).2.2 = 0
    · exact hne
    · rw [rLt_0 (by omega)] at h0
      simp at h0
  have hpa : p + 2 ≤ (rLa g e p 0).2.1 := by
    unfold rLa at ha ⊢
    rw [e1] at ha ⊢
    simp only at ha ⊢
    rw [rC_G] at ha ⊢
    by_cases h1 : p + 1 < e
    · rw [if_pos h1] at ha ⊢
      by_cases h2 : g (p + 1) = 43
      · rw [if_pos h2]
        show p + 2 ≤ p + 1 + 1
        omega
      · rw [if_neg h2] at ha ⊢
        by_cases h3 : g (p + 1) = 45
        · rw [if_pos h3]
          show p + 2 ≤ p + 1 + 1
          omega
        · rw [if_neg h3] at ha
          simp at ha
    · rw [if_neg h1] at ha
      simp at ha
  have b2 := rN_b (g := g) (e := e) (m := 3) (p := (rLa g e p 0).2.1) (w := (rLa g e p 0).2.2) (by omega) b.2.2.2.1
  have hb : (rLb g e p 0).2.2 = 0 := by
    by_cases hne : (rLb g e p 0).2.2 = 0
    · exact hne
    · rw [rLt_1 (by have q1 : 0 ≤ (rLb g e p 0).2.2 := b2.2.2.1; have q2 : (rLb g e p 0).2.2 ≤ 1 := b2.2.2.2.1; omega)] at h0
      simp at h0
  have hpb : (rLa g e p 0).2.1 + 1 ≤ (rLb g e p 0).2.1 := by
    unfold rLb at hb ⊢
    rw [ha] at hb ⊢
    exact rN_up b.2.2.2.1 hb
  have b3 := rT_b (g := g) (e := e) (c := 46) (p := (rLb g e p 0).2.1) (w := (rLb g e p 0).2.2) b2.2.1
  have hc : (rLc g e p 0).2 = 0 := by
    by_cases hne : (rLc g e p 0).2 = 0
    · exact hne
    · rw [rLt_2 (by have q1 : 0 ≤ (rLc g e p 0).2 := b3.2.2.1; have q2 : (rLc g e p 0).2 ≤ 1 := b3.2.2.2; omega)] at h0
      simp at h0
  have hpc : (rLb g e p 0).2.1 + 1 ≤ (rLc g e p 0).1 := by
    unfold rLc at hc ⊢
    rw [hb] at hc ⊢
    by_cases hx : (rLb g e p 0).2.1 < e ∧ g (rLb g e p 0).2.1 = 46
    · rw [rT_ok hx.1 hx.2]
      exact Int.le_refl _
    · rw [rT_no hx] at hc
      simp at hc
  have hpd : (rLc g e p 0).1 + 1 ≤ (rLd g e p 0).2.1 := by
    have hd : (rLd g e p 0).2.2 = 0 := h0
    unfold rLd at hd ⊢
    rw [hc] at hd ⊢
    exact rN_up b3.2.1 hd
  show p + 5 ≤ (rLd g e p 0).2.1
  omega
section MRL
variable {kc : List va_E} {d : Nat} {Q : Option fx_V → fx_M → Prop} {Z : PZ}
/-- what reading a line may change: line i, literals from n on -/
def mlf (i n : Int) (M N : fx_M) : Prop := ∀ b j, ¬ (b = 133 ∧ (j = 7 ∨ j = 8 ∨ j = 24)) → ¬ ((b = 138 ∨ b = 139 ∨ b = 140) ∧ i ≤ j) → ¬ (b = 141 ∧ i < j) → ¬ (b = 142 ∧ n ≤ j) → N b j = M b j
theorem mlf_rf {i n : Int} {M : fx_M} : mlf i n M M := fun _ _ _ _ _ _ => rfl
theorem mlf_tr {i n : Int} {M N O : fx_M} (h1 : mlf i n M N) (h2 : mlf i n N O) : mlf i n M O := fun b j a1 a2 a3 a4 => (h2 b j a1 a2 a3 a4).trans (h1 b j a1 a2 a3 a4)
theorem mlf_md {i n p v : Int} {M : fx_M} : mlf i n M (md M p v) := fun b j a1 _ _ _ => by
  unfold md
  rw [fx_up_ne (by omega), fx_up_ne (by omega)]
theorem mlf_up {i n k v : Int} {M : fx_M} (h : k = 7 ∨ k = 8 ∨ k = 24) : mlf i n M (fx_up M 133 k v) := fun b j a1 _ _ _ => by
  rw [fx_up_ne (by omega)]
theorem mlf_z {i n : Int} {M N : fx_M} (h : mlf i n M N) (hz : mz M 0 Z) : mz N 0 Z := mz_frM hz (fun b j h1 h2 => h b j (by omega) (by omega) (by omega) (by omega))
theorem mlf_g {i n : Int} {M N : fx_M} (h : mlf i n M N) : N 135 = M 135 ∧ N 133 3 = M 133 3 := ⟨funext (fun j => h 135 j (by omega) (by omega) (by omega) (by omega)), h 133 3 (by omega) (by omega) (by omega) (by omega)⟩
theorem ms_mlf {i n : Int} {M N : fx_M} (h : mlf i n M N) (hm : ms_at M) (h7 : 0 ≤ N 133 7 ∧ N 133 7 ≤ M 133 3) : ms_at N := by
  obtain ⟨g1, g2⟩ := mlf_g h
  refine ⟨h7.1, by rw [g2]; exact h7.2, by rw [g2]; exact hm.2.2.1, fun j h0 h1 => ?_⟩
  rw [g2] at h1
  rw [g1]
  exact hm.2.2.2 j h0 h1
theorem mdq7 {M : fx_M} {p v : Int} : (md M p v) 133 7 = p := by
  unfold md
  rw [fx_up_nk (by decide), fx_up_self]
theorem mdq8 {M : fx_M} {p v : Int} : (md M p v) 133 8 = v := by
  unfold md
  rw [fx_up_self]
/-- a literal of the reference behind its blank -/
theorem ml_one {M : fx_M} {i n n0 : Int} (hm : ms_at M) (hz : mz M 0 Z) (ho : pz_ok Z) (hn : n0 ≤ n ∧ 0 ≤ n ∧ n < 1300) (hp : M 133 7 < M 133 3) (hg : M 135 (M 133 7) = 32) (K0 : (rLt (M 135) (M 133 3) (M 133 7) 0).2.2 = 1 → ∀ M', mlf i n0 M M' → ms_at M' → M' 133 7 = (rLt (M 135) (M 133 3) (M 133 7) 0).2.1 → Q (some (jI 0)) M') (K1 : (rLt (M 135) (M 133 3) (M 133 7) 0).2.2 = 0 → ∀ M', mlf i n0 M M' → ms_at M' → M' 133 7 = (rLt (M 135) (M 133 3) (M 133 7) 0).2.1 → M' 133 24 = M 133 24 → (∀ j, M' 142 j = if j = n then lcd Z (rLt (M 135) (M 133 3) (M 133 7) 0).1 else M 142 j) → (∀ b j, b ≠ 133 → b ≠ 142 → M' b j = M b j) → wp kc (d + 5) 247 143 [some (jR 133), none, some (jI (n + 1)), none, none] [] M' Q) : wc kc (d + 4) 228 [jR 133] (fx_up M 133 7 (M 133 7 + 1)) (fun v M1 => wp kc (d + 5) 247 166 [some (jR 133), none, some (jI n), none, none] (v.toList ++ []) M1 Q) := by
  have h9 := pz_n ho
  have h4 := ho.2.2.2.2.2.1
  have h1s := ho.2.2.2.2.1
  have e1 := rT_ok (g := M 135) hp hg
  have hb5 := rLt_b (g := M 135) (e := M 133 3) (p := M 133 7) (w := 0) (by omega)
  obtain ⟨m0, m1, m2, m3⟩ := hm
  have hm : ms_at M := ⟨m0, m1, m2, m3⟩
  have f1 : mlf i n0 M (fx_up M 133 7 (M 133 7 + 1)) := mlf_up (Or.inl rfl)
  have s1 : ms_at (fx_up M 133 7 (M 133 7 + 1)) := ms_mlf f1 hm (by rw [fx_up_self]; omega)
  have a1 : (fx_up M 133 7 (M 133 7 + 1)) 133 7 = M 133 7 + 1 := fx_up_self ..
  have a3 : (fx_up M 133 7 (M 133 7 + 1)) 133 3 = M 133 3 := fx_up_nk (by decide)
  have ag : (fx_up M 133 7 (M 133 7 + 1)) 135 = M 135 := funext (fun j => fx_up_na (by decide))
  have ea : rLa (M 135) (M 133 3) (M 133 7) 0 = rC (M 135) (M 133 3) bsG (M 133 7 + 1) 0 := by
    unfold rLa
    rw [e1]
  rw [rC_G] at ea
  refine sp_here (d := d + 3) s1 (s247_166 ⟨here_in s1, ?_⟩)
  rw [a1, a3, ag]
  -- the rest behind the sign
  have rest : ∀ (sg : Int) (N : fx_M), (sg = 0 ∨ sg = 1) → rLa (M 135) (M 133 3) (M 133 7) 0 = (sg, M 133 7 + 2, 0) → M 133 7 + 2 ≤ M 133 3 → mlf i n0 M N → (∀ b j, ¬ (b = 133 ∧ (j = 7 ∨ j = 8)) → N b j = M b j) → N 133 7 = M 133 7 + 2 → wc kc (d + 4) 232 [jR 133] N (fun v M1 => wp kc (d + 5) 247 199 [some (jR 133), none, some (jI n), some (jI (if sg = 0 then 1 else 0)), none] (v.toList ++ []) M1 Q) := fun sg N hsg eA hle fN qN pN => by
    obtain ⟨g1, g2⟩ := mlf_g fN
    have sN : ms_at N := ms_mlf fN hm (by rw [pN]; omega)
    have eB : rLb (M 135) (M 133 3) (M 133 7) 0 = rN (M 135) (M 133 3) 3 (M 133 7 + 2) 0 := by
      unfold rLb
      rw [eA]
    have b2 := rN_b (g := M 135) (e := M 133 3) (m := 3) (p := M 133 7 + 2) (w := 0) (by omega) hle
    rw [← eB] at b2
    refine sp_scanNumber (d := d) sN (s247_199 ?_)
    rw [g1, g2, pN, ← eB]
    generalize hv : (if (rLb (M 135) (M 133 3) (M 133 7) 0).2.2 = 0 then (rLb (M 135) (M 133 3) (M 133 7) 0).1 else N 133 8) = v
    have fB : mlf i n0 M (md N (rLb (M 135) (M 133 3) (M 133 7) 0).2.1 v) := mlf_tr fN mlf_md
    have sB := ms_mlf fB hm (by rw [mdq7]; omega)
    by_cases hw : (rLb (M 135) (M 133 3) (M 133 7) 0).2.2 = 0
    · rw [if_pos hw] at hv
      subst hv
      rw [hw]
      refine ⟨⟨by omega, by omega⟩, fun _ => ?_, fun h => by omega⟩
      rw [mdq8]
      have eC : rLc (M 135) (M 133 3) (M 133 7) 0 = rT (M 135) (M 133 3) 46 (rLb (M 135) (M 133 3) (M 133 7) 0).2.1 0 := by
        unfold rLc
        rw [hw]
      obtain ⟨gB1, gB2⟩ := mlf_g fB
      refine sp_isByte (d := d + 2) sB ⟨by omega, by omega⟩ (fun h1 h2 => s247_216 ⟨⟨by omega, by omega⟩, fun h => by omega, fun _ => ?_⟩) (fun hn => s247_216 ⟨⟨by omega, by omega⟩, fun _ => ?_, fun h => absurd rfl h⟩)
      · rw [mdq7, gB2] at h1
        rw [mdq7, gB1] at h2
        rw [rT_ok h1 h2] at eC
        rw [mdq7]
        have fC : mlf i n0 M (fx_up (md N (rLb (M 135) (M 133 3) (M 133 7) 0).2.1 (rLb (M 135) (M 133 3) (M 133 7) 0).1) 133 7 ((rLb (M 135) (M 133 3) (M 133 7) 0).2.1 + 1)) := mlf_tr fB (mlf_up (Or.inl rfl))
        have sC := ms_mlf fC hm (by rw [fx_up_self]; omega)
        obtain ⟨gC1, gC2⟩ := mlf_g fC
        have eD : rLd (M 135) (M 133 3) (M 133 7) 0 = rN (M 135) (M 133 3) 3 ((rLb (M 135) (M 133 3) (M 133 7) 0).2.1 + 1) 0 := by
          unfold rLd
          rw [eC]
        refine sp_scanNumber (d := d) sC (s247_223 ?_)
        rw [gC1, gC2, fx_up_self, ← eD]
        have eT : rLt (M 135) (M 133 3) (M 133 7) 0 = ((sg, (rLb (M 135) (M 133 3) (M 133 7) 0).1, (rLd (M 135) (M 133 3) (M 133 7) 0).1), (rLd (M 135) (M 133 3) (M 133 7) 0).2) := by
          unfold rLt
          rw [eA]
        rw [eT] at K0 K1 hb5
        simp only at hb5
        obtain ⟨k1, k2, k3, k4, k5, k6, k7, k8⟩ := hb5
        have fD : ∀ v, mlf i n0 M (md (fx_up (md N (rLb (M 135) (M 133 3) (M 133 7) 0).2.1 (rLb (M 135) (M 133 3) (M 133 7) 0).1) 133 7 ((rLb (M 135) (M 133 3) (M 133 7) 0).2.1 + 1)) (rLd (M 135) (M 133 3) (M 133 7) 0).2.1 v) := fun v => mlf_tr fC mlf_md
        by_cases hwD : (rLd (M 135) (M 133 3) (M 133 7) 0).2.2 = 0
        · rw [hwD, if_pos rfl]
          refine ⟨⟨by omega, by omega⟩, fun _ => s248 (s247_239 ?_), fun h => by omega⟩
          generalize hND : md (fx_up (md N (rLb (M 135) (M 133 3) (M 133 7) 0).2.1 (rLb (M 135) (M 133 3) (M 133 7) 0).1) 133 7 ((rLb (M 135) (M 133 3) (M 133 7) 0).2.1 + 1)) (rLd (M 135) (M 133 3) (M 133 7) 0).2.1 (rLd (M 135) (M 133 3) (M 133 7) 0).1 = ND
          have fD' : mlf i n0 M ND := by rw [← hND]; exact fD _
          have zD := mlf_z fD' hz
          have v8 : ND 133 8 = (rLd (M 135) (M 133 3) (M 133 7) 0).1 := by rw [← hND]; exact mdq8
          have v7 : ND 133 7 = (rLd (M 135) (M 133 3) (M 133 7) 0).2.1 := by rw [← hND]; exact mdq7
          have qD : ∀ b j, ¬ (b = 133 ∧ (j = 7 ∨ j = 8)) → ND b j = M b j := fun b j hb => by
            rw [← hND]
            unfold md
            rw [fx_up_ne (by omega), fx_up_ne (by omega), fx_up_ne (by omega), fx_up_ne (by omega), fx_up_ne (by omega), qN b j hb]
          rw [zD.1, zD.2.1, zD.2.2.1, v8]
          refine ⟨⟨by omega, by omega⟩, ⟨by omega, by omega⟩, fun _ => ⟨by omega, by omega⟩, fun _ => ⟨by omega, by omega⟩, fun _ _ => ?_, ⟨by omega, by omega⟩, K1 hwD _ ?_ ?_ ?_ ?_ (fun j => ?_) (fun b j h1 h2 => ?_)⟩
          · split <;> exact ⟨by omega, by omega⟩
          · exact mlf_tr fD' (fun b j _ _ _ h4 => fx_up_ne (by omega))
          · exact ms_mlf (mlf_tr fD' (fun b j _ _ _ h4 => fx_up_ne (by omega))) hm (by rw [fx_up_na (by decide), v7]; omega)
          · rw [fx_up_na (by decide), v7]
          · rw [fx_up_na (by decide), qD _ _ (by omega)]
          · by_cases hj : j = n
            · subst hj
              rw [fx_up_self, if_pos rfl]
              unfold lcd
              simp only
              by_cases hc1 : (rLb (M 135) (M 133 3) (M 133 7) 0).1 < Z.1 * Z.2.1
              · rw [if_pos hc1]
                by_cases hc2 : (rLd (M 135) (M 133 3) (M 133 7) 0).1 < Z.2.2.1
                · rw [if_pos hc2, if_pos (And.intro hc1 hc2)]
                  rcases hsg with e | e
                  · subst e
                    rw [if_pos rfl, if_neg (by decide)]
                  · subst e
                    simp
                · rw [if_neg hc2, if_neg (fun h => hc2 h.2)]
              · rw [if_neg hc1, if_neg (fun h => hc1 h.1)]
            · rw [fx_up_nk hj, if_neg hj, qD _ _ (by omega)]
          · rw [fx_up_na h2, qD b j (fun e => h1 e.1)]
        · have hw1 : (rLd (M 135) (M 133 3) (M 133 7) 0).2.2 = 1 := by
            omega
          rw [hw1]
          exact ⟨⟨by omega, by omega⟩, fun h => by omega, fun _ => K0 hw1 _ (fD _) (ms_mlf (fD _) hm (by rw [mdq7]; omega)) mdq7⟩
      · have eC' := rT_no (g := M 135) (e := M 133 3) (c := 46) (p := (rLb (M 135) (M 133 3) (M 133 7) 0).2.1) (fun h => hn (by rw [mdq7, gB1, gB2]; exact h))
        rw [eC'] at eC
        have e2 := rLt_2 (g := M 135) (e := M 133 3) (p := M 133 7) (w := 0) (by rw [eC])
        rw [e2, eC] at K0
        exact K0 rfl _ fB sB mdq7
    · have hw1 : (rLb (M 135) (M 133 3) (M 133 7) 0).2.2 = 1 := by omega
      have e2 := rLt_1 hw1
      rw [e2] at K0
      rw [hw1]
      exact ⟨⟨by omega, by omega⟩, fun h => by omega, fun _ => K0 rfl _ fB sB mdq7⟩
  refine sp_isByte (d := d + 2) s1 ⟨by omega, by omega⟩ (fun h1 h2 => s247_183 ⟨⟨by omega, by omega⟩, fun _ => ?_, fun h => by omega⟩) (fun hn => s247_183 ⟨⟨by omega, by omega⟩, fun h => absurd rfl h, fun _ => ?_⟩)
  · rw [a1, a3] at h1
    rw [a1, ag] at h2
    rw [if_pos h1, if_pos h2] at ea
    rw [if_pos h1, h2, if_pos rfl, a1]
    have := rest 0 (fx_up (fx_up M 133 7 (M 133 7 + 1)) 133 7 (M 133 7 + 1 + 1)) (Or.inl rfl) (by rw [ea]; congr 2; omega) (by omega) (mlf_tr f1 (mlf_up (Or.inl rfl))) (fun b j hb => by rw [fx_up_ne (by omega), fx_up_ne (by omega)]) (by rw [fx_up_self]; omega)
    rw [if_pos rfl] at this
    exact this
  · rw [a1, a3, ag] at hn
    have hne : (if (if M 133 7 + 1 < M 133 3 then M 135 (M 133 7 + 1) else -1) = 43 then (1 : Int) else 0) = 0 := by
      rw [if_neg]
      intro h
      split at h
      · next hlt => exact hn ⟨hlt, h⟩
      · omega
    rw [hne]
    refine sp_isByte (d := d + 2) s1 ⟨by omega, by omega⟩ (fun h1 h2 => s247_192 ⟨⟨by omega, by omega⟩, fun h => by omega, fun _ => ?_⟩) (fun hn2 => s247_192 ⟨⟨by omega, by omega⟩, fun _ => ?_, fun h => absurd rfl h⟩)
    · rw [a1, a3] at h1
      rw [a1, ag] at h2
      rw [if_pos h1, if_neg (fun h => hn ⟨h1, h⟩), if_pos h2] at ea
      rw [a1]
      have := rest 1 (fx_up (fx_up M 133 7 (M 133 7 + 1)) 133 7 (M 133 7 + 1 + 1)) (Or.inr rfl) (by rw [ea]; congr 2; omega) (by omega) (mlf_tr f1 (mlf_up (Or.inl rfl))) (fun b j hb => by rw [fx_up_ne (by omega), fx_up_ne (by omega)]) (by rw [fx_up_self]; omega)
      rw [if_neg (by decide)] at this
      exact this
    · rw [a1, a3, ag] at hn2
      have ea' : rLa (M 135) (M 133 3) (M 133 7) 0 = (-1, M 133 7 + 1, 1) := by
        rw [ea]
        by_cases h1 : M 133 7 + 1 < M 133 3
        · rw [if_pos h1, if_neg (fun h => hn ⟨h1, h⟩), if_neg (fun h => hn2 ⟨h1, h⟩)]
        · rw [if_neg h1]
      have e2 := rLt_0 (g := M 135) (e := M 133 3) (p := M 133 7) (w := 0) (by rw [ea'])
      rw [e2, ea'] at K0
      exact K0 rfl _ f1 s1 a1
/-- literals n0 and on of the reference -/
def mlt (Z : PZ) (M : fx_M) (n : Int) (q : List LT) : Prop := ∀ (j : Nat) (x : LT), q[j]? = some x → M 142 (n + j) = lcd Z x
theorem ml_loop (ho : pz_ok Z) {i n0 : Int} (h0 : 0 ≤ n0) : ∀ (f : Nat) (M : fx_M) (q : List LT), ms_at M → mz M 0 Z → M 133 3 - M 133 7 < f → 5 * (n0 + q.length) ≤ M 133 7 → M 133 24 = i → 0 ≤ i → i < 3100 → mlt Z M n0 q → ((rT (M 135) (M 133 3) 59 (rLs (M 135) (M 133 3) f (M 133 7) 0).2.1 (rLs (M 135) (M 133 3) f (M 133 7) 0).2.2).2 = 1 → ∀ M', mlf i n0 M M' → ms_at M' → M' 133 7 = (rT (M 135) (M 133 3) 59 (rLs (M 135) (M 133 3) f (M 133 7) 0).2.1 (rLs (M 135) (M 133 3) f (M 133 7) 0).2.2).1 → Q (some (jI 0)) M') → ((rT (M 135) (M 133 3) 59 (rLs (M 135) (M 133 3) f (M 133 7) 0).2.1 (rLs (M 135) (M 133 3) f (M 133 7) 0).2.2).2 = 0 → ∀ M', mlf i n0 M M' → ms_at M' → M' 133 7 = (rT (M 135) (M 133 3) 59 (rLs (M 135) (M 133 3) f (M 133 7) 0).2.1 (rLs (M 135) (M 133 3) f (M 133 7) 0).2.2).1 → M' 133 24 = i + 1 → M' 141 (i + 1) = n0 + (q.length + (rLs (M 135) (M 133 3) f (M 133 7) 0).1.length : Nat) → 5 * M' 141 (i + 1) ≤ M' 133 7 → mlt Z M' n0 (q ++ (rLs (M 135) (M 133 3) f (M 133 7) 0).1) → (∀ b j, b ≠ 133 → b ≠ 141 → b ≠ 142 → M' b j = M b j) → Q (some (jI 1)) M') → wp kc (d + 5) 247 143 [some (jR 133), none, some (jI (n0 + q.length)), none, none] [] M Q := by
  intro f
  induction f with
  | zero =>
    intro M q hm hz h1
    have := hm.2.1
    omega
  | succ f ih =>
    intro M q hm hz h1 h5 h24 hi0 hi1 hq K0 K1
    obtain ⟨m0, m1, m2, m3⟩ := hm
    have hm : ms_at M := ⟨m0, m1, m2, m3⟩
    refine s247_143 (sp_here (d := d + 3) hm (s247_147 ⟨here_in hm, fun hne => ?_, fun he => ?_⟩))
    · have hn : ¬ ((0 : Int) = 0 ∧ M 133 7 < M 133 3 ∧ M 135 (M 133 7) = 32) := fun h => hne (by rw [if_pos h.2.1]; exact h.2.2)
      rw [rLs, if_neg hn] at K0 K1
      simp only [List.length_nil, Nat.add_zero, List.append_nil] at K0 K1
      rw [h24]
      generalize hN : fx_up (fx_up M 133 24 (i + 1)) 141 (i + 1) (n0 + q.length) = N
      have qN : ∀ b j, ¬ (b = 133 ∧ j = 24) → ¬ (b = 141 ∧ j = i + 1) → N b j = M b j := fun b j e1 e2 => by rw [← hN, fx_up_ne e2, fx_up_ne e1]
      have fN : mlf i n0 M N := fun b j e1 e2 e3 e4 => qN b j (by omega) (by omega)
      have v24 : N 133 24 = i + 1 := by rw [← hN, fx_up_na (by decide), fx_up_self]
      have v141 : N 141 (i + 1) = n0 + q.length := by rw [← hN, fx_up_self]
      have v7 : N 133 7 = M 133 7 := qN _ _ (by omega) (by omega)
      have sN := ms_mlf fN hm (by rw [v7]; omega)
      obtain ⟨g1, g2⟩ := mlf_g fN
      have qt : mlt Z N n0 q := fun j x hx => by rw [qN _ _ (by omega) (by omega)]; exact hq j x hx
      refine ⟨⟨by omega, by omega⟩, sp_isByte (d := d + 2) sN ⟨by omega, by omega⟩ (fun e1 e2 => s247_314 ⟨⟨by omega, by omega⟩, ?_⟩) (fun hn2 => s247_314 ⟨⟨by omega, by omega⟩, ?_⟩)⟩
      · rw [v7, g2] at e1
        rw [v7, g1] at e2
        rw [rT_ok e1 e2] at K1
        have fN' : mlf i n0 M (fx_up N 133 7 (N 133 7 + 1)) := mlf_tr fN (mlf_up (Or.inl rfl))
        refine K1 rfl _ fN' (ms_mlf fN' hm (by rw [fx_up_self, v7]; omega)) (by rw [fx_up_self, v7]) (by rw [fx_up_nk (by decide)]; exact v24) (by rw [fx_up_na (by decide)]; exact v141) (by rw [fx_up_na (by decide), v141, fx_up_self, v7]; omega) (fun j x hx => by rw [fx_up_na (by decide)]; exact qt j x hx) (fun b j e1 e2 e3 => by rw [fx_up_na e1, qN b j (by omega) (by omega)])
      · rw [v7, g1, g2] at hn2
        rw [rT_no hn2] at K0
        exact K0 rfl N fN sN v7
    · have hlt : M 133 7 < M 133 3 := by
        by_cases h : M 133 7 < M 133 3
        · exact h
        · rw [if_neg h] at he
          omega
      rw [if_pos hlt] at he
      have hcond : (0 : Int) = 0 ∧ M 133 7 < M 133 3 ∧ M 135 (M 133 7) = 32 := ⟨rfl, hlt, he⟩
      rw [rLs, if_pos hcond] at K0 K1
      have up := rLt_up (g := M 135) hlt he
      have lb := rLt_b (g := M 135) (e := M 133 3) (p := M 133 7) (w := 0) (by omega)
      refine ml_one (i := i) (n0 := n0) hm hz ho ⟨by omega, by omega, by omega⟩ hlt he (fun hw M' f1 s1 p1 => K0 ?_ M' f1 s1 ?_) (fun hw M' f1 s1 p1 v24 v142 vq => ?_)
      · simp only
        rw [hw, rLs_w1, rT_w1]
      · simp only
        rw [hw, rLs_w1, rT_w1]
        exact p1
      · have u5 := rLt_5 (g := M 135) hlt he hw
        obtain ⟨g1, g2⟩ := mlf_g f1
        have e3 : n0 + ((q ++ [(rLt (M 135) (M 133 3) (M 133 7) 0).1]).length : Nat) = n0 + q.length + 1 := by rw [List.length_append, List.length_singleton]; omega
        have nx := ih M' (q ++ [(rLt (M 135) (M 133 3) (M 133 7) 0).1]) s1 (mlf_z f1 hz) (by rw [g2, p1]; omega) (by rw [e3, p1]; omega) (by rw [v24]; exact h24) hi0 hi1 (fun j x hx => by
          rw [v142]
          by_cases hj : j < q.length
          · rw [List.getElem?_append_left hj] at hx
            rw [if_neg (by omega)]
            exact hq j x hx
          · rw [List.getElem?_append_right (by omega)] at hx
            have hj2 : j = q.length := by
              have := (List.getElem?_eq_some_iff.mp hx).1
              rw [List.length_singleton] at this
              omega
            subst hj2
            rw [Nat.sub_self] at hx
            have ex : (rLt (M 135) (M 133 3) (M 133 7) 0).1 = x := by simpa using hx
            rw [if_pos rfl, ex])
        rw [g1, g2, p1, e3] at nx
        rw [hw] at K0 K1
        refine nx (fun hw2 M'' f2 s2 p2 => K0 hw2 M'' (mlf_tr f1 f2) s2 p2) (fun hw2 M'' f2 s2 p2 v24' v141 v5 vt vq' => K1 hw2 M'' (mlf_tr f1 f2) s2 p2 v24' ?_ v5 ?_ (fun b j e1 e2 e3 => (vq' b j e1 e2 e3).trans (vq b j e1 e3)))
        · rw [v141, List.length_append, List.length_singleton, List.length_cons]
          omega
        · rw [List.append_assoc, List.singleton_append] at vt
          exact vt
/-- the letters of lines -/
def lkB (k : Int) : Int := if k = 0 then 103 else if k = 1 then 114 else if k = 2 then 119 else if k = 3 then 117 else 98
theorem sp_scanLine (ho : pz_ok Z) {M : fx_M} {i n0 : Int} (hm : ms_at M) (hz : mz M 0 Z) (h24 : M 133 24 = i) (hi0 : 0 ≤ i) (h2i : 2 * i ≤ M 133 7) (h141 : M 141 i = n0) (hn0 : 0 ≤ n0) (h5 : 5 * n0 ≤ M 133 7) (K0 : (rLn (M 135) (M 133 3) (M 133 7) 0).2.2 = 1 → ∀ M', mlf i n0 M M' → ms_at M' → M' 133 7 = (rLn (M 135) (M 133 3) (M 133 7) 0).2.1 → Q (some (jI 0)) M') (K1 : (rLn (M 135) (M 133 3) (M 133 7) 0).2.2 = 0 → ∀ M', mlf i n0 M M' → ms_at M' → M' 133 7 = (rLn (M 135) (M 133 3) (M 133 7) 0).2.1 → M' 133 24 = i + 1 → M' 141 (i + 1) = n0 + ((rLn (M 135) (M 133 3) (M 133 7) 0).1.2.2.2.length : Nat) → 5 * M' 141 (i + 1) ≤ M' 133 7 → mlt Z M' n0 (rLn (M 135) (M 133 3) (M 133 7) 0).1.2.2.2 → M' 138 i = lkB (rLn (M 135) (M 133 3) (M 133 7) 0).1.1 → M' 139 i = (rLn (M 135) (M 133 3) (M 133 7) 0).1.2.1 → ((rLn (M 135) (M 133 3) (M 133 7) 0).1.1 = 2 → M' 140 i = (rLn (M 135) (M 133 3) (M 133 7) 0).1.2.2.1) → Q (some (jI 1)) M') : wc kc (d + 5) 247 [jR 133] M Q := by
  obtain ⟨m0, m1, m2, m3⟩ := hm
  have hm : ms_at M := ⟨m0, m1, m2, m3⟩
  have hB : (0 : Int) ≤ M 133 24 ∧ M 133 24 < 3100 := by rw [h24]; omega
  have hB1 : (0 : Int) ≤ M 133 24 ∧ M 133 24 < 3101 := by rw [h24]; omega
  have c := rKc_b (g := M 135) (e := M 133 3) (p := M 133 7) (w := 0) m1
  have b := rKb_b (g := M 135) (e := M 133 3) (p := M 133 7) (w := 0) m1
  have eb : rKb (M 135) (M 133 3) (M 133 7) 0 = if (rKa (M 135) (M 133 3) (M 133 7) 0).1 = 0 ∨ (rKa (M 135) (M 133 3) (M 133 7) 0).1 = 1 ∨ (rKa (M 135) (M 133 3) (M 133 7) 0).1 = 2 then rN (M 135) (M 133 3) 3 (rKa (M 135) (M 133 3) (M 133 7) 0).2.1 (rKa (M 135) (M 133 3) (M 133 7) 0).2.2 else (0, (rKa (M 135) (M 133 3) (M 133 7) 0).2) := rfl
  have ec : rKc (M 135) (M 133 3) (M 133 7) 0 = if (rKa (M 135) (M 133 3) (M 133 7) 0).1 = 2 then rBN (M 135) (M 133 3) 3 (rKb (M 135) (M 133 3) (M 133 7) 0).2.1 (rKb (M 135) (M 133 3) (M 133 7) 0).2.2 else (0, (rKb (M 135) (M 133 3) (M 133 7) 0).2) := rfl
  have eka : rKa (M 135) (M 133 3) (M 133 7) 0 = rC (M 135) (M 133 3) bsL (M 133 7) 0 := rfl
  rw [rC_L] at eka
  -- the literals and the end
  have lits : ∀ (N : fx_M) (kk : Int), (rKa (M 135) (M 133 3) (M 133 7) 0).1 = kk → mlf i n0 M N → N 133 7 = (rKc (M 135) (M 133 3) (M 133 7) 0).2.1 → (rKc (M 135) (M 133 3) (M 133 7) 0).2.2 = 0 → N 133 24 = i → N 138 i = lkB kk → N 139 i = (rKb (M 135) (M 133 3) (M 133 7) 0).1 → (kk = 2 → N 140 i = (rKc (M 135) (M 133 3) (M 133 7) 0).1) → wp kc (d + 5) 247 143 [some (jR 133), none, some (jI n0), none, none] [] N Q := fun N kk hk fN p7 w0 v24 v138 v139 v140 => by
    obtain ⟨g1, g2⟩ := mlf_g fN
    have sN := ms_mlf fN hm (by rw [p7]; omega)
    have lp := ml_loop (kc := kc) (d := d) (Q := Q) ho (i := i) hn0 ((M 133 3 - (rKc (M 135) (M 133 3) (M 133 7) 0).2.1).toNat + 1) N [] sN (mlf_z fN hz) (by rw [g2, p7]; omega) (by rw [p7, List.length_nil]; omega) v24 hi0 (by omega) (fun j x hx => by simp at hx)
    have ed : rLs (M 135) (M 133 3) ((M 133 3 - (rKc (M 135) (M 133 3) (M 133 7) 0).2.1).toNat + 1) (rKc (M 135) (M 133 3) (M 133 7) 0).2.1 0 = rKd (M 135) (M 133 3) (M 133 7) 0 := by
      unfold rKd
      rw [w0]
    rw [g1, g2, p7, ed] at lp
    have nx := lp (fun hw M' f1 s1 p1 => K0 hw M' (mlf_tr fN f1) s1 p1) (fun hw M' f1 s1 p1 v24' v141' v5 vt vq => K1 hw M' (mlf_tr fN f1) s1 p1 v24' (by rw [v141', List.length_nil, Nat.zero_add]; rfl) v5 (by rw [List.nil_append] at vt; exact vt) ?_ ?_ (fun h2 => ?_))
    · rw [List.length_nil, show n0 + ((0 : Nat) : Int) = n0 by omega] at nx
      exact nx
    · rw [vq _ _ (by decide) (by decide) (by decide), v138]
      show lkB kk = lkB (rKa (M 135) (M 133 3) (M 133 7) 0).1
      rw [hk]
    · rw [vq _ _ (by decide) (by decide) (by decide), v139]
      rfl
    · rw [vq _ _ (by decide) (by decide) (by decide)]
      have h3 : (rKa (M 135) (M 133 3) (M 133 7) 0).1 = 2 := h2
      exact v140 (by rw [← hk]; exact h3)
  -- a wrong one
  have wrg : ∀ (N : fx_M), mlf i n0 M N → N 133 7 = (rKc (M 135) (M 133 3) (M 133 7) 0).2.1 → (rKc (M 135) (M 133 3) (M 133 7) 0).2.2 = 1 → Q (some (jI 0)) N := fun N fN p7 w1 => by
    have e1 : (rLn (M 135) (M 133 3) (M 133 7) 0).2 = ((rKc (M 135) (M 133 3) (M 133 7) 0).2.1, 1) := by
      show rT (M 135) (M 133 3) 59 (rKd (M 135) (M 133 3) (M 133 7) 0).2.1 (rKd (M 135) (M 133 3) (M 133 7) 0).2.2 = _
      have : rKd (M 135) (M 133 3) (M 133 7) 0 = ([], (rKc (M 135) (M 133 3) (M 133 7) 0).2.1, 1) := by
        unfold rKd
        rw [w1, rLs_w1]
      rw [this, rT_w1]
    exact K0 (by rw [e1]) N fN (ms_mlf fN hm (by rw [p7]; omega)) (by rw [e1]; exact p7)
  refine s247 (sp_here (d := d + 3) hm (s247_4 ?_))
  have hu32 := here_in hm
  generalize hu : (if M 133 7 < M 133 3 then M 135 (M 133 7) else -1) = u at hu32 ⊢
  obtain ⟨hu1, hu2⟩ := hu32
  have hlt : ∀ z : Int, 0 ≤ z → u = z → M 133 7 < M 133 3 ∧ M 135 (M 133 7) = z := fun z hz0 hz1 => by
    by_cases h : M 133 7 < M 133 3
    · rw [if_pos h] at hu
      exact ⟨h, by omega⟩
    · rw [if_neg h] at hu
      omega
  have hka : (u = 103 → rKa (M 135) (M 133 3) (M 133 7) 0 = (0, M 133 7 + 1, 0)) ∧ (u = 114 → rKa (M 135) (M 133 3) (M 133 7) 0 = (1, M 133 7 + 1, 0)) ∧ (u = 119 → rKa (M 135) (M 133 3) (M 133 7) 0 = (2, M 133 7 + 1, 0)) ∧ (u = 117 → rKa (M 135) (M 133 3) (M 133 7) 0 = (3, M 133 7 + 1, 0)) ∧ (u = 98 → rKa (M 135) (M 133 3) (M 133 7) 0 = (4, M 133 7 + 1, 0)) := by
    refine ⟨fun h => ?_, fun h => ?_, fun h => ?_, fun h => ?_, fun h => ?_⟩
    · obtain ⟨h1, h2⟩ := hlt 103 (by omega) h
      rw [eka, if_pos h1, h2]
      rfl
    · obtain ⟨h1, h2⟩ := hlt 114 (by omega) h
      rw [eka, if_pos h1, h2]
      rfl
    · obtain ⟨h1, h2⟩ := hlt 119 (by omega) h
      rw [eka, if_pos h1, h2]
      rfl
    · obtain ⟨h1, h2⟩ := hlt 117 (by omega) h
      rw [eka, if_pos h1, h2]
      rfl
    · obtain ⟨h1, h2⟩ := hlt 98 (by omega) h
      rw [eka, if_pos h1, h2]
      rfl
  have f2 : mlf i n0 M (fx_up (fx_up M 133 7 (M 133 7 + 1)) 133 8 0) := mlf_tr (mlf_up (Or.inl rfl)) (mlf_up (Or.inr (Or.inl rfl)))
  have hA : u = 117 ∨ u = 98 → wp kc (d + 5) 247 143 [some (jR 133), none, some (jI (M 141 (M 133 24))), none, none] [] (fx_up (fx_up (fx_up (fx_up (fx_up M 133 7 (M 133 7 + 1)) 133 8 0) 138 (M 133 24) u) 139 (M 133 24) 0) 140 (M 133 24) 0) Q := fun h => by
    have ek : ∃ kk, rKa (M 135) (M 133 3) (M 133 7) 0 = (kk, M 133 7 + 1, 0) ∧ (kk = 3 ∨ kk = 4) ∧ lkB kk = u := by
      rcases h with h | h
      · exact ⟨3, hka.2.2.2.1 h, Or.inl rfl, by rw [h]; rfl⟩
      · exact ⟨4, hka.2.2.2.2 h, Or.inr rfl, by rw [h]; rfl⟩
    obtain ⟨kk, ek1, ek2, ek3⟩ := ek
    rw [ek1, if_neg (show ¬ (kk = 0 ∨ kk = 1 ∨ kk = 2) by omega)] at eb
    rw [ek1, if_neg (show ¬ kk = 2 by omega), eb] at ec
    rw [h24, h141]
    refine lits _ kk (by rw [ek1]) ?_ ?_ (by rw [ec]) ?_ ?_ ?_ (fun h2 => by omega)
    · exact mlf_tr f2 (fun b j e1 e2 e3 e4 => by rw [fx_up_ne (by omega), fx_up_ne (by omega), fx_up_ne (by omega)])
    · rw [fx_up_na (by decide), fx_up_na (by decide), fx_up_na (by decide), fx_up_nk (by decide), fx_up_self, ec]
    · rw [fx_up_na (by decide), fx_up_na (by decide), fx_up_na (by decide), fx_up_nk (by decide), fx_up_nk (by decide)]
      exact h24
    · rw [fx_up_na (by decide), fx_up_na (by decide), fx_up_self]
      exact ek3.symm
    · rw [fx_up_na (by decide), fx_up_self, eb]
  have hC : u = 103 ∨ u = 114 ∨ u = 119 → wc kc (d + 4) 232 [jR 133] (fx_up (fx_up M 133 7 (M 133 7 + 1)) 133 8 0) (fun v M1 => wp kc (d + 5) 247 68 [some (jR 133), some (jI u), none, none, none] (v.toList ++ []) M1 Q) := fun h => by
    have ek : ∃ kk, rKa (M 135) (M 133 3) (M 133 7) 0 = (kk, M 133 7 + 1, 0) ∧ (kk = 0 ∨ kk = 1 ∨ kk = 2) ∧ lkB kk = u ∧ (kk = 2 ↔ u = 119) ∧ M 133 7 < M 133 3 := by
      rcases h with h | h | h
      · exact ⟨0, hka.1 h, Or.inl rfl, by rw [h]; rfl, by omega, (hlt _ (by omega) h).1⟩
      · exact ⟨1, hka.2.1 h, Or.inr (Or.inl rfl), by rw [h]; rfl, by omega, (hlt _ (by omega) h).1⟩
      · exact ⟨2, hka.2.2.1 h, Or.inr (Or.inr rfl), by rw [h]; rfl, by omega, (hlt _ (by omega) h).1⟩
    obtain ⟨kk, ek1, ek2, ek3, ek4, ek5⟩ := ek
    rw [ek1, if_pos ek2] at eb
    rw [ek1] at ec
    simp only at eb ec
    have s2 := ms_mlf f2 hm (by rw [fx_up_nk (by decide), fx_up_self]; omega)
    obtain ⟨g1, g2⟩ := mlf_g f2
    have p2 : (fx_up (fx_up M 133 7 (M 133 7 + 1)) 133 8 0) 133 7 = M 133 7 + 1 := by rw [fx_up_nk (by decide), fx_up_self]
    refine sp_scanNumber (d := d) s2 (s247_68 ?_)
    rw [g1, g2, p2, ← eb]
    generalize hN3 : md (fx_up (fx_up M 133 7 (M 133 7 + 1)) 133 8 0) (rKb (M 135) (M 133 3) (M 133 7) 0).2.1 (if (rKb (M 135) (M 133 3) (M 133 7) 0).2.2 = 0 then (rKb (M 135) (M 133 3) (M 133 7) 0).1 else (fx_up (fx_up M 133 7 (M 133 7 + 1)) 133 8 0) 133 8) = N3
    have f3 : mlf i n0 M N3 := by rw [← hN3]; exact mlf_tr f2 mlf_md
    have p3 : N3 133 7 = (rKb (M 135) (M 133 3) (M 133 7) 0).2.1 := by rw [← hN3]; exact mdq7
    have q3 : ∀ b j, ¬ (b = 133 ∧ (j = 7 ∨ j = 8)) → N3 b j = M b j := fun b j hb => by
      rw [← hN3]
      unfold md
      rw [fx_up_ne (by omega), fx_up_ne (by omega), fx_up_ne (by omega), fx_up_ne (by omega)]
    have v24 : N3 133 24 = i := by rw [q3 _ _ (by omega)]; exact h24
    have v141 : N3 141 i = n0 := by rw [q3 _ _ (by omega)]; exact h141
    by_cases hw : (rKb (M 135) (M 133 3) (M 133 7) 0).2.2 = 0
    · have v8 : N3 133 8 = (rKb (M 135) (M 133 3) (M 133 7) 0).1 := by rw [← hN3, mdq8, if_pos hw]
      rw [hw, v24, v8, v141]
      have hBi : (0 : Int) ≤ i ∧ i < 3100 := by omega
      refine ⟨⟨by omega, by omega⟩, fun _ => ⟨hBi, hBi, ⟨by omega, by omega⟩, fun hne => ⟨hBi, ⟨by omega, by omega⟩, ?_⟩, fun he => ?_⟩, fun h => by omega⟩
      · rw [if_neg (show ¬ kk = 2 by omega)] at ec
        refine lits _ kk (by rw [ek1]) ?_ ?_ (by rw [ec]; exact hw) ?_ ?_ ?_ (fun h2 => by omega)
        · exact mlf_tr f3 (fun b j e1 e2 e3 e4 => by rw [fx_up_ne (by omega), fx_up_ne (by omega), fx_up_ne (by omega)])
        · rw [fx_up_na (by decide), fx_up_na (by decide), fx_up_na (by decide), p3, ec]
        · rw [fx_up_na (by decide), fx_up_na (by decide), fx_up_na (by decide)]
          exact v24
        · rw [fx_up_na (by decide), fx_up_na (by decide), fx_up_self]
          exact ek3.symm
        · rw [fx_up_na (by decide), fx_up_self]
      · rw [if_pos (show kk = 2 by omega), hw] at ec
        generalize hN4 : fx_up (fx_up N3 138 i u) 139 i (rKb (M 135) (M 133 3) (M 133 7) 0).1 = N4
        have f4 : mlf i n0 M N4 := by rw [← hN4]; exact mlf_tr f3 (fun b j e1 e2 e3 e4 => by rw [fx_up_ne (by omega), fx_up_ne (by omega)])
        have p4 : N4 133 7 = (rKb (M 135) (M 133 3) (M 133 7) 0).2.1 := by rw [← hN4, fx_up_na (by decide), fx_up_na (by decide), p3]
        have v24' : N4 133 24 = i := by rw [← hN4, fx_up_na (by decide), fx_up_na (by decide)]; exact v24
        have v138 : N4 138 i = lkB kk := by rw [← hN4, fx_up_na (by decide), fx_up_self]; exact ek3.symm
        have v139 : N4 139 i = (rKb (M 135) (M 133 3) (M 133 7) 0).1 := by rw [← hN4, fx_up_self]
        have v141' : N4 141 i = n0 := by rw [← hN4, fx_up_na (by decide), fx_up_na (by decide)]; exact v141
        have s4 := ms_mlf f4 hm (by rw [p4]; omega)
        obtain ⟨g41, g42⟩ := mlf_g f4
        refine sp_isByte (d := d + 2) s4 ⟨by omega, by omega⟩ (fun h1 h2 => s247_108 ⟨⟨by omega, by omega⟩, fun h => by omega, fun _ => ?_⟩) (fun hn => s247_108 ⟨⟨by omega, by omega⟩, fun _ => ?_, fun h => absurd rfl h⟩)
        · rw [p4, g42] at h1
          rw [p4, g41] at h2
          unfold rBN at ec
          rw [rT_ok h1 h2] at ec
          simp only at ec
          have f5 : mlf i n0 M (fx_up N4 133 7 (N4 133 7 + 1)) := mlf_tr f4 (mlf_up (Or.inl rfl))
          have s5 := ms_mlf f5 hm (by rw [fx_up_self, p4]; omega)
          obtain ⟨g51, g52⟩ := mlf_g f5
          refine sp_scanNumber (d := d) s5 (s247_115 ?_)
          rw [g51, g52, fx_up_self, p4, ← ec]
          generalize hN6 : md (fx_up N4 133 7 ((rKb (M 135) (M 133 3) (M 133 7) 0).2.1 + 1)) (rKc (M 135) (M 133 3) (M 133 7) 0).2.1 (if (rKc (M 135) (M 133 3) (M 133 7) 0).2.2 = 0 then (rKc (M 135) (M 133 3) (M 133 7) 0).1 else (fx_up N4 133 7 ((rKb (M 135) (M 133 3) (M 133 7) 0).2.1 + 1)) 133 8) = N6
          have f6 : mlf i n0 M N6 := by
            rw [← hN6]
            rw [p4] at f5
            exact mlf_tr f5 mlf_md
          have p6 : N6 133 7 = (rKc (M 135) (M 133 3) (M 133 7) 0).2.1 := by rw [← hN6]; exact mdq7
          have q6 : ∀ b j, ¬ (b = 133 ∧ (j = 7 ∨ j = 8)) → N6 b j = N4 b j := fun b j hb => by
            rw [← hN6]
            unfold md
            rw [fx_up_ne (by omega), fx_up_ne (by omega), fx_up_ne (by omega)]
          by_cases hw2 : (rKc (M 135) (M 133 3) (M 133 7) 0).2.2 = 0
          · have v8' : N6 133 8 = (rKc (M 135) (M 133 3) (M 133 7) 0).1 := by rw [← hN6, mdq8, if_pos hw2]
            rw [hw2, q6 133 24 (by omega), v24', q6 141 i (by omega), v141', v8']
            refine ⟨⟨by omega, by omega⟩, fun _ => ⟨hBi, ⟨by omega, by omega⟩, lits _ kk (by rw [ek1]) ?_ ?_ hw2 ?_ ?_ ?_ (fun _ => fx_up_self ..)⟩, fun h => by omega⟩
            · exact mlf_tr f6 (fun b j e1 e2 e3 e4 => by rw [fx_up_ne (by omega)])
            · rw [fx_up_na (by decide), p6]
            · rw [fx_up_na (by decide), q6 _ _ (by omega)]
              exact v24'
            · rw [fx_up_na (by decide), q6 _ _ (by omega)]
              exact v138
            · rw [fx_up_na (by decide), q6 _ _ (by omega)]
              exact v139
          · have hw3 : (rKc (M 135) (M 133 3) (M 133 7) 0).2.2 = 1 := by omega
            rw [hw3]
            exact ⟨⟨by omega, by omega⟩, fun h => by omega, fun _ => wrg N6 f6 p6 hw3⟩
        · rw [p4, g41, g42] at hn
          unfold rBN at ec
          rw [rT_no hn, rN_w1] at ec
          exact wrg N4 f4 (by rw [ec]; exact p4) (by rw [ec])
    · have hw1 : (rKb (M 135) (M 133 3) (M 133 7) 0).2.2 = 1 := by omega
      rw [hw1]
      have ecw : (rKc (M 135) (M 133 3) (M 133 7) 0).2 = ((rKb (M 135) (M 133 3) (M 133 7) 0).2.1, 1) := by
        rw [ec]
        split
        · unfold rBN
          rw [hw1, rT_w1, rN_w1]
        · simp only
          rw [← hw1]
      exact ⟨⟨by omega, by omega⟩, fun h => by omega, fun _ => wrg N3 f3 (by rw [ecw]; exact p3) (by rw [ecw])⟩
  have hD : u ≠ 103 → u ≠ 114 → u ≠ 119 → u ≠ 117 → u ≠ 98 → Q (some (jI 0)) M := fun n1 n2 n3 n4 n5 => by
    have ek1 : rKa (M 135) (M 133 3) (M 133 7) 0 = (-1, M 133 7, 1) := by
      rw [eka]
      by_cases h : M 133 7 < M 133 3
      · rw [if_pos h] at hu
        rw [if_pos h, hu, if_neg n1, if_neg n2, if_neg n3, if_neg n4, if_neg n5]
      · rw [if_neg h]
    rw [ek1, if_neg (by simp)] at eb
    rw [ek1, if_neg (by simp), eb] at ec
    exact wrg M mlf_rf (by rw [ec]) (by rw [ec])
  exact ⟨⟨by omega, by omega⟩, fun h => ⟨⟨by omega, by omega⟩, fun h1 => ⟨hB, hB, ⟨by omega, by omega⟩, fun _ => ⟨hB, hB1, hA (Or.inl h1)⟩, fun h' => by omega⟩, fun n1 => ⟨⟨by omega, by omega⟩, fun h1 => ⟨hB, hB, ⟨by omega, by omega⟩, fun _ => ⟨hB, hB1, hA (Or.inr h1)⟩, fun h' => by omega⟩, fun n2 => hC (by omega)⟩⟩, fun n1 => ⟨⟨by omega, by omega⟩, fun h => ⟨⟨by omega, by omega⟩, fun h1 => ⟨hB, hB, ⟨by omega, by omega⟩, fun _ => ⟨hB, hB1, hA (Or.inl h1)⟩, fun h' => by omega⟩, fun n1 => ⟨⟨by omega, by omega⟩, fun h1 => ⟨hB, hB, ⟨by omega, by omega⟩, fun _ => ⟨hB, hB1, hA (Or.inr h1)⟩, fun h' => by omega⟩, fun n2 => hC (by omega)⟩⟩, fun n2 => ⟨⟨by omega, by omega⟩, fun h => ⟨⟨by omega, by omega⟩, fun h1 => ⟨hB, hB, ⟨by omega, by omega⟩, fun _ => ⟨hB, hB1, hA (Or.inl h1)⟩, fun h' => by omega⟩, fun n1 => ⟨⟨by omega, by omega⟩, fun h1 => ⟨hB, hB, ⟨by omega, by omega⟩, fun _ => ⟨hB, hB1, hA (Or.inr h1)⟩, fun h' => by omega⟩, fun n2 => hC (by omega)⟩⟩, fun n3 => ⟨⟨by omega, by omega⟩, fun h => ⟨⟨by omega, by omega⟩, fun h1 => ⟨hB, hB, ⟨by omega, by omega⟩, fun _ => ⟨hB, hB1, hA (Or.inl h1)⟩, fun h' => by omega⟩, fun n1 => ⟨⟨by omega, by omega⟩, fun h1 => ⟨hB, hB, ⟨by omega, by omega⟩, fun _ => ⟨hB, hB1, hA (Or.inr h1)⟩, fun h' => by omega⟩, fun n2 => hC (by omega)⟩⟩, fun n4 => ⟨⟨by omega, by omega⟩, fun h => ⟨⟨by omega, by omega⟩, fun h1 => ⟨hB, hB, ⟨by omega, by omega⟩, fun _ => ⟨hB, hB1, hA (Or.inl h1)⟩, fun h' => by omega⟩, fun n1 => ⟨⟨by omega, by omega⟩, fun h1 => ⟨hB, hB, ⟨by omega, by omega⟩, fun _ => ⟨hB, hB1, hA (Or.inr h1)⟩, fun h' => by omega⟩, fun n2 => hC (by omega)⟩⟩, fun n5 => hD n1 n2 n3 n4 n5⟩⟩⟩⟩⟩
/-- the reference's lines -/
def offL (A : List LN) (i : Nat) : Nat := ((A.take i).map fun x => x.2.2.2.length).sum
def mls (Z : PZ) (M : fx_M) (A : List LN) : Prop := M 133 24 = A.length ∧ (∀ i : Nat, i ≤ A.length → M 141 (i : Int) = offL A i) ∧ ∀ (i : Nat) (x : LN), A[i]? = some x → M 138 (i : Int) = lkB x.1 ∧ M 139 (i : Int) = x.2.1 ∧ (x.1 = 2 → M 140 (i : Int) = x.2.2.1) ∧ mlt Z M (offL A i) x.2.2.2
/-- what reading a proof may change -/
def mpf (M N : fx_M) : Prop := ∀ b j, ¬ (b = 133 ∧ (j = 7 ∨ j = 8 ∨ j = 24)) → ¬ (138 ≤ b ∧ b ≤ 142) → N b j = M b j
theorem mpf_l {i n : Int} {M N : fx_M} (h : mlf i n M N) : mpf M N := fun b j h1 h2 => h b j h1 (by omega) (by omega) (by omega)
theorem mpf_tr {M N O : fx_M} (h1 : mpf M N) (h2 : mpf N O) : mpf M O := fun b j a1 a2 => (h2 b j a1 a2).trans (h1 b j a1 a2)
theorem offL_le {A : List LN} {i : Nat} {x : LN} (h : A[i]? = some x) : offL A i + x.2.2.2.length = offL A (i + 1) := by
  obtain ⟨hi, e⟩ := List.getElem?_eq_some_iff.mp h
  unfold offL
  rw [List.take_succ_eq_append_getElem hi, List.map_append, List.map_singleton, e]
  simp
theorem offL_mono {A : List LN} : ∀ {k i : Nat}, i + k ≤ A.length → offL A i ≤ offL A (i + k)
  | 0, i, h => Nat.le_refl _
  | k + 1, i, h => by
    have h1 := offL_mono (A := A) (k := k) (i := i) (by omega)
    have hl : i + k < A.length := by omega
    have h2 := offL_le (List.getElem?_eq_getElem hl)
    rw [show i + (k + 1) = i + k + 1 by omega]
    omega
theorem offL_app {A B : List LN} {i : Nat} (h : i ≤ A.length) : offL (A ++ B) i = offL A i := by
  unfold offL
  rw [List.take_append_of_le_length h]
/-- one line more -/
theorem mls_app {M N : fx_M} {A : List LN} {x : LN} (h : mls Z M A) (f : mlf A.length (offL A A.length) M N) (h24 : N 133 24 = (A.length : Int) + 1) (h141 : N 141 ((A.length : Int) + 1) = (offL A A.length : Nat) + (x.2.2.2.length : Nat)) (ht : mlt Z N (offL A A.length) x.2.2.2) (h138 : N 138 A.length = lkB x.1) (h139 : N 139 A.length = x.2.1) (h140 : x.1 = 2 → N 140 A.length = x.2.2.1) : mls Z N (A ++ [x]) := by
  obtain ⟨a1, a2, a3⟩ := h
  refine ⟨by rw [h24, List.length_append, List.length_singleton]; omega, fun i hi => ?_, fun i y hy => ?_⟩
  · rw [List.length_append, List.length_singleton] at hi
    by_cases hA : i ≤ A.length
    · rw [offL_app hA, f _ _ (by omega) (by omega) (by omega) (by omega)]
      exact a2 i hA
    · have e : i = A.length + 1 := by omega
      subst e
      have e2 := offL_le (A := A ++ [x]) (i := A.length) (x := x) (by rw [List.getElem?_append_right (Nat.le_refl _), Nat.sub_self]; rfl)
      rw [offL_app (Nat.le_refl _)] at e2
      rw [← e2, show ((A.length + 1 : Nat) : Int) = (A.length : Int) + 1 by omega, h141]
      omega
  · by_cases hA : i < A.length
    · rw [List.getElem?_append_left hA] at hy
      obtain ⟨b1, b2, b3, b4⟩ := a3 i y hy
      have hle := offL_le hy
      have hmo := offL_mono (A := A) (k := A.length - (i + 1)) (i := i + 1) (by omega)
      rw [show i + 1 + (A.length - (i + 1)) = A.length by omega] at hmo
      refine ⟨?_, ?_, fun h => ?_, ?_⟩
      · rw [f _ _ (by omega) (by omega) (by omega) (by omega)]
        exact b1
      · rw [f _ _ (by omega) (by omega) (by omega) (by omega)]
        exact b2
      · rw [f _ _ (by omega) (by omega) (by omega) (by omega)]
        exact b3 h
      · rw [offL_app (by omega)]
        intro j z hz
        have hj := (List.getElem?_eq_some_iff.mp hz).1
        rw [f _ _ (by omega) (by omega) (by omega) (by omega)]
        exact b4 j z hz
    · rw [List.getElem?_append_right (by omega)] at hy
      have hi : i = A.length := by
        have := (List.getElem?_eq_some_iff.mp hy).1
        rw [List.length_singleton] at this
        omega
      subst hi
      rw [Nat.sub_self] at hy
      have ey : x = y := by simpa using hy
      subst ey
      rw [offL_app (Nat.le_refl _)]
      exact ⟨h138, h139, h140, ht⟩
theorem mp_loop (ho : pz_ok Z) : ∀ (f : Nat) (M : fx_M) (B : List LN), ms_at M → mz M 0 Z → mls Z M B → M 133 3 - M 133 7 < f → 2 * (B.length : Int) ≤ M 133 7 → 5 * (offL B B.length : Int) ≤ M 133 7 → ((rPf (M 135) (M 133 3) f (M 133 7)).2.2 = 1 → ∀ M', mpf M M' → ms_at M' → M' 133 7 = (rPf (M 135) (M 133 3) f (M 133 7)).2.1 → Q (some (jI 0)) M') → ((rPf (M 135) (M 133 3) f (M 133 7)).2.2 = 0 → ∀ M', mpf M M' → ms_at M' → M' 133 7 = (rPf (M 135) (M 133 3) f (M 133 7)).2.1 → mls Z M' (B ++ (rPf (M 135) (M 133 3) f (M 133 7)).1) → Q (some (jI 1)) M') → ∀ C : Option fx_V → fx_M → Prop, (∀ M' v, (∃ b : Int, v = some (jI b) ∧ (b ≠ 0 → wp kc (d + 6) 246 21 [some (jR 133)] [] M' Q) ∧ (b = 0 → Q (some (jI 0)) M') ∧ (b = 0 ∨ b = 1)) → C v M') → wc kc (d + 5) 247 [jR 133] M C := by
  intro f
  induction f with
  | zero =>
    intro M B hm hz hb h1
    have := hm.2.1
    omega
  | succ f ih =>
    intro M B hm hz hb h1 h2 h5 K0 K1 C hC
    have m1 := hm.2.1
    have lnb := rLn_b (g := M 135) (e := M 133 3) (p := M 133 7) (w := 0) m1
    refine sp_scanLine (d := d) ho hm hz hb.1 (by omega) h2 (hb.2.1 B.length (Nat.le_refl _)) (by omega) h5 (fun hw M1 f1 s1 p1 => ?_) (fun hw M1 f1 s1 p1 v24 v141 v5 vt v138 v139 v140 => ?_)
    · rw [rPf, if_neg (by omega)] at K0
      exact hC M1 _ ⟨0, rfl, fun h => absurd rfl h, fun _ => K0 hw M1 (mpf_l f1) s1 p1, Or.inl rfl⟩
    · have up := rLn_up (g := M 135) m1 hw
      have hb2 := mls_app hb f1 v24 v141 vt v138 v139 v140
      obtain ⟨g1, g2⟩ := mlf_g f1
      refine hC M1 _ ⟨1, rfl, fun _ => ?_, fun h => by omega, Or.inr rfl⟩
      have hz1 := mlf_z f1 hz
      refine s246_21 ⟨⟨⟨by have := s1.1; omega, by have := s1.2.1; have := s1.2.2.1; omega⟩, ⟨by have := s1.1; have := s1.2.1; omega, by have := s1.2.2.1; omega⟩⟩, fun hge => ?_, fun hlt => ?_⟩
      · rw [g2, p1] at hge
        rw [rPf, if_neg (by omega)] at K1
        exact K1 hw M1 (mpf_l f1) s1 p1 hb2
      · rw [g2, p1] at hlt
        rw [rPf, if_pos ⟨hw, hlt⟩] at K0 K1
        have lB : (((B ++ [(rLn (M 135) (M 133 3) (M 133 7) 0).1]).length : Nat) : Int) = (B.length : Int) + 1 := by rw [List.length_append, List.length_singleton]; omega
        have oB : M1 141 ((((B ++ [(rLn (M 135) (M 133 3) (M 133 7) 0).1]).length : Nat)) : Int) = (offL (B ++ [(rLn (M 135) (M 133 3) (M 133 7) 0).1]) (B ++ [(rLn (M 135) (M 133 3) (M 133 7) 0).1]).length : Nat) := hb2.2.1 _ (Nat.le_refl _)
        have nx := ih M1 (B ++ [(rLn (M 135) (M 133 3) (M 133 7) 0).1]) s1 hz1 hb2 (by rw [g2, p1]; omega) (by rw [lB, p1]; omega) (by rw [← oB, lB]; exact v5)
        rw [g1, g2, p1] at nx
        refine nx (fun hw2 M2 f2 s2 p2 => K0 hw2 M2 (mpf_tr (mpf_l f1) f2) s2 p2) (fun hw2 M2 f2 s2 p2 c2 => K1 hw2 M2 (mpf_tr (mpf_l f1) f2) s2 p2 ?_) _ (fun M' v ⟨b, e1, e2, e3, e4⟩ => ?_)
        · rw [List.append_assoc, List.singleton_append] at c2
          exact c2
        · subst e1
          exact s246_36 ⟨⟨by omega, by omega⟩, e2, e3⟩
theorem sp_scanProof (ho : pz_ok Z) {M : fx_M} (hm : ms_at M) (hz : mz M 0 Z) (K0 : (rPf (M 135) (M 133 3) ((M 133 3 - M 133 7).toNat + 1) (M 133 7)).2.2 = 1 → ∀ M', mpf M M' → ms_at M' → M' 133 7 = (rPf (M 135) (M 133 3) ((M 133 3 - M 133 7).toNat + 1) (M 133 7)).2.1 → Q (some (jI 0)) M') (K1 : (rPf (M 135) (M 133 3) ((M 133 3 - M 133 7).toNat + 1) (M 133 7)).2.2 = 0 → ∀ M', mpf M M' → ms_at M' → M' 133 7 = (rPf (M 135) (M 133 3) ((M 133 3 - M 133 7).toNat + 1) (M 133 7)).2.1 → mls Z M' (rPf (M 135) (M 133 3) ((M 133 3 - M 133 7).toNat + 1) (M 133 7)).1 → Q (some (jI 1)) M') : wc kc (d + 6) 246 [jR 133] M Q := by
  have m0 := hm.1
  have m1 := hm.2.1
  refine s246 ?_
  generalize hN : fx_up (fx_up M 133 24 0) 141 0 0 = N
  have qN : ∀ b j, ¬ (b = 133 ∧ j = 24) → ¬ (b = 141 ∧ j = 0) → N b j = M b j := fun b j e1 e2 => by rw [← hN, fx_up_ne e2, fx_up_ne e1]
  have fN : mpf M N := fun b j e1 e2 => qN b j (by omega) (by omega)
  have g1 : N 135 = M 135 := funext (fun j => qN _ _ (by omega) (by omega))
  have g2 : N 133 3 = M 133 3 := qN _ _ (by omega) (by omega)
  have p1 : N 133 7 = M 133 7 := qN _ _ (by omega) (by omega)
  have sN : ms_at N := by
    refine ⟨by rw [p1]; exact m0, by rw [p1, g2]; exact m1, by rw [g2]; exact hm.2.2.1, fun j h0 h1 => ?_⟩
    rw [g2] at h1
    rw [g1]
    exact hm.2.2.2 j h0 h1
  have bN : mls Z N [] := ⟨by rw [← hN, fx_up_na (by decide), fx_up_self]; rfl, fun i hi => by
    have : i = 0 := by simpa using hi
    subst this
    rw [← hN, show (((0 : Nat)) : Int) = 0 from rfl, fx_up_self]
    rfl, fun i x hx => by simp at hx⟩
  have nx := mp_loop (kc := kc) (d := d) (Q := Q) ho ((M 133 3 - M 133 7).toNat + 1) N [] sN (mz_frM hz (fun b j h1 h2 => qN b j (by omega) (by omega))) bN (by rw [g2, p1]; omega) (by rw [p1, List.length_nil]; omega) (by
    have e0 : offL [] ([] : List LN).length = 0 := rfl
    rw [e0, p1]
    omega)
  rw [g1, g2, p1] at nx
  refine nx (fun hw M' f s p => K0 hw M' (mpf_tr fN f) s p) (fun hw M' f s p c => K1 hw M' (mpf_tr fN f) s p (by rw [List.nil_append] at c; exact c)) _ (fun M' v ⟨b, e1, e2, e3, e4⟩ => ?_)
  subst e1
  exact s246_16 ⟨⟨by omega, by omega⟩, e2, e3⟩
end MRL
