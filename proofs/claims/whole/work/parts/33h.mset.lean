/-! An entry of the book becomes an item of the contest, in the reference. -/
section MSI
variable {kc : List va_E} {d k : Nat} {Q : Option fx_V → fx_M → Prop} {M : fx_M} {C : List CI} {nm : List Int} {pts : Int} {g : Int → Int}
def fmsi (n : Int) (M M' : fx_M) (cs : List Int) : Prop := ∀ b j, ¬ (b = 133 ∧ (j = 3 ∨ (7 ≤ j ∧ j ≤ 23) ∨ j = 89)) → b ≠ 135 → b ≠ 137 → ¬ (182 ≤ b ∧ b ≤ 187) → ¬ ucell (4 + n) b j → M' b j = m_app M cs b j
theorem sp_saySetItem (hn : mnm M nm) (hnm : nm_ok nm) (hg : mbk M g) (hb : bk_b g) (hM : bMd g) (hC : mct M C) (hk : ct_ok k C) (hO : m_ok M) (hpt : 0 ≤ pts ∧ pts < 1000) (K : ∀ M', mct M' (stP g nm C pts).2 → fmsi C.length M M' (stW (stP g nm C pts).1) → Q none M') : wc kc (d + 9) 375 [jR 133, jI pts] M Q := by
  have hrb := bRt_b (g := g)
  have h0 := hb (bRt g) (by omega) (by omega)
  have h15 := hM.2.1
  have h6 := hk.2.1
  have hf := bFd_b (g := g) (nm := nm) (u := (g (bRt g)).toNat) (i := 0)
  have hfb := fIt_b (nm := nm) (C := C) (i := 0)
  have app : ∀ cs, mct (m_app M cs) C := fun cs => mct_fr hC hk (m_app_ne (by omega) (by decide)) (fun b j hb => m_app_ne (by omega) (by omega))
  refine s375 (sp_find (d := d + 4) hn hnm hg hb hM.1 (bMd_H hM) (s375_4 ?_))
  unfold stP at K
  generalize bFd g nm (g (bRt g)).toNat 0 = o at hf K ⊢
  refine ⟨⟨by omega, by omega⟩, fun hp => ?_, fun hlt => sp_sayNo (d := d + 4) (by unfold w_ok; omega) hO (s375_16 ?_)⟩
  case refine_2 =>
    rw [if_pos hlt] at K
    exact K _ (app _) (fun b j _ _ _ _ _ => rfl)
  rw [if_neg (by omega)] at K
  have hEn := hM.2.2.2 o (by omega) (by omega)
  refine sp_findItem (d := d + 7) hn hnm hC hk (s375_23 ?_)
  generalize fIt nm C 0 = q at hfb K ⊢
  have c0 := hC.1
  rw [c0]
  refine ⟨⟨by omega, by omega⟩, fun hq => ⟨⟨by omega, by omega⟩, fun hne => ?_, fun h6e => sp_sayRefusal (d := d + 3) ⟨by omega, by omega⟩ hO (s375_50 ?_)⟩, fun hq => sp_sayWord (d := d + 5) (by unfold w_ok; omega) hO (s375_33 ?_)⟩
  case refine_2 =>
    rw [if_neg (by omega), if_pos (by omega)] at K
    exact K _ (app _) (fun b j _ _ _ _ _ => rfl)
  case refine_3 =>
    rw [if_pos hq] at K
    exact K _ (app _) (fun b j _ _ _ _ _ => rfl)
  rw [if_neg (by omega), if_neg (by omega)] at K
  refine ⟨⟨by omega, by omega⟩, ?_⟩
  obtain ⟨n0, n1, n2, n3⟩ := hn
  obtain ⟨q1, q2, q3⟩ := hnm
  -- behind the two loops
  have z2 : ∀ (u p : Nat) (R : fx_M), p + u = 3 → R 183 (C.length : Int) = nm.length → (∀ (j : Nat) (c : Int), nm[j]? = some c → R 182 (8 * (C.length : Int) + j) = c) → R 184 (C.length : Int) = pts → (∀ i : Nat, i < p → R 185 (6 * (i : Int) + C.length) = 0 ∧ R 186 (6 * (i : Int) + C.length) = 0) → (∀ b j, ¬ ((b = 183 ∨ b = 184) ∧ j = (C.length : Int)) → ¬ (b = 182 ∧ 8 * (C.length : Int) ≤ j) → ¬ ((b = 185 ∨ b = 186) ∧ j % 6 = (C.length : Int)) → R b j = M b j) → wp kc (d + 9) 375 119 [some (jR 133), none, some (jI o), some (jI p)] [] R Q := by
    intro u
    induction u with
    | zero =>
      intro p R hp3 r1 r2 r3 r4 fR
      have ep : p = 3 := by omega
      subst ep
      have hgR : mbk R g := mbk_fr hg (fun j => fR 188 j (by omega) (by omega) (by omega))
      have r89 : R 133 89 = C.length := by rw [fR 133 89 (by omega) (by omega) (by omega), c0]
      have r5 : R 133 5 = M 133 5 := fR 133 5 (by omega) (by omega) (by omega)
      refine s375_119 ⟨⟨by omega, by omega⟩, fun _ => ?_, fun h => by omega⟩
      refine sp_fetch (d := d + 5) hgR hb hM.1 ⟨by omega, by omega⟩ hEn.1 (fun h => absurd hEn.2.1 h) (fun _ => ?_)
      refine sp_fload (d := d) (kc := kc) (u := 4 + (C.length : Int)) (Q := fun v M1 => wp kc (d + 9) 375 176 [some (jR 133), none, none, none] (v.toList ++ []) M1 Q) ⟨by omega, by omega⟩ hgR hb hM.1 ⟨by omega, by omega⟩ hEn (fun P p1 p2 p3 p4 => s375_176 ?_) (fun N hN hw => s375_165 ?_)
      · have p89 : P 133 89 = C.length := by rw [p4 133 89 (by omega) (by decide) (by decide) (by unfold ucell; omega), r89]
        have p5 : P 133 5 = M 133 5 := by rw [p4 133 5 (by omega) (by decide) (by decide) (by unfold ucell; omega), r5]
        have pc : ∀ b j, 182 ≤ b → b ≤ 187 → P b j = R b j := fun b j b1 b2 => p4 b j (by omega) (by omega) (by omega) (by unfold ucell; omega)
        rw [p89]
        have q5 : fx_up P 133 89 ((C.length : Int) + 1) 133 5 = M 133 5 := by rw [fx_up_nk (by decide), p5]
        refine sp_sayOk (d := d + 4) (m_okq hO q5) (s375_191 (K _ ⟨?_, fun i t ht => ?_⟩ (fun b j b1 b2 b3 b4 b5 => m_app_fq q5 (fun a => ?_) ?_)))
        · rw [m_app_ne (by omega) (by decide), fx_up_self, List.length_append, List.length_singleton]
          omega
        · by_cases hi : i < C.length
          · rw [List.getElem?_append_left hi] at ht
            obtain ⟨a1, a2, a3, a4, a5⟩ := hC.2 i t ht
            have hnt := hk.2.2 t (List.mem_of_getElem? ht)
            have hn8 := hnt.1.2.1
            have gc : ∀ b j, 182 ≤ b → b ≤ 187 → ¬ ((b = 183 ∨ b = 184) ∧ j = (C.length : Int)) → ¬ (b = 182 ∧ 8 * (C.length : Int) ≤ j) → ¬ ((b = 185 ∨ b = 186) ∧ j % 6 = (C.length : Int)) → m_app (fx_up P 133 89 ((C.length : Int) + 1)) t_ok b j = M b j := fun b j b0 b1 b2 b3 b4 => by
              rw [m_app_ne (by omega) (by omega), fx_up_na (by omega), pc b j b0 b1, fR b j b2 b3 b4]
            refine ⟨?_, fun j c hj => ?_, ?_, ?_, fun p hp => ⟨?_, fun h => ⟨?_, ?_⟩, fun h => ?_⟩⟩
            · rw [gc 183 _ (by omega) (by omega) (by omega) (by omega) (by omega)]
              exact a1
            · have hjl := (List.getElem?_eq_some_iff.mp hj).1
              rw [gc 182 _ (by omega) (by omega) (by omega) (by omega) (by omega)]
              exact a2 j c hj
            · refine mz_frM (ucell_ufr (u := 4 + (C.length : Int)) (M := M) (N := P) (fun b j b1 b2 b3 => ?_) a3 hnt.2.1 (by omega)) (fun b j b1 b2 => ?_)
              · rw [p4 b j (by omega) (by omega) (by omega) b3, fR b j (by omega) (by omega) (by omega)]
              · rw [m_app_ne (by omega) (by omega), fx_up_na (by omega)]
            · rw [gc 184 _ (by omega) (by omega) (by omega) (by omega) (by omega)]
              exact a4
            · rw [gc 185 _ (by omega) (by omega) (by omega) (by omega) (by omega)]
              exact (a5 p hp).1
            · rw [gc 186 _ (by omega) (by omega) (by omega) (by omega) (by omega)]
              exact ((a5 p hp).2.1 h).1
            · rw [gc 187 _ (by omega) (by omega) (by omega) (by omega) (by omega)]
              exact ((a5 p hp).2.1 h).2
            · rw [gc 186 _ (by omega) (by omega) (by omega) (by omega) (by omega)]
              exact (a5 p hp).2.2 h
          · have hil := (List.getElem?_eq_some_iff.mp ht).1
            rw [List.length_append, List.length_singleton] at hil
            have ei : i = C.length := by omega
            subst ei
            rw [List.getElem?_append_right (by omega), Nat.sub_self] at ht
            cases ht
            have gc : ∀ b j, 182 ≤ b → b ≤ 187 → m_app (fx_up P 133 89 ((C.length : Int) + 1)) t_ok b j = R b j := fun b j b0 b1 => by rw [m_app_ne (by omega) (by omega), fx_up_na (by omega), pc b j b0 b1]
            refine ⟨?_, fun j c hj => ?_, ?_, ?_, fun p hp => ⟨?_, fun h => ?_, fun h => ?_⟩⟩
            · rw [gc 183 _ (by omega) (by omega), r1]
              rfl
            · rw [gc 182 _ (by omega) (by omega)]
              exact r2 j c hj
            · exact mz_frM p1 (fun b j b1 b2 => by rw [m_app_ne (by omega) (by omega), fx_up_na (by omega)])
            · rw [gc 184 _ (by omega) (by omega), r3]
              rfl
            · rw [gc 185 _ (by omega) (by omega), (r4 p hp).1]
              rfl
            · exact absurd h (by show ¬ (0 : Int) ≤ -1; omega)
            · rw [gc 186 _ (by omega) (by omega), (r4 p hp).2]
        · rw [fx_up_na (by decide), p4 136 a (by omega) (by decide) (by decide) (by unfold ucell; omega), fR 136 a (by omega) (by omega) (by omega)]
        · rw [fx_up_ne (by omega), p4 b j (by omega) b2 b3 b5, fR b j (by omega) (by omega) (by omega)]
      · have e89 : N 133 89 = C.length := by rw [hN.1 133 89 (by omega) (by decide), r89]
        rw [e89]
        exact hw
    | succ u ih =>
      intro p R hp3 r1 r2 r3 r4 fR
      have r89 : R 133 89 = C.length := by rw [fR 133 89 (by omega) (by omega) (by omega), c0]
      refine s375_119 ?_
      rw [r89]
      have nx := ih (p + 1) (fx_up (fx_up R 185 (6 * (p : Int) + C.length) 0) 186 (6 * (p : Int) + C.length) 0) (by omega) (by rw [fx_up_na (by decide), fx_up_na (by decide)]; exact r1) (fun j c hj => by rw [fx_up_na (by decide), fx_up_na (by decide)]; exact r2 j c hj) (by rw [fx_up_na (by decide), fx_up_na (by decide)]; exact r3) (fun i hi => by
        by_cases ei : i = p
        · subst ei
          exact ⟨by rw [fx_up_na (by decide), fx_up_self], fx_up_self ..⟩
        · have := r4 i (by omega)
          exact ⟨by rw [fx_up_na (by decide), fx_up_nk (by omega)]; exact this.1, by rw [fx_up_nk (by omega), fx_up_na (by decide)]; exact this.2⟩) (fun b j b1 b2 b3 => by
        rw [fx_up_ne (by omega), fx_up_ne (by omega)]
        exact fR b j b1 b2 b3)
      rw [show ((p + 1 : Nat) : Int) = (p : Int) + 1 by omega] at nx
      exact ⟨⟨by omega, by omega⟩, fun h => by omega, fun _ => ⟨⟨by omega, by omega⟩, ⟨by omega, by omega⟩, nx⟩⟩
  have z1 : ∀ (u i : Nat) (R : fx_M), i + u = nm.length → R 183 (C.length : Int) = nm.length → (∀ (j : Nat) (c : Int), nm[j]? = some c → j < i → R 182 (8 * (C.length : Int) + j) = c) → (∀ b j, ¬ (b = 183 ∧ j = (C.length : Int)) → ¬ (b = 182 ∧ 8 * (C.length : Int) ≤ j) → R b j = M b j) → wp kc (d + 9) 375 68 [some (jR 133), some (jI pts), some (jI o), some (jI i)] [] R Q := by
    intro u
    induction u with
    | zero =>
      intro i R hi r1 r2 fR
      have r89 : R 133 89 = C.length := by rw [fR 133 89 (by omega) (by omega), c0]
      have r16 : R 133 16 = nm.length := by rw [fR 133 16 (by omega) (by omega), n0]
      refine s375_68 ?_
      rw [r89, r16]
      refine ⟨⟨⟨by omega, by omega⟩, ⟨by omega, by omega⟩⟩, fun _ => ⟨⟨by omega, by omega⟩, ?_⟩, fun h => by omega⟩
      refine z2 3 0 _ (by omega) (by rw [fx_up_na (by decide)]; exact r1) (fun j c hj => ?_) (fx_up_self ..) (fun x hx => by omega) (fun b j b1 b2 b3 => by rw [fx_up_ne (by omega), fR b j (by omega) b2])
      have hjl := (List.getElem?_eq_some_iff.mp hj).1
      rw [fx_up_na (by decide)]
      exact r2 j c hj (by omega)
    | succ u ih =>
      intro i R hi r1 r2 fR
      have hil : i < nm.length := by omega
      have r89 : R 133 89 = C.length := by rw [fR 133 89 (by omega) (by omega), c0]
      have r16 : R 133 16 = nm.length := by rw [fR 133 16 (by omega) (by omega), n0]
      have r15 : R 133 15 = M 133 15 := fR 133 15 (by omega) (by omega)
      refine s375_68 ?_
      rw [r89, r16, r15]
      have nx := ih (i + 1) (fx_up R 182 (8 * (C.length : Int) + i) (R 135 (M 133 15 + i))) (by omega) (by rw [fx_up_na (by decide)]; exact r1) (fun j c hj hlt => by
        by_cases ej : j = i
        · subst ej
          rw [fx_up_self, fR 135 _ (by omega) (by omega)]
          exact n3 j c hj
        · rw [fx_up_nk (by omega)]
          exact r2 j c hj (by omega)) (fun b j b1 b2 => by
        rw [fx_up_ne (by omega)]
        exact fR b j b1 b2)
      rw [show ((i + 1 : Nat) : Int) = (i : Int) + 1 by omega] at nx
      exact ⟨⟨⟨by omega, by omega⟩, ⟨by omega, by omega⟩⟩, fun h => by omega, fun _ => ⟨⟨by omega, by omega⟩, ⟨by omega, by omega⟩, nx⟩⟩
  rw [n0]
  exact z1 nm.length 0 _ (by omega) (fx_up_self ..) (fun j c hj h => by omega) (fun b j b1 b2 => fx_up_ne b1)
end MSI
