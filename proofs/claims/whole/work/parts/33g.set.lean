/-! An entry of the book becomes an item of the contest, on both sides. -/
def ciN (nm : List Int) (Z : PZ) (pts : Int) : CI := (nm, Z, pts, fun _ => 0, fun _ => -1)
/-- what setting answers: 0 no name, 1 there, 2 no room, 3 ok -/
def stW (n : Nat) : List Int := if n = 0 then t_no 1851878757 else if n = 1 then wls 499967685221 else if n = 2 then t_rf 4 else t_ok
theorem ct_more {k : Nat} {C : List CI} {nm : List Int} {Z : PZ} {pts : Int} (h : ct_ok k C) (hl : C.length < 6) (hn : nm_ok nm) (hz : pz_ok Z) (hp : 0 ≤ pts ∧ pts < 1000) : ct_ok k (C ++ [ciN nm Z pts]) := by
  refine ⟨h.1, by rw [List.length_append, List.length_singleton]; omega, fun t ht => ?_⟩
  rcases List.mem_append.mp ht with e | e
  · exact h.2.2 t e
  · rw [List.mem_singleton.mp e]
    refine ⟨hn, hz, hp.1, hp.2, fun p _ => ?_⟩
    show 0 ≤ (0 : Int) ∧ (0 : Int) ≤ k ∧ -1 ≤ (-1 : Int) ∧ (-1 : Int) < 1000
    omega
section SET
variable {L : Nat} {xs : Nat → Int32} {kc : List va_E} {d k : Nat} {Q : Option fx_V → fx_M → Prop} {M : fx_M} {C : List CI} {nm : List Int} {Z : PZ} {pts : Int}
theorem sp_add (hn : snm M nm) (hnm : nm_ok nm) (hC : cct M C) (hk : ct_ok k C) (hz : cz M 20 Z) (ho : pz_ok Z) (K0 : 0 ≤ fIt nm C 0 → Q (some (jR 1000151)) M) (K1 : fIt nm C 0 < 0 → 6 ≤ C.length → Q (some (jR 1000153)) M) (K2 : fIt nm C 0 < 0 → C.length < 6 → ∀ M', cct M' (C ++ [ciN nm Z pts]) → (∀ b j, ¬ (62 ≤ b ∧ b ≤ 124) → M' b j = M b j) → Q (some (jR 1000155)) M') : wc kc (d + 2) 184 [jR 62, jR 7, jI pts, jR 20] M Q := by
  have hfb := fIt_b (nm := nm) (C := C) (i := 0)
  have h6 := hk.2.1
  refine s184 fx_scn7 puz20 (sp_itemOf (d := d) hn hnm hC hk (s184_5 (h1n := 5606) fx_scn7 puz20 ?_))
  obtain ⟨n0, n1, n2, n3, n4⟩ := hn
  obtain ⟨q1, q2, q3⟩ := hnm
  have c0 := hC.1
  generalize fIt nm C 0 = o at hfb K0 K1 K2 ⊢
  refine ⟨⟨by omega, by omega⟩, fun hneg => ⟨⟨by omega, by omega⟩, fun hlt => ?_, fun hge => K1 hneg (by omega)⟩, fun h => K0 h⟩
  have K3 := K2 hneg (by omega)
  rw [n0, Int.toNat_natCast]
  generalize hN : fx_cpy M 2 (M 7 6) 63 (8 * M 62 0) (M 7 7) = N
  have nf : ∀ b j, ¬ (b = 63 ∧ 8 * (C.length : Int) ≤ j ∧ j < 8 * (C.length : Int) + nm.length) → N b j = M b j := fun b j hb => by
    rw [← hN]
    unfold fx_cpy
    rw [c0, n1, if_neg hb]
  have nt : ∀ (j : Nat) (c : Int), nm[j]? = some c → N 63 (8 * (C.length : Int) + j) = c := fun j c hj => by
    have hjl := (List.getElem?_eq_some_iff.mp hj).1
    rw [← hN]
    unfold fx_cpy
    rw [c0, n1, if_pos ⟨rfl, by omega, by omega⟩, show M 7 6 + (8 * (C.length : Int) + j - 8 * (C.length : Int)) = M 7 6 + j by omega]
    exact n4 j c hj
  have e62 : N 62 0 = C.length := by rw [nf 62 0 (by omega), c0]
  have e7 : N 7 7 = nm.length := by rw [nf 7 7 (by omega), n1]
  rw [e62, e7, n1, c0, Int.toNat_natCast]
  have hl6 : C.length < 6 := by omega
  refine ⟨⟨⟨by omega, by omega, by omega, by omega, by omega⟩, ⟨by unfold fx_a; rfl, by omega⟩⟩, ⟨by omega, by omega⟩, ⟨by omega, by omega⟩, ?_⟩
  refine sp_copy (d := d) (puz_it hl6) puz20 (by omega) (cz_fr hz (fun b j b1 b2 => by rw [fx_up_na (by omega), nf b j (by omega)])) ho (fun P p1 p2 => s184_75 fx_scn7 puz20 ?_)
  have pf : ∀ b j, ¬ (71 + 9 * C.length ≤ b ∧ b ≤ 71 + 9 * C.length + 8) → ¬ (b = 64 ∧ j = (C.length : Int)) → P b j = N b j := fun b j b1 b2 => by rw [p2 b j b1, fx_up_ne b2]
  have p62 : P 62 0 = C.length := by rw [pf 62 0 (by omega) (by omega), e62]
  have p64 : P 64 (C.length : Int) = nm.length := by rw [p2 64 _ (by omega), fx_up_self]
  rw [p62]
  refine ⟨⟨by omega, by omega⟩, ?_⟩
  have z : ∀ (u q : Nat) (R : fx_M), q + u = 3 → (∀ p : Nat, p < q → R 67 (6 * (p : Int) + C.length) = 0 ∧ R 68 (6 * (p : Int) + C.length) = -1) → (∀ b j, ¬ ((b = 67 ∨ b = 68) ∧ j % 6 = (C.length : Int)) → R b j = fx_up P 66 (C.length : Int) pts b j) → wp kc (d + 2) 184 88 [some (jR 62), none, none, none, some (jI q)] [] R Q := by
    intro u
    induction u with
    | zero =>
      intro q R hq hS fR
      have r62 : R 62 0 = C.length := by rw [fR 62 0 (by omega), fx_up_na (by decide), p62]
      have eq : q = 3 := by omega
      subst eq
      refine s184_88 fx_scn7 puz20 ?_
      rw [r62]
      refine ⟨⟨by omega, by omega⟩, fun _ => K3 _ ⟨?_, fun i t ht => ?_⟩ (fun b j hb => ?_), fun h => by omega⟩
      · rw [fx_up_self, List.length_append, List.length_singleton]
        omega
      · by_cases hi : i < C.length
        · rw [List.getElem?_append_left hi] at ht
          obtain ⟨a1, a2, a3, a4, a5⟩ := hC.2 i t ht
          have hnt := (hk.2.2 t (List.mem_of_getElem? ht)).1.2.1
          have g : ∀ b j, ¬ (b = 62) → ¬ ((b = 67 ∨ b = 68) ∧ j % 6 = (C.length : Int)) → ¬ (b = 66 ∧ j = (C.length : Int)) → ¬ (71 + 9 * C.length ≤ b ∧ b ≤ 71 + 9 * C.length + 8) → ¬ (b = 64 ∧ j = (C.length : Int)) → ¬ (b = 63 ∧ 8 * (C.length : Int) ≤ j ∧ j < 8 * (C.length : Int) + nm.length) → fx_up R 62 0 ((C.length : Int) + 1) b j = M b j := fun b j b1 b2 b3 b4 b5 b6 => by
            rw [fx_up_na b1, fR b j b2, fx_up_ne b3, pf b j b4 b5, nf b j b6]
          refine ⟨?_, fun j c hj => ?_, cz_fr a3 (fun b j b1 b2 => g b j (by omega) (by omega) (by omega) (by omega) (by omega) (by omega)), ?_, fun p hp => ⟨?_, ?_⟩⟩
          · rw [g 64 _ (by decide) (by omega) (by omega) (by omega) (by omega) (by omega)]
            exact a1
          · have hjl := (List.getElem?_eq_some_iff.mp hj).1
            rw [g 63 _ (by decide) (by omega) (by omega) (by omega) (by omega) (by omega)]
            exact a2 j c hj
          · rw [g 66 _ (by decide) (by omega) (by omega) (by omega) (by omega) (by omega)]
            exact a4
          · rw [g 67 _ (by decide) (by omega) (by omega) (by omega) (by omega) (by omega)]
            exact (a5 p hp).1
          · rw [g 68 _ (by decide) (by omega) (by omega) (by omega) (by omega) (by omega)]
            exact (a5 p hp).2
        · have hil := (List.getElem?_eq_some_iff.mp ht).1
          rw [List.length_append, List.length_singleton] at hil
          have ei : i = C.length := by omega
          subst ei
          rw [List.getElem?_append_right (by omega), Nat.sub_self] at ht
          cases ht
          refine ⟨?_, fun j c hj => ?_, cz_fr p1 (fun b j b1 b2 => ?_), ?_, fun p hp => ⟨?_, ?_⟩⟩
          · rw [fx_up_na (by decide), fR 64 _ (by omega), fx_up_na (by decide), p64]
            rfl
          · rw [fx_up_na (by decide), fR 63 _ (by omega), fx_up_na (by decide), pf 63 _ (by omega) (by omega)]
            exact nt j c hj
          · rw [fx_up_na (by omega), fR b j (by omega), fx_up_na (by omega)]
          · rw [fx_up_na (by decide), fR 66 _ (by omega), fx_up_self]
            rfl
          · rw [fx_up_na (by decide)]
            exact (hS p hp).1
          · rw [fx_up_na (by decide)]
            exact (hS p hp).2
      · rw [fx_up_na (by omega), fR b j (by omega), fx_up_na (by omega), pf b j (by omega) (by omega), nf b j (by omega)]
    | succ u ih =>
      intro q R hq hS fR
      have r62 : R 62 0 = C.length := by rw [fR 62 0 (by omega), fx_up_na (by decide), p62]
      refine s184_88 fx_scn7 puz20 ?_
      rw [r62]
      have nx := ih (q + 1) (fx_up (fx_up R 67 (6 * (q : Int) + C.length) 0) 68 (6 * (q : Int) + C.length) (-1)) (by omega) (fun p hp => by
        by_cases ep : p = q
        · subst ep
          exact ⟨by rw [fx_up_na (by decide), fx_up_self], fx_up_self ..⟩
        · have := hS p (by omega)
          exact ⟨by rw [fx_up_na (by decide), fx_up_nk (by omega)]; exact this.1, by rw [fx_up_nk (by omega), fx_up_na (by decide)]; exact this.2⟩) (fun b j hb => by
        rw [fx_up_ne (by omega), fx_up_ne (by omega)]
        exact fR b j hb)
      rw [show ((q + 1 : Nat) : Int) = (q : Int) + 1 by omega] at nx
      exact ⟨⟨by omega, by omega⟩, fun h => by omega, fun _ => ⟨⟨by omega, by omega⟩, ⟨by omega, by omega⟩, nx⟩⟩
  exact z 3 0 _ (by omega) (fun p hp => by omega) (fun _ _ _ => rfl)
end SET
def stP (g : Int → Int) (nm : List Int) (C : List CI) (pts : Int) : Nat × List CI := if bFd g nm (g (bRt g)).toNat 0 < 0 then (0, C) else if 0 ≤ fIt nm C 0 then (1, C) else if 6 ≤ C.length then (2, C) else (3, C ++ [ciN nm (bZ g (bFd g nm (g (bRt g)).toNat 0)) pts])
section STI
variable {L : Nat} {xs : Nat → Int32} {kc : List va_E} {d k : Nat} {Q : Option fx_V → fx_M → Prop} {M : fx_M} {C : List CI} {nm : List Int} {Y : PZ} {pts : Int} {g : Int → Int}
def fsti (M M' : fx_M) (cs : List Int) : Prop := ∀ b j, b ≠ 129 → b ≠ 132 → ¬ (20 ≤ b ∧ b ≤ 28) → ¬ (62 ≤ b ∧ b ≤ 124) → (b = 3 → j = 1) → M' b j = o_app M 3 cs b j
theorem cct_fr {M N : fx_M} (h : cct M C) (hk : ct_ok k C) (f : ∀ b j, 62 ≤ b ∧ b ≤ 124 → N b j = M b j) : cct N C := by
  refine ⟨by rw [f 62 0 (by omega)]; exact h.1, fun i t ht => ?_⟩
  have hil := (List.getElem?_eq_some_iff.mp ht).1
  have h6 := hk.2.1
  obtain ⟨a1, a2, a3, a4, a5⟩ := h.2 i t ht
  exact ⟨by rw [f 64 _ (by omega)]; exact a1, fun j c hj => by rw [f 63 _ (by omega)]; exact a2 j c hj, cz_fr a3 (fun b j b1 b2 => f b j (by omega)), by rw [f 66 _ (by omega)]; exact a4, fun p hp => ⟨by rw [f 67 _ (by omega)]; exact (a5 p hp).1, by rw [f 68 _ (by omega)]; exact (a5 p hp).2⟩⟩
theorem sp_setItem (hn : snm M nm) (hnm : nm_ok nm) (hg : M 126 = g) (hb : bk_b g) (hM : bMd g) (hY : cz M 20 Y) (hYo : pz_ok Y) (hC : cct M C) (hk : ct_ok k C) (hO : o_ok M 3) (h9 : M 9 0 = pts) (hpt : 0 ≤ pts ∧ pts < 1000) (h1 : M 125 1 = 1) (K : ∀ M', cct M' (stP g nm C pts).2 → (∃ W, cz M' 20 W ∧ pz_ok W) → fsti M M' (stW (stP g nm C pts).1) → Q none M') : wc (kcs L xs) (d + 8) 177 [jR 0] M Q := by
  have hrb := bRt_b (g := g)
  have h0 := hb (bRt g) (by omega) (by omega)
  have h15 := hM.2.1
  have hf := bFd_b (g := g) (nm := nm) (u := (g (bRt g)).toNat) (i := 0)
  refine s177 ?_
  rw [h1]
  refine ⟨⟨by omega, by omega⟩, fun _ => sp_entryOf (d := d + 4) hn hnm hg hb (bMd_H hM) (s177_45 ?_), fun h => by omega⟩
  unfold stP at K
  generalize bFd g nm (g (bRt g)).toNat 0 = o at hf K ⊢
  refine ⟨⟨by omega, by omega⟩, fun hlt => sp_puts (d := d + 3) out3 lt_1000149 hO (s177_75 ?_), fun hp => ?_⟩
  · rw [if_pos hlt] at K
    have e : ([110, 111, 32, 110, 97, 109, 101] : List Int32).map Int32.toInt = stW 0 := by decide +kernel
    rw [e]
    exact K _ (cct_fr hC hk (fun b j hb => o_app_ne (by omega) (by omega))) ⟨Y, cz_app puz20 out3 hY, hYo⟩ (fun b j _ _ _ _ _ => rfl)
  · rw [if_neg (by omega)] at K
    have hEn := hM.2.2.2 o (by omega) (by omega)
    refine sp_read (d := d) puz20 hY hYo hg hb ⟨by omega, by omega⟩ (fun hne => absurd hEn hne) (fun _ N n1 n2 n3 => s177_62 ⟨⟨by omega, by omega⟩, fun _ => ?_, fun h => by omega⟩)
    have hnN : snm N nm := by
      obtain ⟨a0, a1, a2, a3, a4⟩ := hn
      unfold snm
      rw [n3 7 0 (by decide) (by decide) (by omega), n3 7 7 (by decide) (by decide) (by omega), n3 7 6 (by decide) (by decide) (by omega)]
      exact ⟨a0, a1, a2, a3, fun j c hj => by rw [n3 2 _ (by decide) (by decide) (by omega)]; exact a4 j c hj⟩
    have hCN : cct N C := cct_fr hC hk (fun b j hb => n3 b j (by omega) (by omega) (by omega))
    have oN : N 3 1 = M 3 1 := n3 3 1 (by decide) (by decide) (by omega)
    have oA : ∀ a, N 4 a = M 4 a := fun a => n3 4 a (by decide) (by decide) (by omega)
    have hON : o_ok N 3 := by
      unfold o_ok
      rw [oN]
      exact hO
    have same : ∀ cs, fsti M (o_app N 3 cs) cs := fun cs b j b1 b2 b3 b4 b5 => o_app_fq oN oA (n3 b j b1 b2 (by omega)) b5
    rw [n3 9 0 (by decide) (by decide) (by omega), h9]
    refine sp_add (d := d + 5) (k := k) hnN hnm hCN hk n1 n2 (fun h => s177_104 (sp_puts (d := d + 3) out3 lt_1000151 hON (s177_107 ?_))) (fun h h6 => s177_104 (sp_puts (d := d + 3) out3 lt_1000153 hON (s177_107 ?_))) (fun h h6 P p1 p2 => s177_104 (sp_puts (d := d + 3) out3 lt_1000155 ?_ (s177_107 ?_)))
    · rw [if_pos h] at K
      have e : ([116, 104, 101, 114, 101] : List Int32).map Int32.toInt = stW 1 := by decide +kernel
      rw [e]
      exact K _ (cct_fr hCN hk (fun b j hb => o_app_ne (by omega) (by omega))) ⟨_, cz_app puz20 out3 n1, n2⟩ (same _)
    · rw [if_neg (by omega), if_pos h6] at K
      have e : ([110, 111, 32, 114, 111, 111, 109] : List Int32).map Int32.toInt = stW 2 := by decide +kernel
      rw [e]
      exact K _ (cct_fr hCN hk (fun b j hb => o_app_ne (by omega) (by omega))) ⟨_, cz_app puz20 out3 n1, n2⟩ (same _)
    · unfold o_ok
      rw [p2 3 1 (by omega)]
      exact hON
    · rw [if_neg (by omega), if_neg (by omega)] at K
      have e : ([111, 107] : List Int32).map Int32.toInt = stW 3 := by decide +kernel
      rw [e]
      exact K _ (cct_fr (k := k) p1 (ct_more hk h6 hnm n2 hpt) (fun b j hb => o_app_ne (by omega) (by omega))) ⟨_, cz_app puz20 out3 (cz_fr n1 (fun b j b1 b2 => p2 b j (by omega))), n2⟩ (fun b j b1 b2 b3 b4 b5 => o_app_fq (by rw [p2 3 1 (by omega), oN]) (fun a => by rw [p2 4 a (by omega), oA]) (by rw [p2 b j b4, n3 b j b1 b2 (by omega)]) b5)
end STI
