/-! FORMS: the class makes a puzzle of a form; two forms are the same. -/
theorem ky_nib {R : PR} (h : vR R) (j : Nat) (hj : j < 4) : fx_and (fx_shr (kyR R) (12 - 4 * (j : Int))) 15 = if j < R.2.2.length then R.2.2.getD j 0 + 1 else 0 := by
  obtain ⟨a1, a2, a3, a4, a5⟩ := vR_c h
  have hb := vR_kb h
  have hd := dgt_b a5
  have hkp := ky_pad h
  have key : ∀ y : Int, kyR R / ((2 ^ (12 - 4 * j) : Nat) : Int) % 16 = y → fx_and (fx_shr (kyR R) (12 - 4 * (j : Int))) 15 = y := fun y hy => by
    rw [show (12 : Int) - 4 * (j : Int) = ((12 - 4 * j : Nat) : Int) by omega]
    exact kyNb (by omega) ⟨hb.1, by omega⟩ hy
  refine key _ ?_
  rw [hkp]
  generalize R.1 * 256 + dgt R.2.1 = H
  rcases hl : R.2.2 with _ | ⟨a, _ | ⟨b, _ | ⟨c, _ | ⟨e, _ | ⟨y, l⟩⟩⟩⟩⟩
  · rw [hl] at a3
    exact absurd a3 (by decide)
  · rw [hl] at a1
    have ha := a1 a (by simp)
    have hp : pad 4 [a] = (a + 1) * 4096 := by
      show (a + 1) * 4096 + 0 = _
      omega
    rw [hp]
    rcases (by omega : j = 0 ∨ j = 1 ∨ j = 2 ∨ j = 3) with e | e | e | e <;> subst e
    · show (H * 65536 + (a + 1) * 4096) / 4096 % 16 = a + 1
      omega
    · show (H * 65536 + (a + 1) * 4096) / 256 % 16 = 0
      omega
    · show (H * 65536 + (a + 1) * 4096) / 16 % 16 = 0
      omega
    · show (H * 65536 + (a + 1) * 4096) / 1 % 16 = 0
      omega
  · rw [hl] at a1
    have ha := a1 a (by simp)
    have hb2 := a1 b (by simp)
    have hp : pad 4 [a, b] = (a + 1) * 4096 + (b + 1) * 256 := by
      show (a + 1) * 4096 + ((b + 1) * 256 + 0) = _
      omega
    rw [hp]
    rcases (by omega : j = 0 ∨ j = 1 ∨ j = 2 ∨ j = 3) with e | e | e | e <;> subst e
    · show (H * 65536 + ((a + 1) * 4096 + (b + 1) * 256)) / 4096 % 16 = a + 1
      omega
    · show (H * 65536 + ((a + 1) * 4096 + (b + 1) * 256)) / 256 % 16 = b + 1
      omega
    · show (H * 65536 + ((a + 1) * 4096 + (b + 1) * 256)) / 16 % 16 = 0
      omega
    · show (H * 65536 + ((a + 1) * 4096 + (b + 1) * 256)) / 1 % 16 = 0
      omega
  · rw [hl] at a1
    have ha := a1 a (by simp)
    have hb2 := a1 b (by simp)
    have hc2 := a1 c (by simp)
    have hp : pad 4 [a, b, c] = (a + 1) * 4096 + (b + 1) * 256 + (c + 1) * 16 := by
      show (a + 1) * 4096 + ((b + 1) * 256 + ((c + 1) * 16 + 0)) = _
      omega
    rw [hp]
    rcases (by omega : j = 0 ∨ j = 1 ∨ j = 2 ∨ j = 3) with e | e | e | e <;> subst e
    · show (H * 65536 + ((a + 1) * 4096 + (b + 1) * 256 + (c + 1) * 16)) / 4096 % 16 = a + 1
      omega
    · show (H * 65536 + ((a + 1) * 4096 + (b + 1) * 256 + (c + 1) * 16)) / 256 % 16 = b + 1
      omega
    · show (H * 65536 + ((a + 1) * 4096 + (b + 1) * 256 + (c + 1) * 16)) / 16 % 16 = c + 1
      omega
    · show (H * 65536 + ((a + 1) * 4096 + (b + 1) * 256 + (c + 1) * 16)) / 1 % 16 = 0
      omega
  · rw [hl] at a1
    have ha := a1 a (by simp)
    have hb2 := a1 b (by simp)
    have hc2 := a1 c (by simp)
    have he2 := a1 e (by simp)
    have hp : pad 4 [a, b, c, e] = (a + 1) * 4096 + (b + 1) * 256 + (c + 1) * 16 + (e + 1) := by
      show (a + 1) * 4096 + ((b + 1) * 256 + ((c + 1) * 16 + ((e + 1) * 1 + 0))) = _
      omega
    rw [hp]
    rcases (by omega : j = 0 ∨ j = 1 ∨ j = 2 ∨ j = 3) with x | x | x | x <;> subst x
    · show (H * 65536 + ((a + 1) * 4096 + (b + 1) * 256 + (c + 1) * 16 + (e + 1))) / 4096 % 16 = a + 1
      omega
    · show (H * 65536 + ((a + 1) * 4096 + (b + 1) * 256 + (c + 1) * 16 + (e + 1))) / 256 % 16 = b + 1
      omega
    · show (H * 65536 + ((a + 1) * 4096 + (b + 1) * 256 + (c + 1) * 16 + (e + 1))) / 16 % 16 = c + 1
      omega
    · show (H * 65536 + ((a + 1) * 4096 + (b + 1) * 256 + (c + 1) * 16 + (e + 1))) / 1 % 16 = e + 1
      omega
  · rw [hl] at a2
    exact absurd a2 (by simp)
theorem ky_hi {R : PR} (h : vR R) : fx_shr (kyR R) 24 = R.1 ∧ fx_and (fx_shr (kyR R) 16) 255 = dgt R.2.1 := by
  obtain ⟨a1, a2, a3, a4, a5⟩ := vR_c h
  have hb := vR_kb h
  have hd := dgt_b a5
  have hp := pad_b (n := 4) a1
  rw [p16_4] at hp
  have hkp := ky_pad h
  refine ⟨?_, ?_⟩
  · rw [fx_shr_eq ⟨by omega, by omega⟩ ⟨by omega, by omega⟩]
    show kyR R / 16777216 = _
    omega
  · rw [fx_and_255, fx_shr_eq ⟨by omega, by omega⟩ ⟨by omega, by omega⟩]
    show kyR R / 65536 % 256 = _
    omega
theorem dg_back {n : Int} (h : 0 ≤ n ∧ n ≤ 99) : (if fx_and (dgt n) 15 = 0 then fx_shr (dgt n) 4 else fx_shr (dgt n) 4 * 10 + fx_and (dgt n) 15 - 1) = n ∧ (0 ≤ fx_and (dgt n) 15 ∧ fx_and (dgt n) 15 < 16) := by
  have hd := dgt_b h
  rw [fx_and_15, fx_shr_eq ⟨by omega, by omega⟩ ⟨by omega, by omega⟩]
  have e : ((2 ^ (4 : Int).toNat : Nat) : Int) = 16 := rfl
  rw [e]
  refine ⟨?_, by omega⟩
  unfold dgt
  split <;> split <;> omega
/-- the givens before cell c -/
def gcu (G : List Int) (c : Nat) : List Int := (List.range 9).map (fun j : Nat => if j < c then G.getD j (-1) else -1)
theorem gcu_0 {G : List Int} : gcu G 0 = List.replicate 9 (-1) := by
  refine List.ext_getElem? (fun j => ?_)
  unfold gcu
  rw [List.getElem?_map, List.getElem?_replicate]
  by_cases hj : j < 9
  · rw [List.getElem?_range hj, if_pos hj]
    rfl
  · rw [List.getElem?_eq_none (by rw [List.length_range]; omega), if_neg hj]
    rfl
theorem gcu_len {G : List Int} {c : Nat} : (gcu G c).length = 9 := by
  unfold gcu
  rw [List.length_map, List.length_range]
theorem gcu_s {G : List Int} {c : Nat} (hc : c < 9) : gcu G (c + 1) = (gcu G c).set c (G.getD c (-1)) := by
  refine List.ext_getElem? (fun j => ?_)
  rw [List.getElem?_set, gcu_len]
  by_cases hj : j < 9
  · have get : ∀ n : Nat, (gcu G n)[j]? = some (if j < n then G.getD j (-1) else -1) := fun n => by
      unfold gcu
      rw [List.getElem?_map, List.getElem?_range hj]
      rfl
    rw [get, get]
    by_cases e : c = j
    · subst e
      rw [if_pos rfl, if_pos hc, if_pos (by omega)]
    · rw [if_neg e]
      by_cases hl : j < c
      · rw [if_pos (by omega), if_pos hl]
      · rw [if_neg (by omega), if_neg hl]
  · rw [List.getElem?_eq_none (by rw [gcu_len]; omega), List.getElem?_eq_none (by rw [gcu_len]; omega)]
    rw [if_neg (by omega)]
theorem gcu_n {G : List Int} {n : Nat} (hl : G.length = 9) (hn : ∀ c : Nat, n ≤ c → G.getD c (-1) = -1) : gcu G n = G := by
  refine List.ext_getElem? (fun j => ?_)
  by_cases hj : j < 9
  · have e : G[j]? = some (G.getD j (-1)) := by
      rw [List.getD_eq_getElem?_getD, List.getElem?_eq_getElem (by omega)]
      rfl
    unfold gcu
    rw [List.getElem?_map, List.getElem?_range hj, e]
    show some _ = some _
    congr 1
    dsimp only
    by_cases h : j < n
    · rw [if_pos h]
    · rw [if_neg h]
      exact (hn j (by omega)).symm
  · rw [List.getElem?_eq_none (by rw [gcu_len]; omega), List.getElem?_eq_none (by omega)]
section RST
variable {kc : List va_E} {d : Nat} {Q : Option fx_V → fx_M → Prop} {M : fx_M} {Y : PZ}
theorem fa_c {f : Nat} (Hf : fx_frm f) : fx_a (f + 4) = some (0, 4) := by
  rcases fr4 Hf with e | e <;> subst e <;> (unfold fx_a; rfl)
/-- a form that holds the puzzle Y: rules in order -/
theorem sp_restore {f : Nat} (Hf : fx_frm f) (hc : cfm M f Y Y.2.2.2.1 (gP 9 Y.2.2.2.2)) (ho : pz_ok Y) (hv : ∀ x ∈ Y.2.2.2.1, vR x) (K : ∀ M', cz M' 20 Y → (∀ b j, b ≠ f + 4 → ¬ (20 ≤ b ∧ b ≤ 28) → M' b j = M b j) → Q none M') : wc kc (d + 3) 158 [jR f, jR 20] M Q := by
  have hf4 := fr4 Hf
  have h9 := pz_n ho
  have o1 := ho.1
  have o2 := ho.2.1
  have o3 := ho.2.2.1
  have o4 := ho.2.2.2.1
  have o5 := ho.2.2.2.2.1
  have o6 := ho.2.2.2.2.2.1
  have o7 := ho.2.2.2.2.2.2.1
  have o9 := ho.2.2.2.2.2.2.2.2.1
  have o10 := ho.2.2.2.2.2.2.2.2.2.1
  have o11 := ho.2.2.2.2.2.2.2.2.2.2
  obtain ⟨c0, c1, c2, ⟨c3, c4⟩, c5⟩ := hc
  have fcf : ∀ N : fx_M, (∀ b j, b ≠ f + 4 → ¬ (20 ≤ b ∧ b ≤ 28) → N b j = M b j) → N f 2 = Y.2.2.1 ∧ N f 3 = Y.2.2.2.1.length ∧ N f 5 = gP 9 Y.2.2.2.2 ∧ ∀ (i : Nat) (R : PR), Y.2.2.2.1[i]? = some R → N (f + 1) (i : Int) = kyR R := fun N fN => ⟨by rw [fN f 2 (by omega) (by omega), c2], by rw [fN f 3 (by omega) (by omega), c3], by rw [fN f 5 (by omega) (by omega), c5], fun i R hR => by rw [fN (f + 1) _ (by omega) (by omega)]; exact c4 i R hR⟩
  have hst : sta (gP 9 Y.2.2.2.2) (sgL Y.2.2.2.2) := by
    have e9 : Y.2.2.2.2 = (List.range 9).map (fun j : Nat => Y.2.2.2.2.getD j 0) := by
      refine List.ext_getElem? (fun j => ?_)
      rw [List.getElem?_map]
      by_cases hj : j < 9
      · rw [List.getElem?_range hj, List.getElem?_eq_getElem (by omega)]
        show _ = some (Y.2.2.2.2.getD j 0)
        rw [List.getD_eq_getElem?_getD, List.getElem?_eq_getElem (by omega)]
        rfl
      · rw [List.getElem?_eq_none (by omega), List.getElem?_eq_none (by rw [List.length_range]; omega)]
        rfl
    exact sta_gP2 e9 (fun y hy => by have := o10 y hy; omega)
  have z2 : ∀ (u c : Nat) (N : fx_M), (c : Int) + u = Y.1 * Y.2.1 → cz N 20 (Y.1, Y.2.1, Y.2.2.1, Y.2.2.2.1, gcu Y.2.2.2.2 c) → pz_ok (Y.1, Y.2.1, Y.2.2.1, Y.2.2.2.1, gcu Y.2.2.2.2 c) → (∀ b j, b ≠ f + 4 → ¬ (20 ≤ b ∧ b ≤ 28) → N b j = M b j) → wp kc (d + 3) 158 162 [some (jR f), some (jR 20), some (jI c), none, none, none, none, none] [] N Q := by
    intro u
    induction u with
    | zero =>
      intro c N hc nz no fN
      refine s158_162 Hf puz20 ?_
      rw [nz.2.2.1]
      have e := gcu_n (n := c) o9 (fun c' hc' => o11 c' (by omega))
      rw [e] at nz
      exact ⟨⟨⟨by omega, by omega⟩, ⟨by dsimp only; omega, by dsimp only; omega⟩⟩, fun _ => K N nz fN, fun h => by dsimp only at h; omega⟩
    | succ u ih =>
      intro c N hc nz no fN
      obtain ⟨f2, f3, f5, f1⟩ := fcf N fN
      have hgl : c < Y.2.2.2.2.length := by omega
      have hgm : Y.2.2.2.2.getD c (-1) ∈ Y.2.2.2.2 := by
        rw [List.getD_eq_getElem?_getD, List.getElem?_eq_getElem hgl]
        exact List.getElem_mem hgl
      have hgb := o10 _ hgm
      have hnb : 0 ≤ gnb (Y.2.2.2.2.getD c (-1)) ∧ gnb (Y.2.2.2.2.getD c (-1)) < 16 := gnb_b ⟨by omega, by omega⟩
      have hS : sgL Y.2.2.2.2 (8 - (c : Int)).toNat = (gnb (Y.2.2.2.2.getD c (-1))).toNat := by
        unfold sgL
        rw [if_pos (by omega), show 8 - (8 - (c : Int)).toNat = c by omega]
      have hmay := sta_may hst (c := 8 - (c : Int)) ⟨by omega, by omega⟩ (by rw [hS]; omega)
      rw [hS, show 4 * (8 - (c : Int)) = 32 - 4 * (c : Int) by omega, show (((gnb (Y.2.2.2.2.getD c (-1))).toNat : Nat) : Int) = gnb (Y.2.2.2.2.getD c (-1)) by omega] at hmay
      have hs := gcu_s (G := Y.2.2.2.2) (c := c) (by omega)
      refine s158_162 Hf puz20 ?_
      rw [nz.2.2.1, f5, f2, hmay]
      dsimp only
      refine ⟨⟨⟨by omega, by omega⟩, ⟨by omega, by omega⟩⟩, fun h => by omega, fun _ => ⟨⟨⟨by omega, by omega⟩, ⟨by omega, by omega⟩⟩, fun hge => ?_, fun hlt => ?_⟩⟩
      · have hneg : Y.2.2.2.2.getD c (-1) = -1 := by
          unfold gnb at hge
          split at hge <;> omega
        have same : gcu Y.2.2.2.2 (c + 1) = gcu Y.2.2.2.2 c := by
          rw [hs, hneg]
          refine List.ext_getElem? (fun j => ?_)
          rw [List.getElem?_set, gcu_len]
          by_cases e : c = j
          · subst e
            rw [if_pos rfl, if_pos (by omega)]
            unfold gcu
            rw [List.getElem?_map, List.getElem?_range (by omega)]
            show some (-1 : Int) = some _
            dsimp only
            rw [if_neg (show ¬ c < c by omega)]
          · rw [if_neg e]
        have nx := ih (c + 1) N (by omega) (by rw [same]; exact nz) (by rw [same]; exact no) fN
        rw [show ((c + 1 : Nat) : Int) = (c : Int) + 1 by omega] at nx
        exact nx
      · have hpos : gnb (Y.2.2.2.2.getD c (-1)) = Y.2.2.2.2.getD c (-1) := by
          unfold gnb at hlt ⊢
          split at hlt
          · omega
          · rename_i h0
            rw [if_neg h0]
        rw [hpos] at hlt hnb ⊢
        refine sp_giveQ (d := d + 1) puz20 nz no ⟨by omega, by omega⟩ ⟨by omega, by omega⟩ (by omega) (fun T b t1 t2 t3 t4 => s158_200 Hf puz20 ?_)
        have eq : q_give (Y.1, Y.2.1, Y.2.2.1, Y.2.2.2.1, gcu Y.2.2.2.2 c) (c : Int) (Y.2.2.2.2.getD c (-1)) = (0, (Y.1, Y.2.1, Y.2.2.1, Y.2.2.2.1, gcu Y.2.2.2.2 (c + 1))) := by
          unfold q_give
          rw [if_pos ⟨by omega, by dsimp only; omega⟩, if_neg (by dsimp only; omega), hs]
          rfl
        rw [eq] at t2 t3
        have nx := ih (c + 1) T (by omega) t2 t3 (fun b j b1 b2 => by rw [t4 b j (by omega), fN b j b1 b2])
        rw [show ((c + 1 : Nat) : Int) = (c : Int) + 1 by omega] at nx
        exact nx
  have z1 : ∀ (u r : Nat) (N : fx_M), r + u = Y.2.2.2.1.length → cz N 20 (Y.1, Y.2.1, Y.2.2.1, Y.2.2.2.1.take r, List.replicate 9 (-1)) → pz_ok (Y.1, Y.2.1, Y.2.2.1, Y.2.2.2.1.take r, List.replicate 9 (-1)) → (∀ b j, b ≠ f + 4 → ¬ (20 ≤ b ∧ b ≤ 28) → N b j = M b j) → wp kc (d + 3) 158 19 [some (jR f), some (jR 20), some (jI r), none, none, none, none, none] [] N Q := by
    intro u
    induction u with
    | zero =>
      intro r N hr nz no fN
      obtain ⟨f2, f3, f5, f1⟩ := fcf N fN
      rw [List.take_of_length_le (by omega)] at nz no
      refine s158_19 Hf puz20 ?_
      rw [f3]
      exact ⟨⟨⟨by omega, by omega⟩, ⟨by omega, by omega⟩⟩, fun _ => z2 (Y.1 * Y.2.1).toNat 0 N (by omega) (by rw [gcu_0]; exact nz) (by rw [gcu_0]; exact no) fN, fun h => by omega⟩
    | succ u ih =>
      intro r N hr nz no fN
      obtain ⟨f2, f3, f5, f1⟩ := fcf N fN
      have hrl : r < Y.2.2.2.1.length := by omega
      have hg := List.getElem?_eq_getElem hrl
      have hk := f1 r _ hg
      have vX := hv _ (List.getElem_mem hrl)
      have hXok := ho.2.2.2.2.2.2.2.1 _ (List.getElem_mem hrl)
      have hts := List.take_succ_eq_append_getElem hrl
      generalize Y.2.2.2.1[r] = X at hg hk vX hXok hts
      obtain ⟨k1, k2⟩ := ky_hi vX
      obtain ⟨x1, x2, x3, x4, x5⟩ := vR_c vX
      obtain ⟨d1, d2⟩ := dg_back x5
      refine s158_19 Hf puz20 ?_
      rw [f3, hk, k2, d1]
      refine ⟨⟨⟨by omega, by omega⟩, ⟨by omega, by omega⟩⟩, fun h => by omega, fun _ => ⟨⟨by omega, by omega⟩, ⟨by omega, by omega⟩, ?_⟩⟩
      have zi : ∀ (v i : Nat) (T : fx_M), i + v = 4 → (∀ b j, b ≠ f + 4 → T b j = N b j) → (∀ q : Nat, q < i → q < X.2.2.length → T (f + 4) (q : Int) = X.2.2.getD q 0) → wp kc (d + 3) 158 75 [some (jR f), some (jR 20), some (jI r), none, some (jI X.2.1), some (jI (min i X.2.2.length : Nat)), some (jI i), none] [] T Q := by
        intro v
        induction v with
        | zero =>
          intro i T hi fT hS
          have ei : i = 4 := by omega
          subst ei
          have esz : min 4 X.2.2.length = X.2.2.length := by omega
          rw [esz]
          refine s158_75 Hf puz20 ?_
          rw [fT (f + 1) _ (by omega), hk, k1]
          refine ⟨⟨by omega, by omega⟩, fun _ => ⟨⟨by omega, by omega⟩, ?_⟩, fun h => by omega⟩
          refine sp_addRuleQ (d := d) (a := f + 4) (l := X.2.2) puz20 (fa_c Hf) ⟨by omega, by omega, by omega, by omega, by omega, by omega⟩ (cz_fr nz (fun b j b1 b2 => fT b j (by omega))) no x4 ⟨x5.1, by omega⟩ (by omega) (fun q c hq h4 => ?_) (fun c hc => ?_) (fun T2 b t1 t2 t3 t4 => s158_153 Hf puz20 ?_)
          · have hql := (List.getElem?_eq_some_iff.mp hq).1
            rw [hS q h4 hql, List.getD_eq_getElem?_getD, hq]
            rfl
          · have := x1 c hc
            omega
          · have eq : q_rule (Y.1, Y.2.1, Y.2.2.1, Y.2.2.2.1.take r, List.replicate 9 (-1)) X.1 X.2.1 X.2.2 = (0, (Y.1, Y.2.1, Y.2.2.1, Y.2.2.2.1.take (r + 1), List.replicate 9 (-1))) := by
              unfold q_rule
              have hok : okb (Y.1 * Y.2.1) X.2.2 = true := by
                unfold okb
                exact decide_eq_true ⟨x3, x2, hXok.2.2.2.2.2.2.1, hXok.2.2.2.2.2.2.2⟩
              rw [if_pos hok, if_neg (by omega), if_neg (by dsimp only; rw [List.length_take]; omega), hts]
              rfl
            rw [eq] at t2 t3
            have nx := ih (r + 1) T2 (by omega) t2 t3 (fun b j b1 b2 => by rw [t4 b j (by omega), fT b j b1, fN b j b1 b2])
            rw [show ((r + 1 : Nat) : Int) = (r : Int) + 1 by omega] at nx
            exact nx
        | succ v ih2 =>
          intro i T hi fT hS
          have hn := ky_nib vX i (by omega)
          refine s158_75 Hf puz20 ?_
          rw [fT (f + 1) _ (by omega), hk, hn]
          by_cases hil : i < X.2.2.length
          · have hxb : 0 ≤ X.2.2.getD i 0 ∧ X.2.2.getD i 0 < 9 := by
              rw [List.getD_eq_getElem?_getD, List.getElem?_eq_getElem hil]
              exact x1 _ (List.getElem_mem hil)
            rw [if_pos hil]
            have nx := ih2 (i + 1) (fx_up T (f + 4) (i : Int) (X.2.2.getD i 0 + 1 - 1)) (by omega) (fun b j hb => by rw [fx_up_na hb, fT b j hb]) (fun q hq hql => by
              by_cases e : q = i
              · subst e
                rw [fx_up_self]
                omega
              · rw [fx_up_nk (by omega)]
                exact hS q (by omega) hql)
            have e1 : ((min (i + 1) X.2.2.length : Nat) : Int) = ((min i X.2.2.length : Nat) : Int) + (if (0 : Int) < X.2.2.getD i 0 + 1 then (1 : Int) else 0) := by
              rw [if_pos (show (0 : Int) < X.2.2.getD i 0 + 1 by omega)]
              omega
            rw [e1, show ((i + 1 : Nat) : Int) = (i : Int) + 1 by omega] at nx
            exact ⟨⟨by omega, by omega⟩, fun h => by omega, fun _ => ⟨⟨by omega, by omega⟩, ⟨by omega, by omega⟩, ⟨by omega, by omega⟩, nx⟩⟩
          · rw [if_neg hil]
            have nx := ih2 (i + 1) (fx_up T (f + 4) (i : Int) (0 - 1)) (by omega) (fun b j hb => by rw [fx_up_na hb, fT b j hb]) (fun q hq hql => by
              rw [fx_up_nk (by omega)]
              exact hS q (by omega) hql)
            have e1 : ((min (i + 1) X.2.2.length : Nat) : Int) = ((min i X.2.2.length : Nat) : Int) + (if (0 : Int) < 0 then (1 : Int) else 0) := by
              rw [if_neg (show ¬ (0 : Int) < 0 by omega)]
              omega
            rw [e1, show ((i + 1 : Nat) : Int) = (i : Int) + 1 by omega] at nx
            exact ⟨⟨by omega, by omega⟩, fun h => by omega, fun _ => ⟨⟨by omega, by omega⟩, ⟨by omega, by omega⟩, ⟨by omega, by omega⟩, nx⟩⟩
      have e0 : ((min 0 X.2.2.length : Nat) : Int) = 0 := by omega
      have go := zi 4 0 N (by omega) (fun _ _ _ => rfl) (fun q hq => by omega)
      rw [e0] at go
      exact go
  refine s158 Hf puz20 ?_
  rw [c0, c1, c2]
  exact sp_renew (d := d + 1) puz20 ⟨by omega, by omega⟩ ⟨by omega, by omega⟩ ⟨by omega, by omega⟩ (fun h => absurd ⟨o1, o2, o3, o4, o5, o6⟩ h) (fun _ P p1 p2 => s158_16 Hf puz20 (z1 Y.2.2.2.1.length 0 P (by omega) p1 (z_new_ok ⟨o1, o2, o3, o4, o5, o6⟩) (fun b j b1 b2 => p2 b j (by omega))))
end RST
