/-! THE STEP: every request keeps the bounds. -/
def hO2 (k : Nat) (S : HS) : Prop := hOk k S ∧ pvS S.2.1 S.1
theorem ct_mono {k : Nat} {C : List CI} (h : ct_ok k C) (h1 : k + 1 ≤ 1000) : ct_ok (k + 1) C := ⟨h1, h.2.1, fun t ht => by
  obtain ⟨a1, a2, a3, a4, a5⟩ := h.2.2 t ht
  refine ⟨a1, a2, a3, a4, fun p hp => ?_⟩
  have := a5 p hp
  omega⟩
section STP
variable {S : HS} {k : Nat} {g : Int → Int} {n p : Int}
theorem h2_same (h : hO2 k S) (h1 : k + 1 ≤ 1000) : hO2 (k + 1) S := by
  obtain ⟨⟨a1, a2, a3, a4, a5, a6, a7, a8, a9⟩, b⟩ := h
  exact ⟨⟨a1, a2, a3, a4, ct_mono a5 h1, a6, a7, a8, a9⟩, b⟩
theorem h2_z {Z' : PZ} (h : hO2 k S) (h1 : k + 1 ≤ 1000) (hz : pz_ok Z') (hn : pnZ Z') : hO2 (k + 1) (Z', pv_new S.2.1, S.2.2) := by
  obtain ⟨⟨a1, a2, a3, a4, a5, a6, a7, a8, a9⟩, b⟩ := h
  exact ⟨⟨hz, hn, pv_new_ok a3, pv_in_new, ct_mono a5 h1, a6, a7, a8, a9⟩, pvS_new⟩
theorem h2_v {V' : fx_M} (h : hO2 k S) (h1 : k + 1 ≤ 1000) (hv : pv_ok V' ∧ pv_in V' S.1 ∧ pvS V' S.1) : hO2 (k + 1) (S.1, V', S.2.2) := by
  obtain ⟨⟨a1, a2, a3, a4, a5, a6, a7, a8, a9⟩, b⟩ := h
  exact ⟨⟨a1, a2, hv.1, hv.2.1, ct_mono a5 h1, a6, a7, a8, a9⟩, hv.2.2⟩
theorem h2_b {o' : Int} {g' : Int → Int} {W' : List (Int × Int)} (h : hO2 k S) (h1 : k + 1 ≤ 1000) (ho : o' = 0 ∨ o' = 1) (hb : bk_b g') (hm : o' = 1 → bMd g') (hl : lg_ok W') : hO2 (k + 1) (S.1, S.2.1, S.2.2.1, o', g', W') := by
  obtain ⟨⟨a1, a2, a3, a4, a5, a6, a7, a8, a9⟩, b⟩ := h
  exact ⟨⟨a1, a2, a3, a4, ct_mono a5 h1, ho, hb, hm, hl⟩, b⟩
theorem h2_c {C' : List CI} (h : hO2 k S) (hc : ct_ok (k + 1) C') : hO2 (k + 1) (S.1, S.2.1, C', S.2.2.2) := by
  obtain ⟨⟨a1, a2, a3, a4, a5, a6, a7, a8, a9⟩, b⟩ := h
  exact ⟨⟨a1, a2, a3, a4, hc, a6, a7, a8, a9⟩, b⟩
theorem h2_q {q : Int × PZ} (h : hO2 k S) (h1 : k + 1 ≤ 1000) (hq : (q.1 = 0 ∧ pz_ok q.2 ∧ pnZ q.2) ∨ (q.1 ≠ 0 ∧ q.2 = S.1)) : hO2 (k + 1) (q.2, vNew q.1 S.2.1, S.2.2) := by
  unfold vNew
  rcases hq with ⟨e, a, b⟩ | ⟨e, a⟩
  · rw [if_pos e]
    exact h2_z h h1 a b
  · rw [if_neg e, a]
    exact h2_same h h1
theorem z_new_pn {w h s : Int} : pnZ (z_new w h s) := fun R hR => by cases hR
theorem st_new (h : hO2 k S) (h1 : k + 1 ≤ 1000) : hO2 (k + 1) (rq_new g n p S).2.2.2 := by
  refine h2_q h h1 ?_
  unfold q_size
  split
  · next e => exact Or.inl ⟨rfl, z_new_ok e, z_new_pn⟩
  · exact Or.inr ⟨by dsimp only; decide, rfl⟩
theorem qr_or {Z : PZ} {a b : Int} {l : List Int} : (q_rule Z a b l).1 = 0 ∨ ((q_rule Z a b l).1 ≠ 0 ∧ (q_rule Z a b l).2 = Z) := by
  unfold q_rule
  split
  · split
    · exact Or.inr ⟨by dsimp only; decide, rfl⟩
    · split
      · exact Or.inr ⟨by dsimp only; decide, rfl⟩
      · exact Or.inl rfl
  · exact Or.inr ⟨by dsimp only; decide, rfl⟩
theorem qe_or {Z : PZ} {s a b : Int} : (q_each Z s a b).1 = 0 ∨ ((q_each Z s a b).1 ≠ 0 ∧ (q_each Z s a b).2 = Z) := by
  unfold q_each
  split
  · exact Or.inr ⟨by dsimp only; decide, rfl⟩
  · split
    · exact Or.inr ⟨by dsimp only; decide, rfl⟩
    · exact Or.inl rfl
theorem st_rule (h : hO2 k S) (h1 : k + 1 ≤ 1000) (hp : p ≤ n) (hw : (rq_rule g n p S).2.1 = 0) : hO2 (k + 1) (rq_rule g n p S).2.2.2 := by
  refine h2_q h h1 ?_
  have kb := rK_b (g := g) (e := n) (bs := bsK) (p := p) (w := 0) hp
  have hw1 : (rK g n bsK p 0).2.2.2 = 0 := rR_w0 (g := g) (e := n) (f := (n - (rK g n bsK p 0).2.2.1).toNat + 1) (b := true) (p := (rK g n bsK p 0).2.2.1) hw
  have hk0 := rK_0 hw1
  have q1 := q_op_ok (Z := S.1) (o := (0, (rK g n bsK p 0).1, (rK g n bsK p 0).2.1, (rRu g n p 0).1, 0, 0)) h.1.1 (fun _ => ⟨hk0.1, hk0.2.1⟩) kb.2.2.1 (fun e => absurd e (show ¬ (0 : Int) = 1 by decide)) (show (0 : Int) ≤ 0 by decide)
  have q2 := q_op_pn (Z := S.1) (o := (0, (rK g n bsK p 0).1, (rK g n bsK p 0).2.1, (rRu g n p 0).1, 0, 0)) h.1.2.1 (fun _ e => rK_pn e)
  rcases qr_or (Z := S.1) (a := (rK g n bsK p 0).1) (b := (rK g n bsK p 0).2.1) (l := (rRu g n p 0).1) with e | e
  · exact Or.inl ⟨e, q1, q2⟩
  · exact Or.inr e
theorem st_each (h : hO2 k S) (h1 : k + 1 ≤ 1000) (hp : p ≤ n) (hw : (rq_each g n p S).2.1 = 0) : hO2 (k + 1) (rq_each g n p S).2.2.2 := by
  refine h2_q h h1 ?_
  have sb := rSd_b (g := g) (e := n) (p := p) (w := 0) hp
  have kb := rK_b (g := g) (e := n) (bs := bsK) (p := (rSd g n p 0).2.1) (w := (rSd g n p 0).2.2) (by omega)
  have hk0 := rK_0 (g := g) (e := n) (p := (rSd g n p 0).2.1) (w := (rSd g n p 0).2.2) hw
  have hs0 := rSd_0 hk0.2.2
  have q1 := q_op_ok (Z := S.1) (o := (1, (rEa g n p).1, (rEa g n p).2.1, [], (rSd g n p 0).1, 0)) h.1.1 (fun _ => ⟨hk0.1, hk0.2.1⟩) kb.2.2.1 (fun _ => hs0) (show (0 : Int) ≤ 0 by decide)
  have q2 := q_op_pn (Z := S.1) (o := (1, (rEa g n p).1, (rEa g n p).2.1, [], (rSd g n p 0).1, 0)) h.1.2.1 (fun _ e => rK_pn e)
  rcases qe_or (Z := S.1) (s := (rSd g n p 0).1) (a := (rEa g n p).1) (b := (rEa g n p).2.1) with e | e
  · exact Or.inl ⟨e, q1, q2⟩
  · exact Or.inr e
theorem st_give (h : hO2 k S) (h1 : k + 1 ≤ 1000) (hp : p ≤ n) : hO2 (k + 1) (rq_give g n p S).2.2.2 := by
  refine h2_q h h1 ?_
  have nb := rBN_b (g := g) (e := n) (m := 3) (p := p) (w := 0) (by omega) hp
  have sb := rBS_b (g := g) (e := n) (p := (rBN g n 3 p 0).2.1) (w := (rBN g n 3 p 0).2.2) nb.2.1
  have er : rBS g n (rBN g n 3 p 0).2.1 (rBN g n 3 p 0).2.2 = rCs g n p := rfl
  rw [er] at sb
  unfold q_give
  split
  · next e =>
    split
    · exact Or.inr ⟨by dsimp only; decide, rfl⟩
    · exact Or.inl ⟨rfl, z_give_ok h.1.1 e ⟨by omega, by omega⟩, h.1.2.1⟩
  · exact Or.inr ⟨by dsimp only; decide, rfl⟩
theorem st_drop (h : hO2 k S) (h1 : k + 1 ≤ 1000) : hO2 (k + 1) (rq_drop p S).2.2.2 := by
  show hO2 (k + 1) (if S.1.2.2.2.1 = [] then S else (z_drop S.1, pv_new S.2.1, S.2.2))
  split
  · exact h2_same h h1
  · exact h2_z h h1 (z_drop_ok h.1.1) (fun R hR => h.1.2.1 R (List.dropLast_subset _ hR))
theorem st_load (h : hO2 k S) (h1 : k + 1 ≤ 1000) (hp : p ≤ n) : hO2 (k + 1) (rq_load g n p S).2.2.2 := by
  have tb := rT_b (g := g) (e := n) (c := 32) (p := p) (w := 0) hp
  have z1 : pz_ok (z_new 1 1 1) := z_new_ok ⟨by omega, by omega, by omega, by omega, by omega, by omega⟩
  have a : pz_ok (rLo g n p (z_new 1 1 1)).2.2.2 := rText_ok tb.2.1 z1
  have b : pnZ (rLo g n p (z_new 1 1 1)).2.2.2 := rText_pn z_new_pn
  show hO2 (k + 1) ((if (rLo g n p (z_new 1 1 1)).2.2.1 = 0 then (rLo g n p (z_new 1 1 1)).2.2.2 else S.1), vNew (rLo g n p (z_new 1 1 1)).2.2.1 S.2.1, S.2.2)
  unfold vNew
  split
  · next e =>
    exact h2_z h h1 a b
  · exact h2_same h h1
theorem leR_r : ∀ (t c : Nat) (Z : PZ), (leR t c Z).2.2.2.1 = Z.2.2.2.1
  | 0, _, _ => rfl
  | t + 1, c, Z => by
    rw [leR]
    split
    · exact leR_r t (c + 1) (gdel Z c)
    · exact leR_r t (c + 1) Z
theorem st_least (h : hO2 k S) (h1 : k + 1 ≤ 1000) : hO2 (k + 1) (rq_least p S).2.2.2 := by
  show hO2 (k + 1) (if (ans S.1).length = 1 then (zLe S.1, pv_new S.2.1, S.2.2) else S)
  split
  · refine h2_z h h1 (zLe_ok h.1.1) (fun R hR => h.1.2.1 R ?_)
    have := leR_r (S.1.1 * S.1.2.1).toNat 0 S.1
    unfold zLe at hR
    rw [this] at hR
    exact hR
  · exact h2_same h h1
theorem mkS_r {a b : Int} {Z : PZ} {c : Int} : (mkS a b Z c).2.2.2.1 = Z.2.2.2.1 := by
  unfold mkS
  split <;> rfl
theorem mkR_r {a b : Int} {r : Int → Int} : ∀ (t i : Nat) (Z : PZ), (mkR a b r t i Z).2.2.2.1 = Z.2.2.2.1
  | 0, _, _ => rfl
  | t + 1, i, Z => by
    rw [mkR, mkR_r t (i + 1)]
    exact mkS_r
theorem mkR_ok {a b : Int} {r : Int → Int} (hr : ∀ q, 0 ≤ q → q < b → 0 ≤ r q ∧ r q < b) : ∀ (t i : Nat) (Z : PZ), Z.1 * Z.2.1 = b → (i : Int) + t ≤ b → pz_ok Z → pz_ok (mkR a b r t i Z)
  | 0, _, _, _, _, h => h
  | t + 1, i, Z, hb, hi, h => by
    rw [mkR]
    have hs := mkS_sz (k := a) (n := b) (Z := Z) (c := r i)
    refine mkR_ok hr t (i + 1) _ (by rw [hs.1, hs.2]; exact hb) (by omega) ?_
    rw [← hb]
    refine mkS_ok h ?_
    rw [hb]
    exact hr i (by omega) (by omega)
theorem zMk_ok {Z : PZ} {s q : Int} (ho : pz_ok Z) (ha : ans (zfre Z) ≠ []) : pz_ok (zMk Z s q) := by
  have hn := pz_n ho
  have hl : 0 < (ans (zfre Z)).length := List.length_pos_iff.mpr ha
  have hd : 0 ≤ dwv s ((ans (zfre Z)).length : Nat) ∧ dwv s ((ans (zfre Z)).length : Nat) < ((ans (zfre Z)).length : Nat) := dwv_b (by omega)
  unfold zMk
  have hx : (ans (zfre Z)).getD (dwv s ((ans (zfre Z)).length : Nat)).toNat [] ∈ ans (zfre Z) := by
    rw [List.getD_eq_getElem?_getD, List.getElem?_eq_getElem (by omega)]
    exact List.getElem_mem _
  exact mkR_ok (fun q h0 h1 => shf_in (n := Z.1 * Z.2.1) _ _ _ (by omega) (fun k h1 h2 => ⟨h1, h2⟩) q h0 h1) _ _ _ rfl (by omega) (zfil_ok ho hx)
theorem st_make (h : hO2 k S) (h1 : k + 1 ≤ 1000) : hO2 (k + 1) (rq_make g n p S).2.2.2 := by
  show hO2 (k + 1) (if 1 < (rCd g n p).1 then S else if ans (zfre S.1) = [] then S else (zMk S.1 (rBN g n 3 p 0).1 (rCd g n p).1, pv_new S.2.1, S.2.2))
  split
  · exact h2_same h h1
  · split
    · exact h2_same h h1
    · next e =>
      refine h2_z h h1 (zMk_ok h.1.1 e) (fun R hR => h.1.2.1 R ?_)
      unfold zMk at hR
      rw [mkR_r] at hR
      exact hR
theorem st_vary (h : hO2 k S) (h1 : k + 1 ≤ 1000) (hp : p ≤ n) : hO2 (k + 1) (rq_vary g n p S).2.2.2 := by
  have nb := rBN_b (g := g) (e := n) (m := 3) (p := p) (w := 0) (by omega) hp
  have ho := h.1.1
  have hrb := rgs_b ho
  have hmp := mps_b (w := S.1.1) (h := S.1.2.1)
  have hm : 0 ≤ (rBN g n 3 p 0).1 % mps S.1.1 S.1.2.1 ∧ (rBN g n 3 p 0).1 % mps S.1.1 S.1.2.1 < mps S.1.1 S.1.2.1 := ⟨Int.emod_nonneg _ (by omega), Int.emod_lt_of_pos _ (by omega)⟩
  have hk2 := Int.emod_lt_of_pos ((rBN g n 3 p 0).1 / mps S.1.1 S.1.2.1) (show (0 : Int) < ((rgs S.1 : Nat) : Int) by omega)
  refine h2_z h h1 (vrZ_ok ho hm (by omega)) (fun R hR => ?_)
  obtain ⟨R0, r1, r2⟩ := List.mem_map.mp (show R ∈ S.1.2.2.2.1.map (vrR S.1.1 S.1.2.1 ((rBN g n 3 p 0).1 % mps S.1.1 S.1.2.1)) from hR)
  rw [← r2]
  exact h.1.2.1 R0 r1
theorem st_person (h : hO2 k S) (h1 : k + 1 ≤ 1000) (hp : p ≤ n) : hO2 (k + 1) (rq_person g n p S).2.2.2 := by
  have nb := rBN_b (g := g) (e := n) (m := 1) (p := p) (w := 0) (by omega) hp
  exact h2_v h h1 (hOk_who h.1.2.2.1 h.1.2.2.2.1 h.2 nb.2.2.2.2.1)
theorem st_put (h : hO2 k S) (h1 : k + 1 ≤ 1000) (hp : p ≤ n) : hO2 (k + 1) (rq_put g n p S).2.2.2 := by
  have nb := rBN_b (g := g) (e := n) (m := 3) (p := p) (w := 0) (by omega) hp
  have sb := rBS_b (g := g) (e := n) (p := (rBN g n 3 p 0).2.1) (w := (rBN g n 3 p 0).2.2) nb.2.1
  exact h2_v h h1 (hOk_put h.1.1 h.1.2.2.1 h.1.2.2.2.1 h.2 nb.2.2.2.2.1 sb.2.2.2.2.1)
theorem st_undo (h : hO2 k S) (h1 : k + 1 ≤ 1000) : hO2 (k + 1) (rq_undo p S).2.2.2 := h2_v h h1 (hOk_undo h.1.2.2.1 h.1.2.2.2.1 h.2)
theorem st_redo (h : hO2 k S) (h1 : k + 1 ≤ 1000) : hO2 (k + 1) (rq_redo g n p S).2.2.2 := h2_v h h1 (hOk_redo h.1.2.2.1 h.1.2.2.2.1 h.2)
theorem st_mark (h : hO2 k S) (h1 : k + 1 ≤ 1000) (hp : p ≤ n) : hO2 (k + 1) (rq_mark g n p S).2.2.2 := by
  have nb := rBN_b (g := g) (e := n) (m := 3) (p := p) (w := 0) (by omega) hp
  have sb := rBN_b (g := g) (e := n) (m := 1) (p := (rBN g n 3 p 0).2.1) (w := (rBN g n 3 p 0).2.2) (by omega) nb.2.1
  exact h2_v h h1 (hOk_mark h.1.1 h.1.2.2.1 h.1.2.2.2.1 h.2 nb.2.2.2.2.1 sb.2.2.2.2.1)
theorem st_contest (h : hO2 k S) (h1 : k + 1 ≤ 1000) : hO2 (k + 1) (rq_contest p S).2.2.2 := h2_c h ⟨h1, by decide, fun t ht => (by cases ht)⟩
theorem st_set (h : hO2 k S) (h1 : k + 1 ≤ 1000) (hp : p ≤ n) (hb : ∀ j, 0 ≤ j → j < n → 0 ≤ g j ∧ g j ≤ 65535) (hp0 : 0 ≤ p) (hw : (rq_set g n p S).2.1 = 0) : hO2 (k + 1) (rq_set g n p S).2.2.2 := by
  show hO2 (k + 1) (S.1, S.2.1, (if S.2.2.2.1 = 0 then S.2.2.1 else (stP S.2.2.2.2.1 (stN g n p) S.2.2.1 (rSt g n p).1).2), S.2.2.2)
  refine h2_c h ?_
  have hc := ct_mono h.1.2.2.2.2.1 h1
  have mb := rBM_0 (g := g) (n := n) (p := p) (w := 0) hp
  have sb := rBN_b (g := g) (e := n) (m := 3) (p := (rBM g n p 0).1 + (rBM g n p 0).2.1) (w := (rBM g n p 0).2.2) (by omega) (by omega)
  have er : rBN g n 3 ((rBM g n p 0).1 + (rBM g n p 0).2.1) (rBM g n p 0).2.2 = rSt g n p := rfl
  rw [er] at sb
  have e10 := e3_10
  have aw2 : (rBM g n p 0).2.2 = 0 := rBN_wz (m := 3) (p := (rBM g n p 0).1 + (rBM g n p 0).2.1) (g := g) (n := n) hw mb.2.2.2.2.1
  have hl1 := mb.2.2.2.2.2 aw2
  have hnm : nm_ok (stN g n p) := nmO_ok hb (by omega) ⟨by omega, by omega⟩ mb.2.2.2.1
  split
  · exact hc
  · next eo =>
    have eo1 : S.2.2.2.1 = 1 := by
      have := h.1.2.2.2.2.2.1
      omega
    have hM := h.1.2.2.2.2.2.2.2.1 eo1
    have hbk := h.1.2.2.2.2.2.2.1
    have hfb := bFd_b (g := S.2.2.2.2.1) (nm := stN g n p) (u := (S.2.2.2.2.1 (bRt S.2.2.2.2.1)).toNat) (i := 0)
    have hrb := bRt_b (g := S.2.2.2.2.1)
    have h00 := hbk (bRt S.2.2.2.2.1) (by omega) (by omega)
    unfold stP
    split
    · exact hc
    · split
      · exact hc
      · split
        · exact hc
        · refine ⟨h1, ?_, fun t ht => ?_⟩
          · show (S.2.2.1 ++ [ciN (stN g n p) (bZ S.2.2.2.2.1 (bFd S.2.2.2.2.1 (stN g n p) (S.2.2.2.2.1 (bRt S.2.2.2.2.1)).toNat 0)) (rSt g n p).1]).length ≤ 6
            rw [List.length_append, List.length_singleton]
            omega
          · rcases List.mem_append.mp ht with e | e
            · exact hc.2.2 t e
            · rw [List.mem_singleton.mp e]
              refine ⟨hnm, bZ_ok hbk (hM.2.2.2 _ (by omega) (by omega)), sb.2.2.2.2.1, ?_, fun q hq => ?_⟩
              · show (rSt g n p).1 < 1000
                omega
              · show (0 : Int) ≤ 0 ∧ (0 : Int) ≤ ((k + 1 : Nat) : Int) ∧ (-1 : Int) ≤ -1 ∧ (-1 : Int) < 1000
                omega
theorem st_submit (h : hO2 k S) (h1 : k + 1 ≤ 1000) (hp : p ≤ n) : hO2 (k + 1) (rq_submit g n p S).2.2.2 := by
  have b1 := rBN_b (g := g) (e := n) (m := 1) (p := p) (w := 0) (by omega) hp
  have g1 : rBN g n 1 p 0 = sbA1 g n p := rfl
  rw [g1] at b1
  have b2 := rBM_0 (g := g) (n := n) (p := (sbA1 g n p).2.1) (w := (sbA1 g n p).2.2) b1.2.1
  have g2 : rBM g n (sbA1 g n p).2.1 (sbA1 g n p).2.2 = sbA2 g n p := rfl
  rw [g2] at b2
  have b3 := rBN_b (g := g) (e := n) (m := 3) (p := (sbA2 g n p).1 + (sbA2 g n p).2.1) (w := (sbA2 g n p).2.2) (by omega) (by omega)
  have g3 : rBN g n 3 ((sbA2 g n p).1 + (sbA2 g n p).2.1) (sbA2 g n p).2.2 = sbA3 g n p := rfl
  rw [g3] at b3
  have e10 := e3_10
  exact h2_c h (sb_ok h.1.2.2.2.2.1 h1 ⟨by omega, by omega⟩)
theorem mdB_1 {g : Int → Int} : (mdB g = 0 ∨ mdB g = 1) ∧ (mdB g = 1 → bMd g) := by
  unfold mdB
  by_cases e : bMd g
  · rw [if_pos e]
    exact ⟨Or.inr rfl, fun _ => e⟩
  · rw [if_neg e]
    exact ⟨Or.inl rfl, fun x => absurd x (by decide)⟩
theorem st_mend (h : hO2 k S) (h1 : k + 1 ≤ 1000) : hO2 (k + 1) (rq_mend p S).2.2.2 := h2_b h h1 mdB_1.1 h.1.2.2.2.2.2.2.1 mdB_1.2 ⟨by decide, fun x hx => (by cases hx)⟩
theorem st_cut (h : hO2 k S) (h1 : k + 1 ≤ 1000) : hO2 (k + 1) (rq_cut g n p S).2.2.2 := by
  have hl := h.1.2.2.2.2.2.2.2.2
  by_cases e : ctC S (rBN g n 3 p 0).1
  · have et : (rq_cut g n p S).2.2 = (t_ok, (S.1, S.2.1, S.2.2.1, 0, bCut S.2.2.2.2.1 (S.2.2.2.2.2.drop (rBN g n 3 p 0).1.toNat), S.2.2.2.2.2)) := by
      unfold rq_cut
      rw [if_pos e]
    rw [et]
    exact h2_b h h1 (Or.inl rfl) (bCut_b h.1.2.2.2.2.2.2.1 (fun x hx => (hl.2 x (List.mem_of_mem_drop hx)).2.2)) (fun x => absurd x (by decide)) hl
  · have et : (rq_cut g n p S).2.2 = (t_no (wrd 41), S) := by
      unfold rq_cut
      rw [if_neg e]
    rw [et]
    exact h2_same h h1
theorem bkS_2 {r : List Int × HS} (h : hO2 k S) (h1 : k + 1 ≤ 1000) (hr : S.2.2.2.1 = 1 → hO2 (k + 1) r.2) : hO2 (k + 1) (bkS S r).2 := by
  unfold bkS
  split
  · exact h2_same h h1
  · next e =>
    have := h.1.2.2.2.2.2.1
    exact hr (by omega)
theorem st_open (h : hO2 k S) (h1 : k + 1 ≤ 1000) : hO2 (k + 1) (rq_open g n p S).2.2.2 := by
  refine bkS_2 h h1 (fun eo => ?_)
  have hM := h.1.2.2.2.2.2.2.2.1 eo
  have hbk := h.1.2.2.2.2.2.2.1
  have hfb := bFd_b (g := S.2.2.2.2.1) (nm := stN g n p) (u := (S.2.2.2.2.1 (bRt S.2.2.2.2.1)).toNat) (i := 0)
  have ef : bFd S.2.2.2.2.1 (stN g n p) (S.2.2.2.2.1 (bRt S.2.2.2.2.1)).toNat 0 = opF g n p S := rfl
  rw [ef] at hfb
  split
  · exact h2_same h h1
  · exact h2_z h h1 (bZ_ok hbk (hM.2.2.2 _ (by omega) (by omega))) bZ_pn
theorem st_remove (h : hO2 k S) (h1 : k + 1 ≤ 1000) : hO2 (k + 1) (rq_remove g n p S).2.2.2 := by
  refine bkS_2 h h1 (fun eo => ?_)
  have hM := h.1.2.2.2.2.2.2.2.1 eo
  have hbk := h.1.2.2.2.2.2.2.1
  have hfb := bFd_b (g := S.2.2.2.2.1) (nm := stN g n p) (u := (S.2.2.2.2.1 (bRt S.2.2.2.2.1)).toNat) (i := 0)
  have ef : bFd S.2.2.2.2.1 (stN g n p) (S.2.2.2.2.1 (bRt S.2.2.2.2.1)).toNat 0 = opF g n p S := rfl
  rw [ef] at hfb
  have hrb := bRt_b (g := S.2.2.2.2.1)
  have h00 := hbk (bRt S.2.2.2.2.1) (by omega) (by omega)
  have h15 := hM.2.1
  split
  · exact h2_same h h1
  · next e =>
    have ho : 0 ≤ opF g n p S ∧ opF g n p S < S.2.2.2.2.1 (bRt S.2.2.2.2.1) := ⟨by omega, by omega⟩
    have ha : aft (S.2.2.2.2.1 (bRt S.2.2.2.2.1)) (opF g n p S) 0 ≤ 15 := by
      unfold aft
      rw [if_neg (by omega)]
      split <;> omega
    have hL := rtD_ok hbk h15 (o := opF g n p S) (c := 0) (m := 0) ⟨by omega, by omega⟩ ⟨by omega, by omega⟩ ⟨by omega, by omega⟩ ha
    have h32 := rtB_len (prs_30 (g := S.2.2.2.2.1) h00.1 ⟨by omega, by omega⟩ ha 0)
    refine h2_b h h1 h.1.2.2.2.2.2.1 (bCut_b hbk (fun x hx => (hL x hx).2.2)) (fun _ => bMd_rm hM hbk ho) (wLog_ok hbk hL ?_)
    unfold rtD
    rw [List.length_append, plc_len, h32, List.length_singleton]
    omega
theorem st_keep (h : hO2 k S) (h1 : k + 1 ≤ 1000) (hp : p ≤ n) (hw : (rq_keep g n p S).2.1 = 0) : hO2 (k + 1) (rq_keep g n p S).2.2.2 := by
  refine bkS_2 h h1 (fun eo => ?_)
  have hM := h.1.2.2.2.2.2.2.2.1 eo
  have hbk := h.1.2.2.2.2.2.2.1
  have mb := rBM_0 (g := g) (n := n) (p := p) (w := 0) hp
  have hl1 := mb.2.2.2.2.2 hw
  have hlen : (stN g n p).length = (rBM g n p 0).2.1.toNat := nmO_len
  by_cases e : kpF S.2.2.2.2.1 (stN g n p) S.1
  · rw [if_pos e]
    exact h2_same h h1
  · rw [if_neg e]
    have kk := kp_ok hM hbk h.1.1 (by omega) (by omega) stN_l e
    exact h2_b h h1 h.1.2.2.2.2.2.1 kk.2.1 (fun _ => kk.1) kk.2.2
theorem imp_ok : ∀ (l : List (List Int × PZ)) (b : Int → Int) (W : List (Int × Int)), bMd b → bk_b b → lg_ok W → (∀ x ∈ l, 1 ≤ x.1.length ∧ x.1.length ≤ 8 ∧ (∀ c ∈ x.1, 97 ≤ c ∧ c ≤ 122) ∧ pz_ok x.2) → bMd (impB b W l).1 ∧ bk_b (impB b W l).1 ∧ lg_ok (impB b W l).2.1
  | [], b, W, h1, h2, h3, _ => ⟨h1, h2, h3⟩
  | x :: l, b, W, h1, h2, h3, h4 => by
    rw [impB]
    by_cases e : kpF b x.1 x.2
    · rw [if_pos e]
      exact ⟨h1, h2, h3⟩
    · rw [if_neg e]
      obtain ⟨a1, a2, a3, a4⟩ := h4 x (List.mem_cons_self ..)
      have kk := kp_ok h1 h2 a4 a1 a2 a3 e
      exact imp_ok l _ _ kk.1 kk.2.1 kk.2.2 (fun y hy => h4 y (List.mem_cons_of_mem _ hy))
theorem eL2_ok {e : Int} : ∀ (E : List BE) (q : Int), bkI g e E q → ∀ x ∈ eL2 g e E, 1 ≤ x.1.length ∧ x.1.length ≤ 8 ∧ (∀ c ∈ x.1, 97 ≤ c ∧ c ≤ 122) ∧ pz_ok x.2
  | [], _, _, x, hx => (by cases hx)
  | y :: E, q, hI, x, hx => by
    obtain ⟨h1, h2, h3, h4, h5, h6, h7, h8, h9, h10, h11, h12⟩ := hI
    have hx' : x ∈ (enm g y, ezz g e y) :: eL2 g e E := hx
    rcases List.mem_cons.mp hx' with hx' | hx'
    · rw [hx']
      have en := enm_ok h4 ⟨h5, h6⟩
      have z1 : pz_ok (z_new 1 1 1) := z_new_ok ⟨by omega, by omega, by omega, by omega, by omega, by omega⟩
      exact ⟨by rw [en.1]; omega, by rw [en.1]; omega, en.2, rText_ok h9 z1⟩
    · exact eL2_ok E _ h12 x hx'
theorem st_import (h : hO2 k S) (h1 : k + 1 ≤ 1000) (hp : p ≤ n) (hw : (rq_import g n p S).2.1 = 0) : hO2 (k + 1) (rq_import g n p S).2.2.2 := by
  refine bkS_2 h h1 (fun eo => ?_)
  have hM := h.1.2.2.2.2.2.2.2.1 eo
  have hbk := h.1.2.2.2.2.2.2.1
  have tb := rT_b (g := g) (e := n) (c := 32) (p := p) (w := 0) hp
  have ob : (rT g n 32 p 0).1 ≤ (rIm g n p).2.1 ∧ (rIm g n p).2.1 ≤ n ∧ 0 ≤ (rIm g n p).2.2.1 ∧ (rIm g n p).2.2.1 ≤ 1 := rBo_b tb.2.1
  have ew : (rIm g n p).2.2.1 = 0 := by
    have hx : (rIm g n p).2.2.1 = 0 ∨ (rIm g n p).2.2.1 = 1 := by omega
    rcases hx with hx | hx
    · exact hx
    · have e4 : (rIn g n p).2.2 = 0 := hw
      unfold rIn at e4
      rw [hx, rN_w] at e4
      cases e4
  have hI : bkI g n (rIm g n p).1 (imA g n p).2.1 := (rBo_I tb.2.1 ew).1
  have kk := imp_ok (eL2 g n (rIm g n p).1) S.2.2.2.2.1 S.2.2.2.2.2 hM hbk h.1.2.2.2.2.2.2.2.2 (eL2_ok _ _ hI)
  show hO2 (k + 1) (S.1, S.2.1, S.2.2.1, S.2.2.2.1, imW g n p S)
  unfold imW
  split
  · exact h2_b h h1 h.1.2.2.2.2.2.1 kk.2.1 (fun _ => kk.1) kk.2.2
  · exact h2_same h h1
theorem st_list (h : hO2 k S) (h1 : k + 1 ≤ 1000) : hO2 (k + 1) (rq_list p S).2.2.2 := bkS_2 h h1 (fun _ => h2_same h h1)
theorem st_find (h : hO2 k S) (h1 : k + 1 ≤ 1000) : hO2 (k + 1) (rq_find p S).2.2.2 := bkS_2 h h1 (fun _ => h2_same h h1)
theorem st_export (h : hO2 k S) (h1 : k + 1 ≤ 1000) : hO2 (k + 1) (rq_export p S).2.2.2 := bkS_2 h h1 (fun _ => h2_same h h1)
theorem st_check (h : hO2 k S) (h1 : k + 1 ≤ 1000) : hO2 (k + 1) (rq_check g n p S).2.2.2 := by
  unfold rq_check
  split <;> exact h2_same h h1
theorem st_f {r : RQ} (h : hO2 k S) (h1 : k + 1 ≤ 1000) (hr : r.2.1 = 0 → hO2 (k + 1) r.2.2.2) : hO2 (k + 1) (fnR n S r).2 := by
  unfold fnR
  split
  · exact h2_same h h1
  · exact hr (by omega)
theorem st_all0 {v : Int} (hv : 0 ≤ v ∧ v < 15) (h : hO2 k S) (h1 : k + 1 ≤ 1000) (hp0 : 0 ≤ p) (hp : p ≤ n) (hb : ∀ j, 0 ≤ j → j < n → 0 ≤ g j ∧ g j ≤ 65535) : hO2 (k + 1) (fnR n S (rqA g n S v p)).2 := by
  have hc : v = 0 ∨ v = 1 ∨ v = 2 ∨ v = 3 ∨ v = 4 ∨ v = 5 ∨ v = 6 ∨ v = 7 ∨ v = 8 ∨ v = 9 ∨ v = 10 ∨ v = 11 ∨ v = 12 ∨ v = 13 ∨ v = 14 := by omega
  rcases hc with e | e | e | e | e | e | e | e | e | e | e | e | e | e | e
  · rw [e]
    exact st_f h h1 (fun hw => st_new h h1)
  · rw [e]
    exact st_f h h1 (fun hw => st_rule h h1 hp hw)
  · rw [e]
    exact st_f h h1 (fun hw => st_each h h1 hp hw)
  · rw [e]
    exact st_f h h1 (fun hw => st_give h h1 hp)
  · rw [e]
    exact st_f h h1 (fun hw => st_drop h h1)
  · rw [e]
    exact st_f h h1 (fun _ => h2_same h h1)
  · rw [e]
    exact st_f h h1 (fun hw => st_load h h1 hp)
  · rw [e]
    exact st_f h h1 (fun _ => h2_same h h1)
  · rw [e]
    exact st_f h h1 (fun _ => h2_same h h1)
  · rw [e]
    exact st_f h h1 (fun _ => h2_same h h1)
  · rw [e]
    exact st_f h h1 (fun _ => h2_same h h1)
  · rw [e]
    exact st_f h h1 (fun hw => st_least h h1)
  · rw [e]
    exact st_f h h1 (fun hw => st_make h h1)
  · rw [e]
    exact st_f h h1 (fun _ => h2_same h h1)
  · rw [e]
    exact st_f h h1 (fun _ => h2_same h h1)
theorem st_all1 {v : Int} (hv : 15 ≤ v ∧ v < 30) (h : hO2 k S) (h1 : k + 1 ≤ 1000) (hp0 : 0 ≤ p) (hp : p ≤ n) (hb : ∀ j, 0 ≤ j → j < n → 0 ≤ g j ∧ g j ≤ 65535) : hO2 (k + 1) (fnR n S (rqA g n S v p)).2 := by
  have hc : v = 15 ∨ v = 16 ∨ v = 17 ∨ v = 18 ∨ v = 19 ∨ v = 20 ∨ v = 21 ∨ v = 22 ∨ v = 23 ∨ v = 24 ∨ v = 25 ∨ v = 26 ∨ v = 27 ∨ v = 28 ∨ v = 29 := by omega
  rcases hc with e | e | e | e | e | e | e | e | e | e | e | e | e | e | e
  · rw [e]
    exact st_f h h1 (fun hw => st_check h h1)
  · rw [e]
    exact st_f h h1 (fun _ => h2_same h h1)
  · rw [e]
    exact st_f h h1 (fun _ => h2_same h h1)
  · rw [e]
    exact st_f h h1 (fun _ => h2_same h h1)
  · rw [e]
    exact st_f h h1 (fun _ => h2_same h h1)
  · rw [e]
    exact st_f h h1 (fun _ => h2_same h h1)
  · rw [e]
    exact st_f h h1 (fun _ => h2_same h h1)
  · rw [e]
    exact st_f h h1 (fun hw => st_vary h h1 hp)
  · rw [e]
    exact st_f h h1 (fun _ => h2_same h h1)
  · rw [e]
    exact st_f h h1 (fun _ => h2_same h h1)
  · rw [e]
    exact st_f h h1 (fun hw => st_person h h1 hp)
  · rw [e]
    exact st_f h h1 (fun hw => st_put h h1 hp)
  · rw [e]
    exact st_f h h1 (fun hw => st_undo h h1)
  · rw [e]
    exact st_f h h1 (fun hw => st_redo h h1)
  · rw [e]
    exact st_f h h1 (fun _ => h2_same h h1)
theorem st_all2 {v : Int} (hv : 30 ≤ v ∧ v < 45) (h : hO2 k S) (h1 : k + 1 ≤ 1000) (hp0 : 0 ≤ p) (hp : p ≤ n) (hb : ∀ j, 0 ≤ j → j < n → 0 ≤ g j ∧ g j ≤ 65535) : hO2 (k + 1) (fnR n S (rqA g n S v p)).2 := by
  have hc : v = 30 ∨ v = 31 ∨ v = 32 ∨ v = 33 ∨ v = 34 ∨ v = 35 ∨ v = 36 ∨ v = 37 ∨ v = 38 ∨ v = 39 ∨ v = 40 ∨ v = 41 ∨ v = 42 ∨ v = 43 ∨ v = 44 := by omega
  rcases hc with e | e | e | e | e | e | e | e | e | e | e | e | e | e | e
  · rw [e]
    exact st_f h h1 (fun hw => st_mark h h1 hp)
  · rw [e]
    exact st_f h h1 (fun _ => h2_same h h1)
  · rw [e]
    exact st_f h h1 (fun hw => st_contest h h1)
  · rw [e]
    exact st_f h h1 (fun hw => st_set h h1 hp hb hp0 hw)
  · rw [e]
    exact st_f h h1 (fun hw => st_submit h h1 hp)
  · rw [e]
    exact st_f h h1 (fun _ => h2_same h h1)
  · rw [e]
    exact st_f h h1 (fun hw => st_keep h h1 hp hw)
  · rw [e]
    exact st_f h h1 (fun hw => st_open h h1)
  · rw [e]
    exact st_f h h1 (fun hw => st_remove h h1)
  · rw [e]
    exact st_f h h1 (fun hw => st_list h h1)
  · rw [e]
    exact st_f h h1 (fun hw => st_cut h h1)
  · rw [e]
    exact st_f h h1 (fun hw => st_mend h h1)
  · rw [e]
    exact st_f h h1 (fun hw => st_export h h1)
  · rw [e]
    exact st_f h h1 (fun hw => st_import h h1 hp hw)
  · rw [e]
    exact st_f h h1 (fun hw => st_find h h1)
theorem st_F (h : hO2 k S) (h1 : k + 1 ≤ 1000) (hn : 0 ≤ n) (hb : ∀ j, 0 ≤ j → j < n → 0 ≤ g j ∧ g j ≤ 65535) : hO2 (k + 1) (rqF g n S).2 := by
  have hc := chs_b (g := g) (e := n) (p := 0) (bs := bsW) hn
  have hw := swW (g := g) (e := n) (p := 0)
  unfold rqF
  generalize chs g n 0 bsW = q at *
  split
  · exact h2_same h h1
  · have h45 : q.1 < 45 := by
      rcases hw.2 with hx | hx
      · omega
      · omega
    by_cases c1 : q.1 < 15
    · exact st_all0 ⟨by omega, by omega⟩ h h1 (by omega) (by omega) hb
    · by_cases c2 : q.1 < 30
      · exact st_all1 ⟨by omega, by omega⟩ h h1 (by omega) (by omega) hb
      · exact st_all2 ⟨by omega, by omega⟩ h h1 (by omega) (by omega) hb
end STP
