/-! FORMS: what is read has no number where its kind has none; the least text as a function; the reference's find. -/
theorem rK_pn {g : Int → Int} {e : Int} {bs : List Int32} {p w : Int} (h : hasN (rK g e bs p w).1 = false) : (rK g e bs p w).2.1 = 0 := by
  unfold rK at h ⊢
  split at h
  · rename_i h1
    dsimp only at h
    rw [h1] at h
    cases h
  · rename_i h1
    rw [if_neg h1]
theorem q_op_pn {Z : PZ} {o : PO} (hz : pnZ Z) (ho : o.1 = 0 ∨ o.1 = 1 → hasN o.2.1 = false → o.2.2.1 = 0) : pnZ (q_op Z o).2 := by
  unfold q_op
  split
  · rename_i h0
    unfold q_rule
    split
    · split
      · exact hz
      · split
        · exact hz
        · intro R hR
          rcases List.mem_append.mp hR with h | h
          · exact hz R h
          · rw [List.mem_singleton.mp h]
            exact ho (Or.inl h0)
    · exact hz
  · split
    · rename_i h0 h1
      unfold q_each
      split
      · exact hz
      · split
        · exact hz
        · intro R hR
          rcases List.mem_append.mp hR with h | h
          · exact hz R h
          · obtain ⟨l, l1, l2⟩ := List.mem_map.mp h
            rw [← l2]
            exact ho (Or.inr h1)
    · unfold q_give
      split
      · split
        · exact hz
        · exact hz
      · exact hz
theorem rPt_pn {g : Int → Int} {e p : Int} : (rPt g e p).1.1 = 0 ∨ (rPt g e p).1.1 = 1 → hasN (rPt g e p).1.2.1 = false → (rPt g e p).1.2.2.1 = 0 := by
  unfold rPt
  split
  · exact fun _ h => rK_pn h
  · split
    · exact fun _ h => rK_pn h
    · exact fun _ _ => rfl
theorem rTx_pn {g : Int → Int} {e : Int} : ∀ {f : Nat} {p w rf : Int} {Z : PZ}, pnZ Z → pnZ (rTx g e f p w rf Z).2.2.2
  | 0, _, _, _, _, h => h
  | f + 1, p, w, rf, Z, h => by
    rw [rTx]
    split
    · split
      · exact rTx_pn (q_op_pn h rPt_pn)
      · exact rTx_pn h
    · exact h
theorem rText_pn {g : Int → Int} {e p w rf : Int} {Z : PZ} (h : pnZ Z) : pnZ (rText g e p w rf Z).2.2.2 := by
  unfold rText
  split
  · refine rTx_pn ?_
    unfold q_size
    split
    · exact fun R hR => by cases hR
    · exact h
  · exact rTx_pn h
theorem bZ_pn {g : Int → Int} {e : Int} : pnZ (bZ g e) := rText_pn (fun R hR => by cases hR)
/-- the least text of a puzzle's variants -/
noncomputable def fmT (Z : PZ) : List Int := @dite _ (∃ Y, isMin Z Y) (Classical.propDecidable _) (fun h => tText h.choose) (fun _ => [])
theorem fmT_e {Z Y : PZ} (ho : pz_ok Z) (hn : pnZ Z) (h : isMin Z Y) : fmT Z = tText Y := by
  have hx : ∃ Y, isMin Z Y := ⟨Y, h⟩
  unfold fmT
  rw [dif_pos hx]
  exact isMin_1 ho hn hx.choose_spec h
/-- the names of the entries of the same form -/
noncomputable def tFnd (Z : PZ) (g : Int → Int) : Nat → List Int
  | 0 => []
  | n + 1 => tFnd Z g n ++ (if fmT (bZ g (n : Int)) = fmT Z then bNm g (n : Int) ++ [32] else [])
theorem tFnd_len {Z : PZ} {g : Int → Int} (hH : bHs g) : ∀ n : Nat, (n : Int) ≤ g (bRt g) → (tFnd Z g n).length ≤ 9 * n
  | 0, _ => Nat.le_refl _
  | n + 1, h => by
    have := tFnd_len (Z := Z) hH n (by omega)
    have hh := (hH.2 n (by omega) (by omega)).2.2.2.2.1
    rw [tFnd, List.length_append]
    split
    · rw [List.length_append, List.length_singleton, bNm_len]
      omega
    · rw [List.length_nil]
      omega
theorem mtq_app {N : fx_M} {T cs : List Int} (h : mtq N T) (hl : T.length + cs.length ≤ 6000) : mtq (m_app N cs) (T ++ cs) := by
  have h5 := h.1
  refine ⟨by rw [m_app_len (by omega), h5, List.length_append]; omega, fun i hi => ?_⟩
  by_cases h1 : i < T.length
  · rw [m_app_lo (by omega), h.2 i h1, List.getD_eq_getElem?_getD, List.getD_eq_getElem?_getD, List.getElem?_append_left h1]
  · rw [List.length_append] at hi
    rw [show (i : Int) = N 133 5 + ((i - T.length : Nat) : Int) by omega, m_app_get (by omega) (by omega), List.getD_eq_getElem?_getD, List.getD_eq_getElem?_getD, List.getElem?_append_right (by omega)]
/-- what a request of the reference leaves alone -/
def mqf (M N : fx_M) : Prop := ∀ b j, ¬ msc b j → b ≠ 136 → ¬ (b = 133 ∧ (j = 3 ∨ j = 5 ∨ (7 ≤ j ∧ j ≤ 23))) → b ≠ 135 → b ≠ 137 → ¬ ucell 1 b j → ¬ ucell 2 b j → ¬ ucell 3 b j → N b j = M b j
theorem mqf_rf {M : fx_M} : mqf M M := fun _ _ _ _ _ _ _ _ _ _ => rfl
theorem mqf_tr {M N O : fx_M} (h : mqf M N) (g : mqf N O) : mqf M O := fun b j a1 a2 a3 a4 a5 a6 a7 a8 => (g b j a1 a2 a3 a4 a5 a6 a7 a8).trans (h b j a1 a2 a3 a4 a5 a6 a7 a8)
theorem mqf_ffr {M N : fx_M} (h : ffr M N) : mqf M N := fun b j a1 a2 a3 a4 a5 a6 a7 a8 => h b j (by omega) a8 a7 (by unfold msc at a1; omega) (by unfold msc at a1; omega) (by unfold msc at a1; omega)
theorem mqf_app {M : fx_M} {cs : List Int} : mqf M (m_app M cs) := fun b j a1 a2 a3 a4 a5 a6 a7 a8 => m_app_ne (by omega) a2
theorem mqf_z0 {M N : fx_M} {Z : PZ} (h : mqf M N) (hz : mz M 0 Z) (ho : pz_ok Z) : mz N 0 Z := mz_uc hz ho (fun b j hb => by
  unfold ucell at hb
  exact h b j (by unfold msc; omega) (by omega) (by omega) (by omega) (by omega) (by unfold ucell; omega) (by unfold ucell; omega) (by unfold ucell; omega))
theorem mtq_fr {M N : fx_M} {T : List Int} (h : mtq M T) (h5 : N 133 5 = M 133 5) (hf : ∀ j, j < M 133 5 → N 136 j = M 136 j) : mtq N T := ⟨by rw [h5]; exact h.1, fun i hi => by rw [hf i (by rw [h.1]; omega)]; exact h.2 i hi⟩
/-- the form kept of the current puzzle is the text T -/
def mft (M : fx_M) (T : List Int) : Prop := M 133 77 = T.length ∧ ∀ i : Nat, i < T.length → M 171 (i : Int) = T.getD i 0
theorem ext_getD {A B : List Int} (hl : A.length = B.length) (h : ∀ i : Nat, i < A.length → A.getD i 0 = B.getD i 0) : A = B := by
  refine List.ext_getElem? (fun i => ?_)
  by_cases hi : i < A.length
  · have := h i hi
    rw [List.getD_eq_getElem?_getD, List.getD_eq_getElem?_getD, List.getElem?_eq_getElem hi, List.getElem?_eq_getElem (by omega), Option.getD_some, Option.getD_some] at this
    rw [List.getElem?_eq_getElem hi, List.getElem?_eq_getElem (by omega), this]
  · rw [List.getElem?_eq_none (by omega), List.getElem?_eq_none (by omega)]
section MFD
variable {kc : List va_E} {d : Nat} {M : fx_M} {Q : Option fx_V → fx_M → Prop} {Z : PZ} {g : Int → Int}
theorem sp_isFormThen {A B : List Int} (hA : mfo M A) (hB : mft M B) (lA : A.length ≤ 354) (lB : B.length ≤ 354) (bA : ∀ x ∈ A, 0 ≤ x ∧ x ≤ 255) (bB : ∀ x ∈ B, 0 ≤ x ∧ x ≤ 255) (K1 : A = B → Q (some (jI 1)) M) (K0 : A ≠ B → Q (some (jI 0)) M) : wc kc (d + 1) 346 [jR 133] M Q := by
  have r0 : ∀ v2 : Int, A ≠ B → wp kc (d + 1) 346 19 [some (jR 133), some (jI 0), some (jI v2)] [] M Q := fun v2 h => s346_19 ⟨⟨by omega, by omega⟩, fun _ => ⟨⟨by omega, by omega⟩, K0 h⟩, fun h => absurd rfl h⟩
  have z : A.length = B.length → ∀ (t i : Nat), i + t = A.length → (∀ j : Nat, j < i → A.getD j 0 = B.getD j 0) → wp kc (d + 1) 346 19 [some (jR 133), some (jI 1), some (jI i)] [] M Q := by
    intro hl t
    induction t with
    | zero =>
      intro i hi h
      refine s346_19 ?_
      rw [hA.1]
      exact ⟨⟨by omega, by omega⟩, fun h => by omega, fun _ => ⟨⟨⟨by omega, by omega⟩, ⟨by omega, by omega⟩⟩, fun _ => ⟨⟨by omega, by omega⟩, K1 (ext_getD hl (fun j hj => h j (by omega)))⟩, fun h => by omega⟩⟩
    | succ t ih =>
      intro i hi h
      have g1 : A.getD i 0 ∈ A := by
        rw [List.getD_eq_getElem?_getD, List.getElem?_eq_getElem (show i < A.length by omega)]
        exact List.getElem_mem _
      have g2 : B.getD i 0 ∈ B := by
        rw [List.getD_eq_getElem?_getD, List.getElem?_eq_getElem (show i < B.length by omega)]
        exact List.getElem_mem _
      have b1 := bA _ g1
      have b2 := bB _ g2
      refine s346_19 ?_
      rw [hA.1, hA.2 i (by omega), hB.2 i (by omega)]
      refine ⟨⟨by omega, by omega⟩, fun h => by omega, fun _ => ⟨⟨⟨by omega, by omega⟩, ⟨by omega, by omega⟩⟩, fun h => by omega, fun _ => ⟨⟨by omega, by omega⟩, ⟨by omega, by omega⟩, ⟨by omega, by omega⟩, ⟨by omega, by omega⟩, ?_⟩⟩⟩
      by_cases e : A.getD i 0 = B.getD i 0
      · rw [if_pos e]
        have := ih (i + 1) (by omega) (fun j hj => by
          by_cases e2 : j = i
          · rw [e2]
            exact e
          · exact h j (by omega))
        rw [show ((i + 1 : Nat) : Int) = (i : Int) + 1 by omega] at this
        exact this
      · rw [if_neg e]
        exact r0 _ (fun h => e (by rw [h]))
  refine s346 ?_
  rw [hA.1, hB.1]
  refine ⟨⟨by omega, by omega⟩, ⟨by omega, by omega⟩, ?_⟩
  by_cases hl : A.length = B.length
  · rw [if_pos (by omega)]
    exact z hl A.length 0 (by omega) (fun j hj => by omega)
  · rw [if_neg (by omega)]
    exact r0 _ (fun h => hl (by rw [h]))
/-- sayFind, while the book can be read -/
theorem sp_sayFind (hz : mz M 0 Z) (ho : pz_ok Z) (hn : pnZ Z) (hg : mbk M g) (hb : bk_b g) (hM : bMd g) (hop : M 133 96 = 1) (h05 : M 133 5 = 0) (K : ∀ M', mtq M' (tFnd Z g (g (bRt g)).toNat ++ [46]) → mqf M M' → Q none M') : wc kc (d + 9) 332 [jR 133] M Q := by
  have hrb := bRt_b (g := g)
  have h0 := hb (bRt g) (by omega) (by omega)
  have h15 := hM.2.1
  have hH := bMd_H hM
  refine s332 ?_
  rw [hop]
  refine ⟨⟨by omega, by omega⟩, fun _ => sp_findForm (d := d + 1) (Or.inl rfl) hz ho hn (by omega) (by omega) (fun N Y y1 y2 y3 => s332_17 ?_), fun h => by omega⟩
  have eT := fmT_e ho hn y1
  have tb := tText_b (isMin_ok ho hn y1).1
  rw [← eT] at y2 tb
  have loop : ∀ (t i : Nat) (P : fx_M), (i : Int) + t = g (bRt g) → mqf M P → mtq P (tFnd Z g i) → mft P (fmT Z) → wp kc (d + 9) 332 55 [some (jR 133), some (jI i)] [] P Q := by
    intro t
    induction t with
    | zero =>
      intro i P hi f hq hF
      have hgP : mbk P g := mbk_fr hg (fun j => f 188 j (by unfold msc; omega) (by omega) (by omega) (by omega) (by omega) (by unfold ucell; omega) (by unfold ucell; omega) (by unfold ucell; omega))
      have hlen := tFnd_len (Z := Z) hH i (by omega)
      refine s332_55 (sp_mentries (d := d + 6) hgP hM.1 (s332_60 ⟨⟨⟨by omega, by omega⟩, ⟨by omega, by omega⟩⟩, fun _ => sp_sayByte (d := d + 7) ⟨by rw [hq.1]; omega, by rw [hq.1]; omega⟩ (s332_104 ?_), fun h => by omega⟩))
      rw [show (g (bRt g)).toNat = i by omega] at K
      exact K _ (mtq_app (cs := [46]) hq (by rw [List.length_singleton]; omega)) (mqf_tr f (mqf_app (cs := [46])))
    | succ t ih =>
      intro i P hi f hq hF
      have hgP : mbk P g := mbk_fr hg (fun j => f 188 j (by unfold msc; omega) (by omega) (by omega) (by omega) (by omega) (by unfold ucell; omega) (by unfold ucell; omega) (by unfold ucell; omega))
      have hlen := tFnd_len (Z := Z) hH i (by omega)
      have hEn := hM.2.2.2 i (by omega) (by omega)
      refine s332_55 (sp_mentries (d := d + 6) hgP hM.1 (s332_60 ⟨⟨⟨by omega, by omega⟩, ⟨by omega, by omega⟩⟩, fun h => by omega, fun _ => ?_⟩))
      refine sp_fetch (d := d + 5) hgP hb hM.1 ⟨by omega, by omega⟩ hEn.1 (fun h => absurd hEn.2.1 h) (fun _ => ?_)
      refine sp_fload (d := d) (kc := kc) (u := 1) (Q := fun v M1 => wp kc (d + 9) 332 74 [some (jR 133), some (jI i)] (v.toList ++ []) M1 Q) (by omega) hgP hb hM.1 ⟨by omega, by omega⟩ hEn (fun R r1 r2 r3 r4 => s332_74 ?_) (fun N hN hw => s332_68 hw)
      have fR : mqf P R := fun b j a1 a2 a3 a4 a5 a6 a7 a8 => r4 b j (by omega) a4 a5 a6
      have e5 : R 133 5 = P 133 5 := r4 _ _ (by omega) (by omega) (by omega) (by unfold ucell; omega)
      have p5 := hq.1
      refine sp_findForm (d := d + 1) (Or.inr rfl) r1 r2 bZ_pn (by omega) (by omega) (fun S X x1 x2 x3 => s332_80 ?_)
      have eX := fmT_e r2 bZ_pn x1
      have tbX := tText_b (isMin_ok r2 bZ_pn x1).1
      rw [← eX] at x2 tbX
      have s5 := ffr_5 x3
      have fS : mqf M S := mqf_tr f (mqf_tr fR (mqf_ffr x3))
      have hqS : mtq S (tFnd Z g i) := mtq_fr hq (by omega) (fun j hj => by
        rw [x3 136 j (by omega) (by unfold ucell; omega) (by unfold ucell; omega) (by omega) (by omega) (by omega), r4 136 j (by omega) (by omega) (by omega) (by unfold ucell; omega)])
      have hFS : mft S (fmT Z) := by
        refine ⟨?_, fun j hj => ?_⟩
        · rw [x3 133 77 (by omega) (by unfold ucell; omega) (by unfold ucell; omega) (by omega) (by omega) (by omega), r4 133 77 (by omega) (by omega) (by omega) (by unfold ucell; omega)]
          exact hF.1
        · rw [x3 171 j (by omega) (by unfold ucell; omega) (by unfold ucell; omega) (by omega) (by omega) (by omega), r4 171 j (by omega) (by omega) (by omega) (by unfold ucell; omega)]
          exact hF.2 j hj
      have nx := fun (P' : fx_M) => ih (i + 1) P' (by omega)
      rw [show ((i + 1 : Nat) : Int) = (i : Int) + 1 by omega] at nx
      refine sp_isFormThen (d := d + 7) x2 hFS tbX.1 tb.1 tbX.2 tb.2 (fun e => s332_84 ⟨⟨by omega, by omega⟩, fun h => by omega, fun _ => ?_⟩) (fun e => s332_84 ⟨⟨by omega, by omega⟩, fun _ => ?_, fun h => absurd rfl h⟩)
      · have hgS : mbk S g := mbk_fr hg (fun j => fS 188 j (by unfold msc; omega) (by omega) (by omega) (by omega) (by omega) (by unfold ucell; omega) (by unfold ucell; omega) (by unfold ucell; omega))
        refine sp_sayEntryName (d := d + 5) hgS hM.1 ⟨by omega, by omega⟩ (hH.2 i (by omega) (by omega)) (by omega) (s332_92 (nx _ (mqf_tr fS mqf_app) ?_ ?_))
        · rw [tFnd, if_pos e]
          have hh := hEn.1.2.2.2.2.1
          refine mtq_app hqS ?_
          rw [List.length_append, List.length_singleton, bNm_len]
          omega
        · exact ⟨by rw [m_app_ne (by omega) (by omega)]; exact hFS.1, fun j hj => by rw [m_app_ne (by omega) (by omega)]; exact hFS.2 j hj⟩
      · refine nx _ fS ?_ hFS
        rw [tFnd, if_neg e, List.append_nil]
        exact hqS
  have cpy : ∀ (t i : Nat) (P : fx_M), i + t = (fmT Z).length → mfo P (fmT Z) → P 133 77 = (fmT Z).length → (∀ j : Nat, j < i → P 171 (j : Int) = (fmT Z).getD j 0) → mqf M P → P 133 5 = 0 → wp kc (d + 9) 332 27 [some (jR 133), some (jI i)] [] P Q := by
    intro t
    induction t with
    | zero =>
      intro i P hi hf h77 h171 f p5
      refine s332_27 ?_
      rw [hf.1]
      exact ⟨⟨⟨by omega, by omega⟩, ⟨by omega, by omega⟩⟩, fun _ => loop (g (bRt g)).toNat 0 P (by omega) f ⟨p5, fun i hi => by cases hi⟩ ⟨h77, fun j hj => h171 j (by omega)⟩, fun h => by omega⟩
    | succ t ih =>
      intro i P hi hf h77 h171 f p5
      refine s332_27 ?_
      rw [hf.1, hf.2 i (by omega)]
      refine ⟨⟨⟨by omega, by omega⟩, ⟨by omega, by omega⟩⟩, fun h => by omega, fun _ => ⟨⟨by omega, by omega⟩, ⟨by omega, by omega⟩, ?_⟩⟩
      have := ih (i + 1) (fx_up P 171 (i : Int) ((fmT Z).getD i 0)) (by omega) ⟨by rw [fx_up_na (by omega)]; exact hf.1, fun j hj => by rw [fx_up_na (by omega)]; exact hf.2 j hj⟩ (by rw [fx_up_na (by omega)]; exact h77) (fun j hj => by
        by_cases e : j = i
        · rw [e, fx_up_self]
        · rw [fx_up_nk (by omega)]
          exact h171 j (by omega)) (mqf_tr f (fun b j a1 a2 a3 a4 a5 a6 a7 a8 => fx_up_na (by unfold msc at a1; omega))) (by rw [fx_up_na (by omega)]; exact p5)
      rw [show ((i + 1 : Nat) : Int) = (i : Int) + 1 by omega] at this
      exact this
  have n5 := ffr_5 y3
  have := cpy (fmT Z).length 0 (fx_up N 133 77 (N 133 74)) (by omega) ⟨by rw [fx_up_nk (by omega)]; exact y2.1, fun j hj => by rw [fx_up_na (by omega)]; exact y2.2 j hj⟩ (by rw [fx_up_self]; exact y2.1) (fun j hj => by omega) (mqf_tr (mqf_ffr y3) (fun b j a1 a2 a3 a4 a5 a6 a7 a8 => fx_up_ne (by unfold msc at a1; omega))) (by rw [fx_up_nk (by omega)]; omega)
  exact this
end MFD
