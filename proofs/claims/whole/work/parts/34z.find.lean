/-! FORMS: the class's find and form. -/
theorem frm45 : fx_frm 45 := by
  unfold fx_frm
  decide
theorem cfm_min {N : fx_M} {f : Nat} {Z : PZ} {T : List PR} {G : Int} (ho : pz_ok Z) (hn : pnZ Z) (h : fmN Z (mps Z.1 Z.2.1) T G) (hc : cfm N f Z T G) : ∃ Y, isMin Z Y ∧ fOk Y ∧ fmT Z = tText Y ∧ cfm N f Y Y.2.2.2.1 (gP 9 Y.2.2.2.2) := by
  obtain ⟨Y, y1, y2, y3, y4, y5, y6⟩ := fm_min h
  refine ⟨Y, y1, isMin_ok ho hn y1, fmT_e ho hn y1, ?_⟩
  rw [y2, y3] at hc
  obtain ⟨c1, c2, c3, c4, c5⟩ := hc
  exact ⟨by rw [y4]; exact c1, by rw [y5]; exact c2, by rw [y6]; exact c3, c4, c5⟩
theorem cfm_fr {M N : fx_M} {f : Nat} {Y : PZ} {T : List PR} {G : Int} (h : cfm M f Y T G) (hf : ∀ b j, b = f ∨ b = f + 1 → N b j = M b j) : cfm N f Y T G := by
  obtain ⟨c1, c2, c3, ⟨c4, c6⟩, c5⟩ := h
  exact ⟨by rw [hf f _ (Or.inl rfl)]; exact c1, by rw [hf f _ (Or.inl rfl)]; exact c2, by rw [hf f _ (Or.inl rfl)]; exact c3, ⟨by rw [hf f _ (Or.inl rfl)]; exact c4, fun i R hi => by rw [hf (f + 1) _ (Or.inr rfl)]; exact c6 i R hi⟩, by rw [hf f _ (Or.inl rfl)]; exact c5⟩
/-- what find leaves alone -/
def fcf (M N : fx_M) (cs : List Int) : Prop := ∀ b j, b ≠ 129 → b ≠ 132 → ¬ (20 ≤ b ∧ b ≤ 28) → ¬ csc b → (b = 3 → j = 1) → N b j = o_app M 3 cs b j
section CFD
variable {L : Nat} {xs : Nat → Int32} {d : Nat} {Q : Option fx_V → fx_M → Prop} {g : Int → Int} {M : fx_M} {Z Y : PZ}
theorem fcf_3 {N : fx_M} {cs : List Int} (h : fcf M N cs) : N 3 1 = o_app M 3 cs 3 1 ∧ ∀ a, N 4 a = o_app M 3 cs 4 a := ⟨h 3 1 (by decide) (by decide) (by omega) (by unfold csc; omega) (fun _ => rfl), fun a => h 4 a (by decide) (by decide) (by omega) (by unfold csc; omega) (fun h => by omega)⟩
/-- findSame -/
theorem sp_findSame (hz : cz M 11 Z) (ho : pz_ok Z) (hn : pnZ Z) (hY : cz M 20 Y) (hYo : pz_ok Y) (hg : M 126 = g) (hb : bk_b g) (hM : bMd g) (hO : o_ok M 3) (K : ∀ M' X, cz M' 20 X → pz_ok X → fcf M M' (tFnd Z g (g (bRt g)).toNat ++ [46]) → Q none M') : wc (kcs L xs) (d + 8) 203 [jR 0] M Q := by
  have hrb := bRt_b (g := g)
  have h0 := hb (bRt g) (by omega) (by omega)
  have h15 := hM.2.1
  have hH := bMd_H hM
  have hNE : bNE g = g (bRt g) := by
    unfold bNE
    rw [if_neg (by omega)]
  refine s203 (sp_formTake (d := d + 3) frm40 puz11 (by decide) hz ho hn (fun N T G t1 t2 t3 => s203_11 ?_))
  obtain ⟨W, w1, w2, w3, w4⟩ := cfm_min ho hn t1 t2
  have loop : ∀ (t i : Nat) (P : fx_M) (X : PZ), (i : Int) + t = g (bRt g) → cz P 20 X → pz_ok X → cfm P 40 W W.2.2.2.1 (gP 9 W.2.2.2.2) → fcf M P (tFnd Z g i) → wp (kcs L xs) (d + 8) 203 13 [some (jR 0), some (jI i)] [] P Q := by
    intro t
    induction t with
    | zero =>
      intro i P X hi hX hXo hc f
      have hgP : P 126 = g := by
        rw [← hg]
        funext j
        rw [f 126 j (by decide) (by decide) (by omega) (by unfold csc; omega) (fun h => by omega), o_app_ne (by decide) (by decide)]
      have f3 := fcf_3 f
      have hOP : o_ok P 3 := by
        have := o_ok_app (cs := tFnd Z g i) hO
        unfold o_ok at this ⊢
        rw [f3.1]
        exact this
      refine s203_13 (sp_entries (d := d + 5) hgP hb (s203_21 ?_))
      rw [hNE]
      refine ⟨⟨⟨by omega, by omega⟩, ⟨by omega, by omega⟩⟩, fun _ => sp_put (d := d + 6) out3 hOP ⟨by omega, by omega⟩ (s203_91 ?_), fun h => by omega⟩
      rw [show (g (bRt g)).toNat = i by omega] at K
      refine K _ X (cz_fr hX (fun b j b1 b2 => o_app_ne (cs := [46]) (by omega) (by omega))) hXo (fun b j b1 b2 b3 b4 b5 => ?_)
      rw [← o_app_app (cs := tFnd Z g i)]
      exact o_app_fq (cs := [46]) f3.1 f3.2 (f b j b1 b2 b3 b4 b5) b5
    | succ t ih =>
      intro i P X hi hX hXo hc f
      have hgP : P 126 = g := by
        rw [← hg]
        funext j
        rw [f 126 j (by decide) (by decide) (by omega) (by unfold csc; omega) (fun h => by omega), o_app_ne (by decide) (by decide)]
      have f3 := fcf_3 f
      have hEn := hM.2.2.2 i (by omega) (by omega)
      have nx := fun (P' : fx_M) (X' : PZ) => ih (i + 1) P' X' (by omega)
      rw [show ((i + 1 : Nat) : Int) = (i : Int) + 1 by omega] at nx
      refine s203_13 (sp_entries (d := d + 5) hgP hb (s203_21 ?_))
      rw [hNE]
      refine ⟨⟨⟨by omega, by omega⟩, ⟨by omega, by omega⟩⟩, fun h => by omega, fun _ => ?_⟩
      refine sp_read (d := d) puz20 hX hXo hgP hb ⟨by omega, by omega⟩ (fun hne => absurd hEn hne) (fun _ R r1 r2 r3 => s203_36 ⟨⟨by omega, by omega⟩, fun h => by omega, fun _ => ?_⟩)
      refine sp_formTake (d := d + 3) frm45 puz20 (by decide) r1 r2 bZ_pn (fun S T' G' s1 s2 s3 => s203_50 ?_)
      obtain ⟨V, v1, v2, v3, v4⟩ := cfm_min r2 bZ_pn s1 s2
      have hcS : cfm S 40 W W.2.2.2.1 (gP 9 W.2.2.2.2) := cfm_fr hc (fun b j hbj => by
        rw [s3 b j (by omega) (by omega) (by omega) (by omega), r3 b j (by omega) (by omega) (by omega)])
      have fS : fcf M S (tFnd Z g i) := fun b j b1 b2 b3 b4 b5 => by
        unfold csc at b4
        rw [s3 b j (by omega) (by omega) (by omega) (by omega), r3 b j b1 b2 (by omega)]
        exact f b j b1 b2 b3 (by unfold csc; omega) b5
      have hXS : cz S 20 (bZ g i) := cz_fr r1 (fun b j b1 b2 => s3 b j (by omega) (by omega) (by omega) (by omega))
      have fS3 := fcf_3 fS
      refine sp_same (d := d + 6) frm45 frm40 v2 w2 v4 hcS (fun e => s203_61 ⟨⟨by omega, by omega⟩, fun h => by omega, fun _ => ?_⟩) (fun e => s203_61 ⟨⟨by omega, by omega⟩, fun _ => ?_, fun h => absurd rfl h⟩)
      · have hgS : S 126 = g := by
          rw [← hg]
          funext j
          rw [fS 126 j (by decide) (by decide) (by omega) (by unfold csc; omega) (fun h => by omega), o_app_ne (by decide) (by decide)]
        have hOS : o_ok S 3 := by
          have := o_ok_app (cs := tFnd Z g i) hO
          unfold o_ok at this ⊢
          rw [fS3.1]
          exact this
        refine sp_writeName (d := d + 4) hgS hb hOS (hH.2 i (by omega) (by omega)) (by omega) (s203_76 (nx _ (bZ g i) (cz_fr hXS (fun b j b1 b2 => o_app_ne (by omega) (by omega))) r2 (cfm_fr hcS (fun b j hbj => o_app_ne (by omega) (by omega))) ?_))
        rw [tFnd, if_pos (by rw [v3, w3]; exact e)]
        intro b j b1 b2 b3 b4 b5
        rw [← o_app_app (cs := tFnd Z g i)]
        exact o_app_fq fS3.1 fS3.2 (fS b j b1 b2 b3 b4 b5) b5
      · refine nx S (bZ g i) hXS r2 hcS ?_
        rw [tFnd, if_neg (by rw [v3, w3]; exact e), List.append_nil]
        exact fS
  refine loop (g (bRt g)).toNat 0 N Y (by omega) (cz_fr hY (fun b j b1 b2 => t3 b j (by omega) (by omega) (by omega) (by omega))) hYo w4 (fun b j b1 b2 b3 b4 b5 => ?_)
  unfold csc at b4
  exact t3 b j (by omega) (by omega) (by omega) (by omega)
end CFD
