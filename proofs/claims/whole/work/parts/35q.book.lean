/-! REQUESTS, the class: find, list, mend. -/
/-- what asks the book while it is shut -/
def bkS (S : HS) (r : List Int × HS) : List Int × HS := if S.2.2.2.1 = 0 then (wls 1936225652, S) else r
noncomputable def rq_find (p : Int) (S : HS) : Int × Int × List Int × HS := (p, 0, bkS S (tFnd S.1 S.2.2.2.2.1 (S.2.2.2.2.1 (bRt S.2.2.2.2.1)).toNat ++ [46], S))
def rq_list (p : Int) (S : HS) : Int × Int × List Int × HS := (p, 0, bkS S (tLst S.2.2.2.2.1 (S.2.2.2.2.1 (bRt S.2.2.2.2.1)).toNat ++ [46], S))
/-- whether the book is right -/
noncomputable def mdB (g : Int → Int) : Int := @ite _ (bMd g) (Classical.propDecidable _) 1 0
noncomputable def rq_mend (p : Int) (S : HS) : Int × Int × List Int × HS := (p, 0, (if mdB S.2.2.2.2.1 = 1 then t_ok else wls 1953460846), (S.1, S.2.1, S.2.2.1, mdB S.2.2.2.2.1, S.2.2.2.2.1, []))
theorem mdB_e {b : Int} {g : Int → Int} (h : bYs b g) : mdB g = b := by
  unfold mdB
  rcases h with ⟨e, h⟩ | ⟨e, h⟩
  · rw [if_pos h, e]
  · rw [if_neg h, e]
theorem tLst_len {g : Int → Int} (hH : bHs g) : ∀ n : Nat, (n : Int) ≤ g (bRt g) → (tLst g n).length ≤ 9 * n
  | 0, _ => Nat.le_refl _
  | n + 1, h => by
    have := tLst_len hH n (by omega)
    have hh := (hH.2 n (by omega) (by omega)).2.2.2.2.1
    rw [tLst, List.length_append, List.length_append, List.length_singleton, bNm_len]
    omega
section RQQ
variable {L : Nat} {xs : Nat → Int32} {d : Nat} {M : fx_M} {Q : Option fx_V → fx_M → Prop} {S : HS} {k : Nat}
theorem cw_find {n p : Int} (h : cIn M n p 0) (hS : cRl M S) (hk : hOk k S) (K : ∀ M', cRl M' (fnR n S (rq_find p S)).2 → ctx M' (fnR n S (rq_find p S)).1 → cEnd M M' → Q none M') : wp (kcs L xs) (d + 25) 17 22 [some (jR 0), some (jI n), none] [jI 44] M Q := by
  refine cw_np (r := (rq_find p S).2.2) ⟨by omega, by omega⟩ (by unfold lgV; omega) (by omega) h hS hk K (fun hSN h30 R hR => ⟨fun h => by omega, fun _ h => by omega, fun _ h => by omega, fun _ h => by omega, fun _ h => by omega, fun _ h => by omega, fun _ ho => ?_, fun _ ho _ _ => ?_⟩)
  · have e1 : S.2.2.2.1 = 1 := by omega
    have ea : (rq_find p S).2.2 = (tFnd S.1 S.2.2.2.2.1 (S.2.2.2.2.1 (bRt S.2.2.2.2.1)).toNat ++ [46], S) := by
      unfold rq_find bkS
      rw [if_neg (by omega)]
    rw [ea] at hR
    have hM := hk.2.2.2.2.2.2.2.1 e1
    have hb := hk.2.2.2.2.2.2.1
    have hrb := bRt_b (g := S.2.2.2.2.1)
    have h0 := hb (bRt S.2.2.2.2.1) (by omega) (by omega)
    have h15 := hM.2.1
    have hl := tFnd_len (Z := S.1) (bMd_H hM) (S.2.2.2.2.1 (bRt S.2.2.2.2.1)).toNat (by omega)
    obtain ⟨Y, y1, y2⟩ := hSN.2.1
    refine s190 ⟨⟨by omega, by omega⟩, fun h => by omega, fun h => by omega, fun h => by omega, fun h => by omega, fun h => by omega, fun h => by omega, fun h => by omega, fun h => by omega, fun _ => ?_⟩
    refine sp_findSame (d := d + 15) hSN.1 hk.1 hk.2.1 y1 y2 hSN.2.2.2.2.2.1 hb hM (ca_ok0 h30) (fun M' X x1 x2 x3 => s190_303 ?_)
    have f : ∀ b j, b ≠ 3 → b ≠ 4 → b ≠ 129 → b ≠ 132 → ¬ (20 ≤ b ∧ b ≤ 28) → ¬ csc b → M' b j = (fx_up M 3 1 0) b j := fun b j b1 b2 b3 b4 b5 b6 => by rw [x3 b j b3 b4 b5 b6 (fun h => absurd h b1), o_app_ne b1 b2]
    refine hR M' (cRl_sp hSN hk.2.2.2.2.1 ⟨X, x1, x2⟩ (fun b j hb => f b j (by omega) (by omega) (by omega) (by omega) (by omega) (by unfold csc; omega))) (ctx_out h30 ?_ (x3 3 1 (by decide) (by decide) (by omega) csc_3 (fun _ => rfl)) (fun j => x3 4 j (by decide) (by decide) (by omega) csc_4 (fun h => by omega))) (fun b j hb => f b j (by omega) (by omega) (by omega) (by omega) (by omega) (by unfold csc; omega))
    show (tFnd S.1 S.2.2.2.2.1 (S.2.2.2.2.1 (bRt S.2.2.2.2.1)).toNat ++ [46]).length ≤ 5600
    rw [List.length_append, List.length_singleton]
    omega
  · have ea : (rq_find p S).2.2 = (wls 1936225652, S) := by
      unfold rq_find bkS
      rw [if_pos ho]
    rw [ea] at hR
    obtain ⟨r1, r2, r3⟩ := fi_wr (cs := wls 1936225652) hSN hk.2.2.2.2.1 h30 (Nat.le_trans wls_8 (by omega)) cwr_o
    exact hR _ r1 r2 r3
theorem cw_list {n p : Int} (h : cIn M n p 0) (hS : cRl M S) (hk : hOk k S) (K : ∀ M', cRl M' (fnR n S (rq_list p S)).2 → ctx M' (fnR n S (rq_list p S)).1 → cEnd M M' → Q none M') : wp (kcs L xs) (d + 25) 17 22 [some (jR 0), some (jI n), none] [jI 39] M Q := by
  refine cw_np (r := (rq_list p S).2.2) ⟨by omega, by omega⟩ (by unfold lgV; omega) (by omega) h hS hk K (fun hSN h30 R hR => ⟨fun h => by omega, fun _ h => by omega, fun _ h => by omega, fun _ h => by omega, fun _ h => by omega, fun _ h => by omega, fun _ ho => ?_, fun _ ho _ _ => ?_⟩)
  · have e1 : S.2.2.2.1 = 1 := by omega
    have ea : (rq_list p S).2.2 = (tLst S.2.2.2.2.1 (S.2.2.2.2.1 (bRt S.2.2.2.2.1)).toNat ++ [46], S) := by
      unfold rq_list bkS
      rw [if_neg (by omega)]
    rw [ea] at hR
    have hM := hk.2.2.2.2.2.2.2.1 e1
    have hb := hk.2.2.2.2.2.2.1
    have hg := hSN.2.2.2.2.2.1
    generalize S.2.2.2.2.1 = g at hM hb hg hR
    have hrb := bRt_b (g := g)
    have h0 := hb (bRt g) (by omega) (by omega)
    have h15 := hM.2.1
    have hH := bMd_H hM
    have hl := tLst_len hH (g (bRt g)).toNat (by omega)
    have hNE : bNE g = g (bRt g) := by
      unfold bNE
      rw [if_neg (by omega)]
    have hO := ca_ok0 h30
    refine s190 ⟨⟨by omega, by omega⟩, fun h => by omega, fun h => by omega, fun h => by omega, fun _ => ?_, fun h => by omega, fun h => by omega, fun h => by omega, fun h => by omega, fun h => by omega⟩
    have loop : ∀ (t i : Nat), (i : Int) + t = g (bRt g) → wp (kcs L xs) (d + 24) 190 173 [some (jR 0), none, some (jI i)] [] (o_app (fx_up M 3 1 0) 3 (tLst g i)) R := by
      intro t
      induction t with
      | zero =>
        intro i hi
        have hgN : (o_app (fx_up M 3 1 0) 3 (tLst g i)) 126 = g := by
          rw [← hg]
          funext j
          exact o_app_ne (by decide) (by decide)
        refine s190_173 (sp_entries (d := d + 21) hgN hb (s190_181 ?_))
        rw [hNE]
        refine ⟨⟨⟨by omega, by omega⟩, ⟨by omega, by omega⟩⟩, fun _ => sp_put (d := d + 22) fx_out3 (o_ok_app hO) ⟨by omega, by omega⟩ (s190_211 ?_), fun h => by omega⟩
        have e : o_put (o_app (fx_up M 3 1 0) 3 (tLst g i)) 3 46 = o_app (fx_up M 3 1 0) 3 (tLst g i ++ [46]) := by
          rw [← o_app_app]
          rfl
        rw [e]
        rw [show (g (bRt g)).toNat = i by omega] at hR hl
        obtain ⟨r1, r2, r3⟩ := fi_wr (cs := tLst g i ++ [46]) hSN hk.2.2.2.2.1 h30 (by rw [List.length_append, List.length_singleton]; omega) cwr_o
        exact hR _ r1 r2 r3
      | succ t ih =>
        intro i hi
        have hgN : (o_app (fx_up M 3 1 0) 3 (tLst g i)) 126 = g := by
          rw [← hg]
          funext j
          exact o_app_ne (by decide) (by decide)
        have nx := ih (i + 1) (by omega)
        rw [tLst, ← o_app_app, show ((i + 1 : Nat) : Int) = (i : Int) + 1 by omega] at nx
        refine s190_173 (sp_entries (d := d + 21) hgN hb (s190_181 ?_))
        rw [hNE]
        exact ⟨⟨⟨by omega, by omega⟩, ⟨by omega, by omega⟩⟩, fun h => by omega, fun _ => sp_writeName (d := d + 20) hgN hb (o_ok_app hO) (hH.2 i (by omega) (by omega)) (by omega) (s190_196 nx)⟩
    exact loop (g (bRt g)).toNat 0 (by omega)
  · have ea : (rq_list p S).2.2 = (wls 1936225652, S) := by
      unfold rq_list bkS
      rw [if_pos ho]
    rw [ea] at hR
    obtain ⟨r1, r2, r3⟩ := fi_wr (cs := wls 1936225652) hSN hk.2.2.2.2.1 h30 (Nat.le_trans wls_8 (by omega)) cwr_o
    exact hR _ r1 r2 r3
end RQQ
