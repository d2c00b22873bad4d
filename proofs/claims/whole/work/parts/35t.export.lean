/-! REQUESTS, the class: export. -/
def rq_export (p : Int) (S : HS) : Int × Int × List Int × HS := (p, 0, bkS S (tExp S.2.2.2.2.1, S))
theorem tExp_len {g : Int → Int} (hb : bk_b g) (hM : bMd g) : (tExp g).length ≤ 5500 := by
  have hrb := bRt_b (g := g)
  have h0 := hb (bRt g) (by omega) (by omega)
  have h15 := hM.2.1
  have h1 := (tExs_b (g := g) (n := (g (bRt g)).toNat) (fun i hi => ⟨(hM.2.2.2 i (by omega) (by omega)).1, bZ_ok hb (hM.2.2.2 i (by omega) (by omega))⟩)).1
  have h2 := wls_8 (w := wrd 56)
  have h3 := dgs_len (v := g (bRt g))
  have h4 := dgs_len (v := ckS 7 (tEx0 g))
  have h5 : (tEx0 g).length = (wls (wrd 56)).length + ((dgs (g (bRt g))).length + 1) + (tExs g (g (bRt g)).toNat).length + 1 := by
    unfold tEx0
    simp only [List.length_append, List.length_cons, List.length_nil]
  unfold tExp
  rw [List.length_append]
  omega
section RQT
variable {L : Nat} {xs : Nat → Int32} {d : Nat} {M : fx_M} {Q : Option fx_V → fx_M → Prop} {S : HS} {k : Nat}
theorem cw_export {n p : Int} (h : cIn M n p 0) (hS : cRl M S) (hk : hOk k S) (K : ∀ M', cRl M' (fnR n S (rq_export p S)).2 → ctx M' (fnR n S (rq_export p S)).1 → cEnd M M' → Q none M') : wp (kcs L xs) (d + 25) 17 22 [some (jR 0), some (jI n), none] [jI 42] M Q := by
  refine cw_np (r := (rq_export p S).2.2) ⟨by omega, by omega⟩ (by unfold lgV; omega) (by omega) h hS hk K (fun hSN h30 R hR => ⟨fun h => by omega, fun _ h => by omega, fun _ h => by omega, fun _ h => by omega, fun _ h => by omega, fun _ h => by omega, fun _ ho => ?_, fun _ ho _ _ => ?_⟩)
  · have e1 : S.2.2.2.1 = 1 := by omega
    have ea : (rq_export p S).2.2 = (tExp S.2.2.2.2.1, S) := by
      unfold rq_export bkS
      rw [if_neg (by omega)]
    rw [ea] at hR
    have hM := hk.2.2.2.2.2.2.2.1 e1
    have hb := hk.2.2.2.2.2.2.1
    have hrb := bRt_b (g := S.2.2.2.2.1)
    have h0 := hb (bRt S.2.2.2.2.1) (by omega) (by omega)
    obtain ⟨Y, y1, y2⟩ := hSN.2.1
    refine s190 ⟨⟨by omega, by omega⟩, fun h => by omega, fun h => by omega, fun h => by omega, fun h => by omega, fun h => by omega, fun h => by omega, fun _ => ?_, fun h => by omega, fun h => by omega⟩
    refine sp_exportBook (d := d + 15) hSN.2.2.2.2.2.1 hb hM (fun i hi => bZ_ok hb (hM.2.2.2 i (by omega) (by omega))) y1 y2 h30 (fun M' hm => s190_289 ?_)
    obtain ⟨x1, x3⟩ := hm
    have f : ∀ b j, b ≠ 3 → b ≠ 4 → b ≠ 129 → b ≠ 132 → ¬ (20 ≤ b ∧ b ≤ 28) → M' b j = (fx_up M 3 1 0) b j := fun b j b1 b2 b3 b4 b5 => by rw [x3 b j b3 b4 b5 (fun h => absurd h b1), o_app_ne b1 b2]
    exact hR M' (cRl_sp hSN hk.2.2.2.2.1 x1 (fun b j hb => f b j (by omega) (by omega) (by omega) (by omega) (by omega))) (ctx_out h30 (Nat.le_trans (tExp_len hb hM) (by omega)) (x3 3 1 (by decide) (by decide) (by omega) (fun _ => rfl)) (fun j => x3 4 j (by decide) (by decide) (by omega) (fun h => by omega))) (fun b j hb => f b j (by omega) (by omega) (by omega) (by omega) (by omega))
  · have ea : (rq_export p S).2.2 = (wls 1936225652, S) := by
      unfold rq_export bkS
      rw [if_pos ho]
    rw [ea] at hR
    obtain ⟨r1, r2, r3⟩ := fi_wr (cs := wls 1936225652) hSN hk.2.2.2.2.1 h30 (Nat.le_trans wls_8 (by omega)) cwr_o
    exact hR _ r1 r2 r3
end RQT
