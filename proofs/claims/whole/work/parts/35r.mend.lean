/-! REQUESTS, the class: mend, cut. -/
/-- whether a cut after a writings can be -/
def ctC (S : HS) (a : Int) : Prop := S.2.2.2.1 = 1 ∧ S.2.2.2.2.2 ≠ [] ∧ a ≤ S.2.2.2.2.2.length
noncomputable def rq_cut (g : Int → Int) (n p : Int) (S : HS) : Int × Int × List Int × HS := ((rBN g n 3 p 0).2.1, (rBN g n 3 p 0).2.2, @ite _ (ctC S (rBN g n 3 p 0).1) (Classical.propDecidable _) (t_ok, (S.1, S.2.1, S.2.2.1, 0, bCut S.2.2.2.2.1 (S.2.2.2.2.2.drop (rBN g n 3 p 0).1.toNat), S.2.2.2.2.2)) (t_no (wrd 41), S))
section RQR
variable {L : Nat} {xs : Nat → Int32} {d : Nat} {M : fx_M} {Q : Option fx_V → fx_M → Prop} {S : HS} {k : Nat}
theorem cw_mend {n p : Int} (h : cIn M n p 0) (hS : cRl M S) (hk : hOk k S) (K : ∀ M', cRl M' (fnR n S (rq_mend p S)).2 → ctx M' (fnR n S (rq_mend p S)).1 → cEnd M M' → Q none M') : wp (kcs L xs) (d + 25) 17 22 [some (jR 0), some (jI n), none] [jI 41] M Q := by
  refine cw_np (r := (rq_mend p S).2.2) ⟨by omega, by omega⟩ (by unfold lgV; omega) (by omega) h hS hk K (fun hSN h30 R hR => ⟨fun h => by omega, fun _ h => by omega, fun _ h => by omega, fun _ h => by omega, fun _ h => by omega, fun _ h => by omega, fun _ _ => ?_, fun _ _ _ h2 => absurd rfl h2⟩)
  have et : (rq_mend p S).2.2 = ((if mdB S.2.2.2.2.1 = 1 then t_ok else wls 1953460846), (S.1, S.2.1, S.2.2.1, mdB S.2.2.2.2.1, S.2.2.2.2.1, [])) := rfl
  rw [et] at hR
  obtain ⟨h1, ⟨Y, y1, y2⟩, h3, h4, h5, h6, h7⟩ := hSN
  refine s190 ⟨⟨by omega, by omega⟩, fun h => by omega, fun h => by omega, fun h => by omega, fun h => by omega, fun h => by omega, fun _ => ?_, fun h => by omega, fun h => by omega, fun h => by omega⟩
  refine sp_mend (d := d + 15) puz20 y1 y2 h6 hk.2.2.2.2.2.2.1 (fun M' X b x1 x2 x3 x4 x5 x6 => s190_267 ?_)
  have eb := mdB_e x6
  rw [eb] at hR
  have m30 : M' 3 1 = 0 := by rw [x3 3 1 (by omega) (by decide) (by decide) (by omega), h30]
  have hB : ∀ cs : List Int, cs.length ≤ 5600 → cRl (o_app M' 3 cs) (S.1, S.2.1, S.2.2.1, b, S.2.2.2.2.1, []) ∧ ctx (o_app M' 3 cs) cs ∧ cEnd (fx_up M 3 1 0) (o_app M' 3 cs) := fun cs hl => by
    have f : ∀ c j, c ≠ 3 → c ≠ 4 → ¬ (c = 125 ∧ (j = 1 ∨ j = 2)) → c ≠ 129 → c ≠ 132 → ¬ (20 ≤ c ∧ c ≤ 28) → (o_app M' 3 cs) c j = (fx_up M 3 1 0) c j := fun c j b1 b2 b3 b4 b5 b6 => by rw [o_app_ne b1 b2, x3 c j b3 b4 b5 (by omega)]
    refine ⟨⟨cz_fr h1 (fun c j b1 b2 => f c j (by omega) (by omega) (by omega) (by omega) (by omega) (by omega)), ⟨X, cz_fr x1 (fun c j b1 b2 => o_app_ne (by omega) (by omega)), x2⟩, cpv_fr h3 (fun c j b1 b2 => f c j (by omega) (by omega) (by omega) (by omega) (by omega) (by omega)), cct_fr h4 hk.2.2.2.2.1 (fun c j b1 => f c j (by omega) (by omega) (by omega) (by omega) (by omega) (by omega)), (o_app_ne (by decide) (by decide)).trans x4, ?_, ⟨(o_app_ne (by decide) (by decide)).trans x5, fun i x hi => by cases hi⟩⟩, ctx_app m30 hl, fun c j hc => f c j (by omega) (by omega) (by omega) (by omega) (by omega) (by omega)⟩
    show (o_app M' 3 cs) 126 = S.2.2.2.2.1
    rw [← h6]
    funext j
    exact f 126 j (by omega) (by omega) (by omega) (by omega) (by omega) (by omega)
  rcases x6 with ⟨e, -⟩ | ⟨e, -⟩
  · rw [if_pos e] at hR
    obtain ⟨r1, r2, r3⟩ := hB t_ok (by decide)
    refine ⟨⟨by omega, by omega⟩, fun h => by omega, fun _ => sp_puts (d := d + 19) fx_out3 lt_1000063 (ca_ok0 m30) (s190_282 ?_)⟩
    rw [t_ok_s]
    exact hR _ r1 r2 r3
  · rw [if_neg (by omega)] at hR
    have es : ([116, 111, 114, 110] : List Int32).map Int32.toInt = wls 1953460846 := by decide +kernel
    obtain ⟨r1, r2, r3⟩ := hB (wls 1953460846) (Nat.le_trans wls_8 (by omega))
    refine ⟨⟨by omega, by omega⟩, fun _ => sp_puts (d := d + 19) fx_out3 lt_1000173 (ca_ok0 m30) (s190_282 ?_), fun h => absurd e h⟩
    rw [es]
    exact hR _ r1 r2 r3
end RQR
