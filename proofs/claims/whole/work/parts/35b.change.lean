/-! REQUESTS, the class: what changes the puzzle. -/
/-- the answer to a change of the puzzle: v the request, b the number of rules before, r the refusal -/
def tChg (v b r : Int) (Z : PZ) : List Int := if r = 0 then (if v = 1 then [114, 117, 108, 101, 32] ++ dgs b else if v = 2 then [114, 117, 108, 101, 115, 32] ++ dgs ((Z.2.2.2.1.length : Int) - b) else t_ok) else t_rf r
/-- the play behind a change -/
def vNew (r : Int) (V : fx_M) : fx_M := if r = 0 then pv_new V else V
theorem t_ok_s : ([111, 107] : List Int32).map Int32.toInt = t_ok := by decide +kernel
section RQB
variable {L : Nat} {xs : Nat → Int32} {d : Nat} {M : fx_M} {Q : Option fx_V → fx_M → Prop} {Z : PZ} {V : fx_M}
def chF (M M' : fx_M) (cs : List Int) : Prop := ∀ b j, ¬ (54 ≤ b ∧ b ≤ 57) → (b = 3 → j = 1) → M' b j = o_app M 3 cs b j
theorem cl_268 {v b : Int} (hv : fx_in32 v) (hb : 0 ≤ b ∧ b ≤ 12 ∧ (v = 2 → b ≤ Z.2.2.2.1.length)) (h12 : Z.2.2.2.1.length ≤ 12) (h4 : M 11 4 = Z.2.2.2.1.length) (hO : o_ok M 3) (K : Q none (o_app M 3 (tChg v b 0 Z))) : wp (kcs L xs) (d + 5) 66 268 [some (jR 0), some (jI v), some (jI b), none] [] M Q := by
  unfold tChg at K
  rw [if_pos rfl] at K
  refine s66_268 ⟨hv, fun n1 => ⟨hv, fun n2 => ?_, fun e2 => ?_⟩, fun e1 => ?_⟩
  · rw [if_neg n1, if_neg n2] at K
    refine sp_puts fx_out3 lt_1000063 hO (s66_338 ?_)
    rw [t_ok_s]
    exact K
  · rw [if_neg n1, if_pos e2] at K
    refine sp_puts fx_out3 lt_1000061 hO (s66_309 ?_)
    rw [o_app_ne (by decide) (by decide), h4]
    have hb2 := hb.2.2 e2
    refine sp_number fx_out3 (o_ok_app hO) (by omega) (by omega) (s66_325 ?_)
    rw [o_app_app]
    exact K
  · rw [if_pos e1] at K
    refine sp_puts fx_out3 lt_1000059 hO (s66_283 (sp_number fx_out3 (o_ok_app hO) hb.1 (by omega) (s66_291 ?_)))
    rw [o_app_app]
    exact K
theorem cl_232 {v b r : Int} {a : Nat} (hv : fx_in32 v) (hv6 : v ≠ 6) (hr : rfa a r) (hr5 : 0 ≤ r ∧ r ≤ 5) (hb : 0 ≤ b ∧ b ≤ 12 ∧ (v = 2 → r = 0 → b ≤ Z.2.2.2.1.length)) (ho : pz_ok Z) (hz : cz M 11 Z) (hp : cpv M V) (hO : o_ok M 3) (K : ∀ M', cz M' 11 Z → cpv M' (vNew r V) → chF M M' (tChg v b r Z) → Q none M') : wp (kcs L xs) (d + 5) 66 232 [some (jR 0), some (jI v), some (jI b), some (jR a)] [jI (if r = 0 then 1 else 0)] M Q := by
  have h12 := ho.2.2.2.2.2.2.1
  by_cases e : r = 0
  · subst e
    rw [if_pos rfl]
    have hv0 : vNew 0 V = pv_new V := by
      unfold vNew
      rw [if_pos rfl]
    rw [hv0] at K
    refine s66_232 ⟨⟨by omega, by omega⟩, fun _ => ⟨hv, fun _ => sp_pbegin (d := d + 3) hp (fun N n1 n2 => ?_), fun h => absurd h hv6⟩, fun h => by omega⟩
    have hzN : cz N 11 Z := cz_fr hz (fun c j c1 c2 => n2 c j (by omega))
    have e3 : N 3 1 = M 3 1 := n2 3 1 (by omega)
    have e4 : ∀ a, N 4 a = M 4 a := fun a => n2 4 a (by omega)
    refine cl_268 (d := d) hv ⟨hb.1, hb.2.1, fun h => hb.2.2 h rfl⟩ h12 hzN.2.2.2.2.1 (by unfold o_ok at hO ⊢; rw [e3]; exact hO) (K _ (cz_fr hzN (fun c j c1 c2 => o_app_ne (by omega) (by omega))) (cpv_fr n1 (fun c j c1 c2 => o_app_ne (by omega) (by omega))) (fun c j c1 c2 => o_app_fq e3 e4 (n2 c j c1) c2))
  · rw [if_neg e]
    obtain ⟨bs, b1, b2⟩ := rfa_str (L := L) (xs := xs) hr e
    have hv0 : vNew r V = V := by
      unfold vNew
      rw [if_neg e]
    have ht : tChg v b r Z = t_rf r := by
      unfold tChg
      rw [if_neg e]
    rw [hv0, ht] at K
    refine s66_232 ⟨⟨by omega, by omega⟩, fun h => absurd rfl h, fun _ => sp_puts fx_out3 b1 hO (s66_243 ?_)⟩
    rw [b2]
    exact K _ (cz_fr hz (fun c j c1 c2 => o_app_ne (by omega) (by omega))) (cpv_fr hp (fun c j c1 c2 => o_app_ne (by omega) (by omega))) (fun c j c1 c2 => rfl)
end RQB
