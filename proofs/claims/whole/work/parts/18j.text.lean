/-! TEXTS of puzzles: the class. -/
/-- a kind's name -/
def knm (k : Int) : List Int := wls (wrd (piK.getD k.toNat 0))
def tRule (R : PR) : List Int := [59, 114, 117, 108, 101, 32] ++ knm R.1 ++ (if hasN R.1 = true then 32 :: dgs R.2.1 else []) ++ R.2.2.flatMap (fun c => 32 :: dgs c)
def tGive (Z : PZ) (c : Nat) : List Int := if 0 ≤ Z.2.2.2.2.getD c (-1) then [59, 103, 105, 118, 101, 32] ++ dgs c ++ 32 :: dgs (Z.2.2.2.2.getD c (-1)) else []
def tText (Z : PZ) : List Int := [110, 101, 119, 32] ++ dgs Z.1 ++ 32 :: dgs Z.2.1 ++ 32 :: dgs Z.2.2.1 ++ Z.2.2.2.1.flatMap tRule ++ (List.range (Z.1 * Z.2.1).toNat).flatMap (tGive Z)
theorem fx_puz_out {p o : Nat} (Hp : fx_puz p) (Ho : fx_out o) : o + 1 < p := by
  unfold fx_puz at Hp
  unfold fx_out at Ho
  simp at Hp Ho
  omega
theorem cz_app {M : fx_M} {p o : Nat} {Z : PZ} {cs : List Int} (Hp : fx_puz p) (Ho : fx_out o) (hz : cz M p Z) : cz (o_app M o cs) p Z := by
  have hpo := fx_puz_out Hp Ho
  have f : ∀ (b : Nat) (j : Int), p ≤ b → (o_app M o cs) b j = M b j := fun b j hb => o_app_ne (by omega) (by omega)
  obtain ⟨z0, z1, z2, z3, z4, z5, z6, z7, z8, zw⟩ := hz
  refine ⟨by rw [f _ _ (by omega)]; exact z0, by rw [f _ _ (by omega)]; exact z1, by rw [f _ _ (by omega)]; exact z2, by rw [f _ _ (by omega)]; exact z3, by rw [f _ _ (by omega)]; exact z4, fun r R hR => ?_, fun c hc => by rw [f _ _ (by omega)]; exact z6 c hc, by rw [f _ _ (by omega)]; exact z7, by rw [f _ _ (by omega)]; exact z8, wys_fr zw (f _ _ (by omega)) (fun j => f _ _ (by omega))⟩
  obtain ⟨a1, a2, a3, a4, a5⟩ := z5 r R hR
  exact ⟨by rw [f _ _ (by omega)]; exact a1, by rw [f _ _ (by omega)]; exact a2, by rw [f _ _ (by omega)]; exact a3, fun i hi => by rw [f _ _ (by omega)]; exact a4 i hi, by rw [f _ _ (by omega)]; exact a5⟩
section TXT
variable {L : Nat} {xs : Nat → Int32} {d p o : Nat} {M : fx_M} {Q : Option fx_V → fx_M → Prop} {Z : PZ}
theorem sp_kindName {k : Int} (hk : 0 ≤ k ∧ k < 8) (K : ∀ (a : Nat) (bs : List Int32), fx_str (kcs L xs) a bs → bs.map Int32.toInt = knm k → Q (some (jR a)) M) : wc (kcs L xs) (d + 1) 71 [jI k] M Q := by
  refine s71 ⟨⟨by omega, by omega⟩, fun h => ?_, fun h => ?_, fun h => ?_, fun h => ?_, fun h => ?_, fun h => ?_, fun h => ?_, fun h => ?_⟩
  · subst h; exact K _ _ lt_1000041 (by decide +kernel)
  · subst h; exact K _ _ lt_1000043 (by decide +kernel)
  · subst h; exact K _ _ lt_1000045 (by decide +kernel)
  · subst h; exact K _ _ lt_1000047 (by decide +kernel)
  · subst h; exact K _ _ lt_1000049 (by decide +kernel)
  · subst h; exact K _ _ lt_1000051 (by decide +kernel)
  · subst h; exact K _ _ lt_1000053 (by decide +kernel)
  · have h7 : k = 7 := by omega
    subst h7
    exact K _ _ lt_1000055 (by decide +kernel)
theorem wrc_loop {R : PR} {r : Nat} (Hp : fx_puz p) (Ho : fx_out o) (ho : pz_ok Z) (hR : Z.2.2.2.1[r]? = some R) : ∀ (t i : Nat) (M : fx_M), i + t = R.2.2.length → cz M p Z → o_ok M o → Q none (o_app M o ((R.2.2.drop i).flatMap (fun c => 32 :: dgs c))) → wp (kcs L xs) (d + 2) 70 49 [some (jR p), some (jI r), some (jR o), some (jI i)] [] M Q := by
  have hRok := ho.2.2.2.2.2.2.2.1 R (List.mem_of_getElem? hR)
  have hrl := (List.getElem?_eq_some_iff.mp hR).1
  have h7 := ho.2.2.2.2.2.2.1
  have h9 := pz_n ho
  have h4 := hRok.2.2.2.2.2.1
  intro t
  induction t with
  | zero =>
    intro i M hi hz hO K
    obtain ⟨a1, a2, a3, a4, a5⟩ := hz.2.2.2.2.2.1 r R hR
    have e : R.2.2.drop i = [] := List.drop_eq_nil_of_le (by omega)
    rw [e] at K
    refine s70_49 Hp Ho ?_
    rw [a3]
    exact ⟨⟨by omega, by omega⟩, ⟨⟨by omega, by omega⟩, ⟨by omega, by omega⟩⟩, fun _ => K, fun h => by omega⟩
  | succ t ih =>
    intro i M hi hz hO K
    obtain ⟨a1, a2, a3, a4, a5⟩ := hz.2.2.2.2.2.1 r R hR
    have hlt : i < R.2.2.length := by omega
    have hmem : R.2.2[i] ∈ R.2.2 := List.getElem_mem hlt
    have hb := hRok.2.2.2.2.2.2.1 _ hmem
    have hg : R.2.2[i]? = some R.2.2[i] := List.getElem?_eq_getElem hlt
    have hd : R.2.2.drop i = R.2.2[i] :: R.2.2.drop (i + 1) := List.drop_eq_getElem_cons hlt
    have e1 : ((i + 1 : Nat) : Int) = (i : Int) + 1 := by omega
    rw [hd] at K
    have hz1 := cz_app (o := o) (cs := [32]) Hp Ho hz
    obtain ⟨b1, b2, b3, b4, b5⟩ := hz1.2.2.2.2.2.1 r R hR
    have bv : (o_app M o [32]) (p + 4) (4 * (r : Int) + i) = R.2.2[i] := by
      rw [b4 i (by omega), List.getD_eq_getElem?_getD, hg]
      rfl
    refine s70_49 Hp Ho ?_
    rw [a3]
    refine ⟨⟨by omega, by omega⟩, ⟨⟨by omega, by omega⟩, ⟨by omega, by omega⟩⟩, fun h => by omega, fun _ => sp_put Ho hO (by omega) ?_⟩
    show wp (kcs L xs) (d + 2) 70 65 [some (jR p), some (jI r), some (jR o), some (jI i)] [] (o_app M o [32]) Q
    refine s70_65 Hp Ho ⟨⟨by omega, by omega⟩, ?_⟩
    rw [bv]
    refine sp_number Ho (o_ok_app (cs := [32]) hO) (by omega) (by omega) (s70_79 Hp Ho ?_)
    rw [o_app_app]
    rw [List.flatMap_cons] at K
    have := ih (i + 1) (o_app M o ([32] ++ dgs R.2.2[i])) (by omega) (cz_app Hp Ho hz) (o_ok_app hO) (by
      rw [o_app_app]
      exact K)
    rw [e1] at this
    exact this
/-- writeRule -/
theorem sp_writeRule {R : PR} {r : Nat} (Hp : fx_puz p) (Ho : fx_out o) (ho : pz_ok Z) (hR : Z.2.2.2.1[r]? = some R) (hz : cz M p Z) (hO : o_ok M o) (K : Q none (o_app M o (tRule R))) : wc (kcs L xs) (d + 5) 70 [jR p, jI r, jR o] M Q := by
  have hRok := ho.2.2.2.2.2.2.2.1 R (List.mem_of_getElem? hR)
  have hrl := (List.getElem?_eq_some_iff.mp hR).1
  have h7 := ho.2.2.2.2.2.2.1
  refine s70 Hp Ho (sp_puts Ho lt_1000039 hO (s70_6 Hp Ho ⟨⟨by omega, by omega⟩, ?_⟩))
  have hz1 : ∀ cs, cz (o_app M o cs) p Z := fun cs => cz_app Hp Ho hz
  have k1 : ∀ cs, (o_app M o cs) (p + 1) (r : Int) = R.1 := fun cs => ((hz1 cs).2.2.2.2.2.1 r R hR).1
  have k2 : ∀ cs, (o_app M o cs) (p + 2) (r : Int) = R.2.1 := fun cs => ((hz1 cs).2.2.2.2.2.1 r R hR).2.1
  rw [k1]
  refine sp_kindName ⟨hRok.1, hRok.2.1⟩ (fun a bs hs hbs => s70_16 Hp Ho (sp_puts Ho hs (o_ok_app hO) ?_))
  rw [o_app_app, hbs]
  refine s70_19 Hp Ho ⟨⟨by omega, by omega⟩, ?_⟩
  rw [k1]
  have hk1 := hRok.1
  have hk2 := hRok.2.1
  have hin : fx_in32 R.1 := ⟨by omega, by omega⟩
  have eif : ∀ x : Int, (if x = 6 then (1 : Int) else (if x = 2 then (1 : Int) else (if x = 1 then (1 : Int) else (if x = 5 then (1 : Int) else 0)))) = if hasN x = true then 1 else 0 := by
    intro x
    unfold hasN
    by_cases h6 : x = 6
    · simp [h6]
    · by_cases h2 : x = 2
      · simp [h2]
      · by_cases h1 : x = 1
        · simp [h1]
        · by_cases h5 : x = 5
          · simp [h5]
          · simp [h6, h2, h1, h5]
  refine s46 ⟨hin, fun _ => hin, fun _ _ => hin, fun _ _ _ => hin, ⟨by (repeat' split) <;> omega, by (repeat' split) <;> omega⟩, ?_⟩
  rw [eif]
  unfold tRule at K
  by_cases hh : hasN R.1 = true
  · rw [if_pos hh] at K ⊢
    refine s70_28 Hp Ho ⟨i01.2, fun h => by omega, fun _ => sp_put Ho (o_ok_app hO) (by omega) ?_⟩
    show wp (kcs L xs) (d + 5) 70 37 [some (jR p), some (jI r), some (jR o), none] [] (o_app (o_app M o _) o [32]) Q
    rw [o_app_app]
    refine s70_37 Hp Ho ⟨⟨by omega, by omega⟩, ?_⟩
    rw [k2]
    refine sp_number Ho (o_ok_app hO) hRok.2.2.1 (by have := hRok.2.2.2.1; omega) (s70_47 Hp Ho ?_)
    rw [o_app_app]
    refine wrc_loop Hp Ho ho hR R.2.2.length 0 _ (by omega) (hz1 _) (o_ok_app hO) ?_
    rw [o_app_app, List.drop_zero]
    simpa using K
  · rw [if_neg hh] at K ⊢
    refine s70_28 Hp Ho ⟨i01.1, fun _ => ?_, fun h => absurd rfl h⟩
    refine wrc_loop Hp Ho ho hR R.2.2.length 0 _ (by omega) (hz1 _) (o_ok_app hO) ?_
    rw [o_app_app, List.drop_zero]
    simpa using K
theorem wrr_loop (Hp : fx_puz p) (Ho : fx_out o) (ho : pz_ok Z) : ∀ (t r : Nat) (M : fx_M), r + t = Z.2.2.2.1.length → cz M p Z → o_ok M o → (∀ M', M' = o_app M o ((Z.2.2.2.1.drop r).flatMap tRule) → wp (kcs L xs) (d + 6) 68 66 [some (jR p), some (jR o), some (jI 0)] [] M' Q) → wp (kcs L xs) (d + 6) 68 44 [some (jR p), some (jR o), some (jI r)] [] M Q := by
  have h7 := ho.2.2.2.2.2.2.1
  intro t
  induction t with
  | zero =>
    intro r M hr hz hO K
    have e : Z.2.2.2.1.drop r = [] := List.drop_eq_nil_of_le (by omega)
    rw [e] at K
    refine s68_44 Hp Ho ?_
    rw [hz.2.2.2.2.1]
    exact ⟨⟨⟨by omega, by omega⟩, ⟨by omega, by omega⟩⟩, fun _ => K M rfl, fun h => by omega⟩
  | succ t ih =>
    intro r M hr hz hO K
    have hlt : r < Z.2.2.2.1.length := by omega
    have hg : Z.2.2.2.1[r]? = some Z.2.2.2.1[r] := List.getElem?_eq_getElem hlt
    have hd : Z.2.2.2.1.drop r = Z.2.2.2.1[r] :: Z.2.2.2.1.drop (r + 1) := List.drop_eq_getElem_cons hlt
    have e1 : ((r + 1 : Nat) : Int) = (r : Int) + 1 := by omega
    refine s68_44 Hp Ho ?_
    rw [hz.2.2.2.2.1]
    refine ⟨⟨⟨by omega, by omega⟩, ⟨by omega, by omega⟩⟩, fun h => by omega, fun _ => sp_writeRule Hp Ho ho hg hz hO (s68_58 Hp Ho ?_)⟩
    have := ih (r + 1) (o_app M o (tRule Z.2.2.2.1[r])) (by omega) (cz_app Hp Ho hz) (o_ok_app hO) (fun M' hM' => K M' (by
      rw [hM', o_app_app, hd, List.flatMap_cons]))
    rw [e1] at this
    exact this
theorem wrg_loop (Hp : fx_puz p) (Ho : fx_out o) (ho : pz_ok Z) : ∀ (t c : Nat) (M : fx_M), (c : Int) + t = Z.1 * Z.2.1 → cz M p Z → o_ok M o → Q none (o_app M o ((List.range' c t).flatMap (tGive Z))) → wp (kcs L xs) (d + 5) 68 66 [some (jR p), some (jR o), some (jI c)] [] M Q := by
  have h9 := pz_n ho
  intro t
  induction t with
  | zero =>
    intro c M hc hz hO K
    refine s68_66 Hp Ho ?_
    rw [hz.2.2.1]
    exact ⟨⟨⟨by omega, by omega⟩, ⟨by omega, by omega⟩⟩, fun _ => K, fun h => by omega⟩
  | succ t ih =>
    intro c M hc hz hO K
    have e1 : ((c + 1 : Nat) : Int) = (c : Int) + 1 := by omega
    have hgv := hz.2.2.2.2.2.2.1 c (by omega)
    have hrange : (List.range' c (t + 1)).flatMap (tGive Z) = tGive Z c ++ (List.range' (c + 1) t).flatMap (tGive Z) := by
      rw [List.range'_succ]
      simp
    rw [hrange] at K
    have hgb : -1 ≤ Z.2.2.2.2.getD c (-1) ∧ Z.2.2.2.2.getD c (-1) < 4 := by
      have h9l := ho.2.2.2.2.2.2.2.2.1
      have hlt : c < Z.2.2.2.2.length := by omega
      have hm : Z.2.2.2.2.getD c (-1) ∈ Z.2.2.2.2 := by
        rw [List.getD_eq_getElem?_getD, List.getElem?_eq_getElem hlt]
        exact List.getElem_mem hlt
      have := ho.2.2.2.2.2.2.2.2.2.1 _ hm
      have := ho.2.2.2.2.2.1
      omega
    refine s68_66 Hp Ho ?_
    rw [hz.2.2.1, hgv]
    refine ⟨⟨⟨by omega, by omega⟩, ⟨by omega, by omega⟩⟩, fun h => by omega, fun _ => ⟨⟨by omega, by omega⟩, ⟨by omega, by omega⟩, fun hneg => ?_, fun hpos => ?_⟩⟩
    · have e0 : tGive Z c = [] := by
        unfold tGive
        rw [if_neg (by omega)]
      rw [e0] at K
      have := ih (c + 1) M (by omega) hz hO K
      rw [e1] at this
      exact this
    · have e0 : tGive Z c = [59, 103, 105, 118, 101, 32] ++ dgs c ++ 32 :: dgs (Z.2.2.2.2.getD c (-1)) := by
        unfold tGive
        rw [if_pos hpos]
      rw [e0] at K
      refine sp_puts Ho lt_1000057 hO (s68_89 Hp Ho (sp_number Ho (o_ok_app hO) (by omega) (by omega) ?_))
      rw [o_app_app]
      refine s68_94 Hp Ho (sp_put Ho (o_ok_app hO) (by omega) ?_)
      show wp (kcs L xs) (d + 5) 68 100 [some (jR p), some (jR o), some (jI c)] [] (o_app (o_app M o _) o [32]) Q
      rw [o_app_app]
      have hz2 : cz (o_app M o (([59, 103, 105, 118, 101, 32] : List Int32).map Int32.toInt ++ dgs c ++ [32])) p Z := cz_app Hp Ho hz
      refine s68_100 Hp Ho ⟨⟨by omega, by omega⟩, ?_⟩
      rw [hz2.2.2.2.2.2.2.1 c (by omega)]
      refine sp_number Ho (o_ok_app hO) hpos (by omega) (s68_110 Hp Ho ?_)
      rw [o_app_app]
      rw [← e1]
      refine ih (c + 1) _ (by omega) (cz_app Hp Ho hz) (o_ok_app hO) ?_
      rw [o_app_app]
      have e5 : (([59, 103, 105, 118, 101, 32] : List Int32).map Int32.toInt) = [59, 103, 105, 118, 101, 32] := by decide
      rw [e5]
      simpa using K
/-- write: a puzzle's text -/
theorem sp_write (Hp : fx_puz p) (Ho : fx_out o) (ho : pz_ok Z) (hz : cz M p Z) (hO : o_ok M o) (K : Q none (o_app M o (tText Z))) : wc (kcs L xs) (d + 6) 68 [jR p, jR o] M Q := by
  have h9 := pz_n ho
  obtain ⟨o1, o2, o3, o4, o5, o6, o7, o8, o9, o10, o11⟩ := ho
  have ho : pz_ok Z := ⟨o1, o2, o3, o4, o5, o6, o7, o8, o9, o10, o11⟩
  have hz1 : ∀ cs, cz (o_app M o cs) p Z := fun cs => cz_app Hp Ho hz
  refine s68 Hp Ho (sp_puts Ho lt_1000037 hO (s68_6 Hp Ho ?_))
  rw [(hz1 _).1]
  refine sp_number Ho (o_ok_app hO) (by omega) (by omega) (s68_14 Hp Ho ?_)
  rw [o_app_app]
  refine sp_put Ho (o_ok_app hO) (by omega) ?_
  show wp (kcs L xs) (d + 6) 68 20 [some (jR p), some (jR o), none] [] (o_app (o_app M o _) o [32]) Q
  rw [o_app_app]
  refine s68_20 Hp Ho ?_
  rw [(hz1 _).2.1]
  refine sp_number Ho (o_ok_app hO) (by omega) (by omega) (s68_28 Hp Ho ?_)
  rw [o_app_app]
  refine sp_put Ho (o_ok_app hO) (by omega) ?_
  show wp (kcs L xs) (d + 6) 68 34 [some (jR p), some (jR o), none] [] (o_app (o_app M o _) o [32]) Q
  rw [o_app_app]
  refine s68_34 Hp Ho ?_
  rw [(hz1 _).2.2.2.1]
  refine sp_number Ho (o_ok_app hO) (by omega) (by omega) (s68_42 Hp Ho ?_)
  rw [o_app_app]
  refine wrr_loop Hp Ho ho Z.2.2.2.1.length 0 _ (by omega) (hz1 _) (o_ok_app hO) (fun M' hM' => ?_)
  rw [hM', o_app_app]
  refine wrg_loop Hp Ho ho (Z.1 * Z.2.1).toNat 0 _ (by omega) (hz1 _) (o_ok_app hO) ?_
  rw [o_app_app, ← List.range_eq_range', List.drop_zero]
  have e4 : (([110, 101, 119, 32] : List Int32).map Int32.toInt) = [110, 101, 119, 32] := by decide
  rw [e4]
  unfold tText at K
  simpa using K
end TXT
