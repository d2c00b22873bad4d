/-! wrong entries, and whether a filling is an answer, both sides. -/
def wr1 (V : fx_M) (x : List Int) (c : Nat) : Nat := if 0 ≤ V 1 (9 * V 0 0 + c) ∧ V 1 (9 * V 0 0 + c) ≠ x.getD c 0 then 1 else 0
def wrr (V : fx_M) (x : List Int) : Nat → Nat → Nat
  | _, 0 => 0
  | c, t + 1 => wr1 V x c + wrr V x (c + 1) t
theorem wrr_le {V : fx_M} {x : List Int} : ∀ (t c : Nat), wrr V x c t ≤ t
  | 0, c => Nat.le_refl _
  | t + 1, c => by
    have := wrr_le (V := V) (x := x) t (c + 1)
    unfold wrr wr1
    split <;> omega
theorem wrr_9 {V : fx_M} {x : List Int} {Z : PZ} (ho : pz_ok Z) (hi : pv_in V Z) (hv : pv_ok V) : wrr V x 0 9 = wrr V x 0 (Z.1 * Z.2.1).toNat := by
  have h9 := pz_n ho
  have h0 := hv.1
  have h1 := hv.2.1
  have z : ∀ (t c : Nat), Z.1 * Z.2.1 ≤ (c : Int) → c + t ≤ 9 → wrr V x c t = 0 := fun t => by
    induction t with
    | zero => intro c _ _; rfl
    | succ t ih =>
      intro c hc hct
      have := (hi (V 0 0) c h0 h1 (by omega)).2
      unfold wrr wr1
      rw [ih (c + 1) (by omega) (by omega), if_neg (fun h => by have := (this h.1).1; omega)]
  have s : ∀ (t c : Nat), (c + t : Nat) = (Z.1 * Z.2.1).toNat → wrr V x c (t + (9 - (Z.1 * Z.2.1).toNat)) = wrr V x c t := fun t => by
    induction t with
    | zero =>
      intro c hc
      rw [Nat.zero_add, z _ _ (by omega) (by omega)]
      rfl
    | succ t ih =>
      intro c hc
      rw [show t + 1 + (9 - (Z.1 * Z.2.1).toNat) = (t + (9 - (Z.1 * Z.2.1).toNat)) + 1 by omega, wrr, wrr, ih (c + 1) (by omega)]
  have := s (Z.1 * Z.2.1).toNat 0 (by omega)
  rw [show (Z.1 * Z.2.1).toNat + (9 - (Z.1 * Z.2.1).toNat) = 9 by omega] at this
  exact this
def tWrong (Z : PZ) (V : fx_M) : List Int := if (ans Z).length = 1 then dgs (wrr V ((ans Z).getD 0 []) 0 (Z.1 * Z.2.1).toNat : Nat) else tNot1
section WRG
variable {kc : List va_E} {L : Nat} {xs : Nat → Int32} {d p : Nat} {Q : Option fx_V → fx_M → Prop} {Z : PZ} {V : fx_M}
theorem we_loop {M : fx_M} (hv : cpv M V) (hvo : pv_ok V) (hi : pv_in V Z) (ho : pz_ok Z) {v : Int} {S : Nat → Nat} {x : List Int} (hl : (x.length : Int) = Z.1 * Z.2.1) (hx : sta v S) (hS : ∀ i : Nat, i < x.length → S i = 2 ^ (x.getD i 0).toNat) (hxv : ∀ i : Nat, i < x.length → 0 ≤ x.getD i 0 ∧ x.getD i 0 < 4) : ∀ (t c n : Nat), c + t = 9 → n ≤ c → Q (some (jI ((n + wrr V x c t : Nat) : Int))) M → wp kc (d + 2) 102 5 [some (jR 53), some (jL v), none, some (jI n), some (jI c), none] [] M Q := by
  have h0 := hvo.1
  have h1 := hvo.2.1
  intro t
  induction t with
  | zero =>
    intro c n hc hn K
    exact s102_5 ⟨⟨by omega, by omega⟩, fun _ => K, fun h => by omega⟩
  | succ t ih =>
    intro c n hc hn K
    have he := hvo.2.2.1 (9 * V 0 0 + c) (by omega) (by omega)
    have e1 : M 54 (9 * M 53 0 + (c : Int)) = V 1 (9 * V 0 0 + c) := by
      rw [hv.1]
      exact hv.2 1 _ (by omega) (by omega) (by omega) (by show _ < (27 : Int); omega)
    have hin := (hi (V 0 0) c h0 h1 (by omega)).2
    refine s102_5 ⟨⟨by omega, by omega⟩, fun h => by omega, fun _ => ⟨?_, ?_, ?_, ?_⟩⟩
    · rw [hv.1]
      omega
    · rw [e1]
      exact ⟨by omega, by omega⟩
    · rw [e1]
      intro hneg
      have nx := ih (c + 1) n (by omega) (by omega) (by
        have : wrr V x c (t + 1) = wrr V x (c + 1) t := by
          rw [wrr, wr1, if_neg (fun h => by omega), Nat.zero_add]
        rw [this] at K
        exact K)
      rw [show ((c + 1 : Nat) : Int) = (c : Int) + 1 by omega] at nx
      rw [show (n : Int) + 0 = (n : Int) by omega]
      exact nx
    · rw [e1]
      intro hpos
      have hb := hin hpos
      have hcl : c < x.length := by omega
      have hxc := hxv c hcl
      refine sp_may hx ⟨by omega, by omega⟩ (by rw [Int.toNat_natCast, hS c hcl]; exact pow_16 ⟨(x.getD c 0).toNat, by omega⟩) (s102_41 ?_)
      rw [Int.toNat_natCast, hS c hcl]
      obtain ⟨e, ee⟩ : ∃ e : Nat, V 1 (9 * V 0 0 + c) = (e : Int) := ⟨(V 1 (9 * V 0 0 + c)).toNat, by omega⟩
      have hbit := sm_bit ⟨2 ^ (x.getD c 0).toNat, pow_16 ⟨(x.getD c 0).toNat, by omega⟩⟩ ⟨e, by omega⟩
      simp only at hbit
      rw [ee, hbit, pow_bit]
      refine ⟨by split <;> exact ⟨by omega, by omega⟩, ?_⟩
      have e3 : ((n : Int) + (if (if decide (e = (x.getD c 0).toNat) = true then (1 : Int) else 0) = 0 then (1 : Int) else 0)) = ((n + wr1 V x c : Nat) : Int) := by
        unfold wr1
        rw [ee]
        by_cases h : e = (x.getD c 0).toNat
        · rw [if_pos (decide_eq_true h), if_neg (by omega), if_neg (fun q => q.2 (by omega))]
          omega
        · rw [decide_eq_false h]
          simp only [Bool.false_eq_true, if_false, if_true]
          rw [if_pos ⟨by omega, by omega⟩]
          omega
      rw [e3]
      have hw1 : wr1 V x c ≤ 1 := by
        unfold wr1
        split <;> omega
      have nx := ih (c + 1) (n + wr1 V x c) (by omega) (by omega) (by
        rw [wrr] at K
        rw [Nat.add_assoc]
        exact K)
      rw [show ((c + 1 : Nat) : Int) = (c : Int) + 1 by omega] at nx
      exact nx
theorem sp_countWrong {M : fx_M} (ho : pz_ok Z) (hc : ckn M 11 Z) (hv : cpv M V) (hvo : pv_ok V) (hi : pv_in V Z) (hO : o_ok M 3) (K : Q none (o_app M 3 (tWrong Z V))) : wc (kcs L xs) (d + 15) 101 [jR 0] M Q := by
  have h9 := pz_n ho
  have hk := mnL_2 (a := (ans Z).length)
  refine s101 (sp_first puz11 hc.1 ho (fun v hs => s101_7 (sp_cnt (li := 2) ho hc ho zeq_rf hs ⟨by omega, by omega⟩ (s101_17 ⟨⟨by omega, by omega⟩, fun h => ?_, fun h => ?_⟩))))
  · have h1 := hk.1.mp h
    have hx := List.getElem?_eq_getElem (show 0 < (ans Z).length by omega)
    have hm : (ans Z)[0] ∈ ans Z := List.getElem_mem _
    have eg : (ans Z).getD 0 [] = (ans Z)[0] := by rw [List.getD_eq_getElem?_getD, hx]; rfl
    obtain ⟨xl, xv⟩ := ans_len hm
    unfold tWrong at K
    rw [if_pos h1, eg] at K
    refine sp_pick (n := 0) ho (s_first_ok ho) (s_first_ne ho) hc hs (x := (ans Z)[0]) (by rw [ansS_first ho]; exact hx) (fun w hw => s101_51 (s102 ?_))
    have hle := wrr_le (V := V) (x := (ans Z)[0]) 9 0
    refine we_loop hv hvo hi ho (x := (ans Z)[0]) (by omega) hw (fun i hi => by unfold rS; rw [if_pos hi]) (fun i hi => xv _ (getD_mem hi)) 9 0 0 (by omega) (by omega) (s101_54 ?_)
    rw [Nat.zero_add, wrr_9 ho hi hvo]
    rw [wrr_9 ho hi hvo] at hle
    exact sp_number out3 hO (by omega) (by omega) (s101_57 K)
  · have et : ([110, 111, 116, 32, 111, 110, 101] : List Int32).map Int32.toInt = tNot1 := by decide +kernel
    refine sp_puts out3 lt_1000083 hO (s101_31 ?_)
    rw [et]
    unfold tWrong at K
    rw [if_neg (fun e => h (hk.1.mpr e))] at K
    exact K
theorem mw_loop (ho : pz_ok Z) (hvo : pv_ok V) (hi : pv_in V Z) {M : fx_M} (hz : mz M 0 Z) (hv : mpv M V) {x : List Int} (hl : (x.length : Int) = Z.1 * Z.2.1) (hs : syA M x) (hxv : ∀ i : Nat, i < x.length → 0 ≤ x.getD i 0 ∧ x.getD i 0 < 4) : ∀ (t c n : Nat), (c : Int) + t = Z.1 * Z.2.1 → n ≤ c → wc kc (d + 2) 256 [jR 133, jI ((n + wrr V x c t : Nat) : Int)] M (fun v M1 => wp kc (d + 3) 331 99 [none, none, none] (v.toList ++ []) M1 Q) → wp kc (d + 3) 331 24 [some (jR 133), some (jI n), some (jI c)] [] M Q := by
  have h9 := pz_n ho
  have h0 := hvo.1
  have h1 := hvo.2.1
  intro t
  induction t with
  | zero =>
    intro c n hc hn K
    refine s331_24 (s248 (s331_29 ?_))
    rw [hz.1, hz.2.1]
    exact ⟨⟨⟨by omega, by omega⟩, ⟨by omega, by omega⟩⟩, fun _ => K, fun h => by omega⟩
  | succ t ih =>
    intro c n hc hn K
    have he := hvo.2.2.1 (9 * V 0 0 + c) (by omega) (by omega)
    have e1 : M 174 (9 * M 133 80 + (c : Int)) = V 1 (9 * V 0 0 + c) := by
      rw [hv.1]
      exact hv.2 1 _ (by omega) (by omega) (by omega) (by show _ < (27 : Int); omega)
    have hg := gv_b ho (c := c)
    have hin := (hi (V 0 0) c h0 h1 (by omega)).2
    have hxc := hxv c (by omega)
    have hsc := hs c (by omega)
    refine s331_24 (s248 (s331_29 ?_))
    rw [hz.1, hz.2.1]
    refine ⟨⟨⟨by omega, by omega⟩, ⟨by omega, by omega⟩⟩, fun h => by omega, fun _ => s271 ⟨⟨by omega, by omega⟩, s331_38 ?_⟩⟩
    rw [mz_gv hz (by omega), e1, hsc]
    refine ⟨⟨by omega, by omega⟩, fun _ => by rw [hv.1]; omega, fun _ => ⟨by omega, by omega⟩, fun _ _ => by rw [hv.1]; omega, fun _ _ => ⟨by omega, by omega⟩, fun _ _ => ⟨by omega, by omega⟩, fun _ _ => ⟨by omega, by omega⟩, ?_⟩
    have e3 : ((n : Int) + (if gv Z c < 0 then ((if V 1 (9 * V 0 0 + c) < 0 then (0 : Int) else (if V 1 (9 * V 0 0 + c) = x.getD c 0 then (0 : Int) else 1)) : Int) else 0)) = ((n + wr1 V x c : Nat) : Int) := by
      unfold wr1
      by_cases hp : 0 ≤ V 1 (9 * V 0 0 + c)
      · have hgn := (hin hp).2.1
        rw [if_pos (show gv Z c < 0 from hgn), if_neg (by omega)]
        by_cases e : V 1 (9 * V 0 0 + c) = x.getD c 0
        · rw [if_pos e, if_neg (fun q => q.2 e)]
          omega
        · rw [if_neg e, if_pos ⟨hp, e⟩]
          omega
      · have e5 : (if 0 ≤ V 1 (9 * V 0 0 + c) ∧ V 1 (9 * V 0 0 + c) ≠ x.getD c 0 then 1 else 0 : Nat) = 0 := if_neg (fun q => hp q.1)
        rw [e5]
        have e6 : V 1 (9 * V 0 0 + c) < 0 := by omega
        rw [if_pos e6]
        split <;> omega
    rw [e3]
    have hw1 : wr1 V x c ≤ 1 := by
      unfold wr1
      split <;> omega
    have nx := ih (c + 1) (n + wr1 V x c) (by omega) (by omega) (by
      rw [wrr] at K
      rw [Nat.add_assoc]
      exact K)
    rw [show ((c + 1 : Nat) : Int) = (c : Int) + 1 by omega] at nx
    exact nx
theorem mpv_159 {M N : fx_M} (hv : mpv M V) (hf : f159 M N) : mpv N V := ⟨by rw [hf 133 80 (by decide) (by decide)]; exact hv.1, fun i j i1 i8 j0 j1 => by
  have hb := pvM_b i1 i8
  rw [hf _ _ (by omega) (by omega)]
  exact hv.2 i j i1 i8 j0 j1⟩
theorem sp_sayWrong {M : fx_M} (ho : pz_ok Z) (hz : mz M 0 Z) (hv : mpv M V) (hvo : pv_ok V) (hi : pv_in V Z) (hO : m_ok M) (K : ∀ M', mwr M M' (tWrong Z V) → Q none M') : wc kc (d + 7) 331 [jR 133] M Q := by
  have h9 := pz_n ho
  have hk := mnL_2 (a := (ans Z).length)
  refine s331 (sp_countAnswers ho hz ⟨by omega, by omega⟩ (fun M1 f1 => s331_5 ⟨⟨by omega, by omega⟩, fun h => ?_, fun h => ?_⟩))
  · have h1 := hk.1.mp h
    have z1 := mz_f159 hz f1
    refine sp_seek1 ho z1 (fun M2 a tl e f2 m2 s2 => s331_19 ?_) (fun e => by rw [e] at h1; simp at h1)
    have hm : a ∈ ans Z := by
      rw [e]
      exact List.mem_cons_self ..
    obtain ⟨xl, xv⟩ := ans_len hm
    have f02 := f159_tr f1 f2
    have hle := wrr_le (V := V) (x := a) (Z.1 * Z.2.1).toNat 0
    refine mw_loop (d := d + 4) ho hvo hi m2.1 (mpv_159 hv f02) (x := a) (by omega) s2 (fun i hi => xv _ (getD_mem hi)) (Z.1 * Z.2.1).toNat 0 0 (by omega) (by omega) ?_
    have q2 := mwr_159 f02
    refine sp_sayNumber (mwr_ok q2 hO) (by omega) (by omega) (s331_99 (K _ ?_))
    have : tWrong Z V = dgs ((0 + wrr V a 0 (Z.1 * Z.2.1).toNat : Nat) : Int) := by
      unfold tWrong
      rw [if_pos h1, e, Nat.zero_add]
      rfl
    rw [this]
    exact mwr_tr q2 mwr_app
  · have q1 := mwr_159 f1
    have q2 := mwr_tr q1 (mwr_app (M := M1) (cs := tNot1))
    have : tWrong Z V = tNot1 := by
      unfold tWrong
      rw [if_neg (fun e => h (hk.1.mpr e))]
    rw [← this] at q2
    exact sp_sayNotOne (mwr_ok q1 hO) (s331_13 (K _ (by rw [← this]; exact q2)))
/-- isAnswer of the class, of a filling -/
theorem ia_loop {M : fx_M} (Hp : fx_puz p) (ho : pz_ok Z) (hc : ckn M p Z) {v : Int} {S : Nat → Nat} {x : List Int} (hl : (x.length : Int) = Z.1 * Z.2.1) (hs : s_ok Z S) (hx : sta v S) (hS : ∀ i : Nat, i < x.length → S i = 2 ^ (x.getD i 0).toNat) (hxv : ∀ i : Nat, i < x.length → 0 ≤ x.getD i 0 ∧ x.getD i 0 < Z.2.2.1) (K : Q (some (jI (bI (okx Z x)))) M) : ∀ (t c : Nat), (c : Int) + t = Z.1 * Z.2.1 → (∀ i : Nat, i < c → gv Z i = -1 ∨ gv Z i = x.getD i 0) → wp (kcs L xs) (d + 2) 131 2 [some (jR p), some (jL v), none, some (jI c)] [] M Q := by
  have h9 := pz_n ho
  have h4 := ho.2.2.2.2.2.1
  intro t
  induction t with
  | zero =>
    intro c hct hg
    refine s131_2 Hp ?_
    rw [hc.1.2.2.1, fx_shl_1 ⟨by omega, by omega⟩]
    have hpw : (2 : Nat) ^ (Z.1 * Z.2.1).toNat ≤ 2 ^ 9 := Nat.pow_le_pow_right (by decide) (by omega)
    have hpos : 0 < (2 : Nat) ^ (Z.1 * Z.2.1).toNat := Nat.pow_pos (by decide)
    simp only [Nat.reducePow] at hpw
    rw [show ((2 ^ (Z.1 * Z.2.1).toNat : Nat) : Int) - 1 = ((2 ^ (Z.1 * Z.2.1).toNat - 1 : Nat) : Int) by omega]
    refine ⟨⟨⟨by omega, by omega⟩, ⟨by omega, by omega⟩⟩, fun _ => sp_canMeet Hp hc ho hs hx (by omega) (s131_56 Hp ?_), fun h => by omega⟩
    have e : canA Z S (2 ^ (Z.1 * Z.2.1).toNat - 1) = okx Z x := by
      have hokS : okS Z S x = okx Z x := by
        rw [Bool.eq_iff_iff, okS_iff, okx_iff]
        apply and_congr_left
        intro _
        constructor
        · intro _ i hi
          exact ⟨(hxv i hi).2, hg i (by omega)⟩
        · intro _ i hi
          rw [hS i hi, pow_bit]
          exact decide_eq_true rfl
      rw [← hokS, Bool.eq_iff_iff]
      constructor
      · intro hcan
        have hE := canE_of ho (n := (Z.1 * Z.2.1).toNat) (by omega) hcan
        refine okS_iff.mpr ⟨fun i hi => by rw [hS i hi, pow_bit]; exact decide_eq_true rfl, fun R hR => ?_⟩
        obtain ⟨hcl, hn, -⟩ := rule_cells ho hR
        obtain ⟨f, hf1, hf2⟩ := (canM_f hn).mp (hE R hR)
        have : R.2.2.map f = selx x R.2.2 := by
          unfold selx
          apply List.map_congr_left
          intro b hb
          have h3 := sym4_mem.mp (hf1 b hb)
          have h4 := hcl b hb
          have h5 := hxv b.toNat (by omega)
          rw [hS b.toNat (by omega), pow_bit] at h3
          have h6 := of_decide_eq_true h3.2.2
          omega
        rw [← this]
        exact hf2
      · intro hok
        exact okS_can ho hok hl (fun i hi => ⟨(hxv i hi).1, by have := (hxv i hi).2; omega⟩) _
    rw [e]
    exact ⟨by unfold bI; split <;> omega, K⟩
  | succ t ih =>
    intro c hct hg
    have hgb := gv_b ho (c := c)
    have hxc := hxv c (by omega)
    have e6 : M (p + 6) (c : Int) = gv Z c := hc.1.2.2.2.2.2.2.1 c (by omega)
    have go : (gv Z c = -1 ∨ gv Z c = x.getD c 0) → wp (kcs L xs) (d + 2) 131 2 [some (jR p), some (jL v), none, some (jI ((c : Int) + 1))] [] M Q := fun h => by
      have nx := ih (c + 1) (by omega) (fun i hi => by
        by_cases e : i = c
        · rw [e]
          exact h
        · exact hg i (by omega))
      rw [show ((c + 1 : Nat) : Int) = (c : Int) + 1 by omega] at nx
      exact nx
    refine s131_2 Hp ?_
    rw [hc.1.2.2.1, e6]
    refine ⟨⟨⟨by omega, by omega⟩, ⟨by omega, by omega⟩⟩, fun h => by omega, fun _ => ⟨⟨by omega, by omega⟩, ⟨by omega, by omega⟩, fun hn => go (Or.inl (by omega)), fun hp => ?_⟩⟩
    refine sp_may hx ⟨by omega, by omega⟩ (by rw [Int.toNat_natCast, hS c (by omega)]; exact pow_16 ⟨(x.getD c 0).toNat, by omega⟩) (s131_24 Hp ?_)
    rw [Int.toNat_natCast, hS c (by omega), e6, fx_shl_1 ⟨by omega, by omega⟩]
    have hp1 := pow_16 ⟨(x.getD c 0).toNat, by omega⟩
    have hp2 := pow_16 ⟨(gv Z c).toNat, by omega⟩
    simp only at hp1 hp2
    refine ⟨⟨by omega, by omega⟩, ⟨⟨Int.le_trans (by omega) (Int.natCast_nonneg _), by omega⟩, ⟨Int.le_trans (by omega) (Int.natCast_nonneg _), by omega⟩⟩, fun he => go (Or.inr ?_), fun hne => ?_⟩
    · have : 2 ^ (x.getD c 0).toNat = 2 ^ (gv Z c).toNat := by exact_mod_cast he
      have := (Nat.pow_right_inj (by decide)).mp this
      omega
    · have : okx Z x = false := by
        rw [← Bool.not_eq_true]
        intro hk
        have := (okx_iff.mp hk).1 c (by omega)
        have h2 : gv Z c = -1 ∨ gv Z c = x.getD c 0 := this.2
        rcases h2 with h2 | h2
        · omega
        · exact hne (by rw [h2])
      rw [this] at K
      exact K
theorem sp_isAnswer {M : fx_M} (Hp : fx_puz p) (ho : pz_ok Z) (hc : ckn M p Z) {v : Int} {S : Nat → Nat} {x : List Int} (hl : (x.length : Int) = Z.1 * Z.2.1) (hs : s_ok Z S) (hx : sta v S) (hS : ∀ i : Nat, i < x.length → S i = 2 ^ (x.getD i 0).toNat) (hxv : ∀ i : Nat, i < x.length → 0 ≤ x.getD i 0 ∧ x.getD i 0 < Z.2.2.1) (K : Q (some (jI (bI (okx Z x)))) M) : wc (kcs L xs) (d + 2) 131 [jR p, jL v] M Q :=
  s131 Hp (ia_loop Hp ho hc hl hs hx hS hxv K (Z.1 * Z.2.1).toNat 0 (by have := pz_n ho; omega) (fun i h => by omega))
theorem mia_rules {M : fx_M} (ho : pz_ok Z) (hz : mz M 0 Z) {x : List Int} (hl : (x.length : Int) = Z.1 * Z.2.1) (hs : syA M x) (hxv : ∀ i : Nat, i < x.length → 0 ≤ x.getD i 0 ∧ x.getD i 0 < Z.2.2.1) (hg : ∀ i : Nat, i < x.length → gv Z i = -1 ∨ gv Z i = x.getD i 0) (K : Q (some (jI (bI (okx Z x)))) M) : ∀ (t r : Nat), r + t = Z.2.2.2.1.length → (∀ (q : Nat) (R : PR), q < r → Z.2.2.2.1[q]? = some R → met Z.1 R (selx x R.2.2) = true) → wp kc (d + 4) 353 42 [some (jR 133), some (jI r)] [] M Q := by
  have h9 := pz_n ho
  have h4 := ho.2.2.2.2.2.1
  have h12 := ho.2.2.2.2.2.2.1
  intro t
  induction t with
  | zero =>
    intro r hr hq
    refine s353_42 ?_
    rw [hz.2.2.2.1]
    refine ⟨⟨⟨by omega, by omega⟩, ⟨by omega, by omega⟩⟩, fun _ => ?_, fun h => by omega⟩
    have : okx Z x = true := okx_iff.mpr ⟨fun i hi => ⟨(hxv i hi).2, hg i hi⟩, fun R hR => by
      obtain ⟨q, hq1, rfl⟩ := List.mem_iff_getElem.mp hR
      exact hq q _ (by omega) (List.getElem?_eq_getElem hq1)⟩
    rw [this] at K
    exact K
  | succ t ih =>
    intro r hr hq
    have hrl : r < Z.2.2.2.1.length := by omega
    have hR := List.getElem?_eq_getElem hrl
    obtain ⟨hcl, -, -⟩ := rule_cells ho (List.getElem_mem hrl)
    refine s353_42 ?_
    rw [hz.2.2.2.1]
    refine ⟨⟨⟨by omega, by omega⟩, ⟨by omega, by omega⟩⟩, fun h => by omega, fun _ => ?_⟩
    have hx := mxs_selx (R := Z.2.2.2.1[r]) hs (fun c hc => by have := hcl c hc; omega)
    refine sp_mIsMet (mrl_of ho hz hR (fun c hc => ?_)) (s353_57 ?_)
    · have h1 := hcl c hc
      have h2 := hs c.toNat (by omega)
      rw [show ((c.toNat : Nat) : Int) = c by omega] at h2
      have h3 := hxv c.toNat (by omega)
      omega
    · rw [hx]
      unfold bI
      by_cases e : met Z.1 Z.2.2.2.1[r] (selx x (Z.2.2.2.1[r]).2.2) = true
      · rw [if_pos e]
        refine ⟨⟨by omega, by omega⟩, fun _ => ?_, fun h => by omega⟩
        have nx := ih (r + 1) (by omega) (fun q R hq2 hR2 => by
          by_cases eq : q = r
          · subst eq
            rw [hR] at hR2
            cases hR2
            exact e
          · exact hq q R (by omega) hR2)
        rw [show ((r + 1 : Nat) : Int) = (r : Int) + 1 by omega] at nx
        exact nx
      · rw [if_neg e]
        refine ⟨⟨by omega, by omega⟩, fun h => absurd rfl h, fun _ => ?_⟩
        have : okx Z x = false := by
          rw [← Bool.not_eq_true]
          intro hk
          exact e ((okx_iff.mp hk).2 _ (List.getElem_mem hrl))
        rw [this] at K
        exact K
theorem mia_loop {M : fx_M} (ho : pz_ok Z) (hz : mz M 0 Z) {x : List Int} (hl : (x.length : Int) = Z.1 * Z.2.1) (hs : syA M x) (hxv : ∀ i : Nat, i < x.length → 0 ≤ x.getD i 0 ∧ x.getD i 0 < Z.2.2.1) (K : Q (some (jI (bI (okx Z x)))) M) : ∀ (t c : Nat), (c : Int) + t = Z.1 * Z.2.1 → (∀ i : Nat, i < c → gv Z i = -1 ∨ gv Z i = x.getD i 0) → wp kc (d + 4) 353 2 [some (jR 133), some (jI c)] [] M Q := by
  have h9 := pz_n ho
  have h4 := ho.2.2.2.2.2.1
  intro t
  induction t with
  | zero =>
    intro c hct hg
    refine s353_2 (s248 (s353_7 ?_))
    rw [hz.1, hz.2.1]
    exact ⟨⟨⟨by omega, by omega⟩, ⟨by omega, by omega⟩⟩, fun _ => mia_rules ho hz hl hs hxv (fun i hi => hg i (by omega)) K Z.2.2.2.1.length 0 (by omega) (fun q R h => by omega), fun h => by omega⟩
  | succ t ih =>
    intro c hct hg
    have hgb := gv_b ho (c := c)
    have hxc := hxv c (by omega)
    have hsc := hs c (by omega)
    have go : (gv Z c = -1 ∨ gv Z c = x.getD c 0) → wp kc (d + 4) 353 2 [some (jR 133), some (jI ((c : Int) + 1))] [] M Q := fun h => by
      have nx := ih (c + 1) (by omega) (fun i hi => by
        by_cases e : i = c
        · rw [e]
          exact h
        · exact hg i (by omega))
      rw [show ((c + 1 : Nat) : Int) = (c : Int) + 1 by omega] at nx
      exact nx
    refine s353_2 (s248 (s353_7 ?_))
    rw [hz.1, hz.2.1]
    refine ⟨⟨⟨by omega, by omega⟩, ⟨by omega, by omega⟩⟩, fun h => by omega, fun _ => s271 ⟨⟨by omega, by omega⟩, s353_15 ?_⟩⟩
    rw [mz_gv hz (by omega)]
    refine ⟨⟨by omega, by omega⟩, fun hn => go (Or.inl (by omega)), fun hp => ⟨⟨by omega, by omega⟩, s271 ⟨⟨by omega, by omega⟩, s353_29 ?_⟩⟩⟩
    rw [mz_gv hz (by omega), hsc]
    refine ⟨⟨⟨by omega, by omega⟩, ⟨by omega, by omega⟩⟩, fun he => go (Or.inr he.symm), fun hne => ?_⟩
    have : okx Z x = false := by
      rw [← Bool.not_eq_true]
      intro hk
      have := (okx_iff.mp hk).1 c (by omega)
      have h2 : gv Z c = -1 ∨ gv Z c = x.getD c 0 := this.2
      omega
    rw [this] at K
    exact K
theorem sp_mIsAnswer {M : fx_M} (ho : pz_ok Z) (hz : mz M 0 Z) {x : List Int} (hl : (x.length : Int) = Z.1 * Z.2.1) (hs : syA M x) (hxv : ∀ i : Nat, i < x.length → 0 ≤ x.getD i 0 ∧ x.getD i 0 < Z.2.2.1) (K : Q (some (jI (bI (okx Z x)))) M) : wc kc (d + 4) 353 [jR 133] M Q :=
  s353 (mia_loop ho hz hl hs hxv K (Z.1 * Z.2.1).toNat 0 (by have := pz_n ho; omega) (fun i h => by omega))
end WRG
