/-! Hints: the standing of play, the supported symbols of a rule's cell, both sides. -/
/-- the standing of the person who plays -/
def s_play (Z : PZ) (V : fx_M) : Nat → Nat := fun c => if (c : Int) < Z.1 * Z.2.1 ∧ 0 ≤ V 1 (9 * V 0 0 + c) then 2 ^ (V 1 (9 * V 0 0 + c)).toNat else s_first Z c
def s_plk (Z : PZ) (V : fx_M) (k : Nat) : Nat → Nat := fun c => if c < k then s_play Z V c else s_first Z c
theorem s_play_ok {Z : PZ} {V : fx_M} (ho : pz_ok Z) (hv : pv_ok V) (hi : pv_in V Z) : s_ok Z (s_play Z V) := fun c hc => by
  have h9 := pz_n ho
  unfold s_play
  by_cases h : (c : Int) < Z.1 * Z.2.1 ∧ 0 ≤ V 1 (9 * V 0 0 + c)
  · rw [if_pos h]
    have hin := ((hi (V 0 0) c hv.1 hv.2.1 (by omega)).2 h.2).2.2
    exact ⟨fun _ => Nat.pow_lt_pow_right (by decide) (by omega), fun h2 => by omega⟩
  · rw [if_neg h]
    exact s_first_ok ho c hc
theorem s_play_nb {Z : PZ} {V : fx_M} (ho : pz_ok Z) : ¬ brk Z (s_play Z V) := fun h => by
  obtain ⟨c, h1, h2⟩ := brk_iff.mp h
  unfold s_play at h2
  split at h2
  · have : 0 < 2 ^ (V 1 (9 * V 0 0 + c)).toNat := Nat.pow_pos (by decide)
    omega
  · exact s_first_ne ho c h1 h2
section PLS
variable {kc : List va_E} {L : Nat} {xs : Nat → Int32} {d : Nat} {Q : Option fx_V → fx_M → Prop} {Z : PZ} {V : fx_M}
theorem pls_loop (ho : pz_ok Z) {M : fx_M} (hz : cz M 11 Z) (hv : cpv M V) (hvo : pv_ok V) (hi : pv_in V Z) (K : ∀ v, sta v (s_play Z V) → Q (some (jL v)) M) : ∀ (t c : Nat) (v : Int), (c : Int) + t = Z.1 * Z.2.1 → sta v (s_plk Z V c) → wp kc (d + 2) 136 8 [some (jR 53), some (jR 11), some (jL v), none, some (jI c), none] [] M Q := by
  have h9 := pz_n ho
  have h0 := hvo.1
  have h1 := hvo.2.1
  intro t
  induction t with
  | zero =>
    intro c v hc hs
    refine s136_8 puz11 ?_
    rw [hz.2.2.1]
    refine ⟨⟨⟨by omega, by omega⟩, ⟨by omega, by omega⟩⟩, fun _ => K v (sta_ext hs (fun k hk => ?_)), fun h => by omega⟩
    unfold s_plk
    by_cases e : k < c
    · rw [if_pos e]
    · rw [if_neg e]
      unfold s_play
      rw [if_neg (fun h => by omega)]
  | succ t ih =>
    intro c v hc hs
    have he := hvo.2.2.1 (9 * V 0 0 + c) (by omega) (by omega)
    have e1 : M 54 (9 * M 53 0 + (c : Int)) = V 1 (9 * V 0 0 + c) := by
      rw [hv.1]
      exact hv.2 1 _ (by omega) (by omega) (by omega) (by show _ < (27 : Int); omega)
    have hin := (hi (V 0 0) c h0 h1 (by omega)).2
    refine s136_8 puz11 ?_
    rw [hz.2.2.1, e1]
    refine ⟨⟨⟨by omega, by omega⟩, ⟨by omega, by omega⟩⟩, fun h => by omega, fun _ => ⟨by rw [hv.1]; omega, ⟨by omega, by omega⟩, fun hn => ?_, fun hp => ?_⟩⟩
    · have nx := ih (c + 1) v (by omega) (sta_ext hs (fun k hk => by
        unfold s_plk
        by_cases e : k = c
        · subst e
          rw [if_neg (by omega), if_pos (by omega)]
          unfold s_play
          rw [if_neg (fun h => by omega)]
        · by_cases e2 : k < c
          · rw [if_pos e2, if_pos (by omega)]
          · rw [if_neg e2, if_neg (by omega)]))
      rw [show ((c + 1 : Nat) : Int) = (c : Int) + 1 by omega] at nx
      exact nx
    · refine sp_only hs ⟨by omega, by omega⟩ ⟨by omega, by omega⟩ (fun w hw => s136_47 puz11 ?_)
      rw [Int.toNat_natCast] at hw
      have nx := ih (c + 1) w (by omega) (sta_ext hw (fun k hk => by
        unfold s_only s_plk
        by_cases e : k = c
        · subst e
          rw [if_pos rfl, if_pos (by omega)]
          unfold s_play
          rw [if_pos ⟨by omega, hp⟩]
        · rw [if_neg e]
          by_cases e2 : k < c
          · rw [if_pos e2, if_pos (by omega)]
          · rw [if_neg e2, if_neg (by omega)]))
      rw [show ((c + 1 : Nat) : Int) = (c : Int) + 1 by omega] at nx
      exact nx
theorem sp_standing (ho : pz_ok Z) {M : fx_M} (hz : cz M 11 Z) (hv : cpv M V) (hvo : pv_ok V) (hi : pv_in V Z) (K : ∀ v, sta v (s_play Z V) → Q (some (jL v)) M) : wc kc (d + 3) 136 [jR 53, jR 11] M Q := by
  refine s136 puz11 (sp_first puz11 hz ho (fun v hs => s136_4 puz11 (pls_loop (d := d + 1) ho hz hv hvo hi K (Z.1 * Z.2.1).toNat 0 v (by have := pz_n ho; omega) (sta_ext hs (fun k hk => ?_)))))
  unfold s_plk
  rw [if_neg (by omega)]
theorem sfp_loop (ho : pz_ok Z) {M0 : fx_M} (hv0 : mpv M0 V) (hvo : pv_ok V) (hi : pv_in V Z) (K : ∀ M', mst' M' Z (s_play Z V) → (∀ b j, b ≠ 156 → M' b j = M0 b j) → Q none M') : ∀ (t c : Nat) (M : fx_M), (c : Int) + t = Z.1 * Z.2.1 → mz M 0 Z → mst' M Z (s_plk Z V c) → (∀ b j, b ≠ 156 → M b j = M0 b j) → wp kc (d + 2) 294 6 [some (jR 133), some (jI c)] [] M Q := by
  have h9 := pz_n ho
  have h0 := hvo.1
  have h1 := hvo.2.1
  intro t
  induction t with
  | zero =>
    intro c M hc hz hm hf
    refine s294_6 (s248 (s294_11 ?_))
    rw [hz.1, hz.2.1]
    refine ⟨⟨⟨by omega, by omega⟩, ⟨by omega, by omega⟩⟩, fun _ => K M (fun k hk => ?_) hf, fun h => by omega⟩
    rw [hm k hk]
    unfold s_plk
    rw [if_pos (by omega)]
  | succ t ih =>
    intro c M hc hz hm hf
    have he := hvo.2.2.1 (9 * V 0 0 + c) (by omega) (by omega)
    have e1 : M 174 (9 * M 133 80 + (c : Int)) = V 1 (9 * V 0 0 + c) := by
      rw [hf 133 _ (by decide), hf 174 _ (by decide), hv0.1]
      exact hv0.2 1 _ (by omega) (by omega) (by omega) (by show _ < (27 : Int); omega)
    have e80 : M 133 80 = V 0 0 := by rw [hf 133 _ (by decide)]; exact hv0.1
    have hg := gv_b ho (c := c)
    have hin := (hi (V 0 0) c h0 h1 (by omega)).2
    have same : ¬ 0 ≤ V 1 (9 * V 0 0 + c) → wp kc (d + 2) 294 6 [some (jR 133), some (jI ((c : Int) + 1))] [] M Q := fun hn => by
      have nx := ih (c + 1) M (by omega) hz (fun k hk => by
        rw [hm k hk]
        unfold s_plk
        by_cases e : k = c
        · subst e
          rw [if_neg (by omega), if_pos (by omega)]
          unfold s_play
          rw [if_neg (fun h => hn h.2)]
        · by_cases e2 : k < c
          · rw [if_pos e2, if_pos (by omega)]
          · rw [if_neg e2, if_neg (by omega)]) hf
      rw [show ((c + 1 : Nat) : Int) = (c : Int) + 1 by omega] at nx
      exact nx
    refine s294_6 (s248 (s294_11 ?_))
    rw [hz.1, hz.2.1]
    refine ⟨⟨⟨by omega, by omega⟩, ⟨by omega, by omega⟩⟩, fun h => by omega, fun _ => s271 ⟨⟨by omega, by omega⟩, s294_19 ?_⟩⟩
    rw [mz_gv hz (by omega), e1, e80]
    refine ⟨⟨by omega, by omega⟩, fun hp => same (fun h => ?_), fun hn => ⟨⟨by omega, by omega⟩, ⟨by omega, by omega⟩, fun hneg => same (by omega), fun hpos => ⟨⟨by omega, by omega⟩, ⟨by omega, by omega⟩, ?_⟩⟩⟩
    · have : gv Z c < 0 := (hin h).2.1
      omega
    · rw [fx_shl_1 ⟨by omega, by omega⟩]
      have nx := ih (c + 1) (fx_up M 156 (c : Int) ((2 ^ (V 1 (9 * V 0 0 + c)).toNat : Nat) : Int)) (by omega) (mz_frM hz (fun b j h1 h2 => fx_up_na (by omega))) (fun k hk => by
        unfold s_plk
        by_cases e : k = c
        · subst e
          rw [fx_up_self, if_pos (by omega)]
          unfold s_play
          rw [if_pos ⟨by omega, hpos⟩]
        · rw [fx_up_nk (by omega), hm k hk]
          unfold s_plk
          by_cases e2 : k < c
          · rw [if_pos e2, if_pos (by omega)]
          · rw [if_neg e2, if_neg (by omega)]) (fun b j hb => by rw [fx_up_na hb]; exact hf b j hb)
      rw [show ((c + 1 : Nat) : Int) = (c : Int) + 1 by omega] at nx
      exact nx
theorem sp_standForPlay (ho : pz_ok Z) {M : fx_M} (hz : mz M 0 Z) (hv : mpv M V) (hvo : pv_ok V) (hi : pv_in V Z) (K : ∀ M', mst' M' Z (s_play Z V) → (∀ b j, b ≠ 156 → M' b j = M b j) → Q none M') : wc kc (d + 3) 294 [jR 133] M Q := by
  refine s294 (sp_stand ho hz (fun M1 m1 f1 => s294_4 ?_))
  have v1 : mpv M1 V := ⟨by rw [f1 _ _ (by decide)]; exact hv.1, fun i j i1 i8 j0 j1 => by
    have hb := pvM_b i1 i8
    rw [f1 _ _ (by omega)]
    exact hv.2 i j i1 i8 j0 j1⟩
  refine sfp_loop (d := d + 1) (M0 := M1) ho v1 hvo hi (fun M' m' f' => K M' m' (fun b j hb => by rw [f' b j hb, f1 b j hb])) (Z.1 * Z.2.1).toNat 0 M1 (by have := pz_n ho; omega) (mz_frM hz (fun b j h1 h2 => f1 b j (by omega))) (fun k hk => ?_) (fun _ _ _ => rfl)
  rw [m1 k hk]
  unfold s_plk
  rw [if_neg (by omega)]
end PLS
/-- four marks as a set -/
def bit4 (a b c e : Bool) : Nat := (if a then 1 else 0) + (if b then 2 else 0) + (if c then 4 else 0) + (if e then 8 else 0)
theorem bit4_all : ∀ a b c e : Bool, bit4 a b c e < 16 ∧ (bit4 a b c e).testBit 0 = a ∧ (bit4 a b c e).testBit 1 = b ∧ (bit4 a b c e).testBit 2 = c ∧ (bit4 a b c e).testBit 3 = e := by decide +kernel
/-- the supported symbols of a rule's cell -/
def spm (w : Int) (R : PR) (S : Nat → Nat) (i : Nat) : Nat := bit4 (sup w R S i 0) (sup w R S i 1) (sup w R S i 2) (sup w R S i 3)
theorem spm_16 {w : Int} {R : PR} {S : Nat → Nat} {i : Nat} : spm w R S i < 16 := (bit4_all _ _ _ _).1
theorem spm_bit {w : Int} {R : PR} {S : Nat → Nat} {i y : Nat} (hy : y < 4) : (spm w R S i).testBit y = sup w R S i y := by
  have h := bit4_all (sup w R S i 0) (sup w R S i 1) (sup w R S i 2) (sup w R S i 3)
  have hy : y = 0 ∨ y = 1 ∨ y = 2 ∨ y = 3 := by omega
  unfold spm
  rcases hy with rfl | rfl | rfl | rfl
  · exact h.2.1
  · exact h.2.2.1
  · exact h.2.2.2.1
  · exact h.2.2.2.2
theorem eq16 {a b : Nat} (ha : a < 16) (hb : b < 16) (h : ∀ y, y < 4 → a.testBit y = b.testBit y) : a = b := by
  apply Nat.eq_of_testBit_eq
  intro i
  by_cases hi : i < 4
  · exact h i hi
  · have h1 : (16 : Nat) ≤ 2 ^ i := Nat.pow_le_pow_right (n := 2) (i := 4) (by decide) (by omega)
    rw [Nat.testBit_lt_two_pow (Nat.lt_of_lt_of_le ha h1), Nat.testBit_lt_two_pow (Nat.lt_of_lt_of_le hb h1)]
/-- what is supported stands in the cell -/
theorem spm_sub {w : Int} {R : PR} {S : Nat → Nat} (hn : R.2.2.Nodup) {i y : Nat} (hi : i < R.2.2.length) (hy : y < 4) (h : (spm w R S i).testBit y = true) : (S (R.2.2.getD i 0).toNat).testBit y = true := by
  rw [spm_bit hy] at h
  obtain ⟨f, h1, h2⟩ := (sup_f hn hi).mp h
  have h3 := sym4_mem.mp (h1.1 _ (getD_mem hi))
  rw [h2, Int.toNat_natCast] at h3
  exact h3.2.2
def tCant : List Int := wls 426836371316
def tHn (c : Int) (y r : Nat) : List Int := wls (wrd 13) ++ 32 :: dgs c ++ 32 :: dgs (y : Int) ++ 32 :: dgs (r : Int)
/-- the cells of a rule from place i on -/
def hn1 (Z : PZ) (R : PR) (S : Nat → Nat) (r : Nat) : List Int → Nat → Option (List Int)
  | [], _ => none
  | c :: t, i => if spm Z.1 R S i = 0 then some tCant else if pop4 (spm Z.1 R S i) ≤ 1 ∧ 2 ≤ pop4 (S c.toNat) then some (tHn c (lowb (spm Z.1 R S i)) r) else hn1 Z R S r t (i + 1)
def hnR (Z : PZ) (S : Nat → Nat) : List PR → Nat → List Int
  | [], _ => wls 1852796517
  | R :: t, r => match hn1 Z R S r R.2.2 0 with
    | some x => x
    | none => hnR Z S t (r + 1)
theorem one_ne : ∀ m s : Fin 16, (m : Nat) ≠ 0 → (∀ y : Fin 4, (m : Nat).testBit (y : Nat) = true → (s : Nat).testBit (y : Nat) = true) → (pop4 (m : Nat) ≤ 1 ∧ 2 ≤ pop4 (s : Nat) ↔ pop4 (m : Nat) = 1 ∧ (m : Nat) ≠ (s : Nat)) := by decide +kernel
section HNT
variable {kc : List va_E} {L : Nat} {xs : Nat → Int32} {d : Nat} {Q : Option fx_V → fx_M → Prop} {Z : PZ} {S : Nat → Nat}
theorem ch_cell (ho : pz_ok Z) {M : fx_M} (hc : ckn M 11 Z) (hO : o_ok M 3) (hs : s_ok Z S) {v : Int} (hv : sta v S) {R : PR} {r : Nat} (hR : Z.2.2.2.1[r]? = some R) {f : Nat} (hf : f < 65536) (hfb : ∀ i y : Nat, i < 4 → y < 4 → f.testBit (4 * i + y) = sup Z.1 R S i y) (K1 : ∀ x, hn1 Z R S r R.2.2 0 = some x → Q none (o_app M 3 x)) (K0 : hn1 Z R S r R.2.2 0 = none → wp (kcs L xs) (d + 5) 137 2 [some (jR 31), some (jL v), none, some (jI ((r : Int) + 1)), none, none, none, none] [] M Q) : ∀ (t i : Nat), i + t = R.2.2.length → hn1 Z R S r R.2.2 0 = hn1 Z R S r (R.2.2.drop i) i → wp (kcs L xs) (d + 5) 137 27 [some (jR 31), some (jL v), none, some (jI r), some (jI f), some (jI i), none, none] [] M Q := by
  obtain ⟨hRo, hr12⟩ := rule_in ho hR
  have h9 := pz_n ho
  have l4 := hRo.2.2.2.2.2.1
  have hn := hRo.2.2.2.2.2.2.2
  obtain ⟨a1, a2, a3, a4, a5⟩ := hc.1.2.2.2.2.2.1 r R hR
  intro t
  induction t with
  | zero =>
    intro i hi he
    refine s137_27 ?_
    rw [show M 14 (r : Int) = R.2.2.length from a3]
    refine ⟨⟨by omega, by omega⟩, ⟨⟨by omega, by omega⟩, ⟨by omega, by omega⟩⟩, fun _ => K0 ?_, fun h => by omega⟩
    rw [he, List.drop_eq_nil_of_le (by omega)]
    rfl
  | succ t ih =>
    intro i hi he
    have hil : i < R.2.2.length := by omega
    have hcb := hRo.2.2.2.2.2.2.1 _ (getD_mem hil)
    obtain ⟨cn, ecn⟩ : ∃ cn : Nat, R.2.2.getD i 0 = (cn : Int) := ⟨(R.2.2.getD i 0).toNat, by omega⟩
    have e15 : M 15 (4 * (r : Int) + (i : Int)) = (cn : Int) := by
      have := a4 i (by omega)
      rw [show M 15 (4 * (r : Int) + (i : Int)) = R.2.2.getD i 9 from this, ← ecn, List.getD_eq_getElem?_getD, List.getD_eq_getElem?_getD, List.getElem?_eq_getElem hil]
      rfl
    have h16 := s_ok_16 ho hs (c := cn) (by omega)
    obtain ⟨m, hm16, em, hmb⟩ := nib_sh hf (show i < 4 by omega)
    have hmS : m = spm Z.1 R S i := eq16 hm16 spm_16 (fun y hy => by rw [hmb y hy, hfb i y (by omega) hy, spm_bit hy])
    rw [drop_consD hil, hn1, ecn, Int.toNat_natCast] at he
    rw [← hmS] at he
    have hsub : ∀ y : Fin 4, m.testBit (y : Nat) = true → (S cn).testBit (y : Nat) = true := fun y hy => by
      have := spm_sub (w := Z.1) (S := S) hn hil y.2 (by rw [← hmS]; exact hy)
      rw [ecn, Int.toNat_natCast] at this
      exact this
    refine s137_27 ?_
    rw [show M 14 (r : Int) = R.2.2.length from a3, e15, em]
    refine ⟨⟨by omega, by omega⟩, ⟨⟨by omega, by omega⟩, ⟨by omega, by omega⟩⟩, fun h => by omega, fun _ => ⟨⟨by omega, by omega⟩, ⟨by omega, by omega⟩, fun hne => ?_, fun h0 => ?_⟩⟩
    · have hm0 : m ≠ 0 := by omega
      have hone := one_ne ⟨m, hm16⟩ ⟨S cn, h16⟩ hm0 hsub
      simp only at hone
      rw [if_neg hm0] at he
      have go : ¬ (pop4 m = 1 ∧ m ≠ S cn) → wp (kcs L xs) (d + 5) 137 27 [some (jR 31), some (jL v), none, some (jI r), some (jI f), some (jI ((i : Int) + 1)), none, none] [] M Q := fun hno => by
        rw [if_neg (fun h => hno (hone.mp h))] at he
        have nx := ih (i + 1) (by omega) he
        rw [show ((i + 1 : Nat) : Int) = (i : Int) + 1 by omega] at nx
        exact nx
      have hp4 := pop4_le m
      refine sp_bitCount (s137_89 ?_)
      rw [show bct ((m : Nat) : Int) = ((pop4 m : Nat) : Int) from bct4 ⟨m, hm16⟩]
      refine ⟨⟨by omega, by omega⟩, fun hn1' => go (fun h => by omega), fun h1 => sp_may hv ⟨by omega, by omega⟩ (by rw [Int.toNat_natCast]; exact h16) (s137_101 ?_)⟩
      rw [Int.toNat_natCast]
      refine ⟨⟨⟨by omega, by omega⟩, ⟨by omega, by omega⟩⟩, fun heq => go (fun h => by omega), fun hne2 => ?_⟩
      rw [if_pos (hone.mpr ⟨by omega, by omega⟩)] at he
      have hl9 : lowb m < 4 := (low_16 ⟨m, hm16⟩ hm0).1
      have et : ([104, 105, 110, 116, 32] : List Int32).map Int32.toInt = wls (wrd 13) ++ [32] := by decide +kernel
      refine sp_puts (d := d) out3 lt_1000095 hO (s137_113 (sp_lowest hm0 (by omega) (s137_121 ?_)))
      rw [et]
      refine s135 (sp_number (d := d + 2) out3 (o_ok_app hO) (by omega) (by omega) (s135_8 (sp_put out3 (o_ok_app (o_ok_app hO)) ⟨by omega, by omega⟩ (s135_17 (sp_number (d := d + 2) out3 (o_ok_put (o_ok_app (o_ok_app hO))) (by omega) (by omega) (s135_25 (sp_put out3 (o_ok_app (o_ok_put (o_ok_app (o_ok_app hO)))) ⟨by omega, by omega⟩ (s135_34 (sp_number (d := d + 2) out3 (o_ok_put (o_ok_app (o_ok_put (o_ok_app (o_ok_app hO))))) (by omega) (by omega) (s135_42 (s137_125 ?_)))))))))))
      have e1 : o_app (o_put (o_app (o_put (o_app (o_app M 3 (wls (wrd 13) ++ [32])) 3 (dgs (cn : Int))) 3 32) 3 (dgs ((lowb m : Nat) : Int))) 3 32) 3 (dgs (r : Int)) = o_app M 3 (tHn (cn : Int) (lowb m) r) := by
        unfold tHn
        rw [show wls (wrd 13) ++ 32 :: dgs (cn : Int) = (wls (wrd 13) ++ [32]) ++ dgs (cn : Int) by simp, ← o_app_app, ← o_app_app, ← o_app_app]
        rfl
      rw [e1]
      exact K1 _ he
    · have hm0 : m = 0 := by omega
      rw [if_pos hm0] at he
      have et : ([99, 97, 110, 39, 116] : List Int32).map Int32.toInt = tCant := by decide +kernel
      refine sp_puts (d := d) out3 lt_1000093 hO (s137_83 ?_)
      rw [et]
      exact K1 _ he
theorem ch_rules (ho : pz_ok Z) {M : fx_M} (hc : ckn M 11 Z) (hO : o_ok M 3) (hs : s_ok Z S) {v : Int} (hv : sta v S) (K : Q none (o_app M 3 (hnR Z S Z.2.2.2.1 0))) : ∀ (t r : Nat), r + t = Z.2.2.2.1.length → hnR Z S Z.2.2.2.1 0 = hnR Z S (Z.2.2.2.1.drop r) r → wp (kcs L xs) (d + 5) 137 2 [some (jR 31), some (jL v), none, some (jI r), none, none, none, none] [] M Q := by
  have h12 := ho.2.2.2.2.2.2.1
  intro t
  induction t with
  | zero =>
    intro r hr he
    refine s137_2 ?_
    rw [hc.1.2.2.2.2.1]
    have et : ([110, 111, 110, 101] : List Int32).map Int32.toInt = wls 1852796517 := by decide +kernel
    refine ⟨⟨⟨by omega, by omega⟩, ⟨by omega, by omega⟩⟩, fun _ => sp_puts (d := d) out3 lt_1000097 hO (s137_147 ?_), fun h => by omega⟩
    rw [et]
    rw [he, List.drop_eq_nil_of_le (by omega)] at K
    exact K
  | succ t ih =>
    intro r hr he
    have hrl : r < Z.2.2.2.1.length := by omega
    have hR := List.getElem?_eq_getElem hrl
    have hd : hnR Z S (Z.2.2.2.1.drop r) r = match hn1 Z Z.2.2.2.1[r] S r (Z.2.2.2.1[r]).2.2 0 with
      | some x => x
      | none => hnR Z S (Z.2.2.2.1.drop (r + 1)) (r + 1) := by
      rw [List.drop_eq_getElem_cons hrl, hnR]
    refine s137_2 ?_
    rw [hc.1.2.2.2.2.1]
    refine ⟨⟨⟨by omega, by omega⟩, ⟨by omega, by omega⟩⟩, fun h => by omega, fun _ => sp_supports puz11 hc ho hs hv hR (fun f hf hfb => s137_22 ?_)⟩
    refine ch_cell ho hc hO hs hv hR hf hfb (fun x hx => ?_) (fun hx => ?_) (Z.2.2.2.1[r]).2.2.length 0 (by omega) (by rw [List.drop_zero])
    · rw [he, hd, hx] at K
      exact K
    · have nx := ih (r + 1) (by omega) (by rw [he, hd, hx])
      rw [show ((r + 1 : Nat) : Int) = (r : Int) + 1 by omega] at nx
      exact nx
theorem sp_hint (ho : pz_ok Z) {M : fx_M} (hc : ckn M 11 Z) (hO : o_ok M 3) (hs : s_ok Z S) {v : Int} (hv : sta v S) (K : Q none (o_app M 3 (hnR Z S Z.2.2.2.1 0))) : wc (kcs L xs) (d + 5) 137 [jR 31, jL v] M Q :=
  s137 (ch_rules ho hc hO hs hv K Z.2.2.2.1.length 0 (by omega) (by rw [List.drop_zero]))
theorem mh_cell (ho : pz_ok Z) (hS : ∀ c : Nat, (c : Int) < Z.1 * Z.2.1 → S c < 16) {M0 M : fx_M} (hO : m_ok M) (hm : mst' M Z S) {R : PR} {r : Nat} (hR : Z.2.2.2.1[r]? = some R) (hj : mjt M (jnC R none)) (hp : psS M Z R none S) (K1 : ∀ x, hn1 Z R S r R.2.2 0 = some x → Q none (m_app M x)) (K0 : hn1 Z R S r R.2.2 0 = none → wp kc (d + 5) 293 6 [some (jR 133), some (jI ((r : Int) + 1)), none, none] [] M Q) : ∀ (t i : Nat), i + t = R.2.2.length → hn1 Z R S r R.2.2 0 = hn1 Z R S r (R.2.2.drop i) i → wp kc (d + 5) 293 24 [some (jR 133), some (jI r), some (jI i), none] [] M Q := by
  obtain ⟨hRo, hr12⟩ := rule_in ho hR
  have h9 := pz_n ho
  have l4 := hRo.2.2.2.2.2.1
  have hn := hRo.2.2.2.2.2.2.2
  rw [jnC_none] at hj
  unfold psS at hp
  rw [jnC_none] at hp
  intro t
  induction t with
  | zero =>
    intro i hi he
    refine s293_24 ?_
    rw [hj.n]
    refine ⟨⟨⟨by omega, by omega⟩, ⟨by omega, by omega⟩⟩, fun _ => K0 ?_, fun h => by omega⟩
    rw [he, List.drop_eq_nil_of_le (by omega)]
    rfl
  | succ t ih =>
    intro i hi he
    have hil : i < R.2.2.length := by omega
    have hcb := hRo.2.2.2.2.2.2.1 _ (getD_mem hil)
    obtain ⟨cn, ecn⟩ : ∃ cn : Nat, R.2.2.getD i 0 = (cn : Int) := ⟨(R.2.2.getD i 0).toNat, by omega⟩
    have h16 := hS cn (by omega)
    obtain ⟨m, hm16, em, hmb⟩ := hp i hil
    have hmS : m = spm Z.1 R S i := eq16 hm16 spm_16 (fun y hy => by
      rw [spm_bit hy, Bool.eq_iff_iff, hmb y hy, sup_f hn hil]
      constructor
      · rintro ⟨f, h1, h2, h3⟩
        exact ⟨f, ⟨h1, h2.1⟩, h3⟩
      · rintro ⟨f, ⟨h1, h2⟩, h3⟩
        exact ⟨f, h1, ⟨h2, fun R2 h => by cases h⟩, h3⟩)
    rw [drop_consD hil, hn1, ecn, Int.toNat_natCast] at he
    rw [← hmS] at he
    have e156 : M 156 (cn : Int) = (S cn : Nat) := hm cn (by omega)
    have hpS := pop4_le (S cn)
    have hpm := pop4_le m
    refine s293_24 ?_
    rw [hj.n, em, hj.c i hil, ecn, e156]
    have go : ¬ (pop4 m ≤ 1 ∧ 2 ≤ pop4 (S cn)) → m ≠ 0 → wp kc (d + 5) 293 24 [some (jR 133), some (jI r), some (jI ((i : Int) + 1)), none] [] M Q := fun hno hm0 => by
      rw [if_neg hm0, if_neg hno] at he
      have nx := ih (i + 1) (by omega) he
      rw [show ((i + 1 : Nat) : Int) = (i : Int) + 1 by omega] at nx
      exact nx
    refine ⟨⟨⟨by omega, by omega⟩, ⟨by omega, by omega⟩⟩, fun h => by omega, fun _ => ⟨⟨by omega, by omega⟩, ⟨by omega, by omega⟩, ⟨by omega, by omega⟩, fun hne => ⟨⟨by omega, by omega⟩, sp_countOf h16 (s293_65 ⟨⟨by omega, by omega⟩, fun hlt => go (fun h => by omega) (by omega), fun hge => ?_⟩)⟩, fun h0 => ?_⟩⟩
    · rw [em]
      refine ⟨⟨by omega, by omega⟩, sp_countOf hm16 (s293_78 ⟨⟨by omega, by omega⟩, fun hle => sp_word (by omega) (by omega) (s293_91 ?_), fun hgt => go (fun h => by omega) (by omega)⟩)⟩
      have hm0 : m ≠ 0 := by omega
      have hl9 : lowb m < 4 := (low_16 ⟨m, hm16⟩ hm0).1
      rw [if_neg hm0, if_pos ⟨by omega, by omega⟩] at he
      refine sp_sayCount (wrd_ok (by omega) (by omega)) hO (by omega) (by omega) (s293_95 ?_)
      rw [m_app_ne (b := 158) (by omega) (by decide), em]
      refine ⟨⟨by omega, by omega⟩, sp_mlowest hm0 hm16 (s293_105 (sp_sayMore (m_ok_app hO) (by omega) (by omega) (s293_108 (sp_sayMore (m_ok_app (m_ok_app hO)) (by omega) (by omega) (s293_113 ?_)))))⟩
      rw [m_app_app, m_app_app, ← List.append_assoc]
      exact K1 _ he
    · have hm0 : m = 0 := by omega
      rw [if_pos hm0] at he
      exact sp_sayWord (by unfold w_ok; omega) hO (s293_55 (K1 _ he))
theorem mh_rules (ho : pz_ok Z) (hS : ∀ c : Nat, (c : Int) < Z.1 * Z.2.1 → S c < 16) {M0 : fx_M} (K : ∀ M', mfrq M0 M' → (M0 133 5 = 0 → mtq M' (hnR Z S Z.2.2.2.1 0)) → Q none M') (hlen : (hnR Z S Z.2.2.2.1 0).length ≤ 6000) : ∀ (t r : Nat) (M : fx_M), r + t = Z.2.2.2.1.length → f158 M0 M → m_ok M → mz M 0 Z → mst' M Z S → hnR Z S Z.2.2.2.1 0 = hnR Z S (Z.2.2.2.1.drop r) r → wp kc (d + 5) 293 6 [some (jR 133), some (jI r), none, none] [] M Q := by
  have h12 := ho.2.2.2.2.2.2.1
  -- an answer
  have fin : ∀ M x, f158 M0 M → x = hnR Z S Z.2.2.2.1 0 → Q none (m_app M x) := fun M x hf hx => by
    refine K _ (mfrq_tr (mfrq_wr (mwr_158 hf)) (mfrq_wr mwr_app)) (fun h0 => ?_)
    have e5 : M 133 5 = 0 := by rw [hf _ _ (by decide) (by decide) (by decide) (by omega)]; exact h0
    rw [hx]
    exact mtq_mout e5 hlen mout_app
  intro t
  induction t with
  | zero =>
    intro r M hr hf hO hz hm he
    refine s293_6 ?_
    rw [hz.2.2.2.1]
    refine ⟨⟨⟨by omega, by omega⟩, ⟨by omega, by omega⟩⟩, fun _ => sp_sayWord w_ok_none hO (s293_133 (fin M _ hf ?_)), fun h => by omega⟩
    rw [he, List.drop_eq_nil_of_le (by omega)]
    rfl
  | succ t ih =>
    intro r M hr hf hO hz hm he
    have hrl : r < Z.2.2.2.1.length := by omega
    have hR := List.getElem?_eq_getElem hrl
    have hd : hnR Z S (Z.2.2.2.1.drop r) r = match hn1 Z Z.2.2.2.1[r] S r (Z.2.2.2.1[r]).2.2 0 with
      | some x => x
      | none => hnR Z S (Z.2.2.2.1.drop (r + 1)) (r + 1) := by
      rw [List.drop_eq_getElem_cons hrl, hnR]
    refine s293_6 ?_
    rw [hz.2.2.2.1]
    refine ⟨⟨⟨by omega, by omega⟩, ⟨by omega, by omega⟩⟩, fun h => by omega, fun _ => sp_findPossible ho hR (Or.inl ⟨by omega, by omega, rfl⟩) hS hz hm (fun M1 f1 j1 p1 => s293_22 ?_)⟩
    have f01 := f158_tr hf f1
    have hO1 : m_ok M1 := by
      unfold m_ok at hO ⊢
      rw [f1 _ _ (by decide) (by decide) (by decide) (by omega)]
      exact hO
    refine mh_cell (M0 := M0) ho hS hO1 (mst_158 hm f1) hR j1 p1 (fun x hx => fin M1 x f01 (by rw [he, hd, hx])) (fun hx => ?_) (Z.2.2.2.1[r]).2.2.length 0 (by omega) (by rw [List.drop_zero])
    have nx := ih (r + 1) M1 (by omega) f01 hO1 (mz_158 hz f1) (mst_158 hm f1) (by rw [he, hd, hx])
    rw [show ((r + 1 : Nat) : Int) = (r : Int) + 1 by omega] at nx
    exact nx
theorem wls_l8 {w : Int} : (wls w).length ≤ 8 := by
  unfold wls
  rw [List.length_map, List.length_range]
  exact lnb_le 8 w
theorem hn1_len {R : PR} {r : Nat} : ∀ (l : List Int) (i : Nat) (x : List Int), hn1 Z R S r l i = some x → x.length ≤ 100
  | [], _, _, h => by cases h
  | c :: t, i, x, h => by
    unfold hn1 at h
    split at h
    · cases h
      have := wls_l8 (w := 426836371316)
      unfold tCant
      omega
    · split at h
      · cases h
        have w1 := wls_l8 (w := wrd 13)
        have d1 := dgs_len (v := c)
        have d2 := dgs_len (v := ((lowb (spm Z.1 R S i) : Nat) : Int))
        have d3 := dgs_len (v := (r : Int))
        unfold tHn
        simp only [List.length_append, List.length_cons]
        omega
      · exact hn1_len t (i + 1) x h
theorem hnR_len : ∀ (l : List PR) (r : Nat), (hnR Z S l r).length ≤ 100
  | [], _ => by
    have := wls_l8 (w := 1852796517)
    show (wls 1852796517).length ≤ 100
    omega
  | R :: t, r => by
    unfold hnR
    split
    · next x hx => exact hn1_len _ _ x hx
    · exact hnR_len t (r + 1)
theorem sp_sayHint {V : fx_M} (ho : pz_ok Z) {M : fx_M} (hz : mz M 0 Z) (hv : mpv M V) (hvo : pv_ok V) (hi : pv_in V Z) (h05 : M 133 5 = 0) (K : ∀ M', mfrq M M' → mtq M' (hnR Z (s_play Z V) Z.2.2.2.1 0) → Q none M') : wc kc (d + 5) 293 [jR 133] M Q := by
  refine s293 (sp_standForPlay (d := d + 1) ho hz hv hvo hi (fun M1 m1 f1 => s293_4 ?_))
  have hS := sLt_16 ho (S := s_play Z V) (fun c hc => by
    have h9 := pz_n ho
    exact (s_play_ok ho hvo hi c (by omega)).1 hc)
  have q1 : mfrq M M1 := fun b j h1 _ _ => f1 b j (by unfold msc at h1; omega)
  have e5 : M1 133 5 = 0 := by rw [f1 _ _ (by decide)]; exact h05
  have hO1 : m_ok M1 := by
    unfold m_ok
    omega
  have hl := hnR_len (Z := Z) (S := s_play Z V) Z.2.2.2.1 0
  exact mh_rules (d := d) (M0 := M1) ho hS (fun M' g1 g2 => K M' (mfrq_tr q1 g1) (g2 e5)) (by omega) Z.2.2.2.1.length 0 M1 (by omega) f158_rf hO1 (mz_frM hz (fun b j h1 h2 => f1 b j (by omega))) m1 (by rw [List.drop_zero])
end HNT
