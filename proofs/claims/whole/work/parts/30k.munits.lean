/-! The reference's units. -/
/-- a literal made not so -/
def dny (S : Nat → Nat) (z : LT) : Nat → Nat := fun k => if k = z.2.1.toNat then (if z.1 = 0 then clr (S k) z.2.2.toNat else S k &&& 2 ^ z.2.2.toNat) else S k
theorem dny_16 {S : Nat → Nat} {z : LT} {c : Nat} (h : S c < 16) : dny S z c < 16 := by
  unfold dny
  split
  · split
    · exact Nat.lt_of_le_of_lt Nat.and_le_left h
    · exact Nat.lt_of_le_of_lt Nat.and_le_left h
  · exact h
theorem dny_all {Z : PZ} (ho : pz_ok Z) {c y : Nat} (hy : y < 4) : ∀ {q : List LT} {S : Nat → Nat}, (∀ z ∈ q, 0 ≤ z.2.1 ∧ 0 ≤ z.2.2 ∧ z.2.2.toNat < 4) → (((q.foldl dny S) c).testBit y = true ↔ (S c).testBit y = true ∧ ∀ z ∈ q, z.2.1.toNat = c → ((z.1 = 0 → z.2.2.toNat ≠ y) ∧ (z.1 ≠ 0 → z.2.2.toNat = y)))
  | [], S, _ => by simp
  | z :: q, S, h => by
    have hz := h z (List.mem_cons_self ..)
    rw [List.foldl_cons, dny_all ho hy (fun w hw => h w (List.mem_cons_of_mem _ hw))]
    have e : (dny S z c).testBit y = true ↔ (S c).testBit y = true ∧ (z.2.1.toNat = c → ((z.1 = 0 → z.2.2.toNat ≠ y) ∧ (z.1 ≠ 0 → z.2.2.toNat = y))) := by
      unfold dny
      by_cases hc : c = z.2.1.toNat
      · rw [if_pos hc]
        by_cases h0 : z.1 = 0
        · rw [if_pos h0, clr_bit hz.2.2 hy, Bool.and_eq_true, decide_eq_true_eq]
          constructor
          · rintro ⟨a, b⟩
            exact ⟨a, fun _ => ⟨fun _ e => b e.symm, fun hn => absurd h0 hn⟩⟩
          · rintro ⟨a, b⟩
            exact ⟨a, fun e => (b hc.symm).1 h0 e.symm⟩
        · rw [if_neg h0, Nat.testBit_and, Bool.and_eq_true, pow_bit, decide_eq_true_eq]
          constructor
          · rintro ⟨a, b⟩
            exact ⟨a, fun _ => ⟨fun hn => absurd hn h0, fun _ => b.symm⟩⟩
          · rintro ⟨a, b⟩
            exact ⟨a, ((b hc.symm).2 h0).symm⟩
      · rw [if_neg hc]
        constructor
        · intro a
          exact ⟨a, fun e => absurd e.symm hc⟩
        · exact fun a => a.1
    rw [e]
    constructor
    · rintro ⟨⟨a, b⟩, c1⟩
      refine ⟨a, fun w hw => ?_⟩
      rcases List.mem_cons.mp hw with e1 | e1
      · rw [e1]
        exact b
      · exact c1 w e1
    · rintro ⟨a, b⟩
      exact ⟨⟨a, b z (List.mem_cons_self ..)⟩, fun w hw => b w (List.mem_cons_of_mem _ hw)⟩
theorem dny_16s {c : Nat} : ∀ {q : List LT} {S : Nat → Nat}, S c < 16 → (q.foldl dny S) c < 16
  | [], S, h => h
  | z :: q, S, h => dny_16s (q := q) (dny_16 h)
theorem dny_dn {Z : PZ} (ho : pz_ok Z) {q : List LT} (hq : ltg Z q) {c : Nat} (hc : (c : Int) < Z.1 * Z.2.1) : (q.foldl dny (s_free Z)) c = dnS Z q c := by
  have h9 := pz_n ho
  have hfr : s_free Z c < 16 := s10 ho (s_free_ok ho) c (by omega)
  refine ext4 (dny_16s hfr) (s10 ho (dnS_ok ho) c (by omega)) (fun y hy => ?_)
  rw [Bool.eq_iff_iff, dny_all ho hy (fun z hz => by
    obtain ⟨b1, b2, b3, b4, b5, b6, b7⟩ := lt_b ho hq hz
    exact ⟨b1, b4, b5⟩), dnS_bit hc hy]
  have ef : (s_free Z c).testBit y = true ↔ (y : Int) < Z.2.2.1 := by
    unfold s_free
    rw [if_pos hc, Nat.testBit_two_pow_sub_one, decide_eq_true_eq]
    have := ho.2.2.2.2.1
    omega
  rw [ef]
  constructor
  · rintro ⟨a, b⟩
    refine ⟨a, fun hp => ?_, ?_⟩
    · obtain ⟨z, hz, e1, e2, e3, e4⟩ := ltM_bit.mp hp
      exact (b z hz (by omega)).1 (of_decide_eq_true e1) e4
    · by_cases h0 : ltM Z false q c = 0
      · exact Or.inl h0
      · right
        have all : ∀ t, (ltM Z false q c).testBit t = true → t = y := fun t ht => by
          obtain ⟨z, hz, e1, e2, e3, e4⟩ := ltM_bit.mp ht
          have := (b z hz (by omega)).2 (of_decide_eq_false e1)
          omega
        obtain ⟨t, ht⟩ := Nat.exists_testBit_of_ne_zero h0
        have et := all t ht
        refine Nat.eq_of_testBit_eq (fun i => ?_)
        rw [pow_bit, Bool.eq_iff_iff, decide_eq_true_eq]
        constructor
        · exact all i
        · intro hi
          rw [hi, ← et]
          exact ht
  · rintro ⟨a, b1, b2⟩
    refine ⟨a, fun z hz ec => ⟨fun h0 e => ?_, fun h0 => ?_⟩⟩
    · obtain ⟨c1, c2, c3, c4, c5, c6, c7⟩ := lt_b ho hq hz
      exact b1 (ltM_bit.mpr ⟨z, hz, decide_eq_true h0, ltg_lin hq z hz, by omega, e⟩)
    · obtain ⟨c1, c2, c3, c4, c5, c6, c7⟩ := lt_b ho hq hz
      have hb : (ltM Z false q c).testBit z.2.2.toNat = true := ltM_bit.mpr ⟨z, hz, decide_eq_false h0, ltg_lin hq z hz, by omega, rfl⟩
      rcases b2 with b2 | b2
      · rw [b2, Nat.zero_testBit] at hb
        cases hb
      · rw [b2, pow_bit, decide_eq_true_eq] at hb
        exact hb
theorem and_one : ∀ (m : Fin 16) (y : Fin 4), fx_and ((m : Nat) : Int) (fx_shl 1 ((y : Nat) : Int)) = (((m : Nat) &&& 2 ^ (y : Nat) : Nat) : Int) ∧ ((m : Nat) &&& 2 ^ (y : Nat) = 0 ↔ ¬ (m : Nat).testBit (y : Nat) = true) ∧ ((m : Nat).testBit (y : Nat) = true → (m : Nat) &&& 2 ^ (y : Nat) = 2 ^ (y : Nat)) := by decide +kernel
section MUN
variable {kc : List va_E} {d : Nat} {Q : Option fx_V → fx_M → Prop} {Z : PZ} {A : List LN} {S : Nat → Nat}
/-- only the standing has changed -/
abbrev f156 (M N : fx_M) : Prop := ∀ b j, b ≠ 156 → N b j = M b j
theorem mls_156 {M N : fx_M} (h : mls Z M A) (f : f156 M N) : mls Z N A := mls_fr h (f _ _ (by decide)) (fun b j h1 h2 => f b j (by omega))
theorem mz_156 {M N : fx_M} (h : mz M 0 Z) (f : f156 M N) : mz N 0 Z := mz_frM h (fun b j h1 h2 => by
  by_cases e : b = 156
  · omega
  · exact f b j e)
/-- makeSo -/
theorem sp_makeSo (ho : pz_ok Z) {M : fx_M} (hm : mst' M Z S) (h16 : ∀ c : Nat, (c : Int) < Z.1 * Z.2.1 → S c < 16) {q : List LT} (hq : ltg Z q) {z : LT} (hz : z ∈ q) {b : Int} (hb : b = 0 ∨ b = 1) (K : ∀ M', f156 M M' → mst' M' Z (fun k => if k = z.2.1.toNat then (if (if z.1 = 0 then (1 : Int) else 0) = b then S k &&& 2 ^ z.2.2.toNat else clr (S k) z.2.2.toNat) else S k) → Q none M') : wc kc (d + 2) 403 [jR 133, jI (lcd Z z), jI b] M Q := by
  have h9 := pz_n ho
  have hlz := ltg_lin hq z hz
  have hbz := hq.1 z hz
  obtain ⟨b1, b2, b3, b4, b5, b6, b7⟩ := lt_b ho hq hz
  have es : ((z.2.2.toNat : Nat) : Int) = z.2.2 := by omega
  have a1 := and_one ⟨S z.2.1.toNat, h16 _ b6⟩ ⟨z.2.2.toNat, b5⟩
  have a2 := clr_16 ⟨S z.2.1.toNat, h16 _ b6⟩ ⟨z.2.2.toNat, b5⟩
  simp only at a1 a2
  rw [es] at a1 a2
  have em : M 156 z.2.1 = ((S z.2.1.toNat : Nat) : Int) := by
    have := hm z.2.1.toNat b6
    rw [b3] at this
    exact this
  refine s403 (sp_litS (d := d) ho ⟨hbz.1, hbz.2.2.1⟩ hlz (s403_5 (sp_litC (d := d) ho ⟨hbz.1, hbz.2.2.1⟩ hlz (s403_11 ⟨⟨by omega, by omega⟩, sp_litP (d := d) ho ⟨hbz.1, hbz.2.2.1⟩ hlz (s403_30 ⟨?_, ?_, ⟨by omega, by omega⟩, K _ (fun b j h => fx_up_na h) (fun k hk => ?_)⟩)⟩))))
  · split <;> exact ⟨by omega, by omega⟩
  · rcases hb with h | h <;> rw [h] <;> exact ⟨by omega, by omega⟩
  · dsimp only
    by_cases e : k = z.2.1.toNat
    · rw [if_pos e, e, b3, fx_up_self, em]
      by_cases h0 : (if z.1 = 0 then (1 : Int) else 0) = b
      · rw [if_pos h0, if_pos h0, a1.1]
      · rw [if_neg h0, if_neg h0, a2]
    · rw [if_neg e, fx_up_nk (by omega)]
      exact hm k hk
/-- valueOf -/
theorem sp_valueOf (ho : pz_ok Z) {M : fx_M} (hm : mst' M Z S) (h16 : ∀ c : Nat, (c : Int) < Z.1 * Z.2.1 → S c < 16) {q : List LT} (hq : ltg Z q) {z : LT} (hz : z ∈ q) (K : Q (some (jI (lvl S z : Nat))) M) : wc kc (d + 2) 405 [jR 133, jI (lcd Z z)] M Q := by
  have h9 := pz_n ho
  have hlz := ltg_lin hq z hz
  have hbz := hq.1 z hz
  obtain ⟨b1, b2, b3, b4, b5, b6, b7⟩ := lt_b ho hq hz
  have es : ((z.2.2.toNat : Nat) : Int) = z.2.2 := by omega
  have hs16 := h16 _ b6
  have a1 := and_one ⟨S z.2.1.toNat, hs16⟩ ⟨z.2.2.toNat, b5⟩
  simp only at a1
  rw [es] at a1
  have em : M 156 z.2.1 = ((S z.2.1.toNat : Nat) : Int) := by
    have := hm z.2.1.toNat b6
    rw [b3] at this
    exact this
  have hle := Nat.and_le_left (n := S z.2.1.toNat) (m := 2 ^ z.2.2.toNat)
  have hp16 := pow_16' b5
  have esh : fx_shl 1 z.2.2 = ((2 ^ z.2.2.toNat : Nat) : Int) := fx_shl_1 ⟨by omega, by omega⟩
  refine s405 (sp_litC (d := d) ho ⟨hbz.1, hbz.2.2.1⟩ hlz (s405_4 (sp_litS (d := d) ho ⟨hbz.1, hbz.2.2.1⟩ hlz (s405_10 ?_))))
  rw [em, a1.1, esh]
  unfold lvl at K
  generalize hP : 2 ^ z.2.2.toNat = P at K a1 hp16 hle ⊢
  refine ⟨⟨by omega, by omega⟩, ⟨by omega, by omega⟩, fun hne => ⟨⟨by omega, by omega⟩, ⟨⟨by omega, by omega⟩, ⟨by omega, by omega⟩⟩, fun h2 => ?_, fun h2 => ?_⟩, fun he => ?_⟩
  · have hbit : (S z.2.1.toNat).testBit z.2.2.toNat = true := Classical.byContradiction (fun hn => hne (by have := a1.2.1.mpr hn; omega))
    rw [if_pos hbit, if_neg (by omega)] at K
    exact K
  · have hbit : (S z.2.1.toNat).testBit z.2.2.toNat = true := Classical.byContradiction (fun hn => hne (by have := a1.2.1.mpr hn; omega))
    rw [if_pos hbit, if_pos (by omega)] at K
    refine sp_litP (d := d) ho ⟨hbz.1, hbz.2.2.1⟩ hlz (s405_50 ?_)
    by_cases h0 : z.1 = 0
    · rw [if_pos h0] at K ⊢
      exact ⟨⟨by omega, by omega⟩, K⟩
    · rw [if_neg h0] at K ⊢
      exact ⟨⟨by omega, by omega⟩, K⟩
  · have hbit : ¬ (S z.2.1.toNat).testBit z.2.2.toNat = true := a1.2.1.mp (by omega)
    rw [if_neg hbit] at K
    refine sp_litP (d := d) ho ⟨hbz.1, hbz.2.2.1⟩ hlz (s405_27 ?_)
    by_cases h0 : z.1 = 0
    · rw [if_pos h0] at K ⊢
      exact ⟨⟨by omega, by omega⟩, K⟩
    · rw [if_neg h0] at K ⊢
      exact ⟨⟨by omega, by omega⟩, K⟩
theorem lvl_b {z : LT} : lvl S z ≤ 2 := by
  unfold lvl
  repeat' split
  all_goals omega
theorem opnL_app {q : List LT} {z : LT} : opnL S (q ++ [z]) = if lvl S z = 2 then opnL S q ++ [z] else opnL S q := by
  unfold opnL
  rw [List.filter_append]
  by_cases h : lvl S z = 2
  · rw [if_pos h]
    simp [h]
  · rw [if_neg h]
    simp [h]
/-- unit -/
theorem sp_unit (ho : pz_ok Z) {M : fx_M} (hA : mls Z M A) (hr : rooA A) {k : Nat} {x : LN} (hx : A[k]? = some x) (hg : ltg Z x.2.2.2) (hs : s_go Z S) (hm : mst' M Z S) (K : ∀ M', f156 M M' → mst' M' Z (unt S x.2.2.2).2 → Q (some (jI ((unt S x.2.2.2).1 : Nat))) M') : wc kc (d + 3) 404 [jR 133, jI k] M Q := by
  have hk := (List.getElem?_eq_some_iff.mp hx).1
  have hoe := off_end hx
  have h9 := pz_n ho
  have h16 : ∀ c : Nat, (c : Int) < Z.1 * Z.2.1 → S c < 16 := fun c hc => s10 ho hs.1 c (by omega)
  have no : unt S x.2.2.2 = (0, S) → Q (some (jI 0)) M := fun e => by
    rw [e] at K
    exact K M (fun _ _ _ => rfl) hm
  have z : ∀ (t i : Nat) (v : Int), i + t = x.2.2.2.length → (∀ (j : Nat) (w : LT), j < i → x.2.2.2[j]? = some w → lvl S w ≠ 1) → ((v = -1 ∧ opnL S (x.2.2.2.take i) = []) ∨ ∃ w ∈ x.2.2.2, v = lcd Z w ∧ opnL S (x.2.2.2.take i) = [w]) → wp kc (d + 3) 404 4 [some (jR 133), some (jI k), some (jI v), some (jI i), none, none] [] M Q := by
    intro t
    induction t with
    | zero =>
      intro i v hi hn hv
      rw [List.take_of_length_le (by omega)] at hv
      have hno : ∀ w ∈ x.2.2.2, lvl S w ≠ 1 := fun w hw => by
        obtain ⟨j, hj, ew⟩ := List.mem_iff_getElem.mp hw
        exact hn j w (by omega) (by rw [List.getElem?_eq_getElem hj, ew])
      refine s404_4 (sp_lits (d := d + 1) hA hr hx (s404_10 ⟨⟨⟨by omega, by omega⟩, ⟨by omega, by omega⟩⟩, fun _ => ?_, fun h => by omega⟩))
      rcases hv with ⟨hv, ho2⟩ | ⟨w, hw, hv, ho2⟩
      · have e : unt S x.2.2.2 = (2, S) := by
          rcases unt_cases (S := S) (q := x.2.2.2) with ⟨_, ⟨y, h1, h2⟩ | ⟨y, y2, r, h1⟩⟩ | ⟨e, _⟩ | ⟨y, _, _, h1⟩
          · exact absurd h2 (hno y h1)
          · rw [ho2] at h1
            cases h1
          · exact e
          · rw [ho2] at h1
            cases h1
        rw [e] at K
        exact ⟨⟨by omega, by omega⟩, fun h => by omega, fun _ => K M (fun _ _ _ => rfl) hm⟩
      · have e : unt S x.2.2.2 = (1, mkT S w) := by
          rcases unt_cases (S := S) (q := x.2.2.2) with ⟨_, ⟨y, h1, h2⟩ | ⟨y, y2, r, h1⟩⟩ | ⟨_, _, h1⟩ | ⟨y, e, _, h1⟩
          · exact absurd h2 (hno y h1)
          · rw [ho2] at h1
            cases h1
          · rw [ho2] at h1
            cases h1
          · rw [ho2] at h1
            cases h1
            exact e
        have hbw := hg.1 w hw
        have le := lcd_eq ho ⟨hbw.1, hbw.2.2.1⟩ (ltg_lin hg w hw)
        subst hv
        refine ⟨⟨by omega, by omega⟩, fun _ => sp_makeSo (d := d) ho hm h16 hg hw (Or.inr rfl) (fun M1 f1 m1 => s404_78 ?_), fun h => by omega⟩
        rw [e] at K
        refine K M1 f1 ?_
        have hw2 : lvl S w = 2 := (opnL_mem (S := S) (q := x.2.2.2) (by rw [ho2]; exact List.mem_singleton.mpr rfl)).2
        obtain ⟨b1, b2, b3, b4, b5, b6, b7⟩ := lt_b ho hg hw
        intro c hc
        rw [m1 c hc]
        unfold mkT
        dsimp only
        by_cases h0 : w.1 = 0
        · simp only [if_pos h0]
          rw [if_pos trivial]
          unfold s_only
          by_cases e2 : c = w.2.1.toNat
          · rw [if_pos e2, if_pos e2]
            have hbit : (S w.2.1.toNat).testBit w.2.2.toNat = true := Classical.byContradiction (fun hn2 => by
              unfold lvl at hw2
              rw [if_neg hn2, if_pos h0] at hw2
              omega)
            have a1 := and_one ⟨S w.2.1.toNat, h16 _ b6⟩ ⟨w.2.2.toNat, b5⟩
            simp only at a1
            rw [e2, a1.2.2 hbit]
          · rw [if_neg e2, if_neg e2]
        · simp only [if_neg h0]
          rw [if_neg (by decide : ¬ (0 : Int) = 1)]
          unfold s_wo
          by_cases e2 : c = w.2.1.toNat
          · rw [if_pos e2]
          · rw [if_neg e2]
    | succ t ih =>
      intro i v hi hn hv
      have hil : i < x.2.2.2.length := by omega
      have hz := List.getElem?_eq_getElem hil
      have hzm := List.getElem_mem hil
      have hbz := hg.1 _ hzm
      have le := lcd_eq ho ⟨hbz.1, hbz.2.2.1⟩ (ltg_lin hg _ hzm)
      have lb := lvl_b (S := S) (z := x.2.2.2[i])
      have go : ∀ v' : Int, lvl S x.2.2.2[i] ≠ 1 → ((v' = -1 ∧ opnL S (x.2.2.2.take (i + 1)) = []) ∨ ∃ w ∈ x.2.2.2, v' = lcd Z w ∧ opnL S (x.2.2.2.take (i + 1)) = [w]) → wp kc (d + 3) 404 4 [some (jR 133), some (jI k), some (jI v'), some (jI ((i : Int) + 1)), none, none] [] M Q := fun v' h1 h2 => by
        have nx := ih (i + 1) v' (by omega) (fun j w hj hw => by
          by_cases e : j = i
          · subst e
            rw [hz] at hw
            cases hw
            exact h1
          · exact hn j w (by omega) hw) h2
        rw [show ((i + 1 : Nat) : Int) = (i : Int) + 1 by omega] at nx
        exact nx
      refine s404_4 (sp_lits (d := d + 1) hA hr hx (s404_10 ⟨⟨⟨by omega, by omega⟩, ⟨by omega, by omega⟩⟩, fun h => by omega, fun _ => sp_litAt (d := d + 1) hA hr hx hz (s404_19 (sp_valueOf (d := d) ho hm h16 hg hzm (s404_27 ?_)))⟩))
      have ea := opnL_app (S := S) (q := x.2.2.2.take i) (z := x.2.2.2[i])
      rw [← take1 hz] at ea
      refine ⟨⟨by omega, by omega⟩, fun h1 => no ?_, fun hn1 => ⟨⟨by omega, by omega⟩, fun hn2 => ⟨⟨by omega, by omega⟩, ?_⟩, fun h2 => ?_⟩⟩
      · rcases unt_cases (S := S) (q := x.2.2.2) with ⟨e, _⟩ | ⟨_, h2, _⟩ | ⟨_, _, h2, _⟩
        · exact e
        · exact absurd (show lvl S x.2.2.2[i] = 1 by omega) (h2 _ hzm)
        · exact absurd (show lvl S x.2.2.2[i] = 1 by omega) (h2 _ hzm)
      · rw [if_neg (show ¬ lvl S x.2.2.2[i] = 2 by omega)] at ea
        rw [if_neg hn2]
        exact go v (by omega) (by rw [ea]; exact hv)
      · rw [if_pos (show lvl S x.2.2.2[i] = 2 by omega)] at ea
        rcases hv with ⟨hv, ho2⟩ | ⟨w, hw, hv, ho2⟩
        · rw [ho2, List.nil_append] at ea
          rw [if_pos h2]
          exact ⟨⟨by omega, by omega⟩, fun _ => ⟨⟨by omega, by omega⟩, go _ (by omega) (Or.inr ⟨_, hzm, rfl, ea⟩)⟩, fun h => by omega⟩
        · rw [ho2] at ea
          have hbw := hg.1 w hw
          have lw := lcd_eq ho ⟨hbw.1, hbw.2.2.1⟩ (ltg_lin hg w hw)
          refine ⟨⟨by omega, by omega⟩, fun h => by omega, fun _ => no ?_⟩
          have hsp : opnL S x.2.2.2 = opnL S (x.2.2.2.take (i + 1)) ++ opnL S (x.2.2.2.drop (i + 1)) := by
            unfold opnL
            rw [← List.filter_append, List.take_append_drop]
          rw [ea] at hsp
          rcases unt_cases (S := S) (q := x.2.2.2) with ⟨e, _⟩ | ⟨_, _, h3⟩ | ⟨y, _, _, h3⟩
          · exact e
          · rw [h3] at hsp
            cases hsp
          · rw [h3] at hsp
            simp at hsp
  exact s404 (z x.2.2.2.length 0 (-1) (by omega) (fun j w hj => by omega) (Or.inl ⟨rfl, by rw [List.take_zero]; rfl⟩))
end MUN
