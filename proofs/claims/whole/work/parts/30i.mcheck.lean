/-! The reference's lines: literals, whole ones, those by rules. -/
theorem rLs_5 {g : Int → Int} {e : Int} : ∀ (f : Nat) (p : Int), p ≤ e → (rLs g e f p 0).2.2 = 0 → p + 5 * ((rLs g e f p 0).1.length : Nat) ≤ (rLs g e f p 0).2.1
  | 0, p, _, _ => by simp [rLs]
  | f + 1, p, hp, h => by
    rw [rLs] at h ⊢
    split at h
    · next hc =>
      rw [if_pos hc]
      have lb := rLt_b (g := g) (e := e) (p := p) (w := 0) hp
      by_cases hw : (rLt g e p 0).2.2 = 0
      · have u := rLt_5 hc.2.1 hc.2.2 hw
        simp only at h ⊢
        rw [hw] at h ⊢
        have ih := rLs_5 f (rLt g e p 0).2.1 lb.2.1 h
        rw [List.length_cons]
        omega
      · have h1 : (rLt g e p 0).2.2 = 1 := by omega
        simp only at h
        rw [h1, rLs_w1] at h
        simp at h
    · next hc =>
      rw [if_neg hc]
      simp
theorem rLn_5 {g : Int → Int} {e p : Int} (h : p ≤ e) (h0 : (rLn g e p 0).2.2 = 0) : p + 2 + 5 * ((rLn g e p 0).1.2.2.2.length : Nat) ≤ (rLn g e p 0).2.1 := by
  have cb := rKc_b (g := g) (w := 0) h
  have db := rKd_b (g := g) (w := 0) h
  have hd : (rKd g e p 0).2.2 = 0 := by
    by_cases hne : (rKd g e p 0).2.2 = 0
    · exact hne
    · have e1 : (rLn g e p 0).2.2 = 1 := by
        show (rT g e 59 (rKd g e p 0).2.1 (rKd g e p 0).2.2).2 = 1
        rw [show (rKd g e p 0).2.2 = 1 by omega, rT_w1]
      omega
  have hc : (rKc g e p 0).2.2 = 0 := by
    by_cases hne : (rKc g e p 0).2.2 = 0
    · exact hne
    · have e1 : (rKd g e p 0).2.2 = 1 := by
        show (rLs g e _ (rKc g e p 0).2.1 (rKc g e p 0).2.2).2.2 = 1
        rw [show (rKc g e p 0).2.2 = 1 by omega, rLs_w1]
      omega
  have q4 : (rKc g e p 0).2.1 + 5 * ((rKd g e p 0).1.length : Nat) ≤ (rKd g e p 0).2.1 := by
    have := rLs_5 (g := g) (e := e) ((e - (rKc g e p 0).2.1).toNat + 1) (rKc g e p 0).2.1 cb.2.1
    unfold rKd at hd ⊢
    rw [hc] at hd ⊢
    exact this hd
  have q5 : (rKd g e p 0).2.1 + 1 ≤ (rLn g e p 0).2.1 := by
    have e0 : (rT g e 59 (rKd g e p 0).2.1 (rKd g e p 0).2.2).2 = 0 := h0
    show (rKd g e p 0).2.1 + 1 ≤ (rT g e 59 (rKd g e p 0).2.1 (rKd g e p 0).2.2).1
    rw [hd] at e0 ⊢
    by_cases hx : (rKd g e p 0).2.1 < e ∧ g (rKd g e p 0).2.1 = 59
    · rw [rT_ok hx.1 hx.2]
      exact Int.le_refl _
    · rw [rT_no hx] at e0
      simp at e0
  have q1 : p + 1 ≤ (rKc g e p 0).2.1 := by
    have a := rKa_b (g := g) (w := 0) h
    have b := rKb_b (g := g) (w := 0) h
    have hbw : (rKb g e p 0).2.2 = 0 := by
      by_cases hne : (rKb g e p 0).2.2 = 0
      · exact hne
      · have e0 : (rKb g e p 0).2.2 = 1 := by omega
        have e1 : (rKc g e p 0).2.2 = 1 := by
          unfold rKc
          split
          · unfold rBN
            rw [e0, rT_w1, rN_w1]
          · exact e0
        omega
    have ha : (rKa g e p 0).2.2 = 0 := by
      by_cases hne : (rKa g e p 0).2.2 = 0
      · exact hne
      · have e0 : (rKa g e p 0).2.2 = 1 := by omega
        have e1 : (rKb g e p 0).2.2 = 1 := by
          unfold rKb
          split
          · rw [e0, rN_w1]
          · exact e0
        omega
    have h1 : p + 1 ≤ (rKa g e p 0).2.1 := by
      unfold rKa at ha ⊢
      rw [rC_L] at ha ⊢
      by_cases hpe : p < e
      · rw [if_pos hpe] at ha ⊢
        by_cases h1 : g p = 103
        · rw [if_pos h1]
          exact Int.le_refl _
        rw [if_neg h1] at ha ⊢
        by_cases h2 : g p = 114
        · rw [if_pos h2]
          exact Int.le_refl _
        rw [if_neg h2] at ha ⊢
        by_cases h3 : g p = 119
        · rw [if_pos h3]
          exact Int.le_refl _
        rw [if_neg h3] at ha ⊢
        by_cases h4 : g p = 117
        · rw [if_pos h4]
          exact Int.le_refl _
        rw [if_neg h4] at ha ⊢
        by_cases h5 : g p = 98
        · rw [if_pos h5]
          exact Int.le_refl _
        rw [if_neg h5] at ha
        simp at ha
      · rw [if_neg hpe] at ha
        simp at ha
    have q2 : (rKa g e p 0).2.1 ≤ (rKb g e p 0).2.1 := by
      have b2 := rN_b (g := g) (e := e) (m := 3) (p := (rKa g e p 0).2.1) (w := (rKa g e p 0).2.2) (by omega) a.2.2.2.1
      unfold rKb
      split
      · exact b2.1
      · exact Int.le_refl _
    have q3 : (rKb g e p 0).2.1 ≤ (rKc g e p 0).2.1 := by
      have b2 := rBN_b (g := g) (e := e) (m := 3) (p := (rKb g e p 0).2.1) (w := (rKb g e p 0).2.2) (by omega) b.2.1
      unfold rKc
      split
      · exact b2.1
      · exact Int.le_refl _
    omega
  have e4 : (rLn g e p 0).1.2.2.2 = (rKd g e p 0).1 := rfl
  rw [e4]
  omega
theorem offL_cons {x : LN} {A : List LN} : offL (x :: A) (x :: A).length = x.2.2.2.length + offL A A.length := by
  unfold offL
  rw [List.take_of_length_le (Nat.le_refl _), List.take_of_length_le (Nat.le_refl _), List.map_cons, List.sum_cons]
/-- how much room the lines of a proof take -/
theorem rPf_room {g : Int → Int} {e : Int} : ∀ (f : Nat) (p : Int), p ≤ e → (rPf g e f p).2.2 = 0 → 5 * (offL (rPf g e f p).1 (rPf g e f p).1.length : Int) + 2 * ((rPf g e f p).1.length : Nat) ≤ e - p
  | 0, p, h, _ => by
    rw [rPf]
    have : offL ([] : List LN) ([] : List LN).length = 0 := rfl
    simp only
    rw [this]
    simp
    omega
  | f + 1, p, h, h0 => by
    have lb := rLn_b (g := g) (w := 0) h
    rw [rPf] at h0 ⊢
    split at h0
    · next hc =>
      rw [if_pos hc]
      have u := rLn_5 h hc.1
      have ih := rPf_room f (rLn g e p 0).2.1 lb.2.1 h0
      simp only
      rw [offL_cons, List.length_cons]
      omega
    · next hc =>
      rw [if_neg hc]
      have u := rLn_5 h h0
      simp only
      rw [offL_cons, List.length_singleton]
      have : offL ([] : List LN) ([] : List LN).length = 0 := rfl
      rw [this]
      omega
/-- a literal so by a way -/
def soW (q : List LT) (J : List Int) (f : Int → Int) : Prop := ∃ z ∈ q, z.2.1 ∈ J ∧ ((f z.2.1 = z.2.2) ↔ z.1 = 0)
theorem fit_dn {Z : PZ} (ho : pz_ok Z) {q : List LT} (hq : ltg Z q) {J : List Int} (hJ : ∀ c ∈ J, 0 ≤ c ∧ c < Z.1 * Z.2.1) {f : Int → Int} : fit (dnS Z q) J f ↔ fit (s_free Z) J f ∧ ¬ soW q J f := by
  have h9 := pz_n ho
  have h4 := ho.2.2.2.2.2.1
  have h1' := ho.2.2.2.2.1
  have fr : ∀ c ∈ J, ∀ y : Nat, y < 4 → ((s_free Z c.toNat).testBit y = true ↔ (y : Int) < Z.2.2.1) := fun c hc y hy => by
    have := hJ c hc
    unfold s_free
    rw [if_pos (by omega), Nat.testBit_two_pow_sub_one, decide_eq_true_eq]
    omega
  constructor
  · intro h
    refine ⟨fun c hc => ?_, fun hs => ?_⟩
    · have hj := hJ c hc
      obtain ⟨a1, a2, a3⟩ := sym4_mem.mp (h c hc)
      have := ((dnS_bit (by omega) (by omega)).mp a3).1
      exact sym4_mem.mpr ⟨a1, a2, (fr c hc _ (by omega)).mpr this⟩
    · obtain ⟨z, hz, hzJ, hi⟩ := hs
      have hj := hJ _ hzJ
      obtain ⟨b1, b2, b3, b4, b5, b6, b7⟩ := lt_b ho hq hz
      obtain ⟨a1, a2, a3⟩ := sym4_mem.mp (h _ hzJ)
      obtain ⟨c1, c2, c3⟩ := (dnS_bit (by omega) (by omega)).mp a3
      by_cases hz0 : z.1 = 0
      · have e := hi.mpr hz0
        refine c2 (ltM_bit.mpr ⟨z, hz, decide_eq_true hz0, ltg_lin hq z hz, b3.symm, ?_⟩)
        rw [e]
      · have hb : (ltM Z false q z.2.1.toNat).testBit z.2.2.toNat = true := ltM_bit.mpr ⟨z, hz, decide_eq_false hz0, ltg_lin hq z hz, b3.symm, rfl⟩
        rcases c3 with c3 | c3
        · rw [c3, Nat.zero_testBit] at hb
          cases hb
        · rw [c3, pow_bit, decide_eq_true_eq] at hb
          exact hz0 (hi.mp (by omega))
  · rintro ⟨h, hs⟩ c hc
    have hj := hJ c hc
    obtain ⟨a1, a2, a3⟩ := sym4_mem.mp (h c hc)
    refine sym4_mem.mpr ⟨a1, a2, (dnS_bit (by omega) (by omega)).mpr ⟨(fr c hc _ (by omega)).mp a3, fun hp => ?_, ?_⟩⟩
    · obtain ⟨z, hz, e1, e2, e3, e4⟩ := ltM_bit.mp hp
      obtain ⟨b1, b2, b3, b4, b5, b6, b7⟩ := lt_b ho hq hz
      have ec : z.2.1 = c := by omega
      exact hs ⟨z, hz, by rw [ec]; exact hc, ⟨fun _ => of_decide_eq_true e1, fun _ => by rw [ec]; omega⟩⟩
    · by_cases h0 : ltM Z false q c.toNat = 0
      · exact Or.inl h0
      · right
        have all : ∀ t, (ltM Z false q c.toNat).testBit t = true → t = (f c).toNat := fun t ht => by
          obtain ⟨z, hz, e1, e2, e3, e4⟩ := ltM_bit.mp ht
          obtain ⟨b1, b2, b3, b4, b5, b6, b7⟩ := lt_b ho hq hz
          have ec : z.2.1 = c := by omega
          have hz0 := of_decide_eq_false e1
          by_cases he : f c = z.2.2
          · omega
          · exact absurd ⟨z, hz, by rw [ec]; exact hc, ⟨fun h => by rw [ec] at h; exact absurd h he, fun h => absurd h hz0⟩⟩ hs
        obtain ⟨t, ht⟩ := Nat.exists_testBit_of_ne_zero h0
        have et := all t ht
        refine Nat.eq_of_testBit_eq (fun i => ?_)
        rw [pow_bit, Bool.eq_iff_iff, decide_eq_true_eq]
        constructor
        · exact all i
        · intro hi
          rw [hi, ← et]
          exact ht
section MCK
variable {kc : List va_E} {d : Nat} {Q : Option fx_V → fx_M → Prop} {Z : PZ} {A : List LN}
theorem mls_fr {M N : fx_M} (h : mls Z M A) (f24 : N 133 24 = M 133 24) (f : ∀ b j, 138 ≤ b → b ≤ 142 → N b j = M b j) : mls Z N A := by
  obtain ⟨a1, a2, a3⟩ := h
  refine ⟨by rw [f24]; exact a1, fun i hi => by rw [f _ _ (by omega) (by omega)]; exact a2 i hi, fun i x hx => ?_⟩
  obtain ⟨b1, b2, b3, b4⟩ := a3 i x hx
  exact ⟨by rw [f _ _ (by omega) (by omega)]; exact b1, by rw [f _ _ (by omega) (by omega)]; exact b2, fun h => by rw [f _ _ (by omega) (by omega)]; exact b3 h, fun j z hz => by rw [f _ _ (by omega) (by omega)]; exact b4 j z hz⟩
/-- the lines have room -/
abbrev rooA (A : List LN) : Prop := A.length ≤ 3090 ∧ offL A A.length ≤ 1290
theorem off_end {i : Nat} {x : LN} (hx : A[i]? = some x) : offL A i + x.2.2.2.length ≤ offL A A.length := by
  have h1 := offL_le hx
  have hi := (List.getElem?_eq_some_iff.mp hx).1
  have h2 := offL_mono (A := A) (k := A.length - (i + 1)) (i := i + 1) (by omega)
  rw [show i + 1 + (A.length - (i + 1)) = A.length by omega] at h2
  omega
theorem sp_lits {M : fx_M} (h : mls Z M A) (hr : rooA A) {i : Nat} {x : LN} (hx : A[i]? = some x) (K : Q (some (jI (x.2.2.2.length : Nat))) M) : wc kc (d + 1) 394 [jR 133, jI i] M Q := by
  have hi := (List.getElem?_eq_some_iff.mp hx).1
  have e1 := h.2.1 i (by omega)
  have e2 := h.2.1 (i + 1) (by omega)
  have e3 := offL_le hx
  rw [show ((i + 1 : Nat) : Int) = (i : Int) + 1 by omega] at e2
  refine s394 ⟨⟨by omega, by omega⟩, ⟨by omega, by omega⟩, ?_⟩
  rw [e1, e2, show ((offL A (i + 1) : Nat) : Int) - (offL A i : Nat) = (x.2.2.2.length : Nat) by omega]
  exact K
theorem sp_litAt {M : fx_M} (h : mls Z M A) (hr : rooA A) {i : Nat} {x : LN} (hx : A[i]? = some x) {j : Nat} {z : LT} (hz : x.2.2.2[j]? = some z) (K : Q (some (jI (lcd Z z))) M) : wc kc (d + 1) 395 [jR 133, jI i, jI j] M Q := by
  have hi := (List.getElem?_eq_some_iff.mp hx).1
  have hj := (List.getElem?_eq_some_iff.mp hz).1
  have e1 := h.2.1 i (by omega)
  have e3 := off_end hx
  refine s395 ?_
  rw [e1, (h.2.2 i x hx).2.2.2 j z hz]
  exact ⟨⟨by omega, by omega⟩, ⟨by omega, by omega⟩, K⟩
theorem lcd_b (ho : pz_ok Z) {z : LT} (hz : 0 ≤ z.2.1 ∧ z.2.1 < 1000 ∧ 0 ≤ z.2.2 ∧ z.2.2 < 1000) : -1 ≤ lcd Z z ∧ lcd Z z ≤ 100 ∧ (0 ≤ lcd Z z ↔ lin Z z) := by
  have h9 := pz_n ho
  have h4 := ho.2.2.2.2.2.1
  unfold lcd
  by_cases hl : lin Z z
  · obtain ⟨l1, l2⟩ := hl
    rw [if_pos ⟨l1, l2⟩]
    split
    · exact ⟨by omega, by omega, ⟨fun _ => ⟨l1, l2⟩, fun _ => by omega⟩⟩
    · exact ⟨by omega, by omega, ⟨fun _ => ⟨l1, l2⟩, fun _ => by omega⟩⟩
  · rw [if_neg hl]
    exact ⟨by omega, by omega, ⟨fun h => by omega, fun h => absurd h hl⟩⟩
theorem lcd_eq (ho : pz_ok Z) {z : LT} (hz : 0 ≤ z.2.1 ∧ 0 ≤ z.2.2) (hl : lin Z z) : lcd Z z = (if z.1 = 0 then 1 else 0) + 2 * z.2.2 + 8 * z.2.1 ∧ lcd Z z / 8 = z.2.1 ∧ lcd Z z / 2 % 4 = z.2.2 ∧ (lcd Z z % 2 = 1 ↔ z.1 = 0) ∧ 0 ≤ lcd Z z ∧ lcd Z z ≤ 100 := by
  have h9 := pz_n ho
  have h4 := ho.2.2.2.2.2.1
  obtain ⟨l1, l2⟩ := hl
  unfold lcd
  rw [if_pos ⟨l1, l2⟩]
  by_cases h0 : z.1 = 0
  · rw [if_pos h0]
    exact ⟨rfl, by omega, by omega, by omega, by omega, by omega⟩
  · rw [if_neg h0]
    exact ⟨rfl, by omega, by omega, ⟨fun h => by omega, fun h => absurd h h0⟩, by omega, by omega⟩
theorem lcd_ltn (ho : pz_ok Z) {z w : LT} (hz : 0 ≤ z.2.1 ∧ 0 ≤ z.2.2) (hw : 0 ≤ w.2.1 ∧ 0 ≤ w.2.2) (lz : lin Z z) (lw : lin Z w) : lcd Z z = lcd Z w ↔ ltn z = ltn w := by
  obtain ⟨a1, a2, a3, a4, _, _⟩ := lcd_eq ho hz lz
  obtain ⟨b1, b2, b3, b4, _, _⟩ := lcd_eq ho hw lw
  constructor
  · intro e
    rw [e] at a2 a3 a4
    unfold ltn
    have e2 : z.2 = w.2 := Prod.ext (by omega) (by omega)
    rw [e2]
    by_cases h0 : z.1 = 0
    · rw [if_pos h0, if_pos (b4.mp (a4.mpr h0))]
    · rw [if_neg h0, if_neg (fun h => h0 (a4.mp (b4.mpr h)))]
  · intro e
    unfold ltn at e
    have e1 := (Prod.mk.inj e).1
    have e2 := (Prod.mk.inj e).2
    rw [a1, b1]
    by_cases h0 : z.1 = 0
    · rw [if_pos h0] at e1 ⊢
      by_cases h1 : w.1 = 0
      · rw [if_pos h1, e2]
      · rw [if_neg h1] at e1
        omega
    · rw [if_neg h0] at e1 ⊢
      by_cases h1 : w.1 = 0
      · rw [if_pos h1] at e1
        omega
      · rw [if_neg h1, e2]
end MCK
