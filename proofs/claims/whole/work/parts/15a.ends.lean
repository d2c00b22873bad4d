/-! READING at the end; tapes; what stands at the start. -/
theorem chl_end {g : Int → Int} {e p : Int} (h : e ≤ p) : ∀ (cs : List Int) (b l r i n : Int), 0 ≤ l → 0 ≤ r → 0 ≤ n → chl g e p cs b l r i n 0 = (b, l, r)
  | [], b, l, r, i, n, hl, hr, hn => by
    have e1 : ch_b b l i n 0 = b := by
      unfold ch_b
      (repeat' split) <;> first | rfl | omega
    have e2 : ch_l l n 0 = l := by
      unfold ch_l
      (repeat' split) <;> first | rfl | omega
    have e3 : ch_r r 0 = r := by
      unfold ch_r
      (repeat' split) <;> first | rfl | omega
    show (ch_b b l i n 0, ch_l l n 0, ch_r r 0) = (b, l, r)
    rw [e1, e2, e3]
  | c :: cs, b, l, r, i, n, hl, hr, hn => by
    have e1 : ch_b b l i n 0 = b := by
      unfold ch_b
      (repeat' split) <;> first | rfl | omega
    have e2 : ch_l l n 0 = l := by
      unfold ch_l
      (repeat' split) <;> first | rfl | omega
    have e3 : ch_r r 0 = r := by
      unfold ch_r
      (repeat' split) <;> first | rfl | omega
    have e4 : ch_k g e p c n 0 = 0 := by
      unfold ch_k
      (repeat' split) <;> first | rfl | omega
    unfold chl
    rw [e1, e2, e3, e4]
    split
    · exact chl_end h cs b l r (i + 1) 0 hl hr (by omega)
    · exact chl_end h cs b l r i (n + 1) hl hr (by omega)
theorem chs_end {g : Int → Int} {e p : Int} (h : e ≤ p) (bs : List Int32) : chs g e p bs = (-1, 0, 0) := chl_end h _ _ _ _ _ _ (by omega) (by omega) (by omega)
theorem chl_congr {g g' : Int → Int} {e p : Int} (h : ∀ q, p ≤ q → q < e → g q = g' q) : ∀ (cs : List Int) (b l r i n k : Int), 0 ≤ k → chl g e p cs b l r i n k = chl g' e p cs b l r i n k
  | [], b, l, r, i, n, k, hk => rfl
  | c :: cs, b, l, r, i, n, k, hk => by
    have e4 : ch_k g e p c n k = ch_k g' e p c n k := by
      unfold ch_k
      by_cases h1 : k = n
      · by_cases h2 : p + k < e
        · rw [if_pos h1, if_pos h1, if_pos h2, if_pos h2, h (p + k) (by omega) h2]
        · rw [if_pos h1, if_pos h1, if_neg h2, if_neg h2]
      · rw [if_neg h1, if_neg h1]
    unfold chl
    rw [e4]
    split
    · exact chl_congr h cs _ _ _ _ _ _ (by omega)
    · refine chl_congr h cs _ _ _ _ _ _ ?_
      rcases ch_k_le (g := g') (e := e) (p := p) (c := c) (n := n) (k := k) with h | ⟨h, -, -⟩ <;> omega
theorem chs_congr {g g' : Int → Int} {e p : Int} (h : ∀ q, p ≤ q → q < e → g q = g' q) (bs : List Int32) : chs g e p bs = chs g' e p bs := chl_congr h _ _ _ _ _ _ _ (by omega)
theorem cpl_end0 {g : Int → Int} {e p : Int} (h : e ≤ p) (cs : List Int) : cpl g e cs p = 0 := by
  cases cs with
  | nil => rfl
  | cons c cs =>
    unfold cpl
    rw [if_neg (by omega)]
theorem cpl_congr {g g' : Int → Int} {e : Int} : ∀ (cs : List Int) (p : Int), (∀ q, p ≤ q → q < e → g q = g' q) → cpl g e cs p = cpl g' e cs p
  | [], _, _ => rfl
  | c :: cs, p, h => by
    unfold cpl
    by_cases hp : p < e
    · rw [if_pos hp, if_pos hp, h p (by omega) hp, cpl_congr cs (p + 1) (fun q h1 h2 => h q (by omega) h2)]
    · rw [if_neg hp, if_neg hp]
theorem wln_pos {k : Int} (h0 : 0 ≤ k) (h1 : k < 57) : 0 < wln (wrd k) := by
  have h : ∀ n : Fin 57, 0 < wln (wrd ((n : Nat) : Int)) := by decide +kernel
  have := h ⟨k.toNat, by omega⟩
  rwa [show ((k.toNat : Nat) : Int) = k by omega] at this
theorem swl_end {g : Int → Int} {e p : Int} (h : e ≤ p) : ∀ (n : Nat) (k r f : Int), 0 ≤ k → k + n ≤ 57 → 0 ≤ r → swl g e p n k r f = (f, r)
  | 0, k, r, f, _, _, _ => rfl
  | n + 1, k, r, f, hk, hn, hr => by
    have hp := wln_pos hk (by omega)
    have e1 : sw_f g e p k f = f := by
      unfold sw_f
      rw [cpl_end0 h, if_neg (by omega)]
    have e2 : sw_r g e p k r = r := by
      unfold sw_r
      rw [cpl_end0 h, if_neg (by omega)]
    unfold swl
    rw [e1, e2]
    exact swl_end h n (k + 1) r f (by omega) (by omega) hr
theorem swl_congr {g g' : Int → Int} {e p : Int} (h : ∀ q, p ≤ q → q < e → g q = g' q) : ∀ (n : Nat) (k r f : Int), swl g e p n k r f = swl g' e p n k r f
  | 0, _, _, _ => rfl
  | n + 1, k, r, f => by
    have e1 : sw_f g e p k f = sw_f g' e p k f := by
      unfold sw_f
      rw [cpl_congr _ p h]
    have e2 : sw_r g e p k r = sw_r g' e p k r := by
      unfold sw_r
      rw [cpl_congr _ p h]
    unfold swl
    rw [e1, e2]
    exact swl_congr h n _ _ _
theorem o_app_len {o : Nat} : ∀ {cs : List Int} {M : fx_M}, M o 1 + cs.length ≤ (fx_ol o : Nat) → (o_app M o cs) o 1 = M o 1 + cs.length
  | [], M, _ => by simp [o_app]
  | c :: cs, M, h => by
    have hl : ((c :: cs).length : Int) = cs.length + 1 := by simp
    have e : (o_put M o c) o 1 = M o 1 + 1 := by
      unfold o_put
      rw [if_pos (by omega), fx_up_self]
    have := o_app_len (o := o) (cs := cs) (M := o_put M o c) (by rw [e]; omega)
    show (o_app (o_put M o c) o cs) o 1 = _
    rw [this, e]
    omega
theorem m_app_len : ∀ {cs : List Int} {M : fx_M}, M 133 5 + cs.length ≤ 6000 → (m_app M cs) 133 5 = M 133 5 + cs.length
  | [], M, _ => by simp [m_app]
  | c :: cs, M, h => by
    have hl : ((c :: cs).length : Int) = cs.length + 1 := by simp
    have e : (m_put M c) 133 5 = M 133 5 + 1 := by
      unfold m_put
      rw [if_neg (by omega), fx_up_self]
    have := m_app_len (cs := cs) (M := m_put M c) (by rw [e]; omega)
    show (m_app (m_put M c) cs) 133 5 = _
    rw [this, e]
    omega
theorem o_app_ne {o b : Nat} {j : Int} (h1 : b ≠ o) (h2 : b ≠ o + 1) : ∀ {cs : List Int} {M : fx_M}, (o_app M o cs) b j = M b j
  | [], M => rfl
  | c :: cs, M => by
    show (o_app (o_put M o c) o cs) b j = M b j
    rw [o_app_ne h1 h2]
    unfold o_put
    split
    · rw [fx_up_na h1, fx_up_na h2]
    · rfl
theorem m_app_ne {b : Nat} {j : Int} (h1 : ¬ (b = 133 ∧ j = 5)) (h2 : b ≠ 136) : ∀ {cs : List Int} {M : fx_M}, (m_app M cs) b j = M b j
  | [], M => rfl
  | c :: cs, M => by
    show (m_app (m_put M c) cs) b j = M b j
    rw [m_app_ne h1 h2]
    unfold m_put
    split
    · rfl
    · rw [fx_up_ne h1, fx_up_na h2]
noncomputable def fx_inl (a k : Nat) : Bool := match xLay[a]? with
  | some s => decide (k < fx_n0 s)
  | none => false
theorem st_get {M : fx_M} (h : fx_st M) (a k : Nat) {v : Int} (hc : fx_inl a k = true) (hv : fx_i0 a k = v) : M a (k : Int) = v := by
  unfold fx_inl at hc
  split at hc
  · next s hs =>
    rw [h a k s hs (of_decide_eq_true hc), hv]
  · cases hc
theorem st_arr {M : fx_M} (h : fx_st M) {a t n : Nat} (ha : fx_a a = some (t, n)) {j : Int} (h0 : 0 ≤ j) (h1 : j < n) : M a j = fx_i0 a j.toNat := by
  have := h a j.toNat _ (fx_a_inv ha) (by
    show j.toNat < n
    omega)
  rwa [show ((j.toNat : Nat) : Int) = j by omega] at this
/-! the tape -/
def tp1 (M : fx_M) (c : Int) : fx_M := fx_up (fx_up M 1 (M 0 1) c) 0 1 (M 0 1 + 1)
def tpb (x s : Int) : Int := fx_and (fx_ushr x s) 255 % 65536
def tp4 (M : fx_M) (x : Int) : fx_M := tp1 (tp1 (tp1 (tp1 M (tpb x 24)) (tpb x 16)) (tpb x 8)) (tpb x 0)
theorem tp1_len (M : fx_M) (c : Int) : (tp1 M c) 0 1 = M 0 1 + 1 := fx_up_self _ _ _ _
theorem tp4_len (M : fx_M) (x : Int) : (tp4 M x) 0 1 = M 0 1 + 4 := by
  unfold tp4
  rw [tp1_len, tp1_len, tp1_len, tp1_len]
  omega
def tm1 (M : fx_M) (c : Int) : fx_M := fx_up (fx_up M 134 (M 133 1) c) 133 1 (M 133 1 + 1)
def tmb (x k : Int) : Int := fx_and (fx_shr x (8 * k)) 255
def tm4 (M : fx_M) (x : Int) : fx_M := tm1 (tm1 (tm1 (tm1 M (tmb x 3)) (tmb x 2)) (tmb x 1)) (tmb x 0)
theorem tm1_len (M : fx_M) (c : Int) : (tm1 M c) 133 1 = M 133 1 + 1 := fx_up_self _ _ _ _
theorem tm4_len (M : fx_M) (x : Int) : (tm4 M x) 133 1 = M 133 1 + 4 := by
  unfold tm4
  rw [tm1_len, tm1_len, tm1_len, tm1_len]
  omega
section TAP
variable {kc : List va_E} {d : Nat} {M : fx_M} {Q : Option fx_V → fx_M → Prop}
theorem tape_in {x s : Int} : 0 ≤ tpb x s ∧ tpb x s ≤ 65535 := by
  unfold tpb
  omega
theorem tape_one {x s t : Int} (hs : 0 ≤ s ∧ s ≤ 24) (ht : 0 ≤ M 0 1 ∧ M 0 1 < 3200) (e : t = s + (-8)) (K : wp kc (d + 1) 15 3 [some (jR 0), some (jI x), some (jI t)] [] (tp1 M (tpb x s)) Q) : wp kc (d + 1) 15 3 [some (jR 0), some (jI x), some (jI s)] [] M Q := by
  subst e
  exact s15_3 ⟨⟨by omega, by omega⟩, fun h => by omega, fun _ => ⟨⟨ht, tape_in⟩, K⟩⟩
theorem sp_tape {x : Int} (ht : 0 ≤ M 0 1 ∧ M 0 1 ≤ 3196) (K : Q none (tp4 M x)) : wc kc (d + 1) 15 [jR 0, jI x] M Q := by
  refine s15 (tape_one (t := 16) ⟨by omega, by omega⟩ ⟨by omega, by omega⟩ rfl (tape_one (t := 8) ⟨by omega, by omega⟩ ?_ rfl (tape_one (t := 0) ⟨by omega, by omega⟩ ?_ rfl (tape_one (t := -8) ⟨by omega, by omega⟩ ?_ rfl ?_))))
  · rw [tp1_len]
    omega
  · rw [tp1_len, tp1_len]
    omega
  · rw [tp1_len, tp1_len, tp1_len]
    omega
  · exact s15_3 ⟨⟨by omega, by omega⟩, fun _ => K, fun h => by omega⟩
theorem mtape_one {x s t : Int} (hs : 0 ≤ s ∧ s ≤ 3) (ht : 0 ≤ M 133 1 ∧ M 133 1 < 3200) (e : t = s + (-1)) (K : wp kc (d + 1) 217 2 [some (jR 133), some (jI x), some (jI t)] [] (tm1 M (tmb x s)) Q) : wp kc (d + 1) 217 2 [some (jR 133), some (jI x), some (jI s)] [] M Q := by
  subst e
  exact s217_2 ⟨⟨by omega, by omega⟩, fun h => by omega, fun _ => ⟨ht, K⟩⟩
theorem sp_mtape {x : Int} (ht : 0 ≤ M 133 1 ∧ M 133 1 ≤ 3196) (K : Q none (tm4 M x)) : wc kc (d + 1) 217 [jR 133, jI x] M Q := by
  refine s217 (mtape_one (t := 2) ⟨by omega, by omega⟩ ⟨by omega, by omega⟩ rfl (mtape_one (t := 1) ⟨by omega, by omega⟩ ?_ rfl (mtape_one (t := 0) ⟨by omega, by omega⟩ ?_ rfl (mtape_one (t := -1) ⟨by omega, by omega⟩ ?_ rfl ?_))))
  · rw [tm1_len]
    omega
  · rw [tm1_len, tm1_len]
    omega
  · rw [tm1_len, tm1_len, tm1_len]
    omega
  · exact s217_2 ⟨⟨by omega, by omega⟩, fun _ => K, fun h => by omega⟩
/-- feed of the class, of the reference -/
def tp20 (M : fx_M) (a b c x e : Int) : fx_M := tp4 (tp4 (tp4 (tp4 (tp4 M a) b) c) x) e
def tm20 (M : fx_M) (a b c x e : Int) : fx_M := tm4 (tm4 (tm4 (tm4 (tm4 (fx_up M 133 0 0) a) b) c) x) e
theorem sp_feed {a b c x e : Int} (ht : 0 ≤ M 0 1 ∧ M 0 1 ≤ 3200) (K1 : M 0 1 + 20 ≤ 3200 → Q (some (jI (M 0 1 + 20))) (tp20 M a b c x e)) (K2 : 3200 < M 0 1 + 20 → Q (some (jI (-1))) M) : wc kc (d + 2) 14 [jR 0, jI a, jI b, jI c, jI x, jI e] M Q := by
  refine s14 ⟨⟨by omega, by omega⟩, fun h => ?_, K2⟩
  refine sp_tape ⟨by omega, by omega⟩ (s14_20 (sp_tape ?_ (s14_25 (sp_tape ?_ (s14_30 (sp_tape ?_ (s14_36 (sp_tape ?_ (s14_42 ?_)))))))))
  · rw [tp4_len]
    omega
  · rw [tp4_len, tp4_len]
    omega
  · rw [tp4_len, tp4_len, tp4_len]
    omega
  · rw [tp4_len, tp4_len, tp4_len, tp4_len]
    omega
  · rw [tp4_len, tp4_len, tp4_len, tp4_len, tp4_len, show M 0 1 + 4 + 4 + 4 + 4 + 4 = M 0 1 + 20 by omega]
    exact K1 h
theorem sp_mfeed {a b c x e : Int} (ht : 0 ≤ M 133 1 ∧ M 133 1 ≤ 3200) (K1 : M 133 1 + 20 ≤ 3200 → Q (some (jI (M 133 1 + 20))) (tm20 M a b c x e)) (K2 : 3200 < M 133 1 + 20 → Q (some (jI (-1))) (fx_up M 133 0 0)) : wc kc (d + 2) 216 [jR 133, jI a, jI b, jI c, jI x, jI e] M Q := by
  have e0 : (fx_up M 133 0 0) 133 1 = M 133 1 := fx_up_nk (by decide)
  refine s216 ⟨⟨by omega, by omega⟩, fun h => ?_, K2⟩
  refine sp_mtape ?_ (s216_25 (sp_mtape ?_ (s216_30 (sp_mtape ?_ (s216_35 (sp_mtape ?_ (s216_41 (sp_mtape ?_ (s216_47 ?_)))))))))
  · rw [e0]
    omega
  · rw [tm4_len, e0]
    omega
  · rw [tm4_len, tm4_len, e0]
    omega
  · rw [tm4_len, tm4_len, tm4_len, e0]
    omega
  · rw [tm4_len, tm4_len, tm4_len, tm4_len, e0]
    omega
  · rw [tm4_len, tm4_len, tm4_len, tm4_len, tm4_len, e0, show M 133 1 + 4 + 4 + 4 + 4 + 4 = M 133 1 + 20 by omega]
    exact K1 h
end TAP
