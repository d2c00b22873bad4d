/-! THE REFERENCE'S READING: here, isByte, words. g: the request, e: its size, p: the place. -/
/-- the reference's words -/
def wrd (k : Int) : Int := ([7234935, 1920298085, 1700881256, 1734964837, 1685221232, 1952807028, 1819238756, 27424514944365171, 1835101817, 1885954923, 482956244581, 426953237355, 444300616805, 1751740020, 1937007984, 495790618213, 499917087592, 427020088168, 465557353332, 1835101029, 1718579821, 1986097785, 1718185572, 427071792498, 108170671449444, 123581014175598, 7370100, 1970168943, 1919247471, 495873782885, 1835102827, 469786323827, 513021013607, 27988542884246388, 7562612, 126947999705460, 499850046565, 1801807216, 1869636974, 125779953284709, 1818850164, 6518132, 1835363940, 111567956832884, 115918758703732, 129117125700453, 418430675813, 117026742756708, 1919513445, 7566701, 427071729268, 418497262196, 1936024942, 7499639, 109330212154734, 1885432178, 1651470187] : List Int).getD k.toNat 0
def cpl (g : Int → Int) (e : Int) : List Int → Int → Nat
  | [], _ => 0
  | c :: cs, p => if p < e then (if g p = c then cpl g e cs (p + 1) + 1 else 0) else 0
theorem cpl_le (g : Int → Int) (e : Int) : ∀ (cs : List Int) (p : Int), cpl g e cs p ≤ cs.length
  | [], _ => Nat.le_refl _
  | c :: cs, p => by
    unfold cpl
    have := cpl_le g e cs (p + 1)
    (repeat' split) <;> simp <;> omega
theorem cpl_end (g : Int → Int) (e : Int) : ∀ (cs : List Int) (p : Int), p ≤ e → p + cpl g e cs p ≤ e
  | [], _, h => by
    show _ + ((0 : Nat) : Int) ≤ e
    omega
  | c :: cs, p, h => by
    unfold cpl
    split
    · split
      · have := cpl_end g e cs (p + 1) (by omega)
        omega
      · omega
    · omega
/-- the reference's place and request are within -/
def ms_at (M : fx_M) : Prop := 0 ≤ M 133 7 ∧ M 133 7 ≤ M 133 3 ∧ M 133 3 ≤ 6100 ∧ ∀ j : Int, 0 ≤ j → j < M 133 3 → 0 ≤ M 135 j ∧ M 135 j ≤ 65535
/-- the words k, k + 1 ..: found, reached -/
def sw_f (g : Int → Int) (e p k f : Int) : Int := if (cpl g e (wls (wrd k)) p : Int) = wln (wrd k) then (if f < 0 then k else if (wln (wrd f) : Int) < wln (wrd k) then k else f) else f
def sw_r (g : Int → Int) (e p k r : Int) : Int := if r < cpl g e (wls (wrd k)) p then cpl g e (wls (wrd k)) p else r
def swl (g : Int → Int) (e p : Int) : Nat → Int → Int → Int → Int × Int
  | 0, _, r, f => (f, r)
  | n + 1, k, r, f => swl g e p n (k + 1) (sw_r g e p k r) (sw_f g e p k f)
theorem wls_len (w : Int) : (wls w).length = wln w := by
  unfold wls
  simp
theorem wrd_ok {k : Int} (h0 : 0 ≤ k) (h1 : k < 57) : w_ok (wrd k) := by
  have h : ∀ n : Fin 57, w_ok (wrd ((n : Nat) : Int)) := by
    unfold w_ok
    decide +kernel
  have := h ⟨k.toNat, by omega⟩
  rwa [show ((k.toNat : Nat) : Int) = k by omega] at this
section MRD
variable {kc : List va_E} {d : Nat} {M : fx_M} {Q : Option fx_V → fx_M → Prop}
theorem sp_here (h : ms_at M) (K : Q (some (jI (if M 133 7 < M 133 3 then M 135 (M 133 7) else -1))) M) : wc kc (d + 1) 228 [jR 133] M Q := by
  obtain ⟨h1, h2, h3, h4⟩ := h
  exact s228 ⟨⟨by omega, by omega⟩, ⟨by omega, by omega⟩, fun _ => ⟨by omega, by omega⟩, K⟩
theorem here_in (h : ms_at M) : fx_in32 (if M 133 7 < M 133 3 then M 135 (M 133 7) else -1) := by
  obtain ⟨h1, h2, h3, h4⟩ := h
  split
  · have := h4 (M 133 7) h1 (by omega)
    exact ⟨by omega, by omega⟩
  · exact ⟨by omega, by omega⟩
/-- isByte of a byte -/
theorem sp_isByte {c : Int} (h : ms_at M) (hc : 0 ≤ c ∧ c ≤ 65535) (K1 : M 133 7 < M 133 3 → M 135 (M 133 7) = c → Q (some (jI 1)) (fx_up M 133 7 (M 133 7 + 1))) (K2 : ¬ (M 133 7 < M 133 3 ∧ M 135 (M 133 7) = c) → Q (some (jI 0)) M) : wc kc (d + 2) 227 [jR 133, jI c] M Q := by
  refine s227 (sp_here h (s227_4 ⟨⟨here_in h, by omega, by omega⟩, fun e => ?_, fun e => ?_⟩))
  · by_cases hp : M 133 7 < M 133 3
    · rw [if_pos hp] at e
      exact K1 hp e
    · rw [if_neg hp] at e
      omega
  · refine K2 fun hp => e ?_
    rw [if_pos hp.1]
    exact hp.2
theorem sp_word {k : Int} (h0 : 0 ≤ k) (h1 : k < 57) (K : Q (some (jL (wrd k))) M) : wc kc (d + 1) 221 [jI k] M Q := by
  refine s221 ?_
  refine ⟨⟨by omega, by omega⟩, ?_⟩
  refine ⟨?_, ?_, ?_, ?_, ?_, ?_, ?_, ?_, ?_, ?_, ?_, ?_, ?_, ?_, ?_, ?_, ?_, ?_, ?_, ?_, ?_, ?_, ?_, ?_, ?_, ?_, ?_, ?_, ?_, ?_, ?_, ?_, ?_, ?_, ?_, ?_, ?_, ?_, ?_, ?_, ?_, ?_, ?_, ?_, ?_, ?_, ?_, ?_, ?_, ?_, ?_, ?_, ?_, ?_, ?_, ?_, fun h => ?_⟩
  all_goals first | (intro h; subst h; exact K) | skip
  have h57 : k = 56 := by omega
  subst h57
  exact K
theorem let_loop {w : Int} (hw : w_ok w) (h : ms_at M) : ∀ (k j : Nat), j + k = wln w → M 133 7 + j ≤ M 133 3 → Q (some (jI ((j : Int) + cpl (M 135) (M 133 3) ((wls w).drop j) (M 133 7 + j)))) M → wp kc (d + 3) 222 2 [some (jR 133), some (jL w), none, some (jI j)] [] M Q
  | 0, j, hj, hp, K => by
    have hl2 : wln w ≤ 8 := lnb_le 8 w
    have e : (wls w).drop j = [] := by
      apply List.drop_eq_nil_of_le
      rw [wls_len]
      omega
    rw [e] at K
    have K : Q (some (jI ((j : Int) + 0))) M := K
    rw [Int.add_zero] at K
    exact s222_2 (sp_lengthOf hw (s222_7 ⟨⟨⟨by omega, by omega⟩, ⟨by omega, by omega⟩⟩, fun _ => K, fun h => by omega⟩))
  | k + 1, j, hj, hp, K => by
    have hl2 : wln w ≤ 8 := lnb_le 8 w
    have hm := h
    obtain ⟨h1, h2, h3, h4⟩ := hm
    rw [wls_drop (by omega)] at K
    unfold cpl at K
    refine s222_2 (sp_lengthOf hw (s222_7 ⟨⟨⟨by omega, by omega⟩, ⟨by omega, by omega⟩⟩, fun h => by omega, fun _ => ⟨⟨⟨by omega, by omega⟩, ⟨by omega, by omega⟩⟩, fun hp => ?_, fun hp => ⟨⟨by omega, by omega⟩, sp_letterOf hw ⟨by omega, by omega⟩ ?_⟩⟩⟩))
    · rw [if_neg (by omega)] at K
      have K : Q (some (jI ((j : Int) + 0))) M := K
      rw [Int.add_zero] at K
      exact K
    · rw [if_pos hp] at K
      have hg := h4 (M 133 7 + j) (by omega) (by omega)
      have hlt : 0 ≤ wlt w j ∧ wlt w j < 256 := by
        unfold wlt
        omega
      refine s222_39 ⟨⟨⟨by omega, by omega⟩, ⟨by omega, by omega⟩⟩, fun hne => ?_, fun he => ?_⟩
      · rw [if_neg hne] at K
        have K : Q (some (jI ((j : Int) + 0))) M := K
        rw [Int.add_zero] at K
        exact K
      · rw [if_pos he] at K
        have e1 : ((j + 1 : Nat) : Int) = (j : Int) + 1 := by omega
        have ih := let_loop hw h k (j + 1) (by omega) (by omega) (by
          rw [e1]
          have e2 : (j : Int) + ((cpl (M 135) (M 133 3) ((wls w).drop (j + 1)) (M 133 7 + j + 1) + 1 : Nat) : Int) = (j : Int) + 1 + (cpl (M 135) (M 133 3) ((wls w).drop (j + 1)) (M 133 7 + ((j : Int) + 1)) : Nat) := by
            have : M 133 7 + (j : Int) + 1 = M 133 7 + ((j : Int) + 1) := by omega
            rw [this]
            omega
          rw [e2] at K
          exact K)
        rw [e1] at ih
        exact ih
theorem sp_lettersHere {w : Int} (hw : w_ok w) (h : ms_at M) (K : Q (some (jI (cpl (M 135) (M 133 3) (wls w) (M 133 7)))) M) : wc kc (d + 3) 222 [jR 133, jL w] M Q := by
  have h2 := h
  obtain ⟨h1, h2, h3, h4⟩ := h2
  refine s222 (let_loop hw h (wln w) 0 (by omega) (by omega) ?_)
  have e : M 133 7 + ((0 : Nat) : Int) = M 133 7 := by omega
  rw [e, List.drop_zero]
  have e2 : ((0 : Nat) : Int) + (cpl (M 135) (M 133 3) (wls w) (M 133 7) : Nat) = (cpl (M 135) (M 133 3) (wls w) (M 133 7) : Nat) := by omega
  rw [e2]
  exact K
theorem scw_exit {k r f l : Int} (hf : f < 57) (hr : 0 ≤ r ∧ r ≤ 8) (hk : l < k ∧ k ≤ 57) (hl : -1 ≤ l) (hf0 : -1 ≤ f) (K : Q (some (jI f)) (fx_up M 133 7 (M 133 7 + if f < 0 then r else (wln (wrd f) : Int)))) : wp kc (d + 4) 220 8 [some (jR 133), none, some (jI l), some (jI r), some (jI f), some (jI k), none] [] M Q := by
  refine s220_8 ⟨⟨⟨by omega, by omega⟩, ⟨by omega, by omega⟩⟩, fun _ => ⟨⟨by omega, by omega⟩, fun h0 => ?_, fun h0 => ?_⟩, fun h => by omega⟩
  · rw [if_neg (by omega)] at K
    exact sp_word h0 hf (s220_98 (sp_lengthOf (wrd_ok h0 hf) (s220_101 K)))
  · rw [if_pos h0] at K
    exact K
theorem scw_loop (h : ms_at M) {l : Int} (hl : l < 57) (hl0 : -1 ≤ l) : ∀ (n : Nat) (k r f : Int), k + n = l + 1 → 0 ≤ k → 0 ≤ r ∧ r ≤ 8 → -1 ≤ f ∧ f < k → Q (some (jI (swl (M 135) (M 133 3) (M 133 7) n k r f).1)) (fx_up M 133 7 (M 133 7 + if (swl (M 135) (M 133 3) (M 133 7) n k r f).1 < 0 then (swl (M 135) (M 133 3) (M 133 7) n k r f).2 else (wln (wrd (swl (M 135) (M 133 3) (M 133 7) n k r f).1) : Int))) → wp kc (d + 4) 220 8 [some (jR 133), none, some (jI l), some (jI r), some (jI f), some (jI k), none] [] M Q
  | 0, k, r, f, hk, hk0, hr, hf, K => scw_exit (by omega) hr (by omega) hl0 (by omega) K
  | n + 1, k, r, f, hk, hk0, hr, hf, K => by
    have hkl : k ≤ l := by omega
    have wk := wrd_ok hk0 (by omega)
    have K : Q (some (jI (swl (M 135) (M 133 3) (M 133 7) n (k + 1) (sw_r (M 135) (M 133 3) (M 133 7) k r) (sw_f (M 135) (M 133 3) (M 133 7) k f)).1)) (fx_up M 133 7 (M 133 7 + if (swl (M 135) (M 133 3) (M 133 7) n (k + 1) (sw_r (M 135) (M 133 3) (M 133 7) k r) (sw_f (M 135) (M 133 3) (M 133 7) k f)).1 < 0 then (swl (M 135) (M 133 3) (M 133 7) n (k + 1) (sw_r (M 135) (M 133 3) (M 133 7) k r) (sw_f (M 135) (M 133 3) (M 133 7) k f)).2 else (wln (wrd (swl (M 135) (M 133 3) (M 133 7) n (k + 1) (sw_r (M 135) (M 133 3) (M 133 7) k r) (sw_f (M 135) (M 133 3) (M 133 7) k f)).1) : Int))) := K
    have c1 : wln (wrd k) ≤ 8 := lnb_le 8 _
    have c2 : wln (wrd f) ≤ 8 := lnb_le 8 _
    have c3 := cpl_le (M 135) (M 133 3) (wls (wrd k)) (M 133 7)
    rw [wls_len] at c3
    have ih := scw_loop h hl hl0 n (k + 1) (sw_r (M 135) (M 133 3) (M 133 7) k r) (sw_f (M 135) (M 133 3) (M 133 7) k f) (by omega) (by omega) (by
      unfold sw_r
      split <;> omega) (by
      unfold sw_f
      (repeat' split) <;> omega) K
    refine s220_8 ⟨⟨⟨by omega, by omega⟩, ⟨by omega, by omega⟩⟩, fun h => by omega, fun _ => sp_word hk0 (by omega) (s220_20 (sp_lettersHere wk h (s220_23 (sp_word hk0 (by omega) (s220_32 (sp_lengthOf wk ?_))))))⟩
    refine s220_35 ⟨⟨⟨by omega, by omega⟩, ⟨by omega, by omega⟩⟩, fun hne => ⟨⟨by omega, by omega⟩, ⟨by omega, by omega⟩, ?_⟩, fun he => ⟨⟨by omega, by omega⟩, fun hf0 => ⟨⟨by omega, by omega⟩, ⟨by omega, by omega⟩, ?_⟩, fun hf0 => ?_⟩⟩
    · have e : sw_f (M 135) (M 133 3) (M 133 7) k f = f := by
        unfold sw_f
        rw [if_neg hne]
      rw [e] at ih
      exact ih
    · have e : sw_f (M 135) (M 133 3) (M 133 7) k f = k := by
        unfold sw_f
        rw [if_pos he, if_pos hf0]
      rw [e] at ih
      exact ih
    · refine sp_word hf0 (by omega) (s220_50 (sp_lengthOf (wrd_ok hf0 (by omega)) (s220_53 ⟨⟨by omega, by omega⟩, ⟨by omega, by omega⟩, ⟨by omega, by omega⟩, ⟨by omega, by omega⟩, ?_⟩)))
      have e : sw_f (M 135) (M 133 3) (M 133 7) k f = if (wln (wrd f) : Int) < (cpl (M 135) (M 133 3) (wls (wrd k)) (M 133 7) : Nat) then k else f := by
        unfold sw_f
        rw [if_pos he, if_neg (by omega), he]
      rw [e] at ih
      exact ih
/-- scanWord of the words a .. l -/
theorem sp_scanWord {a l : Int} (h : ms_at M) (ha : 0 ≤ a) (hal : a ≤ l) (hl : l < 57) (K : Q (some (jI (swl (M 135) (M 133 3) (M 133 7) (l + 1 - a).toNat a 0 (-1)).1)) (fx_up M 133 7 (M 133 7 + if (swl (M 135) (M 133 3) (M 133 7) (l + 1 - a).toNat a 0 (-1)).1 < 0 then (swl (M 135) (M 133 3) (M 133 7) (l + 1 - a).toNat a 0 (-1)).2 else (wln (wrd (swl (M 135) (M 133 3) (M 133 7) (l + 1 - a).toNat a 0 (-1)).1) : Int)))) : wc kc (d + 4) 220 [jR 133, jI a, jI l] M Q :=
  s220 (scw_loop h hl (by omega) (l + 1 - a).toNat a 0 (-1) (by omega) ha ⟨by omega, by omega⟩ ⟨by omega, by omega⟩ K)
end MRD
