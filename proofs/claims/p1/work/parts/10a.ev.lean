/-! RUNS WITHOUT FUEL: lx_ev. More fuel, more depth, other constants that were not read: the same answer. -/
def lx_kle (kc' kc : List va_E) : Prop := ∀ (k : Nat) (e : va_E), kc'[k]? = some e → e = .inr (999, []) ∨ kc[k]? = some e
theorem lx_at_le {kc' kc : List va_E} (hk : lx_kle kc' kc) {h : lx_H} {a : Nat} {e : va_E} (ha : lx_at kc' h a = some e) : (e = .inr (999, []) ∧ ¬ a < lx_K) ∨ lx_at kc h a = some e := by
  by_cases hl : a < lx_K
  · rw [lx_at_lt hl] at ha ⊢
    exact Or.inr ha
  · rw [lx_at_ge hl] at ha ⊢
    rcases hk _ _ ha with h1 | h1
    · exact Or.inl ⟨h1, hl⟩
    · exact Or.inr h1
section LXE
variable {kc' kc : List va_E} {m pc : Nat} {L : lx_L} {st : List Value} {h : lx_H} {q : Nat × lx_L × List Value × lx_H}
theorem lx_ald_le (hk : lx_kle kc' kc) {T : Nat → Bool} (hs : lx_ald kc' T pc L st h = some q) : lx_ald kc T pc L st h = some q := by
  obtain ⟨i, a, tl, t, n, f, rfl, ha, hT, hi, rfl⟩ := lx_ald_inv hs
  rcases lx_at_le hk ha with ⟨h1, -⟩ | h1
  · cases h1
  · unfold lx_ald
    dsimp only
    rw [h1]
    dsimp only
    rw [if_pos ⟨hT, hi⟩]
theorem lx_all_le (hk : lx_kle kc' kc) (hs : lx_all kc' pc L st h = some q) : lx_all kc pc L st h = some q := by
  obtain ⟨i, a, tl, n, f, rfl, ha, hi, rfl⟩ := lx_all_inv hs
  rcases lx_at_le hk ha with ⟨h1, -⟩ | h1
  · cases h1
  · unfold lx_all
    dsimp only
    rw [h1]
    dsimp only
    rw [if_pos ⟨rfl, hi⟩]
theorem lx_len_le (hk : lx_kle kc' kc) (hs : lx_len kc' pc L st h = some q) : lx_len kc pc L st h = some q := by
  obtain ⟨a, tl, x, rfl, ha, rfl⟩ := lx_len_inv hs
  rcases lx_at_le hk ha with ⟨h1, -⟩ | h1
  · cases h1
  · unfold lx_len
    dsimp only
    rw [h1]
theorem lx_gf_le (hk : lx_kle kc' kc) {idx : Nat} (hs : lx_gf kc' m idx pc L st h = some q) : lx_gf kc m idx pc L st h = some q := by
  obtain ⟨a, ci, k, w, tl, fs, v, rfl, hF, ha, hv, rfl⟩ := lx_gf_inv hs
  unfold lx_gf
  dsimp only
  rw [hF]
  dsimp only
  rcases ha with ⟨h2, hl, ha⟩ | ⟨h2, hl, ha⟩
  · rw [if_pos h2, if_neg hl]
    rcases hk _ _ ha with h1 | h1
    · cases h1
      simp at hv
    · rw [h1]
      dsimp only
      rw [if_pos rfl, hv]
  · rw [if_neg h2, if_pos hl, ha]
    dsimp only
    rw [if_pos rfl, hv]
theorem lx_ins_le (hk : lx_kle kc' kc) {i : Instr} (hs : lx_ins kc' m pc i L st h = some q) : lx_ins kc m pc i L st h = some q := by
  cases i
  case iaload => exact lx_ald_le hk hs
  case caload => exact lx_ald_le hk hs
  case baload => exact lx_ald_le hk hs
  case laload => exact lx_all_le hk hs
  case arraylength => exact lx_len_le hk hs
  case getfield => exact lx_gf_le hk hs
  case if_icmp c o => cases c <;> exact hs
  case ifCond c o => cases c <;> exact hs
  case newarray t => cases t <;> exact hs
  all_goals exact hs
theorem lx_rcv_le (hk : lx_kle kc' kc) {k w : Nat} {As : List Value} (h9 : xKc k ≠ 999) (hr : lx_rcv kc' k w h As = true) : lx_rcv kc k w h As = true := by
  unfold lx_rcv at hr ⊢
  split at hr
  · next b tl =>
    split at hr
    · next hw =>
      rw [if_pos hw]
      split at hr
      · next ci fs hx =>
        rcases lx_at_le hk hx with ⟨h1, -⟩ | h1
        · cases h1
          exact absurd (by simpa using hr) h9.symm
        · rw [h1]
          exact hr
      · cases hr
    · next hw => rw [if_neg hw]
  · exact hr
theorem xS_ret {i : Instr} {x : Nat × Nat × Nat} (hS : xS m i = some x) : lx_ret m i st = none := by
  unfold xS at hS
  split at hS
  · rfl
  · rfl
  · rfl
  · cases hS
theorem xS_999 {i : Instr} {k a w : Nat} (hS : xS m i = some (k, a, w)) (hr : lx_rcv kc' k w h (st.take a).reverse = true) : lx_kle kc' kc → lx_rcv kc k w h (st.take a).reverse = true := by
  intro hk
  obtain ⟨idx, ⟨hk4, -, -, -, -, hkind⟩, hi⟩ := xS_ok hS
  by_cases hw : w = 2 ∨ w = 3
  · refine lx_rcv_le hk ?_ hr
    rcases hkind with ⟨h2, -⟩ | ⟨-, -, -, -, ⟨-, -, ⟨r, hr1, -⟩ | ⟨-, h3, -⟩⟩ | ⟨h4, -⟩⟩
    · omega
    · have := (List.getElem?_eq_some_iff.mp hr1).1
      rw [xC_len] at this
      omega
    · omega
    · omega
  · unfold lx_rcv at hr ⊢
    split at hr
    · rw [if_neg hw]
    · exact hr
theorem lx_go_mono (hk : lx_kle kc' kc) : ∀ {n n' d d' m pc : Nat} {L : lx_L} {st : List Value} {h : lx_H} {r : Option Value × lx_H}, lx_go kc' n d m pc L st h = some r → n ≤ n' → d ≤ d' → lx_go kc n' d' m pc L st h = some r
  | 0, _, _, _, _, _, _, _, _, _, hg, _, _ => by cases hg
  | n + 1, 0, _, _, _, _, _, _, _, _, _, hn, _ => by omega
  | n + 1, n' + 1, d, d', m, pc, L, st, h, r, hg, hn, hd => by
    obtain ⟨i, hI, hc⟩ := lx_go_inv hg
    rw [lx_go_succ, hI]
    dsimp only
    rcases hc with ⟨v, hv, rfl⟩ | ⟨k, a, w, d0, r1, hS, rfl, ha, hsum, hwd, hrcv, h1, h2⟩ | ⟨q, hv, hS, hq, h2⟩
    · rw [hv]
    · rw [xS_ret hS, hS]
      dsimp only
      match d', hd with
      | 0, hd => omega
      | d' + 1, hd =>
        dsimp only
        have hr := xS_999 hS hrcv hk
        rw [if_pos (by simp only [Bool.and_eq_true, decide_eq_true_eq]; exact ⟨⟨⟨ha, hsum⟩, hwd⟩, hr⟩), lx_go_mono hk h1 (by omega) (by omega)]
        exact lx_go_mono hk h2 (by omega) hd
    · rw [hv, hS]
      dsimp only
      rw [lx_ins_le hk hq]
      exact lx_go_mono hk h2 (by omega) hd
end LXE
theorem lx_kle_rf (kc : List va_E) : lx_kle kc kc := fun _ _ h => Or.inr h
/-- the run ends with r -/
def lx_ev (kc : List va_E) (d m pc : Nat) (L : lx_L) (st : List Value) (h : lx_H) (r : Option Value × lx_H) : Prop := ∃ n, lx_go kc n d m pc L st h = some r
section LXF
variable {kc : List va_E} {d m pc : Nat} {L : lx_L} {st : List Value} {h : lx_H} {r : Option Value × lx_H}
theorem ev_ret {i : Instr} {v : Option Value} (hI : xI m pc = some i) (hv : lx_ret m i st = some v) : lx_ev kc d m pc L st h (v, h) := ⟨1, by rw [lx_go_succ, hI]; dsimp only; rw [hv]⟩
theorem ev_ins {i : Instr} {pc' : Nat} {L' : lx_L} {st' : List Value} {h' : lx_H} (hI : xI m pc = some i) (hv : lx_ret m i st = none) (hS : xS m i = none) (hq : lx_ins kc m pc i L st h = some (pc', L', st', h')) (K : lx_ev kc d m pc' L' st' h' r) : lx_ev kc d m pc L st h r := by
  obtain ⟨n, hn⟩ := K
  refine ⟨n + 1, ?_⟩
  rw [lx_go_succ, hI]
  dsimp only
  rw [hv, hS]
  dsimp only
  rw [hq]
  exact hn
theorem ev_call {i : Instr} {k a w : Nat} {r1 : Option Value × lx_H} (hI : xI m pc = some i) (hS : xS m i = some (k, a, w)) (hc : (decide (a ≤ st.length) && decide (((st.drop a).map fun v => v.category).sum ≤ 8) && decide ((lg_sl (st.take a).reverse).length ≤ xM k) && lx_rcv kc k w h (st.take a).reverse) = true) (h1 : lx_ev kc d k 0 (lv_args 0 (st.take a).reverse) [] h r1) (K : lx_ev kc (d + 1) m (pc + 3) L (r1.1.toList ++ st.drop a) r1.2 r) : lx_ev kc (d + 1) m pc L st h r := by
  obtain ⟨n1, hn1⟩ := h1
  obtain ⟨n2, hn2⟩ := K
  refine ⟨max n1 n2 + 1, ?_⟩
  rw [lx_go_succ, hI]
  dsimp only
  rw [xS_ret hS, hS]
  dsimp only
  rw [if_pos hc, lx_go_mono (lx_kle_rf kc) hn1 (Nat.le_max_left _ _) (Nat.le_refl _)]
  exact lx_go_mono (lx_kle_rf kc) hn2 (Nat.le_max_right _ _) (Nat.le_refl _)
theorem ev_mono {kc' : List va_E} {d' : Nat} (hk : lx_kle kc' kc) (hd : d' ≤ d) (K : lx_ev kc' d' m pc L st h r) : lx_ev kc d m pc L st h r := by
  obtain ⟨n, hn⟩ := K
  exact ⟨n, lx_go_mono hk hn (Nat.le_refl _) hd⟩
end LXF
