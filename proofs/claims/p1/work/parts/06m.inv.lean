/-! the tie: what the lite machine computes, the machine does -/
section LXM
theorem lx_go_succ (kc : List va_E) (n d m pc : Nat) (L : lx_L) (st : List Value) (h : lx_H) : lx_go kc (n + 1) d m pc L st h = (match xI m pc with
    | none => none
    | some i => match lx_ret m i st with
      | some v => some (v, h)
      | none => match xS m i with
        | some (k, a, w) => match d with
          | 0 => none
          | d + 1 => if (decide (a ≤ st.length) && decide (((st.drop a).map fun v => v.category).sum ≤ 8) && decide ((lg_sl (st.take a).reverse).length ≤ xM k) && lx_rcv kc k w h (st.take a).reverse) = true then match lx_go kc n d k 0 (lv_args 0 (st.take a).reverse) [] h with
            | none => none
            | some r => lx_go kc n (d + 1) m (pc + 3) L (r.1.toList ++ st.drop a) r.2
            else none
        | none => match lx_ins kc m pc i L st h with
          | none => none
          | some r => lx_go kc n d m r.1 r.2.1 r.2.2.1 r.2.2.2) := rfl
/-- the three ways of a step -/
theorem lx_go_inv {kc : List va_E} {n d m pc : Nat} {L : lx_L} {st : List Value} {h : lx_H} {r : Option Value × lx_H} (hg : lx_go kc (n + 1) d m pc L st h = some r) : ∃ i, xI m pc = some i ∧ ((∃ v, lx_ret m i st = some v ∧ r = (v, h)) ∨
    (∃ (k a w d' : Nat) (r1 : Option Value × lx_H), xS m i = some (k, a, w) ∧ d = d' + 1 ∧ a ≤ st.length ∧ ((st.drop a).map fun v => v.category).sum ≤ 8 ∧ (lg_sl (st.take a).reverse).length ≤ xM k ∧ lx_rcv kc k w h (st.take a).reverse = true ∧ lx_go kc n d' k 0 (lv_args 0 (st.take a).reverse) [] h = some r1 ∧ lx_go kc n (d' + 1) m (pc + 3) L (r1.1.toList ++ st.drop a) r1.2 = some r) ∨
    (∃ q, lx_ret m i st = none ∧ xS m i = none ∧ lx_ins kc m pc i L st h = some q ∧ lx_go kc n d m q.1 q.2.1 q.2.2.1 q.2.2.2 = some r)) := by
  rw [lx_go_succ] at hg
  split at hg
  · cases hg
  · next i hi =>
    refine ⟨i, hi, ?_⟩
    split at hg
    · next v hv => exact Or.inl ⟨v, hv, (lx_some hg).symm⟩
    · next hv =>
      split at hg
      · next k a w hS =>
        refine Or.inr (Or.inl ?_)
        split at hg
        · cases hg
        · next d' =>
          split at hg
          · next hc =>
            simp only [Bool.and_eq_true, decide_eq_true_eq] at hc
            split at hg
            · cases hg
            · next r1 h1 => exact ⟨k, a, w, d', r1, hS, rfl, hc.1.1.1, hc.1.1.2, hc.1.2, hc.2, h1, hg⟩
          · cases hg
      · next hS =>
        refine Or.inr (Or.inr ?_)
        split at hg
        · cases hg
        · next q hq => exact ⟨q, hv, hS, hq, hg⟩
end LXM
