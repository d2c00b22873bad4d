/-! calls and answers -/
noncomputable def lx_Qc (g : lx_G) (r : Option Value × lx_H) : Array Value → State → Outcome → State → Prop := fun _ st o t => o = .returned (r.1.map (lx_v g)) ∧ lx_Rp g r.2 t.heap ∧ ∀ q : Nat, q < st.heap.size → ¬ lx_A g q → t.heap[q]? = st.heap[q]?
noncomputable def lx_Pc (g : lx_G) (kc : List va_E) (As : List Value) (h : lx_H) : Array Value → State → Prop := va_Pc (As.map (lx_v g)) (fun U => lx_Rp g h U.heap ∧ lx_E g kc U)
noncomputable def lx_rm (d mc ms : Nat) : Room := { frames := d + 1, locals := (d + 1) * 64, cells := mc, slots := ms }
/-- a method's words: its code, then all that is good of the tables -/
noncomputable def xW (k : Nat) : List Cond := .code (xY k) (xB k) (xM k) (xR k) :: xTS
theorem lx_blind {g : lx_G} {kc : List va_E} {As : List Value} {h : lx_H} : FrameBlind (lx_Pc g kc As h) := by
  intro a U f mk hp
  obtain ⟨h1, h2, h3⟩ := hp
  exact ⟨h1, h2, lx_E_moved (U := U.calling f mk a) (State.WarmedH.refl U) (fun _ _ _ => rfl) h3.2.2.2.2.1 h3⟩
section LXC
variable {g : lx_G} {kc : List va_E} {m : Nat} {p : Program} {l : Launch} {e : Env} {R : Room} {s : State} {mm : MethodId} {args : Array Value} {below : List Frame} {meth : Method} {c : Code} {h0 : Nat × Nat} {Q : State → Prop}
variable {pc : Nat} {L : lx_L} {st : List Value} {h : lx_H}
theorem lx_called {H : Heap} {locs : List Loc} {ls : Array Slot} {mc ms : Nat} {st0 rest : List Value} {r1 : Option Value × lx_H} {a : Array Value} (hr : va_Run p l e R s mm args below meth c H locs (h.length - h0.1) (lx_hs h - h0.2) mc ms (F0 mm pc ls st0) (rest.map (lx_v g)) (lx_Qc g r1 a) (lx_A g)) (hS : va_S (lx_A g) s.heap H locs) (hl : lv_has ls (xM m) (lx_tl g L)) (hz : H.size ≤ g.1 + r1.2.length) (hc : h.length - h0.1 + mc = r1.2.length - h0.1) (hs : lx_hs h - h0.2 + ms = lx_hs r1.2 - h0.2) (K : lx_C g kc m p l e R s mm args below meth c h0 Q (pc + 3) L (r1.1.toList ++ rest) r1.2) : W p l e R s mm args below meth c H locs (h.length - h0.1) (lx_hs h - h0.2) Q (F0 mm pc ls st0) := by
  intro T hT X
  obtain ⟨v, st₀, t, T', L', e0, X', hL, e1, e2, ⟨hv, hRp, hk⟩, stp⟩ := hr T hT X
  cases hv
  rw [e0] at hk
  have k1 := K T'.heap (locs ++ L') ls (by rw [e1]; exact hRp) ⟨Nat.le_trans hS.1 (by rw [e1, hRp.1]; exact hz), fun q h1 h2 => by rw [e1, hk q (Nat.lt_of_lt_of_le h1 hS.1) h2]; exact hS.2.1 q h1 h2, fun q hq => by
    rcases List.mem_append.mp hq with h | h
    · exact hS.2.2 q h
    · exact hL q h⟩ hl
  obtain ⟨t2, a1, b1⟩ := W.cs hc hs k1 T' rfl X'
  refine ⟨t2, stp t2 ?_, b1⟩
  have e3 : (r1.1.map (lx_v g)).toList ++ rest.map (lx_v g) = (r1.1.toList ++ rest).map (lx_v g) := by
    cases r1.1 <;> simp
  rw [e3]
  exact a1
/-- the callee's precondition -/
theorem lx_pre {H : Heap} {locs : List Loc} (X : lx_X g kc m p s mm args meth c) (hR : lx_Rp g h H) (hS : va_S (lx_A g) s.heap H locs) (As : List Value) : ∀ U : State, U.heap = H → s.WarmedH U.vm → lx_Pc g kc As h (As.map (lx_v g)).toArray U := by
  intro U hU hW
  refine ⟨rfl, by rw [hU]; exact hR, lx_E_moved hW (fun a h1 h2 => by rw [hU]; exact hS.2.1 a h1 h2) (by rw [hU]; exact Nat.le_trans (lx_X_E X).2.2.2.2.1 hS.1) (lx_X_E X)⟩
theorem lx_good {k : Nat} (hk : k < 429) : GoodIn xTS (xW k) := by
  intro w hw
  rcases List.mem_cons.mp hw with rfl | hw
  · exact ⟨xcode_ok hk, xTS_good _ (xcode_ok hk)⟩
  · exact ⟨hw, xTS_good _ hw⟩
theorem lx_st {f : Value → Value} {st As : List Value} {a : Nat} (h : (st.take a).reverse = As) : st.map f = (As.map f).reverse ++ (st.drop a).map f := by
  rw [← h, List.map_reverse, List.reverse_reverse, ← List.map_append, List.take_append_drop]
/-- an answer: the method ends, its contract holds -/
theorem lx_ret_C {i : Instr} {v : Option Value} {h1 : lx_H} (X : lx_X g kc m p s mm args meth c) (hI : xI m pc = some i) (hr : lx_ret m i st = some v) : lx_C g kc m p l e R s mm args below meth c (h1.length, lx_hs h1) (MQ below (lx_Qc g (v, h)) args s (h.length - h1.length) (lx_hs h - lx_hs h1) (lx_A g)) pc L st h := by
  intro H locs ls hR hS hl
  obtain ⟨len, hd, hn⟩ := xI_ok hI
  have hlocks : meth.locks = false := X.2.2.2.2.1
  have hrt : meth.sig.returnType = xR m := X.2.2.2.1
  have hq : ∀ (w : Option Value), w = v.map (lx_v g) → ∀ t : State, t.heap = H → s.WarmedH t.vm → lx_Qc g (v, h) args s (.returned w) t := by
    intro w hw t ht _
    exact ⟨by rw [hw], by rw [ht]; exact hR, fun q h1 h2 => by rw [ht]; exact hS.2.1 q h1 h2⟩
  unfold lx_ret at hr
  split at hr
  · cases hn 1 rfl
    split at hr
    · next h1 h2 =>
      cases hr
      exact W.vret X.1 X.2.1 (hrt.trans h2) (hq none rfl) hS.2.2 hd hlocks
    · cases hr
  · cases hn 1 rfl
    split at hr
    · next x ty h1 =>
      split at hr
      · next hnar =>
        cases hr
        exact W.zret X.1 X.2.1 (hrt.trans h1) hnar (hq _ rfl) hS.2.2 hd hlocks
      · cases hr
    · cases hr
  · cases hn 1 rfl
    split at hr
    · next x h1 =>
      cases hr
      exact W.lret X.1 X.2.1 (hrt.trans h1) (hq _ rfl) hS.2.2 hd hlocks
    · cases hr
  · cases hn 1 rfl
    split at hr
    · next x nm h1 =>
      cases hr
      exact W.aret X.1 X.2.1 (hrt.trans h1) (Or.inl ⟨_, rfl⟩) (Or.inr ⟨_, rfl⟩) (hq _ rfl) hS.2.2 hd hlocks
    · next x nm h1 =>
      cases hr
      exact W.aret X.1 X.2.1 (hrt.trans h1) (Or.inr ⟨_, rfl⟩) (Or.inr ⟨_, rfl⟩) (hq _ rfl) hS.2.2 hd hlocks
    · next nm h1 =>
      cases hr
      exact W.aret X.1 X.2.1 (hrt.trans h1) (Or.inl ⟨_, rfl⟩) (Or.inl rfl) (hq _ rfl) hS.2.2 hd hlocks
    · next nm h1 =>
      cases hr
      exact W.aret X.1 X.2.1 (hrt.trans h1) (Or.inr ⟨_, rfl⟩) (Or.inl rfl) (hq _ rfl) hS.2.2 hd hlocks
    · cases hr
  · cases hr
end LXC
