/-! calls: what the rows say -/
theorem xScall_ok {y : MethodName} {n : Nat} (h : xScall y n = true) : y.cls ≠ "java/lang/invoke/MethodHandle" ∧ y.cls ≠ "java/lang/invoke/VarHandle" ∧ (parseMethodDescriptor y.desc).map (fun d => d.parameters.length) = some n := by
  unfold xScall at h
  simp only [Bool.and_eq_true, Bool.not_eq_true', decide_eq_false_iff_not, decide_eq_true_eq] at h
  exact ⟨h.1.1, h.1.2, h.2⟩
/-- what a row of calls says -/
noncomputable def xSsay (m idx k a w : Nat) : Prop := k < 429 ∧ xM k ≤ 40 ∧ Cond.initialized (xY k).cls ∈ xTS ∧ plainName (xY k).cls = true ∧
  ((w % 2 = 0 ∧ Cond.methodLink (xO m) idx (xY k) ∈ xTS) ∨ (w % 2 = 1 ∧ ∃ host, (xO m, idx, xY k, host) ∈ xNM)) ∧
  ((w < 2 ∧ xScall (xY k) a = true ∧ Cond.static (xY k) ∈ xTS) ∨ (¬ w < 2 ∧ 0 < a ∧ xScall (xY k) (a - 1) = true ∧ Cond.instanceMethod (xY k) ∈ xTS ∧
    ((w < 4 ∧ Cond.selects (xY k).cls (xY k) (xY k) ∈ xTS ∧ ((∃ r, xC[xKc k]? = some r ∧ r.1 = (xY k).cls) ∨ (xC[xKc k]? = none ∧ xKc k = 1000 ∧ (xY k).cls = "java/lang/String"))) ∨ (¬ w < 4 ∧ (xY k).name = "<init>" ∧ xR k = none))))
theorem xSk_ok {m idx lo k a w : Nat} (h : xSk m idx lo = some (k, a, w)) : xSsay m idx k a w ∧ (w = lo ∨ w = lo + 1) := by
  unfold xSk at h
  split at h
  · next q hq =>
    have h1 := lx_tab (ck := xSchk) (n := 22) rfl xS_chk hq
    obtain ⟨qk, qa, qw, p1, p2, p3, p4⟩ := q
    dsimp only at h
    split at h
    · next hw =>
      simp only [Option.some.injEq, Prod.mk.injEq] at h
      obtain ⟨rfl, rfl, rfl⟩ := h
      refine ⟨?_, hw⟩
      unfold xSchk at h1
      dsimp only at h1
      simp only [Bool.and_eq_true, decide_eq_true_eq] at h1
      obtain ⟨⟨⟨⟨b1, b3⟩, b4⟩, b5⟩, b6⟩ := h1
      have hm := xmc_ok b1
      unfold xmchk at hm
      simp only [Bool.and_eq_true, decide_eq_true_eq] at hm
      obtain ⟨⟨m1, b2⟩, -⟩ := hm
      refine ⟨b1, b2, xat_ok b3, b4, ?_, ?_⟩
      · split at b5
        · next h0 => exact Or.inl ⟨h0, xat_ok b5⟩
        · next h0 =>
          split at b5
          · next f hf =>
            simp only [Bool.and_eq_true, decide_eq_true_eq] at b5
            obtain ⟨⟨e1, e2⟩, e3⟩ := b5
            refine Or.inr ⟨by omega, f.2.2.2, ?_⟩
            have e1 : f.1 = xO m := e1
            rw [← e1, ← e2, ← e3]
            exact List.mem_of_getElem? hf
          · cases b5
      · split at b6
        · next h0 =>
          simp only [Bool.and_eq_true, decide_eq_true_eq] at b6
          exact Or.inl ⟨h0, by rw [b6.1]; exact m1, xat_ok b6.2⟩
        · next h0 =>
          simp only [Bool.and_eq_true, decide_eq_true_eq] at b6
          obtain ⟨⟨c1, c3⟩, c4⟩ := b6
          refine Or.inr ⟨h0, by omega, by rw [c1, Nat.add_sub_cancel]; exact m1, xat_ok c3, ?_⟩
          split at c4
          · next h4 =>
            simp only [Bool.and_eq_true] at c4
            refine Or.inl ⟨h4, xat_ok c4.1, ?_⟩
            have c5 := c4.2
            split at c5
            · next r hr => exact Or.inl ⟨r, hr, of_decide_eq_true c5⟩
            · next hr =>
              simp only [Bool.and_eq_true, beq_iff_eq, decide_eq_true_eq] at c5
              exact Or.inr ⟨hr, c5.1, c5.2⟩
          · next h4 =>
            simp only [Bool.and_eq_true, decide_eq_true_eq] at c4
            exact Or.inr ⟨h4, c4.1, c4.2⟩
    · cases h
  · cases h
theorem xS_ok {m k a w : Nat} {i : Instr} (h : xS m i = some (k, a, w)) : ∃ idx, xSsay m idx k a w ∧ ((i = .invokestatic idx ∧ (w = 0 ∨ w = 1)) ∨ (i = .invokevirtual idx ∧ (w = 2 ∨ w = 3)) ∨ (i = .invokespecial idx ∧ (w = 4 ∨ w = 5))) := by
  unfold xS at h
  split at h
  · obtain ⟨h1, h2⟩ := xSk_ok h
    exact ⟨_, h1, Or.inl ⟨rfl, h2⟩⟩
  · obtain ⟨h1, h2⟩ := xSk_ok h
    exact ⟨_, h1, Or.inr (Or.inl ⟨rfl, h2⟩)⟩
  · obtain ⟨h1, h2⟩ := xSk_ok h
    exact ⟨_, h1, Or.inr (Or.inr ⟨rfl, h2⟩)⟩
  · cases h
