/-! The reference writes the new root page. -/
theorem cut_1 {g : Int → Int} {b x v : Int} {L : List Int} (hx : x = b + L.length) : bUp (bCut g (plc b L)) x v = bCut g (plc b (L ++ [v])) := by
  rw [plc_app, ← hx]
  exact (bCut_app (x := (x, v))).symm
theorem cut_head {g : Int → Int} {b a : Int} {ps : List Int} : bUp (bCut g (plc (b + 1) ps)) b a = bCut g (plc b (a :: ps)) := by
  have e : bCut g (plc b (a :: ps)) = bCut (bUp g b a) (plc (b + 1) ps) := rfl
  rw [e]
  funext j
  rw [bCut_plc]
  unfold bUp
  by_cases h : j = b
  · rw [if_pos h, if_neg (by omega), if_pos h]
  · rw [if_neg h, bCut_plc, if_neg h]
section BWR
variable {kc : List va_E} {d : Nat} {Q : Option fx_V → fx_M → Prop} {h : Int → Int} {M : fx_M}
theorem wr_fill (hb : bk_b h) {a b c m v4 : Int} (h4 : 1 ≤ v4 ∧ v4 ≤ 2) (hbv : b = 32 * v4) (ha : 0 ≤ a ∧ a ≤ 15) {ps : List Int} (hp : ∀ v ∈ ps, 0 ≤ v ∧ v ≤ 255) (hp30 : ps.length ≤ 30) (K : ∀ M', mbk M' (bCut h (plc b (a :: ps ++ List.replicate (30 - ps.length) 0 ++ [(a + ps.sum) % 251]) ++ [(0, v4)])) → M' 133 99 = c → M' 133 100 = m → M' 133 101 = v4 → M' 133 102 = 32 * m + 33 → (∀ b j, b ≠ 188 → ¬ (b = 133 ∧ 99 ≤ j ∧ j ≤ 102) → M' b j = M b j) → Q none M') : ∀ (u j : Nat) (N : fx_M), j + u = 30 - ps.length → mbk N (bCut h (plc b (a :: ps ++ List.replicate j 0))) → (∀ x y, x ≠ 188 → N x y = M x y) → wp kc (d + 3) 371 144 [some (jR 133), none, some (jI c), some (jI m), some (jI v4), some (jI b), none, some (jI (1 + ps.length + j))] [] N Q := by
  have hs := sum_01 hp
  have hbk : ∀ j : Nat, bk_b (bCut h (plc b (a :: ps ++ List.replicate j 0))) := fun j => bCut_b hb (fun x hx => by
    have h1 := (plc_in hx).2.2
    rcases List.mem_append.mp h1 with e | e
    · rcases List.mem_cons.mp e with e | e
      · rw [e]
        omega
      · exact hp _ e
    · rw [(List.mem_replicate.mp e).2]
      omega)
  intro u
  induction u with
  | zero =>
    intro j N hj hg fR
    have e : j = 30 - ps.length := by omega
    subst e
    have hL : (a :: ps ++ List.replicate (30 - ps.length) 0).length = 31 := by
      rw [List.length_append, List.length_cons, List.length_replicate]
      omega
    have hsum : bSum (bCut h (plc b (a :: ps ++ List.replicate (30 - ps.length) 0))) b 31 = a + ps.sum := by
      rw [bSum_L (L := a :: ps ++ List.replicate (30 - ps.length) 0) 31 (by omega) (fun i hi => by
        rw [bCut_plc, if_pos (by rw [hL]; omega), show (b + (i : Int) - b).toNat = i by omega]), List.take_of_length_le (by omega), List.sum_append, List.sum_cons]
      have hz : ∀ n : Nat, (List.replicate n (0 : Int)).sum = 0 := fun n => by
        induction n with
        | zero => rfl
        | succ n ih => rw [List.replicate_succ, List.sum_cons, ih]; rfl
      rw [hz]
      omega
    refine s371_144 ⟨⟨by omega, by omega⟩, fun _ => sp_sumOfP (d := d + 1) hg (hbk _) ⟨by omega, by omega⟩ (s371_185 ?_), fun h => by omega⟩
    rw [← hbv, hsum]
    refine ⟨⟨by omega, by omega⟩, K _ ?_ ?_ ?_ ?_ ?_ ?_⟩
    · have m1 := mbk_up (mbk_up hg (a := b + 32 - 1) (v := (a + ps.sum) % 251)) (a := 0) (v := v4)
      rw [cut_1 (by rw [hL]; omega), ← bCut_app (x := (0, v4))] at m1
      exact mbk_fr m1 (fun j => by rw [fx_up_na (by decide), fx_up_na (by decide), fx_up_na (by decide), fx_up_na (by decide)])
    · rw [fx_up_nk (by decide), fx_up_nk (by decide), fx_up_nk (by decide), fx_up_self]
    · rw [fx_up_nk (by decide), fx_up_nk (by decide), fx_up_self]
    · rw [fx_up_nk (by decide), fx_up_self]
    · rw [fx_up_self]
      omega
    · intro x y a1 a2
      rw [fx_up_ne (by omega), fx_up_ne (by omega), fx_up_ne (by omega), fx_up_ne (by omega), fx_up_na a1, fx_up_na a1]
      exact fR x y a1
  | succ u ih =>
    intro j N hj hg fR
    have hL : (a :: ps ++ List.replicate j 0).length = 1 + ps.length + j := by
      rw [List.length_append, List.length_cons, List.length_replicate]
      omega
    have m1 := mbk_up hg (a := b + (1 + (ps.length : Int) + j)) (v := 0)
    rw [cut_1 (by rw [hL]; omega), List.append_assoc, ← List.replicate_succ'] at m1
    have nx := ih (j + 1) _ (by omega) m1 (fun x y hx => by rw [fx_up_na hx]; exact fR x y hx)
    rw [show 1 + (ps.length : Int) + ((j + 1 : Nat) : Int) = 1 + (ps.length : Int) + (j : Int) + 1 by omega] at nx
    exact s371_144 ⟨⟨by omega, by omega⟩, fun h => by omega, fun _ => ⟨⟨by omega, by omega⟩, nx⟩⟩
end BWR
