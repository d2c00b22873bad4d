/-! arrays of objects -/
section LXQ
variable {g : lx_G} {kc : List va_E} {m : Nat} {p : Program} {l : Launch} {e : Env} {R : Room} {s : State} {mm : MethodId} {args : Array Value} {below : List Frame} {meth : Method} {c : Code} {h0 : Nat × Nat} {Q : State → Prop}
variable {pc : Nat} {L : lx_L} {st : List Value} {h : lx_H} {r : Nat × lx_L × List Value × lx_H}
theorem lx_asq_inv (hs : lx_asq pc L st h = some r) : ∃ (i : Int32) (a b t n ci : Nat) (tl vs : List Value) (f : Nat → Option Nat), st = .ref b :: .int i :: .ref a :: tl ∧ a < lx_K ∧ b < lx_K ∧ h[a]? = some (.inl (t, n, .inr (.inr (.inr (.inr f))))) ∧ h[b]? = some (.inr (ci, vs)) ∧ lx_in i n = true ∧ 5 ≤ t ∧ (xC[ci]?).map (fun r => r.1) = some (xOn t) ∧ r = (pc + 1, L, tl, h.set a (.inl (t, n, .inr (.inr (.inr (.inr (va_up f i.toNatClampNeg (some b)))))))) := by
  unfold lx_asq at hs
  split at hs
  · split at hs
    · next hk =>
      split at hs
      · next ha hb =>
        split at hs
        · next hc => exact ⟨_, _, _, _, _, _, _, _, _, rfl, hk.1, hk.2, ha, hb, hc.1, hc.2.1, of_decide_eq_true hc.2.2, (lx_some hs).symm⟩
        · cases hs
      · cases hs
    · cases hs
  · cases hs
theorem lx_w_aast (X : lx_X g kc m p s mm args meth c) (hd : decode (xB m) pc = .ok (.aastore, 1)) (hs : lx_asq pc L st h = some r) (K : lx_C g kc m p l e R s mm args below meth c h0 Q r.1 r.2.1 r.2.2.1 r.2.2.2) : lx_C g kc m p l e R s mm args below meth c h0 Q pc L st h := by
  obtain ⟨i, a, b, t, n, ci, tl, vs, f, rfl, hka, hkb, ha, hb, hi, h5, hcn, rfl⟩ := lx_asq_inv hs
  intro H locs ls hR hS hl
  show W p l e R s mm args below meth c H locs _ _ Q (F0 mm pc ls (.ref (lx_ad g b) :: .int i :: .ref (lx_ad g a) :: tl.map (lx_v g)))
  rw [lx_ad_lt hka, lx_ad_lt hkb]
  have hw := hR.2.2.1 a _ ha
  obtain ⟨t0, ht0⟩ := lx_tys_in (g := g) hw.1
  rw [lx_ty5 h5] at ht0
  obtain ⟨r0, hr0, hrn⟩ := Option.map_eq_some_iff.mp hcn
  obtain ⟨r', hr', cellV, g1, g2, g3, -⟩ := lx_Rp_at hR hb
  have hcls := ((lx_X_K X).1 ci r0 hr0).2
  obtain ⟨kA, comp, k1, k2, k3, -⟩ := ((lx_X_K X).2 t0 _ ht0).2
  have hcomp : comp = g.2.1.1 ci := by
    rw [← hrn] at k3
    exact Option.some.inj (k3.symm.trans hcls.1)
  subst hcomp
  obtain ⟨kC, hkC, -⟩ := hcls.2
  have hin := lx_in_ok hi
  have hlt : i.toNatClampNeg < n := Nat.not_le.mp fun q => hin (Or.inr q)
  have hi0 : ¬ i < 0 := fun q => hin (Or.inl q)
  refine W.aast X.1 X.2.1 (lx_Rp_at hR ha) (fun q h => by cases h) (fun h => by cases h) k1 k2 rfl hkC ⟨hi0, by show _ < (arrV _ _ _).slots.size; rw [arrV_size]; exact hlt⟩ g1 (fun q h => by rw [g3] at h; cases h) (by rw [g2]; exact hkC) (by rw [g2]; exact va_assign hcls) (g := F0 mm pc ls (.ref (g.1 + b) :: .int i :: .ref (g.1 + a) :: tl.map (lx_v g))) rfl rfl hd fun H1 e1 z oq => ?_
  refine lx_stored (e1 := .inl (t, n, .inr (.inr (.inr (.inr (va_up f i.toNatClampNeg (some b))))))) (pc' := pc + 1) hR hS hl ha rfl ?_ z oq (fun y hy => by cases hy; exact ⟨hw.1, fun f' hf => by cases hf⟩) K
  show H1[g.1 + a]? = some (vp_cell _ _)
  rw [e1]
  show some ((vp_cell _ (n, .inr (.inr (.inr (.inr (fun i => (f i).map (lx_ad g)))))) : Cell).setSlot _ _) = some (vp_cell _ (n, .inr (.inr (.inr (.inr (fun j => (va_up f i.toNatClampNeg (some b) j).map (lx_ad g)))))))
  rw [vp_cell_q, vp_cell_q, arrV_store]
  congr 2
  funext q
  by_cases hq : q = i.toNatClampNeg
  · simp [updV, va_up, hq, va_rf, lx_ad_lt hkb]
  · simp [updV, va_up, hq]
theorem lx_nwq_inv {idx : Nat} (hs : lx_nwq m idx pc L st h = some r) : ∃ (t : Nat) (n : Int32) (tl : List Value), xQ m idx = some t ∧ st = .int n :: tl ∧ ¬ n < 0 ∧ n.toNatClampNeg * 4 ≤ 536870912 ∧ h.length < lx_K ∧ r = (pc + 3, L, .ref h.length :: tl, h ++ [.inl (t, n.toNatClampNeg, .inr (.inr (.inr (.inr (fun _ => none)))))]) := by
  unfold lx_nwq at hs
  split at hs
  · next t ht =>
    split at hs
    · split at hs
      · next hc =>
        simp only [Bool.and_eq_true, Bool.not_eq_true', decide_eq_false_iff_not, decide_eq_true_eq] at hc
        exact ⟨t, _, _, ht, rfl, hc.1.1, hc.1.2, hc.2, (lx_some hs).symm⟩
      · cases hs
    · cases hs
  · cases hs
theorem lx_w_nwq {idx : Nat} (X : lx_X g kc m p s mm args meth c) (hd : decode (xB m) pc = .ok (.anewarray idx, 3)) (hs : lx_nwq m idx pc L st h = some r) (hRc : r.2.2.2.length - h0.1 ≤ R.cells) (hRs : lx_hs r.2.2.2 - h0.2 ≤ R.slots) (hc0 : h0.1 ≤ h.length) (hs0 : h0.2 ≤ lx_hs h) (K : lx_C g kc m p l e R s mm args below meth c h0 Q r.1 r.2.1 r.2.2.1 r.2.2.2) : lx_C g kc m p l e R s mm args below meth c h0 Q pc L st h := by
  obtain ⟨t, n, tl, hQ, rfl, hn, hby, hK, rfl⟩ := lx_nwq_inv hs
  obtain ⟨rfl, hcl⟩ := xQ_ok hQ
  intro H locs ls hR hS hl
  dsimp only at hRc hRs
  rw [List.length_append] at hRc
  rw [lx_hs_push] at hRs
  have hes : lx_es (.inl (5, n.toNatClampNeg, .inr (.inr (.inr (.inr (fun _ => none)))))) = n.toNatClampNeg := rfl
  rw [hes] at hRs
  have hlen : ∀ x : va_E, ([x] : List va_E).length = 1 := fun _ => rfl
  rw [hlen] at hRc
  have hao := (lx_X_E X).2.2.2.1 (xOn 5) (by decide)
  refine W.anew X.1 X.2.1 (lx_X_own X) (lx_X_ts X _ hcl) (va_AO.use hao) (g := F0 mm pc ls (.int n :: tl.map (lx_v g))) rfl hd rfl hn hby (by omega) (by omega) fun cA kA comp f1 f2 f3 f4 => ?_
  generalize hH1 : H.push ({ cls := cA, slots := Array.replicate n.toNatClampNeg .null, vm := .none } : Cell) = H1
  have z1 : H1.size = H.size + 1 := by rw [← hH1, Array.size_push]
  have e1 : H1[H.size]? = some (arrV cA n.toNatClampNeg (fun _ => .null)) := by rw [← hH1, Array.getElem?_push_size, ← arrV_new]
  have o1 : ∀ q : Nat, q < H.size → H1[q]? = H[q]? := fun q hq => by rw [← hH1, Array.getElem?_push, if_neg (Nat.ne_of_lt hq)]
  have hin : 5 ∈ xTg := by decide
  obtain ⟨t0, ht0⟩ := lx_tys_in (g := g) hin
  rw [lx_ty5 (Nat.le_refl 5)] at ht0
  have hca : cA = g.2.2.1 5 := by
    obtain ⟨_, _, _, _, _, k4⟩ := ((lx_X_K X).2 t0 _ ht0).2
    exact Option.some.inj (f1.symm.trans k4)
  subst hca
  rw [hR.1] at e1
  have k1 : lx_Rp g (h ++ [.inl (5, n.toNatClampNeg, .inr (.inr (.inr (.inr (fun _ => none)))))]) H1 := lx_Rp_push hR (by
    show H1[g.1 + h.length]? = some (vp_cell (g.2.2.1 5) (n.toNatClampNeg, .inr (.inr (.inr (.inr (fun _ => none))))))
    rw [vp_cell_q]
    exact e1) z1 o1 (lx_wf_push hR.2.2.1 (fun y hy => by cases hy; exact ⟨hin, fun f' hf => by cases hf⟩)) hK
  have k2 := lx_pushed (e1 := .inl (5, n.toNatClampNeg, .inr (.inr (.inr (.inr (fun _ => none)))))) (pc' := pc + 3) hK hc0 hs0 (K H1 locs ls k1 (lx_S_push hS z1 o1) hl)
  show W p l e R s mm args below meth c H1 locs _ _ Q (F0 mm (pc + 3) ls (.ref H.size :: tl.map (lx_v g)))
  rw [hR.1]
  exact k2
end LXQ
