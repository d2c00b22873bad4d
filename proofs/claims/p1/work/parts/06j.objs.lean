/-! rows of objects: new, fields, statics, constants. The tables' own rows (part 02): xC_ok, xN_ok, xF_ok, xG_ok, xD_ok. -/
section LXO
variable {g : lx_G} {kc : List va_E} {m : Nat} {p : Program} {l : Launch} {e : Env} {R : Room} {s : State} {mm : MethodId} {args : Array Value} {below : List Frame} {meth : Method} {c : Code} {h0 : Nat × Nat} {Q : State → Prop}
variable {pc : Nat} {L : lx_L} {st : List Value} {h : lx_H} {r : Nat × lx_L × List Value × lx_H}
theorem lx_X_E (X : lx_X g kc m p s mm args meth c) : lx_E g kc s := X.2.2.2.2.2.2.2.2
theorem lx_X_ts (X : lx_X g kc m p s mm args meth c) : ∀ w ∈ xTS, w.before args s = true := X.2.2.2.2.2.2.2.1
theorem lx_X_own (X : lx_X g kc m p s mm args meth c) : s.vm.findClass (xO m) = some mm.cls := X.2.2.2.2.2.2.1
theorem lx_new_inv {idx : Nat} (hs : lx_new m idx pc L st h = some r) : ∃ (ci : Nat) (fs : List Value), xN m idx = some (ci, fs) ∧ h.length < lx_K ∧ r = (pc + 3, L, .ref h.length :: st, h ++ [.inr (ci, fs)]) := by
  unfold lx_new at hs
  split at hs
  · next hx =>
    split at hs
    · next hc => exact ⟨_, _, hx, hc, (lx_some hs).symm⟩
    · cases hs
  · cases hs
theorem lx_w_new {idx : Nat} (X : lx_X g kc m p s mm args meth c) (hd : decode (xB m) pc = .ok (.new idx, 3)) (hs : lx_new m idx pc L st h = some r) (hRc : r.2.2.2.length - h0.1 ≤ R.cells) (hRs : lx_hs r.2.2.2 - h0.2 ≤ R.slots) (hc0 : h0.1 ≤ h.length) (hs0 : h0.2 ≤ lx_hs h) (K : lx_C g kc m p l e R s mm args below meth c h0 Q r.1 r.2.1 r.2.2.1 r.2.2.2) : lx_C g kc m p l e R s mm args below meth c h0 Q pc L st h := by
  obtain ⟨ci, fs, hN, hK, rfl⟩ := lx_new_inv hs
  obtain ⟨C, T, N, hC, w1, w2, w3, hdv, hnr⟩ := xN_ok hN
  obtain ⟨c1, c2, c3⟩ := xC_ok hC
  intro H locs ls hR hS hl
  dsimp only at hRc hRs
  rw [List.length_append] at hRc
  rw [lx_hs_push] at hRs
  have hes : lx_es (.inr (ci, fs)) = N := by show (match xC[ci]? with | some r => r.2.2 | none => 0) = N; rw [hC]
  rw [hes] at hRs
  have hlen : ([Sum.inr (ci, fs)] : List va_E).length = 1 := rfl
  rw [hlen] at hRc
  have hts := lx_X_ts X
  have hKn := (lx_X_K X).1 ci _ hC
  refine W.newcK X.1 X.2.1 (lx_X_own X) (hts _ w1) (hts _ w2) (hts _ w3) (g := F0 mm pc ls (st.map (lx_v g))) rfl hd (by omega) (by omega) hKn.2.1 (h := g.1 + h.length) hR.1 fun H1 kC hkC e1 z1 o1 => ?_
  have o1 : ∀ q : Nat, q < H.size → H1[q]? = H[q]? := fun q hq => o1 q (by rw [← hR.1]; exact hq)
  have z1 : H1.size = H.size + 1 := by rw [z1, hR.1]
  have k1 : lx_Rp g (h ++ [.inr (ci, fs)]) H1 := lx_Rp_push hR ⟨_, hC, (u_born (xFt ci) hts c1 hKn hkC e1 c2).to (fun j hj => by
    rw [hdv j hj]
    show vp_V fs j = vp_V (fs.map (lx_v g)) j
    rw [lx_map_plain (fun v hv => ?_)]
    cases v with
    | ref a => exact absurd rfl ((hnr _ hv).1 a)
    | retAddr a => exact absurd rfl ((hnr _ hv).2 a)
    | _ => rfl)⟩ z1 o1 (lx_wf_push hR.2.2.1 (fun y hy => by cases hy)) hK
  have k2 := lx_pushed (e1 := .inr (ci, fs)) (pc' := pc + 3) hK hc0 hs0 (K H1 locs ls k1 (lx_S_push hS z1 o1) hl)
  rw [hes] at k2
  exact k2
theorem lx_gf_inv {idx : Nat} (hs : lx_gf kc m idx pc L st h = some r) : ∃ (a ci k w : Nat) (tl fs : List Value) (v : Value), st = .ref a :: tl ∧ xF m idx = some (ci, k, w) ∧ ((w = 2 ∧ ¬ a < lx_K ∧ kc[a - lx_K]? = some (.inr (ci, fs))) ∨ (w ≠ 2 ∧ a < lx_K ∧ h[a]? = some (.inr (ci, fs)))) ∧ fs[k]? = some v ∧ r = (pc + 3, L, v :: tl, h) := by
  unfold lx_gf at hs
  split at hs
  · split at hs
    · next hx =>
      split at hs
      · next hy =>
        split at hs
        · next hc =>
          split at hs
          · next hv =>
            refine ⟨_, _, _, _, _, _, _, rfl, hx, ?_, hv, (lx_some hs).symm⟩
            subst hc
            split at hy
            · next h2 =>
              split at hy
              · cases hy
              · next hk => exact Or.inl ⟨h2, hk, hy⟩
            · next h2 =>
              split at hy
              · next hk => exact Or.inr ⟨h2, hk, hy⟩
              · cases hy
          · cases hs
        · cases hs
      · cases hs
    · cases hs
  · cases hs
theorem lx_w_gf {idx : Nat} (X : lx_X g kc m p s mm args meth c) (hd : decode (xB m) pc = .ok (.getfield idx, 3)) (hs : lx_gf kc m idx pc L st h = some r) (K : lx_C g kc m p l e R s mm args below meth c h0 Q r.1 r.2.1 r.2.2.1 r.2.2.2) : lx_C g kc m p l e R s mm args below meth c h0 Q pc L st h := by
  obtain ⟨a, ci, k, w, tl, fs, v, rfl, hF, ha, hv, rfl⟩ := lx_gf_inv hs
  intro H locs ls hR hS hl
  show W p l e R s mm args below meth c H locs _ _ Q (F0 mm pc ls (.ref (lx_ad g a) :: tl.map (lx_v g)))
  have hts := lx_X_ts X
  have hv' : (fs.map (lx_v g))[k]? = some (lx_v g v) := by rw [List.getElem?_map, hv]; rfl
  rcases xF_ok hF with ⟨hw, C, T, N, hC, hk, w1, -⟩ | ⟨rfl, hw⟩
  · obtain ⟨-, hak, ha⟩ : w ≠ 2 ∧ a < lx_K ∧ h[a]? = some (.inr (ci, fs)) := by
      rcases ha with ⟨h2, -⟩ | h2
      · subst h2; omega
      · exact h2
    rw [lx_ad_lt hak]
    exact va_get X.1 X.2.1 hts (xC_ok hC).1 (lx_X_own X) (lx_X_K X) hR.2.1 a (lx_ws_at ha) hC k hk (hts _ w1) (fun _ h9 => h9) hv' hd (K H locs ls hR hS hl)
  · obtain ⟨-, hak, ha⟩ : (2 : Nat) = 2 ∧ ¬ a < lx_K ∧ kc[a - lx_K]? = some (.inr (ci, fs)) := by
      rcases ha with h2 | ⟨h2, -⟩
      · exact h2
      · exact absurd rfl h2
    rw [lx_ad_ge hak]
    have hO := lx_X_C X ha
    rcases hw with ⟨rfl, w1⟩ | ⟨rfl, w1⟩
    · have e0 : vp_V fs 0 = v := by simp [vp_V, hv]
      have hO := hO.2.1
      dsimp only at hO
      rw [e0] at hO
      exact vk_getf X.1 X.2.1 hO hS (lx_X_own X) (hts _ w1) (fun _ h9 => h9) hd (K H locs ls hR hS hl)
    · have e0 : vp_V fs 1 = v := by simp [vp_V, hv]
      have hO := hO.2.2
      dsimp only at hO
      rw [e0] at hO
      exact vk_getf X.1 X.2.1 hO hS (lx_X_own X) (hts _ w1) (fun _ h9 => h9) hd (K H locs ls hR hS hl)
theorem lx_pf_inv {idx : Nat} (hs : lx_pf m idx pc L st h = some r) : ∃ (a ci k w : Nat) (tl fs : List Value) (v : Value), st = v :: .ref a :: tl ∧ a < lx_K ∧ xF m idx = some (ci, k, w) ∧ h[a]? = some (.inr (ci, fs)) ∧ k < fs.length ∧ lx_fit (xFt ci k) v = true ∧ (w = 0 ∨ w = 1 ∨ w = 3) ∧ r = (pc + 3, L, tl, h.set a (.inr (ci, fs.set k v))) := by
  unfold lx_pf at hs
  split at hs
  · split at hs
    · next hk =>
      split at hs
      · next hx =>
        split at hs
        · next hy =>
          split at hs
          · next hc =>
            simp only [Bool.and_eq_true, Bool.or_eq_true, beq_iff_eq, decide_eq_true_eq] at hc
            obtain ⟨⟨⟨rfl, hl⟩, hf⟩, hp⟩ := hc
            rw [or_assoc] at hp
            exact ⟨_, _, _, _, _, _, _, rfl, hk, hx, hy, hl, hf, hp, (lx_some hs).symm⟩
          · cases hs
        · cases hs
      · cases hs
    · cases hs
  · cases hs
theorem lx_fit_ok {g : lx_G} {ty : FieldType} {v : Value} (h : lx_fit ty v = true) : narrow ty (lx_v g v) = lx_v g v ∧ fits ty (lx_v g v) = true := by
  unfold lx_fit at h
  simp only [Bool.and_eq_true, decide_eq_true_eq] at h
  cases v with
  | ref a => exact ⟨by cases ty <;> rfl, by cases ty <;> first | rfl | exact h.2⟩
  | retAddr n => exact absurd h.2 (by cases ty <;> simp [fits])
  | _ => exact h
theorem lx_w_pf {idx : Nat} (X : lx_X g kc m p s mm args meth c) (hd : decode (xB m) pc = .ok (.putfield idx, 3)) (hs : lx_pf m idx pc L st h = some r) (K : lx_C g kc m p l e R s mm args below meth c h0 Q r.1 r.2.1 r.2.2.1 r.2.2.2) : lx_C g kc m p l e R s mm args below meth c h0 Q pc L st h := by
  obtain ⟨a, ci, k, w, tl, fs, v, rfl, hak, hF, ha, hkl, hfit, hpok, rfl⟩ := lx_pf_inv hs
  intro H locs ls hR hS hl
  show W p l e R s mm args below meth c H locs _ _ Q (F0 mm pc ls (lx_v g v :: .ref (lx_ad g a) :: tl.map (lx_v g)))
  rw [lx_ad_lt hak]
  have hts := lx_X_ts X
  obtain ⟨hn, hv⟩ := lx_fit_ok (g := g) hfit
  have hl' : k < (fs.map (lx_v g)).length := by rw [List.length_map]; exact hkl
  have key : ∀ {C : String} {T : u_T} {N : Nat}, xC[ci]? = some (C, T, N) → ∀ H1 : Heap, ∀ cell : Cell, H[g.1 + a]? = some cell → cell.cls = g.2.1.1 ci → cell.vm = .none → (∀ j, j < N → cell.slots[g.2.1.2 ci j]? = some (vp_V (fs.map (lx_v g)) j)) → k < N → H1[g.1 + a]? = some (cell.setSlot (g.2.1.2 ci k) (lx_v g v)) → H1.size = H.size → (∀ q, q ≠ g.1 + a → H1[q]? = H[q]?) → ∀ j : Nat, W p l e R s mm args below meth c H1 (locs ++ [⟨g.1 + a, j⟩]) (h.length - h0.1) (lx_hs h - h0.2) Q (F0 mm (pc + 3) ls (tl.map (lx_v g))) := by
    intro C T N hC H1 cell q1 q2 q3 q4 hkN e1 z oq j
    obtain ⟨c1, c2, c3⟩ := xC_ok hC
    have hap := va_apart (own := xO m) hts c1 (xFt ci) c2 c3 (lx_X_K X) hC
    refine lx_stored (e1 := .inr (ci, fs.set k v)) (pc' := pc + 3) hR hS hl ha rfl ⟨_, hC, t_OB.to (V := updV (vp_V (fs.map (lx_v g))) k (lx_v g v)) ⟨_, e1, q2, q3, t_set q4 hap hkN (lx_v g v)⟩ (fun i _ => ?_)⟩ z oq (fun y hy => by cases hy) K
    rw [vp_updV_set hl' (lx_v g v) i]
    show vp_V _ i = vp_V ((fs.set k v).map (lx_v g)) i
    rw [List.map_set]
  rcases xF_ok hF with ⟨hw, C, T, N, hC, hk, w1, wr, wi⟩ | ⟨rfl, hw⟩
  · obtain ⟨r0, h1, cell, q1, q2, q3, q4⟩ := lx_Rp_at hR ha
    have hr : r0 = (C, T, N) := Option.some.inj (h1.symm.trans hC)
    subst hr
    obtain ⟨hSl, hfc, kC, hkC, hkind⟩ := (lx_X_K X).1 ci _ hC
    obtain ⟨cf, kf, fi, f, hi, hsl⟩ := hSl k hk
    obtain ⟨c1, c2, c3⟩ := xC_ok hC
    have hst := (u_facts hfc hkC (u_lays hts c1 hk) hi).1
    have hlay := hts _ (c1 _ (u_in_lay hk))
    unfold u_lay at hlay
    have h03 : w = 0 ∨ w = 3 := by omega
    rcases h03 with rfl | rfl
    · rw [if_neg (by rw [wr rfl]; decide)] at hlay
      have h6 := u_store hfc hkC hkind hlay hi (c2 k hk) hn hv
      refine W.putK X.1 X.2.1 (f := f) ⟨lx_X_own X, hts _ w1, ⟨_, _, _, hi⟩, hst⟩ (by rw [q2]; exact h6) q1 q3 (by rw [hsl]; exact k2_hasslot (q4 k hk)) (g := F0 mm pc ls (lx_v g v :: .ref (g.1 + a) :: tl.map (lx_v g))) rfl rfl hd fun H' e1 e2 e3 => ?_
      exact key hC H' cell q1 q2 q3 q4 hk (by rw [← hsl]; exact e1) e2 e3 _
    · obtain ⟨hfin, hnm, hdecl⟩ := wi rfl
      rw [if_pos hfin] at hlay
      have hcf : mm.cls = cf := by
        obtain ⟨_, _, c', _, _, _, -, -, hf', -, -, -, hown2, -⟩ := Cond.laysFinal_spec hlay
        have e1 : c' = cf := by have := hi.symm.trans hf'; simp at this; exact this.1.symm
        rw [hdecl] at hown2
        rw [← e1]; exact Option.some.inj ((lx_X_own X).symm.trans hown2)
      have h6 := u_fits hfc hkC hkind (Or.inr hlay) hi (c2 k hk) hn hv
      refine W.putFinK X.1 X.2.1 (lx_X_own X) (hts _ w1) hi hst hcf (X.2.2.2.2.2.1 hnm) (by rw [q2]; exact h6) q1 q3 (by rw [hsl]; exact k2_hasslot (q4 k hk)) (g := F0 mm pc ls (lx_v g v :: .ref (g.1 + a) :: tl.map (lx_v g))) rfl rfl hd fun H' e1 e2 e3 => ?_
      exact key hC H' cell q1 q2 q3 q4 hk (by rw [← hsl]; exact e1) e2 e3 _
  · omega
end LXO
