/-! THE TIE, by induction over the run -/
section LXU
theorem lx_rcv_ref {kc : List va_E} {k w : Nat} {h : lx_H} {As : List Value} (hr : lx_rcv kc k w h As = true) (hw : w = 2 ∨ w = 3 ∨ w = 4 ∨ w = 5) : ∃ (b : Nat) (tl : List Value), As = .ref b :: tl := by
  unfold lx_rcv at hr
  split at hr
  · exact ⟨_, _, rfl⟩
  · rcases hw with rfl | rfl | rfl | rfl <;> cases hr
theorem lx_rcv_at {kc : List va_E} {k w b : Nat} {h : lx_H} {tl : List Value} (hr : lx_rcv kc k w h (.ref b :: tl) = true) (hw : w = 2 ∨ w = 3) : ∃ fs : List Value, lx_at kc h b = some (.inr (xKc k, fs)) := by
  unfold lx_rcv at hr
  dsimp only at hr
  rw [if_pos hw] at hr
  split at hr
  · next ci fs hx =>
    have e : ci = xKc k := by simpa using hr
    subst e
    exact ⟨fs, hx⟩
  · cases hr
section LXV
variable {g : lx_G} {kc : List va_E} {m : Nat} {p : Program} {l : Launch} {e : Env} {R : Room} {s : State} {mm : MethodId} {args : Array Value} {below : List Frame} {meth : Method} {c : Code} {h0 : Nat × Nat} {Q : State → Prop}
variable {pc : Nat} {L : lx_L} {st : List Value} {h : lx_H}
/-- the receiver stands in the heap, or is a literal -/
theorem lx_recv (hkc : ∀ (j : Nat) (o : Nat × List Value), kc[j]? = some (.inr o) → o.1 = 1000) {H : Heap} {locs : List Loc} {k b : Nat} {fs : List Value} (X : lx_X g kc m p s mm args meth c) (hR : lx_Rp g h H) (hS : va_S (lx_A g) s.heap H locs) (hb : lx_at kc h b = some (.inr (xKc k, fs))) (hc : (∃ r, xC[xKc k]? = some r ∧ r.1 = (xY k).cls) ∨ (xC[xKc k]? = none ∧ xKc k = 1000 ∧ (xY k).cls = "java/lang/String")) : ∃ cellB : Cell, H[lx_ad g b]? = some cellB ∧ cellB.vm.isStatics = false ∧ s.vm.findClass (xY k).cls = some cellB.cls := by
  by_cases hk : b < lx_K
  · rw [lx_at_lt hk] at hb
    rw [lx_ad_lt hk]
    rcases hc with ⟨r, hr, hn⟩ | ⟨hn, -⟩
    · rw [← hn]
      exact va_recv (lx_X_K X) hR.2.1 hr (lx_ws_at hb)
    · obtain ⟨r, hr, -⟩ := lx_Rp_at hR hb
      have hr : xC[xKc k]? = some r := hr
      rw [hn] at hr
      cases hr
  · rw [lx_at_ge hk] at hb
    rw [lx_ad_ge hk]
    have e := hkc _ _ hb
    dsimp only at e
    have hO := lx_X_C X hb
    rcases hc with ⟨r, hr, -⟩ | ⟨-, -, hs⟩
    · rw [e] at hr
      have := (List.getElem?_eq_some_iff.mp hr).1
      rw [xC_len] at this
      omega
    · rw [hs]
      obtain ⟨cell, h1, h2, h3, -⟩ := va_O.kept hO.1 hS.2.1
      exact ⟨cell, h1, h2, h3⟩
end LXV
theorem lx_sound {kc : List va_E} (hkc : ∀ (j : Nat) (o : Nat × List Value), kc[j]? = some (.inr o) → o.1 = 1000) : ∀ (n : Nat) {d m pc : Nat} {L : lx_L} {st : List Value} {h : lx_H} {r : Option Value × lx_H}, lx_go kc n d m pc L st h = some r → lx_Tie kc d m pc L st h r
  | 0, _, _, _, _, _, _, _, hg => by cases hg
  | n + 1, d, m, pc, L, st, h, r, hg => by
    intro g p l e R s mm args below meth c h0 Q X hF hLo hRc hRs hc0 hs0 Kret
    obtain ⟨i, hI, hc⟩ := lx_go_inv hg
    rcases hc with ⟨v, hv, rfl⟩ | ⟨k, a, w, d', r1, hSx, rfl, ha, hsum, hwd, hrcv, h1, h2⟩ | ⟨q, -, -, hq, h2⟩
    · exact Kret pc i L st hI hv
    · have g1 := lx_go_grow h1
      have g2 := lx_go_grow h2
      obtain ⟨idx, hsay, hi⟩ := xS_ok hSx
      obtain ⟨hk, hmx, wini, hpl, hlink, hkind⟩ := hsay
      have hM := lx_met (kc := kc) hk hpl hwd h1 (lx_sound hkc n h1) g l
      have K := lx_sound hkc n h2 g p l e R s mm args below meth c h0 Q X hF hLo hRc hRs (Nat.le_trans hc0 g1.1) (Nat.le_trans hs0 g1.2) Kret
      obtain ⟨len, hd0, hn⟩ := xI_ok hI
      have hts := lx_X_ts X
      have hown := lx_X_own X
      have hlen : ((st.take a).reverse).length = a := by rw [List.length_reverse, List.length_take]; omega
      have hc1 : h.length - h0.1 + (r1.2.length - h.length) = r1.2.length - h0.1 := by have := g1.1; omega
      have hc2 : lx_hs h - h0.2 + (lx_hs r1.2 - lx_hs h) = lx_hs r1.2 - h0.2 := by have := g1.2; omega
      have hf : h.length - h0.1 + (r1.2.length - h.length) ≤ R.cells ∧ lx_hs h - h0.2 + (lx_hs r1.2 - lx_hs h) ≤ R.slots := by
        have := g2.1; have := g2.2
        rw [hc1, hc2]
        exact ⟨by omega, by omega⟩
      have hroom : (lx_rm d' (r1.2.length - h.length) (lx_hs r1.2 - lx_hs h)).frames + 1 ≤ R.frames ∧ 8 + (xM k + 11) + (lx_rm d' (r1.2.length - h.length) (lx_hs r1.2 - lx_hs h)).locals ≤ R.locals := by
        show d' + 1 + 1 ≤ R.frames ∧ 8 + (xM k + 11) + (d' + 1) * 64 ≤ R.locals
        exact ⟨hF, by omega⟩
      intro H locs ls hR hS hl
      have hz : H.size ≤ g.1 + r1.2.length := by rw [hR.1]; have := g1.1; omega
      have hrest : 2 * (F0 mm pc ls (st.map (lx_v g))).monitorRoom + (((st.drop a).map (lx_v g)).map fun v => v.category).sum ≤ 8 := by
        show 2 * 0 + _ ≤ 8
        rw [lx_sum]; omega
      have fix : CallFix p mm c (xB m) (xM m) s args xTS (xO m) := ⟨X.1, X.2.1, X.2.2.1, hown, hts⟩
      have hpre := lx_pre X hR hS (st.take a).reverse
      generalize hAs : (st.take a).reverse = As at hM hpre hrcv hlen
      have hst := lx_st (f := lx_v g) hAs
      rcases hkind with ⟨hw2, hsc, wst⟩ | ⟨hw2, ha0, hsc, win, hsel⟩
      · obtain ⟨nm1, nm2, nm3⟩ := xScall_ok hsc
        obtain rfl : i = .invokestatic idx := by
          rcases hi with ⟨e1, -⟩ | ⟨-, e2⟩ | ⟨-, e2⟩
          · exact e1
          · omega
          · omega
        have hd : decode (xB m) pc = .ok (.invokestatic idx, 3) := by rw [hd0, hn 3 rfl]
        rcases hlink with ⟨-, hl1⟩ | ⟨-, host, hl1⟩
        · exact lx_called (a := (As.map (lx_v g)).toArray) (va_runS fix hM ⟨callB_of a hts (lx_good hk) rfl rfl rfl (hts _ wini) (hts _ hl1) ⟨nm1, nm2, nm3⟩ hroom, hts _ wst⟩ ⟨lx_blind, hpre⟩ rfl (by rw [List.length_map]; exact hlen) hl.1 hst hrest hd hf) hS hl hz hc1 hc2 K
        · exact lx_called (a := (As.map (lx_v g)).toArray) (va_runSN fix hM ⟨va_cnB a hts (lx_good hk) rfl rfl rfl ((lx_X_E X).2.2.1 (xO m, idx, xY k, host) hl1) (hts _ wini) ⟨nm1, nm2, nm3⟩ hroom, hts _ wst, trivial⟩ ⟨lx_blind, hpre⟩ rfl (by rw [List.length_map]; exact hlen) hl.1 hst hrest hd hf) hS hl hz hc1 hc2 K
      · obtain ⟨nm1, nm2, nm3⟩ := xScall_ok hsc
        have hw3 : w = 2 ∨ w = 3 ∨ w = 4 ∨ w = 5 := by
          rcases hi with ⟨-, e2⟩ | ⟨-, e2⟩ | ⟨-, e2⟩ <;> omega
        obtain ⟨b, tl, rfl⟩ := lx_rcv_ref hrcv hw3
        have hln : (tl.map (lx_v g)).length = a - 1 := by
          rw [List.length_map]
          have : tl.length + 1 = a := hlen
          omega
        have hst : st.map (lx_v g) = (tl.map (lx_v g)).reverse ++ .ref (lx_ad g b) :: (st.drop a).map (lx_v g) := by
          rw [hst]
          show (Value.ref (lx_ad g b) :: tl.map (lx_v g)).reverse ++ _ = _
          rw [List.reverse_cons, List.append_assoc]
          rfl
        rcases hsel with ⟨hw4, wsel, hcl⟩ | ⟨hw4, hnm, hret⟩
        · obtain rfl : i = .invokevirtual idx := by
            rcases hi with ⟨-, e2⟩ | ⟨e1, -⟩ | ⟨-, e2⟩
            · omega
            · exact e1
            · omega
          have hd : decode (xB m) pc = .ok (.invokevirtual idx, 3) := by rw [hd0, hn 3 rfl]
          obtain ⟨fs, hat⟩ := lx_rcv_at hrcv (by omega)
          have hrc := lx_recv hkc X hR hS hat hcl
          rcases hlink with ⟨-, hl1⟩ | ⟨-, host, hl1⟩
          · exact lx_called (a := (Value.ref (lx_ad g b) :: tl.map (lx_v g)).toArray) (va_runV (C := (xY k).cls) fix hM ⟨callB_of (a - 1) hts (lx_good hk) rfl rfl rfl (hts _ wini) (hts _ hl1) ⟨nm1, nm2, nm3⟩ hroom, hts _ win, hts _ wsel⟩ ⟨lx_blind, hrc, hpre⟩ rfl hln hl.1 hst hrest hd hf) hS hl hz hc1 hc2 K
          · exact lx_called (a := (Value.ref (lx_ad g b) :: tl.map (lx_v g)).toArray) (va_runVN (C := (xY k).cls) fix hM ⟨va_cnB (a - 1) hts (lx_good hk) rfl rfl rfl ((lx_X_E X).2.2.1 (xO m, idx, xY k, host) hl1) (hts _ wini) ⟨nm1, nm2, nm3⟩ hroom, hts _ win, hts _ wsel⟩ ⟨lx_blind, hrc, hpre⟩ rfl hln hl.1 hst hrest hd hf) hS hl hz hc1 hc2 K
        · obtain rfl : i = .invokespecial idx := by
            rcases hi with ⟨-, e2⟩ | ⟨-, e2⟩ | ⟨e1, -⟩
            · omega
            · omega
            · exact e1
          have hd : decode (xB m) pc = .ok (.invokespecial idx, 3) := by rw [hd0, hn 3 rfl]
          have hg9 : GoodIn xTS (xW k) := lx_good hk
          have hxw : xW k = Cond.code (xY k) (xB k) (xM k) none :: xTS := by rw [← hret]; rfl
          rcases hlink with ⟨-, hl1⟩ | ⟨-, host, hl1⟩
          · exact lx_called (a := (Value.ref (lx_ad g b) :: tl.map (lx_v g)).toArray) (va_runI fix hM ⟨callB_of (a - 1) hts hg9 hxw rfl rfl (hts _ wini) (hts _ hl1) ⟨nm1, nm2, nm3⟩ hroom, hnm, hts _ win⟩ ⟨lx_blind, hpre⟩ rfl hln hl.1 hst hrest hd hf) hS hl hz hc1 hc2 K
          · exact lx_called (a := (Value.ref (lx_ad g b) :: tl.map (lx_v g)).toArray) (va_runIN fix hM ⟨va_cnB (a - 1) hts hg9 hxw rfl rfl ((lx_X_E X).2.2.1 (xO m, idx, xY k, host) hl1) (hts _ wini) ⟨nm1, nm2, nm3⟩ hroom, hnm, hts _ win⟩ ⟨lx_blind, hpre⟩ rfl hln hl.1 hst hrest hd hf) hS hl hz hc1 hc2 K
    · have g1 := lx_ins_grow hq
      have g2 := lx_go_grow h2
      have K := lx_sound hkc n h2 g p l e R s mm args below meth c h0 Q X hF hLo hRc hRs (Nat.le_trans hc0 g1.1) (Nat.le_trans hs0 g1.2) Kret
      exact lx_ins_C X hI hq (by omega) (by omega) (Nat.le_trans (Nat.sub_le_sub_right g2.1 _) hRc) (Nat.le_trans (Nat.sub_le_sub_right g2.2 _) hRs) hc0 hs0 K
end LXU
