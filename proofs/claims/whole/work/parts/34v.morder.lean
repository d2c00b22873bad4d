/-! FORMS, the reference: order, whole. -/
section MOV
variable {kc : List va_E} {d : Nat} {M : fx_M} {Q : Option fx_V → fx_M → Prop}
theorem cSf_of {s : Int} {M N : fx_M} (h : cSf s M N) : ofr s (s + 1) M N := fun b j _ _ b3 => h b j (by omega)
theorem od_cells : ∀ (D P : List PR) (M : fx_M), slt M 36 (P ++ D) → P.length + D.length ≤ 12 → M 149 3 = P.length + D.length → (∀ x ∈ P, x.2.2.length ≤ 4) → (∀ x ∈ D, pr_ok 9 x) → (∀ M', slt M' 36 (P ++ D.map nR0) → ofr 24 48 M M' → wp kc (d + 2) 335 42 [some (jR 133), some (jI 3), some (jI 36), some (jI 24), some (jI 0), some (jI 0), none, none] [] M' Q) → wp kc (d + 2) 335 11 [some (jR 133), some (jI 3), some (jI 36), some (jI 24), some (jI P.length), none, none, none] [] M Q := by
  intro D
  induction D with
  | nil =>
    intro P M hm hl h49 hP hD K
    refine s335_11 ?_
    rw [h49]
    exact ⟨⟨by omega, by omega⟩, ⟨⟨by omega, by omega⟩, ⟨by omega, by omega⟩⟩, fun _ => K M hm ofr_rf, fun h => by simp at h⟩
  | cons R D ih =>
    intro P M hm hl h49 hP hD K
    have hR := hD R (List.mem_cons_self ..)
    rw [List.length_cons] at hl h49
    have hm2 := hm
    rw [slt_app, slt_cons] at hm2
    obtain ⟨m1, m2, m3⟩ := hm2
    have h4D : ∀ x ∈ D, x.2.2.length ≤ 4 := fun x hx => (hD x (List.mem_cons_of_mem _ hx)).2.2.2.2.2.1
    have h40 : (nR0 R).2.2.length ≤ 4 := by
      unfold nR0
      dsimp only
      rw [orC_len hR.2.2.2.2.2.2.2 hR.2.2.2.2.2.2.1]
      exact hR.2.2.2.2.2.1
    refine s335_11 ?_
    rw [h49]
    refine ⟨⟨by omega, by omega⟩, ⟨⟨by omega, by omega⟩, ⟨by omega, by omega⟩⟩, fun h => by omega, fun _ => sp_orderCells (d := d) ⟨by omega, by omega⟩ hR m2 (fun N n1 n2 => s335_30 ?_)⟩
    have f := cSf_of n2
    have lP : (P ++ [nR0 R]).length = P.length + 1 := by rw [List.length_append, List.length_singleton]
    have := ih (P ++ [nR0 R]) N (by
      rw [List.append_assoc, List.singleton_append, slt_app, slt_cons]
      exact ⟨slt_of hP m1 f (by omega), n1, slt_of h4D m3 f (by omega)⟩) (by omega) (by rw [n2 _ _ (by omega), h49, lP]; omega) (fun x hx => (List.mem_append.mp hx).elim (hP x) (fun h => by rw [List.mem_singleton.mp h]; exact h40)) (fun x hx => hD x (List.mem_cons_of_mem _ hx)) (fun M' k1 k2 => K M' (by
        rw [List.append_assoc, List.singleton_append] at k1
        rw [List.map_cons]
        exact k1) (ofr_tr (ofr_wk f (by omega) (by omega)) k2))
    rw [show ((P ++ [nR0 R]).length : Int) = (P.length : Int) + 1 by omega] at this
    exact this
theorem od_main {n : Nat} (hn : n ≤ 12) : ∀ (D S : List PR) (v : Nat) (M : fx_M), slt M 36 S → slt M (36 + v) D → S.length ≤ v → v + D.length = n → M 149 3 = n → (∀ x ∈ S, vR x) → (∀ x ∈ D, vR x) → ris kyR S → 0 ≤ M 133 5 → M 133 5 + 42 ≤ 6000 → (∀ M', slt M' 36 (D.foldl (fun s R => insR R s) S) → M' 149 3 = (D.foldl (fun s R => insR R s) S).length → (∀ b j, ¬ (b = 136 ∧ M 133 5 ≤ j) → ¬ ((b = 150 ∨ b = 151 ∨ b = 152) ∧ 24 ≤ j ∧ j < 48) → ¬ (b = 153 ∧ 96 ≤ j ∧ j < 192) → ¬ (b = 149 ∧ j = 3) → M' b j = M b j) → Q none M') → wp kc (d + 6) 335 42 [some (jR 133), some (jI 3), some (jI 36), some (jI 24), some (jI S.length), some (jI v), none, none] [] M Q := by
  intro D
  induction D with
  | nil =>
    intro S v M hS hD hl hv h49 vS vD hr h0 h6 K
    rw [List.length_nil] at hv
    refine s335_42 ?_
    rw [h49]
    refine ⟨⟨by omega, by omega⟩, ⟨⟨by omega, by omega⟩, ⟨by omega, by omega⟩⟩, fun _ => ⟨⟨by omega, by omega⟩, K _ ?_ (fx_up_self ..) (fun b j b1 b2 b3 b4 => fx_up_ne b4)⟩, fun h => by omega⟩
    rw [List.foldl_nil]
    exact fun i R hi => mR_fr (vR_4 (vS R (List.mem_of_getElem? hi))) (hS i R hi) (fun b hb => fx_up_na (by omega)) (fun j _ _ => fx_up_na (by omega))
  | cons R D ih =>
    intro S v M hS hD hl hv h49 vS vD hr h0 h6 K
    rw [List.length_cons] at hv
    rw [slt_cons] at hD
    have vR0 := vD R (List.mem_cons_self ..)
    have vD' : ∀ x ∈ D, vR x := fun x hx => vD x (List.mem_cons_of_mem _ hx)
    refine s335_42 ?_
    rw [h49]
    refine ⟨⟨by omega, by omega⟩, ⟨⟨by omega, by omega⟩, ⟨by omega, by omega⟩⟩, fun h => by omega, fun _ => sp_copyS (d := d + 4) ⟨by omega, by omega⟩ ⟨by omega, by omega⟩ (by omega) (vR_4 vR0) hD.1 (fun N n1 n2 => s335_62 ?_)⟩
    have n5 := ofr_5 n2
    have hSN : slt N 36 S := slt_of (fun x hx => vR_4 (vS x hx)) hS n2 (by omega)
    have hDN : slt N (36 + v + 1) D := slt_of (fun x hx => vR_4 (vD' x hx)) hD.2 n2 (by omega)
    have step : ∀ (M' : fx_M) (T : List PR), insR R S = T → slt M' 36 T → T.length ≤ v + 1 → ofr 36 (36 + S.length + 1) N M' → wp kc (d + 6) 335 42 [some (jR 133), some (jI 3), some (jI 36), some (jI 24), some (jI T.length), some (jI (v + 1 : Nat)), none, none] [] M' Q := fun M' T eT m1 m2 m3 => by
      have m5 := ofr_5 m3
      refine ih T (v + 1) M' m1 ?_ m2 (by omega) ?_ (fun x hx => ?_) vD' (eT ▸ insR_ris hr) (by omega) (by omega) (fun O o1 o2 o3 => K O ?_ ?_ (fun b j b1 b2 b3 b4 => ?_))
      · rw [show (36 : Int) + ((v + 1 : Nat) : Int) = 36 + v + 1 by omega]
        exact slt_of (fun x hx => vR_4 (vD' x hx)) hDN m3 (by omega)
      · rw [m3 _ _ (by omega) (by omega) (by omega), n2 _ _ (by omega) (by omega) (by omega), h49]
      · rw [← eT] at hx
        rcases insR_sub hx with h | h
        · rw [h]
          exact vR0
        · exact vS x h
      · rw [List.foldl_cons, eT]
        exact o1
      · rw [List.foldl_cons, eT]
        exact o2
      · rw [o3 b j (by rw [m5, n5]; exact b1) b2 b3 b4, m3 b j (by rw [n5]; exact b1) (by omega) (by omega), n2 b j b1 (by omega) (by omega)]
    have w := od_wh (kc := kc) (d := d) (Q := Q) (v5 := v) vR0 S.length S [] N rfl n1 (by rw [List.append_nil]; exact hSN) (by rw [List.length_nil]; omega) vS (fun x hx => by cases hx) (fun x hx => by cases hx) (by rw [List.append_nil]; exact hr) (by omega) (by omega)
    rw [List.append_nil] at w
    refine w (fun M' m1 m2 m3 => s335_153 ?_) (fun M' m1 m3 => ?_)
    · rw [List.length_nil] at m2 m3
      have := step M' _ rfl m1 (by omega) (ofr_wk m3 (by omega) (by omega))
      rw [m2] at this
      rw [List.length_nil]
      exact this
    · exact step M' S m1 (slt_of (fun x hx => vR_4 (vS x hx)) hSN m3 (by omega)) (by omega) (fun b j b1 _ _ => m3 b j b1 (by omega) (by omega))
end MOV
