/-! seek, whole. -/
theorem sbA_skip {P : List Int → Bool} {p : List Int} {m : Nat} : ∀ (t : Nat) (y : Int), t ≤ 4 → 4 - (t : Int) ≤ y → y ≤ 4 → (∀ z : Int, 4 - (t : Int) ≤ z → z < y → sbx P (p ++ [z]) m = []) → sbA P p m t = sbA P p m (4 - y).toNat
  | 0, y, _, h1, h2, _ => by
    rw [show (4 - y).toNat = 0 by omega]
  | t + 1, y, ht, h1, h2, h => by
    by_cases e : y = 3 - (t : Int)
    · rw [show (4 - y).toNat = t + 1 by omega]
    · rw [sbA_succ, h (3 - (t : Int)) (by omega) (by omega), List.nil_append]
      exact sbA_skip t y (by omega) (by omega) h2 (fun z h3 h4 => h z (by omega) h4)
section SEEKC
variable {kc : List va_E} {d : Nat} {Q : Option fx_V → fx_M → Prop} {Z : PZ}
theorem giv_bb (ho : pz_ok Z) (k : Nat) : -1 ≤ Z.2.2.2.2.getD k (-1) ∧ Z.2.2.2.2.getD k (-1) < Z.2.2.1 := by
  by_cases h : k < Z.2.2.2.2.length
  · refine ho.2.2.2.2.2.2.2.2.2.1 _ ?_
    rw [List.getD_eq_getElem?_getD, List.getElem?_eq_getElem h]
    exact List.getElem_mem _
  · rw [List.getD_eq_getElem?_getD, List.getElem?_eq_none (by omega)]
    have := ho.2.2.2.2.1
    exact ⟨by simp, by simp; omega⟩
theorem syA_up {M : fx_M} {p : List Int} {y : Int} (hs : syA M p) : syA (fx_up M 155 (p.length : Int) y) (p ++ [y]) := fun i hi => by
  simp only [List.length_append, List.length_cons, List.length_nil] at hi
  unfold fx_up
  by_cases e : i = p.length
  · subst e
    rw [if_pos ⟨rfl, rfl⟩, getD_end]
  · rw [if_neg (by omega), getD_app (by omega)]
    exact hs i (by omega)
theorem syA_pre {M : fx_M} {p q : List Int} (hs : syA M (p ++ q)) : syA M p := fun i hi => by
  rw [hs i (by simp; omega), getD_app hi]
theorem syA_set {M : fx_M} {p : List Int} {k y : Int} (hs : syA M p) (hk : (p.length : Int) ≤ k) : syA (fx_up M 155 k y) p := fun i hi => by
  unfold fx_up
  rw [if_neg (by omega)]
  exact hs i hi
theorem sk_sub (ho : pz_ok Z) : ∀ (m : Nat) (p : List Int), ((p.length + m + 1 : Nat) : Int) = Z.1 * Z.2.1 → fnp Z p → ∀ (t : Nat), t ≤ 4 → ∀ M : fx_M, msr M Z → syA M p → M 155 (p.length : Int) = 3 - (t : Int) → (∀ M' a tl, sbA (okx Z) p m t = a :: tl → f155 M M' → syA M' a → Q (some (jI 1)) M') → (sbA (okx Z) p m t = [] → ∀ M', f155 M M' → syA M' p → wp kc (d + 5) 269 117 [some (jR 133), none, some (jI ((p.length : Int) + (-1))), none, none] [] M' Q) → wp kc (d + 5) 269 117 [some (jR 133), none, some (jI (p.length : Int)), none, none] [] M Q := by
  have h9 := pz_n ho
  have hs4 := ho.2.2.2.2.2.1
  intro m
  induction m using Nat.strongRecOn with
  | _ m ihm =>
  intro p hl hf t
  induction t using Nat.strongRecOn with
  | _ t iht =>
  intro ht M hm hs hv Kf Kb
  have hg := giv_bb ho p.length
  refine s269_117 ⟨⟨by omega, by omega⟩, fun h => by omega, fun _ => sp_symbolBehind (k := p.length) (v := 4 - (t : Int)) (by omega) ho hm.1 (by omega) (by omega) (fun y k1 k2 k3 => s269_131 ?_)⟩
  have hy : 4 - (t : Int) ≤ y ∨ y = Z.2.2.1 := by omega
  have hy4 : 0 ≤ y ∧ y ≤ 4 := by omega
  have hat : (fx_up M 155 (p.length : Int) y) 155 (p.length : Int) = y := by
    unfold fx_up
    rw [if_pos ⟨rfl, rfl⟩]
  have e148 := hm.1.2.2.1
  rw [hat, e148]
  have fr := f155_up (M := M) (k := (p.length : Int)) (v := y)
  refine ⟨⟨by omega, by omega⟩, ⟨by omega, by omega⟩, ⟨⟨by omega, by omega⟩, ⟨by omega, by omega⟩⟩, fun hlt => ?_, fun hge => ?_⟩
  · -- a symbol to be tried
    have hyt : 4 - (t : Int) ≤ y := by omega
    have hgy : Z.2.2.2.2.getD p.length (-1) = -1 ∨ Z.2.2.2.2.getD p.length (-1) = y := by omega
    have esk : sbA (okx Z) p m t = sbA (okx Z) p m (4 - y).toNat := sbA_skip t y ht hyt hy4.2 (fun z h1 h2 => sbx_out ho (by
      rintro ⟨-, h4, -⟩
      omega))
    obtain ⟨t', ht'⟩ : ∃ t' : Nat, (4 - y).toNat = t' + 1 := ⟨(3 - y).toNat, by omega⟩
    have ey : (3 : Int) - (t' : Int) = y := by omega
    rw [ht', sbA_succ, ey] at esk
    have hs1 := syA_up (y := y) hs
    have hm1 := msr_fr hm fr
    -- back here with the next symbol
    have again : ∀ M', f155 M M' → syA M' (p ++ [y]) → sbx (okx Z) (p ++ [y]) m = [] → wp kc (d + 5) 269 117 [some (jR 133), none, some (jI (p.length : Int)), none, none] [] M' Q := fun M' hf' hs' hn => by
      rw [hn, List.nil_append] at esk
      refine iht t' (by omega) (by omega) M' (msr_fr hm hf') (syA_pre hs') ?_ (fun M2 a tl h1 h2 h3 => Kf M2 a tl (esk.trans h1) (f155_tr hf' h2) h3) (fun h1 M2 h2 h3 => Kb (esk.trans h1) M2 (f155_tr hf' h2) h3)
      have := hs' p.length (by simp)
      rw [getD_end] at this
      omega
    refine sp_isFine (p := p ++ [y]) ho hm1 hs1 (by simp) (by omega) (fun i hi => ?_) (s269_158 ?_)
    · simp only [List.length_append, List.length_cons, List.length_nil] at hi
      by_cases e : i = p.length
      · subst e
        rw [getD_end]
        omega
      · rw [getD_app (by omega)]
        have := hf.1 i (by omega)
        omega
    · unfold bI
      by_cases hfk : fnk Z (p ++ [y]) p.length = true
      · rw [if_pos hfk]
        refine ⟨⟨by omega, by omega⟩, fun h => by omega, fun _ => s248 (s269_169 ?_)⟩
        rw [hm1.1.1, hm1.1.2.1]
        have hfp := fnp_step ho hf ⟨by omega, hlt⟩ hgy hfk
        refine ⟨⟨⟨by omega, by omega⟩, ⟨by omega, by omega⟩⟩, fun hne => ⟨⟨by omega, by omega⟩, ?_⟩, fun he => ?_⟩
        · obtain ⟨m', rfl⟩ : ∃ m', m = m' + 1 := ⟨m - 1, by omega⟩
          have hlen : (p ++ [y]).length = p.length + 1 := by simp
          have f2 := f155_up (M := fx_up M 155 (p.length : Int) y) (k := (p.length : Int) + 1) (v := -1)
          have nx := ihm m' (by omega) (p ++ [y]) (by rw [hlen]; omega) hfp 4 (by omega) (fx_up (fx_up M 155 (p.length : Int) y) 155 ((p.length : Int) + 1) (-1)) (msr_fr hm1 f2) (syA_set hs1 (by rw [hlen]; omega)) (by
            rw [hlen]
            unfold fx_up
            rw [if_pos ⟨rfl, by omega⟩]
            omega) (fun M2 a tl h1 h2 h3 => Kf M2 a (tl ++ sbA (okx Z) p (m' + 1) t') (by rw [esk, sbx_succ, h1]; rfl) (f155_tr fr (f155_tr f2 h2)) h3) (fun h1 M2 h2 h3 => by
            rw [hlen]
            have := again M2 (f155_tr fr (f155_tr f2 h2)) h3 (by rw [sbx_succ, h1])
            rw [show ((p.length + 1 : Nat) : Int) + (-1) = (p.length : Int) by omega]
            exact this)
          rw [hlen] at nx
          rw [show ((p.length + 1 : Nat) : Int) = (p.length : Int) + 1 by omega] at nx
          exact nx
        · have m0 : m = 0 := by omega
          subst m0
          refine Kf _ (p ++ [y]) (sbA (okx Z) p 0 t') ?_ fr hs1
          rw [esk, sbx_zero, if_pos (fnp_ok ho hfp (by simp; omega))]
          rfl
      · rw [if_neg hfk]
        refine ⟨⟨by omega, by omega⟩, fun _ => ?_, fun h => absurd rfl h⟩
        exact again _ fr hs1 (sbx_out ho (fun h => hfk h.2.2))
  · refine Kb (sbA_nil (fun z hz => sbx_out ho ?_)) _ fr (syA_set hs (Int.le_refl _))
    have := (mem_up4 ht).mp hz
    rintro ⟨h1, h2, -⟩
    omega
/-- the levels above -/
theorem sk_top (ho : pz_ok Z) {f : Nat → Int} : ∀ (k : Nat), ((k : Nat) : Int) ≤ Z.1 * Z.2.1 → (∀ j, k = j + 1 → fnp Z ((List.range j).map f)) → (∀ i, i < k → -1 ≤ f i ∧ f i < 4) → ∀ M : fx_M, msr M Z → (∀ i : Nat, i < k → M 155 (i : Int) = f i) → (∀ M' a tl, rmx (okx Z) (Z.1 * Z.2.1).toNat f k = a :: tl → f155 M M' → syA M' a → Q (some (jI 1)) M') → (rmx (okx Z) (Z.1 * Z.2.1).toNat f k = [] → ∀ M', f155 M M' → Q (some (jI 0)) M') → wp kc (d + 5) 269 117 [some (jR 133), none, some (jI ((k : Int) - 1)), none, none] [] M Q := by
  have h9 := pz_n ho
  intro k
  induction k with
  | zero =>
    intro _ _ _ M hm _ Kf Kb
    exact s269_117 ⟨⟨by omega, by omega⟩, fun _ => Kb rfl M f155_rf, fun h => by omega⟩
  | succ k ih =>
    intro hk hfn hfb M hm hs Kf Kb
    have hlen : ((List.range k).map f).length = k := by simp
    have hget : ∀ i : Nat, i < k → ((List.range k).map f).getD i 0 = f i := fun i hi => by
      rw [List.getD_eq_getElem?_getD, List.getElem?_map, List.getElem?_range hi]
      rfl
    have hfk := hfb k (by omega)
    have nx := sk_sub (kc := kc) (d := d) (Q := Q) ho ((Z.1 * Z.2.1).toNat - k - 1) ((List.range k).map f) (by rw [hlen]; omega) (hfn k rfl) (3 - f k).toNat (by omega) M hm (fun i hi => by
      rw [hlen] at hi
      rw [hget i hi]
      exact hs i (by omega)) (by
      rw [hlen, hs k (by omega)]
      omega) (fun M' a tl h1 h2 h3 => Kf M' a (tl ++ rmx (okx Z) (Z.1 * Z.2.1).toNat f k) (by rw [rmx, h1]; rfl) h2 h3) (fun h1 M' h2 h3 => by
      rw [hlen]
      have := ih (by omega) (fun j hj => by
        subst hj
        have := hfn (j + 1) rfl
        rw [rng_succ] at this
        exact fnp_pre ho this) (fun i hi => hfb i (by omega)) M' (msr_fr hm h2) (fun i hi => by
        rw [h3 i (by rw [hlen]; exact hi), hget i hi]) (fun M2 a tl g1 g2 g3 => Kf M2 a tl (by rw [rmx, h1]; exact g1) (f155_tr h2 g2) g3) (fun g1 M2 g2 => Kb (by rw [rmx, h1]; exact g1) M2 (f155_tr h2 g2))
      rw [show (k : Int) + (-1) = (k : Int) - 1 by omega]
      exact this)
    rw [hlen] at nx
    rw [show ((k + 1 : Nat) : Int) - 1 = (k : Int) by omega]
    exact nx
/-- 155 and 159 alone have changed -/
def f159 (M N : fx_M) : Prop := ∀ b j, b ≠ 155 → b ≠ 159 → N b j = M b j
theorem f159_of {M N : fx_M} (h : f155 M N) : f159 M N := fun b j hb _ => h b j hb
theorem f159_tr {M N O : fx_M} (h : f159 M N) (h2 : f159 N O) : f159 M O := fun b j hb hc => (h2 b j hb hc).trans (h b j hb hc)
theorem f159_rf {M : fx_M} : f159 M M := fun _ _ _ _ => rfl
theorem f159_up {M : fx_M} {k v : Int} : f159 M (fx_up M 159 k v) := fun b j _ hb => by
  unfold fx_up
  rw [if_neg (fun h => hb h.1)]
theorem mz_f159 {M N : fx_M} {u : Int} (h : mz M u Z) (hf : f159 M N) : mz N u Z := by
  obtain ⟨h1, h2, h3, h4, h5, h6⟩ := h
  unfold mz
  rw [hf 146 _ (by decide) (by decide), hf 147 _ (by decide) (by decide), hf 148 _ (by decide) (by decide), hf 149 _ (by decide) (by decide)]
  refine ⟨h1, h2, h3, h4, fun r R hR => ?_, fun c hc => ?_⟩
  · rw [hf 150 _ (by decide) (by decide), hf 151 _ (by decide) (by decide), hf 152 _ (by decide) (by decide)]
    obtain ⟨a, b, c, e⟩ := h5 r R hR
    exact ⟨a, b, c, fun i x hx => by rw [hf 153 _ (by decide) (by decide)]; exact e i x hx⟩
  · rw [hf 154 _ (by decide) (by decide)]
    exact h6 c hc
theorem lst_snoc {l : List Int} {c : Int} : lst (l ++ [c]) = if lst l < c then c else lst l := by
  unfold lst
  rw [List.foldl_append]
  rfl
theorem last_in (ho : pz_ok Z) {R : PR} {r : Nat} (hR : Z.2.2.2.1[r]? = some R) {v2 : Int} {M0 : fx_M} (K : ∀ M, f159 M0 M → M 155 0 = M0 155 0 → (∀ q : Int, q ≠ r → M 159 q = M0 159 q) → M 159 (r : Int) = lst R.2.2 → wp kc (d + 5) 269 28 [some (jR 133), none, some (jI v2), some (jI ((r : Int) + 1)), none] [] M Q) : ∀ (t i : Nat), i + t = R.2.2.length → ∀ M : fx_M, mz M 0 Z → f159 M0 M → M 155 0 = M0 155 0 → (∀ q : Int, q ≠ r → M 159 q = M0 159 q) → M 159 (r : Int) = lst (R.2.2.take i) → wp kc (d + 5) 269 48 [some (jR 133), none, some (jI v2), some (jI r), some (jI i)] [] M Q := by
  obtain ⟨hRo, hr12⟩ := rule_in ho hR
  have hl4 := hRo.2.2.2.2.2.1
  have h9 := pz_n ho
  intro t
  induction t with
  | zero =>
    intro i hi M hm hf h155 hq h159
    refine s269_48 ?_
    obtain ⟨a1, a2, a3, a4⟩ := hm.2.2.2.2.1 r R hR
    rw [show (12 * (0 : Int) + (r : Int)) = r by omega] at a3
    rw [a3]
    refine ⟨⟨by omega, by omega⟩, ⟨⟨by omega, by omega⟩, ⟨by omega, by omega⟩⟩, fun _ => K M hf h155 hq ?_, fun h => by omega⟩
    rw [h159, List.take_of_length_le (by omega)]
  | succ t ih =>
    intro i hi M hm hf h155 hq h159
    have hil : i < R.2.2.length := by omega
    obtain ⟨a1, a2, a3, a4⟩ := hm.2.2.2.2.1 r R hR
    rw [show (12 * (0 : Int) + (r : Int)) = r by omega] at a3 a4
    have hc := a4 i _ (List.getElem?_eq_getElem hil)
    have hcb := hRo.2.2.2.2.2.2.1 _ (List.getElem_mem hil)
    have e1 : R.2.2.take (i + 1) = R.2.2.take i ++ [R.2.2[i]] := by rw [List.take_succ, List.getElem?_eq_getElem hil]; rfl
    have b1 := (lst_ge (R.2.2.take i) 0).1
    have b2 := lst_le (R.2.2.take i) 0 8 (by omega) (fun c hc => by have := hRo.2.2.2.2.2.2.1 _ (List.mem_of_mem_take hc); omega)
    refine s269_48 ?_
    rw [a3, hc, h159]
    have hb : (0 : Int) ≤ lst (R.2.2.take i) ∧ lst (R.2.2.take i) ≤ 8 := ⟨b1, b2⟩
    refine ⟨⟨by omega, by omega⟩, ⟨⟨by omega, by omega⟩, ⟨by omega, by omega⟩⟩, fun h => by omega, fun _ => ⟨⟨by omega, by omega⟩, ⟨by omega, by omega⟩, ⟨by omega, by omega⟩, ⟨by omega, by omega⟩, fun _ => ⟨by omega, by omega⟩, fun _ => ⟨by omega, by omega⟩, ⟨by omega, by omega⟩, ?_⟩⟩
    have nx := ih (i + 1) (by omega) (fx_up M 159 (r : Int) (if lst (R.2.2.take i) < R.2.2[i] then R.2.2[i] else lst (R.2.2.take i))) (mz_f159 hm f159_up) (f159_tr hf f159_up) (by
      unfold fx_up
      rw [if_neg (by omega)]
      exact h155) (fun q hqr => by
      unfold fx_up
      rw [if_neg (fun h => hqr h.2)]
      exact hq q hqr) (by
      rw [e1, lst_snoc]
      unfold fx_up
      rw [if_pos ⟨rfl, rfl⟩])
    rw [show ((i + 1 : Nat) : Int) = (i : Int) + 1 by omega] at nx
    exact nx
theorem last_loop (ho : pz_ok Z) {v2 : Int} {M0 : fx_M} (K : ∀ M, f159 M0 M → M 155 0 = M0 155 0 → msr M Z → wp kc (d + 5) 269 117 [some (jR 133), none, some (jI v2), none, none] [] M Q) : ∀ (t r : Nat), r + t = Z.2.2.2.1.length → ∀ M : fx_M, mz M 0 Z → f159 M0 M → M 155 0 = M0 155 0 → (∀ (q : Nat) (R : PR), q < r → Z.2.2.2.1[q]? = some R → M 159 (q : Int) = lst R.2.2) → wp kc (d + 5) 269 28 [some (jR 133), none, some (jI v2), some (jI r), none] [] M Q := by
  have h12 := ho.2.2.2.2.2.2.1
  intro t
  induction t with
  | zero =>
    intro r hr M hm hf h155 hq
    refine s269_28 ?_
    rw [hm.2.2.2.1]
    exact ⟨⟨⟨by omega, by omega⟩, ⟨by omega, by omega⟩⟩, fun _ => K M hf h155 ⟨hm, fun q R hR => hq q R (by have := (List.getElem?_eq_some_iff.mp hR).1; omega) hR⟩, fun h => by omega⟩
  | succ t ih =>
    intro r hr M hm hf h155 hq
    have hrl : r < Z.2.2.2.1.length := by omega
    have hR := List.getElem?_eq_getElem hrl
    refine s269_28 ?_
    rw [hm.2.2.2.1]
    refine ⟨⟨⟨by omega, by omega⟩, ⟨by omega, by omega⟩⟩, fun h => by omega, fun _ => ⟨⟨by omega, by omega⟩, ?_⟩⟩
    refine last_in (M0 := fx_up M 159 (r : Int) 0) ho hR (fun M1 g1 g2 g3 g4 => ?_) (Z.2.2.2.1[r]).2.2.length 0 (by omega) _ (mz_f159 hm f159_up) f159_rf rfl (fun _ _ => rfl) (by
      unfold fx_up lst
      rw [if_pos ⟨rfl, rfl⟩]
      rfl)
    have u155 : (fx_up M 159 (r : Int) 0) 155 0 = M 155 0 := by
      unfold fx_up
      rw [if_neg (by omega)]
    have nx := ih (r + 1) (by omega) M1 (mz_f159 hm (f159_tr f159_up g1)) (f159_tr hf (f159_tr f159_up g1)) (by rw [g2, u155, h155]) (fun q R hq2 hR2 => by
      by_cases e : q = r
      · subst e
        rw [hR] at hR2
        cases hR2
        exact g4
      · rw [g3 _ (by omega)]
        unfold fx_up
        rw [if_neg (by omega)]
        exact hq q R (by omega) hR2)
    rw [show ((r + 1 : Nat) : Int) = (r : Int) + 1 by omega] at nx
    exact nx
/-- seek from the start -/
theorem sp_seek1 {M : fx_M} (ho : pz_ok Z) (hm : mz M 0 Z) (Kf : ∀ M' a tl, ans Z = a :: tl → f159 M M' → msr M' Z → syA M' a → Q (some (jI 1)) M') (Kb : ans Z = [] → ∀ M', f159 M M' → msr M' Z → Q (some (jI 0)) M') : wc kc (d + 5) 269 [jR 133, jI 1] M Q := by
  have h9 := pz_n ho
  refine s269 ⟨⟨by omega, by omega⟩, fun h => by omega, fun _ => ⟨⟨by omega, by omega⟩, fun h => by omega, fun _ => ?_⟩⟩
  have f0 : f159 M (fx_up M 155 0 (-1)) := f159_of f155_up
  refine last_loop (M0 := fx_up M 155 0 (-1)) ho (fun M1 g1 g2 g3 => ?_) Z.2.2.2.1.length 0 (by omega) _ (mz_f159 hm f0) f159_rf rfl (fun q R h => by omega)
  have er : rmx (okx Z) (Z.1 * Z.2.1).toNat (fun _ => -1) 1 = ans Z := by
    unfold rmx rmx ans
    rw [List.append_nil, show (Z.1 * Z.2.1).toNat = ((Z.1 * Z.2.1).toNat - 0 - 1) + 1 by omega]
    rw [sbx_succ]
    rfl
  have nx := sk_top (kc := kc) (d := d) (Q := Q) ho (f := fun _ => -1) 1 (by omega) (fun j hj => by
    obtain rfl : j = 0 := by omega
    exact fnp_nil ho) (fun i _ => ⟨by omega, by omega⟩) M1 g3 (fun i hi => by
    obtain rfl : i = 0 := by omega
    show M1 155 0 = -1
    rw [g2]
    unfold fx_up
    rw [if_pos ⟨rfl, rfl⟩]) (fun M' a tl k1 k2 k3 => Kf M' a tl (er.symm.trans k1) (f159_tr f0 (f159_tr g1 (f159_of k2))) (msr_fr g3 k2) k3) (fun k1 M' k2 => Kb (er.symm.trans k1) M' (f159_tr f0 (f159_tr g1 (f159_of k2))) (msr_fr g3 k2))
  exact nx
/-- seek behind the i-th answer -/
theorem sp_seek0 {M : fx_M} (ho : pz_ok Z) (hm : msr M Z) {i : Nat} {x : List Int} (hx : (ans Z)[i]? = some x) (hs : syA M x) (Kf : ∀ M' a, (ans Z)[i + 1]? = some a → f159 M M' → msr M' Z → syA M' a → Q (some (jI 1)) M') (Kb : (ans Z).length = i + 1 → ∀ M', f159 M M' → msr M' Z → Q (some (jI 0)) M') : wc kc (d + 5) 269 [jR 133, jI 0] M Q := by
  have h9 := pz_n ho
  obtain ⟨hi, hxe⟩ := List.getElem?_eq_some_iff.mp hx
  have hmem : x ∈ ans Z := by
    rw [← hxe]
    exact List.getElem_mem hi
  obtain ⟨hxl, hxv⟩ := ans_len hmem
  have ex : (List.range (Z.1 * Z.2.1).toNat).map (fun i => x.getD i 0) = x := by
    apply List.ext_getElem
    · simp [hxl]
    · intro j h1 h2
      simp
      rw [List.getElem?_eq_getElem h2]
      rfl
  have hb : ∀ j : Nat, j < (Z.1 * Z.2.1).toNat → 0 ≤ x.getD j 0 ∧ x.getD j 0 < 4 := fun j hj => hxv _ (getD_mem (by omega))
  have hr : rmx (okx Z) (Z.1 * Z.2.1).toNat (fun i => x.getD i 0) (Z.1 * Z.2.1).toNat = (ans Z).drop (i + 1) := rmx_drop (P := okx Z) (a := fun i => x.getD i 0) (fun j hj => hb j hj) (by
    rw [ex]
    exact hx)
  have hok := okx_iff.mp (mem_sbx.mp hmem).2
  refine s269 ⟨⟨by omega, by omega⟩, fun _ => s248 (s269_12 ?_), fun h => absurd rfl h⟩
  rw [hm.1.1, hm.1.2.1]
  refine ⟨⟨by omega, by omega⟩, fun _ => ?_, fun h => absurd rfl h⟩
  have nx := sk_top (kc := kc) (d := d) (Q := Q) ho (f := fun i => x.getD i 0) (Z.1 * Z.2.1).toNat (by omega) (fun j hj => by
    have hlen : ((List.range j).map (fun i => x.getD i 0)).length = j := by simp
    have hget : ∀ q : Nat, q < j → ((List.range j).map (fun i => x.getD i 0)).getD q 0 = x.getD q 0 := fun q hq => by
      rw [List.getD_eq_getElem?_getD, List.getElem?_map, List.getElem?_range hq]
      rfl
    refine ⟨fun q hq => ?_, fun R hR hl => ?_⟩
    · rw [hlen] at hq
      rw [hget q hq]
      have h1 := hok.1 q (by omega)
      exact ⟨(hb q (by omega)).1, h1.1, h1.2⟩
    · rw [hlen] at hl
      have hc := (rule_lst ho hR).1
      have : selx ((List.range j).map (fun i => x.getD i 0)) R.2.2 = selx x R.2.2 := by
        unfold selx
        apply List.map_congr_left
        intro c hc2
        have := hc c hc2
        exact hget _ (by omega)
      rw [this]
      exact hok.2 R hR) (fun j hj => ⟨by have := hb j hj; omega, (hb j hj).2⟩) M hm (fun j hj => hs j (by omega)) (fun M' a tl k1 k2 k3 => Kf M' a (by
      rw [hr] at k1
      have := List.getElem?_drop (xs := ans Z) (i := i + 1) (j := 0)
      rw [k1] at this
      simpa using this.symm) (f159_of k2) (msr_fr hm k2) k3) (fun k1 M' k2 => Kb (by
      rw [hr] at k1
      have := List.drop_eq_nil_iff.mp k1
      omega) M' (f159_of k2) (msr_fr hm k2))
  rw [show (((Z.1 * Z.2.1).toNat : Nat) : Int) - 1 = Z.1 * Z.2.1 - 1 by omega] at nx
  exact nx
end SEEKC
