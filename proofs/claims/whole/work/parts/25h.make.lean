/-! make of the class. -/
section CMK
variable {kc : List va_E} {L : Nat} {xs : Nat → Int32} {d : Nat} {Q : Option fx_V → fx_M → Prop} {Z : PZ}
theorem sp_cdraw {M : fx_M} {k : Int} (hk : 0 < k ∧ k ≤ 1048576) (K : Q (some (jI (dwv (M 29 4) k))) (fx_up M 29 4 (dws (M 29 4)))) : wc kc (d + 1) 99 [jR 29, jI k] M Q := by
  refine s99 ?_
  rw [if_neg (by omega)]
  exact ⟨⟨by omega, by omega⟩, ⟨by omega, by omega⟩, ⟨lushr_b, ⟨by omega, by omega⟩⟩, K⟩
theorem cz_again {M N : fx_M} {Z' : PZ} (h : cz M 11 Z) (he : zeq Z Z') (hg : ∀ c : Nat, c < 9 → N 17 (c : Int) = gv Z' c) (hf : ∀ b j, 11 ≤ b → b ≤ 19 → b ≠ 17 → N b j = M b j) : cz N 11 Z' := by
  obtain ⟨z0, z1, z2, z3, z4, z5, z6, z7, z8, zw⟩ := h
  obtain ⟨e1, e2, e3, e4⟩ := he
  refine ⟨by rw [hf 11 _ (by omega) (by omega) (by omega), e1]; exact z0, by rw [hf 11 _ (by omega) (by omega) (by omega), e2]; exact z1, by rw [hf 11 _ (by omega) (by omega) (by omega), e1, e2]; exact z2, by rw [hf 11 _ (by omega) (by omega) (by omega), e3]; exact z3, by rw [hf 11 _ (by omega) (by omega) (by omega), e4]; exact z4, fun r R hR => ?_, fun c hc => hg c hc, by rw [hf 11 _ (by omega) (by omega) (by omega)]; exact z7, by rw [hf 11 _ (by omega) (by omega) (by omega), e4]; exact z8, ?_⟩
  · rw [e4] at hR
    obtain ⟨a1, a2, a3, a4, a5⟩ := z5 r R hR
    exact ⟨by rw [hf 12 _ (by omega) (by omega) (by omega)]; exact a1, by rw [hf 13 _ (by omega) (by omega) (by omega)]; exact a2, by rw [hf 14 _ (by omega) (by omega) (by omega)]; exact a3, fun i hi => by rw [hf 15 _ (by omega) (by omega) (by omega)]; exact a4 i hi, by rw [hf 16 _ (by omega) (by omega) (by omega)]; exact a5⟩
  · unfold wys
    rw [e1, e3, e4]
    exact wys_fr zw (hf 11 _ (by omega) (by omega) (by omega)) (fun j => hf 18 _ (by omega) (by omega) (by omega))
theorem ckn_again {M N : fx_M} {Z' : PZ} (h : ckn M 11 Z) (he : zeq Z Z') (hg : ∀ c : Nat, c < 9 → N 17 (c : Int) = gv Z' c) (hf : ∀ b j, 11 ≤ b → b ≤ 19 → b ≠ 17 → N b j = M b j) : ckn N 11 Z' := ⟨cz_again h.1 he hg hf, by rw [hf 11 _ (by omega) (by omega) (by omega), he.2.2.2]; exact h.2⟩
/-- a filling as givens, and the row -/
theorem cmk_set {k : Int} {M0 : fx_M} {x : List Int} {w : Int} {S : Nat → Nat} (h9 : x.length ≤ 9) (hl : M0 11 2 = x.length) (hw : sta w S) (hS : ∀ i : Nat, i < x.length → S i = 2 ^ (x.getD i 0).toNat) (hv : ∀ i : Nat, i < x.length → 0 ≤ x.getD i 0 ∧ x.getD i 0 < 4) (K : ∀ M', (∀ c : Nat, c < x.length → M' 17 (c : Int) = x.getD c 0 ∧ M' 30 (c : Int) = (c : Int)) → (∀ (b : Nat) (j : Int), ¬ (b = 17 ∧ 0 ≤ j ∧ j < x.length) → b ≠ 30 → M' b j = M0 b j) → wc (kcs L xs) (d + 3) 100 [jR 29] M' (fun v M1 => wp (kcs L xs) (d + 4) 98 120 [some (jR 29), none, some (jI k), some (jL w), none, none, none, none, none] (v.toList ++ []) M1 Q)) : ∀ (t c : Nat) (M : fx_M), c + t = x.length → (∀ q : Nat, q < c → M 17 (q : Int) = x.getD q 0 ∧ M 30 (q : Int) = (q : Int)) → (∀ (b : Nat) (j : Int), ¬ (b = 17 ∧ 0 ≤ j ∧ j < x.length) → b ≠ 30 → M b j = M0 b j) → wp (kcs L xs) (d + 4) 98 70 [some (jR 29), none, some (jI k), some (jL w), none, none, some (jI c), none, none] [] M Q := by
  intro t
  induction t with
  | zero =>
    intro c M hc h1 h2
    refine s98_70 ?_
    rw [h2 11 _ (by omega) (by decide), hl]
    exact ⟨⟨⟨by omega, by omega⟩, ⟨by omega, by omega⟩⟩, fun _ => K M (fun q hq => h1 q (by omega)) h2, fun h => by omega⟩
  | succ t ih =>
    intro c M hc h1 h2
    have hb := hv c (by omega)
    have hp := low_pow ⟨(x.getD c 0).toNat, by omega⟩
    have hSi := hS c (by omega)
    refine s98_70 ?_
    rw [h2 11 _ (by omega) (by decide), hl]
    refine ⟨⟨⟨by omega, by omega⟩, ⟨by omega, by omega⟩⟩, fun h => by omega, fun _ => ?_⟩
    refine sp_may hw ⟨by omega, by omega⟩ (by rw [Int.toNat_natCast, hSi]; exact pow_16 ⟨(x.getD c 0).toNat, by omega⟩) (s98_97 ?_)
    rw [Int.toNat_natCast, hSi]
    refine sp_lowest hp.2.2 hp.2.1 (s98_100 ⟨⟨by omega, by omega⟩, ⟨by omega, by omega⟩, ?_⟩)
    rw [show lowb (2 ^ (x.getD c 0).toNat) = (x.getD c 0).toNat from hp.1, show (((x.getD c 0).toNat : Nat) : Int) = x.getD c 0 by omega]
    have nx := ih (c + 1) (fx_up (fx_up M 17 (c : Int) (x.getD c 0)) 30 (c : Int) (c : Int)) (by omega) (fun q hq => by
      by_cases e : q = c
      · subst e
        exact ⟨by rw [fx_up_na (by decide), fx_up_self], by rw [fx_up_self]⟩
      · rw [fx_up_nk (by omega), fx_up_nk (by omega), fx_up_nk (by omega), fx_up_nk (by omega)]
        exact h1 q (by omega)) (fun b j hb1 hb2 => by
      rw [fx_up_na hb2, fx_up_ne (by omega)]
      exact h2 b j hb1 hb2)
    rw [show ((c + 1 : Nat) : Int) = (c : Int) + 1 by omega] at nx
    exact nx
/-- only the row and what is drawn -/
def f30 (M N : fx_M) : Prop := ∀ b j, b ≠ 30 → ¬ (b = 29 ∧ j = 4) → N b j = M b j
theorem csh_loop {M0 : fx_M} {n : Int} (h9 : n ≤ 9) : ∀ (i : Nat) (M : fx_M) (s : Int) (r : Int → Int), ((i + 1 : Nat) : Int) ≤ n → M 29 4 = s → (∀ k, 0 ≤ k → k < n → M 30 k = r k) → f30 M0 M → (∀ M', (∀ k, 0 ≤ k → k < n → M' 30 k = (shf i s r).2 k) → f30 M0 M' → Q none M') → wp kc (d + 2) 100 10 [some (jR 29), some (jI i), none, none] [] M Q := by
  intro i
  induction i with
  | zero =>
    intro M s r hi hs hr hf K
    exact s100_10 ⟨⟨by omega, by omega⟩, fun _ => K M hr hf, fun h => by omega⟩
  | succ i ih =>
    intro M s r hi hs hr hf K
    have hb := dwv_b (s := s) (k := (i : Int) + 2) (by omega)
    refine s100_10 ⟨⟨by omega, by omega⟩, fun h => by omega, fun _ => sp_cdraw ⟨by omega, by omega⟩ (s100_22 ?_)⟩
    rw [hs, show ((i + 1 : Nat) : Int) + 1 = (i : Int) + 2 by omega]
    refine ⟨⟨by omega, by omega⟩, ⟨by omega, by omega⟩, ⟨by omega, by omega⟩, ⟨by omega, by omega⟩, ?_⟩
    rw [fx_up_na (a := 29) (b := 30) (by decide), fx_up_na (a := 29) (b := 30) (by decide)]
    have nx := ih (fx_up (fx_up (fx_up M 29 4 (dws s)) 30 ((i + 1 : Nat) : Int) (M 30 (dwv s ((i : Int) + 2)))) 30 (dwv s ((i : Int) + 2)) (M 30 ((i + 1 : Nat) : Int))) (dws s) (swp r ((i : Int) + 1) (dwv s ((i : Int) + 2))) (by omega) (by rw [fx_up_na (by decide), fx_up_na (by decide), fx_up_self]) (fun k h1 h2 => by
      unfold swp
      by_cases e1 : k = dwv s ((i : Int) + 2)
      · rw [if_pos e1, e1, fx_up_self, hr _ (by omega) (by omega)]
        congr 1
      · rw [if_neg e1, fx_up_nk e1]
        by_cases e2 : k = (i : Int) + 1
        · rw [if_pos e2, show ((i + 1 : Nat) : Int) = k by omega, fx_up_self, hr _ (by omega) (by omega)]
        · rw [if_neg e2, fx_up_nk (by omega), fx_up_na (by decide)]
          exact hr k h1 h2) (fun b j h1 h2 => by
      rw [fx_up_na h1, fx_up_na h1, fx_up_ne h2]
      exact hf b j h1 h2) (fun M' k1 k2 => K M' k1 k2)
    rw [show ((i + 1 : Nat) : Int) + (-1) = (i : Int) by omega]
    exact nx
theorem sp_shuffleRow {M : fx_M} {n : Nat} (h9 : 1 ≤ n ∧ n ≤ 9) (hl : M 11 2 = n) (hr : ∀ i : Nat, i < n → M 30 (i : Int) = (i : Int)) (K : ∀ M', (∀ k : Int, 0 ≤ k → k < n → M' 30 k = (shf (n - 1) (M 29 4) (fun i => i)).2 k) → f30 M M' → Q none M') : wc kc (d + 2) 100 [jR 29] M Q := by
  refine s100 ?_
  rw [hl]
  have nx := csh_loop (kc := kc) (d := d) (Q := Q) (M0 := M) (n := (n : Int)) (by omega) (n - 1) M (M 29 4) (fun i => i) (by omega) rfl (fun k a1 a2 => by
    have := hr k.toNat (by omega)
    rw [show ((k.toNat : Nat) : Int) = k by omega] at this
    exact this) (fun _ _ _ _ => rfl) K
  rw [show ((n - 1 : Nat) : Int) = (n : Int) - 1 by omega] at nx
  exact nx
/-- a filling stays an answer when givens go -/
theorem ans_del {x : List Int} (ho : pz_ok Z) (hx : x ∈ ans Z) {c : Nat} (hc : c < 9) : x ∈ ans (gdel Z c) := by
  obtain ⟨⟨t, ht, e⟩, hk⟩ := mem_sbx.mp hx
  refine mem_sbx.mpr ⟨⟨t, ht, e⟩, ?_⟩
  obtain ⟨h1, h2⟩ := okx_iff.mp hk
  refine okx_iff.mpr ⟨fun i hi => ⟨(h1 i hi).1, ?_⟩, h2⟩
  have := gv_give (Z := Z) (k := i) (s := -1) (pz_9 ho) hc
  unfold gv at this
  show (z_give Z (c : Int) (-1)).2.2.2.2.getD i (-1) = -1 ∨ (z_give Z (c : Int) (-1)).2.2.2.2.getD i (-1) = x.getD i 0
  rw [this]
  split
  · exact Or.inl rfl
  · exact (h1 i hi).2
theorem ans_fil {x : List Int} (ho : pz_ok Z) (hx : x ∈ ans (zfre Z)) : x ∈ ans (zfil Z x) := by
  have h9 := pz_n ho
  obtain ⟨⟨t, ht, e⟩, hk⟩ := mem_sbx.mp hx
  refine mem_sbx.mpr ⟨⟨t, ht, e⟩, ?_⟩
  have hl : x.length = (Z.1 * Z.2.1).toNat := (ans_len hx).1
  obtain ⟨h1, h2⟩ := okx_iff.mp hk
  refine okx_iff.mpr ⟨fun i hi => ⟨(h1 i hi).1, Or.inr ?_⟩, h2⟩
  have := zfil_gv (Z := Z) (x := x) (by omega) i
  rw [if_pos hi] at this
  exact this
theorem cmk_loop {M0 : fx_M} {k : Int} {r : Int → Int} {ZF : PZ} {x : List Int} (hk : 0 ≤ k ∧ k ≤ 1) {n : Int} (hr : ∀ q : Int, 0 ≤ q → q < n → M0 30 q = r q ∧ 0 ≤ r q ∧ r q < n) (K : ∀ M', f17 M0 M' → ckn M' 11 ZF → pz_ok ZF → wc (kcs L xs) (d + 13) 64 [jR 3, jR 1000081] M' (fun v M1 => wp (kcs L xs) (d + 14) 98 258 [some (jR 29), none, none, none, none, none, none, none, none] (v.toList ++ []) M1 Q)) : ∀ (t i : Nat) (Z : PZ) (v : Int) (M : fx_M), Z.1 * Z.2.1 = n → (i : Int) + t = n → pz_ok Z → x ∈ ans Z → sta v (s_first Z) → ckn M 11 Z → mkR k n r t i Z = ZF → f17 M0 M → wp (kcs L xs) (d + 14) 98 123 [some (jR 29), none, some (jI k), some (jL v), none, none, some (jI i), none, none] [] M Q := by
  intro t
  induction t with
  | zero =>
    intro i Z v M hn hi ho hx hv hc he hf
    have h9 := pz_n ho
    refine s98_123 ?_
    rw [hc.1.2.2.1]
    have he : Z = ZF := he
    subst he
    exact ⟨⟨⟨by omega, by omega⟩, ⟨by omega, by omega⟩⟩, fun _ => K M hf hc ho, fun h => by omega⟩
  | succ t ih =>
    intro i Z v M hn hi ho hx hv hc he hf
    have h9 := pz_n ho
    obtain ⟨hr1, hr2⟩ := hr i (by omega) (by omega)
    have hob := othC_b (k := k) hr2
    obtain ⟨c, ec⟩ : ∃ c : Nat, r i = (c : Int) := ⟨(r i).toNat, by omega⟩
    obtain ⟨o, eo⟩ : ∃ o : Nat, othC k n (r i) = (o : Int) := ⟨(othC k n (r i)).toNat, by omega⟩
    have e0 : mkS k n Z (r i) = if 0 ≤ gv Z c ∧ (ans (gdel (gdel Z c) o)).length < 2 then gdel (gdel Z c) o else Z := by
      unfold mkS
      rw [eo, ec]
      simp only [Int.toNat_natCast]
    rw [mkR, e0] at he
    have eM : M 30 (i : Int) = (c : Int) := by rw [hf 30 _ (by omega), hr1, ec]
    have eo2 : (if k = 1 then (Z.1 * Z.2.1 - 1 - (c : Int) : Int) else (c : Int)) = (o : Int) := by
      rw [← eo, ec, hn]
      unfold othC
      rfl
    have hgb := gv_b ho (c := c)
    rw [ec] at hr2
    rw [eo] at hob
    refine s98_123 ?_
    rw [hc.1.2.2.1, eM, eo2, cz_gv hc.1 (by omega)]
    refine ⟨⟨⟨by omega, by omega⟩, ⟨by omega, by omega⟩⟩, fun h => by omega, fun _ => ⟨⟨by omega, by omega⟩, ⟨by omega, by omega⟩, ⟨by omega, by omega⟩, ⟨by omega, by omega⟩, fun hneg => ?_, fun hp => ?_⟩⟩
    · have nx := ih (i + 1) Z v M hn (by omega) ho hx hv hc (by rw [if_neg (fun x => by omega)] at he; exact he) hf
      rw [show ((i + 1 : Nat) : Int) = (i : Int) + 1 by omega] at nx
      exact nx
    · have hv1 := sta_del ho zeq_rf hv (c := c) (by omega)
      have o1 := gdel_ok ho (show (c : Int) < Z.1 * Z.2.1 by omega)
      have hv2 := sta_del (Z := Z) o1 (zeq_del zeq_rf) hv1 (c := o) (by omega)
      have o2 := gdel_ok o1 (show (o : Int) < (gdel Z c).1 * (gdel Z c).2.1 by show (o : Int) < Z.1 * Z.2.1; omega)
      have x2 := ans_del o1 (ans_del ho hx (c := c) (by omega)) (c := o) (by omega)
      have hk2 := mnL_2 (a := (ans (gdel (gdel Z c) o)).length)
      have hpos : 0 < (ans (gdel (gdel Z c) o)).length := List.length_pos_of_mem x2
      refine sp_all hc.1 (s98_189 (sp_all hc.1 (s98_196 (sp_cnt (li := 2) ho hc o2 (zeq_del (zeq_del zeq_rf)) hv2 ⟨by omega, by omega⟩ (s98_201 ⟨⟨by omega, by omega⟩, fun hne => ?_, fun h1 => ?_⟩)))))
      · have nx := ih (i + 1) Z v M hn (by omega) ho hx hv hc (by rw [if_neg (fun x => hne (hk2.1.mpr (by omega)))] at he; exact he) hf
        rw [show ((i + 1 : Nat) : Int) = (i : Int) + 1 by omega] at nx
        exact nx
      · have h1 := hk2.1.mp h1
        refine sp_all hc.1 (s98_212 (sp_all hc.1 (s98_218 ⟨⟨by omega, by omega⟩, ⟨by omega, by omega⟩, ?_⟩)))
        have hc1 := ckn_del (s := -1) ho hc (c := c) (by omega)
        have hc2 := ckn_del (s := -1) o1 hc1 (c := o) (by omega)
        have hvv : sta (fx_lor v (fx_lor (fx_lshl (fx_lshl 1 Z.2.2.1 - 1) (4 * (c : Int))) (fx_lshl (fx_lshl 1 Z.2.2.1 - 1) (4 * (o : Int))))) (s_first (gdel (gdel Z c) o)) := by
          refine ⟨in64_lor _ _, fun q hq => ?_⟩
          rw [← hv2.2 q hq]
          rw [lbit_lor, lbit_lor, lbit_lor, lbit_lor, Bool.or_assoc]
        have nx := ih (i + 1) (gdel (gdel Z c) o) _ (fx_up (fx_up M 17 (c : Int) (-1)) 17 (o : Int) (-1)) hn (by omega) o2 x2 hvv hc2 (by rw [if_pos ⟨hp, by omega⟩] at he; exact he) (fun b j hb => by rw [fx_up_ne (by omega), fx_up_ne (by omega)]; exact hf b j hb)
        rw [show ((i + 1 : Nat) : Int) = (i : Int) + 1 by omega] at nx
        exact nx
theorem sp_make {M : fx_M} {seed k : Int} (ho : pz_ok Z) (hc : ckn M 11 Z) (hO : o_ok M 3) (hs : 0 ≤ seed ∧ seed < 1000000000) (hk : 0 ≤ k ∧ k < 1000) (K0 : 1 < k → Q (some (jI 0)) (o_app M 3 tNoKind)) (K1 : k ≤ 1 → ans (zfre Z) = [] → Q (some (jI 0)) (o_app M 3 (wls 1852796517))) (K2 : k ≤ 1 → ans (zfre Z) ≠ [] → ∀ M', (∀ b j, ¬ csc b → ¬ (b = 17 ∧ 0 ≤ j ∧ j < 9) → M' b j = o_app M 3 (tMade Z seed k) b j) → ckn M' 11 (zMk Z seed k) → pz_ok (zMk Z seed k) → Q (some (jI 1)) M') : wc (kcs L xs) (d + 15) 98 [jR 29, jI seed, jI k] M Q := by
  have h9 := pz_n ho
  refine s98 ⟨⟨by omega, by omega⟩, fun hk1 => ?_, fun hk1 => ?_⟩
  · have zo := zfre_ok ho
    have hlen := ans_le zo
    refine sp_free puz11 hc.1 ho (fun v hv => s98_23 ?_)
    rw [← s_free_eq] at hv
    refine sp_cnt (li := 1048576) ho hc zo ⟨rfl, rfl, rfl, rfl⟩ hv ⟨by omega, by omega⟩ (s98_31 ?_)
    have em : mnL ((ans (zfre Z)).length : Int) 1048576 = (ans (zfre Z)).length := by
      unfold mnL
      rw [if_pos (by omega)]
    rw [em]
    clear em
    refine ⟨⟨by omega, by omega⟩, fun hne => ⟨⟨by omega, by omega⟩, ?_⟩, fun h0 => ?_⟩
    · have hne2 : ans (zfre Z) ≠ [] := fun e => hne (by rw [e]; rfl)
      have hb := dwv_b (s := seed) (k := (ans (zfre Z)).length) (by omega)
      refine sp_cdraw ⟨by omega, by omega⟩ (s98_63 ?_)
      rw [fx_up_self]
      obtain ⟨n, hn⟩ : ∃ n : Nat, dwv seed (ans (zfre Z)).length = (n : Int) := ⟨(dwv seed (ans (zfre Z)).length).toNat, by omega⟩
      rw [hn]
      have hnl : n < (ans (zfre Z)).length := by omega
      have hx := List.getElem?_eq_getElem hnl
      have xm : (ans (zfre Z))[n] ∈ ans (zfre Z) := List.getElem_mem hnl
      generalize hxe : (ans (zfre Z))[n] = x at hx xm
      have hu : ∀ (b : Nat) (j : Int), ¬ (b = 29 ∧ j = 4) → (fx_up (fx_up M 29 4 seed) 29 4 (dws seed)) b j = M b j := fun b j h => by rw [fx_up_ne h, fx_up_ne h]
      have c3 : ckn (fx_up (fx_up M 29 4 seed) 29 4 (dws seed)) 11 Z := ckn_fr hc (fun b j h1 h2 => hu b j (by omega))
      have eS : ansS Z (s_first (zfre Z)) = ans (zfre Z) := by
        rw [ansS_cg (Z := Z) (Z' := zfre Z) rfl rfl rfl]
        exact ansS_first zo
      have hsok : s_ok Z (s_first (zfre Z)) := s_ok_eq (Z' := zfre Z) ⟨rfl, rfl, rfl, rfl⟩ (s_first_ok zo)
      have hsne : s_ne Z (s_first (zfre Z)) := s_ne_eq (Z' := zfre Z) ⟨rfl, rfl, rfl, rfl⟩ (s_first_ne zo)
      refine sp_pick ho hsok hsne c3 hv (x := x) (by rw [eS]; exact hx) (fun w hw => s98_66 ?_)
      obtain ⟨xl, xv⟩ := ans_len xm
      have xl : x.length = (Z.1 * Z.2.1).toNat := xl
      have xv : ∀ i : Nat, i < x.length → 0 ≤ x.getD i 0 ∧ x.getD i 0 < 4 := fun i hi => xv _ (getD_mem hi)
      refine cmk_set (d := d + 11) (M0 := fx_up (fx_up M 29 4 seed) 29 4 (dws seed)) (x := x) (by omega) (by rw [c3.1.2.2.1]; omega) hw (fun i hi => by unfold rS; rw [if_pos hi]) xv (fun M4 g1 g2 => ?_) x.length 0 _ (by omega) (fun q h => by omega) (fun _ _ _ _ => rfl)
      have zfo := zfil_ok ho xm
      have c4 : ckn M4 11 (zfil Z x) := ckn_again c3 ⟨rfl, rfl, rfl, rfl⟩ (fun c hc9 => by
        rw [zfil_gv (by omega)]
        by_cases e : c < x.length
        · rw [if_pos e, (g1 c e).1]
        · rw [if_neg e, g2 17 _ (by omega) (by decide), cz_gv c3.1 hc9]
          exact ho.2.2.2.2.2.2.2.2.2.2 c (by omega)) (fun b j h1 h2 h3 => g2 b j (by omega) (by omega))
      have v4 : sta w (s_first (zfil Z x)) := sta_ext hw (fun c hc9 => by
        have hg := zfil_gv (Z := Z) (x := x) (by omega) c
        unfold gv at hg
        unfold rS s_first
        rw [hg]
        by_cases e : c < x.length
        · have := xv c e
          rw [if_pos e, if_pos e, if_pos (show (c : Int) < (zfil Z x).1 * (zfil Z x).2.1 by show (c : Int) < Z.1 * Z.2.1; omega), if_pos (by omega)]
        · rw [if_neg e, if_neg (show ¬ (c : Int) < (zfre Z).1 * (zfre Z).2.1 by show ¬ (c : Int) < Z.1 * Z.2.1; omega), if_neg (show ¬ (c : Int) < (zfil Z x).1 * (zfil Z x).2.1 by show ¬ (c : Int) < Z.1 * Z.2.1; omega)])
      have e4 : M4 29 4 = dws seed := by rw [g2 29 _ (by omega) (by decide), fx_up_self]
      refine sp_shuffleRow (n := (Z.1 * Z.2.1).toNat) (by omega) (by rw [c4.1.2.2.1]; show Z.1 * Z.2.1 = _; omega) (fun i hi => (g1 i (by omega)).2) (fun M5 r1 r2 => s98_120 ?_)
      rw [e4] at r1
      have c5 : ckn M5 11 (zfil Z x) := ckn_fr c4 (fun b j h1 h2 => r2 b j (by omega) (by omega))
      have ezm : mkR k (Z.1 * Z.2.1) (shf ((Z.1 * Z.2.1).toNat - 1) (dws seed) (fun i => i)).2 (Z.1 * Z.2.1).toNat 0 (zfil Z x) = zMk Z seed k := by
        unfold zMk
        rw [hn, Int.toNat_natCast, List.getD_eq_getElem?_getD, hx]
        rfl
      refine cmk_loop (d := d + 1) (M0 := M5) (n := Z.1 * Z.2.1) (r := (shf ((Z.1 * Z.2.1).toNat - 1) (dws seed) (fun i => i)).2) (ZF := zMk Z seed k) (x := x) ⟨hk.1, hk1⟩ (fun q h1 h2 => ⟨r1 q h1 (by omega), shf_in (n := Z.1 * Z.2.1) _ _ _ (by omega) (fun k h1 h2 => ⟨h1, h2⟩) q h1 h2⟩) (fun M6 f6 c6 o6 => ?_) (Z.1 * Z.2.1).toNat 0 (zfil Z x) w M5 rfl (by omega) zfo (ans_fil ho xm) v4 c5 ezm (fun _ _ _ => rfl)
      have f06 : ∀ b j, ¬ csc b → ¬ (b = 17 ∧ 0 ≤ j ∧ j < 9) → M6 b j = M b j := fun b j h1 h2 => by
        unfold csc at h1
        rw [f6 b j h2, r2 b j (by omega) (by omega), g2 b j (by omega) (by omega), hu b j (by omega)]
      have hO6 : o_ok M6 3 := by
        unfold o_ok
        rw [f06 3 1 csc_3 (by omega)]
        exact hO
      have et : ([109, 97, 100, 101, 32] : List Int32).map Int32.toInt = wls 1835099237 ++ [32] := by decide +kernel
      refine sp_puts out3 lt_1000081 hO6 (s98_258 ?_)
      rw [et]
      have c7 := ckn_cwr c6 (cwr_app (cs := wls 1835099237 ++ [32]))
      have hcg := cgv_le o6
      refine sp_givens o6 c7.1 (s98_269 (sp_number out3 (o_ok_app hO6) (by omega) (by omega) (s98_272 (K2 hk1 hne2 _ (fun b j hb hg => ?_) (ckn_cwr c7 cwr_app) o6))))
      have e1 : o_app (o_app M6 3 (wls 1835099237 ++ [32])) 3 (dgs ((cgv (zMk Z seed k) : Nat) : Int)) = o_app M6 3 (tMade Z seed k) := by
        rw [o_app_app]
        unfold tMade
        simp
      rw [e1]
      have e2 := o_app_cg (cs := tMade Z seed k) (f06 3 1 csc_3 (by omega)) (fun j => f06 4 j csc_4 (by omega))
      by_cases h4 : b = 4
      · subst h4
        exact e2.2 j
      · by_cases h3 : b = 3 ∧ j = 1
        · obtain ⟨rfl, rfl⟩ := h3
          exact e2.1
        · rw [o_app_n3 h3 h4, o_app_n3 h3 h4]
          exact f06 b j hb hg
    · have e0 : ans (zfre Z) = [] := List.length_eq_zero_iff.mp (by omega)
      have et : ([110, 111, 110, 101] : List Int32).map Int32.toInt = wls 1852796517 := by decide +kernel
      refine sp_puts out3 lt_1000071 hO (s98_47 ?_)
      rw [et]
      exact K1 hk1 e0
  · have et : ([110, 111, 32, 107, 105, 110, 100] : List Int32).map Int32.toInt = tNoKind := by decide +kernel
    refine sp_puts out3 lt_1000079 hO (s98_14 ?_)
    rw [et]
    exact K0 hk1
end CMK
