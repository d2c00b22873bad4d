/-! WAYS of the reference: the first one, the next one. -/
/-- the rows behind x that leave its first k symbols at an earlier place -/
def rmW (ms : List Nat) (x : List Int) : Nat → List (List Int)
  | 0 => []
  | k + 1 => (((sym4 (ms.getD k 0)).filter (fun y => decide (x.getD k 0 < y))).flatMap fun y => (prd (ms.drop (k + 1))).map (fun t => x.take k ++ y :: t)) ++ rmW ms x k
theorem sym4_split : ∀ (m : Fin 16) (x : Fin 4), (m : Nat).testBit (x : Nat) = true → sym4 (m : Nat) = (sym4 (m : Nat)).filter (fun y => decide (y < ((x : Nat) : Int))) ++ ((x : Nat) : Int) :: (sym4 (m : Nat)).filter (fun y => decide (((x : Nat) : Int) < y)) := by decide +kernel
theorem nat_drop {ms : List Nat} {k : Nat} (h : k < ms.length) : ms.drop k = ms.getD k 0 :: ms.drop (k + 1) := by
  rw [List.drop_eq_getElem_cons h, List.getD_eq_getElem?_getD, List.getElem?_eq_getElem h]
  rfl
theorem take_snocD {x : List Int} {k : Nat} (h : k < x.length) : x.take (k + 1) = x.take k ++ [x.getD k 0] := by
  rw [List.take_succ, List.getElem?_eq_getElem h, List.getD_eq_getElem?_getD, List.getElem?_eq_getElem h]
  rfl
theorem rmW_split {ms : List Nat} {x : List Int} (hl : x.length = ms.length) (h16 : ∀ m ∈ ms, m < 16) (hx : ∀ i : Nat, i < ms.length → x.getD i 0 ∈ sym4 (ms.getD i 0)) : ∀ k, k ≤ ms.length → ∃ pre, prd ms = pre ++ ((prd (ms.drop k)).map (fun t => x.take k ++ t) ++ rmW ms x k)
  | 0, _ => ⟨[], by simp [rmW]⟩
  | k + 1, hk => by
    obtain ⟨pre, e⟩ := rmW_split hl h16 hx k (by omega)
    have hkl : k < ms.length := by omega
    have hm16 : ms.getD k 0 < 16 := h16 _ (by
      rw [List.getD_eq_getElem?_getD, List.getElem?_eq_getElem hkl]
      exact List.getElem_mem _)
    have hxk := sym4_mem.mp (hx k hkl)
    obtain ⟨xk, ex⟩ : ∃ n : Nat, x.getD k 0 = (n : Int) := ⟨(x.getD k 0).toNat, by omega⟩
    rw [ex, Int.toNat_natCast] at hxk
    have hsp := sym4_split ⟨ms.getD k 0, hm16⟩ ⟨xk, by omega⟩ hxk.2.2
    simp only at hsp
    have e2 : prd (ms.drop k) = ((sym4 (ms.getD k 0)).filter (fun y => decide (y < x.getD k 0))).flatMap (fun y => (prd (ms.drop (k + 1))).map (y :: ·)) ++ ((prd (ms.drop (k + 1))).map (x.getD k 0 :: ·) ++ ((sym4 (ms.getD k 0)).filter (fun y => decide (x.getD k 0 < y))).flatMap (fun y => (prd (ms.drop (k + 1))).map (y :: ·))) := by
      rw [nat_drop hkl, prd, ex]
      rw [show (sym4 (ms.getD k 0)).flatMap (fun y => (prd (ms.drop (k + 1))).map (y :: ·)) = ((sym4 (ms.getD k 0)).filter (fun y => decide (y < (xk : Int))) ++ (xk : Int) :: (sym4 (ms.getD k 0)).filter (fun y => decide ((xk : Int) < y))).flatMap (fun y => (prd (ms.drop (k + 1))).map (y :: ·)) by rw [← hsp]]
      rw [List.flatMap_append, List.flatMap_cons]
    refine ⟨pre ++ (((sym4 (ms.getD k 0)).filter (fun y => decide (y < x.getD k 0))).flatMap (fun y => (prd (ms.drop (k + 1))).map (y :: ·))).map (fun t => x.take k ++ t), ?_⟩
    rw [e, e2, List.map_append, List.map_append, rmW]
    have e3 : ((prd (ms.drop (k + 1))).map (x.getD k 0 :: ·)).map (fun t => x.take k ++ t) = (prd (ms.drop (k + 1))).map (fun t => x.take (k + 1) ++ t) := by
      rw [List.map_map]
      apply List.map_congr_left
      intro t _
      rw [take_snocD (by omega)]
      simp
    have e4 : (((sym4 (ms.getD k 0)).filter (fun y => decide (x.getD k 0 < y))).flatMap (fun y => (prd (ms.drop (k + 1))).map (y :: ·))).map (fun t => x.take k ++ t) = ((sym4 (ms.getD k 0)).filter (fun y => decide (x.getD k 0 < y))).flatMap fun y => (prd (ms.drop (k + 1))).map (fun t => x.take k ++ y :: t) := by
      rw [List.map_flatMap]
      congr 1
      funext y
      rw [List.map_map]
      rfl
    rw [e3, e4]
    simp only [List.append_assoc]
theorem nodup_sym4 : ∀ m : Fin 16, (sym4 (m : Nat)).Nodup := by decide +kernel
theorem nodup_map {α β : Type} {f : α → β} (hf : ∀ a b, f a = f b → a = b) {l : List α} (h : l.Nodup) : (l.map f).Nodup := by
  unfold List.Nodup
  rw [List.pairwise_map]
  exact h.imp (fun h e => h (hf _ _ e))
theorem nodup_prd : ∀ {ms : List Nat}, (∀ m ∈ ms, m < 16) → (prd ms).Nodup
  | [], _ => by simp [prd]
  | m :: ms, h => by
    have ih := nodup_prd (ms := ms) (fun m hm => h m (List.mem_cons_of_mem _ hm))
    have hs := nodup_sym4 ⟨m, h m (List.mem_cons_self ..)⟩
    simp only at hs
    unfold prd
    revert hs
    generalize sym4 m = l
    intro hs
    induction l with
    | nil => simp
    | cons a l ihl =>
      obtain ⟨h1, h2⟩ := List.nodup_cons.mp hs
      rw [List.flatMap_cons, List.nodup_append]
      refine ⟨nodup_map (fun a b e => (List.cons.inj e).2) ih, ihl h2, fun u hu v hv e => ?_⟩
      subst e
      obtain ⟨t, -, rfl⟩ := List.mem_map.mp hu
      obtain ⟨b, hb, hb2⟩ := List.mem_flatMap.mp hv
      obtain ⟨t2, -, e⟩ := List.mem_map.mp hb2
      exact h1 ((List.cons.inj e).1 ▸ hb)
theorem rmW_drop {ms : List Nat} {x : List Int} (h16 : ∀ m ∈ ms, m < 16) {i : Nat} (hi : (prd ms)[i]? = some x) : rmW ms x ms.length = (prd ms).drop (i + 1) := by
  obtain ⟨h1, h2⟩ := List.getElem?_eq_some_iff.mp hi
  obtain ⟨hl, hx⟩ := prd_mem.mp (mem_at hi)
  obtain ⟨pre, e⟩ := rmW_split hl h16 hx ms.length (Nat.le_refl _)
  rw [List.drop_eq_nil_of_le (Nat.le_refl _), prd, List.map_singleton, List.append_nil, List.take_of_length_le (by omega)] at e
  have e3 : prd ms = (prd ms).take i ++ x :: (prd ms).drop (i + 1) := by
    rw [← h2, ← List.drop_eq_getElem_cons, List.take_append_drop]
  exact app_inj (p := pre) (q := (prd ms).take i) (e.symm.trans e3) (by
    have := nodup_prd h16
    rw [e] at this
    exact this)
/-- the first row: the lowest symbols -/
def lows (ms : List Nat) : List Int := ms.map fun m => ((lowb m : Nat) : Int)
theorem sym4_low : ∀ m : Fin 16, (m : Nat) ≠ 0 → ∃ t, sym4 (m : Nat) = ((lowb (m : Nat) : Nat) : Int) :: t := by
  have h : ∀ m : Fin 16, (m : Nat) ≠ 0 → sym4 (m : Nat) = ((lowb (m : Nat) : Nat) : Int) :: (sym4 (m : Nat)).tail := by decide +kernel
  exact fun m hm => ⟨_, h m hm⟩
theorem sym4_0 : sym4 0 = [] := by decide
theorem prd_head : ∀ {ms : List Nat}, (∀ m ∈ ms, m < 16 ∧ m ≠ 0) → ∃ t, prd ms = lows ms :: t
  | [], _ => ⟨[], rfl⟩
  | m :: ms, h => by
    obtain ⟨t, e⟩ := prd_head (ms := ms) (fun m hm => h m (List.mem_cons_of_mem _ hm))
    have hm := h m (List.mem_cons_self ..)
    obtain ⟨u, e2⟩ := sym4_low ⟨m, hm.1⟩ hm.2
    simp only at e2
    unfold prd
    rw [e2, List.flatMap_cons, e, List.map_cons]
    exact ⟨_, rfl⟩
theorem prd_nil : ∀ {ms : List Nat}, 0 ∈ ms → prd ms = []
  | m :: ms, h => by
    unfold prd
    rcases List.mem_cons.mp h with e | h
    · rw [← e, sym4_0]
      rfl
    · rw [prd_nil h]
      simp
theorem low_16 : ∀ m : Fin 16, (m : Nat) ≠ 0 → lowb (m : Nat) < 4 ∧ (m : Nat).testBit (lowb (m : Nat)) = true ∧ ∀ i : Fin 4, (i : Nat) < lowb (m : Nat) → (m : Nat).testBit (i : Nat) = false := by decide +kernel
/-- the next symbol of a set -/
theorem nxt_16 : ∀ (m : Fin 16) (x : Fin 4), (fx_shr ((m : Nat) : Int) (((x : Nat) : Int) + 1) = 0 → (sym4 (m : Nat)).filter (fun y => decide (((x : Nat) : Int) < y)) = []) ∧ (fx_shr ((m : Nat) : Int) (((x : Nat) : Int) + 1) ≠ 0 → (sym4 (m : Nat)).filter (fun y => decide (((x : Nat) : Int) < y)) = (((x : Nat) : Int) + (1 + ((lowb (fx_shr ((m : Nat) : Int) (((x : Nat) : Int) + 1)).toNat : Nat) : Int))) :: ((sym4 (m : Nat)).filter (fun y => decide (((x : Nat) : Int) < y))).tail) ∧ 0 ≤ fx_shr ((m : Nat) : Int) (((x : Nat) : Int) + 1) ∧ fx_shr ((m : Nat) : Int) (((x : Nat) : Int) + 1) < 16 := by decide +kernel
/-- the joint cells -/
def mjt (M : fx_M) (J : List Int) : Prop := M 133 48 = (J.length : Nat) ∧ J.length ≤ 8 ∧ (∀ i : Nat, i < J.length → M 157 (i : Int) = J.getD i 0) ∧ (∀ i : Nat, i < J.length → 0 ≤ J.getD i 0 ∧ J.getD i 0 < 9) ∧ J.Nodup
theorem mjt.n {M : fx_M} {J : List Int} (h : mjt M J) : M 133 48 = (J.length : Nat) := h.1
theorem mjt.l8 {M : fx_M} {J : List Int} (h : mjt M J) : J.length ≤ 8 := h.2.1
theorem mjt.c {M : fx_M} {J : List Int} (h : mjt M J) : ∀ i : Nat, i < J.length → M 157 (i : Int) = J.getD i 0 := h.2.2.1
theorem mjt.b {M : fx_M} {J : List Int} (h : mjt M J) : ∀ i : Nat, i < J.length → 0 ≤ J.getD i 0 ∧ J.getD i 0 < 9 := h.2.2.2.1
theorem mjt.nd {M : fx_M} {J : List Int} (h : mjt M J) : J.Nodup := h.2.2.2.2
theorem mjt_f155 {M N : fx_M} {J : List Int} (h : mjt M J) (hf : f155 M N) : mjt N J := ⟨by rw [hf 133 _ (by decide)]; exact h.n, h.l8, fun i hi => by rw [hf 157 _ (by decide)]; exact h.c i hi, h.b, h.nd⟩
/-- the masks of the ways: all symbols, or a standing's -/
def mkm (M : fx_M) (full : Int) (J : List Int) : List Nat := J.map fun c => if full = 0 then (M 156 c).toNat else (fx_shl 1 (M 148 0) - 1).toNat
theorem mkm_len {M : fx_M} {f : Int} {J : List Int} : (mkm M f J).length = J.length := by simp [mkm]
theorem mkm_get {M : fx_M} {f : Int} {J : List Int} {i : Nat} (hi : i < J.length) : (mkm M f J).getD i 0 = if f = 0 then (M 156 (J.getD i 0)).toNat else (fx_shl 1 (M 148 0) - 1).toNat := by
  unfold mkm
  rw [List.getD_eq_getElem?_getD, List.getElem?_map, List.getElem?_eq_getElem hi, List.getD_eq_getElem?_getD, List.getElem?_eq_getElem hi]
  rfl
theorem mkm_f155 {M N : fx_M} {f : Int} {J : List Int} (hf : f155 M N) : mkm N f J = mkm M f J := by
  unfold mkm
  apply List.map_congr_left
  intro c _
  rw [hf 156 _ (by decide), hf 148 _ (by decide)]
/-- masks are masks -/
def mkb (M : fx_M) (full : Int) (J : List Int) : Prop := ∀ i : Nat, i < J.length → (full = 0 → 0 ≤ M 156 (J.getD i 0) ∧ M 156 (J.getD i 0) < 16) ∧ (full ≠ 0 → 0 ≤ fx_shl 1 (M 148 0) - 1 ∧ fx_shl 1 (M 148 0) - 1 < 16)
theorem mkb_f155 {M N : fx_M} {f : Int} {J : List Int} (h : mkb M f J) (hf : f155 M N) : mkb N f J := fun i hi => by
  rw [hf 156 _ (by decide), hf 148 _ (by decide)]
  exact h i hi
theorem mkb_16 {M : fx_M} {f : Int} {J : List Int} (h : mkb M f J) : ∀ m ∈ mkm M f J, m < 16 := fun m hm => by
  obtain ⟨i, hi, e⟩ := List.mem_iff_getElem.mp hm
  rw [mkm_len] at hi
  have := mkm_get (M := M) (f := f) (J := J) hi
  rw [List.getD_eq_getElem?_getD, List.getElem?_eq_getElem (by rw [mkm_len]; exact hi), Option.getD_some] at this
  rw [← e, this]
  have h1 := h i hi
  split
  · next e0 => have := h1.1 e0; omega
  · next e0 => have := h1.2 e0; omega
/-- the symbols at the joint cells -/
def syJ (M : fx_M) (J x : List Int) : Prop := x.length = J.length ∧ ∀ i : Nat, i < J.length → M 155 (J.getD i 0) = x.getD i 0
theorem J_ne {J : List Int} (h : J.Nodup) {i j : Nat} (hi : i < J.length) (hj : j < J.length) (hne : i ≠ j) : J.getD i 0 ≠ J.getD j 0 := fun e => by
  rcases Nat.lt_or_gt_of_ne hne with hlt | hlt
  · exact nodup_iff.mp h j i hj hlt e.symm
  · exact nodup_iff.mp h i j hi hlt e
section WAY
variable {kc : List va_E} {d : Nat} {Q : Option fx_V → fx_M → Prop}
theorem mlow_loop {M : fx_M} {m : Nat} (h0 : m ≠ 0) (h16 : m < 16) (K : Q (some (jI (lowb m : Nat))) M) : ∀ (t i : Nat), i + t = lowb m → wp kc (d + 1) 302 2 [some (jI m), some (jI i)] [] M Q := by
  have hl := low_16 ⟨m, h16⟩ h0
  simp only at hl
  intro t
  induction t with
  | zero =>
    intro i hi
    have hi : i = lowb m := by omega
    subst hi
    have hb := sm_bit ⟨m, h16⟩ ⟨lowb m, hl.1⟩
    simp only at hb
    refine s302_2 ?_
    rw [hb, if_pos hl.2.1]
    exact ⟨⟨by omega, by omega⟩, fun _ => K, fun h => by omega⟩
  | succ t ih =>
    intro i hi
    have hb := sm_bit ⟨m, h16⟩ ⟨i, by omega⟩
    simp only at hb
    refine s302_2 ?_
    have := hl.2.2 ⟨i, by omega⟩ (by simp only; omega)
    simp only at this
    rw [hb, if_neg (by rw [this]; decide)]
    refine ⟨⟨by omega, by omega⟩, fun h => absurd rfl h, fun _ => ?_⟩
    have nx := ih (i + 1) (by omega)
    rw [show ((i + 1 : Nat) : Int) = (i : Int) + 1 by omega] at nx
    exact nx
theorem sp_mlowest {M : fx_M} {m : Nat} (h0 : m ≠ 0) (h16 : m < 16) (K : Q (some (jI (lowb m : Nat))) M) : wc kc (d + 1) 302 [jI m] M Q := s302 (mlow_loop h0 h16 K (lowb m) 0 (by omega))
theorem pop4_sum : ∀ m : Fin 16, (((0 + fx_and (fx_shr ((m : Nat) : Int) 0) 1) + fx_and (fx_shr ((m : Nat) : Int) 1) 1) + fx_and (fx_shr ((m : Nat) : Int) 2) 1) + fx_and (fx_shr ((m : Nat) : Int) 3) 1 = ((pop4 (m : Nat) : Nat) : Int) := by decide +kernel
theorem sp_countOf {M : fx_M} {m : Nat} (h16 : m < 16) (K : Q (some (jI (pop4 m : Nat))) M) : wc kc (d + 1) 304 [jI m] M Q := by
  have h := pop4_sum ⟨m, h16⟩
  simp only at h
  rw [← h] at K
  refine s304 (s304_4 ⟨⟨by omega, by omega⟩, fun h => by omega, fun _ => ?_⟩)
  refine s304_4 ⟨⟨by omega, by omega⟩, fun h => by omega, fun _ => ?_⟩
  refine s304_4 ⟨⟨by omega, by omega⟩, fun h => by omega, fun _ => ?_⟩
  refine s304_4 ⟨⟨by omega, by omega⟩, fun h => by omega, fun _ => ?_⟩
  exact s304_4 ⟨⟨by omega, by omega⟩, fun _ => K, fun h => by omega⟩
theorem sp_bitsOf {M : fx_M} {f : Int} {J : List Int} (hf : 0 ≤ f ∧ f ≤ 1) (hj : mjt M J) (hb : mkb M f J) {i : Nat} (hi : i < J.length) (K : Q (some (jI ((mkm M f J).getD i 0 : Nat))) M) : wc kc (d + 2) 301 [jR 133, jI i, jI f] M Q := by
  have h1 := hb i hi
  have h2 := hj.b i hi
  have h8 := hj.l8
  rw [mkm_get hi] at K
  refine s301 ⟨⟨by omega, by omega⟩, fun h0 => ?_, fun h0 => s296 (s301_8 ?_)⟩
  · rw [if_pos h0] at K
    rw [hj.c i hi]
    have := h1.1 h0
    rw [show (((M 156 (J.getD i 0)).toNat : Nat) : Int) = M 156 (J.getD i 0) by omega] at K
    exact ⟨⟨by omega, by omega⟩, h2, K⟩
  · rw [if_neg h0] at K
    have := h1.2 h0
    rw [show (((fx_shl 1 (M 148 0) - 1).toNat : Nat) : Int) = fx_shl 1 (M 148 0) - 1 by omega] at K
    exact K
/-- firstWay -/
theorem fw_loop {M0 : fx_M} {f : Int} {J : List Int} (hf : 0 ≤ f ∧ f ≤ 1) (hj : mjt M0 J) (hb : mkb M0 f J) (K1 : (∀ m ∈ mkm M0 f J, m ≠ 0) → ∀ M', f155 M0 M' → syJ M' J (lows (mkm M0 f J)) → Q (some (jI 1)) M') (K0 : 0 ∈ mkm M0 f J → ∀ M', f155 M0 M' → Q (some (jI 0)) M') : ∀ (t i : Nat) (M : fx_M), i + t = J.length → f155 M0 M → (∀ k : Nat, k < i → (mkm M0 f J).getD k 0 ≠ 0 ∧ M 155 (J.getD k 0) = ((lowb ((mkm M0 f J).getD k 0) : Nat) : Int)) → wp kc (d + 3) 300 2 [some (jR 133), some (jI f), some (jI i)] [] M Q := by
  have h8 := hj.l8
  have hlen := mkm_len (M := M0) (f := f) (J := J)
  intro t
  induction t with
  | zero =>
    intro i M hi hfr hk
    have hjM := mjt_f155 hj hfr
    refine s300_2 ?_
    rw [hjM.n]
    refine ⟨⟨⟨by omega, by omega⟩, ⟨by omega, by omega⟩⟩, fun _ => K1 (fun m hm => ?_) M hfr ⟨by simp [lows, hlen], fun k hk2 => ?_⟩, fun h => by omega⟩
    · obtain ⟨k, hk1, e⟩ := List.mem_iff_getElem.mp hm
      have := (hk k (by omega)).1
      rw [List.getD_eq_getElem?_getD, List.getElem?_eq_getElem hk1] at this
      rw [← e]
      exact this
    · rw [(hk k (by omega)).2]
      unfold lows
      rw [List.getD_eq_getElem?_getD (l := List.map _ _), List.getElem?_map, List.getD_eq_getElem?_getD, List.getElem?_eq_getElem (by omega)]
      rfl
  | succ t ih =>
    intro i M hi hfr hk
    have hjM := mjt_f155 hj hfr
    have hbM := mkb_f155 hb hfr
    have hil : i < J.length := by omega
    have em := mkm_f155 (f := f) (J := J) hfr
    have h16 : (mkm M0 f J).getD i 0 < 16 := mkb_16 hb _ (by
      rw [List.getD_eq_getElem?_getD, List.getElem?_eq_getElem (by omega)]
      exact List.getElem_mem _)
    refine s300_2 ?_
    rw [hjM.n]
    refine ⟨⟨⟨by omega, by omega⟩, ⟨by omega, by omega⟩⟩, fun h => by omega, fun _ => sp_bitsOf hf hjM hbM hil (s300_16 ?_)⟩
    rw [em]
    refine ⟨⟨by omega, by omega⟩, fun hne => ⟨⟨by omega, by omega⟩, sp_bitsOf hf hjM hbM hil (s300_37 ?_)⟩, fun h0 => K0 ?_ M hfr⟩
    · rw [em]
      refine sp_mlowest (by omega) h16 (s300_40 ?_)
      rw [hjM.c i hil]
      refine ⟨hj.b i hil, ?_⟩
      have nx := ih (i + 1) (fx_up M 155 (J.getD i 0) ((lowb ((mkm M0 f J).getD i 0) : Nat) : Int)) (by omega) (f155_tr hfr f155_up) (fun k hk2 => by
        by_cases e : k = i
        · subst e
          exact ⟨by omega, by rw [fx_up_self]⟩
        · rw [fx_up_nk (J_ne hj.nd (by omega) hil e)]
          exact hk k (by omega))
      rw [show ((i + 1 : Nat) : Int) = (i : Int) + 1 by omega] at nx
      exact nx
    · have : (mkm M0 f J).getD i 0 = 0 := by omega
      rw [← this, List.getD_eq_getElem?_getD, List.getElem?_eq_getElem (by omega)]
      exact List.getElem_mem _
theorem sp_firstWay {M : fx_M} {f : Int} {J : List Int} (hf : 0 ≤ f ∧ f ≤ 1) (hj : mjt M J) (hb : mkb M f J) (K1 : ∀ M' x, (prd (mkm M f J))[0]? = some x → f155 M M' → syJ M' J x → Q (some (jI 1)) M') (K0 : prd (mkm M f J) = [] → ∀ M', f155 M M' → Q (some (jI 0)) M') : wc kc (d + 3) 300 [jR 133, jI f] M Q := by
  refine s300 (fw_loop hf hj hb (fun hne M' h1 h2 => K1 M' _ ?_ h1 h2) (fun h0 M' h1 => K0 (prd_nil h0) M' h1) J.length 0 M (by omega) f155_rf (fun k h => by omega))
  obtain ⟨t, e⟩ := prd_head (ms := mkm M f J) (fun m hm => ⟨mkb_16 hb m hm, hne m hm⟩)
  rw [e]
  rfl
/-- nextWay -/
theorem nw_loop {M0 : fx_M} {f : Int} {J x : List Int} (hf : 0 ≤ f ∧ f ≤ 1) (hj : mjt M0 J) (hb : mkb M0 f J) (hx : x ∈ prd (mkm M0 f J)) (K1 : ∀ M' r tl, rmW (mkm M0 f J) x J.length = r :: tl → f155 M0 M' → syJ M' J r → Q (some (jI 1)) M') (K0 : rmW (mkm M0 f J) x J.length = [] → ∀ M', f155 M0 M' → Q (some (jI 0)) M') : ∀ (k : Nat) (M : fx_M), k ≤ J.length → f155 M0 M → rmW (mkm M0 f J) x J.length = rmW (mkm M0 f J) x k → (∀ i : Nat, i < k → M 155 (J.getD i 0) = x.getD i 0) → (∀ i : Nat, k ≤ i → i < J.length → M 155 (J.getD i 0) = ((lowb ((mkm M0 f J).getD i 0) : Nat) : Int)) → wp kc (d + 3) 303 7 [some (jR 133), some (jI f), some (jI ((k : Int) - 1)), none] [] M Q := by
  have h8 := hj.l8
  have hlen := mkm_len (M := M0) (f := f) (J := J)
  obtain ⟨hxl, hxm⟩ := prd_mem.mp hx
  have hms : ∀ i : Nat, i < J.length → (mkm M0 f J).getD i 0 < 16 ∧ (mkm M0 f J).getD i 0 ≠ 0 := fun i hi => by
    have hm := sym4_mem.mp (hxm i (by omega))
    refine ⟨mkb_16 hb _ (by
      rw [List.getD_eq_getElem?_getD, List.getElem?_eq_getElem (by omega)]
      exact List.getElem_mem _), fun e => ?_⟩
    rw [e] at hm
    simp at hm
  intro k
  induction k with
  | zero =>
    intro M hk hfr hr _ _
    exact s303_7 ⟨⟨by omega, by omega⟩, fun _ => K0 (hr.trans rfl) M hfr, fun h => by omega⟩
  | succ k ih =>
    intro M hk hfr hr hxs hlo
    have hjM := mjt_f155 hj hfr
    have hbM := mkb_f155 hb hfr
    have hkl : k < J.length := by omega
    have em := mkm_f155 (f := f) (J := J) hfr
    obtain ⟨h16, hm0⟩ := hms k hkl
    have hsy := sym4_mem.mp (hxm k (by omega))
    obtain ⟨xk, ex⟩ : ∃ n : Nat, x.getD k 0 = (n : Int) := ⟨(x.getD k 0).toNat, by omega⟩
    have hxk4 : xk < 4 := by omega
    have hn := nxt_16 ⟨(mkm M0 f J).getD k 0, h16⟩ ⟨xk, hxk4⟩
    simp only at hn
    rw [show ((k + 1 : Nat) : Int) - 1 = (k : Int) by omega]
    refine s303_7 ⟨⟨by omega, by omega⟩, fun h => by omega, fun _ => sp_bitsOf hf hjM hbM hkl (s303_17 ?_)⟩
    rw [em, hjM.c k hkl, hxs k (by omega), ex]
    refine ⟨⟨by omega, by omega⟩, hj.b k hkl, ⟨by omega, by omega⟩, fun h0 => ⟨⟨by omega, by omega⟩, sp_bitsOf hf hjM hbM hkl (s303_74 ?_)⟩, fun hne => ⟨⟨by omega, by omega⟩, hj.b k hkl, ?_⟩⟩
    · rw [em]
      refine sp_mlowest hm0 h16 (s303_77 ⟨hj.b k hkl, ?_⟩)
      have := ih (fx_up M 155 (J.getD k 0) ((lowb ((mkm M0 f J).getD k 0) : Nat) : Int)) (by omega) (f155_tr hfr f155_up) (by
        rw [hr, rmW, ex, hn.1 h0]
        rfl) (fun i hi => by
        rw [fx_up_nk (J_ne hj.nd (by omega) hkl (by omega))]
        exact hxs i (by omega)) (fun i h1 h2 => by
        by_cases e : i = k
        · subst e
          rw [fx_up_self]
        · rw [fx_up_nk (J_ne hj.nd h2 hkl e)]
          exact hlo i (by omega) h2)
      rw [show (k : Int) + (-1) = (k : Int) - 1 by omega]
      exact this
    · obtain ⟨g, eg⟩ : ∃ g : Nat, fx_shr (((mkm M0 f J).getD k 0 : Nat) : Int) ((xk : Int) + 1) = (g : Int) := ⟨(fx_shr (((mkm M0 f J).getD k 0 : Nat) : Int) ((xk : Int) + 1)).toNat, by omega⟩
      have hn2 := hn.2.1 hne
      rw [eg, Int.toNat_natCast] at hn2
      have hg16 : g < 16 := by omega
      have hg0 : g ≠ 0 := by omega
      rw [eg]
      refine sp_mlowest hg0 hg16 (s303_53 ⟨hj.b k hkl, ?_⟩)
      have hdr : ∀ m ∈ (mkm M0 f J).drop (k + 1), m < 16 ∧ m ≠ 0 := fun m hm => by
        obtain ⟨i, hi, e⟩ := List.mem_iff_getElem.mp (List.mem_of_mem_drop hm)
        have := hms i (by omega)
        rw [List.getD_eq_getElem?_getD, List.getElem?_eq_getElem hi] at this
        rw [← e]
        exact this
      obtain ⟨t, et⟩ := prd_head hdr
      have hrw : rmW (mkm M0 f J) x (k + 1) = (x.take k ++ ((xk : Int) + (1 + ((lowb g : Nat) : Int))) :: lows ((mkm M0 f J).drop (k + 1))) :: ((t.map (fun t => x.take k ++ ((xk : Int) + (1 + ((lowb g : Nat) : Int))) :: t) ++ (((sym4 ((mkm M0 f J).getD k 0)).filter (fun y => decide ((xk : Int) < y))).tail.flatMap fun y => (prd ((mkm M0 f J).drop (k + 1))).map (fun t => x.take k ++ y :: t))) ++ rmW (mkm M0 f J) x k) := by
        rw [rmW, ex, hn2, List.flatMap_cons, et]
        rfl
      refine K1 _ _ _ (hr.trans hrw) (f155_tr hfr f155_up) ⟨?_, fun i hi => ?_⟩
      · simp [lows, hlen]
        omega
      · by_cases e : i = k
        · subst e
          rw [fx_up_self, List.getD_eq_getElem?_getD, List.getElem?_append_right (by simp; omega)]
          simp
          rw [show i - min i x.length = 0 by omega]
          rfl
        · rw [fx_up_nk (J_ne hj.nd hi hkl e)]
          by_cases e2 : i < k
          · rw [hxs i (by omega), List.getD_eq_getElem?_getD (l := _ ++ _), List.getElem?_append_left (by simp; omega), List.getElem?_take, if_pos e2, ← List.getD_eq_getElem?_getD]
          · rw [hlo i (by omega) hi, List.getD_eq_getElem?_getD (l := _ ++ _), List.getElem?_append_right (by simp; omega)]
            rw [show i - (x.take k).length = (i - k - 1) + 1 by simp; omega, List.getElem?_cons_succ]
            unfold lows
            rw [List.getElem?_map, List.getElem?_drop, show k + 1 + (i - k - 1) = i by omega, List.getD_eq_getElem?_getD, List.getElem?_eq_getElem (by omega)]
            rfl
theorem sp_nextWay {M : fx_M} {f : Int} {J : List Int} (hf : 0 ≤ f ∧ f ≤ 1) (hj : mjt M J) (hb : mkb M f J) {i : Nat} {x : List Int} (hx : (prd (mkm M f J))[i]? = some x) (hs : syJ M J x) (K1 : ∀ M' r, (prd (mkm M f J))[i + 1]? = some r → f155 M M' → syJ M' J r → Q (some (jI 1)) M') (K0 : (prd (mkm M f J)).length = i + 1 → ∀ M', f155 M M' → Q (some (jI 0)) M') : wc kc (d + 3) 303 [jR 133, jI f] M Q := by
  have hlen := mkm_len (M := M) (f := f) (J := J)
  have hr := rmW_drop (mkb_16 hb) hx
  rw [hlen] at hr
  have hil := (List.getElem?_eq_some_iff.mp hx).1
  refine s303 ?_
  rw [hj.n]
  refine nw_loop hf hj hb (mem_at hx) (fun M' r tl e h1 h2 => K1 M' r ?_ h1 h2) (fun e M' h1 => K0 ?_ M' h1) J.length M (Nat.le_refl _) f155_rf rfl hs.2 (fun i h1 h2 => by omega)
  · rw [hr] at e
    have := List.getElem?_drop (xs := prd (mkm M f J)) (i := i + 1) (j := 0)
    rw [e] at this
    simpa using this.symm
  · rw [hr] at e
    have := List.drop_eq_nil_iff.mp e
    omega
end WAY
