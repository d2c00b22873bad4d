/-! WORDS: which of some words stands at a place, the class's way and the reference's way. -/
/-- words with blanks between them -/
def jw : List (List Int) → List Int
  | [] => []
  | [w] => w
  | w :: w' :: ws => w ++ 32 :: jw (w' :: ws)
theorem max3 (r : Int) (a b : Nat) : max (max r (a : Int)) (b : Int) = max r ((max a b : Nat) : Int) := by omega
theorem chl_word {g : Int → Int} {e p : Int} : ∀ (w rest : List Int) (b l r i n k : Int), k ≤ n → (∀ c ∈ w, c ≠ 32) → chl g e p (w ++ rest) b l r i n k = chl g e p rest b l r i (n + w.length) (if k = n then k + cpl g e w (p + k) else k)
  | [], rest, b, l, r, i, n, k, hkn, h => by
    have e1 : n + (([] : List Int).length : Int) = n := by simp
    have e2 : (if k = n then k + ((cpl g e [] (p + k) : Nat) : Int) else k) = k := by
      split
      · show k + ((0 : Nat) : Int) = k
        omega
      · rfl
    rw [e1, e2]
    rfl
  | c :: w, rest, b, l, r, i, n, k, hkn, h => by
    have hc : c ≠ 32 := h c (by simp)
    have hl : ((c :: w).length : Int) = w.length + 1 := by simp
    have e0 : chl g e p ((c :: w) ++ rest) b l r i n k = if c = 32 then chl g e p (w ++ rest) (ch_b b l i n k) (ch_l l n k) (ch_r r k) (i + 1) 0 0 else chl g e p (w ++ rest) b l r i (n + 1) (ch_k g e p c n k) := rfl
    rw [e0, if_neg hc, chl_word w rest b l r i (n + 1) (ch_k g e p c n k) (by
      rcases ch_k_le (g := g) (e := e) (p := p) (c := c) (n := n) (k := k) with h | ⟨h, h2, -⟩ <;> omega) (fun x hx => h x (by simp [hx])), hl]
    have e1 : n + 1 + (w.length : Int) = n + ((w.length : Int) + 1) := by omega
    rw [e1]
    congr 1
    by_cases h1 : k = n
    · rw [if_pos h1]
      by_cases h2 : p + k < e
      · by_cases h3 : g (p + k) = c
        · have e4 : ch_k g e p c n k = k + 1 := by
            unfold ch_k
            rw [if_pos h1, if_pos h2, if_pos h3]
          rw [e4, if_pos (by omega)]
          have e5 : cpl g e (c :: w) (p + k) = cpl g e w (p + k + 1) + 1 := by
            rw [cpl, if_pos h2, if_pos h3]
          rw [e5, show p + (k + 1) = p + k + 1 by omega]
          omega
        · have e4 : ch_k g e p c n k = k := by
            unfold ch_k
            rw [if_pos h1, if_pos h2, if_neg h3]
          have e5 : cpl g e (c :: w) (p + k) = 0 := by
            rw [cpl, if_pos h2, if_neg h3]
          rw [e4, if_neg (by omega), e5]
          omega
      · have e4 : ch_k g e p c n k = k := by
          unfold ch_k
          rw [if_pos h1, if_neg h2]
        have e5 : cpl g e (c :: w) (p + k) = 0 := by
          rw [cpl, if_neg h2]
        rw [e4, if_neg (by omega), e5]
        omega
    · have e4 : ch_k g e p c n k = k := by
        unfold ch_k
        rw [if_neg h1]
      rw [e4, if_neg (by omega), if_neg h1]
/-- the words one by one -/
def chw (g : Int → Int) (e p : Int) : List (List Int) → Int → Int → Int → Int → Int × Int × Int
  | [], b, l, r, _ => (b, l, r)
  | w :: ws, b, l, r, i => chw g e p ws (ch_b b l i w.length (cpl g e w p)) (ch_l l w.length (cpl g e w p)) (ch_r r (cpl g e w p)) (i + 1)
theorem chl_words {g : Int → Int} {e p : Int} : ∀ (ws : List (List Int)) (b l r i : Int), ws ≠ [] → (∀ w ∈ ws, ∀ c ∈ w, c ≠ 32) → chl g e p (jw ws) b l r i 0 0 = chw g e p ws b l r i
  | [], _, _, _, _, h, _ => absurd rfl h
  | [w], b, l, r, i, _, h => by
    have := chl_word (g := g) (e := e) (p := p) w [] b l r i 0 0 (by omega) (h w (by simp))
    rw [List.append_nil, if_pos rfl] at this
    show chl g e p w b l r i 0 0 = _
    rw [this, show (0 : Int) + (w.length : Int) = w.length by omega, show p + 0 = p by omega, show (0 : Int) + ((cpl g e w p : Nat) : Int) = (cpl g e w p : Nat) by omega]
    rfl
  | w :: w' :: ws, b, l, r, i, _, h => by
    have := chl_word (g := g) (e := e) (p := p) w (32 :: jw (w' :: ws)) b l r i 0 0 (by omega) (h w (by simp))
    rw [if_pos rfl] at this
    show chl g e p (w ++ 32 :: jw (w' :: ws)) b l r i 0 0 = _
    rw [this, show (0 : Int) + (w.length : Int) = w.length by omega, show p + 0 = p by omega, show (0 : Int) + ((cpl g e w p : Nat) : Int) = (cpl g e w p : Nat) by omega]
    rw [chl, if_pos rfl, chl_words (w' :: ws) _ _ _ _ (by simp) (fun x hx => h x (by simp [hx]))]
    rfl
/-- the length of the longest word that stands here (0: none), how far one was alike -/
def ml (g : Int → Int) (e p : Int) : List (List Int) → Nat
  | [] => 0
  | w :: ws => if cpl g e w p = w.length then max w.length (ml g e p ws) else ml g e p ws
def mr (g : Int → Int) (e p : Int) : List (List Int) → Nat
  | [] => 0
  | w :: ws => max (cpl g e w p) (mr g e p ws)
theorem ml_ge {g : Int → Int} {e p : Int} : ∀ {ws : List (List Int)} {w : List Int}, w ∈ ws → cpl g e w p = w.length → w.length ≤ ml g e p ws
  | [], _, h, _ => by simp at h
  | x :: ws, w, h, hc => by
    unfold ml
    rcases List.mem_cons.mp h with rfl | h
    · rw [if_pos hc]
      omega
    · have := ml_ge h hc
      split <;> omega
theorem ml_le {g : Int → Int} {e p : Int} {n : Nat} : ∀ {ws : List (List Int)}, (∀ w ∈ ws, cpl g e w p = w.length → w.length ≤ n) → ml g e p ws ≤ n
  | [], _ => Nat.zero_le _
  | x :: ws, h => by
    unfold ml
    have ih := ml_le (g := g) (e := e) (p := p) (n := n) (ws := ws) (fun w hw => h w (by simp [hw]))
    split
    · next hc =>
      have := h x (by simp) hc
      omega
    · exact ih
theorem mr_ge {g : Int → Int} {e p : Int} : ∀ {ws : List (List Int)} {w : List Int}, w ∈ ws → cpl g e w p ≤ mr g e p ws
  | [], _, h => by simp at h
  | x :: ws, w, h => by
    unfold mr
    rcases List.mem_cons.mp h with rfl | h
    · omega
    · have := mr_ge (g := g) (e := e) (p := p) h
      omega
theorem mr_le {g : Int → Int} {e p : Int} {n : Nat} : ∀ {ws : List (List Int)}, (∀ w ∈ ws, cpl g e w p ≤ n) → mr g e p ws ≤ n
  | [], _ => Nat.zero_le _
  | x :: ws, h => by
    unfold mr
    have ih := mr_le (g := g) (e := e) (p := p) (n := n) (ws := ws) (fun w hw => h w (by simp [hw]))
    have := h x (by simp)
    omega
theorem ml_same {g : Int → Int} {e p : Int} {ws ms : List (List Int)} (h1 : ∀ w ∈ ws, w ∈ ms) (h2 : ∀ w ∈ ms, w ∈ ws) : ml g e p ws = ml g e p ms :=
  Nat.le_antisymm (ml_le fun w hw hc => ml_ge (h1 w hw) hc) (ml_le fun w hw hc => ml_ge (h2 w hw) hc)
theorem mr_same {g : Int → Int} {e p : Int} {ws ms : List (List Int)} (h1 : ∀ w ∈ ws, w ∈ ms) (h2 : ∀ w ∈ ms, w ∈ ws) : mr g e p ws = mr g e p ms :=
  Nat.le_antisymm (mr_le fun w hw => mr_ge (h1 w hw)) (mr_le fun w hw => mr_ge (h2 w hw))
/-- two words of one length that stand here are one -/
theorem cpl_eq {g : Int → Int} {e : Int} : ∀ {w w' : List Int} {p : Int}, cpl g e w p = w.length → cpl g e w' p = w'.length → w.length = w'.length → w = w'
  | [], [], _, _, _, _ => rfl
  | [], c :: w', _, _, _, h => by simp at h
  | c :: w, [], _, _, _, h => by simp at h
  | c :: w, c' :: w', p, h1, h2, h3 => by
    have k1 : p < e ∧ g p = c ∧ cpl g e w (p + 1) = w.length := by
      rw [cpl] at h1
      (repeat' split at h1) <;> simp at h1
      exact ⟨by assumption, by assumption, h1⟩
    have k2 : p < e ∧ g p = c' ∧ cpl g e w' (p + 1) = w'.length := by
      rw [cpl] at h2
      (repeat' split at h2) <;> simp at h2
      exact ⟨by assumption, by assumption, h2⟩
    rw [cpl_eq k1.2.2 k2.2.2 (by simpa using h3), ← k1.2.1, ← k2.2.1]
/-- what the class's way finds -/
theorem chw_spec {g : Int → Int} {e p : Int} : ∀ (ws : List (List Int)) (b l r i : Int), (∀ w ∈ ws, 0 < w.length) → 0 ≤ l → 0 ≤ r → 0 ≤ i → (chw g e p ws b l r i).2.1 = max l (ml g e p ws : Nat) ∧ (chw g e p ws b l r i).2.2 = max r (mr g e p ws : Nat) ∧ (((ml g e p ws : Nat) : Int) ≤ l → (chw g e p ws b l r i).1 = b) ∧ (l < (ml g e p ws : Nat) → ∃ (j : Nat) (w : List Int), ws[j]? = some w ∧ (chw g e p ws b l r i).1 = i + j ∧ cpl g e w p = w.length ∧ w.length = ml g e p ws)
  | [], b, l, r, i, _, hl, hr, hi => by
    refine ⟨?_, ?_, fun _ => rfl, fun h => ?_⟩
    · show l = max l ((0 : Nat) : Int)
      omega
    · show r = max r ((0 : Nat) : Int)
      omega
    · have : l < ((0 : Nat) : Int) := h
      omega
  | w :: ws, b, l, r, i, hw, hl, hr, hi => by
    have hw0 := hw w (by simp)
    have hcl := cpl_le g e w p
    have hL : ch_l l w.length (cpl g e w p) = if cpl g e w p = w.length then max l (w.length : Int) else l := by
      unfold ch_l
      by_cases hc : cpl g e w p = w.length
      · rw [if_pos (by omega), if_pos hc]
        split <;> omega
      · rw [if_neg (by omega), if_neg hc]
    have hR : ch_r r (cpl g e w p) = max r (cpl g e w p : Int) := by
      unfold ch_r
      split <;> omega
    have ih := chw_spec (g := g) (e := e) (p := p) ws (ch_b b l i w.length (cpl g e w p)) (ch_l l w.length (cpl g e w p)) (ch_r r (cpl g e w p)) (i + 1) (fun x hx => hw x (by simp [hx])) (by rw [hL]; split <;> omega) (by rw [hR]; omega) (by omega)
    rw [hL, hR] at ih
    show (chw g e p ws _ _ _ _).2.1 = _ ∧ (chw g e p ws _ _ _ _).2.2 = _ ∧ (_ → (chw g e p ws _ _ _ _).1 = _) ∧ (_ → ∃ (j : Nat) (x : List Int), (w :: ws)[j]? = some x ∧ (chw g e p ws _ _ _ _).1 = _ ∧ _)
    rw [hL, hR]
    obtain ⟨i1, i2, i3, i4⟩ := ih
    have hm : ml g e p (w :: ws) = if cpl g e w p = w.length then max w.length (ml g e p ws) else ml g e p ws := rfl
    have hmr : mr g e p (w :: ws) = max (cpl g e w p) (mr g e p ws) := rfl
    refine ⟨?_, ?_, fun h => ?_, fun h => ?_⟩
    · rw [i1, hm]
      split <;> omega
    · rw [i2, hmr]
      exact max3 _ _ _
    · rw [hm] at h
      by_cases hc : cpl g e w p = w.length
      · rw [if_pos hc] at h i3 ⊢
        have hb : ch_b b l i w.length (cpl g e w p) = b := by
          unfold ch_b
          rw [if_pos (by omega), if_neg (by omega)]
        rw [hb] at i3 ⊢
        exact i3 (by omega)
      · rw [if_neg hc] at h i3 ⊢
        have hb : ch_b b l i w.length (cpl g e w p) = b := by
          unfold ch_b
          rw [if_neg (by omega)]
        rw [hb] at i3 ⊢
        exact i3 h
    · rw [hm] at h
      by_cases hc : cpl g e w p = w.length
      · rw [if_pos hc] at h i3 i4 ⊢
        rw [hm, if_pos hc]
        by_cases hx : max l (w.length : Int) < (ml g e p ws : Nat)
        · obtain ⟨j, x, j1, j2, j3, j4⟩ := i4 hx
          exact ⟨j + 1, x, by simpa using j1, by rw [j2]; omega, j3, by omega⟩
        · have hb : ch_b b l i w.length (cpl g e w p) = i := by
            unfold ch_b
            rw [if_pos (by omega), if_pos (by omega)]
          rw [hb] at i3 ⊢
          exact ⟨0, w, rfl, by rw [i3 (by omega)]; omega, hc, by omega⟩
      · rw [if_neg hc] at h i3 i4 ⊢
        rw [hm, if_neg hc]
        obtain ⟨j, x, j1, j2, j3, j4⟩ := i4 h
        exact ⟨j + 1, x, by simpa using j1, by rw [j2]; omega, j3, j4⟩
/-- the reference's words a, a + 1 .. -/
def mws : Nat → Int → List (List Int)
  | 0, _ => []
  | n + 1, k => wls (wrd k) :: mws n (k + 1)
/-- what the reference's way finds -/
theorem swl_spec {g : Int → Int} {e p : Int} : ∀ (n : Nat) (k r f : Int), 0 ≤ k → k + n ≤ 57 → 0 ≤ r → -1 ≤ f → f < 57 → (swl g e p n k r f).2 = max r (mr g e p (mws n k) : Nat) ∧ ((((ml g e p (mws n k) : Nat) : Int) ≤ (if f < 0 then 0 else (wln (wrd f) : Int))) → (swl g e p n k r f).1 = f) ∧ ((if f < 0 then 0 else (wln (wrd f) : Int)) < (ml g e p (mws n k) : Nat) → ∃ (j : Nat), j < n ∧ (swl g e p n k r f).1 = k + j ∧ cpl g e (wls (wrd (k + j))) p = (wls (wrd (k + j))).length ∧ (wls (wrd (k + j))).length = ml g e p (mws n k))
  | 0, k, r, f, hk, hn, hr, hf, hf2 => by
    refine ⟨?_, fun _ => rfl, fun h => ?_⟩
    · show r = max r ((0 : Nat) : Int)
      omega
    · have : (if f < 0 then 0 else (wln (wrd f) : Int)) < ((0 : Nat) : Int) := h
      split at this <;> omega
  | n + 1, k, r, f, hk, hn, hr, hf, hf2 => by
    have hp := wln_pos hk (by omega)
    have hl := wls_len (wrd k)
    have hcl := cpl_le g e (wls (wrd k)) p
    have hm : ml g e p (mws (n + 1) k) = if cpl g e (wls (wrd k)) p = (wls (wrd k)).length then max (wls (wrd k)).length (ml g e p (mws n (k + 1))) else ml g e p (mws n (k + 1)) := rfl
    have hmr : mr g e p (mws (n + 1) k) = max (cpl g e (wls (wrd k)) p) (mr g e p (mws n (k + 1))) := rfl
    have hR : sw_r g e p k r = max r (cpl g e (wls (wrd k)) p : Int) := by
      unfold sw_r
      split <;> omega
    have hF : sw_f g e p k f = if cpl g e (wls (wrd k)) p = (wls (wrd k)).length ∧ (if f < 0 then 0 else (wln (wrd f) : Int)) < wln (wrd k) then k else f := by
      unfold sw_f
      by_cases hc : cpl g e (wls (wrd k)) p = (wls (wrd k)).length
      · rw [if_pos (by omega)]
        by_cases h0 : f < 0
        · rw [if_pos h0, if_pos ⟨hc, by rw [if_pos h0]; omega⟩]
        · rw [if_neg h0]
          by_cases h1 : (wln (wrd f) : Int) < wln (wrd k)
          · rw [if_pos h1, if_pos ⟨hc, by rw [if_neg h0]; exact h1⟩]
          · rw [if_neg h1, if_neg (fun hx => h1 (by have := hx.2; rw [if_neg h0] at this; exact this))]
      · rw [if_neg (by omega), if_neg (fun hx => hc hx.1)]
    show (swl g e p n (k + 1) (sw_r g e p k r) (sw_f g e p k f)).2 = _ ∧ (_ → (swl g e p n (k + 1) (sw_r g e p k r) (sw_f g e p k f)).1 = _) ∧ (_ → ∃ (j : Nat), _ ∧ (swl g e p n (k + 1) (sw_r g e p k r) (sw_f g e p k f)).1 = _ ∧ _)
    have ih := swl_spec (g := g) (e := e) (p := p) n (k + 1) (sw_r g e p k r) (sw_f g e p k f) (by omega) (by omega) (by rw [hR]; omega) (by rw [hF]; split <;> omega) (by rw [hF]; split <;> omega)
    obtain ⟨i1, i2, i3⟩ := ih
    rw [hm]
    refine ⟨by rw [i1, hmr, hR]; exact max3 _ _ _, fun h => ?_, fun h => ?_⟩
    · have hFf : sw_f g e p k f = f := by
        rw [hF, if_neg]
        intro hx
        rw [if_pos hx.1] at h
        omega
      rw [hFf] at i2 ⊢
      refine i2 ?_
      split at h <;> omega
    · by_cases hx : cpl g e (wls (wrd k)) p = (wls (wrd k)).length ∧ (if f < 0 then 0 else (wln (wrd f) : Int)) < wln (wrd k)
      · have hFk : sw_f g e p k f = k := by rw [hF, if_pos hx]
        rw [hFk] at i2 i3 ⊢
        rw [if_neg (show ¬ k < 0 by omega)] at i2 i3
        rw [if_pos hx.1] at h ⊢
        by_cases hy : (wln (wrd k) : Int) < (ml g e p (mws n (k + 1)) : Nat)
        · obtain ⟨j, j1, j2, j3, j4⟩ := i3 hy
          refine ⟨j + 1, by omega, by rw [j2]; omega, ?_, ?_⟩
          · rw [show k + ((j + 1 : Nat) : Int) = k + 1 + j by omega]
            exact j3
          · rw [show k + ((j + 1 : Nat) : Int) = k + 1 + j by omega]
            omega
        · refine ⟨0, by omega, by rw [i2 (by omega)]; omega, ?_, ?_⟩
          · rw [show k + ((0 : Nat) : Int) = k by omega]
            exact hx.1
          · rw [show k + ((0 : Nat) : Int) = k by omega]
            omega
      · have hFf : sw_f g e p k f = f := by rw [hF, if_neg hx]
        rw [hFf] at i2 i3 ⊢
        have hy : (if f < 0 then 0 else (wln (wrd f) : Int)) < (ml g e p (mws n (k + 1)) : Nat) := by
          by_cases hc : cpl g e (wls (wrd k)) p = (wls (wrd k)).length
          · rw [if_pos hc] at h
            have : ¬ (if f < 0 then 0 else (wln (wrd f) : Int)) < wln (wrd k) := fun hz => hx ⟨hc, hz⟩
            omega
          · rw [if_neg hc] at h
            exact h
        obtain ⟨j, j1, j2, j3, j4⟩ := i3 hy
        refine ⟨j + 1, by omega, by rw [j2]; omega, ?_, ?_⟩
        · rw [show k + ((j + 1 : Nat) : Int) = k + 1 + j by omega]
          exact j3
        · rw [show k + ((j + 1 : Nat) : Int) = k + 1 + j by omega]
          have hm2 : (ml g e p (mws n (k + 1))) = (if cpl g e (wls (wrd k)) p = (wls (wrd k)).length then max (wls (wrd k)).length (ml g e p (mws n (k + 1))) else ml g e p (mws n (k + 1))) := by
            split
            · next hc =>
              have : ¬ (if f < 0 then 0 else (wln (wrd f) : Int)) < wln (wrd k) := fun hz => hx ⟨hc, hz⟩
              omega
            · rfl
          omega
