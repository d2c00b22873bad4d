/-! Writing into the book with the log, and the new root page, in the class. -/
def wLog : (Int → Int) → List (Int × Int) → List (Int × Int)
  | _, [] => []
  | g, x :: D => (x.1, g x.1) :: wLog (bUp g x.1 x.2) D
/-- values one behind the other from a place on -/
def plc : Int → List Int → List (Int × Int)
  | _, [] => []
  | b, v :: L => (b, v) :: plc (b + 1) L
def cwSt (g : Int → Int) (D : List (Int × Int)) (M N : fx_M) : Prop := N 126 = bCut g D ∧ clg N (wLog g D) ∧ ∀ b j, ¬ (b = 125 ∧ j = 2) → b ≠ 126 → b ≠ 127 → b ≠ 128 → N b j = M b j
def lgv (D : List (Int × Int)) : Prop := ∀ x ∈ D, 0 ≤ x.1 ∧ x.1 < 1024 ∧ 0 ≤ x.2 ∧ x.2 ≤ 255
/-- the root that stands is not written -/
def avd (g : Int → Int) (D : List (Int × Int)) : Prop := ∀ x ∈ D, x.1 ≠ 0 ∧ ¬ (bRt g ≤ x.1 ∧ x.1 < bRt g + 32)
/-- pages of the entries but one -/
def prs (g : Int → Int) (o : Int) : Nat → List Int
  | 0 => []
  | n + 1 => prs g o n ++ (if (n : Int) = o then [] else [bCh g (n : Int), bPg g (n : Int)])
def nwp (c m : Int) : List Int := if 0 < m then [c, m] else []
def aft (n o m : Int) : Int := n - (if o < 0 then (0 : Int) else 1) + (if 0 < m then (1 : Int) else 0)
/-- the new root page -/
def rtB (g : Int → Int) (o c m : Int) : List Int := aft (g (bRt g)) o m :: (prs g o (g (bRt g)).toNat ++ nwp c m) ++ List.replicate (30 - (prs g o (g (bRt g)).toNat ++ nwp c m).length) 0 ++ [(aft (g (bRt g)) o m + (prs g o (g (bRt g)).toNat ++ nwp c m).sum) % 251]
/-- what turning writes -/
def rtD (g : Int → Int) (o c m : Int) : List (Int × Int) := plc (96 - bRt g) (rtB g o c m) ++ [(0, 3 - bRt g / 32)]
theorem bCut_app {g : Int → Int} {D : List (Int × Int)} {x : Int × Int} : bCut g (D ++ [x]) = bUp (bCut g D) x.1 x.2 := by
  unfold bCut
  rw [List.foldl_append]
  rfl
theorem wLog_app : ∀ {D : List (Int × Int)} {g : Int → Int} {x : Int × Int}, wLog g (D ++ [x]) = wLog g D ++ [(x.1, bCut g D x.1)]
  | [], _, _ => rfl
  | y :: D, g, x => by
    rw [List.cons_append, wLog, wLog_app (D := D), wLog, List.cons_append]
    rfl
theorem wLog_len : ∀ {D : List (Int × Int)} {g : Int → Int}, (wLog g D).length = D.length
  | [], _ => rfl
  | y :: D, g => by
    rw [wLog, List.length_cons, wLog_len (D := D), List.length_cons]
theorem bCut_ne : ∀ {D : List (Int × Int)} {g : Int → Int} {j : Int}, (∀ x ∈ D, x.1 ≠ j) → bCut g D j = g j
  | [], _, _, _ => rfl
  | y :: D, g, j, h => by
    have e : bCut g (y :: D) j = bCut (bUp g y.1 y.2) D j := rfl
    rw [e, bCut_ne (D := D) (fun x hx => h x (List.mem_cons_of_mem _ hx))]
    unfold bUp
    rw [if_neg (fun e => h y (List.mem_cons_self ..) e.symm)]
theorem plc_app : ∀ {L R : List Int} {b : Int}, plc b (L ++ R) = plc b L ++ plc (b + L.length) R
  | [], R, b => by simp [plc]
  | v :: L, R, b => by
    rw [List.cons_append, plc, plc_app (L := L), plc, List.cons_append, List.length_cons, show b + 1 + (L.length : Int) = b + ((L.length + 1 : Nat) : Int) by omega]
theorem plc_in : ∀ {L : List Int} {b : Int} {x : Int × Int}, x ∈ plc b L → b ≤ x.1 ∧ x.1 < b + L.length ∧ x.2 ∈ L
  | [], _, _, h => by cases h
  | v :: L, b, x, h => by
    rw [plc] at h
    rcases List.mem_cons.mp h with e | e
    · subst e
      rw [List.length_cons]
      exact ⟨by dsimp only; omega, by dsimp only; omega, List.mem_cons_self ..⟩
    · have := plc_in e
      rw [List.length_cons]
      exact ⟨by omega, by omega, List.mem_cons_of_mem _ this.2.2⟩
theorem plc_len : ∀ {L : List Int} {b : Int}, (plc b L).length = L.length
  | [], _ => rfl
  | v :: L, b => by
    rw [plc, List.length_cons, plc_len, List.length_cons]
section BTN
variable {kc : List va_E} {d : Nat} {Q : Option fx_V → fx_M → Prop} {g : Int → Int} {D : List (Int × Int)} {M N : fx_M}
theorem sp_bwrite (hN : cwSt g D M N) (hb : bk_b g) (hD : lgv D) (hl : D.length < 1024) {x v : Int} (h1 : 0 ≤ x ∧ x < 1024) (h2 : 0 ≤ v ∧ v ≤ 255) (K : ∀ N', cwSt g (D ++ [(x, v)]) M N' → Q none N') : wc kc (d + 1) 193 [jR 125, jI x, jI v] N Q := by
  obtain ⟨a1, ⟨a2, a3⟩, a4⟩ := hN
  have hbc : bk_b (bCut g D) := bCut_b hb (fun y hy => (hD y hy).2.2)
  have hx := hbc x h1.1 h1.2
  rw [wLog_len] at a2
  refine s193 ?_
  rw [a2, a1, show v % 65536 = v by omega]
  refine ⟨⟨by omega, by omega⟩, fun h => by omega, fun _ => ⟨⟨by omega, by omega⟩, ⟨by omega, by omega⟩, ⟨⟨by omega, by omega⟩, ⟨by omega, by omega⟩⟩, ⟨⟨by omega, by omega⟩, ⟨by omega, by omega⟩⟩, K _ ⟨?_, ⟨?_, fun i y hy => ?_⟩, fun b j b1 b2 b3 b4 => ?_⟩⟩⟩
  · rw [up126, bCut_app, ← a1]
    congr 1
  · rw [fx_up_na (by decide), fx_up_self, wLog_len, List.length_append, List.length_singleton]
    omega
  · rw [fx_up_na (show (127 : Nat) ≠ 126 by decide), fx_up_na (show (127 : Nat) ≠ 125 by decide), fx_up_na (show (127 : Nat) ≠ 128 by decide), fx_up_na (show (128 : Nat) ≠ 126 by decide), fx_up_na (show (128 : Nat) ≠ 125 by decide)]
    rw [wLog_app] at hy
    by_cases hi : i < D.length
    · rw [List.getElem?_append_left (by rw [wLog_len]; exact hi)] at hy
      rw [fx_up_nk (show (i : Int) ≠ (D.length : Int) by omega), fx_up_nk (show (i : Int) ≠ (D.length : Int) by omega), fx_up_na (show (128 : Nat) ≠ 127 by decide)]
      exact a3 i y hy
    · have hil := (List.getElem?_eq_some_iff.mp hy).1
      rw [List.length_append, wLog_len, List.length_singleton] at hil
      have e : i = D.length := by omega
      subst e
      rw [List.getElem?_append_right (by rw [wLog_len]; omega), wLog_len, Nat.sub_self] at hy
      cases hy
      rw [fx_up_self, fx_up_self]
      exact ⟨rfl, rfl⟩
  · rw [fx_up_na b2, fx_up_ne b1, fx_up_na b4, fx_up_na b3]
    exact a4 b j b1 b2 b3 b4
/-- amid a run of bytes -/
def wst (g : Int → Int) (D : List (Int × Int)) (b : Int) (L : List Int) (M N : fx_M) : Prop := cwSt g (D ++ plc b L) M N ∧ ∀ v ∈ L, 0 ≤ v ∧ v ≤ 255
theorem wst_ok {b : Int} {L : List Int} (hD : lgv D) (h : ∀ v ∈ L, 0 ≤ v ∧ v ≤ 255) (hb0 : 0 ≤ b) (hl : b + L.length ≤ 1024) : lgv (D ++ plc b L) := fun x hx => by
  rcases List.mem_append.mp hx with e | e
  · exact hD x e
  · have h1 := plc_in e
    have h2 := h _ h1.2.2
    omega
theorem wst_next {b : Int} {L : List Int} (hN : wst g D b L M N) (hb : bk_b g) (hD : lgv D) (hb0 : 0 ≤ b) {x v : Int} (hx : x = b + L.length) (hlt : x < 1024) (hl : D.length + L.length < 1024) (h2 : 0 ≤ v ∧ v ≤ 255) (K : ∀ N', wst g D b (L ++ [v]) M N' → Q none N') : wc kc (d + 1) 193 [jR 125, jI x, jI v] N Q := by
  refine sp_bwrite hN.1 hb (wst_ok hD hN.2 hb0 (by omega)) (by rw [List.length_append, plc_len]; omega) ⟨by omega, by omega⟩ h2 (fun N' h => K N' ⟨?_, fun y hy => ?_⟩)
  · rw [plc_app, ← List.append_assoc, ← hx]
    exact h
  · rcases List.mem_append.mp hy with e | e
    · exact hN.2 y e
    · rw [List.mem_singleton.mp e]
      exact h2
/-- the root that stands, amid writing -/
theorem wst_g {b : Int} {L : List Int} (hN : wst g D b L M N) (hb : bk_b g) (hD : lgv D) (hv : avd g D) (hb3 : b = 96 - bRt g) (hl : L.length ≤ 32) : ∃ h, N 126 = h ∧ bk_b h ∧ bRt h = bRt g ∧ h (bRt g) = g (bRt g) ∧ ∀ e : Int, 0 ≤ e → e < 15 → bCh h e = bCh g e ∧ bPg h e = bPg g e := by
  have hr := bRt_b (g := g)
  have same : ∀ j : Int, j = 0 ∨ (bRt g ≤ j ∧ j < bRt g + 32) → bCut g (D ++ plc b L) j = g j := fun j hj => by
    refine bCut_ne (fun x hx e => ?_)
    rcases List.mem_append.mp hx with h | h
    · have := hv x h
      omega
    · have := plc_in h
      omega
  have er : bRt (bCut g (D ++ plc b L)) = bRt g := by
    unfold bRt
    rw [same 0 (Or.inl rfl)]
  refine ⟨_, hN.1.1, bCut_b hb (fun y hy => (wst_ok hD hN.2 (by omega) (by omega) y hy).2.2), er, same _ (Or.inr (by omega)), fun e h0 h1 => ⟨?_, ?_⟩⟩
  · unfold bCh
    rw [er]
    exact same _ (Or.inr (by omega))
  · unfold bPg
    rw [er]
    exact same _ (Or.inr (by omega))
theorem wst_ch {b : Int} {L : List Int} (hN : wst g D b L M N) (hb : bk_b g) (hD : lgv D) (hv : avd g D) (hb3 : b = 96 - bRt g) (hl : L.length ≤ 32) {e : Int} (he : 0 ≤ e ∧ e < 15) (K : Q (some (jI (bCh g e))) N) : wc kc (d + 2) 181 [jR 125, jI e] N Q := by
  obtain ⟨h, h1, h2, h3, h4, h5⟩ := wst_g hN hb hD hv hb3 hl
  rw [← (h5 e he.1 he.2).1] at K
  exact sp_chainOf h1 h2 he K
theorem wst_pg {b : Int} {L : List Int} (hN : wst g D b L M N) (hb : bk_b g) (hD : lgv D) (hv : avd g D) (hb3 : b = 96 - bRt g) (hl : L.length ≤ 32) {e : Int} (he : 0 ≤ e ∧ e < 15) (K : Q (some (jI (bPg g e))) N) : wc kc (d + 2) 183 [jR 125, jI e] N Q := by
  obtain ⟨h, h1, h2, h3, h4, h5⟩ := wst_g hN hb hD hv hb3 hl
  rw [← (h5 e he.1 he.2).2] at K
  exact sp_pagesOf h1 h2 he K
end BTN
theorem prs_len {g : Int → Int} {o : Int} : ∀ n : Nat, ((prs g o n).length : Int) = 2 * (n : Int) - (if 0 ≤ o ∧ o < (n : Int) then 2 else 0)
  | 0 => by
    rw [prs, if_neg (by omega)]
    rfl
  | n + 1 => by
    have ih := prs_len (g := g) (o := o) n
    rw [prs, List.length_append]
    by_cases h : (n : Int) = o
    · rw [if_pos h, if_pos (by omega), List.length_nil]
      rw [if_neg (by omega)] at ih
      omega
    · rw [if_neg h]
      show (((prs g o n).length + 2 : Nat) : Int) = _
      by_cases h2 : 0 ≤ o ∧ o < (n : Int)
      · rw [if_pos h2] at ih
        rw [if_pos (by omega)]
        omega
      · rw [if_neg h2] at ih
        rw [if_neg (by omega)]
        omega
theorem prs_v {g : Int → Int} (hb : bk_b g) {o : Int} : ∀ n : Nat, n ≤ 15 → ∀ v ∈ prs g o n, 0 ≤ v ∧ v ≤ 255
  | 0, _, v, h => by cases h
  | n + 1, hn, v, h => by
    rw [prs] at h
    rcases List.mem_append.mp h with e | e
    · exact prs_v hb n (by omega) v e
    · have hc := bCh_b hb (e := (n : Int)) ⟨by omega, by omega⟩
      split at e
      · cases e
      · rcases List.mem_cons.mp e with e | e
        · rw [e]
          omega
        · rw [List.mem_singleton.mp e]
          omega
theorem sum_01 : ∀ {L : List Int}, (∀ v ∈ L, 0 ≤ v ∧ v ≤ 255) → 0 ≤ L.sum ∧ L.sum ≤ 255 * (L.length : Int)
  | [], _ => by simp
  | v :: L, h => by
    have ih := sum_01 (L := L) (fun y hy => h y (List.mem_cons_of_mem _ hy))
    have hv := h v (List.mem_cons_self ..)
    rw [List.sum_cons, List.length_cons]
    omega
