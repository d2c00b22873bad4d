/-! Removing in the class; the reference remembers the book, and looks for room. -/
/-- a page that an entry holds -/
def bUs (g : Int → Int) (p : Int) : Nat → Bool
  | 0 => false
  | n + 1 => bUs g p n || (decide (bCh g (n : Int) ≤ p) && decide (p < bCh g (n : Int) + bPg g (n : Int)))
def bFre (g : Int → Int) (p : Int) : Bool := decide (3 ≤ p) && decide (p ≤ 31) && !(bUs g p (g (bRt g)).toNat)
/-- so many free pages from p on -/
def bRun (g : Int → Int) (p : Int) : Nat → Bool
  | 0 => true
  | n + 1 => bRun g p n && bFre g (p + (n : Int))
/-- the first place of room, looked for from p on -/
def bRoo (g : Int → Int) (m : Nat) : Nat → Int → Int
  | 0, _ => -1
  | u + 1, p => if 32 < p + (m : Int) then -1 else if bRun g p m = true then p else bRoo g m u (p + 1)
theorem bUs_mono {g : Int → Int} {p : Int} {i : Nat} (h : bUs g p i = true) : ∀ u : Nat, bUs g p (i + u) = true
  | 0 => h
  | u + 1 => by
    rw [← Nat.add_assoc, bUs, bUs_mono h u, Bool.true_or]
section BRM
variable {kc : List va_E} {d : Nat} {Q : Option fx_V → fx_M → Prop} {g : Int → Int} {nm : List Int} {M : fx_M}
theorem cwSt_0 (hg : M 126 = g) : cwSt g [] M (fx_up M 125 2 0) := by
  refine ⟨?_, ⟨fx_up_self .., fun i x hx => by cases hx⟩, fun b j h _ _ _ => fx_up_ne h⟩
  funext j
  rw [fx_up_na (by decide), hg]
  rfl
theorem sp_remove (hn : snm M nm) (hnm : nm_ok nm) (hg : M 126 = g) (hb : bk_b g) (hH : bHs g) (K0 : bFd g nm (g (bRt g)).toNat 0 < 0 → Q (some (jI 0)) M) (K1 : 0 ≤ bFd g nm (g (bRt g)).toNat 0 → ∀ M', cwSt g (rtD g (bFd g nm (g (bRt g)).toNat 0) 0 0) M M' → Q (some (jI 1)) M') : wc kc (d + 4) 196 [jR 125, jR 2, jI (M 7 6), jI (M 7 7)] M Q := by
  have hr := bRt_b (g := g)
  have h0 := hb (bRt g) (by omega) (by omega)
  have h15 := hH.1
  have hf := bFd_b (g := g) (nm := nm) (u := (g (bRt g)).toNat) (i := 0)
  refine s196 (sp_entryOf (d := d) hn hnm hg hb hH (s196_7 ⟨⟨by omega, by omega⟩, fun hp => ?_, fun hlt => K0 hlt⟩))
  refine sp_turn (d := d) (D := []) (M := M) (cwSt_0 hg) hb (fun x hx => by cases hx) (fun x hx => by cases hx) (by rw [List.length_nil]; omega) h15 ⟨by omega, by omega⟩ ⟨by omega, by omega⟩ ⟨by omega, by omega⟩ ?_ (fun N' h => s196_29 (K1 hp N' h))
  unfold aft
  rw [if_neg (by omega), if_neg (by decide)]
  omega
theorem sp_remember (hg : mbk M g) (K : ∀ M', (∀ j, 0 ≤ j → j < 1024 → M' 189 j = g j) → (∀ b j, b ≠ 189 → M' b j = M b j) → Q none M') : wc kc (d + 1) 370 [jR 133] M Q := by
  have z : ∀ (u i : Nat) (N : fx_M), i + u = 1024 → (∀ j, 0 ≤ j → j < (i : Int) → N 189 j = g j) → (∀ b j, b ≠ 189 → N b j = M b j) → wp kc (d + 1) 370 2 [some (jR 133), some (jI i)] [] N Q := by
    intro u
    induction u with
    | zero =>
      intro i N hi hS fR
      exact s370_2 ⟨⟨by omega, by omega⟩, fun _ => K N (fun j j0 j1 => hS j j0 (by omega)) fR, fun h => by omega⟩
    | succ u ih =>
      intro i N hi hS fR
      refine s370_2 ?_
      rw [fR 188 _ (by decide), hg (i : Int) (by omega) (by omega)]
      have nx := ih (i + 1) (fx_up N 189 (i : Int) (g i)) (by omega) (fun j j0 j1 => by
        by_cases e : j = (i : Int)
        · rw [e, fx_up_self]
        · rw [fx_up_nk e]
          exact hS j j0 (by omega)) (fun b j hb => by rw [fx_up_na hb]; exact fR b j hb)
      rw [show ((i + 1 : Nat) : Int) = (i : Int) + 1 by omega] at nx
      exact ⟨⟨by omega, by omega⟩, fun h => by omega, fun _ => ⟨⟨by omega, by omega⟩, ⟨by omega, by omega⟩, nx⟩⟩
  exact s370 (z 1024 0 M (by omega) (fun j j0 j1 => by omega) (fun _ _ _ => rfl))
theorem sp_isFree (hg : mbk M g) (hb : bk_b g) (hr : bRg g) (h15 : g (bRt g) ≤ 15) {p : Int} (hp : 0 ≤ p ∧ p < 1000) (K : Q (some (jI (bI (bFre g p)))) M) : wc kc (d + 3) 369 [jR 133, jI p] M Q := by
  have hrb := bRt_b (g := g)
  have h0 := hb (bRt g) (by omega) (by omega)
  have no : bFre g p = false → Q (some (jI 0)) M := fun e => by
    rw [e] at K
    exact K
  have z : 3 ≤ p → p ≤ 31 → ∀ (u i : Nat), (i : Int) + u = g (bRt g) → bUs g p i = false → wp kc (d + 3) 369 15 [some (jR 133), some (jI p), some (jI i)] [] M Q := by
    intro p3 p31 u
    induction u with
    | zero =>
      intro i hi hu
      have e : bFre g p = true := by
        unfold bFre
        rw [show (g (bRt g)).toNat = i by omega, hu, decide_eq_true p3, decide_eq_true p31]
        rfl
      rw [e] at K
      exact s369_15 (sp_mentries (d := d) hg hr (s369_20 ⟨⟨⟨by omega, by omega⟩, ⟨by omega, by omega⟩⟩, fun _ => K, fun h => by omega⟩))
    | succ u ih =>
      intro i hi hu
      have hcb := bCh_b hb (e := (i : Int)) ⟨by omega, by omega⟩
      have go : ¬ (bCh g i ≤ p ∧ p < bCh g i + bPg g i) → wp kc (d + 3) 369 15 [some (jR 133), some (jI p), some (jI ((i : Int) + 1))] [] M Q := fun hn => by
        have nx := ih (i + 1) (by omega) (by
          rw [bUs, hu, Bool.false_or, Bool.and_eq_false_iff]
          by_cases h1 : bCh g i ≤ p
          · exact Or.inr (decide_eq_false (by omega))
          · exact Or.inl (decide_eq_false h1))
        rw [show ((i + 1 : Nat) : Int) = (i : Int) + 1 by omega] at nx
        exact nx
      refine s369_15 (sp_mentries (d := d) hg hr (s369_20 ⟨⟨⟨by omega, by omega⟩, ⟨by omega, by omega⟩⟩, fun h => by omega, fun _ => sp_mfirst (d := d) hg hr ⟨by omega, by omega⟩ (s369_29 ⟨⟨⟨by omega, by omega⟩, ⟨by omega, by omega⟩⟩, fun hlt => go (by omega), fun hle => sp_mfirst (d := d) hg hr ⟨by omega, by omega⟩ (s369_38 (sp_mpages (d := d) hg hr ⟨by omega, by omega⟩ (s369_43 ⟨⟨⟨by omega, by omega⟩, ⟨by omega, by omega⟩⟩, fun h2 => go (by omega), fun h2 => no ?_⟩)))⟩)⟩))
      have e1 : bUs g p (i + 1) = true := by
        rw [bUs, hu, decide_eq_true hle, decide_eq_true h2]
        rfl
      have e2 := bUs_mono e1 ((g (bRt g)).toNat - (i + 1))
      rw [show i + 1 + ((g (bRt g)).toNat - (i + 1)) = (g (bRt g)).toNat by omega] at e2
      unfold bFre
      rw [e2]
      simp
  refine s369 ⟨⟨by omega, by omega⟩, fun hlt => no ?_, fun h3 => ⟨⟨by omega, by omega⟩, fun h31 => z h3 h31 (g (bRt g)).toNat 0 (by omega) rfl, fun hgt => no ?_⟩⟩
  · unfold bFre
    rw [decide_eq_false (by omega)]
    rfl
  · unfold bFre
    rw [decide_eq_false (show ¬ p ≤ 31 by omega), Bool.and_false]
    rfl
theorem bRun_no {p : Int} {i : Nat} (h : bRun g p i = false) : ∀ u : Nat, bRun g p (i + u) = false
  | 0 => h
  | u + 1 => by
    rw [← Nat.add_assoc, bRun, bRun_no h u, Bool.false_and]
theorem sp_room (hg : mbk M g) (hb : bk_b g) (hr : bRg g) (h15 : g (bRt g) ≤ 15) {m : Nat} (hm : m ≤ 200) (K : Q (some (jI (bRoo g m 30 3))) M) : wc kc (d + 4) 368 [jR 133, jI m] M Q := by
  have z2 : ∀ (p : Int), 0 ≤ p → p + m ≤ 32 → (bRun g p m = true → Q (some (jI p)) M) → (bRun g p m = false → wp kc (d + 4) 368 2 [some (jR 133), some (jI m), some (jI (p + 1)), none, none] [] M Q) → ∀ (u i : Nat), i + u = m → wp kc (d + 4) 368 15 [some (jR 133), some (jI m), some (jI p), some (jI (bI (bRun g p i))), some (jI (p + i))] [] M Q := by
    intro p p0 pm K1 K0 u
    induction u with
    | zero =>
      intro i hi
      have e : i = m := by omega
      subst e
      cases hx : bRun g p i
      · exact s368_15 ⟨⟨⟨by omega, by omega⟩, ⟨by omega, by omega⟩⟩, fun _ => ⟨⟨by decide, by decide⟩, fun _ => K0 hx, fun h => absurd rfl h⟩, fun h => by omega⟩
      · exact s368_15 ⟨⟨⟨by omega, by omega⟩, ⟨by omega, by omega⟩⟩, fun _ => ⟨⟨by decide, by decide⟩, fun h => absurd h (by decide), fun _ => K1 hx⟩, fun h => by omega⟩
    | succ u ih =>
      intro i hi
      have nx := ih (i + 1) (by omega)
      rw [show p + ((i + 1 : Nat) : Int) = p + (i : Int) + 1 by omega] at nx
      cases hx : bRun g p i
      · rw [bRun, hx, Bool.false_and] at nx
        exact s368_15 ⟨⟨⟨by omega, by omega⟩, ⟨by omega, by omega⟩⟩, fun h => by omega, fun _ => ⟨⟨by decide, by decide⟩, fun _ => nx, fun h => absurd rfl h⟩⟩
      · rw [bRun, hx, Bool.true_and] at nx
        refine s368_15 ⟨⟨⟨by omega, by omega⟩, ⟨by omega, by omega⟩⟩, fun h => by omega, fun _ => ⟨⟨by decide, by decide⟩, fun h => absurd h (by decide), fun _ => sp_isFree (d := d) hg hb hr h15 ⟨by omega, by omega⟩ (s368_33 ?_)⟩⟩
        cases hy : bFre g (p + i)
        · rw [hy] at nx
          exact ⟨⟨by decide, by decide⟩, nx⟩
        · rw [hy] at nx
          exact ⟨⟨by decide, by decide⟩, nx⟩
  have z1 : ∀ (u : Nat) (p : Int), 3 ≤ p → p + u = 33 → bRoo g m u p = bRoo g m 30 3 → wp kc (d + 4) 368 2 [some (jR 133), some (jI m), some (jI p), none, none] [] M Q := by
    intro u
    induction u with
    | zero =>
      intro p p3 hu e
      rw [bRoo] at e
      rw [← e] at K
      exact s368_2 ⟨⟨by omega, by omega⟩, fun _ => K, fun h => by omega⟩
    | succ u ih =>
      intro p p3 hu e
      rw [bRoo] at e
      refine s368_2 ⟨⟨by omega, by omega⟩, fun hgt => ?_, fun hle => ?_⟩
      · rw [if_pos hgt] at e
        rw [← e] at K
        exact K
      · rw [if_neg (by omega)] at e
        have nx := z2 p (by omega) hle (fun ht => by rw [if_pos ht] at e; rw [← e] at K; exact K) (fun hf => by rw [if_neg (by rw [hf]; decide)] at e; exact ih (p + 1) (by omega) (by omega) e) m 0 (by omega)
        rw [show p + ((0 : Nat) : Int) = p by omega] at nx
        exact nx
  exact s368 (z1 30 3 (by omega) (by omega) rfl)
end BRM
