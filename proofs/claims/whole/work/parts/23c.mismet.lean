/-! isMet of the reference, whole. -/
theorem drop_consD {l : List Int} {i : Nat} (hi : i < l.length) : l.drop i = l.getD i 0 :: l.drop (i + 1) := by
  rw [List.drop_eq_getElem_cons hi, List.getD_eq_getElem?_getD, List.getElem?_eq_getElem hi]
  rfl
def cnX (h : Int) (l : List Int) : Int := ((l.filter (fun x => decide (x = h))).length : Nat)
theorem cnX_cons {h x : Int} {l : List Int} : cnX h (x :: l) = (if x = h then 1 else 0) + cnX h l := by
  unfold cnX
  rw [List.filter_cons]
  by_cases e : x = h
  · rw [if_pos (by simp [e]), if_pos e]
    simp only [List.length_cons]
    omega
  · rw [if_neg (by simp [e]), if_neg e]
    omega
theorem seN_cons {h x : Int} {l : List Int} : seN h (x :: l) = if h < x then 1 + seN x l else seN h l := rfl
theorem headD_getD {l : List Int} : l.headD 0 = l.getD 0 0 := by
  cases l <;> rfl
section MIM
variable {kc : List va_E} {d : Nat} {M : fx_M} {Q : Option fx_V → fx_M → Prop} {Z : PZ} {R : PR} {r : Nat}
theorem mim_loop (h : mrl M Z R r) (K : Q (some (jI (bI (met Z.1 R (mxs M R))))) M) : ∀ (t i : Nat), i + t = R.2.2.length → ∀ a b c g : Int, a + ((mxs M R).drop i).sum = (mxs M R).sum → b + cnX ((mxs M R).getD 0 0) ((mxs M R).drop i) = cnF (mxs M R) → c + seN g ((mxs M R).drop i) = seN (-1) (mxs M R) → (0 ≤ a ∧ a ≤ 3 * i) → (0 ≤ b ∧ b ≤ i) → (0 ≤ c ∧ c ≤ i) → (-1 ≤ g ∧ g ≤ 3) → wp kc (d + 3) 273 13 [some (jR 133), some (jI r), some (jI a), some (jI b), some (jI c), some (jI g), some (jI i), none] [] M Q := by
  obtain ⟨o1, o2, o3, o4, o5, o6, -, -⟩ := h.ok
  have hr := h.r12
  have hl := mxs_len (M := M) (R := R)
  intro t
  induction t with
  | zero =>
    intro i hi a b c g ea eb ec ha hb hc hg
    have hd : (mxs M R).drop i = [] := List.drop_eq_nil_of_le (by omega)
    rw [hd] at ea eb ec
    have ea : a = (mxs M R).sum := by simpa using ea
    have eb : b = cnF (mxs M R) := by simpa [cnX] using eb
    have ec : c = seN (-1) (mxs M R) := by simpa [seN] using ec
    refine s273_13 ?_
    have hsz := h.sz
    have hnm := h.nm
    have hkd := h.kd
    rw [hsz]
    have k01 : ∀ p : Prop, ∀ [Decidable p], (0 : Int) ≤ (if p then (1 : Int) else 0) ∧ (if p then (1 : Int) else 0) ≤ 1 := fun p _ => by split <;> omega
    have bI01 : ∀ b : Bool, (0 : Int) ≤ bI b ∧ bI b ≤ 1 := fun b => by unfold bI; split <;> omega
    refine ⟨⟨by omega, by omega⟩, ⟨⟨by omega, by omega⟩, ⟨by omega, by omega⟩⟩, fun _ => ?_, fun h => by omega⟩
    have hK : ∀ (k : Int), R.1 = k → (0 ≤ k ∧ k < 8) → M 150 (r : Int) = piK.getD k.toNat 0 := fun k hk _ => by rw [hkd, hk]
    refine ⟨⟨by omega, by omega⟩, ?_⟩
    have kk : R.1 = 0 ∨ R.1 = 1 ∨ R.1 = 2 ∨ R.1 = 3 ∨ R.1 = 4 ∨ R.1 = 5 ∨ R.1 = 6 ∨ R.1 = 7 := by omega
    have hxl : ((mxs M R).length : Int) = R.2.2.length := by omega
    rcases kk with hk | hk | hk | hk | hk | hk | hk | hk <;> (have e := hK _ hk ⟨by omega, by omega⟩; simp [piK] at e; rw [e]; unfold met at K; simp only [hk] at K)
    · simp at K
      refine ⟨⟨by omega, by omega⟩, fun h => by omega, fun _ => ?_, fun h => by omega, fun h => by omega, fun h => by omega, fun h => by omega, fun h => by omega, fun h => by omega, fun h => by omega⟩
      refine ⟨⟨by omega, by omega⟩, ⟨by omega, by omega⟩, ⟨by omega, by omega⟩, k01 _, ?_⟩
      rw [eb]
      unfold bI at K
      simp only [decide_eq_true_eq, hxl] at K
      exact K
    · simp at K
      refine ⟨⟨by omega, by omega⟩, fun h => by omega, fun h => by omega, fun h => by omega, fun h => by omega, fun h => by omega, fun h => by omega, fun _ => ?_, fun h => by omega, fun h => by omega⟩
      refine sp_isRow h ⟨fun h => by omega, fun h => by omega⟩ ⟨by omega, by omega⟩ (s273_230 ⟨bI01 _, ?_⟩)
      have : adA (rwP R) (mxs M R) = adA (fun a b => decide (R.2.1 ≤ b - a) || decide (R.2.1 ≤ a - b)) (mxs M R) := by
        congr 1
        funext a b
        unfold rwP
        rw [if_neg (by omega), Bool.decide_or]
      rw [this]
      exact K
    · simp at K
      refine ⟨⟨by omega, by omega⟩, fun h => by omega, fun h => by omega, fun h => by omega, fun h => by omega, fun h => by omega, fun _ => ?_, fun h => by omega, fun h => by omega, fun h => by omega⟩
      rw [hnm]
      refine ⟨⟨by omega, by omega⟩, ⟨by omega, by omega⟩, ⟨by omega, by omega⟩, k01 _, ?_⟩
      rw [eb]
      unfold bI at K
      simp only [decide_eq_true_eq] at K
      exact K
    · simp at K
      refine ⟨⟨by omega, by omega⟩, fun h => by omega, fun h => by omega, fun _ => ?_, fun h => by omega, fun h => by omega, fun h => by omega, fun h => by omega, fun h => by omega, fun h => by omega⟩
      exact sp_isJoined h (s273_175 ⟨bI01 _, K⟩)
    · simp at K
      refine ⟨⟨by omega, by omega⟩, fun h => by omega, fun h => by omega, fun h => by omega, fun _ => ?_, fun h => by omega, fun h => by omega, fun h => by omega, fun h => by omega, fun h => by omega⟩
      refine sp_isRow h ⟨fun _ => hk, fun _ => e⟩ ⟨by omega, by omega⟩ (s273_230 ⟨bI01 _, ?_⟩)
      have : adA (rwP R) (mxs M R) = adA (fun a b => decide (a < b)) (mxs M R) := by
        congr 1
        funext a b
        unfold rwP
        rw [if_pos hk]
      rw [this]
      exact K
    · simp at K
      refine ⟨⟨by omega, by omega⟩, fun h => by omega, fun h => by omega, fun h => by omega, fun h => by omega, fun h => by omega, fun h => by omega, fun h => by omega, fun _ => ?_, fun h => by omega⟩
      rw [hnm]
      refine ⟨⟨by omega, by omega⟩, ⟨by omega, by omega⟩, ⟨by omega, by omega⟩, k01 _, ?_⟩
      rw [ec]
      unfold bI at K
      simp only [decide_eq_true_eq] at K
      exact K
    · simp at K
      refine ⟨⟨by omega, by omega⟩, fun h => by omega, fun h => by omega, fun h => by omega, fun h => by omega, fun _ => ?_, fun h => by omega, fun h => by omega, fun h => by omega, fun h => by omega⟩
      rw [hnm]
      refine ⟨⟨by omega, by omega⟩, ⟨by omega, by omega⟩, ⟨by omega, by omega⟩, k01 _, ?_⟩
      rw [ea]
      unfold bI at K
      simp only [decide_eq_true_eq] at K
      exact K
    · simp at K
      refine ⟨⟨by omega, by omega⟩, fun _ => ?_, fun h => by omega, fun h => by omega, fun h => by omega, fun h => by omega, fun h => by omega, fun h => by omega, fun h => by omega, fun h => by omega⟩
      exact sp_isUnlike h (s273_153 ⟨bI01 _, K⟩)
  | succ t ih =>
    intro i hi a b c g ea eb ec ha hb hc hg
    have hil : i < (mxs M R).length := by omega
    have hd := drop_consD hil
    rw [hd] at ea eb ec
    have v1 := h.vs i (by omega)
    have v0 := h.vs 0 (by omega)
    refine s273_13 ?_
    rw [h.sz]
    refine ⟨⟨by omega, by omega⟩, ⟨⟨by omega, by omega⟩, ⟨by omega, by omega⟩⟩, fun h => by omega, fun _ => sp_triedAt h (by omega) (s273_31 (sp_triedAt (i := 0) h (by omega) (s273_47 ?_)))⟩
    refine ⟨⟨by omega, by omega⟩, ⟨by omega, by omega⟩, ⟨by omega, by omega⟩, ⟨by omega, by omega⟩, ⟨by omega, by omega⟩, ⟨by omega, by omega⟩, ?_⟩
    rw [cnX_cons] at eb
    rw [List.sum_cons] at ea
    rw [seN_cons] at ec
    have nx := ih (i + 1) (by omega) (a + (mxs M R).getD i 0) (b + (if (mxs M R).getD i 0 = (mxs M R).getD 0 0 then (1 : Int) else 0)) (c + (if g < (mxs M R).getD i 0 then (1 : Int) else 0)) (if g < (mxs M R).getD i 0 then ((mxs M R).getD i 0 : Int) else g) (by omega) (by omega) (by by_cases hg2 : g < (mxs M R).getD i 0 <;> simp only [hg2, if_true, if_false] at ec ⊢ <;> omega) ⟨by omega, by omega⟩ ⟨by split <;> omega, by split <;> omega⟩ ⟨by split <;> omega, by split <;> omega⟩ ⟨by split <;> omega, by split <;> omega⟩
    rw [show ((i + 1 : Nat) : Int) = (i : Int) + 1 by omega] at nx
    exact nx
theorem sp_mIsMet (h : mrl M Z R r) (K : Q (some (jI (bI (met Z.1 R (mxs M R))))) M) : wc kc (d + 3) 273 [jR 133, jI r] M Q :=
  s273 (mim_loop h K R.2.2.length 0 (by omega) 0 0 0 (-1) (by simp) (by unfold cnF cnX; rw [headD_getD]; simp) (by simp) ⟨by omega, by omega⟩ ⟨by omega, by omega⟩ ⟨by omega, by omega⟩ ⟨by omega, by omega⟩)
end MIM
