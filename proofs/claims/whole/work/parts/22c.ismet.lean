/-! isMet of the class: the run over a way, and what it says. -/
def msy (w : Int) (i : Int) : Int := fx_and (fx_shr w (2 * i)) 3
/-- sum, alike, seen, highest, ones, used, rises, nearest, ahead behind i symbols -/
def mst (w : Int) : Nat → Int × Int × Int × Int × Int × Int × Int × Int × Int
  | 0 => (0, 0, 0, -1, 0, 0, 1, 99, fx_and w 3)
  | i + 1 => ((mst w i).1 + msy w i,
    (mst w i).2.1 + (if msy w i = fx_and w 3 then (1 : Int) else 0),
    (if (mst w i).2.2.2.1 < msy w i then ((mst w i).2.2.1 + 1 : Int) else (mst w i).2.2.1),
    (if (mst w i).2.2.2.1 < msy w i then (msy w i : Int) else (mst w i).2.2.2.1),
    fx_or (mst w i).2.2.2.2.1 (if msy w i = 1 then (fx_shl 1 (i : Int) : Int) else 0),
    fx_or (mst w i).2.2.2.2.2.1 (fx_shl 1 (msy w i)),
    (if (0 : Int) < (i : Int) then ((if (mst w i).2.2.2.2.2.2.1 = 0 then (0 : Int) else (if (mst w i).2.2.2.2.2.2.2.2 < msy w i then (1 : Int) else 0)) : Int) else (mst w i).2.2.2.2.2.2.1),
    (if (0 : Int) < (i : Int) then ((if (if (0 : Int) ≤ msy w i - (mst w i).2.2.2.2.2.2.2.2 then (msy w i - (mst w i).2.2.2.2.2.2.2.2 : Int) else 0 - (msy w i - (mst w i).2.2.2.2.2.2.2.2)) < (mst w i).2.2.2.2.2.2.2.1 then ((if (0 : Int) ≤ msy w i - (mst w i).2.2.2.2.2.2.2.2 then (msy w i - (mst w i).2.2.2.2.2.2.2.2 : Int) else 0 - (msy w i - (mst w i).2.2.2.2.2.2.2.2)) : Int) else (mst w i).2.2.2.2.2.2.2.1) : Int) else (mst w i).2.2.2.2.2.2.2.1),
    msy w i)
def mst_bd (t : Int × Int × Int × Int × Int × Int × Int × Int × Int) : Bool := decide (0 ≤ t.1 ∧ t.1 ≤ 12 ∧ 0 ≤ t.2.1 ∧ t.2.1 ≤ 4 ∧ 0 ≤ t.2.2.1 ∧ t.2.2.1 ≤ 4 ∧ -1 ≤ t.2.2.2.1 ∧ t.2.2.2.1 ≤ 3 ∧ 0 ≤ t.2.2.2.2.1 ∧ t.2.2.2.2.1 ≤ 15 ∧ 0 ≤ t.2.2.2.2.2.1 ∧ t.2.2.2.2.2.1 ≤ 15 ∧ 0 ≤ t.2.2.2.2.2.2.1 ∧ t.2.2.2.2.2.2.1 ≤ 1 ∧ 0 ≤ t.2.2.2.2.2.2.2.1 ∧ t.2.2.2.2.2.2.2.1 ≤ 99 ∧ 0 ≤ t.2.2.2.2.2.2.2.2 ∧ t.2.2.2.2.2.2.2.2 ≤ 3)
theorem mst_all : ∀ (w : Fin 256) (i : Fin 5), mst_bd (mst ((w : Nat) : Int) i) = true := by decide +kernel
theorem msy_all : ∀ (w : Fin 256) (i : Fin 4), msy ((w : Nat) : Int) ((i : Nat) : Int) = (((w : Nat) / 4 ^ (i : Nat) % 4 : Nat) : Int) := by decide +kernel
/-- bitCount of small numbers -/
def bct (x : Int) : Int := (fx_and (((fx_and (((fx_and (x - (fx_and (fx_ushr x 1) 1431655765)) 858993459) + (fx_and (fx_ushr (x - (fx_and (fx_ushr x 1) 1431655765)) 2) 858993459)) + (fx_ushr ((fx_and (x - (fx_and (fx_ushr x 1) 1431655765)) 858993459) + (fx_and (fx_ushr (x - (fx_and (fx_ushr x 1) 1431655765)) 2) 858993459)) 4)) 252645135) + (fx_ushr (fx_and (((fx_and (x - (fx_and (fx_ushr x 1) 1431655765)) 858993459) + (fx_and (fx_ushr (x - (fx_and (fx_ushr x 1) 1431655765)) 2) 858993459)) + (fx_ushr ((fx_and (x - (fx_and (fx_ushr x 1) 1431655765)) 858993459) + (fx_and (fx_ushr (x - (fx_and (fx_ushr x 1) 1431655765)) 2) 858993459)) 4)) 252645135) 8)) + (fx_ushr ((fx_and (((fx_and (x - (fx_and (fx_ushr x 1) 1431655765)) 858993459) + (fx_and (fx_ushr (x - (fx_and (fx_ushr x 1) 1431655765)) 2) 858993459)) + (fx_ushr ((fx_and (x - (fx_and (fx_ushr x 1) 1431655765)) 858993459) + (fx_and (fx_ushr (x - (fx_and (fx_ushr x 1) 1431655765)) 2) 858993459)) 4)) 252645135) + (fx_ushr (fx_and (((fx_and (x - (fx_and (fx_ushr x 1) 1431655765)) 858993459) + (fx_and (fx_ushr (x - (fx_and (fx_ushr x 1) 1431655765)) 2) 858993459)) + (fx_ushr ((fx_and (x - (fx_and (fx_ushr x 1) 1431655765)) 858993459) + (fx_and (fx_ushr (x - (fx_and (fx_ushr x 1) 1431655765)) 2) 858993459)) 4)) 252645135) 8)) 16)) 63)
/-- the nearest of neighbours, 99 when there are none -/
def nea : List Int → Int
  | [] => 99
  | [_] => 99
  | a :: b :: t => min (if a ≤ b then b - a else a - b) (nea (b :: t))
def mst_fin (n w : Nat) : Bool := decide ((mst (w : Int) n).1 = (wyx n w).sum ∧ (mst (w : Int) n).2.1 = cnF (wyx n w) ∧ (mst (w : Int) n).2.2.1 = seN (-1) (wyx n w) ∧ (mst (w : Int) n).2.2.2.2.1 = onB (wyx n w) ∧ (bct (mst (w : Int) n).2.2.2.2.2.1 = n ↔ (wyx n w).Nodup) ∧ ((mst (w : Int) n).2.2.2.2.2.2.1 = if adA (fun a b => decide (a < b)) (wyx n w) then 1 else 0) ∧ (mst (w : Int) n).2.2.2.2.2.2.2.1 = nea (wyx n w) ∧ 0 ≤ bct (mst (w : Int) n).2.2.2.2.2.1 ∧ bct (mst (w : Int) n).2.2.2.2.2.1 ≤ 4) && (List.range 4).all (fun s => decide ((mst (w : Int) n).2.2.2.1 < ((s + 1 : Nat) : Int)) == (wyx n w).all (fun x => decide (x < ((s + 1 : Nat) : Int))))
theorem mst_fin1 : ∀ w : Fin 4, mst_fin 1 w = true := by decide +kernel
theorem mst_fin2 : ∀ w : Fin 16, mst_fin 2 w = true := by decide +kernel
theorem mst_fin3 : ∀ w : Fin 64, mst_fin 3 w = true := by decide +kernel
theorem mst_fin4 : ∀ w : Fin 256, mst_fin 4 w = true := by decide +kernel
theorem mst_finA {n w : Nat} (hn : 1 ≤ n ∧ n ≤ 4) (hw : w < 4 ^ n) : mst_fin n w = true := by
  have h : n = 1 ∨ n = 2 ∨ n = 3 ∨ n = 4 := by omega
  rcases h with rfl | rfl | rfl | rfl
  · exact mst_fin1 ⟨w, hw⟩
  · exact mst_fin2 ⟨w, hw⟩
  · exact mst_fin3 ⟨w, hw⟩
  · exact mst_fin4 ⟨w, hw⟩
theorem nea_ad {n : Int} (hn : n ≤ 99) : ∀ l : List Int, decide (n ≤ nea l) = adA (fun a b => decide (n ≤ b - a ∨ n ≤ a - b)) l
  | [] => by simp [nea, adA, hn]
  | [_] => by simp [nea, adA, hn]
  | a :: b :: t => by
    have ih := nea_ad hn (b :: t)
    unfold nea adA
    rw [← ih]
    have h : (n ≤ min (if a ≤ b then b - a else a - b) (nea (b :: t))) ↔ ((n ≤ b - a ∨ n ≤ a - b) ∧ n ≤ nea (b :: t)) := by
      rw [Int.le_min]
      constructor
      · rintro ⟨h1, h2⟩
        refine ⟨?_, h2⟩
        split at h1
        · exact Or.inl h1
        · exact Or.inr h1
      · rintro ⟨h1, h2⟩
        refine ⟨?_, h2⟩
        split
        · rcases h1 with h1 | h1
          · exact h1
          · omega
        · rcases h1 with h1 | h1
          · omega
          · exact h1
    rw [Bool.eq_iff_iff]
    simp only [decide_eq_true_eq, Bool.and_eq_true]
    exact h
section ISM
variable {kc : List va_E} {d p : Nat} {M : fx_M} {Q : Option fx_V → fx_M → Prop} {Z : PZ} {R : PR} {r : Nat}
theorem sp_bitCount {x : Int} (K : Q (some (jI (bct x))) M) : wc kc (d + 1) 79 [jI x] M Q := s79 K
def bI (b : Bool) : Int := if b then 1 else 0
theorem ism_end {w : Nat} {hg : Int} (Hp : fx_puz p) (hz : cz M p Z) (ho : pz_ok Z) (hR : Z.2.2.2.1[r]? = some R) (hw : w < 4 ^ R.2.2.length) (hh : R.1 = 3 → fx_and (fx_shr hg (onB (wyx R.2.2.length w) : Nat)) 1 = bI (hgs (lnB Z.1 R.2.2) (onB (wyx R.2.2.length w)))) (K : Q (some (jI (bI ((wyx R.2.2.length w).all (fun x => decide (x < Z.2.2.1)) && met Z.1 R (wyx R.2.2.length w))))) M) {l0 : Option fx_V} : wp kc (d + 2) 78 33 [some (jR p), some (jI r), some (jI w), some (jI hg), some (jI (mst w R.2.2.length).1), some (jI (mst w R.2.2.length).2.1), some (jI (mst w R.2.2.length).2.2.1), some (jI (mst w R.2.2.length).2.2.2.1), some (jI (mst w R.2.2.length).2.2.2.2.1), some (jI (mst w R.2.2.length).2.2.2.2.2.1), some (jI (mst w R.2.2.length).2.2.2.2.2.2.1), some (jI (mst w R.2.2.length).2.2.2.2.2.2.2.1), some (jI (mst w R.2.2.length).2.2.2.2.2.2.2.2), some (jI R.2.2.length), none] [] M Q := by
  have hr := (List.getElem?_eq_some_iff.mp hR).1
  have hmem : R ∈ Z.2.2.2.1 := by
    obtain ⟨h1, h2⟩ := List.getElem?_eq_some_iff.mp hR
    rw [← h2]
    exact List.getElem_mem h1
  have o5 := ho.2.2.2.2.1
  have o6 := ho.2.2.2.2.2.1
  have o7 := ho.2.2.2.2.2.2.1
  obtain ⟨k1, k2, k3, k4, k5, k6, k7, k8⟩ := ho.2.2.2.2.2.2.2.1 R hmem
  obtain ⟨a1, a2, a3, a4, a5⟩ := hz.2.2.2.2.2.1 r R hR
  have z3 := hz.2.2.2.1
  have hw256 : w < 256 := Nat.lt_of_lt_of_le hw (Nat.pow_le_pow_right (n := 4) (by decide) k6)
  have hb := mst_all ⟨w, hw256⟩ ⟨R.2.2.length, by omega⟩
  unfold mst_bd at hb
  simp only [decide_eq_true_eq] at hb
  have hf := mst_finA ⟨k5, k6⟩ hw
  unfold mst_fin at hf
  rw [Bool.and_eq_true, decide_eq_true_eq, List.all_eq_true] at hf
  obtain ⟨⟨f1, f2, f3, f4, f5, f6, f7, f8, f9⟩, f10⟩ := hf
  have fs := f10 (Z.2.2.1.toNat - 1) (by rw [List.mem_range]; omega)
  rw [beq_iff_eq, show ((Z.2.2.1.toNat - 1 + 1 : Nat) : Int) = Z.2.2.1 by omega] at fs
  refine s78_33 Hp ?_
  rw [a3, z3, a1, a2]
  refine ⟨⟨by omega, by omega⟩, ⟨⟨by omega, by omega⟩, ⟨by omega, by omega⟩⟩, fun _ => ⟨⟨⟨by omega, by omega⟩, ⟨by omega, by omega⟩⟩, fun hlt => ⟨⟨by omega, by omega⟩, ⟨by omega, by omega⟩, fun hk => ?_, fun hk => ?_, fun hk => ?_, fun hk => ?_, fun hk => ?_, fun hk => ?_, fun hk => ?_, fun hk => ?_⟩, fun hge => ?_⟩, fun h => by omega⟩
  case refine_1 =>
    rw [← fs, decide_eq_true hlt, Bool.true_and] at K
    unfold met at K
    rw [if_pos hk, ← f2] at K
    have hl : (wyx R.2.2.length w).length = R.2.2.length := by simp [wyx]
    rw [hl] at K
    refine ⟨⟨by omega, by omega⟩, ⟨by omega, by omega⟩, ⟨by omega, by omega⟩, ?_, ?_⟩
    · split <;> omega
    · unfold bI at K
      simp only [decide_eq_true_eq] at K
      exact K
  case refine_2 =>
    rw [← fs, decide_eq_true hlt, Bool.true_and] at K
    unfold met at K
    rw [if_neg (by omega), if_pos hk, ← nea_ad k4, ← f7] at K
    refine ⟨⟨by omega, by omega⟩, ⟨by omega, by omega⟩, ⟨by omega, by omega⟩, ?_, ?_⟩
    · split <;> omega
    · unfold bI at K
      simp only [decide_eq_true_eq] at K
      by_cases hx : (mst (w : Int) R.2.2.length).2.2.2.2.2.2.2.1 < R.2.1
      · rw [if_pos hx]
        rw [if_neg (by omega)] at K
        exact K
      · rw [if_neg hx]
        rw [if_pos (by omega)] at K
        exact K
  case refine_3 =>
    rw [← fs, decide_eq_true hlt, Bool.true_and] at K
    unfold met at K
    rw [if_neg (by omega), if_neg (by omega), if_pos hk, ← f2] at K
    refine ⟨⟨by omega, by omega⟩, ⟨by omega, by omega⟩, ⟨by omega, by omega⟩, ?_, ?_⟩
    · split <;> omega
    · unfold bI at K
      simp only [decide_eq_true_eq] at K
      exact K
  case refine_4 =>
    rw [← fs, decide_eq_true hlt, Bool.true_and] at K
    unfold met at K
    rw [if_neg (by omega), if_neg (by omega), if_neg (by omega), if_pos hk] at K
    have hh' := hh hk
    rw [f4, hh']
    have hbb : 0 ≤ bI (hgs (lnB Z.1 R.2.2) (onB (wyx R.2.2.length w))) ∧ bI (hgs (lnB Z.1 R.2.2) (onB (wyx R.2.2.length w))) ≤ 1 := by
      unfold bI
      split <;> omega
    refine ⟨⟨by omega, by omega⟩, ?_, ?_⟩
    · split <;> omega
    · by_cases hx : bI (hgs (lnB Z.1 R.2.2) (onB (wyx R.2.2.length w))) = 0
      · rw [if_pos hx]
        rw [hx] at K
        exact K
      · rw [if_neg hx]
        rw [show bI (hgs (lnB Z.1 R.2.2) (onB (wyx R.2.2.length w))) = 1 by omega] at K
        exact K
  case refine_5 =>
    rw [← fs, decide_eq_true hlt, Bool.true_and] at K
    unfold met at K
    rw [if_neg (by omega), if_neg (by omega), if_neg (by omega), if_neg (by omega), if_pos hk] at K
    refine ⟨⟨by omega, by omega⟩, ?_⟩
    rw [f6]
    exact K
  case refine_6 =>
    rw [← fs, decide_eq_true hlt, Bool.true_and] at K
    unfold met at K
    rw [if_neg (by omega), if_neg (by omega), if_neg (by omega), if_neg (by omega), if_neg (by omega), if_pos hk, ← f3] at K
    refine ⟨⟨by omega, by omega⟩, ⟨by omega, by omega⟩, ⟨by omega, by omega⟩, ?_, ?_⟩
    · split <;> omega
    · unfold bI at K
      simp only [decide_eq_true_eq] at K
      exact K
  case refine_7 =>
    rw [← fs, decide_eq_true hlt, Bool.true_and] at K
    unfold met at K
    rw [if_neg (by omega), if_neg (by omega), if_neg (by omega), if_neg (by omega), if_neg (by omega), if_neg (by omega), if_pos hk, ← f1] at K
    refine ⟨⟨by omega, by omega⟩, ⟨by omega, by omega⟩, ⟨by omega, by omega⟩, ?_, ?_⟩
    · split <;> omega
    · unfold bI at K
      simp only [decide_eq_true_eq] at K
      exact K
  case refine_8 =>
    rw [← fs, decide_eq_true hlt, Bool.true_and] at K
    unfold met at K
    rw [if_neg (by omega), if_neg (by omega), if_neg (by omega), if_neg (by omega), if_neg (by omega), if_neg (by omega), if_neg (by omega)] at K
    refine sp_bitCount (s78_336 Hp ?_)
    rw [a3]
    refine ⟨⟨by omega, by omega⟩, ⟨by omega, by omega⟩, ⟨by omega, by omega⟩, ?_, ?_⟩
    · split <;> omega
    · unfold bI at K
      simp only [decide_eq_true_eq] at K
      by_cases hx : bct (mst (w : Int) R.2.2.length).2.2.2.2.2.1 = R.2.2.length
      · rw [if_pos hx]
        rw [if_pos (f5.mp hx)] at K
        exact K
      · rw [if_neg hx]
        rw [if_neg (fun h => hx (f5.mpr h))] at K
        exact K
  case refine_9 =>
    rw [← fs, decide_eq_false (by omega), Bool.false_and] at K
    exact K
end ISM
