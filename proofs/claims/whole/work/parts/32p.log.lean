/-! The log of both sides is one. -/
def dif (D : List (Int × Int)) : Prop := D.Pairwise (fun x y => x.1 ≠ y.1)
theorem wLog_map : ∀ {D : List (Int × Int)} {g : Int → Int}, dif D → wLog g D = D.map (fun x => (x.1, g x.1))
  | [], _, _ => rfl
  | x :: D, g, h => by
    unfold dif at h
    rw [List.pairwise_cons] at h
    rw [wLog, wLog_map (D := D) h.2, List.map_cons]
    congr 1
    refine List.map_congr_left (fun y hy => ?_)
    unfold bUp
    rw [if_neg (fun e => h.1 y hy e.symm)]
theorem plc_dif : ∀ {L : List Int} {b : Int}, dif (plc b L)
  | [], _ => List.Pairwise.nil
  | v :: L, b => by
    unfold dif
    rw [plc, List.pairwise_cons]
    refine ⟨fun y hy => ?_, plc_dif⟩
    have := plc_in hy
    dsimp only
    omega
theorem plc_get : ∀ {L : List Int} {b : Int} {i : Nat} {x : Int × Int}, (plc b L)[i]? = some x → x.1 = b + (i : Int)
  | [], _, _, _, h => by cases h
  | v :: L, b, 0, x, h => by
    rw [plc, List.getElem?_cons_zero] at h
    cases h
    dsimp only
    omega
  | v :: L, b, i + 1, x, h => by
    rw [plc, List.getElem?_cons_succ] at h
    have := plc_get h
    omega
theorem rtB_len {g : Int → Int} {o c m : Int} (h : (prs g o (g (bRt g)).toNat ++ nwp c m).length ≤ 30) : (rtB g o c m).length = 32 := by
  unfold rtB
  rw [List.length_append, List.length_append, List.length_cons, List.length_replicate, List.length_singleton]
  omega
/-- places of a chain's pages, of the other root page, and the first byte -/
theorem all_dif {g : Int → Int} {o c m f : Int} {E : List Int} (hE : E = [] ∨ 3 ≤ f) (h30 : (prs g o (g (bRt g)).toNat ++ nwp c m).length ≤ 30) : dif (plc (32 * f) E ++ rtD g o c m) := by
  have hr := bRt_b (g := g)
  have h32 := rtB_len h30
  have hin : ∀ x ∈ rtD g o c m, x.1 < 96 := fun x hx => by
    unfold rtD at hx
    rcases List.mem_append.mp hx with e | e
    · have := plc_in e
      omega
    · rw [List.mem_singleton.mp e]
      dsimp only
      omega
  unfold dif
  rw [List.pairwise_append]
  refine ⟨plc_dif, ?_, fun x hx y hy => ?_⟩
  · unfold rtD
    rw [List.pairwise_append]
    refine ⟨plc_dif, List.pairwise_singleton .., fun x hx y hy => ?_⟩
    have := plc_in hx
    rw [List.mem_singleton.mp hy]
    dsimp only
    omega
  · have h2 := hin y hy
    rcases hE with e | e
    · rw [e] at hx
      cases hx
    · have := plc_in hx
      omega
theorem log_mlg {M' : fx_M} {g : Int → Int} {o c m f : Int} {n : Nat} {E : List Int} (hE : E = [] ∨ 3 ≤ f) (hEl : E.length = 32 * n) (h30 : (prs g o (g (bRt g)).toNat ++ nwp c m).length ≤ 30) (hf : 0 ≤ f ∧ f ≤ 32) (hn : n ≤ 32) (e99 : M' 133 99 = f) (e100 : M' 133 100 = (n : Int)) (e101 : M' 133 101 = 3 - bRt g / 32) (e102 : M' 133 102 = 32 * (n : Int) + 33) (h189 : ∀ j, 0 ≤ j → j < 1024 → M' 189 j = g j) (hpl : ∀ x ∈ plc (32 * f) E ++ rtD g o c m, 0 ≤ x.1 ∧ x.1 < 1024) : mlg M' (wLog g (plc (32 * f) E ++ rtD g o c m)) := by
  have hr := bRt_b (g := g)
  have h32 := rtB_len h30
  have hl : (rtD g o c m).length = 33 := by
    unfold rtD
    rw [List.length_append, plc_len, h32, List.length_singleton]
  unfold mlg
  rw [e99, e100, e101, e102, wLog_len, List.length_append, plc_len, hEl, hl]
  refine ⟨by omega, hf, ⟨by omega, by omega⟩, ⟨by omega, by omega⟩, fun i x hx => ?_⟩
  rw [wLog_map (all_dif hE h30), List.getElem?_map] at hx
  cases hy : (plc (32 * f) E ++ rtD g o c m)[i]? with
  | none =>
    rw [hy] at hx
    cases hx
  | some y =>
    rw [hy] at hx
    cases hx
    have hyp := hpl y (List.mem_of_getElem? hy)
    refine ⟨?_, h189 _ hyp.1 hyp.2⟩
    dsimp only
    unfold wrP
    by_cases h1 : i < 32 * n
    · rw [List.getElem?_append_left (by rw [plc_len]; omega)] at hy
      rw [if_neg (by omega), plc_get hy]
    · rw [List.getElem?_append_right (by rw [plc_len]; omega), plc_len, hEl] at hy
      rw [if_pos (by omega)]
      unfold rtD at hy
      by_cases h2 : i - 32 * n < 32
      · rw [List.getElem?_append_left (by rw [plc_len]; omega)] at hy
        rw [if_pos (by omega), plc_get hy]
        omega
      · rw [List.getElem?_append_right (by rw [plc_len]; omega), plc_len, h32] at hy
        rw [if_neg (by omega)]
        have hil := (List.getElem?_eq_some_iff.mp hy).1
        rw [List.length_singleton] at hil
        rw [show i - 32 * n - 32 = 0 by omega] at hy
        cases hy
        rfl
