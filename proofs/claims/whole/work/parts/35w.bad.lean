/-! REQUESTS, the class: what is no request. -/
section RQW
variable {L : Nat} {xs : Nat → Int32} {d : Nat} {M : fx_M} {Q : Option fx_V → fx_M → Prop} {S : HS} {k : Nat}
/-- no word: wrong at p -/
theorem cw_bad {n p : Int} (h : cIn M n p 1) (hS : cRl M S) (hk : hOk k S) (K : ∀ M', cRl M' S → ctx M' (t_bad p) → cEnd M M' → Q none M') : wp (kcs L xs) (d + 25) 17 22 [some (jR 0), some (jI n), none] [jI (-1)] M Q := by
  obtain ⟨h1, h2, h3, h4, h5⟩ := h
  have a := h1.2.2.2.1
  have b := h1.2.2.2.2.1
  have c := h1.2.2.2.2.2.1
  have e : fnR n S (p, 1, ([], S)) = (t_bad p, S) := by
    unfold fnR
    rw [if_pos (Or.inl (show (1 : Int) ≠ 0 by decide))]
  refine s17_22 (ca_none (d := d + 15) ⟨by omega, by omega⟩ (by unfold lgV; omega) (by omega) ?_)
  exact cw_fin (d := d + 20) (r := (p, 1, ([], S))) ⟨by omega, by omega⟩ ⟨by omega, by omega⟩ hS hk (fun _ _ _ => rfl) h2 (show 0 ≤ p ∧ p ≤ 5606 by omega) h4 (Or.inr rfl) (fun M' m1 m2 m3 => by
    rw [e] at m1 m2
    exact K M' m1 m2 m3) (fun x => absurd (show (1 : Int) = 0 from x) (by decide))
end RQW
