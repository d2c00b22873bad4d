/-! REQUESTS: the state of a house, told by both memories; the class's way from the arguments to the request. -/
/-- puzzle, play, contest, whether the book is shut (0) or not (1), its bytes, the log of what was written last -/
abbrev HS : Type := PZ × fx_M × List CI × Int × (Int → Int) × List (Int × Int)
def cRl (M : fx_M) (S : HS) : Prop := cz M 11 S.1 ∧ (∃ Y, cz M 20 Y ∧ pz_ok Y) ∧ cpv M S.2.1 ∧ cct M S.2.2.1 ∧ M 125 1 = S.2.2.2.1 ∧ M 126 = S.2.2.2.2.1 ∧ clg M S.2.2.2.2.2
def mRl (M : fx_M) (S : HS) : Prop := mz M 0 S.1 ∧ mpv M S.2.1 ∧ mct M S.2.2.1 ∧ M 133 96 = S.2.2.2.1 ∧ mbk M S.2.2.2.2.1 ∧ mlg M S.2.2.2.2.2
def hOk (k : Nat) (S : HS) : Prop := pz_ok S.1 ∧ pnZ S.1 ∧ pv_ok S.2.1 ∧ pv_in S.2.1 S.1 ∧ ct_ok k S.2.2.1 ∧ (S.2.2.2.1 = 0 ∨ S.2.2.2.1 = 1) ∧ bk_b S.2.2.2.2.1 ∧ (S.2.2.2.1 = 1 → bMd S.2.2.2.2.1) ∧ lg_ok S.2.2.2.2.2
/-- the answer to a text that is no request, wrong at p -/
def t_bad (p : Int) : List Int := [98, 97, 100, 32] ++ dgs p
/-- what a request's end and its meaning give: r = (end, wrong, answer, state) -/
def fnR (n : Int) (S : HS) (r : Int × Int × List Int × HS) : List Int × HS := if r.2.1 ≠ 0 ∨ r.1 < n then (t_bad r.1, S) else r.2.2
section RQA
variable {L : Nat} {xs : Nat → Int32} {d : Nat} {M : fx_M} {Q : Option fx_V → fx_M → Prop}
/-- behind the arguments: wrong, or the request of its group -/
theorem cl_fin {n v : Int} (hv : fx_in32 v) (hn : 0 ≤ n ∧ n ≤ 5606) (h1 : 0 ≤ M 7 1 ∧ M 7 1 ≤ 5606) (h3 : M 7 3 = 0 ∨ M 7 3 = 1) (ho : M 125 1 = 0 ∨ M 125 1 = 1)
    (K0 : M 7 3 ≠ 0 ∨ M 7 1 < n → Q none (o_app (fx_up M 3 1 0) 3 (t_bad (M 7 1))))
    (K1 : M 7 3 = 0 → n ≤ M 7 1 → ∀ R : Option fx_V → fx_M → Prop, (∀ M1, Q none M1 → R none M1) →
      (v ≤ 6 → wc (kcs L xs) (d + 4) 66 [jR 0, jI v] (fx_up M 3 1 0) R) ∧ (6 < v → v ≤ 13 → wc (kcs L xs) (d + 4) 74 [jR 0, jI v] (fx_up M 3 1 0) R) ∧ (13 < v → v ≤ 20 → wc (kcs L xs) (d + 4) 103 [jR 0, jI v] (fx_up M 3 1 0) R) ∧ (20 < v → v ≤ 24 → wc (kcs L xs) (d + 4) 145 [jR 0, jI v] (fx_up M 3 1 0) R) ∧ (24 < v → v ≤ 31 → wc (kcs L xs) (d + 4) 167 [jR 0, jI v] (fx_up M 3 1 0) R) ∧ (31 < v → v ≤ 35 → wc (kcs L xs) (d + 4) 176 [jR 0, jI v] (fx_up M 3 1 0) R) ∧ (35 < v → (M 125 1 = 1 ∨ v = 40 ∨ v = 41) → wc (kcs L xs) (d + 4) 190 [jR 0, jI v] (fx_up M 3 1 0) R) ∧ (35 < v → M 125 1 = 0 → v ≠ 40 → v ≠ 41 → R none (o_app (fx_up M 3 1 0) 3 (wls 1936225652)))) :
    wp (kcs L xs) (d + 5) 17 28 [some (jR 0), some (jI n), some (jI v)] [] M Q := by
  have e3 : (fx_up M 3 1 0) 7 3 = M 7 3 := fx_up_na (by decide)
  have e1 : (fx_up M 3 1 0) 7 1 = M 7 1 := fx_up_na (by decide)
  have e5 : (fx_up M 3 1 0) 125 1 = M 125 1 := fx_up_na (by decide)
  have hO : o_ok (fx_up M 3 1 0) 3 := by
    unfold o_ok
    rw [fx_up_self]
    omega
  have bad : M 7 3 ≠ 0 ∨ M 7 1 < n → wc (kcs L xs) (d + 4) 64 [jR 3, jR 1000031] (fx_up M 3 1 0) (fun v M1 => wp (kcs L xs) (d + 5) 17 65 [some (jR 0), none, none] (v.toList ++ []) M1 Q) := fun h => by
    refine sp_puts fx_out3 lt_1000031 hO (s17_65 ?_)
    rw [o_app_ne (by decide) (by decide), e1]
    refine sp_number fx_out3 (o_ok_app hO) h1.1 (by omega) (s17_79 ?_)
    rw [o_app_app]
    exact K0 h
  refine s17_28 (s63 fx_out3 (s17_35 ?_))
  rw [e3, e1, e5]
  refine ⟨⟨by omega, by omega⟩, fun h => bad (Or.inl h), fun h => ⟨⟨⟨by omega, by omega⟩, ⟨by omega, by omega⟩⟩, fun hl => ?_, fun hl => bad (Or.inr hl)⟩⟩
  have K := K1 h hl
  refine ⟨hv, fun a6 => ⟨hv, fun a13 => ⟨hv, fun a20 => ⟨hv, fun a24 => ⟨hv, fun a31 => ⟨hv, fun a35 => ⟨⟨by omega, by omega⟩, fun b1 => ?_, fun b0 => ⟨hv, fun c40 => ?_, fun c40 => ⟨hv, fun c41 => ?_, fun c41 => ?_⟩⟩⟩, fun b35 => ?_⟩, fun b31 => ?_⟩, fun b24 => ?_⟩, fun b20 => ?_⟩, fun b13 => ?_⟩, fun b6 => ?_⟩
  · exact (K _ (fun M1 q => s17_193 q)).2.2.2.2.2.2.1 a35 (Or.inl (by omega))
  · exact (K _ (fun M1 q => s17_193 q)).2.2.2.2.2.2.1 a35 (Or.inr (Or.inl c40))
  · refine sp_puts fx_out3 lt_1000147 hO ?_
    have e : ([115, 104, 117, 116] : List Int32).map Int32.toInt = wls 1936225652 := by decide +kernel
    rw [e]
    exact (K (fun v M1 => wp (kcs L xs) (d + 5) 17 205 [none, none, none] (v.toList ++ []) M1 Q) (fun M1 q => s17_205 q)).2.2.2.2.2.2.2 a35 b0 c40 c41
  · exact (K _ (fun M1 q => s17_193 q)).2.2.2.2.2.2.1 a35 (Or.inr (Or.inr c41))
  · exact (K _ (fun M1 q => s17_163 q)).2.2.2.2.2.1 a31 b35
  · exact (K _ (fun M1 q => s17_149 q)).2.2.2.2.1 a24 b31
  · exact (K _ (fun M1 q => s17_135 q)).2.2.2.1 a20 b24
  · exact (K _ (fun M1 q => s17_121 q)).2.2.1 a13 b20
  · exact (K _ (fun M1 q => s17_107 q)).2.1 a6 b13
  · exact (K _ (fun M1 q => s17_93 q)).1 b6
end RQA
