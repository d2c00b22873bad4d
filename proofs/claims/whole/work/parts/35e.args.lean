/-! REQUESTS, the class: the long arguments. -/
section RQE
variable {L : Nat} {xs : Nat → Int32} {d : Nat} {M : fx_M} {Q : Option fx_V → fx_M → Prop}
/-- words whose arguments are none or long -/
def lgV (v : Int) : Prop := v ≠ 0 ∧ v ≠ 3 ∧ v ≠ 7 ∧ v ≠ 9 ∧ v ≠ 12 ∧ v ≠ 22 ∧ v ≠ 23 ∧ v ≠ 25 ∧ v ≠ 26 ∧ v ≠ 28 ∧ v ≠ 30 ∧ v ≠ 31 ∧ v ≠ 33 ∧ v ≠ 34 ∧ v ≠ 36 ∧ v ≠ 37 ∧ v ≠ 38 ∧ v ≠ 40
theorem ca_long {v : Int} (h32 : fx_in32 v) (hv : lgV v) (H : wc (kcs L xs) (d + 8) 44 [jR 0, jI v] M (fun v M1 => wp (kcs L xs) (d + 9) 32 351 [none, none] (v.toList ++ []) M1 Q)) : wc (kcs L xs) (d + 9) 32 [jR 0, jI v] M Q := by
  unfold lgV at hv
  exact s32 ⟨h32, fun h => by omega, fun _ => H, fun _ => H, fun h => by omega, fun _ => H, fun _ => H, fun _ => H, fun h => by omega, fun _ => H, fun h => by omega, fun _ => H, fun _ => H, fun h => by omega, fun _ => H, fun _ => H, fun _ => H, fun _ => H, fun _ => H, fun _ => H, fun _ => H, fun _ => H, fun _ => H, fun h => by omega, fun h => by omega, fun _ => H, fun h => by omega, fun h => by omega, fun _ => H, fun h => by omega, fun _ => H, fun h => by omega, fun h => by omega, fun _ => H, fun h => by omega, fun h => by omega, fun _ => H, fun h => by omega, fun h => by omega, fun h => by omega, fun _ => H, fun h => by omega, fun _ => H⟩
theorem ca_none {v : Int} (h32 : fx_in32 v) (hv : lgV v) (h2 : v ≠ 1 ∧ v ≠ 2 ∧ v ≠ 6 ∧ v ≠ 15 ∧ v ≠ 43) (K : Q none M) : wc (kcs L xs) (d + 9) 32 [jR 0, jI v] M Q := ca_long h32 hv (s44 ⟨h32, fun h => absurd h h2.1, fun h => absurd h h2.2.1, fun h => absurd h h2.2.2.1, fun h => absurd h h2.2.2.2.1, fun h => absurd h h2.2.2.2.2, fun _ _ _ _ _ => s32_351 K⟩)
theorem lg_1 : lgV 1 ∧ lgV 2 ∧ lgV 6 ∧ lgV 15 ∧ lgV 43 := by
  unfold lgV
  refine ⟨?_, ?_, ?_, ?_, ?_⟩ <;> omega
/-- the scan has read a kind -/
theorem tK (hS : sq M) (K : ∀ N, sq N → N 7 1 = (rK (M 2) (M 7 2) bsK (M 7 1) (M 7 3)).2.2.1 → N 7 3 = (rK (M 2) (M 7 2) bsK (M 7 1) (M 7 3)).2.2.2 → N 7 11 = (rK (M 2) (M 7 2) bsK (M 7 1) (M 7 3)).1 → N 7 12 = (rK (M 2) (M 7 2) bsK (M 7 1) (M 7 3)).2.1 → (∀ b j, ¬ (b = 7 ∧ (j = 1 ∨ j = 3 ∨ j = 11 ∨ j = 12)) → N b j = M b j) → Q none N) : wc (kcs L xs) (d + 5) 45 [jR 7] M Q := by
  have hp := sq_p hS
  have hb := rK_b (g := M 2) (e := M 7 2) (bs := bsK) (p := M 7 1) (w := M 7 3) hp.1
  refine sp_kind lt_K fx_scn7 hS (K _ ?_ (rd_1 ..) (rd_3 ..) ?_ ?_ (fun b j h => ?_))
  · refine sc_at_rd fx_scn7 (sc_at_up (sc_at_up hS (by decide) (by omega)) (by decide) (by omega)) ?_ ?_
    · rw [fx_up_nk (by decide), fx_up_nk (by decide)]
      omega
    · omega
  · rw [rd_ne (by omega), fx_up_nk (by decide), fx_up_self]
  · rw [rd_ne (by omega), fx_up_self]
  · rw [rd_ne (by omega), fx_up_ne (by omega), fx_up_ne (by omega)]
theorem tSd (hS : sq M) (K : ∀ N, sq N → N 7 1 = (rSd (M 2) (M 7 2) (M 7 1) (M 7 3)).2.1 → N 7 3 = (rSd (M 2) (M 7 2) (M 7 1) (M 7 3)).2.2 → N 7 10 = (rSd (M 2) (M 7 2) (M 7 1) (M 7 3)).1 → (∀ b j, ¬ (b = 7 ∧ (j = 1 ∨ j = 3 ∨ j = 10)) → N b j = M b j) → Q none N) : wc (kcs L xs) (d + 5) 48 [jR 7] M Q := by
  have hp := sq_p hS
  have hb := rSd_b (g := M 2) (e := M 7 2) (p := M 7 1) (w := M 7 3) hp.1
  have eS : rC (M 2) (M 7 2) bsS (rT (M 2) (M 7 2) 32 (M 7 1) (M 7 3)).1 (rT (M 2) (M 7 2) 32 (M 7 1) (M 7 3)).2 = rSd (M 2) (M 7 2) (M 7 1) (M 7 3) := rfl
  refine sp_side lt_S fx_scn7 hS ?_
  rw [eS]
  refine K _ ?_ ?_ ?_ (fx_up_self ..) (fun b j h => ?_)
  · exact sc_at_up (sc_at_rd fx_scn7 hS (by omega) (by omega)) (by decide) (by omega)
  · rw [fx_up_nk (by decide), rd_1]
  · rw [fx_up_nk (by decide), rd_3]
  · rw [fx_up_ne (by omega), rd_ne (by omega)]
theorem tRc (hS : sq M) (K : ∀ N, sq N → N 7 1 = (rR (M 2) (M 7 2) ((M 7 2 - M 7 1).toNat + 1) true (M 7 1) (M 7 3)).2.1 → N 7 3 = (rR (M 2) (M 7 2) ((M 7 2 - M 7 1).toNat + 1) true (M 7 1) (M 7 3)).2.2 → N 7 14 = (rR (M 2) (M 7 2) ((M 7 2 - M 7 1).toNat + 1) true (M 7 1) (M 7 3)).1.length → (∀ (i : Nat) (c : Int), (rR (M 2) (M 7 2) ((M 7 2 - M 7 1).toNat + 1) true (M 7 1) (M 7 3)).1[i]? = some c → i < 4 → N 10 (i : Int) = c) → (∀ b j, ¬ (b = 7 ∧ (j = 1 ∨ j = 3 ∨ j = 14)) → b ≠ 10 → N b j = M b j) → Q none N) : wc (kcs L xs) (d + 2) 47 [jR 7] M Q := by
  have hp := sq_p hS
  have hw := sq_w hS
  have hb := rR_b (g := M 2) (e := M 7 2) ((M 7 2 - M 7 1).toNat + 1) true (M 7 1) (M 7 3) hp.1 hw.1 hw.2
  have hsc : ∀ (l : List Int) (c : Int) (N : fx_M), sc_at N 7 2 5606 → sc_at (wcl N 7 c l) 7 2 5606 := by
    intro l c N h
    obtain ⟨s1, s2, s3, s4, s5, s6, s7, s8, s9⟩ := h
    have f : ∀ b j, ¬ (b = 7 ∧ j = 14) → b ≠ 10 → (wcl N 7 c l) b j = N b j := fun b j h1 h2 => wcl_fr l c N b j h1 h2
    refine ⟨by rw [f _ _ (by omega) (by decide)]; exact s1, s2, s3, by rw [f _ _ (by omega) (by decide)]; exact s4, by rw [f _ _ (by omega) (by decide), f _ _ (by omega) (by decide)]; exact s5, by rw [f _ _ (by omega) (by decide)]; exact s6, by rw [f _ _ (by omega) (by decide)]; exact s7, by rw [f _ _ (by omega) (by decide)]; exact s8, fun j j0 j1 => by rw [f _ _ (by omega) (by decide)]; exact s9 j j0 j1⟩
  refine sp_ruleCells fx_scn7 hS (by decide) (K _ ?_ (rd_1 ..) (rd_3 ..) ?_ (fun i c hi h4 => ?_) (fun b j h h10 => ?_))
  · refine sc_at_rd fx_scn7 (hsc _ _ _ (sc_at_up hS (by decide) (by omega))) ?_ ?_
    · rw [wcl_fr _ _ _ _ _ (by omega) (by decide), fx_up_nk (by decide)]
      omega
    · omega
  · rw [rd_ne (by omega), wcl_len _ _ _ (fx_up_self ..)]
    omega
  · rw [rd_ne (by omega)]
    have := wcl_at (s := 7) _ 0 (fx_up M 7 14 0) i c hi (by omega) (by omega)
    rw [show (0 : Int) + (i : Int) = i by omega] at this
    exact this
  · rw [rd_ne (by omega), wcl_fr _ _ _ _ _ (by omega) (by omega), fx_up_ne (by omega)]
/-- a rule's end: kind, number, cells, place, wrong -/
def rRu (g : Int → Int) (n p w : Int) : List Int × Int × Int := rR g n ((n - (rK g n bsK p w).2.2.1).toNat + 1) true (rK g n bsK p w).2.2.1 (rK g n bsK p w).2.2.2
theorem ca_rule (hS : sq M) (K : ∀ N, sq N → aG M N → N 7 1 = (rRu (M 2) (M 7 2) (M 7 1) (M 7 3)).2.1 → N 7 3 = (rRu (M 2) (M 7 2) (M 7 1) (M 7 3)).2.2 → N 7 11 = (rK (M 2) (M 7 2) bsK (M 7 1) (M 7 3)).1 → N 7 12 = (rK (M 2) (M 7 2) bsK (M 7 1) (M 7 3)).2.1 → N 7 14 = (rRu (M 2) (M 7 2) (M 7 1) (M 7 3)).1.length → (∀ (i : Nat) (c : Int), (rRu (M 2) (M 7 2) (M 7 1) (M 7 3)).1[i]? = some c → i < 4 → N 10 (i : Int) = c) → Q none N) : wc (kcs L xs) (d + 9) 32 [jR 0, jI 1] M Q := by
  refine ca_long ⟨by omega, by omega⟩ lg_1.1 (s44 ⟨⟨by omega, by omega⟩, fun _ => ?_, fun h => by omega, fun h => by omega, fun h => by omega, fun h => by omega, fun h => absurd rfl h⟩)
  refine tK (d := d + 2) hS (fun N n1 n2 n3 n4 n5 n6 => s44_59 (tRc (d := d + 5) n1 (fun O o1 o2 o3 o4 o5 o6 => s44_66 (s32_351 ?_))))
  have gN : aG M N := fun b j b1 b2 b3 => n6 b j (by omega)
  have gO : aG N O := fun b j b1 b2 b3 => o6 b j (by omega) b3
  have eN := aG_2 gN
  rw [eN.1, eN.2.1, n2, n3] at o2 o3 o4 o5
  exact K O o1 (aG_tr gN gO) o2 o3 (by rw [o6 7 11 (by omega) (by decide)]; exact n4) (by rw [o6 7 12 (by omega) (by decide)]; exact n5) o4 o5
theorem ca_each (hS : sq M) (K : ∀ N, sq N → aG M N → N 7 1 = (rK (M 2) (M 7 2) bsK (rSd (M 2) (M 7 2) (M 7 1) (M 7 3)).2.1 (rSd (M 2) (M 7 2) (M 7 1) (M 7 3)).2.2).2.2.1 → N 7 3 = (rK (M 2) (M 7 2) bsK (rSd (M 2) (M 7 2) (M 7 1) (M 7 3)).2.1 (rSd (M 2) (M 7 2) (M 7 1) (M 7 3)).2.2).2.2.2 → N 7 10 = (rSd (M 2) (M 7 2) (M 7 1) (M 7 3)).1 → N 7 11 = (rK (M 2) (M 7 2) bsK (rSd (M 2) (M 7 2) (M 7 1) (M 7 3)).2.1 (rSd (M 2) (M 7 2) (M 7 1) (M 7 3)).2.2).1 → N 7 12 = (rK (M 2) (M 7 2) bsK (rSd (M 2) (M 7 2) (M 7 1) (M 7 3)).2.1 (rSd (M 2) (M 7 2) (M 7 1) (M 7 3)).2.2).2.1 → Q none N) : wc (kcs L xs) (d + 9) 32 [jR 0, jI 2] M Q := by
  refine ca_long ⟨by omega, by omega⟩ lg_1.2.1 (s44 ⟨⟨by omega, by omega⟩, fun h => by omega, fun _ => ?_, fun h => by omega, fun h => by omega, fun h => by omega, fun _ h => absurd rfl h⟩)
  refine tSd (d := d + 2) hS (fun N n1 n2 n3 n4 n5 => s44_76 (tK (d := d + 2) n1 (fun O o1 o2 o3 o4 o5 o6 => s44_83 (s32_351 ?_))))
  have gN : aG M N := fun b j b1 b2 b3 => n5 b j (by omega)
  have gO : aG N O := fun b j b1 b2 b3 => o6 b j (by omega)
  have eN := aG_2 gN
  rw [eN.1, eN.2.1, n2, n3] at o2 o3 o4 o5
  exact K O o1 (aG_tr gN gO) o2 o3 (by rw [o6 7 10 (by omega)]; exact n4) o4 o5
theorem tTk (hS : sq M) (K : ∀ N, sq N → N = rd M 7 (rT (M 2) (M 7 2) 32 (M 7 1) (M 7 3)).1 (rT (M 2) (M 7 2) 32 (M 7 1) (M 7 3)).2 → Q none N) : wc (kcs L xs) (d + 1) 34 [jR 7, jI 32] M Q := by
  have hp := sq_p hS
  have hb := rT_b (g := M 2) (e := M 7 2) (c := 32) (p := M 7 1) (w := M 7 3) hp.1
  exact sp_take fx_scn7 hS ⟨by omega, by omega⟩ (K _ (sc_at_rd fx_scn7 hS (by omega) (by omega)) rfl)
/-- load: the text goes into the spare puzzle -/
theorem ca_load {Y : PZ} (hS : sq M) (h4 : M 7 4 = 1000001) (hY : cz M 20 Y) (hYo : pz_ok Y) (K : ∀ N, sq N → aF M N → N 7 1 = (rText (M 2) (M 7 2) (rT (M 2) (M 7 2) 32 (M 7 1) (M 7 3)).1 (rT (M 2) (M 7 2) 32 (M 7 1) (M 7 3)).2 0 Y).1 → N 7 3 = (rText (M 2) (M 7 2) (rT (M 2) (M 7 2) 32 (M 7 1) (M 7 3)).1 (rT (M 2) (M 7 2) 32 (M 7 1) (M 7 3)).2 0 Y).2.1 → 0 ≤ N 7 4 → rfa (N 7 4).toNat (rText (M 2) (M 7 2) (rT (M 2) (M 7 2) 32 (M 7 1) (M 7 3)).1 (rT (M 2) (M 7 2) 32 (M 7 1) (M 7 3)).2 0 Y).2.2.1 → cz N 20 (rText (M 2) (M 7 2) (rT (M 2) (M 7 2) 32 (M 7 1) (M 7 3)).1 (rT (M 2) (M 7 2) 32 (M 7 1) (M 7 3)).2 0 Y).2.2.2 → pz_ok (rText (M 2) (M 7 2) (rT (M 2) (M 7 2) 32 (M 7 1) (M 7 3)).1 (rT (M 2) (M 7 2) 32 (M 7 1) (M 7 3)).2 0 Y).2.2.2 → Q none N) : wc (kcs L xs) (d + 9) 32 [jR 0, jI 6] M Q := by
  refine ca_long ⟨by omega, by omega⟩ lg_1.2.2.1 (s44 ⟨⟨by omega, by omega⟩, fun h => by omega, fun h => by omega, fun _ => ?_, fun h => by omega, fun h => by omega, fun _ _ h => absurd rfl h⟩)
  refine tTk (d := d + 6) hS (fun N n1 n2 => s44_95 ?_)
  have f : ∀ b j, ¬ (b = 7 ∧ (j = 1 ∨ j = 3)) → N b j = M b j := fun b j h => by rw [n2, rd_ne h]
  have hst : tx_st N 7 20 2 5606 0 Y := by
    refine ⟨n1, ?_, ?_, cz_fr hY (fun b j b1 b2 => f b j (by omega)), hYo⟩
    · rw [f 7 4 (by omega), h4]
      omega
    · rw [f 7 4 (by omega), h4]
      exact Or.inl ⟨rfl, Or.inr rfl⟩
  have e2 : N 2 = M 2 := funext (fun j => f 2 j (by omega))
  have e72 : N 7 2 = M 7 2 := f 7 2 (by omega)
  have e1 : N 7 1 = (rT (M 2) (M 7 2) 32 (M 7 1) (M 7 3)).1 := by rw [n2, rd_1]
  have e3 : N 7 3 = (rT (M 2) (M 7 2) 32 (M 7 1) (M 7 3)).2 := by rw [n2, rd_3]
  refine sp_textS (d := d + 1) fx_scn7 puz20 (by decide) (by decide) hst (fun O o1 o2 o3 o4 => s44_106 (s32_351 ?_))
  rw [e2, e72, e1, e3] at o1 o2 o3
  obtain ⟨q1, q2, q3, q4, q5⟩ := o1
  exact K O q1 (fun b j b1 b2 b3 b4 b5 => by rw [o4.1 b j b1 b3 b4, f b j (by omega)]) o2 o3 q2 q3 q4 q5
end RQE
