/-! The log and the new root page keep in bounds. -/
theorem wLog_in : ∀ {D : List (Int × Int)} {g : Int → Int}, bk_b g → lgv D → ∀ x ∈ wLog g D, 0 ≤ x.1 ∧ x.1 < 1024 ∧ 0 ≤ x.2 ∧ x.2 ≤ 255
  | [], _, _, _, x, h => by cases h
  | y :: D, g, hb, hD, x, h => by
    have hy := hD y (List.mem_cons_self ..)
    rw [wLog] at h
    rcases List.mem_cons.mp h with e | e
    · rw [e]
      have := hb y.1 hy.1 hy.2.1
      exact ⟨hy.1, hy.2.1, this.1, this.2⟩
    · exact wLog_in (bUp_b hb hy.2.2) (fun z hz => hD z (List.mem_cons_of_mem _ hz)) x e
theorem wLog_ok {D : List (Int × Int)} {g : Int → Int} (hb : bk_b g) (hD : lgv D) (hl : D.length ≤ 1024) : lg_ok (wLog g D) := ⟨by rw [wLog_len]; exact hl, wLog_in hb hD⟩
theorem rtB_v {g : Int → Int} (hb : bk_b g) (h15 : g (bRt g) ≤ 15) {o c m : Int} (ho : -1 ≤ o ∧ o < g (bRt g)) (hc : 0 ≤ c ∧ c ≤ 255) (hm : 0 ≤ m ∧ m ≤ 255) (ha : aft (g (bRt g)) o m ≤ 15) : ∀ v ∈ rtB g o c m, 0 ≤ v ∧ v ≤ 255 := by
  have hr := bRt_b (g := g)
  have h0 := hb (bRt g) (by omega) (by omega)
  have ha0 := aft_b (m := m) h0.1 ho
  have hpv := prs_v hb (o := o) (g (bRt g)).toNat (by omega)
  intro v hv
  unfold rtB at hv
  rcases List.mem_append.mp hv with e | e
  · rcases List.mem_append.mp e with e | e
    · rcases List.mem_cons.mp e with e | e
      · rw [e]
        omega
      · rcases List.mem_append.mp e with e | e
        · exact hpv v e
        · unfold nwp at e
          split at e
          · rcases List.mem_cons.mp e with e | e
            · rw [e]
              exact hc
            · rw [List.mem_singleton.mp e]
              exact hm
          · cases e
    · rw [(List.mem_replicate.mp e).2]
      omega
  · rw [List.mem_singleton.mp e]
    omega
theorem rtD_ok {g : Int → Int} (hb : bk_b g) (h15 : g (bRt g) ≤ 15) {o c m : Int} (ho : -1 ≤ o ∧ o < g (bRt g)) (hc : 0 ≤ c ∧ c ≤ 255) (hm : 0 ≤ m ∧ m ≤ 255) (ha : aft (g (bRt g)) o m ≤ 15) : lgv (rtD g o c m) := fun x hx => by
  have hr := bRt_b (g := g)
  have h0 := hb (bRt g) (by omega) (by omega)
  have h32 := rtB_len (prs_30 h0.1 ho ha c)
  unfold rtD at hx
  rcases List.mem_append.mp hx with e | e
  · have h1 := plc_in e
    have h2 := rtB_v hb h15 ho hc hm ha _ h1.2.2
    omega
  · rw [List.mem_singleton.mp e]
    dsimp only
    omega
