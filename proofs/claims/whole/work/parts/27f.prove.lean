/-! prove and grade of the class. -/
/-- the class's answer is cs -/
def ctx (M : fx_M) (cs : List Int) : Prop := M 3 1 = cs.length ∧ ∀ i : Nat, i < cs.length → M 4 (i : Int) = cs.getD i 0
/-- nothing but what a request uses and leaves has changed, and the answer -/
def cfrq (M M' : fx_M) : Prop := ∀ b j, ¬ csc b → ¬ (b = 3 ∧ j = 1) → b ≠ 4 → M' b j = M b j
theorem cfrq_tr {M N O : fx_M} (h1 : cfrq M N) (h2 : cfrq N O) : cfrq M O := fun b j a1 a2 a3 => (h2 b j a1 a2 a3).trans (h1 b j a1 a2 a3)
theorem cfrq_rf {M : fx_M} : cfrq M M := fun _ _ _ _ _ => rfl
theorem cfrq_Ou {M N : fx_M} (h : fOu M N) : cfrq M N := fun b j _ h2 h3 => h b j h2 h3
theorem cfrq_wr {M N : fx_M} {cs : List Int} (h : cwr M N cs) : cfrq M N := fun b j h1 h2 h3 => by rw [h b j h1, o_app_n3 h2 h3]
theorem cfrq_Vs {dp : Nat} {M N : fx_M} (h : fVs dp M N) : cfrq M N := fun b j h1 h2 h3 => by
  unfold csc at h1
  exact h b j (by omega) (by omega) h2 h3
theorem ckn_rq {M N : fx_M} {Z : PZ} (hc : ckn M 11 Z) (h : cfrq M N) : ckn N 11 Z := ckn_fr hc (fun b j h1 h2 => h b j (by unfold csc; omega) (by omega) (by omega))
theorem ctx_out {M N : fx_M} {cs : List Int} (h0 : M 3 1 = 0) (hl : cs.length ≤ 5600) (h1 : N 3 1 = o_app M 3 cs 3 1) (h4 : ∀ j, N 4 j = o_app M 3 cs 4 j) : ctx N cs := by
  refine ⟨by rw [h1, o_app_l3 (by omega), h0]; omega, fun i hi => ?_⟩
  rw [h4]
  have := o_app_get (cs := cs) (M := M) (i := i) (by omega) hi
  rw [h0, show (0 : Int) + (i : Int) = i by omega] at this
  exact this
theorem ctx_wr {M N : fx_M} {cs : List Int} (h0 : M 3 1 = 0) (hl : cs.length ≤ 5600) (h : cwr M N cs) : ctx N cs := ctx_out h0 hl (h 3 1 csc_3) (fun j => h 4 j csc_4)
theorem ctx_cout {M N : fx_M} {cs : List Int} (h0 : M 3 1 = 0) (hl : cs.length ≤ 5600) (h : cout M N cs) : ctx N cs := ctx_out h0 hl (h.ex (by omega)).1 (h.ex (by omega)).2
section CPR
variable {L : Nat} {xs : Nat → Int32} {d : Nat} {Q : Option fx_V → fx_M → Prop} {Z : PZ}
theorem sp_startR {M : fx_M} {w : Int} (hw : 0 ≤ w ∧ w ≤ 1) (K : ∀ M', (∀ b j, ¬ (b = 31 ∧ (j = 2 ∨ (8 ≤ j ∧ j ≤ 11))) → M' b j = M b j) → M' 31 2 = w → M' 31 8 = 0 → M' 31 9 = 0 → M' 31 10 = 0 → M' 31 11 = 0 → Q none M') : wc (kcs L xs) (d + 1) 105 [jR 31, jI w] M Q := by
  refine s105 ⟨hw, K _ (fun b j hb => ?_) ?_ ?_ ?_ ?_ ?_⟩
  · rw [fx_up_ne (by omega), fx_up_ne (by omega), fx_up_ne (by omega), fx_up_ne (by omega), fx_up_ne (by omega)]
  · rw [fx_up_nk (by decide), fx_up_nk (by decide), fx_up_nk (by decide), fx_up_nk (by decide), fx_up_self]
  · rw [fx_up_nk (by decide), fx_up_self]
  · rw [fx_up_nk (by decide), fx_up_nk (by decide), fx_up_nk (by decide), fx_up_self]
  · rw [fx_up_nk (by decide), fx_up_nk (by decide), fx_up_self]
  · rw [fx_up_self]
theorem long_lit : ([108, 111, 110, 103] : List Int32).map Int32.toInt = tLong := by decide +kernel
theorem sp_clearLong {M : fx_M} (K : ∀ M', fOu M M' → ctx M' tLong → Q none M') : wc (kcs L xs) (d + 6) 63 [jR 3] M (fun u M1 => wp (kcs L xs) (d + 7) 119 27 [some (jR 31)] (u.toList ++ []) M1 Q) := by
  have e0 : (fx_up M 3 1 0) 3 1 = 0 := by rw [fx_up_self]
  have hO : o_ok (fx_up M 3 1 0) 3 := by
    unfold o_ok
    rw [e0]
    omega
  refine s63 out3 (s119_27 (sp_puts (d := d + 2) out3 lt_1000085 hO (s119_36 ?_)))
  rw [long_lit]
  exact K _ (fun b j h1 h2 => by rw [o_app_n3 h1 h2, fx_up_ne h1]) (ctx_cout e0 (by decide +kernel) (cout_app hO))
theorem s_first_nb (ho : pz_ok Z) : ¬ brk Z (s_first Z) := fun h => by
  obtain ⟨c, h1, h2⟩ := brk_iff.mp h
  exact s_first_ne ho c h1 h2
theorem sp_prove {M : fx_M} (ho : pz_ok Z) (hc : ckn M 11 Z) (h0 : M 3 1 = 0) (K : ∀ M', cfrq M M' → ctx M' (tProof Z) → Q none M') : wc (kcs L xs) (d + 17) 104 [jR 31] M Q := by
  have h9 := pz_n ho
  have hgl : (tGvs Z).length ≤ 72 := by
    rw [tGvs_r]
    have := tG_len (Z := Z) (Z.1 * Z.2.1).toNat 0 (by omega)
    omega
  unfold tProof at K
  have hO : o_ok M 3 := by
    unfold o_ok
    rw [h0]
    omega
  refine s104 (sp_startR ⟨by omega, by omega⟩ (fun M1 f1 e2 e8 e9 e10 e11 => s104_5 ?_))
  have c1 : ckn M1 11 Z := ckn_fr hc (fun b j h1 h2 => f1 b j (by omega))
  have h01 : M1 3 1 = 0 := by rw [f1 _ _ (by omega)]; exact h0
  have hO1 : o_ok M1 3 := by
    unfold o_ok
    rw [h01]
    omega
  have q1 : cfrq M M1 := fun b j h1 _ _ => f1 b j (by unfold csc at h1; omega)
  refine sp_writeGivens (d := d + 14) ho c1.1 hO1 (fun M2 o2 f2 => s104_9 ?_)
  have c2 := ckn_Ou c1 f2
  have e3 := (o2.ex (by omega)).1
  rw [o_app_l3 (by omega), h01] at e3
  refine sp_first puz11 c2.1 ho (fun v hv => s104_17 ?_)
  have hop : opC (s_first Z) (Z.1 * Z.2.1).toNat < 10 := by
    have := opC_le (S := s_first Z) (Z.1 * Z.2.1).toNat
    omega
  have nx := vs_all (L := L) (xs := xs) (Z := Z) (w := 1) ho ⟨by omega, by omega⟩ 10 d (fun u M1 => wp (kcs L xs) (d + 17) 104 21 [some (jR 31)] (u.toList ++ []) M1 Q) (s_first Z) [] v M2 0 0 hop rfl (s_first_ok ho) (s_first_nb ho) hv c2 o2.ok (by rw [f2 _ _ (by omega) (by decide)]; exact e2) (by rw [f2 _ _ (by omega) (by decide)]; exact e9) (by omega) (by rw [f2 _ _ (by omega) (by decide)]; exact e10) (by omega) (by rw [f2 _ _ (by omega) (by decide)]; exact e11) (fun i q hq => by simp at hq) (fun hfit M3 g1 g2 g3 g4 g5 g6 g7 => s104_21 (s119 ?_)) (fun hnf M3 g1 g2 g3 g0 => s104_21 (s119 ?_))
  · exact nx
  · have hV : vFit Z 1 := ⟨by have := hfit.1; rw [Nat.zero_add] at this; exact this, fun _ => by
      have := hfit.2 rfl
      rw [e3] at this
      have h2 : (0 : Int) + ((tGvs Z).length : Int) + ((vZ Z).2.2.length : Int) ≤ 3000 := this
      omega⟩
    have hle := hV.2 rfl
    rw [if_pos rfl] at g6
    have o3 := cout_tr o2 g6
    have et : tGvs Z ++ (vis Z 10 (s_first Z) []).2.2 = tGvs Z ++ (vZ Z).2.2 := rfl
    rw [et] at o3
    have ec := ctx_cout h01 (by rw [List.length_append]; omega) o3
    have e31 : M3 3 1 ≤ 3000 := by
      rw [ec.1, List.length_append]
      omega
    have e310 : 0 ≤ M3 3 1 := by
      rw [ec.1]
      omega
    rw [g5]
    refine ⟨⟨by omega, by omega⟩, fun h => absurd rfl h, fun _ => ⟨⟨by omega, by omega⟩, fun _ => s104_25 (K M3 (cfrq_tr q1 (cfrq_tr (cfrq_Ou f2) (cfrq_Vs g1))) ?_), fun h => by omega⟩⟩
    rw [if_pos hV]
    exact ec
  · have hV : ¬ vFit Z 1 := fun hV => hnf ⟨by rw [Nat.zero_add]; exact hV.1, fun _ => by
      have := hV.2 rfl
      rw [e3]
      show (0 : Int) + ((tGvs Z).length : Int) + ((vZ Z).2.2.length : Int) ≤ 3000
      omega⟩
    rw [g3]
    refine ⟨⟨by omega, by omega⟩, fun _ => sp_clearLong (d := d + 9) (fun M4 f4 t4 => s104_25 (K M4 (cfrq_tr q1 (cfrq_tr (cfrq_Ou f2) (cfrq_tr (cfrq_Vs g1) (cfrq_Ou f4)))) ?_)), fun h => by omega⟩
    rw [if_neg hV]
    exact t4
theorem sp_gradeC {M : fx_M} (ho : pz_ok Z) (hc : ckn M 11 Z) (h0 : M 3 1 = 0) (K : ∀ M', cfrq M M' → ctx M' (tGrade Z) → Q none M') : wc (kcs L xs) (d + 17) 134 [jR 31] M Q := by
  have h9 := pz_n ho
  unfold tGrade at K
  have hg := gOn_cnt (Z := Z) 37 (s_first Z)
  refine s134 (sp_startR ⟨by omega, by omega⟩ (fun M1 f1 e2 e8 e9 e10 e11 => s134_5 ?_))
  have c1 : ckn M1 11 Z := ckn_fr hc (fun b j h1 h2 => f1 b j (by omega))
  have h01 : M1 3 1 = 0 := by rw [f1 _ _ (by omega)]; exact h0
  have hO1 : o_ok M1 3 := by
    unfold o_ok
    rw [h01]
    omega
  have q1 : cfrq M M1 := fun b j h1 _ _ => f1 b j (by unfold csc at h1; omega)
  refine sp_first puz11 c1.1 ho (fun v hv => s134_13 ?_)
  have hop : opC (s_first Z) (Z.1 * Z.2.1).toNat < 10 := by
    have := opC_le (S := s_first Z) (Z.1 * Z.2.1).toNat
    omega
  have nx := vs_all (L := L) (xs := xs) (Z := Z) (w := 0) ho ⟨by omega, by omega⟩ 10 d (fun u M1 => wp (kcs L xs) (d + 17) 134 17 [some (jR 31)] (u.toList ++ []) M1 Q) (s_first Z) [] v M1 0 0 hop rfl (s_first_ok ho) (s_first_nb ho) hv c1 hO1 e2 e9 (by omega) e10 (by omega) e11 (fun i q hq => by simp at hq) (fun hfit M3 g1 g2 g3 g4 g5 g6 g7 => s134_17 ?_) (fun hnf M3 g1 g2 g3 g0 => s134_17 ?_)
  · exact nx
  · have hV : vFit Z 0 := ⟨by have := hfit.1; rw [Nat.zero_add] at this; exact this, fun h => by omega⟩
    rw [if_neg (by decide)] at g6
    have e3 := (g6.ex (by simp; omega)).1
    have e30 : M3 3 1 = 0 := by
      rw [e3]
      exact h01
    have g8 := g7 rfl
    rw [Nat.zero_add] at g2
    rw [Nat.zero_max] at g3
    have hN : (vis Z 10 (s_first Z) []).1 ≤ 100 := hV.1
    rw [g5, g8, g2, g3]
    refine ⟨⟨by omega, by omega⟩, fun _ => s135 (sp_number (d := d + 14) out3 g6.ok (by omega) (by omega) (s135_8 (sp_put out3 (o_ok_app g6.ok) ⟨by omega, by omega⟩ (s135_17 (sp_number (d := d + 14) out3 (o_ok_put (o_ok_app g6.ok)) (by omega) (by omega) (s135_25 (sp_put out3 (o_ok_app (o_ok_put (o_ok_app g6.ok))) ⟨by omega, by omega⟩ (s135_34 (sp_number (d := d + 14) out3 (o_ok_put (o_ok_app (o_ok_put (o_ok_app g6.ok)))) (by omega) (by omega) (s135_42 (s134_52 (K _ ?_ ?_)))))))))))), fun h => absurd rfl h⟩
    · have e : o_app (o_put (o_app (o_put (o_app M3 3 (dgs ((gOn Z 37 (s_first Z)).2.1 : Nat))) 3 32) 3 (dgs ((vis Z 10 (s_first Z) []).1 : Nat))) 3 32) 3 (dgs ((vis Z 10 (s_first Z) []).2.1 : Nat)) = o_app M3 3 (dgs ((gOn Z 37 (s_first Z)).2.1 : Nat) ++ (32 :: dgs ((vZ Z).1 : Nat)) ++ (32 :: dgs ((vZ Z).2.1 : Nat))) := by
        rw [← o_app_app, ← o_app_app]
        rfl
      rw [e]
      exact cfrq_tr q1 (cfrq_tr (cfrq_Vs g1) (cfrq_Ou fOu_app))
    · have e : o_app (o_put (o_app (o_put (o_app M3 3 (dgs ((gOn Z 37 (s_first Z)).2.1 : Nat))) 3 32) 3 (dgs ((vis Z 10 (s_first Z) []).1 : Nat))) 3 32) 3 (dgs ((vis Z 10 (s_first Z) []).2.1 : Nat)) = o_app M3 3 (dgs ((gOn Z 37 (s_first Z)).2.1 : Nat) ++ (32 :: dgs ((vZ Z).1 : Nat)) ++ (32 :: dgs ((vZ Z).2.1 : Nat))) := by
        rw [← o_app_app, ← o_app_app]
        rfl
      rw [e, if_pos hV]
      have d1 := dgs_len (v := ((gOn Z 37 (s_first Z)).2.1 : Nat))
      have d2 := dgs_len (v := ((vZ Z).1 : Nat))
      have d3 := dgs_len (v := ((vZ Z).2.1 : Nat))
      exact ctx_cout e30 (by simp only [List.length_append, List.length_cons]; omega) (cout_app g6.ok)
  · have hV : ¬ vFit Z 0 := fun hV => hnf ⟨by rw [Nat.zero_add]; exact hV.1, fun h => by omega⟩
    have o0 := g0 rfl
    have e3 := (o0.ex (by simp; omega)).1
    have e30 : M3 3 1 = 0 := by
      rw [e3]
      exact h01
    rw [g3]
    refine ⟨⟨by omega, by omega⟩, fun h => by omega, fun _ => sp_puts (d := d + 12) out3 lt_1000085 o0.ok (s134_33 (K _ (cfrq_tr q1 (cfrq_tr (cfrq_Vs g1) (cfrq_Ou fOu_app))) ?_))⟩
    rw [long_lit, if_neg hV]
    exact ctx_cout e30 (by decide +kernel) (cout_app o0.ok)
end CPR
