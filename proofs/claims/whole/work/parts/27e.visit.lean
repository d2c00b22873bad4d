/-! A node of the class's tree and all behind it; prove and grade. -/
section CVS
variable {L : Nat} {xs : Nat → Int32} {d : Nat} {Q : Option fx_V → fx_M → Prop} {Z : PZ}
/-- the symbols of the cell of choice -/
theorem vs_loop (ho : pz_ok Z) {w : Int} (hw : 0 ≤ w ∧ w ≤ 1) {k : Nat} (IH : vsS L xs Z w k) {G : Nat → Nat} {ch : List (Int × Nat)} {cc : Nat} {v : Int} (hG : s_ok Z G) (hnb : ¬ brk Z G) (hv : sta v G) (hop : opC G (Z.1 * Z.2.1).toNat < k + 1) (hch : ch.length + (k + 1) = 10) (hcc : (cc : Int) < Z.1 * Z.2.1) (hc2 : 1 < pop4 (G cc)) {M0 : fx_M} (hO0 : o_ok M0 3) {NT DT : Nat} {TT : List Int} {tk : Int}
  (KA : NT ≤ 100 → (w = 1 → M0 3 1 + TT.length ≤ 3000) → DT ≤ 9 → ∀ M', fVs ch.length M0 M' → M' 31 9 = (NT : Nat) → M' 31 10 = (DT : Nat) → M' 31 11 = 0 → cout M0 M' (if w = 1 then TT else []) → (ch.length = 0 → M' 31 8 = tk) → Q none M')
  (KB : ¬ (NT ≤ 100 ∧ (w = 1 → M0 3 1 + TT.length ≤ 3000)) → ∀ M', fVs ch.length M0 M' → o_ok M' 3 → M' 31 11 = 1 → (w = 0 → cout M0 M' []) → Q none M') : ∀ (t y : Nat) (M : fx_M) (n1 d1 : Nat) (tx : List Int), y + t = 4 → fVs ch.length M0 M → ckn M 11 Z → cchs M ch → M 31 2 = w → M 31 9 = n1 → n1 ≤ 100 → M 31 10 = d1 → d1 ≤ 9 → ch.length ≤ d1 → M 31 11 = 0 → cout M0 M (if w = 1 then tx else []) → (ch.length = 0 → M 31 8 = tk) → n1 + (vks (fun y => vis Z k (s_only G cc y) (ch ++ [((cc : Int), y)])) (G cc) t).1 = NT → max d1 (vks (fun y => vis Z k (s_only G cc y) (ch ++ [((cc : Int), y)])) (G cc) t).2.1 = DT → tx ++ (vks (fun y => vis Z k (s_only G cc y) (ch ++ [((cc : Int), y)])) (G cc) t).2.2 ++ tDone ch = TT → wp (kcs L xs) (d + (k + 1) + 6) 108 89 [some (jR 31), none, none, some (jI (ch.length : Nat)), some (jL v), none, some (jI cc), some (jI y)] [] M Q := by
  have h9 := pz_n ho
  have hlen8 : ch.length ≤ 8 := by
    have := opC_pos hc2 (Z.1 * Z.2.1).toNat (by omega)
    omega
  have h16 := s_ok_16 ho hG (c := cc) (by omega)
  intro t
  induction t with
  | zero =>
    intro y M n1 d1 tx hy hf hc hcs h2 h9' hn1 h10 hd1 hdc h11 ho1 h8 hNT hDT hTT
    simp only [vks, Nat.add_zero, Nat.max_zero, List.append_nil] at hNT hDT hTT
    have hend := vs_end (kc := kcs L xs) (d := d + k + 4) (Q := Q) (M0 := M0) (M := M) (ch := ch) (w := w) (l := M0 3 1) (TT := TT) (ds := tx) hw (by omega) rfl hO0 ho1 hTT h2 (Or.inl h11) hcs (fun _ hfit M' a1 a2 a3 a4 => KA (by omega) hfit (by omega) M' (fVs_tr hf a1) (by rw [a2 _ _ (by omega) (by omega) (by decide), h9']; omega) (by rw [a2 _ _ (by omega) (by omega) (by decide), h10]; omega) a3 a4 (fun h => by rw [a2 _ _ (by omega) (by omega) (by decide)]; exact h8 h)) (fun hor M' a1 a2 a3 a5 => KB (fun hfit => by
      rcases hor with h | ⟨h, h'⟩
      · omega
      · have := hfit.2 h
        omega) M' (fVs_tr hf a1) a2 a3 a5)
    rw [← h2] at hend
    refine s108_89 ⟨⟨by omega, by omega⟩, fun _ => ⟨by rw [h2]; exact ⟨by omega, by omega⟩, hend.1, fun h => ?_⟩, fun h => by omega⟩
    exact hend.2 h
  | succ t ih =>
    intro y M n1 d1 tx hy hf hc hcs h2 h9' hn1 h10 hd1 hdc h11 ho1 h8 hNT hDT hTT
    have hb := sm_bit ⟨G cc, h16⟩ ⟨y, by omega⟩
    simp only at hb
    refine s108_89 ⟨⟨by omega, by omega⟩, fun h => by omega, fun _ => ⟨by rw [h11]; exact ⟨by omega, by omega⟩, fun h => absurd h11 h, fun _ => sp_may hv ⟨by omega, by omega⟩ (by rw [Int.toNat_natCast]; exact h16) (s108_109 ?_)⟩⟩
    rw [Int.toNat_natCast, hb]
    by_cases hbt : (G cc).testBit y = true
    · rw [if_pos hbt]
      have hysym : (y : Int) < Z.2.2.1 := by
        have := bit_lt ((hG cc (by omega)).1 hcc) hbt
        have h1 := ho.2.2.2.2.1
        omega
      rw [vks, show 3 - t = y by omega, if_pos hbt] at hNT hDT hTT
      simp only at hNT hDT hTT
      refine ⟨⟨by omega, by omega⟩, fun h => by omega, fun _ => ⟨⟨by omega, by omega⟩, ⟨by omega, by omega⟩, sp_only hv ⟨by omega, by omega⟩ ⟨by omega, by omega⟩ (fun u hu => s108_143 ?_)⟩⟩
      rw [Int.toNat_natCast, Int.toNat_natCast] at hu
      have fu : ∀ b j, ¬ (32 ≤ b ∧ b ≤ 33 ∧ j = (ch.length : Int)) → (fx_up (fx_up M 32 ((ch.length : Nat) : Int) (cc : Int)) 33 ((ch.length : Nat) : Int) (y : Int)) b j = M b j := fun b j hb => by rw [fx_up_ne (by omega), fx_up_ne (by omega)]
      have hlen1 : (ch ++ [((cc : Int), y)]).length = ch.length + 1 := by simp
      have hG1 := s_only_ok hG hcc hysym
      have hnb1 : ¬ brk Z (s_only G cc y) := fun h => by
        obtain ⟨x, hx1, hx2⟩ := brk_iff.mp h
        unfold s_only at hx2
        split at hx2
        · have : 0 < 2 ^ y := Nat.pow_pos (by decide)
          omega
        · exact hnb (brk_iff.mpr ⟨x, hx1, hx2⟩)
      have hopo := opC_only (S := G) (c := cc) (y := y) (by omega) hc2 (Z.1 * Z.2.1).toNat
      rw [if_pos (by omega)] at hopo
      have o1 := cout_0 (cout_tr ho1 (cout_fr (N := fx_up (fx_up M 32 ((ch.length : Nat) : Int) (cc : Int)) 33 ((ch.length : Nat) : Int) (y : Int)) ho1.ok (fu _ _ (by omega)) (fun j => fu _ _ (by omega))))
      have f1 : fVs ch.length M0 (fx_up (fx_up M 32 ((ch.length : Nat) : Int) (cc : Int)) 33 ((ch.length : Nat) : Int) (y : Int)) := fVs_tr hf (fun b j b1 b2 b3 b4 => fu b j (by omega))
      have nx := IH d (fun v1 M1 => wp (kcs L xs) (d + (k + 1) + 6) 108 149 [some (jR 31), none, none, some (jI (ch.length : Nat)), some (jL v), none, some (jI cc), some (jI y)] (v1.toList ++ []) M1 Q) (s_only G cc y) (ch ++ [((cc : Int), y)]) u _ n1 d1 (by omega) (by rw [hlen1]; omega) hG1 hnb1 hu (ckn_fr hc (fun b j h1 h2 => fu b j (by omega))) o1.ok (by rw [fu _ _ (by omega)]; exact h2) (by rw [fu _ _ (by omega)]; exact h9') hn1 (by rw [fu _ _ (by omega)]; exact h10) hd1 (by rw [fu _ _ (by omega)]; exact h11) (fun i q hq => by
        by_cases e : i < ch.length
        · rw [List.getElem?_append_left e] at hq
          rw [fu _ _ (by omega), fu _ _ (by omega)]
          exact hcs i q hq
        · have hi : i < (ch ++ [((cc : Int), y)]).length := (List.getElem?_eq_some_iff.mp hq).1
          have e : i = ch.length := by omega
          subst e
          rw [List.getElem?_append_right (Nat.le_refl _), Nat.sub_self] at hq
          cases hq
          exact ⟨by rw [fx_up_na (by decide), fx_up_self], by rw [fx_up_self], by show (0 : Int) ≤ (cc : Int); omega, by show (cc : Int) < 9; omega, by show y < 4; omega⟩) (fun hfit M3 g1 g2 g3 g4 g5 g6 g7 => s108_149 ?_) (fun hnf M3 g1 g2 g3 g0 => s108_149 ?_)
      · rw [hlen1, show ((ch.length + 1 : Nat) : Int) = ((ch.length : Nat) : Int) + 1 by omega] at nx
        exact nx
      · rw [hlen1] at g1
        have hn100 : n1 + (vis Z k (s_only G cc y) (ch ++ [((cc : Int), y)])).1 ≤ 100 := hfit.1
        have f3 : fVs ch.length M0 M3 := fVs_tr f1 (fVs_up (by omega) g1)
        have o3 := cout_tr o1 g6
        have nx2 := ih (y + 1) M3 (n1 + (vis Z k (s_only G cc y) (ch ++ [((cc : Int), y)])).1) (max d1 (vis Z k (s_only G cc y) (ch ++ [((cc : Int), y)])).2.1) (tx ++ (vis Z k (s_only G cc y) (ch ++ [((cc : Int), y)])).2.2) (by omega) f3 (ckn_Vs (ckn_fr hc (fun b j h1 h2 => fu b j (by omega))) g1) (fun i q hq => by
          have hi : i < ch.length := (List.getElem?_eq_some_iff.mp hq).1
          rw [g1 _ _ (by omega) (by omega) (by omega) (by decide), g1 _ _ (by omega) (by omega) (by omega) (by decide), fu _ _ (by omega), fu _ _ (by omega)]
          exact hcs i q hq) (by rw [g1 _ _ (by omega) (by omega) (by omega) (by decide), fu _ _ (by omega)]; exact h2) g2 hn100 g3 (by omega) (by omega) g5 (by
          by_cases w1 : w = 1
          · rw [if_pos w1, if_pos w1] at o3
            rw [if_pos w1]
            exact o3
          · rw [if_neg w1, if_neg w1] at o3
            rw [if_neg w1]
            exact o3) (fun h => by rw [g1 _ _ (by omega) (by omega) (by omega) (by decide), fu _ _ (by omega)]; exact h8 h) (by omega) (by omega) (by rw [← hTT]; simp only [List.append_assoc])
        rw [show ((y + 1 : Nat) : Int) = (y : Int) + 1 by omega] at nx2
        exact nx2
      · -- long behind: the loop ends
        rw [hlen1] at g1
        have f3 : fVs ch.length M0 M3 := fVs_tr f1 (fVs_up (by omega) g1)
        have e2 : M3 31 2 = w := by rw [g1 _ _ (by omega) (by omega) (by omega) (by decide), fu _ _ (by omega)]; exact h2
        have hnfit : ¬ (NT ≤ 100 ∧ (w = 1 → M0 3 1 + TT.length ≤ 3000)) := fun hfit => hnf ⟨by omega, fun w1 => by
          have h1 := hfit.2 w1
          rw [if_pos w1] at ho1
          rw [← hTT] at h1
          simp only [List.length_append] at h1
          have e3 := (ho1.ex (by omega)).1
          rw [o_app_l3 (by omega)] at e3
          rw [fu 3 1 (by omega), e3]
          omega⟩
        have hcs3 : cchs M3 ch := fun i q hq => by
          have hi : i < ch.length := (List.getElem?_eq_some_iff.mp hq).1
          rw [g1 _ _ (by omega) (by omega) (by omega) (by decide), g1 _ _ (by omega) (by omega) (by omega) (by decide), fu _ _ (by omega), fu _ _ (by omega)]
          exact hcs i q hq
        have g00 : w = 0 → cout M0 M3 [] := fun w0 => by
          have := cout_tr o1 (g0 w0)
          rw [if_neg (by omega)] at this
          exact this
        -- the texts no longer matter
        have hend : ((w = 0 → Q none M3) ∧ (w ≠ 0 → wc (kcs L xs) (d + k + 6) 118 [jR 31, jI (ch.length : Nat)] M3 (fun u M1 => wp (kcs L xs) (d + (k + 1) + 6) 108 191 [some (jR 31), none, none, none, none, none, none, none] (u.toList ++ []) M1 Q))) := by
          refine ⟨fun _ => KB hnfit M3 f3 g2 g3 g00, fun wn => sp_writeChoices (d := d + k + 4) hcs3 (by omega) g2 (fun M4 o4 f4 => s108_191 ?_)⟩
          have e11 : M4 31 11 = 1 := by rw [f4 _ _ (by omega) (by decide)]; exact g3
          rw [e11, if_neg (by decide)]
          refine ⟨⟨by omega, by omega⟩, fun h0 => by omega, by omega, KB hnfit _ (fVs_tr f3 (fun b j b1 b2 b3 b4 => by rw [fx_up_ne (by omega)]; exact f4 b j b3 b4)) ?_ (by rw [fx_up_self]) (fun w0 => absurd w0 wn)⟩
          have := o4.ok
          unfold o_ok at this ⊢
          rw [fx_up_na (by decide)]
          exact this
        rw [← e2] at hend
        by_cases hy3 : y + 1 = 4
        · refine s108_89 ⟨⟨by omega, by omega⟩, fun _ => ⟨by rw [e2]; exact ⟨by omega, by omega⟩, hend.1, hend.2⟩, fun h => by omega⟩
        · refine s108_89 ⟨⟨by omega, by omega⟩, fun h => by omega, fun _ => ⟨by rw [g3]; exact ⟨by omega, by omega⟩, fun _ => ⟨by rw [e2]; exact ⟨by omega, by omega⟩, hend.1, hend.2⟩, fun h => by omega⟩⟩
    · rw [if_neg hbt]
      rw [vks, show 3 - t = y by omega, if_neg hbt] at hNT hDT hTT
      refine ⟨⟨by omega, by omega⟩, fun _ => ?_, fun h => absurd rfl h⟩
      have nx := ih (y + 1) M n1 d1 tx (by omega) hf hc hcs h2 h9' hn1 h10 hd1 hdc h11 ho1 h8 hNT hDT hTT
      rw [show ((y + 1 : Nat) : Int) = (y : Int) + 1 by omega] at nx
      exact nx
theorem vs_all (ho : pz_ok Z) {w : Int} (hw : 0 ≤ w ∧ w ≤ 1) : ∀ k, vsS L xs Z w k := by
  have h9 := pz_n ho
  intro k
  induction k with
  | zero =>
    intro d Q S ch v M n0 d0 hop
    omega
  | succ k ih =>
    intro d Q S ch v M n0 d0 hop hch hs hnb hv hc hO h2 h9' hn0 h10 hd0 h11 hcs KA KB
    have hN1 : 1 ≤ (vis Z (k + 1) S ch).1 := by
      rw [vis]
      split <;> simp only <;> omega
    have hopG : opC (gOn Z 37 S).1 (Z.1 * Z.2.1).toNat ≤ opC S (Z.1 * Z.2.1).toNat := opC_mono _ (fun c _ => (gOn_le 37 S c).2)
    refine s108 ?_
    rw [h9', h10]
    refine ⟨⟨by omega, by omega⟩, fun hgt => ?_, fun hle => ⟨⟨by omega, by omega⟩, fun _ => ⟨⟨⟨by omega, by omega⟩, ⟨by omega, by omega⟩⟩, ?_⟩, fun h => by omega⟩⟩
    · refine KB (fun hfit => by have := hfit.1; omega) _ (fun b j b1 b2 b3 b4 => by rw [fx_up_ne (by omega), fx_up_ne (by omega)]) ?_ (by rw [fx_up_self]) (fun _ => cout_fr hO (by rw [fx_up_na (by decide), fx_up_na (by decide)]) (fun j => by rw [fx_up_na (by decide), fx_up_na (by decide)]))
      unfold o_ok at hO ⊢
      rw [fx_up_na (by decide), fx_up_na (by decide)]
      exact hO
    have em : (if (d0 : Int) < ((ch.length : Nat) : Int) then ((ch.length : Nat) : Int) else (d0 : Int)) = ((max d0 ch.length : Nat) : Int) := by
      split <;> omega
    rw [em]
    have fu : ∀ b j, ¬ (b = 31 ∧ (j = 9 ∨ j = 10)) → (fx_up (fx_up M 31 9 ((n0 : Int) + 1)) 31 10 ((max d0 ch.length : Nat) : Int)) b j = M b j := fun b j hb => by rw [fx_up_ne (by omega), fx_up_ne (by omega)]
    have o0 : cout M (fx_up (fx_up M 31 9 ((n0 : Int) + 1)) 31 10 ((max d0 ch.length : Nat) : Int)) [] := cout_fr hO (fu _ _ (by omega)) (fun j => fu _ _ (by omega))
    refine sp_goOn (d := d + k + 2) ho hw hnb hs hv (ckn_fr hc (fun b j h1 h2 => fu b j (by omega))) (by rw [fu _ _ (by omega)]; exact h2) o0.ok (fun M1 v1 f1 hv1 hs1 e7 o1 => s108_48 ?_)
    have o01 := cout_tr o0 o1
    rw [List.nil_append] at o01
    have c1 : ckn M1 11 Z := ckn_fr hc (fun b j h1 h2 => by rw [f1 b j (by omega) (by omega) (by omega)]; exact fu b j (by omega))
    have e9 : M1 31 9 = (n0 : Int) + 1 := by rw [f1 _ _ (by omega) (by omega) (by decide), fx_up_nk (by decide), fx_up_self]
    have e10 : M1 31 10 = ((max d0 ch.length : Nat) : Int) := by rw [f1 _ _ (by omega) (by omega) (by decide), fx_up_self]
    have e11 : M1 31 11 = 0 := by rw [f1 _ _ (by omega) (by omega) (by decide), fu _ _ (by omega)]; exact h11
    have e2 : M1 31 2 = w := by rw [f1 _ _ (by omega) (by omega) (by decide), fu _ _ (by omega)]; exact h2
    have f01 : fVs ch.length M M1 := fun b j b1 b2 b3 b4 => by rw [f1 b j (by omega) b3 b4, fu b j (by omega)]
    have cs1 : cchs M1 ch := fun i q hq => by
      rw [f1 _ _ (by omega) (by omega) (by decide), f1 _ _ (by omega) (by omega) (by decide), fu _ _ (by omega), fu _ _ (by omega)]
      exact hcs i q hq
    -- the same from a memory where takenFirst may have been set
    have main : ∀ M2, fVs ch.length M M2 → (∀ b j, ¬ (b = 31 ∧ j = 8) → M2 b j = M1 b j) → (ch.length = 0 → M2 31 8 = ((gOn Z 37 S).2.1 : Nat)) → wc (kcs L xs) (d + (k + 1) + 5) 114 [jL v1] M2 (fun u M1 => wp (kcs L xs) (d + (k + 1) + 6) 108 67 [some (jR 31), none, none, some (jI (ch.length : Nat)), some (jL v1), none, none, none] (u.toList ++ []) M1 Q) := fun M2 f2 g2 t2 => by
      have c2 : ckn M2 11 Z := ckn_fr c1 (fun b j h1 h2 => g2 b j (by omega))
      have b2 : M2 31 2 = w := by rw [g2 _ _ (by omega)]; exact e2
      have b9 : M2 31 9 = (n0 : Int) + 1 := by rw [g2 _ _ (by omega)]; exact e9
      have b10 : M2 31 10 = ((max d0 ch.length : Nat) : Int) := by rw [g2 _ _ (by omega)]; exact e10
      have b11 : M2 31 11 = 0 := by rw [g2 _ _ (by omega)]; exact e11
      have cs2 : cchs M2 ch := fun i q hq => by rw [g2 _ _ (by omega), g2 _ _ (by omega)]; exact cs1 i q hq
      have o2 := cout_0 (cout_tr o01 (cout_fr (N := M2) o01.ok (g2 _ _ (by omega)) (fun j => g2 _ _ (by omega))))
      -- the end of a node without choice
      have fin : ∀ M3 ds TT, (brk Z (gOn Z 37 S).1 ∨ cCh Z (gOn Z 37 S).1 < 0) → fOu M2 M3 → cout M M3 (if w = 1 then ds else []) → ds ++ tDone ch = TT → vis Z (k + 1) S ch = (1, ch.length, TT) → ((w = 0 → Q none M3) ∧ (w ≠ 0 → wc (kcs L xs) (d + k + 6) 118 [jR 31, jI (ch.length : Nat)] M3 (fun u M1 => wp (kcs L xs) (d + (k + 1) + 6) 108 191 [some (jR 31), none, none, none, none, none, none, none] (u.toList ++ []) M1 Q))) := fun M3 ds TT _ f3 o3 hT ev => by
        rw [ev] at KA KB
        refine vs_end (kc := kcs L xs) (d := d + k + 4) (M0 := M) (l := M 3 1) (TT := TT) (ds := ds) hw (by omega) rfl hO o3 hT (by rw [f3 _ _ (by omega) (by decide)]; exact b2) (Or.inl (by rw [f3 _ _ (by omega) (by decide)]; exact b11)) (fun i q hq => by rw [f3 _ _ (by omega) (by decide), f3 _ _ (by omega) (by decide)]; exact cs2 i q hq) (fun _ hfit M' a1 a2 a3 a4 => ?_) (fun hor M' a1 a2 a3 a5 => ?_)
        · refine KA ⟨by show n0 + 1 ≤ 100; omega, hfit⟩ M' (fVs_tr f2 (fVs_tr (fVs_Ou f3) a1)) ?_ ?_ (by show ch.length ≤ 9; omega) a3 a4 (fun h => ?_)
          · rw [a2 _ _ (by omega) (by omega) (by decide), f3 _ _ (by omega) (by decide), b9]
            show (n0 : Int) + 1 = ((n0 + 1 : Nat) : Int)
            omega
          · rw [a2 _ _ (by omega) (by omega) (by decide), f3 _ _ (by omega) (by decide), b10]
          · rw [a2 _ _ (by omega) (by omega) (by decide), f3 _ _ (by omega) (by decide)]
            exact t2 h
        · refine KB (fun hfit => ?_) M' (fVs_tr f2 (fVs_tr (fVs_Ou f3) a1)) a2 a3 a5
          rcases hor with h | ⟨h, h'⟩
          · rw [f3 _ _ (by omega) (by decide)] at h
            omega
          · have : M 3 1 + (TT.length : Int) ≤ 3000 := hfit.2 h
            omega
      have win : fx_in32 w := ⟨by omega, by omega⟩
      refine sp_isBroken ho hs1 hv1 (s108_67 ?_)
      by_cases hb : brk Z (gOn Z 37 S).1
      · rw [if_pos hb, b2]
        have ev : vis Z (k + 1) S ch = (1, ch.length, (gOn Z 37 S).2.2 ++ tDone ch) := by
          rw [vis, if_pos (Or.inl hb), if_pos hb, List.append_nil]
        have hend := fin M2 (gOn Z 37 S).2.2 _ (Or.inl hb) fOu_rf o2 rfl ev
        refine ⟨⟨by omega, by omega⟩, fun _ => ⟨win, fun w0 => ⟨win, fun _ => hend.1 w0, fun h => absurd w0 h⟩, fun wn => sp_isBroken ho hs1 hv1 (s108_170 ?_)⟩, fun h => by omega⟩
        rw [if_pos hb, b2]
        exact ⟨⟨by omega, by omega⟩, fun _ => ⟨win, fun w0 => absurd w0 wn, fun _ => hend.2 wn⟩, fun h => by omega⟩
      · rw [if_neg hb]
        refine ⟨⟨by omega, by omega⟩, fun h => absurd rfl h, fun _ => sp_isFillingL ho hs1 hb hv1 (s108_75 ?_)⟩
        by_cases hfl : cCh Z (gOn Z 37 S).1 < 0
        · rw [if_pos hfl, b2]
          have ev : vis Z (k + 1) S ch = (1, ch.length, (gOn Z 37 S).2.2 ++ tLeaf Z (gOn Z 37 S).1 ++ tDone ch) := by
            rw [vis, if_pos (Or.inr hfl), if_neg hb]
          refine ⟨⟨by omega, by omega⟩, fun _ => ⟨win, fun w0 => ⟨win, fun _ => ?_, fun h => absurd w0 h⟩, fun wn => sp_isBroken ho hs1 hv1 (s108_170 ?_)⟩, fun h => by omega⟩
          · refine (fin M2 ((gOn Z 37 S).2.2 ++ tLeaf Z (gOn Z 37 S).1) _ (Or.inr hfl) fOu_rf ?_ rfl ev).1 w0
            rw [if_neg (by omega)] at o2 ⊢
            exact o2
          · rw [if_neg hb]
            refine ⟨⟨by omega, by omega⟩, fun h => absurd rfl h, fun _ => sp_writeLeaf (d := d + k + 4) ho c2.1 hs1 hb hfl hv1 o2.ok (fun M3 o3 f3 => s108_179 ?_)⟩
            have e3 : M3 31 2 = w := by rw [f3 _ _ (by omega) (by decide)]; exact b2
            rw [e3]
            have w1 : w = 1 := by omega
            have o03 := cout_tr o2 o3
            rw [if_pos w1] at o03
            have hend := fin M3 ((gOn Z 37 S).2.2 ++ tLeaf Z (gOn Z 37 S).1) _ (Or.inr hfl) f3 (by rw [if_pos w1]; exact o03) rfl ev
            exact ⟨win, fun w0 => absurd w0 wn, fun _ => hend.2 wn⟩
        · rw [if_neg hfl]
          have hpos : 0 ≤ cCh Z (gOn Z 37 S).1 := by omega
          have hcb := cch_b (S := (gOn Z 37 S).1) (Z.1 * Z.2.1).toNat 0 (-1) (by omega) (by omega)
          have hcb2 : cCh Z (gOn Z 37 S).1 < ((0 + (Z.1 * Z.2.1).toNat : Nat) : Int) := hcb.2
          have hp2 : 1 < pop4 ((gOn Z 37 S).1 (cCh Z (gOn Z 37 S).1).toNat) := cch_pos (Z.1 * Z.2.1).toNat 0 (-1) (fun h => by omega) hpos
          refine ⟨⟨by omega, by omega⟩, fun h => absurd rfl h, fun _ => sp_cChoice (d := d + k + 4) ho c2.1 hs1 hv1 hpos (s108_84 ?_)⟩
          obtain ⟨cc, ecc⟩ : ∃ cc : Nat, cCh Z (gOn Z 37 S).1 = (cc : Int) := ⟨(cCh Z (gOn Z 37 S).1).toNat, by omega⟩
          rw [ecc, Int.toNat_natCast] at hp2
          have ev : vis Z (k + 1) S ch = (1 + (vks (fun y => vis Z k (s_only (gOn Z 37 S).1 cc y) (ch ++ [((cc : Int), y)])) ((gOn Z 37 S).1 cc) 4).1, max ch.length (vks (fun y => vis Z k (s_only (gOn Z 37 S).1 cc y) (ch ++ [((cc : Int), y)])) ((gOn Z 37 S).1 cc) 4).2.1, (gOn Z 37 S).2.2 ++ (vks (fun y => vis Z k (s_only (gOn Z 37 S).1 cc y) (ch ++ [((cc : Int), y)])) ((gOn Z 37 S).1 cc) 4).2.2 ++ tDone ch) := by
            rw [vis, if_neg (fun h => h.elim hb (fun h => by omega)), ecc, Int.toNat_natCast]
          rw [ev] at KA KB
          rw [ecc]
          refine vs_loop (d := d) ho hw ih hs1 hb hv1 (by omega) hch (by omega) hp2 (M0 := M) hO (tk := ((gOn Z 37 S).2.1 : Nat)) (NT := n0 + (1 + (vks (fun y => vis Z k (s_only (gOn Z 37 S).1 cc y) (ch ++ [((cc : Int), y)])) ((gOn Z 37 S).1 cc) 4).1)) (DT := max d0 (max ch.length (vks (fun y => vis Z k (s_only (gOn Z 37 S).1 cc y) (ch ++ [((cc : Int), y)])) ((gOn Z 37 S).1 cc) 4).2.1)) (TT := (gOn Z 37 S).2.2 ++ (vks (fun y => vis Z k (s_only (gOn Z 37 S).1 cc y) (ch ++ [((cc : Int), y)])) ((gOn Z 37 S).1 cc) 4).2.2 ++ tDone ch) (fun a1 a2 a3 M4 a4 a5 a6 a7 a8 a9 => KA ⟨a1, a2⟩ M4 a4 a5 a6 (by show max ch.length (vks (fun y => vis Z k (s_only (gOn Z 37 S).1 cc y) (ch ++ [((cc : Int), y)])) ((gOn Z 37 S).1 cc) 4).2.1 ≤ 9; omega) a7 a8 a9) (fun hn M4 a4 a5 a6 a7 => KB hn M4 a4 a5 a6 a7) 4 0 M2 (n0 + 1) (max d0 ch.length) (gOn Z 37 S).2.2 (by omega) f2 c2 cs2 b2 (by rw [b9]; omega) (by omega) b10 (by omega) (by omega) b11 o2 t2 (by omega) (by omega) rfl
    refine ⟨⟨by omega, by omega⟩, fun hne => main M1 f01 (fun _ _ _ => rfl) (fun h => by omega), fun h0 => ?_⟩
    refine main _ (fun b j b1 b2 b3 b4 => by rw [fx_up_ne (by omega)]; exact f01 b j b1 b2 b3 b4) (fun b j hb => fx_up_ne hb) (fun _ => ?_)
    rw [fx_up_self]
    exact e7
end CVS
