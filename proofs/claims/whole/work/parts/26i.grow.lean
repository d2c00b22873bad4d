/-! A node of the reference's tree and all behind it. -/
section MGN
variable {kc : List va_E} {d : Nat} {Q : Option fx_V → fx_M → Prop} {Z : PZ}
/-- how long the text is when nothing is long -/
theorem mlo_len {M M' : fx_M} {cs : List Int} (h : mlo M M' cs) (h0 : M 133 57 = 0) (h1 : M' 133 57 = 0) : M 133 5 + cs.length ≤ 3000 ∧ M' 133 5 = M 133 5 + cs.length := by
  have hle : M 133 5 + cs.length ≤ 3000 := by
    apply Classical.byContradiction
    intro hn
    have := h.ov h0 (by omega)
    omega
  have he := (h.ex h0 hle).1.1
  rw [m_app_len (by omega)] at he
  exact ⟨hle, he⟩
/-- what fits -/
def grF (p : Int) (n0 N : Nat) (l T : Int) : Prop := n0 + N ≤ 100 ∧ (p = 1 → l + T ≤ 3000)
/-- a node at its depth: what its whole subtree leaves -/
def grS (kc : List va_E) (d : Nat) (Q : Option fx_V → fx_M → Prop) (Z : PZ) (p : Int) (k : Nat) : Prop := ∀ (S : Nat → Nat) (ch : List (Int × Nat)) (M : fx_M) (n0 d0 : Nat) (C : Option fx_V → fx_M → Prop), opC S (Z.1 * Z.2.1).toNat < k → ch.length + k = 10 → sLt Z S → mz M 0 Z → mst' M Z S → M 133 56 = p → mli M → M 133 57 = 0 → M 133 58 = n0 → n0 ≤ 100 → M 133 60 = d0 → d0 ≤ 9 → mchs M ch → (∀ u M1, 0 ≤ u → u ≤ 1 → wp kc (d + 9) 384 51 [some (jR 133), none, some (jI (if u = 0 then (ch.length : Int) - 1 else (ch.length : Int))), none, none] [] M1 Q → C (some (jI u)) M1) → (grF p n0 (vis Z k S ch).1 (M 133 5) (vis Z k S ch).2.2.length → ∀ M', fAr ch.length M M' → M' 133 58 = (n0 + (vis Z k S ch).1 : Nat) → M' 133 60 = (max d0 (vis Z k S ch).2.1 : Nat) → (vis Z k S ch).2.1 ≤ 9 → mlo M M' (if p = 1 then (vis Z k S ch).2.2 else []) → M' 133 57 = 0 → (ch.length = 0 → M' 133 61 = M 133 59 + ((gOn Z 37 S).2.1 : Nat)) → wp kc (d + 9) 384 51 [some (jR 133), none, some (jI ((ch.length : Int) - 1)), none, none] [] M' Q) → (¬ grF p n0 (vis Z k S ch).1 (M 133 5) (vis Z k S ch).2.2.length → ∀ M', fAr ch.length M M' → m_ok M' → M' 133 57 = 1 → Q none M') → wc kc (d + 8) 386 [jR 133, jI (ch.length : Nat)] M C
/-- the symbols of a node's cell, one after another -/
theorem gr_loop (ho : pz_ok Z) {p : Int} (hp : 0 ≤ p ∧ p ≤ 1) {k : Nat} (IH : grS kc d Q Z p k) {G : Nat → Nat} {ch : List (Int × Nat)} {cc : Nat} (hG : sLt Z G) (hop : opC G (Z.1 * Z.2.1).toNat < k + 1) (hch : ch.length + (k + 1) = 10) (hcc : (cc : Int) < Z.1 * Z.2.1) (hc2 : 1 < pop4 (G cc)) {M0 : fx_M} (hl0 : mli M0) (h570 : M0 133 57 = 0) {NT DT : Nat} {TT : List Int} {tk : Int}
  (KA : NT ≤ 100 → (p = 1 → M0 133 5 + TT.length ≤ 3000) → DT ≤ 9 → ∀ M', fAr ch.length M0 M' → M' 133 58 = (NT : Nat) → M' 133 60 = (DT : Nat) → mlo M0 M' (if p = 1 then TT else []) → M' 133 57 = 0 → (ch.length = 0 → M' 133 61 = tk) → wp kc (d + 9) 384 51 [some (jR 133), none, some (jI ((ch.length : Int) - 1)), none, none] [] M' Q)
  (KB : ¬ (NT ≤ 100 ∧ (p = 1 → M0 133 5 + TT.length ≤ 3000)) → ∀ M', fAr ch.length M0 M' → m_ok M' → M' 133 57 = 1 → Q none M') : ∀ (t y : Nat) (M : fx_M) (n1 d1 : Nat) (tx : List Int), y + t = 4 → (y : Int) ≤ Z.2.2.1 → fAr ch.length M0 M → mz M 0 Z → mchs M ch → M 133 56 = p → M 133 58 = n1 → n1 ≤ 100 → M 133 60 = d1 → d1 ≤ 9 → ch.length ≤ d1 → mlo M0 M (if p = 1 then tx else []) → (ch.length = 0 → M 133 61 = tk) → (∀ c : Nat, (c : Int) < Z.1 * Z.2.1 → M 160 (9 * (ch.length : Int) + c) = (G c : Nat)) → M 161 (ch.length : Int) = (cc : Int) → M 162 (ch.length : Int) = (y : Int) - 1 → n1 + (vks (fun y => vis Z k (s_only G cc y) (ch ++ [((cc : Int), y)])) (G cc) t).1 = NT → max d1 (vks (fun y => vis Z k (s_only G cc y) (ch ++ [((cc : Int), y)])) (G cc) t).2.1 = DT → tx ++ (vks (fun y => vis Z k (s_only G cc y) (ch ++ [((cc : Int), y)])) (G cc) t).2.2 ++ tDone ch = TT → wp kc (d + 9) 384 51 [some (jR 133), none, some (jI (ch.length : Int)), none, none] [] M Q := by
  have h9 := pz_n ho
  have h4 := ho.2.2.2.2.2.1
  have hG16 := sLt_16 ho hG
  have hlen8 : ch.length ≤ 8 := by
    have := opC_pos hc2 (Z.1 * Z.2.1).toNat (by omega)
    omega
  intro t
  induction t using Nat.strongRecOn with
  | _ t iht =>
  intro y M n1 d1 tx hy hysym hf hz hcs h56 h58 hn1 h60 hd1 hdc hlo h61 h160 h161 h162 hNT hDT hTT
  have hl := hlo.ok
  rcases hl.2 with ⟨h57, -⟩ | h57
  · -- on
    have elen : p = 1 → M0 133 5 + tx.length ≤ 3000 ∧ M 133 5 = M0 133 5 + tx.length := fun p1 => by
      rw [if_pos p1] at hlo
      exact mlo_len hlo h570 h57
    refine s384_51 ⟨⟨by omega, by omega⟩, fun h => by omega, fun _ => ⟨by rw [h57]; exact ⟨by omega, by omega⟩, fun h => absurd h57 h, fun _ => s389 ⟨⟨by omega, by omega⟩, ?_⟩⟩⟩
    rw [h162, show (y : Int) - 1 + 1 = (y : Int) by omega]
    refine ns_loop (d := d + 7) (y0 := y) (cc := cc) (m := G cc) ho hlen8 hz (by omega) h161 (h160 cc hcc) (hG cc hcc) (fun s hs hb hbel hys => s384_67 ⟨⟨by omega, by omega⟩, fun _ => ?_, fun h => by omega⟩) (fun hnone v => s384_67 ⟨⟨by omega, by omega⟩, fun h => by omega, fun _ => ?_⟩) (Z.2.2.1.toNat - y) y (by omega) (Nat.le_refl _) (fun z h1 h2 => by omega)
    · -- the symbol s
      have hs4 : s < 4 := by omega
      have hsk := vks_skip (f := fun y => vis Z k (s_only G cc y) (ch ++ [((cc : Int), y)])) (m := G cc) t y s hy hys (by omega) (fun z h1 h2 => hbel z h2 h1)
      have hat := vks_at (f := fun y => vis Z k (s_only G cc y) (ch ++ [((cc : Int), y)])) (m := G cc) hs4 hb
      rw [hsk, hat] at hNT hDT hTT
      simp only at hNT hDT hTT
      have fu : ∀ b j, ¬ (b = 162 ∧ j = (ch.length : Int)) → (fx_up M 162 (ch.length : Int) (s : Int)) b j = M b j := fun b j hb => fx_up_ne hb
      refine re_loop (d := d + 8) (cc := (cc : Int)) (s := s) hlen8 ⟨by omega, by omega⟩ (by rw [fu _ _ (by omega)]; exact h161) (fun M2 k1 k2 k3 k4 => ?_) 9 0 _ (by omega) (fun i h => by omega) (fun _ _ _ => rfl)
      have f2 : ∀ b j, b ≠ 156 → ¬ (163 ≤ b ∧ b ≤ 164 ∧ j = (ch.length : Int)) → ¬ (b = 162 ∧ j = (ch.length : Int)) → M2 b j = M b j := fun b j h1 h2 h3 => by rw [k4 b j h1 h2, fu b j h3]
      have a2 : fAr ch.length M0 M2 := fun b j b1 b2 b3 b4 b5 => by rw [f2 b j (by omega) (by omega) (by omega)]; exact hf b j b1 b2 b3 b4 b5
      have hlen1 : (ch ++ [((cc : Int), s)]).length = ch.length + 1 := by simp
      have m2 : mst' M2 Z (s_only G cc s) := fun c hc => by
        rw [k1 c (by omega)]
        unfold s_only
        by_cases e : c = cc
        · rw [if_pos (by omega), if_pos e, fx_shl_1 ⟨by omega, by omega⟩, Int.toNat_natCast]
        · rw [if_neg (by omega), if_neg e, fu _ _ (by omega)]
          exact h160 c hc
      have c2 : mchs M2 (ch ++ [((cc : Int), s)]) := fun i q hq => by
        by_cases e : i < ch.length
        · rw [List.getElem?_append_left e] at hq
          rw [f2 _ _ (by decide) (by omega) (by omega), f2 _ _ (by decide) (by omega) (by omega)]
          exact hcs i q hq
        · have hi : i < (ch ++ [((cc : Int), s)]).length := (List.getElem?_eq_some_iff.mp hq).1
          have e : i = ch.length := by omega
          subst e
          rw [List.getElem?_append_right (Nat.le_refl _), Nat.sub_self] at hq
          cases hq
          exact ⟨k2, k3, by show (0 : Int) ≤ (cc : Int); omega, by show (cc : Int) < 9; omega, hs4⟩
      have l2 := mlo_tr hl0 hlo (mlo_fr (N := M2) hl (f2 _ _ (by decide) (by omega) (by omega)) (f2 _ _ (by decide) (by omega) (by omega)) (fun j => f2 _ _ (by decide) (by omega) (by omega)))
      rw [List.append_nil] at l2
      have e57 : M2 133 57 = 0 := by rw [f2 _ _ (by decide) (by omega) (by omega)]; exact h57
      have e5 : M2 133 5 = M 133 5 := f2 _ _ (by decide) (by omega) (by omega)
      have hopo := opC_only (S := G) (c := cc) hs4 hc2 (Z.1 * Z.2.1).toNat
      rw [if_pos (by omega)] at hopo
      have nx := IH (s_only G cc s) (ch ++ [((cc : Int), s)]) M2 n1 d1 (fun v1 M1 => wp kc (d + 9) 384 158 [some (jR 133), none, some (jI (ch.length : Int)), none, none] (v1.toList ++ []) M1 Q) (by omega) (by rw [hlen1]; omega) (sLt_only hG hs) (mz_frM hz (fun b j h1 h2 => f2 b j (by omega) (by omega) (by omega))) m2 (by rw [f2 _ _ (by decide) (by omega) (by omega)]; exact h56) l2.ok e57 (by rw [f2 _ _ (by decide) (by omega) (by omega)]; exact h58) hn1 (by rw [f2 _ _ (by decide) (by omega) (by omega)]; exact h60) hd1 c2 (fun u M1 u0 u1 hw => s384_158 ⟨⟨by omega, by omega⟩, ?_⟩) (fun hfit M3 g1 g2 g3 g4 g5 g6 g7 => ?_) (fun hnf M3 g1 g2 g3 => ?_)
      · rw [hlen1, show ((ch.length + 1 : Nat) : Int) = (ch.length : Int) + 1 by omega] at nx
        exact nx
      · rw [hlen1] at hw
        by_cases eu : u = 0
        · rw [if_pos eu]
          rw [if_pos eu, show ((ch.length + 1 : Nat) : Int) - 1 = (ch.length : Int) by omega] at hw
          exact hw
        · rw [if_neg eu]
          rw [if_neg eu, show ((ch.length + 1 : Nat) : Int) = (ch.length : Int) + 1 by omega] at hw
          exact hw
      · rw [hlen1] at g1 ⊢
        rw [show ((ch.length + 1 : Nat) : Int) - 1 = (ch.length : Int) by omega]
        have l3 := mlo_tr hl0 l2 g5
        have hn100 : n1 + (vis Z k (s_only G cc s) (ch ++ [((cc : Int), s)])).1 ≤ 100 := hfit.1
        refine iht (3 - s) (by omega) (s + 1) M3 (n1 + (vis Z k (s_only G cc s) (ch ++ [((cc : Int), s)])).1) (max d1 (vis Z k (s_only G cc s) (ch ++ [((cc : Int), s)])).2.1) (tx ++ (vis Z k (s_only G cc s) (ch ++ [((cc : Int), s)])).2.2) (by omega) (by omega) (fAr_tr a2 (fAr_up (by omega) g1)) (mz_frM (mz_frM hz (fun b j h1 h2 => f2 b j (by omega) (by omega) (by omega))) (fun b j h1 h2 => g1 b j (by omega) (by omega) (by omega) (by omega) (by omega))) (fun i q hq => by
          have hi : i < ch.length := (List.getElem?_eq_some_iff.mp hq).1
          rw [g1 _ _ (by omega) (by decide) (by omega) (by omega) (by omega), g1 _ _ (by omega) (by decide) (by omega) (by omega) (by omega), f2 _ _ (by decide) (by omega) (by omega), f2 _ _ (by decide) (by omega) (by omega)]
          exact hcs i q hq) (by rw [g1 _ _ (by omega) (by decide) (by omega) (by omega) (by omega), f2 _ _ (by decide) (by omega) (by omega)]; exact h56) g2 hn100 g3 (by omega) (by omega) ?_ (fun h => by rw [g1 _ _ (by omega) (by decide) (by omega) (by omega) (by omega), f2 _ _ (by decide) (by omega) (by omega)]; exact h61 h) (fun c hc => by
          rw [g1 _ _ (by omega) (by decide) (by omega) (by omega) (by omega), f2 _ _ (by decide) (by omega) (by omega)]
          exact h160 c hc) (by rw [g1 _ _ (by omega) (by decide) (by omega) (by omega) (by omega), f2 _ _ (by decide) (by omega) (by omega)]; exact h161) (by
          rw [g1 _ _ (by omega) (by decide) (by omega) (by omega) (by omega), k4 _ _ (by decide) (by omega), fx_up_self]
          omega) (by omega) (by omega) (by rw [← hTT]; simp only [List.append_assoc])
        by_cases p1 : p = 1
        · rw [if_pos p1, if_pos p1] at l3
          rw [if_pos p1]
          exact l3
        · rw [if_neg p1, if_neg p1] at l3
          rw [if_neg p1]
          exact l3
      · rw [hlen1] at g1
        refine KB (fun hfit => hnf ⟨by omega, fun p1 => ?_⟩) M3 (fAr_tr a2 (fAr_up (by omega) g1)) g2 g3
        have h1 := hfit.2 p1
        have h2 := (elen p1).2
        rw [← hTT] at h1
        simp only [List.length_append] at h1
        rw [e5, h2]
        omega
    · -- no symbol more
      have hv0 := vks_skip (f := fun y => vis Z k (s_only G cc y) (ch ++ [((cc : Int), y)])) (m := G cc) t y 4 hy (by omega) (Nat.le_refl _) (fun z h1 h2 => hnone z h1)
      rw [show 4 - 4 = 0 by rfl, vks] at hv0
      rw [hv0] at hNT hDT hTT
      simp only [Nat.add_zero, Nat.max_zero, List.append_nil] at hNT hDT hTT
      have fu : ∀ b j, ¬ (b = 162 ∧ j = (ch.length : Int)) → (fx_up M 162 (ch.length : Int) v) b j = M b j := fun b j hb => fx_up_ne hb
      have l2 := mlo_tr hl0 hlo (mlo_fr (N := fx_up M 162 (ch.length : Int) v) hl (fu _ _ (by omega)) (fu _ _ (by omega)) (fun j => fu _ _ (by omega)))
      rw [List.append_nil] at l2
      refine sp_sayDone (d := d + 3) hp (by rw [fu _ _ (by omega)]; exact h56) (fun i q hq => by rw [fu _ _ (by omega), fu _ _ (by omega)]; exact hcs i q hq) (by omega) l2.ok (fun M3 o3 f3 => s384_77 ?_)
      rw [show (ch.length : Int) + (-1) = (ch.length : Int) - 1 by omega]
      have l3 := mlo_tr hl0 l2 o3
      have etx : ((if p = 1 then tx else []) ++ if p = 1 then tDone ch else []) = if p = 1 then TT else [] := by
        by_cases p1 : p = 1
        · rw [if_pos p1, if_pos p1, if_pos p1]
          exact hTT
        · rw [if_neg p1, if_neg p1, if_neg p1]
          rfl
      rw [etx] at l3
      have a3 : fAr ch.length M0 M3 := fAr_tr hf (fAr_tr (fun b j b1 b2 b3 b4 b5 => fu b j (by omega)) (fAr_Go (fGo_Ln f3)))
      have e58 : M3 133 58 = (NT : Nat) := by rw [f3 _ _ (by decide) (by omega), fu _ _ (by omega), h58]; omega
      have e60 : M3 133 60 = (DT : Nat) := by rw [f3 _ _ (by decide) (by omega), fu _ _ (by omega), h60]; omega
      rcases l3.ok.2 with ⟨h3, -⟩ | h3
      · refine KA (by omega) (fun p1 => ?_) (by omega) M3 a3 e58 e60 l3 h3 (fun h => by rw [f3 _ _ (by decide) (by omega), fu _ _ (by omega)]; exact h61 h)
        rw [if_pos p1] at l3
        exact (mlo_len l3 h570 h3).1
      · refine gr_end (d := d + 8) ⟨by omega, by omega⟩ h3 (KB (fun hfit => ?_) M3 a3 l3.ok.1 h3)
        by_cases p1 : p = 1
        · rw [if_pos p1] at l3
          have := (l3.ex h570 (hfit.2 p1)).2
          omega
        · rw [if_neg p1] at l3
          have h1 := hl0.2
          have := (l3.ex h570 (by simp; omega)).2
          omega
  · -- long
    refine gr_end (d := d + 8) ⟨by omega, by omega⟩ h57 (KB (fun hfit => ?_) M hf hl.1 h57)
    by_cases p1 : p = 1
    · rw [if_pos p1] at hlo
      have h1 := hfit.2 p1
      rw [← hTT] at h1
      simp only [List.length_append] at h1
      have := (hlo.ex h570 (by omega)).2
      omega
    · rw [if_neg p1] at hlo
      have h1 := hl0.2
      have := (hlo.ex h570 (by simp; omega)).2
      omega
theorem gr_node (ho : pz_ok Z) {p : Int} (hp : 0 ≤ p ∧ p ≤ 1) : ∀ k, grS kc d Q Z p k := by
  have h9 := pz_n ho
  have h1s := ho.2.2.2.2.1
  intro k
  induction k with
  | zero =>
    intro S ch M n0 d0 C hop
    omega
  | succ k ih =>
    intro S ch M n0 d0 C hop hch hS hz hm h56 hl h57 h58 hn0 h60 hd0 hcs W KA KB
    have hS16 := sLt_16 ho hS
    have hG := sLt_gOn (k := 37) hS
    have hopG : opC (gOn Z 37 S).1 (Z.1 * Z.2.1).toNat ≤ opC S (Z.1 * Z.2.1).toNat := opC_mono _ (fun c _ => (gOn_le 37 S c).2)
    have h3000 : M 133 5 ≤ 3000 := by
      rcases hl.2 with h | h <;> omega
    have hcb := cch_b (S := (gOn Z 37 S).1) (Z.1 * Z.2.1).toNat 0 (-1) (by omega) (by omega)
    have hcb2 : cCh Z (gOn Z 37 S).1 < Z.1 * Z.2.1 := by
      have : cCh Z (gOn Z 37 S).1 < ((0 + (Z.1 * Z.2.1).toNat : Nat) : Int) := hcb.2
      omega
    have hpos2 : 0 ≤ cCh Z (gOn Z 37 S).1 → 1 < pop4 ((gOn Z 37 S).1 (cCh Z (gOn Z 37 S).1).toNat) := fun h => cch_pos (Z.1 * Z.2.1).toNat 0 (-1) (fun h => by omega) h
    have hlen8 : 0 ≤ cCh Z (gOn Z 37 S).1 → ch.length ≤ 8 := fun h => by
      have := opC_pos (hpos2 h) (Z.1 * Z.2.1).toNat (by omega)
      omega
    refine sp_arrive ho hp hz hm hS16 h56 hl h58 hn0 h60 hd0 hcs (by omega) (fun _ h => hlen8 h) (fun hn M' f' o' h' => ?_) (fun hn hd M' f' e58 e60 l' e61 => ?_) (fun hn hnb hpos M' f' e58 e60 l' e61 s160 s16 s161 s162 => ?_)
    · refine W 0 M' (by omega) (by omega) (gr_end (d := d + 8) ⟨by rw [if_pos rfl]; omega, by rw [if_pos rfl]; omega⟩ h' (KB (fun hfit => ?_) M' f' o' h'))
      have h1 := hfit.1
      have : 1 ≤ (vis Z (k + 1) S ch).1 := by
        rw [vis]
        split <;> simp only <;> omega
      omega
    · have ev : vis Z (k + 1) S ch = (1, ch.length, (gOn Z 37 S).2.2 ++ (if brk Z (gOn Z 37 S).1 then [] else tLeaf Z (gOn Z 37 S).1) ++ tDone ch) := by
        rw [vis, if_pos hd]
      rw [ev] at KA KB
      rcases l'.ok.2 with ⟨h', -⟩ | h'
      · refine W 0 M' (by omega) (by omega) ?_
        rw [if_pos rfl]
        refine KA ⟨by show n0 + 1 ≤ 100; omega, fun p1 => ?_⟩ M' f' (by rw [e58]; show (n0 : Int) + 1 = ((n0 + 1 : Nat) : Int); omega) e60 (by show ch.length ≤ 9; omega) l' h' e61
        rw [if_pos p1] at l'
        exact (mlo_len l' h57 h').1
      · refine W 0 M' (by omega) (by omega) (gr_end (d := d + 8) ⟨by rw [if_pos rfl]; omega, by rw [if_pos rfl]; omega⟩ h' (KB (fun hfit => ?_) M' f' l'.ok.1 h'))
        by_cases p1 : p = 1
        · rw [if_pos p1] at l'
          have := (l'.ex h57 (hfit.2 p1)).2
          omega
        · rw [if_neg p1] at l'
          have := (l'.ex h57 (by simp; omega)).2
          omega
    · obtain ⟨cc, ecc⟩ : ∃ cc : Nat, cCh Z (gOn Z 37 S).1 = (cc : Int) := ⟨(cCh Z (gOn Z 37 S).1).toNat, by omega⟩
      have hp2 := hpos2 hpos
      have hl8 := hlen8 hpos
      rw [ecc, Int.toNat_natCast] at hp2
      have ev : vis Z (k + 1) S ch = (1 + (vks (fun y => vis Z k (s_only (gOn Z 37 S).1 cc y) (ch ++ [((cc : Int), y)])) ((gOn Z 37 S).1 cc) 4).1, max ch.length (vks (fun y => vis Z k (s_only (gOn Z 37 S).1 cc y) (ch ++ [((cc : Int), y)])) ((gOn Z 37 S).1 cc) 4).2.1, (gOn Z 37 S).2.2 ++ (vks (fun y => vis Z k (s_only (gOn Z 37 S).1 cc y) (ch ++ [((cc : Int), y)])) ((gOn Z 37 S).1 cc) 4).2.2 ++ tDone ch) := by
        rw [vis, if_neg (fun h => h.elim hnb (fun h => by omega)), ecc, Int.toNat_natCast]
      rw [ev] at KA KB
      refine W 1 M' (by omega) (by omega) ?_
      rw [if_neg (by decide)]
      refine gr_loop ho hp ih hG (by omega) hch (by omega) hp2 (M0 := M) hl h57 (tk := M 133 59 + ((gOn Z 37 S).2.1 : Nat)) (NT := n0 + (1 + (vks (fun y => vis Z k (s_only (gOn Z 37 S).1 cc y) (ch ++ [((cc : Int), y)])) ((gOn Z 37 S).1 cc) 4).1)) (DT := max d0 (max ch.length (vks (fun y => vis Z k (s_only (gOn Z 37 S).1 cc y) (ch ++ [((cc : Int), y)])) ((gOn Z 37 S).1 cc) 4).2.1)) (TT := (gOn Z 37 S).2.2 ++ (vks (fun y => vis Z k (s_only (gOn Z 37 S).1 cc y) (ch ++ [((cc : Int), y)])) ((gOn Z 37 S).1 cc) 4).2.2 ++ tDone ch) (fun a1 a2 a3 M2 a4 a5 a6 a7 a8 a9 => KA ⟨a1, a2⟩ M2 a4 a5 a6 (by show max ch.length (vks (fun y => vis Z k (s_only (gOn Z 37 S).1 cc y) (ch ++ [((cc : Int), y)])) ((gOn Z 37 S).1 cc) 4).2.1 ≤ 9; omega) a7 a8 a9) (fun hn M2 a4 a5 a6 => KB hn M2 a4 a5 a6) 4 0 M' (n0 + 1) (max d0 ch.length) (gOn Z 37 S).2.2 (by omega) (by omega) f' (mz_frM hz (fun b j h1 h2 => f' b j (by omega) (by omega) (by omega) (by omega) (by omega))) (fun i q hq => by
        have hi : i < ch.length := (List.getElem?_eq_some_iff.mp hq).1
        rw [f' _ _ (by omega) (by decide) (by omega) (by omega) (by omega), f' _ _ (by omega) (by decide) (by omega) (by omega) (by omega)]
        exact hcs i q hq) (by rw [f' _ _ (by omega) (by decide) (by omega) (by omega) (by omega)]; exact h56) (by rw [e58]; omega) (by omega) e60 (by omega) (by omega) l' e61 s160 (by rw [s161]; exact ecc) (by rw [s162]; rfl) (by omega) (by omega) rfl
end MGN
