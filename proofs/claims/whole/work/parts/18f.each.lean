/-! PUZZLES: a rule for each row, column or pair (the class). -/
/-- the cells of the row (side 0), column (1) or pair (2) that begins at c and goes across (b 0) or down (b 1) -/
def eaL (side w h c b : Int) : List Int :=
  if side = 0 then (if b = 0 ∧ c % w = 0 then (List.range w.toNat).map (fun (i : Nat) => c + (i : Int)) else [])
  else if side = 1 then (if b = 1 ∧ c / w = 0 then (List.range h.toNat).map (fun (i : Nat) => c + w * (i : Int)) else [])
  else if b = 0 then (if c % w + 1 < w then [c, c + 1] else []) else (if c / w + 1 < h then [c, c + w] else [])
def neL (l : List Int) : List (List Int) := if l = [] then [] else [l]
def eL (side w h : Int) : Nat → List (List Int)
  | 0 => []
  | c + 1 => eL side w h c ++ (neL (eaL side w h c 0) ++ neL (eaL side w h c 1))
def eMany (side w h : Int) : Int := if side = 0 then h else if side = 1 then w else (w - 1) * h + w * (h - 1)
def z_adds (Z : PZ) (k n : Int) (ls : List (List Int)) : PZ := (Z.1, Z.2.1, Z.2.2.1, Z.2.2.2.1 ++ ls.map (fun l => (k, n, l)), Z.2.2.2.2)
theorem z_adds_nil (Z : PZ) (k n : Int) : z_adds Z k n [] = Z := by
  unfold z_adds
  simp
theorem z_adds_snoc (Z : PZ) (k n : Int) (ls : List (List Int)) (l : List Int) : z_add (z_adds Z k n ls) (k, n, l) = z_adds Z k n (ls ++ [l]) := by
  unfold z_adds z_add
  simp
def ea_chk (side w h c b : Int) : Bool := decide ((eaL side w h c b).length ≤ 3) && (eaL side w h c b).all (fun x => decide (0 ≤ x ∧ x < w * h)) && decide ((eaL side w h c b).Nodup)
theorem ea_all : ∀ (s w h : Fin 3) (c : Fin 9) (b : Fin 2), ((c : Nat) : Int) < (((w : Nat) : Int) + 1) * (((h : Nat) : Int) + 1) → ea_chk ((s : Nat) : Int) (((w : Nat) : Int) + 1) (((h : Nat) : Int) + 1) ((c : Nat) : Int) ((b : Nat) : Int) = true := by decide +kernel
theorem eL_all : ∀ (s w h : Fin 3), (((eL ((s : Nat) : Int) (((w : Nat) : Int) + 1) (((h : Nat) : Int) + 1) (((w : Nat) + 1) * ((h : Nat) + 1))).length : Nat) : Int) = eMany ((s : Nat) : Int) (((w : Nat) : Int) + 1) (((h : Nat) : Int) + 1) := by decide +kernel
theorem ea_ok {side w h c b : Int} (hs : 0 ≤ side ∧ side < 3) (hw : 1 ≤ w ∧ w ≤ 3) (hh : 1 ≤ h ∧ h ≤ 3) (hc : 0 ≤ c ∧ c < w * h) (hb : b = 0 ∨ b = 1) : (eaL side w h c b).length ≤ 3 ∧ (∀ x ∈ eaL side w h c b, 0 ≤ x ∧ x < w * h) ∧ (eaL side w h c b).Nodup := by
  have h9 := mul_le9 hw.1 hw.2 hh.1 hh.2
  have := ea_all ⟨side.toNat, by omega⟩ ⟨(w - 1).toNat, by omega⟩ ⟨(h - 1).toNat, by omega⟩ ⟨c.toNat, by omega⟩ ⟨b.toNat, by omega⟩
  simp only at this
  rw [show ((side.toNat : Nat) : Int) = side by omega, show (((w - 1).toNat : Nat) : Int) + 1 = w by omega, show (((h - 1).toNat : Nat) : Int) + 1 = h by omega, show ((c.toNat : Nat) : Int) = c by omega, show ((b.toNat : Nat) : Int) = b by omega] at this
  have := this hc.2
  unfold ea_chk at this
  rw [Bool.and_eq_true, Bool.and_eq_true, List.all_eq_true, decide_eq_true_eq, decide_eq_true_eq] at this
  exact ⟨this.1.1, fun x hx => by simpa using this.1.2 x hx, this.2⟩
theorem eL_len {side w h : Int} (hs : 0 ≤ side ∧ side < 3) (hw : 1 ≤ w ∧ w ≤ 3) (hh : 1 ≤ h ∧ h ≤ 3) : ((eL side w h (w * h).toNat).length : Int) = eMany side w h := by
  have := eL_all ⟨side.toNat, by omega⟩ ⟨(w - 1).toNat, by omega⟩ ⟨(h - 1).toNat, by omega⟩
  simp only at this
  rw [show ((side.toNat : Nat) : Int) = side by omega, show (((w - 1).toNat : Nat) : Int) + 1 = w by omega, show (((h - 1).toNat : Nat) : Int) + 1 = h by omega] at this
  have e : ((w - 1).toNat + 1) * ((h - 1).toNat + 1) = (w * h).toNat := by
    have e1 : (((w - 1).toNat + 1 : Nat) : Int) = w := by omega
    have e2 : (((h - 1).toNat + 1 : Nat) : Int) = h := by omega
    have e3 : ((((w - 1).toNat + 1) * ((h - 1).toNat + 1) : Nat) : Int) = w * h := by rw [Int.natCast_mul, e1, e2]
    omega
  rw [e] at this
  exact this
theorem eL_mono {side w h : Int} : ∀ {c c' : Nat}, c ≤ c' → (eL side w h c).length ≤ (eL side w h c').length := by
  intro c c' hle
  induction hle with
  | refl => exact Nat.le_refl _
  | step _ ih =>
    rw [eL, List.length_append]
    omega
theorem ea_get {side w h c b : Int} {i : Nat} {x : Int} (hb : b = 0 ∨ b = 1) (hx : (eaL side w h c b)[i]? = some x) : x = c + (if b = 0 then (i : Int) else w * (i : Int)) := by
  unfold eaL at hx
  split at hx
  · split at hx
    · next hc =>
      rw [List.getElem?_map] at hx
      have hlt : i < (List.range w.toNat).length := by
        cases hg : (List.range w.toNat)[i]? with
        | none => rw [hg] at hx; cases hx
        | some y => exact (List.getElem?_eq_some_iff.mp hg).1
      rw [List.getElem?_eq_getElem hlt, List.getElem_range] at hx
      rw [if_pos hc.1]
      simpa using hx.symm
    · simp at hx
  · split at hx
    · split at hx
      · next hc =>
        rw [List.getElem?_map] at hx
        have hlt : i < (List.range h.toNat).length := by
          cases hg : (List.range h.toNat)[i]? with
          | none => rw [hg] at hx; cases hx
          | some y => exact (List.getElem?_eq_some_iff.mp hg).1
        rw [List.getElem?_eq_getElem hlt, List.getElem_range] at hx
        rw [if_neg (by omega)]
        simpa using hx.symm
      · simp at hx
    · split at hx
      · next h0 =>
        rw [if_pos h0]
        split at hx
        · match i, hx with
          | 0, hx => simp at hx; simp [hx]
          | 1, hx => simp at hx; simp [hx]
          | i + 2, hx => simp at hx
        · simp at hx
      · next h0 =>
        rw [if_neg h0]
        split at hx
        · match i, hx with
          | 0, hx => simp at hx; simp [hx]
          | 1, hx => simp at hx; simp [hx]
          | i + 2, hx => simp at hx
        · simp at hx
section PZE
variable {kc : List va_E} {d p : Nat} {M : fx_M} {Q : Option fx_V → fx_M → Prop} {Z : PZ}
theorem line_loop {l : List Int} {s k n c b : Int} (Hp : fx_puz p) (hl3 : l.length ≤ 3) (hb : b = 0 ∨ b = 1) (hx : ∀ (i : Nat) (x : Int), l[i]? = some x → x = c + (if b = 0 then (i : Int) else M p 0 * (i : Int))) : ∀ (t : Nat) (N : fx_M) (i : Nat), i + t = l.length → N p 0 = M p 0 → (∀ (j : Nat) (x : Int), l[j]? = some x → j < i → N (p + 8) j = x) → (∀ N', (∀ (j : Nat) (x : Int), l[j]? = some x → N' (p + 8) j = x) → (∀ a j, a ≠ p + 8 → N' a j = N a j) → wc kc d 54 [jR p, jI k, jI n, jR (p + 8), jI l.length] N' (fun v M1 => wp kc (d + 1) 55 181 [some (jR p), some (jI s), some (jI k), some (jI n), none, none, some (jI c), some (jI b), none, none] (v.toList ++ []) M1 Q)) → wp kc (d + 1) 55 129 [some (jR p), some (jI s), some (jI k), some (jI n), none, none, some (jI c), some (jI b), some (jI l.length), some (jI i)] [] N Q
  | 0, N, i, hi, h0, hj, K => s55_129 Hp ⟨⟨⟨by omega, by omega⟩, ⟨by omega, by omega⟩⟩, fun _ => K N (fun j x hjx => hj j x hjx (by
      have := (List.getElem?_eq_some_iff.mp hjx).1
      omega)) (fun _ _ _ => rfl), fun h => by omega⟩
  | t + 1, N, i, hi, h0, hj, K => by
    have hlt : i < l.length := by omega
    have hg : l[i]? = some l[i] := List.getElem?_eq_getElem hlt
    have e1 : ((i + 1 : Nat) : Int) = (i : Int) + 1 := by omega
    refine s55_129 Hp ⟨⟨⟨by omega, by omega⟩, ⟨by omega, by omega⟩⟩, fun h => by omega, fun _ => ⟨⟨by omega, by omega⟩, ⟨by omega, by omega⟩, ?_⟩⟩
    rw [h0]
    have ev : (c + (if b = 0 then (i : Int) else M p 0 * (i : Int))) = l[i] := (hx i _ hg).symm
    rw [ev]
    have ih := line_loop (s := s) (k := k) (n := n) Hp hl3 hb hx t (fx_up N (p + 8) i l[i]) (i + 1) (by omega) (by rw [fx_up_na (by omega), h0]) (fun j x hjx hji => by
      by_cases hx2 : j = i
      · subst hx2
        rw [fx_up_self]
        rw [hg] at hjx
        exact Option.some.inj hjx
      · rw [fx_up_nk (by omega)]
        exact hj j x hjx (by omega)) (fun N' a1 a2 => K N' a1 (fun a j ha => by rw [a2 a j ha, fx_up_na ha]))
    rw [e1] at ih
    exact ih
theorem fx_a_line (Hp : fx_puz p) : fx_a (p + 8) = some (0, 4) := by
  have h : ∀ q ∈ [11, 20, 71, 80, 89, 98, 107, 116], fx_a (q + 8) = some (0, 4) := by decide +kernel
  exact h p Hp
/-- one line more, if one begins here -/
theorem each_one {s k n c b : Int} {ls : List (List Int)} (Hp : fx_puz p) (ho : pz_ok Z) (hs : 0 ≤ s ∧ s < 3) (hk : 0 ≤ k ∧ k < 8) (hn : 0 ≤ n ∧ n ≤ 99) (hb : b = 0 ∨ b = 1) (hc : 0 ≤ c ∧ c < Z.1 * Z.2.1) (hz : cz M p (z_adds Z k n ls)) (hoz : pz_ok (z_adds Z k n ls)) (hroom : eaL s Z.1 Z.2.1 c b ≠ [] → Z.2.2.2.1.length + ls.length < 12) (K : ∀ M', cz M' p (z_adds Z k n (ls ++ neL (eaL s Z.1 Z.2.1 c b))) → pz_ok (z_adds Z k n (ls ++ neL (eaL s Z.1 Z.2.1 c b))) → pfr p M M' → wp kc (d + 2) 55 91 [some (jR p), some (jI s), some (jI k), some (jI n), none, none, some (jI c), some (jI (b + 1)), none, none] [] M' Q) : wp kc (d + 2) 55 91 [some (jR p), some (jI s), some (jI k), some (jI n), none, none, some (jI c), some (jI b), none, none] [] M Q := by
  have h9 := pz_n ho
  have hz2 := hz
  obtain ⟨z0, z1, z2, z3, z4, z5, z6, z7, z8⟩ := hz
  have w3 : 1 ≤ Z.1 ∧ Z.1 ≤ 3 := ⟨ho.1, ho.2.1⟩
  have h3 : 1 ≤ Z.2.1 ∧ Z.2.1 ≤ 3 := ⟨ho.2.2.1, ho.2.2.2.1⟩
  have z0 : M p 0 = Z.1 := z0
  have z1 : M p 1 = Z.2.1 := z1
  have hok := ea_ok (side := s) (w := Z.1) (h := Z.2.1) (c := c) (b := b) hs w3 h3 hc hb
  have hm : 0 ≤ c % Z.1 ∧ c % Z.1 < Z.1 := ⟨Int.emod_nonneg _ (by omega), Int.emod_lt_of_pos _ (by omega)⟩
  have hd : 0 ≤ c / Z.1 ∧ c / Z.1 ≤ c := ⟨Int.ediv_nonneg (by omega) (by omega), Int.ediv_le_self _ (by omega)⟩
  have key : wp kc (d + 2) 55 124 [some (jR p), some (jI s), some (jI k), some (jI n), none, none, some (jI c), some (jI b), none, none] [jI (eaL s Z.1 Z.2.1 c b).length] M Q := by
    refine s55_124 Hp (line_loop (l := eaL s Z.1 Z.2.1 c b) Hp hok.1 hb (fun i x hx => by rw [z0]; exact ea_get hb hx) (eaL s Z.1 Z.2.1 c b).length M 0 (by omega) rfl (fun j x _ h => by omega) (fun N' n1 n2 => ?_))
    have hzN : cz N' p (z_adds Z k n ls) := by
      obtain ⟨y0, y1, y2, y3, y4, y5, y6, y7, y8, yw⟩ := hz2
      refine ⟨by rw [n2 _ _ (by omega)]; exact y0, by rw [n2 _ _ (by omega)]; exact y1, by rw [n2 _ _ (by omega)]; exact y2, by rw [n2 _ _ (by omega)]; exact y3, by rw [n2 _ _ (by omega)]; exact y4, fun r R hR => ?_, fun c hc => by rw [n2 _ _ (by omega)]; exact y6 c hc, by rw [n2 _ _ (by omega)]; exact y7, by rw [n2 _ _ (by omega)]; exact y8, wys_fr yw (n2 _ _ (by omega)) (fun j => n2 _ _ (by omega))⟩
      obtain ⟨a1, a2, a3, a4, a5⟩ := y5 r R hR
      exact ⟨by rw [n2 _ _ (by omega)]; exact a1, by rw [n2 _ _ (by omega)]; exact a2, by rw [n2 _ _ (by omega)]; exact a3, fun i hi => by rw [n2 _ _ (by omega)]; exact a4 i hi, by rw [n2 _ _ (by omega)]; exact a5⟩
    have hfN : pfr p M N' := fun a j ha => n2 a j (by omega)
    by_cases he : eaL s Z.1 Z.2.1 c b = []
    · have e0 : neL (eaL s Z.1 Z.2.1 c b) = [] := by
        unfold neL
        rw [if_pos he]
      rw [e0, List.append_nil] at K
      have hl0 : ((eaL s Z.1 Z.2.1 c b).length : Int) = 0 := by
        rw [he]
        rfl
      rw [hl0]
      have hr12 : N' p 4 ≤ 12 ∧ 0 ≤ N' p 4 := by
        have := hzN.2.2.2.2.1
        have := hoz.2.2.2.2.2.2.1
        omega
      exact s54 Hp (fx_a_line Hp) ⟨⟨by omega, by omega⟩, fun _ => s55_181 Hp (K N' hzN hoz hfN), fun _ => ⟨⟨by omega, by omega⟩, fun h => by omega, fun _ => s55_181 Hp (K N' hzN hoz hfN)⟩⟩
    · have e0 : neL (eaL s Z.1 Z.2.1 c b) = [eaL s Z.1 Z.2.1 c b] := by
        unfold neL
        rw [if_neg he]
      have hl1 : 1 ≤ (eaL s Z.1 Z.2.1 c b).length := by
        have := List.length_pos_iff.mpr he
        omega
      have hlen : (z_adds Z k n ls).2.2.2.1.length = Z.2.2.2.1.length + ls.length := by
        show (Z.2.2.2.1 ++ ls.map _).length = _
        rw [List.length_append, List.length_map]
      refine sp_append Hp (fx_a_line Hp) ⟨by omega, by omega, by omega, by omega, by omega, by omega⟩ hzN hoz (by rw [hlen]; exact hroom he) hl1 (by omega) (fun i x hx => n1 i x hx) (fun x hx => by
        have := hok.2.1 x hx
        omega) (fun M' m1 m2 => s55_181 Hp (K M' ?_ ?_ (fun a j ha => by rw [m2 a j (by omega), n2 a j (by omega)])))
      · rw [e0, ← z_adds_snoc]
        exact m1
      · rw [e0, ← z_adds_snoc]
        refine z_add_ok hoz (by rw [hlen]; exact hroom he) ⟨hk.1, hk.2, hn.1, hn.2, hl1, Nat.le_trans hok.1 (by decide), fun x hx => hok.2.1 x hx, hok.2.2⟩
  refine s55_91 Hp ⟨⟨by omega, by omega⟩, fun h => by omega, fun _ => sp_across (d := d) Hp z0 w3 ⟨by omega, by omega⟩ (s55_105 Hp (sp_down (d := d) Hp z0 w3 ⟨by omega, by omega⟩ (s55_111 Hp ⟨⟨by omega, by omega⟩, ?_⟩)))⟩
  have hin : fx_in32 (if b = 0 then (1 : Int) else 0) := by split <;> exact ⟨by omega, by omega⟩
  refine s56 Hp ?_
  rw [z0, z1]
  refine ⟨⟨by omega, by omega⟩, fun s0 => ⟨⟨by omega, by omega⟩, fun s1 => ⟨hin, fun _ => hin, fun _ _ => ⟨by omega, by omega⟩, fun _ _ => ⟨by omega, by omega⟩, fun _ => ⟨by omega, by omega⟩, fun _ => ⟨by omega, by omega⟩, fun _ _ => hin, fun _ _ _ => ⟨by omega, by omega⟩, fun _ _ _ => ⟨by omega, by omega⟩, ?_⟩, fun s1 => ⟨hin, fun _ => ⟨by omega, by omega⟩, ?_⟩⟩, fun s0 => ⟨hin, fun _ => ⟨by omega, by omega⟩, ?_⟩⟩
  · have e : ((eaL s Z.1 Z.2.1 c b).length : Int) = (if (if b = 0 then (1 : Int) else 0) = 0 then ((if (if b = 0 then (1 : Int) else 0) = 0 then ((if c / Z.1 + 1 < Z.2.1 then (2 : Int) else 0) : Int) else 0) : Int) else (if c % Z.1 + 1 < Z.1 then (2 : Int) else (if (if b = 0 then (1 : Int) else 0) = 0 then ((if c / Z.1 + 1 < Z.2.1 then (2 : Int) else 0) : Int) else 0))) := by
      unfold eaL
      rw [if_neg s0, if_neg s1]
      rcases hb with hb | hb
      · subst hb
        by_cases h : c % Z.1 + 1 < Z.1 <;> simp [h]
      · subst hb
        by_cases h : c / Z.1 + 1 < Z.2.1 <;> simp [h]
    rw [← e]
    exact key
  · have e : ((eaL s Z.1 Z.2.1 c b).length : Int) = (if (if b = 0 then (1 : Int) else 0) = 0 then ((if c / Z.1 = 0 then (Z.2.1 : Int) else 0) : Int) else 0) := by
      unfold eaL
      rw [if_neg s0, if_pos s1]
      rcases hb with hb | hb
      · subst hb
        simp
      · subst hb
        by_cases h : c / Z.1 = 0
        · simp [h]
          omega
        · simp [h]
    rw [← e]
    exact key
  · have e : ((eaL s Z.1 Z.2.1 c b).length : Int) = (if (if b = 0 then (1 : Int) else 0) = 0 then (0 : Int) else (if c % Z.1 = 0 then (Z.1 : Int) else 0)) := by
      unfold eaL
      rw [if_pos s0]
      rcases hb with hb | hb
      · subst hb
        by_cases h : c % Z.1 = 0
        · simp [h]
          omega
        · simp [h]
      · subst hb
        simp
    rw [← e]
    exact key
end PZE
