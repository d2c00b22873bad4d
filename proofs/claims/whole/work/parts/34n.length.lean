/-! FORMS: the texts of all variants have one length. -/
theorem srC_congr {A B : List Int} (h : ∀ x, x ∈ A ↔ x ∈ B) : srC A = srC B := by
  unfold srC
  congr 1
  funext c
  rw [Bool.eq_iff_iff, List.contains_iff_mem, List.contains_iff_mem]
  exact h c
theorem srC_map {t : List Int} {g : Int → Int} (h : ∀ c ∈ t, 0 ≤ c ∧ c < 9) : srC ((srC t).map g) = srC (t.map g) := by
  refine srC_congr (fun x => ?_)
  rw [List.mem_map, List.mem_map]
  exact ⟨fun ⟨y, y1, y2⟩ => ⟨y, (srC_mem h y).mp y1, y2⟩, fun ⟨y, y1, y2⟩ => ⟨y, (srC_mem h y).mpr y1, y2⟩⟩
theorem orC_map {k : Int} {l : List Int} {g : Int → Int} (h : ∀ c ∈ l, 0 ≤ c ∧ c < 9) : orC k ((orC k l).map g) = orC k (l.map g) := by
  unfold orC
  by_cases h1 : k = 4 ∨ k = 1 ∨ k = 5
  · rw [if_pos h1, if_pos h1]
    exact (if_pos h1).symm
  · rw [if_neg h1, if_neg h1, if_neg h1]
    by_cases h2 : k = 2
    · rw [if_pos h2, if_pos h2, if_pos h2]
      cases l with
      | nil => rfl
      | cons a t =>
        show [g a] ++ srC ((srC t).map g) = [g a] ++ srC (t.map g)
        rw [srC_map (fun c hc => h c (List.mem_cons_of_mem _ hc))]
    · rw [if_neg h2, if_neg h2, if_neg h2]
      exact srC_map h
/-- a rule with its cells in order -/
def nR0 (R : PR) : PR := (R.1, R.2.1, orC R.1 R.2.2)
section LEN
variable {Z : PZ} {m : Int}
theorem mp_map {w h m : Int} {l : List Int} (hw : 1 ≤ w ∧ w ≤ 3) (hh : 1 ≤ h ∧ h ≤ 3) (hm : 0 ≤ m ∧ m < mps w h) (hl : ∀ c ∈ l, 0 ≤ c ∧ c < w * h) : (l.map (mpC w h m)).map (mpC w h (mpI m)) = l := by
  rw [List.map_map]
  conv => rhs; rw [← List.map_id l]
  refine List.map_congr_left (fun c hc => ?_)
  exact (mp_one hw hh hm (hl c hc)).2.2
theorem nR_0m (ho : pz_ok Z) {R : PR} (hR : R ∈ Z.2.2.2.1) : nRl Z.1 Z.2.1 m (nR0 R) = nRl Z.1 Z.2.1 m R := by
  have h9 := pz_n ho
  have hr := (ho.2.2.2.2.2.2.2.1 R hR).2.2.2.2.2.2.1
  unfold nRl nR0
  dsimp only
  rw [orC_map (fun c hc => by have := hr c hc; omega)]
theorem nR_m0 (ho : pz_ok Z) (hm : 0 ≤ m ∧ m < mps Z.1 Z.2.1) {R : PR} (hR : R ∈ Z.2.2.2.1) : nRl Z.1 Z.2.1 (mpI m) (nRl Z.1 Z.2.1 m R) = nR0 R := by
  have h9 := pz_n ho
  have hRok := ho.2.2.2.2.2.2.2.1 R hR
  have hv := vrR_ok ⟨ho.1, ho.2.1⟩ ⟨ho.2.2.1, ho.2.2.2.1⟩ hm hRok
  unfold nRl nR0
  dsimp only
  rw [orC_map (fun c hc => by have : 0 ≤ c ∧ c < Z.1 * Z.2.1 := hv.2.2.2.2.2.2.1 c hc; omega), mp_map ⟨ho.1, ho.2.1⟩ ⟨ho.2.2.1, ho.2.2.2.1⟩ hm hRok.2.2.2.2.2.2.1]
theorem nR0_v (ho : pz_ok Z) (hn : pnZ Z) {R : PR} (hR : R ∈ Z.2.2.2.1) : vR (nR0 R) ∧ (nR0 R).2.2.length = R.2.2.length := by
  have h9 := pz_n ho
  obtain ⟨r1, r2, r3, r4, r5, r6, r7, r8⟩ := ho.2.2.2.2.2.2.2.1 R hR
  have hl9 : ∀ c ∈ R.2.2, 0 ≤ c ∧ c < 9 := fun c hc => by
    have := r7 c hc
    omega
  have hl := orC_len (k := R.1) r8 hl9
  have hz : 0 ≤ (0 : Int) ∧ (0 : Int) < mps Z.1 Z.2.1 := by
    unfold mps
    split <;> omega
  have hv := nRl_v ho hn hz hR
  have e0 : mpI 0 = 0 := rfl
  have he := nR_m0 ho hz hR
  refine ⟨?_, hl⟩
  refine ⟨⟨r1, r2, r3, r4, ?_, ?_, fun c hc => hl9 c (orC_mem hl9 hc), ?_⟩, hn R hR⟩
  · show 1 ≤ (orC R.1 R.2.2).length
    omega
  · show (orC R.1 R.2.2).length ≤ 4
    omega
  · show (orC R.1 R.2.2).Nodup
    unfold orC
    split
    · exact r8
    · split
      · rw [List.nodup_append]
        refine ⟨List.Nodup.sublist (List.take_sublist 1 _) r8, ris_nodup srC_ris, fun a ha b hb e => ?_⟩
        subst e
        have hb2 := (srC_mem (fun x hx => hl9 x (List.mem_of_mem_drop hx)) a).mp hb
        have hs := List.take_append_drop 1 R.2.2
        rw [← hs, List.nodup_append] at r8
        exact r8.2.2 a ha a hb2 rfl
      · exact ris_nodup srC_ris
theorem tRule_len {R : PR} (h : cl9 R.2.2) : (tRule R).length = (txP R).length + 2 * R.2.2.length + 1 := by
  rw [tRule_tx, List.length_cons, tx_P, List.length_append, tCl_len h]
theorem fm_sum {α : Type} {f : α → List Int} : ∀ l : List α, (l.flatMap f).length = sumN (fun x => (f x).length) l
  | [] => rfl
  | a :: l => by rw [List.flatMap_cons, List.length_append, fm_sum l, sumN]
theorem sumN_congr {α : Type} {f g : α → Nat} : ∀ {l : List α}, (∀ x ∈ l, f x = g x) → sumN f l = sumN g l
  | [], _ => rfl
  | a :: l, h => by
    rw [sumN, sumN, h a (List.mem_cons_self ..), sumN_congr (fun x hx => h x (List.mem_cons_of_mem _ hx))]
theorem sumN_map {α β : Type} {f : β → Nat} {g : α → β} : ∀ {l : List α}, sumN f (l.map g) = sumN (fun x => f (g x)) l
  | [] => rfl
  | a :: l => by rw [List.map_cons, sumN, sumN, sumN_map]
theorem nodup_map_of {α β : Type} {g : α → β} {l : List α} (h : l.Nodup) (hi : ∀ x ∈ l, ∀ y ∈ l, g x = g y → x = y) : (l.map g).Nodup := by
  unfold List.Nodup at h ⊢
  rw [List.pairwise_map]
  exact h.imp_of_mem (fun ha hb hne e => hne (hi _ ha _ hb e))
/-- the length of the rules' texts -/
def ruLn (Z : PZ) : Nat := sumN (fun R => (tRule R).length) (srtR (Z.2.2.2.1.map nR0))
theorem rules_len (ho : pz_ok Z) (hn : pnZ Z) (hm : 0 ≤ m ∧ m < mps Z.1 Z.2.1) : ((nrL Z m).flatMap tRule).length = ruLn Z := by
  have hv0 : ∀ x ∈ Z.2.2.2.1.map nR0, vR x := fun x hx => by
    obtain ⟨R, R1, R2⟩ := List.mem_map.mp hx
    rw [← R2]
    exact (nR0_v ho hn R1).1
  have hvm : ∀ x ∈ Z.2.2.2.1.map (nRl Z.1 Z.2.1 m), vR x := fun x hx => by
    obtain ⟨R, R1, R2⟩ := List.mem_map.mp hx
    rw [← R2]
    exact nRl_v ho hn hm R1
  have e1 : sumN (fun R => (tRule R).length) (nrL Z m) = sumN (fun R => (tRule R).length) ((srtR (Z.2.2.2.1.map nR0)).map (nRl Z.1 Z.2.1 m)) := by
    refine sumN_same (ris_nodup (srtR_ris _)) (nodup_map_of (ris_nodup (srtR_ris _)) (fun x hx y hy e => ?_)) (fun x => ?_)
    · obtain ⟨R, R1, R2⟩ := List.mem_map.mp (srtR_sub hx)
      obtain ⟨S, S1, S2⟩ := List.mem_map.mp (srtR_sub hy)
      rw [← R2, ← S2, nR_0m ho R1, nR_0m ho S1] at e
      have h1 := nR_m0 ho hm R1
      have h2 := nR_m0 ho hm S1
      rw [e] at h1
      rw [← R2, ← S2, ← h1, ← h2]
    · unfold nrL
      rw [srtR_mem hvm, List.mem_map, List.mem_map]
      constructor
      · rintro ⟨R, R1, R2⟩
        exact ⟨nR0 R, (srtR_mem hv0 _).mpr (List.mem_map.mpr ⟨R, R1, rfl⟩), by rw [nR_0m ho R1]; exact R2⟩
      · rintro ⟨y, y1, y2⟩
        obtain ⟨R, R1, R2⟩ := List.mem_map.mp (srtR_sub y1)
        refine ⟨R, R1, ?_⟩
        rw [← R2, nR_0m ho R1] at y2
        exact y2
  rw [fm_sum, e1, sumN_map]
  unfold ruLn
  refine sumN_congr (fun x hx => ?_)
  obtain ⟨R, R1, R2⟩ := List.mem_map.mp (srtR_sub hx)
  have v0 := nR0_v ho hn R1
  have vm := nRl_v ho hn hm R1
  have h9 := pz_n ho
  have hRok := ho.2.2.2.2.2.2.2.1 R R1
  have hv := vrR_ok ⟨ho.1, ho.2.1⟩ ⟨ho.2.2.1, ho.2.2.2.1⟩ hm hRok
  have hlm : (nRl Z.1 Z.2.1 m R).2.2.length = R.2.2.length := by
    show (orC R.1 (R.2.2.map (mpC Z.1 Z.2.1 m))).length = _
    have hnd2 : (R.2.2.map (mpC Z.1 Z.2.1 m)).Nodup := hv.2.2.2.2.2.2.2
    rw [orC_len hnd2 (fun c hc => by have : 0 ≤ c ∧ c < Z.1 * Z.2.1 := hv.2.2.2.2.2.2.1 c hc; omega), List.length_map]
  rw [← R2, nR_0m ho R1, tRule_len (vR_c vm).1, tRule_len (vR_c v0.1).1, hlm, v0.2]
  rfl
/-- how many are given -/
def gCn (Z : PZ) : Nat := sumN (fun c : Nat => if 0 ≤ Z.2.2.2.2.getD c (-1) then 1 else 0) (List.range (Z.1 * Z.2.1).toNat)
theorem tGive_len {Y : PZ} {c : Nat} (hc : c < 9) (hs : Y.2.2.2.2.getD c (-1) < 10) : (tGive Y c).length = 9 * (if 0 ≤ Y.2.2.2.2.getD c (-1) then 1 else 0) := by
  unfold tGive
  by_cases h : 0 ≤ Y.2.2.2.2.getD c (-1)
  · rw [if_pos h, if_pos h, List.length_append, List.length_append, show ([59, 103, 105, 118, 101, 32] : List Int).length = 6 from rfl, List.length_cons, dgs_b1 ⟨by omega, by omega⟩, dgs_b1 ⟨h, hs⟩]
  · rw [if_neg h, if_neg h]
    rfl
theorem sumN_9 {α : Type} {f : α → Nat} : ∀ {l : List α}, sumN (fun x => 9 * f x) l = 9 * sumN f l
  | [] => rfl
  | a :: l => by
    rw [sumN, sumN_9, sumN]
    omega
theorem gives_len {Y : PZ} (ho : pz_ok Y) : ((List.range (Y.1 * Y.2.1).toNat).flatMap (tGive Y)).length = 9 * gCn Y := by
  have h9 := pz_n ho
  rw [fm_sum]
  unfold gCn
  rw [← sumN_9]
  refine sumN_congr (fun c hc => tGive_len ?_ ?_)
  · have := List.mem_range.mp hc
    omega
  · have hcl := List.mem_range.mp hc
    have hlt : c < Y.2.2.2.2.length := by
      rw [ho.2.2.2.2.2.2.2.2.1]
      omega
    have hgm : Y.2.2.2.2.getD c (-1) ∈ Y.2.2.2.2 := by
      rw [List.getD_eq_getElem?_getD, List.getElem?_eq_getElem hlt]
      exact List.getElem_mem hlt
    have := ho.2.2.2.2.2.2.2.2.2.1 _ hgm
    have := ho.2.2.2.2.2.1
    omega
theorem gCn_vr (ho : pz_ok Z) (hm : 0 ≤ m ∧ m < mps Z.1 Z.2.1) {k : Nat} (hk : k < fcN Z.2.2.1.toNat) : sumN (fun c : Nat => if 0 ≤ (vrG Z m (rnm Z.2.2.1.toNat k)).getD c (-1) then 1 else 0) (List.range (Z.1 * Z.2.1).toNat) = gCn Z := by
  have h9 := pz_n ho
  have o1 := ho.1
  have o2 := ho.2.1
  have o3 := ho.2.2.1
  have o4 := ho.2.2.2.1
  have o5 := ho.2.2.2.2.1
  have o6 := ho.2.2.2.2.2.1
  have hI := mpI_ok hm
  have one : ∀ c : Nat, c < (Z.1 * Z.2.1).toNat → 0 ≤ mpC Z.1 Z.2.1 (mpI m) (c : Int) ∧ mpC Z.1 Z.2.1 (mpI m) (c : Int) < Z.1 * Z.2.1 ∧ mpC Z.1 Z.2.1 m (mpC Z.1 Z.2.1 (mpI m) (c : Int)) = (c : Int) := fun c hc => by
    have := mp_one ⟨o1, o2⟩ ⟨o3, o4⟩ ⟨hI.1, hI.2.1⟩ (c := (c : Int)) ⟨by omega, by omega⟩
    rw [hI.2.2] at this
    exact this
  have e1 : sumN (fun c : Nat => if 0 ≤ (vrG Z m (rnm Z.2.2.1.toNat k)).getD c (-1) then 1 else 0) (List.range (Z.1 * Z.2.1).toNat) = sumN (fun c : Nat => if 0 ≤ Z.2.2.2.2.getD c (-1) then 1 else 0) ((List.range (Z.1 * Z.2.1).toNat).map (fun c : Nat => (mpC Z.1 Z.2.1 (mpI m) (c : Int)).toNat)) := by
    rw [sumN_map]
    refine sumN_congr (fun c hc => ?_)
    have hcl := List.mem_range.mp hc
    unfold vrG
    rw [getD_map9 (by omega)]
    have ev : vrg Z m (rnm Z.2.2.1.toNat k) (c : Int) = (if Z.2.2.2.2.getD (mpC Z.1 Z.2.1 (mpI m) (c : Int)).toNat (-1) < 0 then -1 else (rnm Z.2.2.1.toNat k).getD (Z.2.2.2.2.getD (mpC Z.1 Z.2.1 (mpI m) (c : Int)).toNat (-1)).toNat 0) := by
      unfold vrg
      rw [if_pos ⟨by omega, by omega⟩]
    rw [ev]
    generalize (mpC Z.1 Z.2.1 (mpI m) (c : Int)).toNat = q
    by_cases h0 : Z.2.2.2.2.getD q (-1) < 0
    · rw [if_pos h0, if_neg (by decide), if_neg (by omega)]
    · rw [if_neg h0]
      have hlt : q < Z.2.2.2.2.length := by
        by_cases hx : q < Z.2.2.2.2.length
        · exact hx
        · rw [List.getD_eq_getElem?_getD, List.getElem?_eq_none (by omega)] at h0
          exact absurd (show (-1 : Int) < 0 by decide) h0
      have hgm : Z.2.2.2.2.getD q (-1) ∈ Z.2.2.2.2 := by
        rw [List.getD_eq_getElem?_getD, List.getElem?_eq_getElem hlt]
        exact List.getElem_mem hlt
      have hgb := ho.2.2.2.2.2.2.2.2.2.1 _ hgm
      have := rnm_get (s := Z.2.2.1.toNat) (k := k) ⟨by omega, by omega⟩ hk (i := (Z.2.2.2.2.getD q (-1)).toNat) (by omega)
      rw [if_pos this.1, if_pos (by omega)]
  rw [e1]
  unfold gCn
  refine sumN_same (nodup_map_of List.nodup_range (fun x hx y hy e => ?_)) List.nodup_range (fun x => ?_)
  · have hx1 := one x (List.mem_range.mp hx)
    have hy1 := one y (List.mem_range.mp hy)
    have e2 : mpC Z.1 Z.2.1 (mpI m) (x : Int) = mpC Z.1 Z.2.1 (mpI m) (y : Int) := by omega
    have h1 := hx1.2.2
    rw [e2, hy1.2.2] at h1
    omega
  · rw [List.mem_map, List.mem_range]
    constructor
    · rintro ⟨y, y1, y2⟩
      have := one y (List.mem_range.mp y1)
      omega
    · intro hx
      have := mp_one ⟨o1, o2⟩ ⟨o3, o4⟩ hm (c := (x : Int)) ⟨by omega, by omega⟩
      refine ⟨(mpC Z.1 Z.2.1 m (x : Int)).toNat, List.mem_range.mpr (by omega), ?_⟩
      rw [show (((mpC Z.1 Z.2.1 m (x : Int)).toNat : Nat) : Int) = mpC Z.1 Z.2.1 m (x : Int) by omega, this.2.2]
      omega
/-- a variant whose rules are in order -/
def nvZ (Z : PZ) (m : Int) (k : Nat) : PZ := (Z.1, Z.2.1, Z.2.2.1, nrL Z m, vrG Z m (rnm Z.2.2.1.toNat k))
theorem nvZ_ok (ho : pz_ok Z) (hm : 0 ≤ m ∧ m < mps Z.1 Z.2.1) {k : Nat} (hk : k < fcN Z.2.2.1.toNat) : pz_ok (nvZ Z m k) := by
  have hv := vrZ_ok ho hm hk
  have hl := nrL_len (Z := Z) (m := m)
  have h12 := ho.2.2.2.2.2.2.1
  obtain ⟨o1, o2, o3, o4, o5, o6, o7, o8, o9⟩ := hv
  refine ⟨o1, o2, o3, o4, o5, o6, by show (nrL Z m).length ≤ 12; omega, fun R hR => ?_, o9⟩
  obtain ⟨X, x1, x2⟩ := List.mem_map.mp (srtR_sub hR)
  rw [← x2]
  exact nRl_ok ⟨ho.1, ho.2.1⟩ ⟨ho.2.2.1, ho.2.2.2.1⟩ hm (ho.2.2.2.2.2.2.2.1 X x1)
theorem nv_len (ho : pz_ok Z) (hn : pnZ Z) (hm : 0 ≤ m ∧ m < mps Z.1 Z.2.1) {k : Nat} (hk : k < fcN Z.2.2.1.toNat) : (tText (nvZ Z m k)).length = 9 + ruLn Z + 9 * gCn Z := by
  have hok := nvZ_ok ho hm hk
  have h1 := gives_len hok
  have h2 := gCn_vr ho hm hk
  have h3 := rules_len ho hn hm
  have l1 := dgs_b1 (v := Z.1) ⟨by have := ho.1; omega, by have := ho.2.1; omega⟩
  have l2 := dgs_b1 (v := Z.2.1) ⟨by have := ho.2.2.1; omega, by have := ho.2.2.2.1; omega⟩
  have l3 := dgs_b1 (v := Z.2.2.1) ⟨by have := ho.2.2.2.2.1; omega, by have := ho.2.2.2.2.2.1; omega⟩
  have h4 : gCn (nvZ Z m k) = gCn Z := h2
  rw [h4] at h1
  rw [tText_e]
  simp only [List.length_append, List.length_cons, List.length_nil]
  have h5 : (nvZ Z m k).2.2.2.1.flatMap tRule = (nrL Z m).flatMap tRule := rfl
  have h6 : (nvZ Z m k).1 = Z.1 ∧ (nvZ Z m k).2.1 = Z.2.1 ∧ (nvZ Z m k).2.2.1 = Z.2.2.1 := ⟨rfl, rfl, rfl⟩
  rw [h5, h3, h1, h6.1, h6.2.1, h6.2.2, l1, l2, l3]
  omega
end LEN
