/-! FORMS: a puzzle turned and renamed. -/
def vrR (w h m : Int) (R : PR) : PR := (R.1, R.2.1, R.2.2.map (mpC w h m))
/-- the given of a cell of the variant -/
def vrg (Z : PZ) (m : Int) (r : List Int) (j : Int) : Int := if 0 ≤ j ∧ j < Z.1 * Z.2.1 then (if Z.2.2.2.2.getD (mpC Z.1 Z.2.1 (mpI m) j).toNat (-1) < 0 then -1 else r.getD (Z.2.2.2.2.getD (mpC Z.1 Z.2.1 (mpI m) j).toNat (-1)).toNat 0) else -1
def vrG (Z : PZ) (m : Int) (r : List Int) : List Int := (List.range 9).map (fun j : Nat => vrg Z m r (j : Int))
def vrZ (Z : PZ) (m : Int) (k : Nat) : PZ := (Z.1, Z.2.1, Z.2.2.1, Z.2.2.2.1.map (vrR Z.1 Z.2.1 m), vrG Z m (rnm Z.2.2.1.toNat k))
theorem getD_map9 {f : Nat → Int} {j : Nat} (h : j < 9) : ((List.range 9).map f).getD j (-1) = f j := by
  rw [List.getD_eq_getElem?_getD, List.getElem?_map, List.getElem?_range h]
  rfl
theorem getD_map9n {f : Nat → Int} {j : Nat} (h : 9 ≤ j) : ((List.range 9).map f).getD j (-1) = -1 := by
  rw [List.getD_eq_getElem?_getD, List.getElem?_eq_none (by rw [List.length_map, List.length_range]; exact h)]
  rfl
theorem rnm_b {s k : Nat} (hs : 1 ≤ s ∧ s ≤ 4) (hk : k < fcN s) : (rnm s k).length = s ∧ (rnm s k).Nodup ∧ ∀ c ∈ rnm s k, 0 ≤ c ∧ c < (s : Int) := by
  have h24 := fcN_24 hs.2
  exact rnm_ok ⟨s, by omega⟩ ⟨k, by omega⟩ hk
theorem rnm_get {s k : Nat} (hs : 1 ≤ s ∧ s ≤ 4) (hk : k < fcN s) {i : Nat} (hi : i < s) : 0 ≤ (rnm s k).getD i 0 ∧ (rnm s k).getD i 0 < (s : Int) := by
  obtain ⟨h1, _, h3⟩ := rnm_b hs hk
  rw [List.getD_eq_getElem?_getD, List.getElem?_eq_getElem (by omega)]
  exact h3 _ (List.getElem_mem (by omega))
theorem vrR_ok {w h m : Int} {R : PR} (hw : 1 ≤ w ∧ w ≤ 3) (hh : 1 ≤ h ∧ h ≤ 3) (hm : 0 ≤ m ∧ m < mps w h) (hR : pr_ok (w * h) R) : pr_ok (w * h) (vrR w h m R) := by
  obtain ⟨r1, r2, r3, r4, r5, r6, r7, r8⟩ := hR
  refine ⟨r1, r2, r3, r4, by show 1 ≤ (R.2.2.map (mpC w h m)).length; rw [List.length_map]; exact r5, by show (R.2.2.map (mpC w h m)).length ≤ 4; rw [List.length_map]; exact r6, fun c hc => ?_, ?_⟩
  · obtain ⟨x, x1, x2⟩ := List.mem_map.mp hc
    have := mp_one hw hh hm (r7 x x1)
    rw [← x2]
    exact ⟨this.1, this.2.1⟩
  · show (R.2.2.map (mpC w h m)).Nodup
    unfold List.Nodup
    rw [List.pairwise_map]
    exact r8.imp_of_mem (fun ha hb hne e => hne (mp_inj hw hh hm (r7 _ ha) (r7 _ hb) e))
theorem vrg_b {Z : PZ} (ho : pz_ok Z) {m : Int} (hm : 0 ≤ m ∧ m < mps Z.1 Z.2.1) {k : Nat} (hk : k < fcN Z.2.2.1.toNat) (j : Int) : -1 ≤ vrg Z m (rnm Z.2.2.1.toNat k) j ∧ vrg Z m (rnm Z.2.2.1.toNat k) j < Z.2.2.1 := by
  have h5 := ho.2.2.2.2.1
  have h6 := ho.2.2.2.2.2.1
  unfold vrg
  split
  · split
    · omega
    · rename_i h0
      generalize (mpC Z.1 Z.2.1 (mpI m) j).toNat = i at h0 ⊢
      have hlt : i < Z.2.2.2.2.length := by
        by_cases hx : i < Z.2.2.2.2.length
        · exact hx
        · rw [List.getD_eq_getElem?_getD, List.getElem?_eq_none (by omega)] at h0
          exact absurd (show (-1 : Int) < 0 by decide) h0
      have hm2 : Z.2.2.2.2.getD i (-1) ∈ Z.2.2.2.2 := by
        rw [List.getD_eq_getElem?_getD, List.getElem?_eq_getElem hlt]
        exact List.getElem_mem hlt
      have hb := ho.2.2.2.2.2.2.2.2.2.1 _ hm2
      have := rnm_get (s := Z.2.2.1.toNat) (k := k) ⟨by omega, by omega⟩ hk (i := (Z.2.2.2.2.getD i (-1)).toNat) (by omega)
      omega
  · omega
theorem vrZ_ok {Z : PZ} (ho : pz_ok Z) {m : Int} (hm : 0 ≤ m ∧ m < mps Z.1 Z.2.1) {k : Nat} (hk : k < fcN Z.2.2.1.toNat) : pz_ok (vrZ Z m k) := by
  have h9 := pz_n ho
  have hb := vrg_b ho hm hk
  obtain ⟨o1, o2, o3, o4, o5, o6, o7, o8, o9, o10, o11⟩ := ho
  refine ⟨o1, o2, o3, o4, o5, o6, ?_, fun R hR => ?_, ?_, fun s hs => ?_, fun c hc => ?_⟩
  · show (Z.2.2.2.1.map (vrR Z.1 Z.2.1 m)).length ≤ 12
    rw [List.length_map]
    exact o7
  · obtain ⟨X, x1, x2⟩ := List.mem_map.mp hR
    rw [← x2]
    exact vrR_ok ⟨o1, o2⟩ ⟨o3, o4⟩ hm (o8 X x1)
  · show (vrG Z m (rnm Z.2.2.1.toNat k)).length = 9
    unfold vrG
    rw [List.length_map, List.length_range]
  · obtain ⟨j, j1, j2⟩ := List.mem_map.mp hs
    rw [← j2]
    exact hb j
  · show (vrG Z m (rnm Z.2.2.1.toNat k)).getD c (-1) = -1
    unfold vrG
    by_cases h : c < 9
    · rw [getD_map9 h]
      unfold vrg
      rw [if_neg (fun x => by have : Z.1 * Z.2.1 ≤ (c : Int) := hc; omega)]
    · exact getD_map9n (by omega)
section MPD
variable {kc : List va_E} {d p : Nat} {Q : Option fx_V → fx_M → Prop} {M : fx_M} {Z : PZ} {u : Int}
theorem and_b : ∀ m : Fin 8, (0 ≤ fx_and ((m : Nat) : Int) 1 ∧ fx_and ((m : Nat) : Int) 1 ≤ 8) ∧ (0 ≤ fx_and ((m : Nat) : Int) 2 ∧ fx_and ((m : Nat) : Int) 2 ≤ 8) ∧ (0 ≤ fx_and ((m : Nat) : Int) 4 ∧ fx_and ((m : Nat) : Int) 4 ≤ 8) := by decide +kernel
theorem mps_8 {w h m : Int} (hm : 0 ≤ m ∧ m < mps w h) : m < 8 := by
  unfold mps at hm
  split at hm <;> omega
theorem sp_mapped {m c : Int} (Hp : fx_puz p) (hz : cz M p Z) (ho : pz_ok Z) (hm : 0 ≤ m ∧ m < mps Z.1 Z.2.1) (hc : 0 ≤ c ∧ c ≤ 9) (K : Q (some (jI (if c < Z.1 * Z.2.1 then mpC Z.1 Z.2.1 m c else c))) M) : wc kc (d + 1) 151 [jR p, jI m, jI c] M Q := by
  have h9 := pz_n ho
  have h8 := mps_8 hm
  obtain ⟨o1, o2, o3, o4, _⟩ := ho
  have ha := and_b ⟨m.toNat, by omega⟩
  dsimp only at ha
  rw [show ((m.toNat : Nat) : Int) = m by omega] at ha
  refine s151 Hp ?_
  rw [hz.1, hz.2.1, hz.2.2.1, if_neg (show ¬ Z.1 < 1 by omega)]
  refine ⟨⟨⟨by omega, by omega⟩, ⟨by omega, by omega⟩⟩, fun hlt => ?_, fun hge => ?_⟩
  · rw [if_pos hlt] at K
    exact ⟨⟨by omega, by omega⟩, ⟨⟨by omega, by omega⟩, ⟨by omega, by omega⟩⟩, ⟨⟨by omega, by omega⟩, ⟨by omega, by omega⟩⟩, ⟨by omega, by omega⟩, ⟨by omega, by omega⟩, ⟨by omega, by omega⟩, K⟩
  · rw [if_neg (by omega)] at K
    exact K
theorem sp_mmapped {m c : Int} (hu : 0 ≤ u ∧ u < 10) (hz : mz M u Z) (ho : pz_ok Z) (hm : 0 ≤ m ∧ m < mps Z.1 Z.2.1) (hc : 0 ≤ c ∧ c < 9) (K : Q (some (jI (mpC Z.1 Z.2.1 m c))) M) : wc kc (d + 1) 291 [jR 133, jI u, jI m, jI c] M Q := by
  have h8 := mps_8 hm
  obtain ⟨o1, o2, o3, o4, _⟩ := ho
  have ha := and_b ⟨m.toNat, by omega⟩
  dsimp only at ha
  rw [show ((m.toNat : Nat) : Int) = m by omega] at ha
  refine s291 ?_
  rw [hz.1, hz.2.1]
  exact ⟨hu, hu, ⟨⟨by omega, by omega⟩, ⟨by omega, by omega⟩⟩, ⟨⟨by omega, by omega⟩, ⟨by omega, by omega⟩⟩, ⟨by omega, by omega⟩, ⟨by omega, by omega⟩, ⟨by omega, by omega⟩, K⟩
end MPD
/-- amid the giving: the cells before c are done -/
def vgi (Z : PZ) (m : Int) (r : List Int) (c : Nat) : List Int := (List.range 9).map (fun j : Nat => if 0 ≤ (j : Int) ∧ (j : Int) < Z.1 * Z.2.1 ∧ mpC Z.1 Z.2.1 (mpI m) (j : Int) < (c : Int) then vrg Z m r (j : Int) else -1)
theorem mpI_ok {w h m : Int} (hm : 0 ≤ m ∧ m < mps w h) : 0 ≤ mpI m ∧ mpI m < mps w h ∧ mpI (mpI m) = m := by
  unfold mpI mps at *
  split at hm
  · rename_i e
    rw [if_pos e]
    split
    · rename_i e5
      refine ⟨by omega, by omega, ?_⟩
      rw [if_neg (by decide), if_pos rfl, e5]
    · split
      · rename_i e6
        refine ⟨by omega, by omega, ?_⟩
        rw [if_pos rfl, e6]
      · rename_i n5 n6
        exact ⟨by omega, by omega, rfl⟩
  · rename_i e
    rw [if_neg e, if_neg (by omega), if_neg (by omega), if_neg (by omega), if_neg (by omega)]
    exact ⟨hm.1, hm.2, rfl⟩
theorem vgi_0 {Z : PZ} (ho : pz_ok Z) {m : Int} (hm : 0 ≤ m ∧ m < mps Z.1 Z.2.1) {r : List Int} : vgi Z m r 0 = List.replicate 9 (-1) := by
  obtain ⟨o1, o2, o3, o4, _⟩ := ho
  have hI := mpI_ok hm
  refine List.ext_getElem? (fun j => ?_)
  unfold vgi
  rw [List.getElem?_map, List.getElem?_replicate]
  by_cases hj : j < 9
  · rw [List.getElem?_range hj, if_pos hj]
    dsimp only [Option.map]
    rw [if_neg (fun x => by
      have := mp_one ⟨o1, o2⟩ ⟨o3, o4⟩ ⟨hI.1, hI.2.1⟩ ⟨x.1, x.2.1⟩
      omega)]
  · rw [List.getElem?_eq_none (by rw [List.length_range]; omega), if_neg hj]
    rfl
theorem vgi_n {Z : PZ} (ho : pz_ok Z) {m : Int} (hm : 0 ≤ m ∧ m < mps Z.1 Z.2.1) {r : List Int} : vgi Z m r (Z.1 * Z.2.1).toNat = vrG Z m r := by
  have h9 := pz_n ho
  obtain ⟨o1, o2, o3, o4, _⟩ := ho
  have hI := mpI_ok hm
  unfold vgi vrG
  refine List.map_congr_left (fun j hj => ?_)
  have hj9 := List.mem_range.mp hj
  by_cases hc : (j : Int) < Z.1 * Z.2.1
  · have := mp_one ⟨o1, o2⟩ ⟨o3, o4⟩ ⟨hI.1, hI.2.1⟩ (c := (j : Int)) ⟨by omega, hc⟩
    rw [if_pos ⟨by omega, hc, by omega⟩]
  · rw [if_neg (fun x => hc x.2.1)]
    unfold vrg
    rw [if_neg (fun x => hc x.2)]
theorem vgi_s {Z : PZ} (ho : pz_ok Z) {m : Int} (hm : 0 ≤ m ∧ m < mps Z.1 Z.2.1) {r : List Int} {c : Nat} (hc : (c : Int) < Z.1 * Z.2.1) : vgi Z m r (c + 1) = (vgi Z m r c).set (mpC Z.1 Z.2.1 m (c : Int)).toNat (if Z.2.2.2.2.getD c (-1) < 0 then -1 else r.getD (Z.2.2.2.2.getD c (-1)).toNat 0) := by
  have h9 := pz_n ho
  obtain ⟨o1, o2, o3, o4, _⟩ := ho
  have hI := mpI_ok hm
  have h1 := mp_one ⟨o1, o2⟩ ⟨o3, o4⟩ hm (c := (c : Int)) ⟨by omega, hc⟩
  refine List.ext_getElem? (fun j => ?_)
  have hlen : (vgi Z m r c).length = 9 := by
    unfold vgi
    rw [List.length_map, List.length_range]
  rw [List.getElem?_set, hlen]
  by_cases hj : j < 9
  · have get : ∀ n : Nat, (vgi Z m r n)[j]? = some (if 0 ≤ (j : Int) ∧ (j : Int) < Z.1 * Z.2.1 ∧ mpC Z.1 Z.2.1 (mpI m) (j : Int) < (n : Int) then vrg Z m r (j : Int) else -1) := fun n => by
      unfold vgi
      rw [List.getElem?_map, List.getElem?_range hj]
      rfl
    rw [get, get]
    by_cases e : (mpC Z.1 Z.2.1 m (c : Int)).toNat = j
    · have ej : (j : Int) = mpC Z.1 Z.2.1 m (c : Int) := by omega
      rw [if_pos e, if_pos (show (mpC Z.1 Z.2.1 m (c : Int)).toNat < 9 by omega)]
      congr 1
      rw [if_pos ⟨by omega, by omega, by rw [ej, h1.2.2]; omega⟩]
      unfold vrg
      rw [if_pos ⟨by omega, by omega⟩, ej, h1.2.2, Int.toNat_natCast]
    · rw [if_neg e]
      congr 1
      by_cases hjn : (j : Int) < Z.1 * Z.2.1
      · have h2 := mp_one ⟨o1, o2⟩ ⟨o3, o4⟩ ⟨hI.1, hI.2.1⟩ (c := (j : Int)) ⟨by omega, hjn⟩
        rw [hI.2.2] at h2
        have hne : mpC Z.1 Z.2.1 (mpI m) (j : Int) ≠ (c : Int) := fun x => e (by
          have h3 := h2.2.2
          rw [x] at h3
          omega)
        by_cases hlt : mpC Z.1 Z.2.1 (mpI m) (j : Int) < (c : Int)
        · rw [if_pos ⟨by omega, hjn, by omega⟩, if_pos ⟨by omega, hjn, hlt⟩]
        · rw [if_neg (by omega), if_neg (by omega)]
      · rw [if_neg (fun x => hjn x.2.1), if_neg (fun x => hjn x.2.1)]
  · rw [List.getElem?_eq_none (by unfold vgi; rw [List.length_map, List.length_range]; omega), List.getElem?_eq_none (by rw [hlen]; omega)]
    split
    · rw [if_neg (by omega)]
    · rfl
