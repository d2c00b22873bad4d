/-! FORMS: the rules of a variant in order; the class compares two lists of keys. -/
def insR (R : PR) : List PR → List PR
  | [] => [R]
  | a :: l => if kyR a < kyR R then a :: insR R l else if kyR a = kyR R then a :: l else R :: a :: l
def srtR (L : List PR) : List PR := L.foldl (fun s R => insR R s) []
theorem insR_ky {R : PR} : ∀ {l : List PR}, (insR R l).map kyR = insK (kyR R) (l.map kyR)
  | [] => rfl
  | a :: l => by
    rw [insR, List.map_cons, insK]
    split
    · rw [List.map_cons, insR_ky]
    · split
      · rfl
      · rfl
theorem srtR_ky (L : List PR) : (srtR L).map kyR = srtK (L.map kyR) := by
  have gen : ∀ (L S : List PR), (L.foldl (fun s R => insR R s) S).map kyR = (L.map kyR).foldl (fun s k => insK k s) (S.map kyR) := by
    intro L
    induction L with
    | nil => exact fun S => rfl
    | cons R L ih =>
      intro S
      rw [List.foldl_cons, ih, insR_ky, List.map_cons, List.foldl_cons]
  exact gen L []
theorem insR_sub {R : PR} : ∀ {l : List PR} {x : PR}, x ∈ insR R l → x = R ∨ x ∈ l
  | [], x, h => Or.inl (List.mem_singleton.mp h)
  | a :: l, x, h => by
    rw [insR] at h
    split at h
    · rcases List.mem_cons.mp h with e | e
      · exact Or.inr (by rw [e]; exact List.mem_cons_self ..)
      · rcases insR_sub e with y | y
        · exact Or.inl y
        · exact Or.inr (List.mem_cons_of_mem _ y)
    · split at h
      · exact Or.inr h
      · exact List.mem_cons.mp h
theorem srtR_sub {L : List PR} {x : PR} (h : x ∈ srtR L) : x ∈ L := by
  have gen : ∀ (L S : List PR) (x : PR), x ∈ L.foldl (fun s R => insR R s) S → x ∈ L ∨ x ∈ S := by
    intro L
    induction L with
    | nil => exact fun S x h => Or.inr h
    | cons R L ih =>
      intro S x h
      rcases ih _ x h with e | e
      · exact Or.inl (List.mem_cons_of_mem _ e)
      · rcases insR_sub e with y | y
        · exact Or.inl (by rw [y]; exact List.mem_cons_self ..)
        · exact Or.inr y
  rcases gen L [] x h with e | e
  · exact e
  · cases e
theorem srtR_mem {L : List PR} (hL : ∀ x ∈ L, vR x) (x : PR) : x ∈ srtR L ↔ x ∈ L := by
  refine ⟨srtR_sub, fun h => ?_⟩
  have h1 : kyR x ∈ srtK (L.map kyR) := ((srtK_ok (L.map kyR)).2 _).mpr (List.mem_map.mpr ⟨x, h, rfl⟩)
  rw [← srtR_ky] at h1
  obtain ⟨y, y1, y2⟩ := List.mem_map.mp h1
  rw [← ky_inj (hL y (srtR_sub y1)) (hL x h) y2]
  exact y1
theorem srtR_ris (L : List PR) : ris kyR (srtR L) := by
  have := (srtK_ok (L.map kyR)).1
  rw [← srtR_ky] at this
  unfold ris at this ⊢
  rw [List.pairwise_map] at this
  exact this
/-- the rules of a variant, in order -/
def nrL (Z : PZ) (m : Int) : List PR := srtR (Z.2.2.2.1.map (nRl Z.1 Z.2.1 m))
def pnZ (Z : PZ) : Prop := ∀ R ∈ Z.2.2.2.1, pnR R
theorem kyL_nr {Z : PZ} {m : Int} : kyL Z m = (nrL Z m).map kyR := by
  unfold kyL nrL
  rw [srtR_ky, List.map_map]
  rfl
theorem nRl_v {Z : PZ} {m : Int} (ho : pz_ok Z) (hn : pnZ Z) (hm : 0 ≤ m ∧ m < mps Z.1 Z.2.1) {R : PR} (hR : R ∈ Z.2.2.2.1) : vR (nRl Z.1 Z.2.1 m R) := by
  have h9 := pz_n ho
  obtain ⟨r1, r2, r3, r4, r5, r6, r7, r8⟩ := nRl_ok ⟨ho.1, ho.2.1⟩ ⟨ho.2.2.1, ho.2.2.2.1⟩ hm (ho.2.2.2.2.2.2.2.1 R hR)
  refine ⟨⟨r1, r2, r3, r4, r5, r6, fun c hc => ?_, r8⟩, hn R hR⟩
  have := r7 c hc
  omega
theorem nrL_v {Z : PZ} {m : Int} (ho : pz_ok Z) (hn : pnZ Z) (hm : 0 ≤ m ∧ m < mps Z.1 Z.2.1) : ∀ x ∈ nrL Z m, vR x := fun x hx => by
  obtain ⟨R, R1, R2⟩ := List.mem_map.mp (srtR_sub hx)
  rw [← R2]
  exact nRl_v ho hn hm R1
theorem nrL_len {Z : PZ} {m : Int} : (nrL Z m).length ≤ Z.2.2.2.1.length := by
  have h := srtK_len ((Z.2.2.2.1.map (nRl Z.1 Z.2.1 m)).map kyR)
  rw [← srtR_ky, List.length_map, List.length_map, List.length_map] at h
  exact h
def cmp3 (a b : Int) : Int := if a < b then -1 else if a = b then 0 else 1
def cmpL : List PR → List PR → Int
  | a :: S, b :: T => if a = b then cmpL S T else cmp3 (clK a) (clK b)
  | S, T => cmp3 S.length T.length
/-- the keys kept -/
def kys (M : fx_M) (f : Nat) (T : List PR) : Prop := M f 3 = T.length ∧ ∀ (i : Nat) (R : PR), T[i]? = some R → M (f + 1) (i : Int) = kyR R
theorem vR_kb {R : PR} (h : vR R) : 0 ≤ kyR R ∧ kyR R < 134217728 ∧ 0 ≤ clK R ∧ clK R < 134217728 := by
  obtain ⟨a1, a2, a3, a4, a5⟩ := vR_c h
  have d := dgt_b a5
  have p1 := pad_b (n := 4) a1
  have p2 := padF_b (n := 4) a1
  rw [p16_4] at p1 p2
  rw [ky_pad h, cl_pad h]
  omega
section CMP
variable {kc : List va_E} {d f : Nat} {Q : Option fx_V → fx_M → Prop} {M : fx_M}
theorem sp_compare {a b : Int} (ha : fx_in32 a) (hb : fx_in32 b) (K : Q (some (jI (cmp3 a b))) M) : wc kc (d + 1) 154 [jI a, jI b] M Q := s154 ⟨ha, hb, fun _ => ha, fun _ => hb, K⟩
theorem sp_compareTrial {S T : List PR} (Hf : fx_frm f) (hS : trl M f (S.map kyR)) (hT : kys M f T) (vS : ∀ x ∈ S, vR x) (vT : ∀ x ∈ T, vR x) (hl : S.length ≤ 12 ∧ T.length ≤ 12) (K : Q (some (jI (cmpL S T))) M) : wc kc (d + 2) 152 [jR f] M Q := by
  obtain ⟨s1, s2⟩ := hS
  obtain ⟨t1, t2⟩ := hT
  rw [List.length_map] at s1
  have c3 : ∀ i : Nat, i ≤ S.length → i ≤ T.length → cmp3 ((S.drop i).length : Nat) ((T.drop i).length : Nat) = cmp3 S.length T.length := fun i h1 h2 => by
    rw [List.length_drop, List.length_drop]
    unfold cmp3
    by_cases h : (S.length : Int) < T.length
    · rw [if_pos h, if_pos (by omega)]
    · by_cases e : (S.length : Int) = T.length
      · rw [if_neg h, if_pos e, if_neg (by omega), if_pos (by omega)]
      · rw [if_neg h, if_neg e, if_neg (by omega), if_neg (by omega)]
  have z : ∀ (u i : Nat), i + u = S.length → i ≤ T.length → cmpL (S.drop i) (T.drop i) = cmpL S T → wp kc (d + 2) 152 2 [some (jR f), some (jI i)] [] M Q := by
    intro u
    induction u with
    | zero =>
      intro i hi hiT he
      have e1 : cmpL (S.drop i) (T.drop i) = cmp3 S.length T.length := by
        rw [← c3 i (by omega) hiT, List.drop_eq_nil_of_le (show S.length ≤ i by omega)]
        cases T.drop i <;> rfl
      rw [← he, e1] at K
      refine s152_2 Hf ?_
      rw [s1, t1]
      exact ⟨⟨⟨by omega, by omega⟩, ⟨by omega, by omega⟩⟩, fun _ => sp_compare (d := d) ⟨by omega, by omega⟩ ⟨by omega, by omega⟩ (s152_72 Hf K), fun h => by omega⟩
    | succ u ih =>
      intro i hi hiT he
      have hiS : i < S.length := by omega
      by_cases hT2 : i < T.length
      · have gS := List.getElem?_eq_getElem hiS
        have gT := List.getElem?_eq_getElem hT2
        have kS : M (f + 2) (i : Int) = kyR S[i] := s2 i _ (by rw [List.getElem?_map, gS]; rfl)
        have kT : M (f + 1) (i : Int) = kyR T[i] := t2 i _ gT
        have v1 := vS _ (List.getElem_mem hiS)
        have v2 := vT _ (List.getElem_mem hT2)
        have b1 := vR_kb v1
        have b2 := vR_kb v2
        rw [List.drop_eq_getElem_cons hiS, List.drop_eq_getElem_cons hT2, cmpL] at he
        refine s152_2 Hf ?_
        rw [s1, t1, kS, kT]
        refine ⟨⟨⟨by omega, by omega⟩, ⟨by omega, by omega⟩⟩, fun h => by omega, fun _ => ⟨⟨⟨by omega, by omega⟩, ⟨by omega, by omega⟩⟩, fun h => by omega, fun _ => ⟨⟨by omega, by omega⟩, ⟨by omega, by omega⟩, ⟨⟨by omega, by omega⟩, ⟨by omega, by omega⟩⟩, fun heq => ?_, fun hne => ⟨⟨by omega, by omega⟩, ?_⟩⟩⟩⟩
        · rw [if_pos (ky_inj v1 v2 heq)] at he
          have nx := ih (i + 1) (by omega) (by omega) he
          rw [show ((i + 1 : Nat) : Int) = (i : Int) + 1 by omega] at nx
          exact nx
        · rw [if_neg (fun e => hne (by rw [e]))] at he
          rw [← he] at K
          refine sp_closed (d := d) v1.1 (by omega) (s152_42 Hf ⟨⟨by omega, by omega⟩, ?_⟩)
          rw [kT]
          exact sp_closed (d := d) v2.1 (by omega) (s152_51 Hf (sp_compare (d := d) ⟨by omega, by omega⟩ ⟨by omega, by omega⟩ (s152_54 Hf K)))
      · have e1 : cmpL (S.drop i) (T.drop i) = cmp3 S.length T.length := by
          rw [← c3 i (by omega) hiT, List.drop_eq_nil_of_le (show T.length ≤ i by omega)]
          cases S.drop i <;> rfl
        rw [← he, e1] at K
        refine s152_2 Hf ?_
        rw [s1, t1]
        exact ⟨⟨⟨by omega, by omega⟩, ⟨by omega, by omega⟩⟩, fun h => by omega, fun _ => ⟨⟨⟨by omega, by omega⟩, ⟨by omega, by omega⟩⟩, fun _ => sp_compare (d := d) ⟨by omega, by omega⟩ ⟨by omega, by omega⟩ (s152_72 Hf K), fun h => by omega⟩⟩
  exact s152 Hf (z S.length 0 (by omega) (Nat.zero_le _) rfl)
end CMP
