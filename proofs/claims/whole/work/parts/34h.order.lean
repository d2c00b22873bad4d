/-! FORMS: the keys of a variant's rules, rising, each once (the class). -/
def insK (k : Int) : List Int → List Int
  | [] => [k]
  | a :: l => if a < k then a :: insK k l else if a = k then a :: l else k :: a :: l
def srtK (L : List Int) : List Int := L.foldl (fun s k => insK k s) []
theorem insK_mem {k : Int} : ∀ {l : List Int} {x : Int}, x ∈ insK k l ↔ x = k ∨ x ∈ l
  | [], x => by
    rw [insK, List.mem_singleton]
    exact ⟨fun h => Or.inl h, fun h => h.elim id (fun h => by cases h)⟩
  | a :: l, x => by
    rw [insK]
    split
    · rw [List.mem_cons, insK_mem, List.mem_cons]
      constructor
      · rintro (h | h | h)
        · exact Or.inr (Or.inl h)
        · exact Or.inl h
        · exact Or.inr (Or.inr h)
      · rintro (h | h | h)
        · exact Or.inr (Or.inl h)
        · exact Or.inl h
        · exact Or.inr (Or.inr h)
    · split
      · rename_i e
        constructor
        · exact fun h => Or.inr h
        · rintro (h | h)
          · rw [h, ← e]
            exact List.mem_cons_self ..
          · exact h
      · exact List.mem_cons
theorem insK_ris {k : Int} : ∀ {l : List Int}, ris (fun x => x) l → ris (fun x => x) (insK k l)
  | [], _ => List.pairwise_singleton ..
  | a :: l, h => by
    unfold ris at h
    rw [List.pairwise_cons] at h
    rw [insK]
    split
    · rename_i hlt
      unfold ris
      rw [List.pairwise_cons]
      refine ⟨fun x hx => ?_, insK_ris h.2⟩
      rcases insK_mem.mp hx with e | e
      · rw [e]
        exact hlt
      · exact h.1 x e
    · split
      · unfold ris
        rw [List.pairwise_cons]
        exact h
      · rename_i h1 h2
        unfold ris
        rw [List.pairwise_cons, List.pairwise_cons]
        refine ⟨fun x hx => ?_, h⟩
        rcases List.mem_cons.mp hx with e | e
        · rw [e]
          dsimp only
          omega
        · have := h.1 x e
          dsimp only at this ⊢
          omega
theorem srtK_ok : ∀ L : List Int, ris (fun x => x) (srtK L) ∧ ∀ x, x ∈ srtK L ↔ x ∈ L := by
  have gen : ∀ (L S : List Int), ris (fun x => x) S → ris (fun x => x) (L.foldl (fun s k => insK k s) S) ∧ ∀ x, x ∈ L.foldl (fun s k => insK k s) S ↔ x ∈ L ∨ x ∈ S := by
    intro L
    induction L with
    | nil => exact fun S h => ⟨h, fun x => ⟨fun hx => Or.inr hx, fun hx => hx.elim (fun h => by cases h) id⟩⟩
    | cons k L ih =>
      intro S h
      obtain ⟨h1, h2⟩ := ih (insK k S) (insK_ris h)
      refine ⟨h1, fun x => ?_⟩
      rw [List.foldl_cons, h2 x, insK_mem, List.mem_cons]
      constructor
      · rintro (h | h | h)
        · exact Or.inl (Or.inr h)
        · exact Or.inl (Or.inl h)
        · exact Or.inr h
      · rintro ((h | h) | h)
        · exact Or.inr (Or.inl h)
        · exact Or.inl h
        · exact Or.inr (Or.inr h)
  intro L
  obtain ⟨h1, h2⟩ := gen L [] List.Pairwise.nil
  exact ⟨h1, fun x => (h2 x).trans ⟨fun h => h.elim id (fun h => by cases h), fun h => Or.inl h⟩⟩
theorem srtK_s {L : List Int} {k : Int} : srtK (L ++ [k]) = insK k (srtK L) := by
  unfold srtK
  rw [List.foldl_append]
  rfl
theorem insK_len {k : Int} : ∀ {l : List Int}, (insK k l).length ≤ l.length + 1
  | [] => Nat.le_refl _
  | a :: l => by
    have := insK_len (k := k) (l := l)
    rw [insK]
    split
    · rw [List.length_cons, List.length_cons]
      omega
    · split
      · rw [List.length_cons]
        omega
      · rw [List.length_cons, List.length_cons]
        omega
theorem srtK_len : ∀ L : List Int, (srtK L).length ≤ L.length := by
  have gen : ∀ (L S : List Int), (L.foldl (fun s k => insK k s) S).length ≤ S.length + L.length := by
    intro L
    induction L with
    | nil => exact fun S => Nat.le_refl _
    | cons k L ih =>
      intro S
      have h1 := ih (insK k S)
      have h2 := insK_len (k := k) (l := S)
      rw [List.foldl_cons, List.length_cons]
      omega
  intro L
  have := gen L []
  rw [List.length_nil, Nat.zero_add] at this
  exact this
/-- where a key is put -/
theorem insK_at {k : Int} : ∀ {A B : List Int}, (∀ a ∈ A, a < k) → (∀ b B', B = b :: B' → k ≤ b) → insK k (A ++ B) = if B.head? = some k then A ++ B else A ++ k :: B
  | [], [], _, _ => rfl
  | [], b :: B, _, h => by
    have hb := h b B rfl
    rw [List.nil_append, List.nil_append, insK, if_neg (by omega), List.head?_cons]
    by_cases e : b = k
    · rw [if_pos e, if_pos (by rw [e])]
    · rw [if_neg e, if_neg (fun x => e (Option.some.inj x))]
  | a :: A, B, ha, h => by
    have h1 := ha a (List.mem_cons_self ..)
    rw [List.cons_append, insK, if_pos h1, insK_at (A := A) (fun x hx => ha x (List.mem_cons_of_mem _ hx)) h]
    split <;> rfl
theorem kyR_b {n : Int} {R : PR} (h : pr_ok n R) (hn : n ≤ 9) : 0 ≤ kyR R ∧ kyR R < 134217728 := by
  obtain ⟨r1, r2, r3, r4, r5, r6, r7, r8⟩ := h
  have hd := dgt_b ⟨r3, r4⟩
  have hc := cel_b (l := R.2.2) (fun c hc => by have := r7 c hc; omega)
  unfold kyR
  generalize cel 0 R.2.2 = c at hc
  rcases (by omega : R.2.2.length = 1 ∨ R.2.2.length = 2 ∨ R.2.2.length = 3 ∨ R.2.2.length = 4) with e | e | e | e
  · rw [e] at hc ⊢
    have h16 : ((16 ^ 1 : Nat) : Int) = 16 := rfl
    have h17 : ((16 ^ (4 - 1) : Nat) : Int) = 4096 := rfl
    omega
  · rw [e] at hc ⊢
    have h16 : ((16 ^ 2 : Nat) : Int) = 256 := rfl
    have h17 : ((16 ^ (4 - 2) : Nat) : Int) = 256 := rfl
    omega
  · rw [e] at hc ⊢
    have h16 : ((16 ^ 3 : Nat) : Int) = 4096 := rfl
    have h17 : ((16 ^ (4 - 3) : Nat) : Int) = 16 := rfl
    omega
  · rw [e] at hc ⊢
    have h16 : ((16 ^ 4 : Nat) : Int) = 65536 := rfl
    have h17 : ((16 ^ (4 - 4) : Nat) : Int) = 1 := rfl
    omega
theorem nRl_ok {w h m : Int} {R : PR} (hw : 1 ≤ w ∧ w ≤ 3) (hh : 1 ≤ h ∧ h ≤ 3) (hm : 0 ≤ m ∧ m < mps w h) (hR : pr_ok (w * h) R) : pr_ok (w * h) (nRl w h m R) := by
  have h9 := mul_le9 hw.1 hw.2 hh.1 hh.2
  obtain ⟨v1, v2, v3, v4, v5, v6, v7, v8⟩ := vrR_ok hw hh hm hR
  have hl9 : ∀ c ∈ R.2.2.map (mpC w h m), 0 ≤ c ∧ c < 9 := fun c hc => by
    have : 0 ≤ c ∧ c < w * h := v7 c hc
    omega
  have hnd : (R.2.2.map (mpC w h m)).Nodup := v8
  have hl := orC_len (k := R.1) hnd hl9
  refine ⟨v1, v2, v3, v4, ?_, ?_, fun c hc => v7 c (orC_mem hl9 hc), ?_⟩
  · show 1 ≤ (orC R.1 (R.2.2.map (mpC w h m))).length
    rw [hl]
    exact v5
  · show (orC R.1 (R.2.2.map (mpC w h m))).length ≤ 4
    rw [hl]
    exact v6
  · show (orC R.1 (R.2.2.map (mpC w h m))).Nodup
    have hps := PS_nd (k := R.1) hnd
    unfold orC
    split
    · exact hnd
    · split
      · rw [List.nodup_append]
        refine ⟨List.Nodup.sublist (List.take_sublist 1 _) hnd, ris_nodup srC_ris, fun a ha b hb e => ?_⟩
        subst e
        have hb2 := (srC_mem (fun x hx => hl9 x (List.mem_of_mem_drop hx)) a).mp hb
        have hs := List.take_append_drop 1 (R.2.2.map (mpC w h m))
        rw [← hs, List.nodup_append] at hnd
        exact hnd.2.2 a ha a hb2 rfl
      · exact ris_nodup srC_ris
/-- the keys of a variant -/
def kyL (Z : PZ) (m : Int) : List Int := srtK (Z.2.2.2.1.map (fun R => kyR (nRl Z.1 Z.2.1 m R)))
def trl (M : fx_M) (f : Nat) (S : List Int) : Prop := M f 6 = S.length ∧ ∀ (i : Nat) (k : Int), S[i]? = some k → M (f + 2) (i : Int) = k
section ORD
variable {kc : List va_E} {d p f : Nat} {Q : Option fx_V → fx_M → Prop} {M : fx_M} {Z : PZ} {m : Int}
theorem sp_orderRules (Hf : fx_frm f) (Hp : fx_puz p) (hpf : p + 8 < f) (hz : cz M p Z) (ho : pz_ok Z) (hm : 0 ≤ m ∧ m < mps Z.1 Z.2.1) (K : ∀ M', trl M' f (kyL Z m) → (∀ b j, b ≠ f + 2 → ¬ (b = f ∧ j = 6) → M' b j = M b j) → Q none M') : wc kc (d + 3) 149 [jR f, jR p, jI m] M Q := by
  have h9 := pz_n ho
  have h12 := ho.2.2.2.2.2.2.1
  have frz : ∀ N : fx_M, (∀ b j, b ≠ f + 2 → ¬ (b = f ∧ j = 6) → N b j = M b j) → cz N p Z := fun N fN => cz_fr hz (fun b j b1 b2 => fN b j (by omega) (by omega))
  have main : ∀ (u r : Nat) (N : fx_M), r + u = Z.2.2.2.1.length → trl N f (srtK ((Z.2.2.2.1.map (fun R => kyR (nRl Z.1 Z.2.1 m R))).take r)) → (∀ b j, b ≠ f + 2 → ¬ (b = f ∧ j = 6) → N b j = M b j) → wp kc (d + 3) 149 7 [some (jR f), some (jR p), some (jI m), some (jI r), none, none, none] [] N Q := by
    intro u
    induction u with
    | zero =>
      intro r N hr hT fN
      have hzN := frz N fN
      rw [List.take_of_length_le (by rw [List.length_map]; omega)] at hT
      refine s149_7 Hf Hp ?_
      rw [hzN.2.2.2.2.1]
      exact ⟨⟨⟨by omega, by omega⟩, ⟨by omega, by omega⟩⟩, fun _ => K N hT fN, fun h => by omega⟩
    | succ u ih =>
      intro r N hr hT fN
      have hzN := frz N fN
      have hrl : r < Z.2.2.2.1.length := by omega
      have hg : Z.2.2.2.1[r]? = some Z.2.2.2.1[r] := List.getElem?_eq_getElem hrl
      have hRok := ho.2.2.2.2.2.2.2.1 _ (List.getElem_mem hrl)
      have hkb := kyR_b (nRl_ok ⟨ho.1, ho.2.1⟩ ⟨ho.2.2.1, ho.2.2.2.1⟩ hm hRok) h9.2
      have hlm : r < (Z.2.2.2.1.map (fun R => kyR (nRl Z.1 Z.2.1 m R))).length := by
        rw [List.length_map]
        omega
      have hts := List.take_succ_eq_append_getElem hlm
      rw [List.getElem_map] at hts
      have hSl := srtK_len ((Z.2.2.2.1.map (fun R => kyR (nRl Z.1 Z.2.1 m R))).take r)
      rw [List.length_take] at hSl
      have hSo := srtK_ok ((Z.2.2.2.1.map (fun R => kyR (nRl Z.1 Z.2.1 m R))).take r)
      have hSb : ∀ x ∈ srtK ((Z.2.2.2.1.map (fun R => kyR (nRl Z.1 Z.2.1 m R))).take r), 0 ≤ x ∧ x < 134217728 := fun x hx => by
        have h1 := List.mem_of_mem_take ((hSo.2 x).mp hx)
        obtain ⟨R, R1, R2⟩ := List.mem_map.mp h1
        rw [← R2]
        exact kyR_b (nRl_ok ⟨ho.1, ho.2.1⟩ ⟨ho.2.2.1, ho.2.2.2.1⟩ hm (ho.2.2.2.2.2.2.2.1 R R1)) h9.2
      have nxt : ∀ P : fx_M, trl P f (insK (kyR (nRl Z.1 Z.2.1 m Z.2.2.2.1[r])) (srtK ((Z.2.2.2.1.map (fun R => kyR (nRl Z.1 Z.2.1 m R))).take r))) → (∀ b j, b ≠ f + 2 → ¬ (b = f ∧ j = 6) → P b j = M b j) → wp kc (d + 3) 149 7 [some (jR f), some (jR p), some (jI m), some (jI ((r : Int) + 1)), none, none, none] [] P Q := fun P hP fP => by
        have nx := ih (r + 1) P (by omega) (by rw [hts, srtK_s]; exact hP) fP
        rw [show ((r + 1 : Nat) : Int) = (r : Int) + 1 by omega] at nx
        exact nx
      refine s149_7 Hf Hp ?_
      rw [hzN.2.2.2.2.1]
      refine ⟨⟨⟨by omega, by omega⟩, ⟨by omega, by omega⟩⟩, fun h => by omega, fun _ => sp_keyOf (d := d) Hf Hp hzN ho hm hg (s149_22 Hf Hp ?_)⟩
      generalize kyR (nRl Z.1 Z.2.1 m Z.2.2.2.1[r]) = k at hkb nxt ⊢
      generalize srtK ((Z.2.2.2.1.map (fun R => kyR (nRl Z.1 Z.2.1 m R))).take r) = S at hT hSl hSo hSb nxt
      obtain ⟨t1, t2⟩ := hT
      -- shifting and putting
      have sh : ∀ (A B : List Int), S = A ++ B → ∀ (v j : Nat) (P : fx_M), A.length + v = j → j ≤ S.length → P f 6 = S.length → (∀ (i : Nat) (x : Int), S[i]? = some x → i < j → P (f + 2) (i : Int) = x) → (∀ (i : Nat) (x : Int), S[i]? = some x → j ≤ i → P (f + 2) ((i : Int) + 1) = x) → (∀ b j, b ≠ f + 2 → ¬ (b = f ∧ j = 6) → P b j = M b j) → (∀ P' : fx_M, trl P' f (A ++ k :: B) → (∀ b j, b ≠ f + 2 → ¬ (b = f ∧ j = 6) → P' b j = M b j) → wp kc (d + 3) 149 7 [some (jR f), some (jR p), some (jI m), some (jI ((r : Int) + 1)), none, none, none] [] P' Q) → wp kc (d + 3) 149 81 [some (jR f), some (jR p), some (jI m), some (jI r), some (jI k), some (jI A.length), some (jI j)] [] P Q := by
        intro A B hAB v
        have hABl : S.length = A.length + B.length := by rw [hAB, List.length_append]
        induction v with
        | zero =>
          intro j P hj hjl p6 pl pu fP KK
          have ej : j = A.length := by omega
          subst ej
          refine s149_81 Hf Hp ?_
          rw [p6]
          refine ⟨⟨⟨by omega, by omega⟩, ⟨by omega, by omega⟩⟩, fun _ => ⟨⟨by omega, by omega⟩, KK _ ⟨?_, fun i x hx => ?_⟩ (fun b j b1 b2 => by rw [fx_up_ne b2, fx_up_na b1, fP b j b1 b2])⟩, fun h => by omega⟩
          · rw [fx_up_self, List.length_append, List.length_cons]
            omega
          · rw [fx_up_na (by omega)]
            by_cases hi : i < A.length
            · rw [List.getElem?_append_left hi] at hx
              rw [fx_up_nk (by omega)]
              exact pl i x (by rw [hAB, List.getElem?_append_left hi]; exact hx) hi
            · by_cases hi2 : i = A.length
              · subst hi2
                rw [List.getElem?_append_right (Nat.le_refl _), Nat.sub_self] at hx
                cases hx
                exact fx_up_self ..
              · rw [List.getElem?_append_right (by omega)] at hx
                obtain ⟨q, hq⟩ : ∃ q, i - A.length = q + 1 := ⟨i - A.length - 1, by omega⟩
                rw [hq, List.getElem?_cons_succ] at hx
                have := pu (A.length + q) x (by rw [hAB, List.getElem?_append_right (by omega), show A.length + q - A.length = q by omega]; exact hx) (by omega)
                rw [fx_up_nk (by omega), show (i : Int) = ((A.length + q : Nat) : Int) + 1 by omega]
                exact this
        | succ v ih2 =>
          intro j P hj hjl p6 pl pu fP KK
          have hj1 : j - 1 < S.length := by omega
          have hx := List.getElem?_eq_getElem hj1
          have hxv := pl (j - 1) _ hx (by omega)
          refine s149_81 Hf Hp ?_
          rw [show (j : Int) - 1 = ((j - 1 : Nat) : Int) by omega, hxv]
          have nx := ih2 (j - 1) (fx_up P (f + 2) (j : Int) S[j - 1]) (by omega) (by omega) (by rw [fx_up_na (by omega)]; exact p6) (fun i x hi hlt => by
            rw [fx_up_nk (by omega)]
            exact pl i x hi (by omega)) (fun i x hi hle => by
            by_cases e : i = j - 1
            · subst e
              rw [hx] at hi
              cases hi
              rw [show ((j - 1 : Nat) : Int) + 1 = (j : Int) by omega]
              exact fx_up_self ..
            · rw [fx_up_nk (by omega)]
              exact pu i x hi (by omega)) (fun b j' b1 b2 => by rw [fx_up_na b1, fP b j' b1 b2]) KK
          rw [show ((j - 1 : Nat) : Int) = (j : Int) + -1 by omega] at nx
          exact ⟨⟨⟨by omega, by omega⟩, ⟨by omega, by omega⟩⟩, fun h => by omega, fun _ => ⟨⟨by omega, by omega⟩, ⟨by omega, by omega⟩, nx⟩⟩
      -- looking for the place
      have lk : ∀ (v i : Nat), i + v = S.length → (∀ a ∈ S.take i, a < k) → wp kc (d + 3) 149 27 [some (jR f), some (jR p), some (jI m), some (jI r), some (jI k), some (jI i), none] [] N Q := by
        intro v
        induction v with
        | zero =>
          intro i hi hA
          have hpl := insK_at (k := k) (A := S.take i) (B := S.drop i) hA (fun b B' e => by
            rw [List.drop_eq_nil_of_le (by omega)] at e
            cases e)
          rw [List.take_append_drop, List.drop_eq_nil_of_le (by omega), List.head?_nil, if_neg (fun x => by cases x)] at hpl
          have hAl : (S.take i).length = i := by
            rw [List.length_take]
            omega
          have go := sh (S.take i) (S.drop i) (List.take_append_drop i S).symm 0 i N (by omega) (by omega) t1 (fun q x hx _ => t2 q x hx) (fun q x hx hle => by
            have := (List.getElem?_eq_some_iff.mp hx).1
            omega) fN (fun P' hP' fP' => nxt P' (by rw [hpl, ← List.drop_eq_nil_of_le (show S.length ≤ i by omega)]; exact hP') fP')
          rw [hAl] at go
          refine s149_27 Hf Hp ?_
          rw [t1]
          rw [show (i : Int) = (S.length : Int) by omega] at go ⊢
          exact ⟨⟨⟨by omega, by omega⟩, ⟨by omega, by omega⟩⟩, fun _ => ⟨⟨⟨by omega, by omega⟩, ⟨by omega, by omega⟩⟩, fun _ => go, fun h => absurd rfl h⟩, fun h => by omega⟩
        | succ v ih3 =>
          intro i hi hA
          have hil : i < S.length := by omega
          have hx := List.getElem?_eq_getElem hil
          have hxv := t2 i _ hx
          have hxb := hSb _ (List.getElem_mem hil)
          have hAl : (S.take i).length = i := by
            rw [List.length_take]
            omega
          refine s149_27 Hf Hp ?_
          rw [t1, hxv]
          refine ⟨⟨⟨by omega, by omega⟩, ⟨by omega, by omega⟩⟩, fun h => by omega, fun _ => ⟨⟨by omega, by omega⟩, ⟨⟨by omega, by omega⟩, ⟨by omega, by omega⟩⟩, fun hge => ⟨⟨⟨by omega, by omega⟩, ⟨by omega, by omega⟩⟩, fun h => by omega, fun _ => ⟨⟨by omega, by omega⟩, ⟨⟨by omega, by omega⟩, ⟨by omega, by omega⟩⟩, fun heq => ?_, fun hne => ?_⟩⟩, fun hlt => ?_⟩⟩
          · have hpl := insK_at (k := k) (A := S.take i) (B := S.drop i) hA (fun b B' e => by
              rw [List.drop_eq_getElem_cons hil] at e
              cases e
              omega)
            rw [List.take_append_drop, List.drop_eq_getElem_cons hil, List.head?_cons, if_pos (by rw [heq])] at hpl
            exact nxt N (by rw [hpl]; exact ⟨t1, t2⟩) fN
          · have hpl := insK_at (k := k) (A := S.take i) (B := S.drop i) hA (fun b B' e => by
              rw [List.drop_eq_getElem_cons hil] at e
              cases e
              omega)
            rw [List.take_append_drop] at hpl
            have hh : ¬ ((S.drop i).head? = some k) := fun e => by
              rw [List.drop_eq_getElem_cons hil, List.head?_cons] at e
              exact hne (Option.some.inj e)
            rw [if_neg hh] at hpl
            have go := sh (S.take i) (S.drop i) (List.take_append_drop i S).symm (S.length - i) S.length N (by omega) (by omega) t1 (fun q x hx _ => t2 q x hx) (fun q x hx hle => by
              have := (List.getElem?_eq_some_iff.mp hx).1
              omega) fN (fun P' hP' fP' => nxt P' (by rw [hpl]; exact hP') fP')
            rw [hAl] at go
            exact go
          · have nx := ih3 (i + 1) (by omega) (fun a ha => by
              rw [List.take_succ_eq_append_getElem hil] at ha
              rcases List.mem_append.mp ha with e | e
              · exact hA a e
              · rw [List.mem_singleton.mp e]
                exact hlt)
            rw [show ((i + 1 : Nat) : Int) = (i : Int) + 1 by omega] at nx
            exact nx
      exact lk S.length 0 (by omega) (fun a ha => by rw [List.take_zero] at ha; cases ha)
  exact s149 Hf Hp (main Z.2.2.2.1.length 0 _ (by omega) ⟨fx_up_self .., fun i k hk => by rw [List.take_zero] at hk; cases hk⟩ (fun b j b1 b2 => fx_up_ne b2))
end ORD
