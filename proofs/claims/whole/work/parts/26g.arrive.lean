/-! The reference: choice, leaf, end of a node, arriving at one. -/
section MAR
variable {kc : List va_E} {d : Nat} {Q : Option fx_V → fx_M → Prop} {Z : PZ} {S : Nat → Nat}
theorem mch_loop (ho : pz_ok Z) {M : fx_M} (hz : mz M 0 Z) (hm : mst' M Z S) (hS : ∀ c : Nat, (c : Int) < Z.1 * Z.2.1 → S c < 16) (K : Q (some (jI (cCh Z S))) M) : ∀ (t c : Nat) (b : Int), (c : Int) + t = Z.1 * Z.2.1 → -1 ≤ b → b < c → cch S t c b = cCh Z S → wp kc (d + 2) 320 4 [some (jR 133), some (jI b), some (jI c)] [] M Q := by
  have h9 := pz_n ho
  intro t
  induction t with
  | zero =>
    intro c b hc h1 h2 he
    refine s320_4 (s248 (s320_9 ?_))
    rw [hz.1, hz.2.1]
    have he : b = cCh Z S := he
    rw [← he] at K
    exact ⟨⟨⟨by omega, by omega⟩, ⟨by omega, by omega⟩⟩, fun _ => K, fun h => by omega⟩
  | succ t ih =>
    intro c b hc h1 h2 he
    have h16 := hS c (by omega)
    have hp := pop4_le (S c)
    rw [cch] at he
    have go : ∀ b', (if 1 < pop4 (S c) ∧ (b < 0 ∨ pop4 (S c) < pop4 (S b.toNat)) then (c : Int) else b) = b' → wp kc (d + 2) 320 4 [some (jR 133), some (jI b'), some (jI ((c : Int) + 1))] [] M Q := fun b' hb' => by
      rw [hb'] at he
      have nx := ih (c + 1) b' (by omega) (by rw [← hb']; split <;> omega) (by rw [← hb']; split <;> omega) he
      rw [show ((c + 1 : Nat) : Int) = (c : Int) + 1 by omega] at nx
      exact nx
    refine s320_4 (s248 (s320_9 ?_))
    rw [hz.1, hz.2.1, hm c (by omega)]
    refine ⟨⟨⟨by omega, by omega⟩, ⟨by omega, by omega⟩⟩, fun h => by omega, fun _ => ⟨⟨by omega, by omega⟩, sp_countOf h16 (s320_21 ⟨⟨by omega, by omega⟩, fun hle => go b (if_neg (fun x => by omega)), fun hgt => ⟨⟨by omega, by omega⟩, fun hb => go _ (if_pos ⟨by omega, Or.inl hb⟩), fun hb => ?_⟩⟩)⟩⟩
    have hb16 := hS b.toNat (by omega)
    have hpb := pop4_le (S b.toNat)
    have e156 : M 156 b = (S b.toNat : Nat) := by
      have := hm b.toNat (by omega)
      rw [show ((b.toNat : Nat) : Int) = b by omega] at this
      exact this
    rw [hm c (by omega)]
    refine ⟨⟨by omega, by omega⟩, sp_countOf h16 (s320_38 ?_)⟩
    rw [e156]
    refine ⟨⟨by omega, by omega⟩, sp_countOf hb16 (s320_47 ⟨⟨by omega, by omega⟩, ⟨by omega, by omega⟩, ?_⟩)⟩
    refine go _ ?_
    by_cases hlt : pop4 (S c) < pop4 (S b.toNat)
    · rw [if_pos ⟨by omega, Or.inr hlt⟩, if_pos (by omega)]
    · rw [if_neg (fun x => by rcases x.2 with h | h <;> omega), if_neg (by omega)]
theorem sp_mChoice (ho : pz_ok Z) {M : fx_M} (hz : mz M 0 Z) (hm : mst' M Z S) (hS : ∀ c : Nat, (c : Int) < Z.1 * Z.2.1 → S c < 16) (K : Q (some (jI (cCh Z S))) M) : wc kc (d + 2) 320 [jR 133] M Q :=
  s320 (mch_loop ho hz hm hS K (Z.1 * Z.2.1).toNat 0 (-1) (by have := pz_n ho; omega) (by omega) (by omega) rfl)
/-- the frame of one written line -/
def fLn (M N : fx_M) : Prop := ∀ b j, b ≠ 136 → ¬ (b = 133 ∧ (j = 5 ∨ j = 57)) → N b j = M b j
theorem fLn_up {M : fx_M} {cs : List Int} {v : Int} : fLn M (fx_up (m_app M cs) 133 57 v) := fun b j h1 h2 => by rw [fx_up_ne (by omega), m_app_ne (by omega) h1]
theorem fGo_Ln {M N : fx_M} (h : fLn M N) : fGo M N := fun b j _ h2 h3 => h b j h2 (by omega)
theorem mst_Ln {M N : fx_M} (hm : mst' M Z S) (h : fLn M N) : mst' N Z S := fun c hc => by
  rw [h _ _ (by decide) (by omega)]
  exact hm c hc
theorem mz_Ln {M N : fx_M} (hz : mz M 0 Z) (h : fLn M N) : mz N 0 Z := mz_frM hz (fun b j h1 h2 => h b j (by omega) (by omega))
theorem lf_loop (ho : pz_ok Z) {M0 : fx_M} (hz : mz M0 0 Z) (hm : mst' M0 Z S) (hS : ∀ c : Nat, (c : Int) < Z.1 * Z.2.1 → S c < 16 ∧ S c ≠ 0) (hO : m_ok M0) {cs : List Int} (K : wc kc (d + 3) 317 [jR 133] (m_app M0 cs) (fun v M1 => wp kc (d + 4) 387 41 [none, none] (v.toList ++ []) M1 Q)) : ∀ (t c : Nat) (ds : List Int), (c : Int) + t = Z.1 * Z.2.1 → ds ++ (List.range' c t).flatMap (fun (c : Nat) => lit 45 (c : Int) (lowb (S c))) = cs → wp kc (d + 4) 387 8 [some (jR 133), some (jI c)] [] (m_app M0 ds) Q := by
  have h9 := pz_n ho
  intro t
  induction t with
  | zero =>
    intro c ds hc he
    refine s387_8 (s248 (s387_13 ?_))
    rw [m_app_ne (b := 146) (by omega) (by decide), m_app_ne (b := 147) (by omega) (by decide), hz.1, hz.2.1]
    rw [show cs = ds by rw [← he]; simp] at K
    exact ⟨⟨⟨by omega, by omega⟩, ⟨by omega, by omega⟩⟩, fun _ => K, fun h => by omega⟩
  | succ t ih =>
    intro c ds hc he
    rw [List.range'_succ, List.flatMap_cons] at he
    have h16 := hS c (by omega)
    have hlow := (low_16 ⟨S c, h16.1⟩ h16.2).1
    simp only at hlow
    refine s387_8 (s248 (s387_13 ?_))
    rw [m_app_ne (b := 146) (by omega) (by decide), m_app_ne (b := 147) (by omega) (by decide), hz.1, hz.2.1, m_app_ne (b := 156) (by omega) (by decide), hm c (by omega)]
    refine ⟨⟨⟨by omega, by omega⟩, ⟨by omega, by omega⟩⟩, fun h => by omega, fun _ => ⟨⟨by omega, by omega⟩, sp_mlowest h16.2 h16.1 (s387_28 (sp_sayLiteral ⟨by omega, by omega⟩ ⟨by omega, by omega⟩ (by omega) (m_ok_app hO) (s387_31 ?_)))⟩⟩
    rw [if_pos rfl, m_app_app]
    have nx := ih (c + 1) (ds ++ lit 45 (c : Int) (lowb (S c))) (by omega) (by rw [List.append_assoc]; exact he)
    rw [show ((c + 1 : Nat) : Int) = (c : Int) + 1 by omega] at nx
    exact nx
theorem sp_sayLeaf (ho : pz_ok Z) {M : fx_M} (hz : mz M 0 Z) (hm : mst' M Z S) (hS : ∀ c : Nat, (c : Int) < Z.1 * Z.2.1 → S c < 16 ∧ S c ≠ 0) (hl : mli M) (h57 : M 133 57 = 0) (K : ∀ M', mlo M M' (tLeaf Z S) → fLn M M' → Q none M') : wc kc (d + 4) 387 [jR 133] M Q := by
  have h9 := pz_n ho
  refine s387 (sp_sayByte hl.1 (s387_6 ?_))
  refine lf_loop (d := d) ho hz hm hS hl.1 (cs := [98] ++ (List.range (Z.1 * Z.2.1).toNat).flatMap (fun (c : Nat) => lit 45 (c : Int) (lowb (S c)))) ?_ (Z.1 * Z.2.1).toNat 0 [98] (by omega) (by rw [List.range_eq_range'])
  refine sp_endLine (m_ok_app hl.1) (by rw [m_app_ne (by omega) (by decide)]; exact h57) (s387_41 ?_)
  rw [m_app_app]
  exact K _ (mlo_line hl h57) fLn_up
/-- the choices so far -/
def mchs (M : fx_M) (ch : List (Int × Nat)) : Prop := ∀ (i : Nat) (q : Int × Nat), ch[i]? = some q → M 163 (i : Int) = q.1 ∧ M 164 (i : Int) = (q.2 : Int) ∧ 0 ≤ q.1 ∧ q.1 < 9 ∧ q.2 < 4
theorem dn_loop {M0 : fx_M} {ch : List (Int × Nat)} (hc : mchs M0 ch) (h10 : ch.length ≤ 9) (hO : m_ok M0) {cs : List Int} (K : wc kc (d + 3) 317 [jR 133] (m_app M0 cs) (fun v M1 => wp kc (d + 4) 388 55 [none, none, none] (v.toList ++ []) M1 Q)) : ∀ (t i : Nat) (ds : List Int), i + t = ch.length → ds ++ (ch.drop i).flatMap (fun q => lit 45 q.1 q.2) = cs → wp kc (d + 4) 388 23 [some (jR 133), some (jI (ch.length : Nat)), some (jI i)] [] (m_app M0 ds) Q := by
  intro t
  induction t with
  | zero =>
    intro i ds hi he
    rw [List.drop_eq_nil_of_le (by omega)] at he
    rw [show cs = ds by rw [← he]; simp] at K
    exact s388_23 ⟨⟨⟨by omega, by omega⟩, ⟨by omega, by omega⟩⟩, fun _ => K, fun h => by omega⟩
  | succ t ih =>
    intro i ds hi he
    have hil : i < ch.length := by omega
    obtain ⟨a1, a2, a3, a4, a5⟩ := hc i _ (List.getElem?_eq_getElem hil)
    rw [List.drop_eq_getElem_cons hil, List.flatMap_cons] at he
    refine s388_23 ⟨⟨⟨by omega, by omega⟩, ⟨by omega, by omega⟩⟩, fun h => by omega, fun _ => ⟨⟨by omega, by omega⟩, ⟨by omega, by omega⟩, ?_⟩⟩
    rw [m_app_ne (b := 163) (by omega) (by decide), m_app_ne (b := 164) (by omega) (by decide), a1, a2]
    refine sp_sayLiteral ⟨by omega, by omega⟩ ⟨by omega, by omega⟩ (by omega) (m_ok_app hO) (s388_45 ?_)
    rw [if_pos rfl, m_app_app]
    have nx := ih (i + 1) (ds ++ lit 45 (ch[i]).1 (ch[i]).2) (by omega) (by rw [List.append_assoc]; exact he)
    rw [show ((i + 1 : Nat) : Int) = (i : Int) + 1 by omega] at nx
    exact nx
theorem sp_sayDone {M : fx_M} {ch : List (Int × Nat)} {p : Int} (hp : 0 ≤ p ∧ p ≤ 1) (h56 : M 133 56 = p) (hc : mchs M ch) (h10 : ch.length ≤ 9) (hl : mli M) (K : ∀ M', mlo M M' (if p = 1 then tDone ch else []) → fLn M M' → Q none M') : wc kc (d + 5) 388 [jR 133, jI (ch.length : Nat)] M Q := by
  refine s388 ⟨by rw [h56]; exact ⟨by omega, by omega⟩, fun h0 => K M ?_ (fun _ _ _ _ => rfl), fun h1 => ?_⟩
  · rw [if_neg (by omega)]
    exact mlo_rf hl
  · have p1 : p = 1 := by omega
    rw [if_pos p1] at K
    rcases hl.2 with ⟨h57, h3000⟩ | h57
    · refine ⟨by rw [h57]; exact ⟨by omega, by omega⟩, fun _ => sp_sayByte hl.1 (s388_21 ?_), fun h => by omega⟩
      refine dn_loop (d := d + 1) hc h10 hl.1 (cs := [117] ++ ch.flatMap (fun q => lit 45 q.1 q.2)) ?_ ch.length 0 [117] (by omega) (by rw [List.drop_zero])
      refine sp_endLine (m_ok_app hl.1) (by rw [m_app_ne (by omega) (by decide)]; exact h57) (s388_55 ?_)
      rw [m_app_app]
      exact K _ (mlo_line hl h57) fLn_up
    · exact ⟨by rw [h57]; exact ⟨by omega, by omega⟩, fun h => by omega, fun _ => K M ⟨hl, fun h => by omega, fun h => by omega, fun h => h⟩ (fun _ _ _ _ => rfl)⟩
/-- what arriving at depth dp may change -/
def fAr (dp : Nat) (M N : fx_M) : Prop := ∀ b j, ¬ (155 ≤ b ∧ b ≤ 158) → b ≠ 136 → ¬ (b = 160 ∧ 9 * (dp : Int) ≤ j) → ¬ (161 ≤ b ∧ b ≤ 164 ∧ (dp : Int) ≤ j) → ¬ (b = 133 ∧ (j = 5 ∨ j = 48 ∨ (51 ≤ j ∧ j ≤ 54) ∨ (57 ≤ j ∧ j ≤ 60) ∨ (j = 61 ∧ dp = 0))) → N b j = M b j
theorem fAr_tr {dp : Nat} {M N O : fx_M} (h1 : fAr dp M N) (h2 : fAr dp N O) : fAr dp M O := fun b j a1 a2 a3 a4 a5 => (h2 b j a1 a2 a3 a4 a5).trans (h1 b j a1 a2 a3 a4 a5)
theorem fAr_Go {dp : Nat} {M N : fx_M} (h : fGo M N) : fAr dp M N := fun b j h1 h2 h3 h4 h5 => h b j h1 h2 (by omega)
theorem fAr_up {dp e : Nat} {M N : fx_M} (he : dp ≤ e) (h : fAr e M N) : fAr dp M N := fun b j h1 h2 h3 h4 h5 => h b j h1 h2 (by omega) (by omega) (by omega)
theorem ar_store {M0 : fx_M} {dp : Nat} {c : Int} (hdp : dp ≤ 8) (K : ∀ M', (∀ k : Nat, k < 9 → M' 160 (9 * (dp : Int) + k) = M0 156 (k : Int)) → M' 161 (dp : Int) = c → M' 162 (dp : Int) = -1 → (∀ b j, ¬ (b = 160 ∧ 9 * (dp : Int) ≤ j) → ¬ (161 ≤ b ∧ b ≤ 162 ∧ (dp : Int) ≤ j) → M' b j = M0 b j) → Q (some (jI 1)) M') : ∀ (t k : Nat) (M : fx_M), k + t = 9 → (∀ i : Nat, i < k → M 160 (9 * (dp : Int) + i) = M0 156 (i : Int)) → (∀ b j, ¬ (b = 160 ∧ 9 * (dp : Int) ≤ j) → M b j = M0 b j) → wp kc (d + 1) 386 116 [some (jR 133), some (jI dp), none, some (jI c), some (jI k)] [] M Q := by
  intro t
  induction t with
  | zero =>
    intro k M hk h1 h2
    refine s386_116 ⟨⟨by omega, by omega⟩, fun _ => ⟨⟨by omega, by omega⟩, ⟨by omega, by omega⟩, K _ (fun i hi => ?_) ?_ ?_ (fun b j b1 b2 => ?_)⟩, fun h => by omega⟩
    · rw [fx_up_na (by decide), fx_up_na (by decide)]
      exact h1 i (by omega)
    · rw [fx_up_na (by decide), fx_up_self]
    · rw [fx_up_self]
    · rw [fx_up_ne (by omega), fx_up_ne (by omega)]
      exact h2 b j b1
  | succ t ih =>
    intro k M hk h1 h2
    refine s386_116 ⟨⟨by omega, by omega⟩, fun h => by omega, fun _ => ⟨⟨by omega, by omega⟩, ⟨by omega, by omega⟩, ?_⟩⟩
    have nx := ih (k + 1) (fx_up M 160 (9 * (dp : Int) + k) (M 156 (k : Int))) (by omega) (fun i hi => by
      by_cases e : i = k
      · subst e
        rw [fx_up_self, h2 _ _ (by omega)]
      · rw [fx_up_nk (by omega)]
        exact h1 i (by omega)) (fun b j hb => by rw [fx_up_ne (by omega)]; exact h2 b j hb)
    rw [show ((k + 1 : Nat) : Int) = (k : Int) + 1 by omega] at nx
    exact nx
theorem pop4_pos : ∀ m : Fin 16, (m : Nat) ≠ 0 → 1 ≤ pop4 (m : Nat) := by decide +kernel
/-- arriving at a node -/
theorem sp_arrive (ho : pz_ok Z) {M : fx_M} {ch : List (Int × Nat)} {p : Int} {n0 d0 : Nat} (hp : 0 ≤ p ∧ p ≤ 1) (hz : mz M 0 Z) (hm : mst' M Z S) (hS : ∀ c : Nat, (c : Int) < Z.1 * Z.2.1 → S c < 16) (h56 : M 133 56 = p) (hl : mli M) (h58 : M 133 58 = n0) (hn : n0 ≤ 100) (h60 : M 133 60 = d0) (hd0 : d0 ≤ 9) (hc : mchs M ch) (h10 : ch.length ≤ 9) (hop : ¬ brk Z (gOn Z 37 S).1 → 0 ≤ cCh Z (gOn Z 37 S).1 → ch.length ≤ 8)
  (KL : n0 = 100 → ∀ M', fAr ch.length M M' → m_ok M' → M' 133 57 = 1 → Q (some (jI 0)) M')
  (KD : n0 < 100 → (brk Z (gOn Z 37 S).1 ∨ cCh Z (gOn Z 37 S).1 < 0) → ∀ M', fAr ch.length M M' → M' 133 58 = n0 + 1 → M' 133 60 = (max d0 ch.length : Nat) → mlo M M' (if p = 1 then (gOn Z 37 S).2.2 ++ (if brk Z (gOn Z 37 S).1 then [] else tLeaf Z (gOn Z 37 S).1) ++ tDone ch else []) → (ch.length = 0 → M' 133 61 = M 133 59 + ((gOn Z 37 S).2.1 : Nat)) → Q (some (jI 0)) M')
  (KI : n0 < 100 → ¬ brk Z (gOn Z 37 S).1 → 0 ≤ cCh Z (gOn Z 37 S).1 → ∀ M', fAr ch.length M M' → M' 133 58 = n0 + 1 → M' 133 60 = (max d0 ch.length : Nat) → mlo M M' (if p = 1 then (gOn Z 37 S).2.2 else []) → (ch.length = 0 → M' 133 61 = M 133 59 + ((gOn Z 37 S).2.1 : Nat)) → (∀ c : Nat, (c : Int) < Z.1 * Z.2.1 → M' 160 (9 * (ch.length : Int) + c) = ((gOn Z 37 S).1 c : Nat)) → (∀ c : Nat, (c : Int) < Z.1 * Z.2.1 → (gOn Z 37 S).1 c < 16) → M' 161 (ch.length : Int) = cCh Z (gOn Z 37 S).1 → M' 162 (ch.length : Int) = -1 → Q (some (jI 1)) M') : wc kc (d + 8) 386 [jR 133, jI (ch.length : Nat)] M Q := by
  have h9 := pz_n ho
  refine s386 ?_
  rw [h58, h60]
  refine ⟨⟨by omega, by omega⟩, fun hle => ⟨⟨by omega, by omega⟩, ⟨by omega, by omega⟩, ?_⟩, fun hgt => KL (by omega) _ (fun b j b1 b2 b3 b4 b5 => by rw [fx_up_ne (by omega), fx_up_ne (by omega)]) ?_ (by rw [fx_up_self])⟩
  · have em : (if (d0 : Int) < ((ch.length : Nat) : Int) then ((ch.length : Nat) : Int) else (d0 : Int)) = ((max d0 ch.length : Nat) : Int) := by
      split <;> omega
    rw [em]
    have fu : ∀ b j, ¬ (b = 133 ∧ (j = 58 ∨ j = 60)) → (fx_up (fx_up M 133 58 ((n0 : Int) + 1)) 133 60 ((max d0 ch.length : Nat) : Int)) b j = M b j := fun b j hb => by rw [fx_up_ne (by omega), fx_up_ne (by omega)]
    have l1 : mlo M (fx_up (fx_up M 133 58 ((n0 : Int) + 1)) 133 60 ((max d0 ch.length : Nat) : Int)) [] := mlo_fr hl (fu _ _ (by omega)) (fu _ _ (by omega)) (fun j => fu _ _ (by omega))
    refine sp_mGoOn ho hp hS (mz_frM hz (fun b j h1 h2 => fu b j (by omega))) (fun c hc => by rw [fu _ _ (by omega)]; exact hm c hc) (by rw [fu _ _ (by omega)]; exact h56) l1.ok (fun M2 f2 m2 g16 t2 o2 => s386_50 ?_)
    rw [fu 133 59 (by omega)] at t2
    have o02 := mlo_tr hl l1 o2
    rw [List.nil_append] at o02
    have e58 : M2 133 58 = n0 + 1 := by rw [f2 _ _ (by omega) (by decide) (by omega), fx_up_nk (by decide), fx_up_self]
    have e60 : M2 133 60 = ((max d0 ch.length : Nat) : Int) := by rw [f2 _ _ (by omega) (by decide) (by omega), fx_up_self]
    have e56 : M2 133 56 = p := by rw [f2 _ _ (by omega) (by decide) (by omega), fu _ _ (by omega)]; exact h56
    have a02 : fAr ch.length M M2 := fun b j b1 b2 b3 b4 b5 => by rw [f2 b j b1 b2 (by omega), fu b j (by omega)]
    have z2 : mz M2 0 Z := mz_Go (mz_frM hz (fun b j h1 h2 => fu b j (by omega))) f2
    have c2 : mchs M2 ch := fun i q hq => by
      rw [f2 _ _ (by omega) (by decide) (by omega), fu _ _ (by omega), f2 _ _ (by omega) (by decide) (by omega), fu _ _ (by omega)]
      exact hc i q hq
    -- the same from a memory where firstTaken may have been set
    have main : ∀ M3, fAr ch.length M M3 → (∀ b j, ¬ (b = 133 ∧ j = 61) → M3 b j = M2 b j) → (ch.length = 0 → M3 133 61 = M 133 59 + ((gOn Z 37 S).2.1 : Nat)) → (brk Z (gOn Z 37 S).1 → wc kc (d + 7) 388 [jR 133, jI (ch.length : Nat)] M3 (fun v M1 => wp kc (d + 8) 386 111 [none, none, none, none, none] (v.toList ++ []) M1 Q)) ∧ (¬ brk Z (gOn Z 37 S).1 → wc kc (d + 7) 320 [jR 133] M3 (fun v M1 => wp kc (d + 8) 386 71 [some (jR 133), some (jI (ch.length : Nat)), some (jI 1), none, none] (v.toList ++ []) M1 Q)) := fun M3 a3 f3 t3 => by
      have z3 := mz_frM z2 (fun b j h1 h2 => f3 b j (by omega))
      have m3 : mst' M3 Z (gOn Z 37 S).1 := fun c hc => by rw [f3 _ _ (by omega)]; exact m2 c hc
      have c3 : mchs M3 ch := fun i q hq => by rw [f3 _ _ (by omega), f3 _ _ (by omega)]; exact c2 i q hq
      have o3 := mlo_tr hl o02 (mlo_fr (N := M3) o02.ok (f3 _ _ (by omega)) (f3 _ _ (by omega)) (fun j => f3 _ _ (by omega)))
      rw [List.append_nil] at o3
      have e56' : M3 133 56 = p := by rw [f3 _ _ (by omega)]; exact e56
      have e58' : M3 133 58 = n0 + 1 := by rw [f3 _ _ (by omega)]; exact e58
      have e60' : M3 133 60 = ((max d0 ch.length : Nat) : Int) := by rw [f3 _ _ (by omega)]; exact e60
      constructor
      · intro hb
        refine sp_sayDone (d := d + 2) hp e56' c3 h10 o3.ok (fun M4 o4 f4 => s386_111 ?_)
        refine KD (by omega) (Or.inl hb) M4 (fAr_tr a3 (fAr_Go (fGo_Ln f4))) (by rw [f4 _ _ (by decide) (by omega)]; exact e58') (by rw [f4 _ _ (by decide) (by omega)]; exact e60') ?_ (fun h => by rw [f4 _ _ (by decide) (by omega)]; exact t3 h)
        have := mlo_tr hl o3 o4
        rw [if_pos hb]
        by_cases p1 : p = 1
        · rw [if_pos p1, if_pos p1] at this
          rw [if_pos p1, List.append_nil]
          exact this
        · rw [if_neg p1, if_neg p1] at this
          rw [if_neg p1]
          exact this
      · intro hnb
        have hne : ∀ c : Nat, (c : Int) < Z.1 * Z.2.1 → (gOn Z 37 S).1 c < 16 ∧ (gOn Z 37 S).1 c ≠ 0 := fun c hc => ⟨g16 c hc, fun e => hnb (brk_iff.mpr ⟨c, hc, e⟩)⟩
        refine sp_mChoice (d := d + 5) ho z3 m3 g16 (s386_71 ⟨⟨by omega, by omega⟩, fun h => by omega, fun _ => ?_⟩)
        have hcb := cch_b (S := (gOn Z 37 S).1) (Z.1 * Z.2.1).toNat 0 (-1) (by omega) (by omega)
        have hcb1 : -1 ≤ cCh Z (gOn Z 37 S).1 := hcb.1
        have hcb2 : cCh Z (gOn Z 37 S).1 < Z.1 * Z.2.1 := by
          have : cCh Z (gOn Z 37 S).1 < ((0 + (Z.1 * Z.2.1).toNat : Nat) : Int) := hcb.2
          omega
        -- the end of a filling
        have fin : ∀ M4 ds, fAr ch.length M M4 → fLn M3 M4 → mlo M M4 ds → (ds ++ if p = 1 then tDone ch else []) = (if p = 1 then (gOn Z 37 S).2.2 ++ (if brk Z (gOn Z 37 S).1 then [] else tLeaf Z (gOn Z 37 S).1) ++ tDone ch else []) → cCh Z (gOn Z 37 S).1 < 0 → wc kc (d + 7) 388 [jR 133, jI (ch.length : Nat)] M4 (fun v M1 => wp kc (d + 8) 386 111 [none, none, none, none, none] (v.toList ++ []) M1 Q) := fun M4 ds a4 f4 o4 hds hneg => by
          refine sp_sayDone (d := d + 2) hp (by rw [f4 _ _ (by decide) (by omega)]; exact e56') (fun i q hq => by rw [f4 _ _ (by decide) (by omega), f4 _ _ (by decide) (by omega)]; exact c3 i q hq) h10 o4.ok (fun M5 o5 f5 => s386_111 ?_)
          refine KD (by omega) (Or.inr hneg) M5 (fAr_tr a4 (fAr_Go (fGo_Ln f5))) (by rw [f5 _ _ (by decide) (by omega), f4 _ _ (by decide) (by omega)]; exact e58') (by rw [f5 _ _ (by decide) (by omega), f4 _ _ (by decide) (by omega)]; exact e60') ?_ (fun h => by rw [f5 _ _ (by decide) (by omega), f4 _ _ (by decide) (by omega)]; exact t3 h)
          have := mlo_tr hl o4 o5
          rw [hds] at this
          exact this
        -- a cell of choice
        have inn : 0 ≤ cCh Z (gOn Z 37 S).1 → wp kc (d + 8) 386 116 [some (jR 133), some (jI (ch.length : Nat)), none, some (jI (cCh Z (gOn Z 37 S).1)), some (jI 0)] [] M3 Q := fun hpos => by
          refine ar_store (d := d + 7) (hop hnb hpos) (M0 := M3) (fun M4 k1 k2 k3 k4 => ?_) 9 0 M3 (by omega) (fun i h => by omega) (fun _ _ _ => rfl)
          refine KI (by omega) hnb hpos M4 (fAr_tr a3 (fun b j b1 b2 b3 b4 b5 => k4 b j b3 (by omega))) (by rw [k4 _ _ (by omega) (by omega)]; exact e58') (by rw [k4 _ _ (by omega) (by omega)]; exact e60') ?_ (fun h => by rw [k4 _ _ (by omega) (by omega)]; exact t3 h) (fun c hc => by rw [k1 c (by omega)]; exact m3 c hc) g16 k2 k3
          have := mlo_tr hl o3 (mlo_fr (N := M4) o3.ok (k4 _ _ (by omega) (by omega)) (k4 _ _ (by omega) (by omega)) (fun j => k4 _ _ (by omega) (by omega)))
          rw [List.append_nil] at this
          exact this
        refine ⟨⟨by omega, by omega⟩, fun hpos => ⟨⟨by omega, by omega⟩, fun _ => inn hpos, fun h => by omega⟩, fun hneg => ?_⟩
        have nolf : p ≠ 1 ∨ M3 133 57 = 1 → wc kc (d + 7) 388 [jR 133, jI (ch.length : Nat)] M3 (fun v M1 => wp kc (d + 8) 386 111 [none, none, none, none, none] (v.toList ++ []) M1 Q) := fun hor => by
          by_cases p1 : p = 1
          · -- long already: any text will do
            have h57 : M3 133 57 = 1 := by
              rcases hor with h | h
              · exact absurd p1 h
              · exact h
            have oo : mlo M M3 ((gOn Z 37 S).2.2 ++ tLeaf Z (gOn Z 37 S).1) := by
              rw [if_pos p1] at o3
              refine ⟨o3.ok, fun h0 hle => ?_, fun h0 _ => h57, fun h => h57⟩
              rw [List.length_append] at hle
              have := (o3.ex h0 (by omega)).2
              omega
            exact fin M3 _ a3 (fun _ _ _ _ => rfl) oo (by rw [if_pos p1, if_pos p1, if_neg hnb]) hneg
          · refine fin M3 [] a3 (fun _ _ _ _ => rfl) (by rw [if_neg p1] at o3; exact o3) (by rw [if_neg p1, if_neg p1]; rfl) hneg
        refine ⟨by rw [e56']; exact ⟨by omega, by omega⟩, fun h0 => ⟨⟨by omega, by omega⟩, fun h => by omega, fun _ => nolf (Or.inl (by omega))⟩, fun h1 => ?_⟩
        have p1 : p = 1 := by omega
        have h57in : fx_in32 (M3 133 57) := by
          rcases o3.ok.2 with ⟨h, -⟩ | h <;> rw [h] <;> exact ⟨by omega, by omega⟩
        refine ⟨h57in, fun hne7 => ⟨⟨by omega, by omega⟩, fun h => by omega, fun _ => nolf (Or.inr ?_)⟩, fun h57 => ?_⟩
        · rcases o3.ok.2 with ⟨h, -⟩ | h
          · exact absurd h hne7
          · exact h
        · refine sp_sayLeaf (d := d + 3) ho z3 m3 hne o3.ok h57 (fun M4 o4 f4 => s386_102 ⟨⟨by omega, by omega⟩, fun h => by omega, fun _ => ?_⟩)
          refine fin M4 _ (fAr_tr a3 (fAr_Go (fGo_Ln f4))) f4 (mlo_tr hl o3 o4) ?_ hneg
          rw [if_pos p1, if_pos p1, if_pos p1, if_neg hnb]
    refine ⟨⟨by omega, by omega⟩, fun hne => ?_, fun h0 => ?_⟩
    · obtain ⟨mb, mn⟩ := main M2 a02 (fun _ _ _ => rfl) (fun h => by omega)
      by_cases hb : brk Z (gOn Z 37 S).1
      · rw [if_pos hb]
        exact ⟨⟨by omega, by omega⟩, fun _ => ⟨⟨by omega, by omega⟩, fun _ => mb hb, fun h => absurd rfl h⟩, fun h => absurd rfl h⟩
      · rw [if_neg hb]
        exact ⟨⟨by omega, by omega⟩, fun h => by omega, fun _ => mn hb⟩
    · obtain ⟨mb, mn⟩ := main (fx_up M2 133 61 (M2 133 59)) (fun b j b1 b2 b3 b4 b5 => by rw [fx_up_ne (by omega)]; exact a02 b j b1 b2 b3 b4 b5) (fun b j hb => fx_up_ne hb) (fun _ => by rw [fx_up_self]; exact t2)
      by_cases hb : brk Z (gOn Z 37 S).1
      · rw [if_pos hb]
        exact ⟨⟨by omega, by omega⟩, fun _ => ⟨⟨by omega, by omega⟩, fun _ => mb hb, fun h => absurd rfl h⟩, fun h => absurd rfl h⟩
      · rw [if_neg hb]
        exact ⟨⟨by omega, by omega⟩, fun h => by omega, fun _ => mn hb⟩
  · have := hl.1
    unfold m_ok at this ⊢
    rw [fx_up_nk (by decide), fx_up_nk (by decide)]
    exact this
end MAR
