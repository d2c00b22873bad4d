/-! FORMS: the class takes the least form. -/
/-- the text of a variant in order -/
def tW (Z : PZ) (m : Int) (k : Nat) : List Int := tText (nvZ Z m k)
def hdT (Z : PZ) : List Int := [110, 101, 119] ++ (32 :: (dgs Z.1 ++ (32 :: (dgs Z.2.1 ++ (32 :: dgs Z.2.2.1)))))
/-- the number of a variant's givens -/
def gW (Z : PZ) (m : Int) (k : Nat) : Int := gP 9 (vrG Z m (rnm Z.2.2.1.toNat k))
section TKF
variable {Z : PZ}
theorem vrG_b (ho : pz_ok Z) {m : Int} (hm : 0 ≤ m ∧ m < mps Z.1 Z.2.1) {k : Nat} (hk : k < fcN Z.2.2.1.toNat) : gv9 (vrG Z m (rnm Z.2.2.1.toNat k)) ∧ (vrG Z m (rnm Z.2.2.1.toNat k)).length = 9 := by
  have hb := vrg_b ho hm hk
  have o6 := ho.2.2.2.2.2.1
  refine ⟨fun y hy => ?_, by unfold vrG; rw [List.length_map, List.length_range]⟩
  obtain ⟨j, _, j2⟩ := List.mem_map.mp hy
  have := hb j
  rw [← j2]
  omega
theorem tW_e (ho : pz_ok Z) {m : Int} (hm : 0 ≤ m ∧ m < mps Z.1 Z.2.1) {k : Nat} (hk : k < fcN Z.2.2.1.toNat) : tW Z m k = hdT Z ++ ((nrL Z m).flatMap tRule ++ gtx 0 (vrG Z m (rnm Z.2.2.1.toNat k))) := by
  unfold tW hdT
  rw [tText_e, gtx_range (nvZ_ok ho hm hk)]
  show [110, 101, 119] ++ (32 :: (dgs Z.1 ++ (32 :: (dgs Z.2.1 ++ (32 :: (dgs Z.2.2.1 ++ ((nrL Z m).flatMap tRule ++ gtx 0 (vrG Z m (rnm Z.2.2.1.toNat k))))))))) = _
  simp only [List.append_assoc, List.cons_append]
theorem tW_l (ho : pz_ok Z) (hn : pnZ Z) {m m' : Int} (hm : 0 ≤ m ∧ m < mps Z.1 Z.2.1) (hm' : 0 ≤ m' ∧ m' < mps Z.1 Z.2.1) {k k' : Nat} (hk : k < fcN Z.2.2.1.toNat) (hk' : k' < fcN Z.2.2.1.toNat) : ((nrL Z m).flatMap tRule ++ gtx 0 (vrG Z m (rnm Z.2.2.1.toNat k))).length = ((nrL Z m').flatMap tRule ++ gtx 0 (vrG Z m' (rnm Z.2.2.1.toNat k'))).length := by
  have h1 : (tW Z m k).length = (tW Z m' k').length := (nv_len ho hn hm hk).trans (nv_len ho hn hm' hk').symm
  rw [tW_e ho hm hk, tW_e ho hm' hk', List.length_append, List.length_append (as := hdT Z)] at h1
  omega
theorem tW_A (ho : pz_ok Z) (hn : pnZ Z) {m m' : Int} (hm : 0 ≤ m ∧ m < mps Z.1 Z.2.1) (hm' : 0 ≤ m' ∧ m' < mps Z.1 Z.2.1) {k k' : Nat} (hk : k < fcN Z.2.2.1.toNat) (hk' : k' < fcN Z.2.2.1.toNat) (h : cmpL (nrL Z m) (nrL Z m') < 0) : ltW (tW Z m k) (tW Z m' k') = true := by
  rw [tW_e ho hm hk, tW_e ho hm' hk']
  exact ltW_pre (cmpL_lt (nrL_v ho hn hm) (nrL_v ho hn hm') (gtx_gsm (by rw [(vrG_b ho hm hk).2]; omega)) (gtx_gsm (by rw [(vrG_b ho hm' hk').2]; omega)) (tW_l ho hn hm hm' hk hk') h)
theorem tW_B (ho : pz_ok Z) (hn : pnZ Z) {m m' : Int} (hm : 0 ≤ m ∧ m < mps Z.1 Z.2.1) (hm' : 0 ≤ m' ∧ m' < mps Z.1 Z.2.1) {k k' : Nat} (hk : k < fcN Z.2.2.1.toNat) (hk' : k' < fcN Z.2.2.1.toNat) (he : nrL Z m = nrL Z m') (h : gW Z m k < gW Z m' k') : ltW (tW Z m k) (tW Z m' k') = true := by
  have hl := tW_l ho hn hm hm' hk hk'
  rw [tW_e ho hm hk, tW_e ho hm' hk']
  rw [he] at hl ⊢
  rw [List.length_append, List.length_append (as := (nrL Z m').flatMap tRule)] at hl
  have b1 := vrG_b ho hm hk
  have b2 := vrG_b ho hm' hk'
  exact ltW_pre (ltW_pre (gP_lt b1.1 b2.1 b1.2 b2.2 (by omega) (by omega) h))
theorem tW_C (ho : pz_ok Z) {m m' : Int} (hm : 0 ≤ m ∧ m < mps Z.1 Z.2.1) (hm' : 0 ≤ m' ∧ m' < mps Z.1 Z.2.1) {k k' : Nat} (hk : k < fcN Z.2.2.1.toNat) (hk' : k' < fcN Z.2.2.1.toNat) (he : nrL Z m = nrL Z m') (h : gW Z m k = gW Z m' k') : tW Z m k = tW Z m' k' := by
  have b1 := vrG_b ho hm hk
  have b2 := vrG_b ho hm' hk'
  rw [tW_e ho hm hk, tW_e ho hm' hk', he, gP_inj b1.1 b2.1 b1.2 b2.2 h]
theorem gW_b (ho : pz_ok Z) {m : Int} (hm : 0 ≤ m ∧ m < mps Z.1 Z.2.1) {k : Nat} (hk : k < fcN Z.2.2.1.toNat) : 0 ≤ gW Z m k ∧ gW Z m k < 68719476736 := by
  have b1 := gP_b (n := 9) (vrG_b ho hm hk).1
  exact b1
/-- the least of the variants of the first n maps -/
def fmN (Z : PZ) (n : Int) (T : List PR) (G : Int) : Prop := ∃ (m1 : Int) (i1 : Nat), 0 ≤ m1 ∧ m1 < n ∧ i1 < rgs Z ∧ T = nrL Z m1 ∧ G = gW Z m1 i1 ∧ ∀ (m : Int) (i : Nat), 0 ≤ m → m < n → i < rgs Z → ltW (tW Z m i) (tW Z m1 i1) = false
theorem ltW_no {A B : List Int} (h : ltW B A = true) : ltW A B = false := (ltW_ne h).1
theorem ltW_self : ∀ {A : List Int}, ltW A A = false
  | [] => rfl
  | a :: A => by
    rw [ltW, if_pos rfl]
    exact ltW_self
theorem ltW_th {A B C : List Int} (h1 : ltW A B = true) (h2 : ltW C B = false) : ltW C A = false := by
  cases h : ltW C A with
  | false => rfl
  | true =>
    rw [ltW_tr h h1] at h2
    cases h2
theorem fm_first (ho : pz_ok Z) (hn : pnZ Z) {n : Int} {T : List PR} {G0 G : Int} (h0 : 0 ≤ n ∧ n < mps Z.1 Z.2.1) (hT : n = 0 ∨ (fmN Z n T G0 ∧ cmpL (nrL Z n) T < 0)) (hG : ∃ i : Nat, i < rgs Z ∧ G = gW Z n i) (hL : ∀ i : Nat, i < rgs Z → G ≤ gW Z n i) : fmN Z (n + 1) (nrL Z n) G := by
  have hrb := rgs_b ho
  obtain ⟨i, i1, i2⟩ := hG
  refine ⟨n, i, h0.1, by omega, i1, rfl, i2, fun m' k' m0 m1 kk => ?_⟩
  by_cases e : m' = n
  · subst e
    have hle := hL k' kk
    by_cases eq : gW Z m' i = gW Z m' k'
    · rw [tW_C ho h0 h0 (by omega) (by omega) rfl eq]
      exact ltW_self
    · exact ltW_no (tW_B ho hn h0 h0 (by omega) (by omega) rfl (by omega))
  · rcases hT with x | ⟨⟨a, b, a0, a1, b1, c1, c2, c3⟩, x⟩
    · omega
    · rw [c1] at x
      exact ltW_th (tW_A ho hn h0 ⟨a0, by omega⟩ (by omega) (by omega) x) (c3 m' k' m0 (by omega) kk)
theorem fm_same (ho : pz_ok Z) (hn : pnZ Z) {n : Int} {T : List PR} {G0 G : Int} (h0 : 0 ≤ n ∧ n < mps Z.1 Z.2.1) (hT : fmN Z n T G0) (hc : cmpL (nrL Z n) T = 0) (hG : G = G0 ∨ ∃ i : Nat, i < rgs Z ∧ G = gW Z n i) (hL : G ≤ G0 ∧ ∀ i : Nat, i < rgs Z → G ≤ gW Z n i) : fmN Z (n + 1) T G := by
  have hrb := rgs_b ho
  obtain ⟨a, b, a0, a1, b1, c1, c2, c3⟩ := hT
  have va : 0 ≤ a ∧ a < mps Z.1 Z.2.1 := ⟨a0, by omega⟩
  have he : nrL Z n = nrL Z a := by
    have := cmpL_0 (nrL_v ho hn h0) (by rw [c1]; exact nrL_v ho hn va) hc
    rw [this, c1]
  rcases (by omega : G = G0 ∨ G < G0) with e | e
  · refine ⟨a, b, a0, by omega, b1, c1, by rw [e]; exact c2, fun m' k' m0 m1 kk => ?_⟩
    by_cases em : m' = n
    · subst em
      have hle := hL.2 k' kk
      by_cases eq : gW Z a b = gW Z m' k'
      · rw [tW_C ho va h0 (by omega) (by omega) he.symm eq]
        exact ltW_self
      · exact ltW_no (tW_B ho hn va h0 (by omega) (by omega) he.symm (by omega))
    · exact c3 m' k' m0 (by omega) kk
  · rcases hG with x | ⟨i, i1, i2⟩
    · omega
    · refine ⟨n, i, h0.1, by omega, i1, by rw [he]; exact c1, i2, fun m' k' m0 m1 kk => ?_⟩
      by_cases em : m' = n
      · subst em
        have hle := hL.2 k' kk
        by_cases eq : gW Z m' i = gW Z m' k'
        · rw [tW_C ho h0 h0 (by omega) (by omega) rfl eq]
          exact ltW_self
        · exact ltW_no (tW_B ho hn h0 h0 (by omega) (by omega) rfl (by omega))
      · exact ltW_th (tW_B ho hn h0 va (by omega) (by omega) he (by omega)) (c3 m' k' m0 (by omega) kk)
theorem fm_more (ho : pz_ok Z) (hn : pnZ Z) {n : Int} {T : List PR} {G : Int} (h0 : 0 ≤ n ∧ n < mps Z.1 Z.2.1) (hT : fmN Z n T G) (hc : 0 < cmpL (nrL Z n) T) : fmN Z (n + 1) T G := by
  have hrb := rgs_b ho
  obtain ⟨a, b, a0, a1, b1, c1, c2, c3⟩ := hT
  refine ⟨a, b, a0, by omega, b1, c1, c2, fun m' k' m0 m1 kk => ?_⟩
  by_cases em : m' = n
  · subst em
    have h1 := cmpL_gt hc
    rw [c1] at h1
    exact ltW_no (tW_A ho hn ⟨a0, by omega⟩ h0 (by omega) (by omega) h1)
  · exact c3 m' k' m0 (by omega) kk
end TKF
theorem cmpL_b : ∀ {S T : List PR}, -1 ≤ cmpL S T ∧ cmpL S T ≤ 1 := by
  have c3 : ∀ a b : Int, -1 ≤ cmp3 a b ∧ cmp3 a b ≤ 1 := fun a b => by
    unfold cmp3
    split
    · omega
    · split <;> omega
  intro S
  induction S with
  | nil =>
    intro T
    cases T
    · exact c3 _ _
    · exact c3 _ _
  | cons a S ih =>
    intro T
    cases T with
    | nil => exact c3 _ _
    | cons b T =>
      rw [cmpL]
      split
      · exact ih
      · exact c3 _ _
/-- a form as the class keeps it -/
def cfm (M : fx_M) (f : Nat) (Z : PZ) (T : List PR) (G : Int) : Prop := M f 0 = Z.1 ∧ M f 1 = Z.2.1 ∧ M f 2 = Z.2.2.1 ∧ kys M f T ∧ M f 5 = G
section TAK
variable {kc : List va_E} {d p f : Nat} {Q : Option fx_V → fx_M → Prop} {M : fx_M} {Z : PZ}
theorem fr4 {f : Nat} (Hf : fx_frm f) : f = 40 ∨ f = 45 := by
  unfold fx_frm at Hf
  simp at Hf
  exact Hf
/-- the renamings of one map -/
theorem tk_inner {m : Int} (Hf : fx_frm f) (Hp : fx_puz p) (hpf : p + 8 < f) (ho : pz_ok Z) (hm : 0 ≤ m ∧ m < mps Z.1 Z.2.1) {od : Int} (hod : od ≤ 0 ∧ -10 ≤ od) {T : List PR} {G0 : Int} (hG0 : 0 ≤ G0 ∧ G0 ≤ 1099511627776) (K : ∀ N G, cz N p Z → cfm N f Z T G → (∀ b j, b ≠ f → b ≠ f + 1 → b ≠ f + 2 → b ≠ f + 3 → N b j = M b j) → 0 ≤ G → G ≤ G0 → (∀ i : Nat, i < rgs Z → G ≤ gW Z m i) → (G = G0 ∨ ∃ i : Nat, i < rgs Z ∧ G = gW Z m i) → wp kc (d + 4) 146 31 [some (jR f), some (jR p), some (jI (rgs Z : Nat)), some (jI (m + 1)), none, none] [] N Q) : ∀ (u i : Nat) (N : fx_M) (G : Int), i + u = rgs Z → cz N p Z → cfm N f Z T G → (∀ b j, b ≠ f → b ≠ f + 1 → b ≠ f + 2 → b ≠ f + 3 → N b j = M b j) → 0 ≤ G → G ≤ G0 → (∀ j : Nat, j < i → G ≤ gW Z m j) → (G = G0 ∨ ∃ j : Nat, j < i ∧ G = gW Z m j) → wp kc (d + 4) 146 97 [some (jR f), some (jR p), some (jI (rgs Z : Nat)), some (jI m), some (jI od), some (jI i)] [] N Q := by
  have hrb := rgs_b ho
  have h8 := mps_8 hm
  have o5 := ho.2.2.2.2.1
  have o6 := ho.2.2.2.2.2.1
  intro u
  induction u with
  | zero =>
    intro i N G hi hz hc fN g0 gle gj gx
    have ei : i = rgs Z := by omega
    rw [ei] at gj gx
    have e2 : (i : Int) = ((rgs Z : Nat) : Int) := by omega
    rw [e2]
    exact s146_97 Hf Hp ⟨⟨⟨by omega, by omega⟩, ⟨by omega, by omega⟩⟩, fun _ => K N G hz hc fN g0 gle gj gx, fun h => by omega⟩
  | succ u ih =>
    intro i N G hi hz hc fN g0 gle gj gx
    obtain ⟨c0, c1, c2, ⟨c3, c4⟩, c5⟩ := hc
    obtain ⟨s, hs⟩ : ∃ s : Nat, Z.2.2.1 = (s : Int) := ⟨Z.2.2.1.toNat, by omega⟩
    have e6 : Z.2.2.1.toNat = s := by omega
    have hif : i < fcN Z.2.2.1.toNat := by omega
    have gb := gW_b ho hm hif
    refine s146_97 Hf Hp ?_
    rw [c2, hs]
    refine ⟨⟨⟨by omega, by omega⟩, ⟨by omega, by omega⟩⟩, fun h => by omega, fun _ => ⟨⟨by omega, by omega⟩, fun h => by omega, fun _ => ?_⟩⟩
    refine sp_crename (d := d) Hf (s := s) (k := i) ⟨by omega, by omega⟩ (by rw [e6] at hif; exact hif) (fun P p1 p2 => s146_118 Hf Hp ?_)
    have hzP : cz P p Z := cz_fr hz (fun b j b1 b2 => p2 b j (by omega))
    rw [p2 f 5 (by omega), c5]
    refine sp_givensOf (d := d + 1) Hf Hp hzP ho hm hif (fun j hj => by rw [e6]; exact p1 j (by omega)) (s146_129 Hf Hp ?_)
    have eg : gP 9 (vrG Z m (rnm Z.2.2.1.toNat i)) = gW Z m i := rfl
    rw [eg]
    refine ⟨⟨⟨by omega, by omega⟩, ⟨by omega, by omega⟩⟩, ?_⟩
    have nx := ih (i + 1) (fx_up P f 5 (if gW Z m i < G then gW Z m i else G)) (if gW Z m i < G then gW Z m i else G) (by omega) (cz_fr hzP (fun b j b1 b2 => fx_up_na (by omega))) ⟨by rw [fx_up_nk (by decide), p2 f 0 (by omega)]; exact c0, by rw [fx_up_nk (by decide), p2 f 1 (by omega)]; exact c1, by rw [fx_up_nk (by decide), p2 f 2 (by omega)]; exact c2, ⟨by rw [fx_up_nk (by decide), p2 f 3 (by omega)]; exact c3, fun j R hj => by rw [fx_up_na (by omega), p2 (f + 1) _ (by omega)]; exact c4 j R hj⟩, fx_up_self ..⟩ (fun b j b1 b2 b3 b4 => by rw [fx_up_na b1, p2 b j b4, fN b j b1 b2 b3 b4]) (by split <;> omega) (by split <;> omega) (fun j hj => by
      by_cases e : j = i
      · subst e
        split <;> omega
      · have := gj j (by omega)
        split <;> omega) (by
      by_cases hlt : gW Z m i < G
      · right
        exact ⟨i, by omega, by rw [if_pos hlt]⟩
      · rw [if_neg hlt]
        rcases gx with x | ⟨j, j1, j2⟩
        · exact Or.inl x
        · exact Or.inr ⟨j, by omega, j2⟩)
    rw [show ((i + 1 : Nat) : Int) = (i : Int) + 1 by omega] at nx
    exact nx
theorem sp_formTake (Hf : fx_frm f) (Hp : fx_puz p) (hpf : p + 8 < f) (hz : cz M p Z) (ho : pz_ok Z) (hn : pnZ Z) (K : ∀ N T G, fmN Z (mps Z.1 Z.2.1) T G → cfm N f Z T G → (∀ b j, b ≠ f → b ≠ f + 1 → b ≠ f + 2 → b ≠ f + 3 → N b j = M b j) → Q none N) : wc kc (d + 4) 146 [jR f, jR p] M Q := by
  have hrb := rgs_b ho
  have h12 := ho.2.2.2.2.2.2.1
  have hmp : mps Z.1 Z.2.1 = 8 ∨ mps Z.1 Z.2.1 = 4 := by
    unfold mps
    split
    · exact Or.inl rfl
    · exact Or.inr rfl
  have o1 := ho.1
  have o2 := ho.2.1
  have o3 := ho.2.2.1
  have o4 := ho.2.2.2.1
  have o5 := ho.2.2.2.2.1
  have o6 := ho.2.2.2.2.2.1
  have z : ∀ (u : Nat) (m : Int) (N : fx_M), m + u = mps Z.1 Z.2.1 → 0 ≤ m → cz N p Z → N f 0 = Z.1 → N f 1 = Z.2.1 → N f 2 = Z.2.2.1 → (∀ b j, b ≠ f → b ≠ f + 1 → b ≠ f + 2 → b ≠ f + 3 → N b j = M b j) → (m = 0 ∨ ∃ T G, fmN Z m T G ∧ kys N f T ∧ N f 5 = G) → wp kc (d + 4) 146 31 [some (jR f), some (jR p), some (jI (rgs Z : Nat)), some (jI m), none, none] [] N Q := by
    intro u
    induction u with
    | zero =>
      intro m N hm h0 nz n0 n1 n2 fN hI
      rcases hI with x | ⟨T, G, t1, t2, t3⟩
      · omega
      · have em : m = mps Z.1 Z.2.1 := by omega
        rw [em] at t1 ⊢
        exact s146_31 Hf Hp (sp_maps (d := d + 2) Hp nz ho (s146_36 Hf Hp ⟨⟨⟨by omega, by omega⟩, ⟨by omega, by omega⟩⟩, fun _ => K N T G t1 ⟨n0, n1, n2, t2, t3⟩ fN, fun h => by omega⟩))
    | succ u ih =>
      intro m N hm h0 nz n0 n1 n2 fN hI
      have vm : 0 ≤ m ∧ m < mps Z.1 Z.2.1 := ⟨h0, by omega⟩
      have hSl := nrL_len (Z := Z) (m := m)
      refine s146_31 Hf Hp (sp_maps (d := d + 2) Hp nz ho (s146_36 Hf Hp ⟨⟨⟨by omega, by omega⟩, ⟨by omega, by omega⟩⟩, fun h => by omega, fun _ => ?_⟩))
      refine sp_orderRules (d := d) Hf Hp hpf nz ho vm (fun P p1 p2 => s146_45 Hf Hp ?_)
      rw [kyL_nr] at p1
      have hzP : cz P p Z := cz_fr nz (fun b j b1 b2 => p2 b j (by omega) (by omega))
      have q0 : P f 0 = Z.1 := by rw [p2 f 0 (by omega) (by omega), n0]
      have q1 : P f 1 = Z.2.1 := by rw [p2 f 1 (by omega) (by omega), n1]
      have q2 : P f 2 = Z.2.2.1 := by rw [p2 f 2 (by omega) (by omega), n2]
      have fP : ∀ b j, b ≠ f → b ≠ f + 1 → b ≠ f + 2 → b ≠ f + 3 → P b j = M b j := fun b j b1 b2 b3 b4 => by rw [p2 b j b3 (by omega), fN b j b1 b2 b3 b4]
      -- taken anew
      have anew : ∀ od : Int, od ≤ 0 ∧ -10 ≤ od → (m = 0 ∨ ∃ T G0, fmN Z m T G0 ∧ cmpL (nrL Z m) T < 0) → wp kc (d + 4) 146 97 [some (jR f), some (jR p), some (jI (rgs Z : Nat)), some (jI m), some (jI od), some (jI 0)] [] (fx_up (fx_up (fx_cpy P (f + 2) 0 (f + 1) 0 12) f 3 ((fx_cpy P (f + 2) 0 (f + 1) 0 12) f 6)) f 5 1099511627776) Q := fun od hod hcs => by
        have cf : ∀ b j, b ≠ f + 1 → fx_cpy P (f + 2) 0 (f + 1) 0 12 b j = P b j := fun b j hb => cpy_ne hb
        have c1 : ∀ j : Int, 0 ≤ j ∧ j < 12 → fx_cpy P (f + 2) 0 (f + 1) 0 12 (f + 1) j = P (f + 2) j := fun j hj => cpy_to hj
        rw [cf f 6 (by omega), p1.1, List.length_map]
        refine tk_inner (d := d) (M := M) (T := nrL Z m) (G0 := 1099511627776) Hf Hp hpf ho vm hod (by decide) (fun R G r1 r2 r3 r4 r5 r6 r7 => ?_) (rgs Z) 0 _ 1099511627776 (by omega) (cz_fr hzP (fun b j b1 b2 => by rw [fx_up_na (by omega), fx_up_na (by omega), cf b j (by omega)])) ⟨by rw [fx_up_nk (by decide), fx_up_nk (by decide), cf f 0 (by omega)]; exact q0, by rw [fx_up_nk (by decide), fx_up_nk (by decide), cf f 1 (by omega)]; exact q1, by rw [fx_up_nk (by decide), fx_up_nk (by decide), cf f 2 (by omega)]; exact q2, ⟨by rw [fx_up_nk (by decide), fx_up_self], fun i R hR => ?_⟩, fx_up_self ..⟩ (fun b j b1 b2 b3 b4 => by rw [fx_up_na b1, fx_up_na b1, cf b j b2, fP b j b1 b2 b3 b4]) (by decide) (Int.le_refl _) (fun j hj => by omega) (Or.inl rfl)
        · have hg0 := gW_b ho vm (k := 0) (by omega)
          have hle := r6 0 (by omega)
          have hx : ∃ i : Nat, i < rgs Z ∧ G = gW Z m i := by
            rcases r7 with x | x
            · omega
            · exact x
          have nf : fmN Z (m + 1) (nrL Z m) G := by
            rcases hcs with x | ⟨T, G0, x1, x2⟩
            · exact fm_first (T := []) (G0 := 0) ho hn vm (Or.inl x) hx r6
            · exact fm_first ho hn vm (Or.inr ⟨x1, x2⟩) hx r6
          exact ih (m + 1) R (by omega) (by omega) r1 r2.1 r2.2.1 r2.2.2.1 r3 (Or.inr ⟨_, _, nf, r2.2.2.2.1, r2.2.2.2.2⟩)
        · have hil := (List.getElem?_eq_some_iff.mp hR).1
          rw [fx_up_na (by omega), fx_up_na (by omega), c1 _ ⟨by omega, by omega⟩]
          exact p1.2 i _ (by rw [List.getElem?_map, hR]; rfl)
      refine ⟨⟨by omega, by omega⟩, fun hm0 => ?_, fun hm0 => ⟨⟨by omega, by omega, by omega, by omega, by omega⟩, anew (-1) (by omega) (Or.inl hm0)⟩⟩
      rcases hI with x | ⟨T, G, t1, t2, t3⟩
      · exact absurd x hm0
      · have hT1 := t1
        obtain ⟨a, b, a0, a1, b1, c1, c2, c3⟩ := hT1
        have va : 0 ≤ a ∧ a < mps Z.1 Z.2.1 := ⟨a0, by omega⟩
        have vT : ∀ x ∈ T, vR x := by
          rw [c1]
          exact nrL_v ho hn va
        have hTl : T.length ≤ 12 := by
          have := nrL_len (Z := Z) (m := a)
          rw [c1]
          omega
        have gb := gW_b ho va (k := b) (by omega)
        have kP : kys P f T := ⟨by rw [p2 f 3 (by omega) (by omega)]; exact t2.1, fun i R hR => by rw [p2 (f + 1) _ (by omega) (by omega)]; exact t2.2 i R hR⟩
        have g5 : P f 5 = G := by rw [p2 f 5 (by omega) (by omega), t3]
        refine sp_compareTrial (d := d + 1) Hf p1 kP (nrL_v ho hn vm) vT ⟨by omega, hTl⟩ (s146_57 Hf Hp ?_)
        have cb : -1 ≤ cmpL (nrL Z m) T ∧ cmpL (nrL Z m) T ≤ 1 := cmpL_b
        generalize hcm : cmpL (nrL Z m) T = cm at cb ⊢
        refine ⟨⟨by omega, by omega⟩, fun hge => ?_, fun hlt => ⟨⟨by omega, by omega, by omega, by omega, by omega⟩, anew cm ⟨by omega, by omega⟩ (Or.inr ⟨T, G, t1, by omega⟩)⟩⟩
        by_cases hz0 : cm = 0
        · rw [hz0] at hcm ⊢
          refine tk_inner (d := d) (M := M) (T := T) (G0 := G) Hf Hp hpf ho vm (by decide) ⟨by omega, by omega⟩ (fun R G' r1 r2 r3 r4 r5 r6 r7 => ?_) (rgs Z) 0 P G (by omega) hzP ⟨q0, q1, q2, kP, g5⟩ fP (by omega) (Int.le_refl _) (fun j hj => by omega) (Or.inl rfl)
          have nf : fmN Z (m + 1) T G' := fm_same ho hn vm t1 hcm r7 ⟨r5, r6⟩
          exact ih (m + 1) R (by omega) (by omega) r1 r2.1 r2.2.1 r2.2.2.1 r3 (Or.inr ⟨_, _, nf, r2.2.2.2.1, r2.2.2.2.2⟩)
        · have nf : fmN Z (m + 1) T G := fm_more ho hn vm t1 (by omega)
          refine s146_97 Hf Hp ⟨⟨⟨by omega, by omega⟩, ⟨by omega, by omega⟩⟩, fun h => by omega, fun _ => ⟨⟨by omega, by omega⟩, fun _ => ?_, fun h => by omega⟩⟩
          exact ih (m + 1) P (by omega) (by omega) hzP q0 q1 q2 fP (Or.inr ⟨_, _, nf, kP, g5⟩)
  refine s146 Hf Hp ?_
  rw [hz.1, hz.2.1, hz.2.2.2.1]
  generalize hN : fx_up (fx_up (fx_up M f 0 Z.1) f 1 Z.2.1) f 2 Z.2.2.1 = N
  have nf : ∀ b j, b ≠ f → N b j = M b j := fun b j hb => by rw [← hN, fx_up_na hb, fx_up_na hb, fx_up_na hb]
  have nz : cz N p Z := cz_fr hz (fun b j b1 b2 => nf b j (by omega))
  exact sp_renamings (d := d + 2) Hp nz ho (s146_28 Hf Hp (z (mps Z.1 Z.2.1).toNat 0 N (by omega) (by omega) nz (by rw [← hN, fx_up_nk (by decide), fx_up_nk (by decide), fx_up_self]) (by rw [← hN, fx_up_nk (by decide), fx_up_self]) (by rw [← hN, fx_up_self]) (fun b j b1 _ _ _ => nf b j b1) (Or.inl rfl)))
end TAK
