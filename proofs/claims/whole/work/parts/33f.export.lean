/-! The book as a text, on both sides. -/
def tEn (g : Int → Int) (i : Nat) : List Int := 47 :: (bNm g i ++ [32]) ++ tText (bZ g i)
def tExs (g : Int → Int) : Nat → List Int
  | 0 => []
  | n + 1 => tExs g n ++ tEn g n
def ckS (s : Int) (l : List Int) : Int := l.foldl (fun s c => (s * 31 + c) % 65521) s
def tEx0 (g : Int → Int) : List Int := wls (wrd 56) ++ 32 :: dgs (g (bRt g)) ++ tExs g (g (bRt g)).toNat ++ [47]
def tExp (g : Int → Int) : List Int := tEx0 g ++ dgs (ckS 7 (tEx0 g))
theorem ckS_b : ∀ {l : List Int} {s : Int}, 0 ≤ s ∧ s < 65521 → 0 ≤ ckS s l ∧ ckS s l < 65521
  | [], s, h => h
  | c :: l, s, h => ckS_b (l := l) (s := (s * 31 + c) % 65521) ⟨Int.emod_nonneg _ (by decide), Int.emod_lt_of_pos _ (by decide)⟩
theorem ckS_s {l : List Int} {s c : Int} : ckS s (l ++ [c]) = (ckS s l * 31 + c) % 65521 := by
  unfold ckS
  rw [List.foldl_append]
  rfl
theorem bNm_b {g : Int → Int} {i : Int} (h : bHd g i) : (bNm g i).length ≤ 8 ∧ 1 ≤ (bNm g i).length ∧ ∀ c ∈ bNm g i, 97 ≤ c ∧ c ≤ 122 := by
  have h4 := h.2.2.2.1
  have h5 := h.2.2.2.2.1
  unfold bNm
  refine ⟨by rw [List.length_map, List.length_range]; omega, by rw [List.length_map, List.length_range]; omega, fun c hc => ?_⟩
  obtain ⟨k, k1, k2⟩ := List.mem_map.mp hc
  have := List.mem_range.mp k1
  have h6 := h.2.2.2.2.2 (1 + (k : Int)) (by omega) (by omega)
  rw [show 32 * bCh g i + (1 + (k : Int)) = 32 * bCh g i + 1 + (k : Int) by omega, k2] at h6
  exact h6
theorem tEn_b {g : Int → Int} {i : Nat} (h : bHd g i) (hz : pz_ok (bZ g i)) : (tEn g i).length ≤ 364 ∧ ∀ c ∈ tEn g i, 0 ≤ c ∧ c ≤ 255 := by
  have h1 := bNm_b h
  have h2 := tText_b hz
  unfold tEn
  refine ⟨?_, fun c hc => ?_⟩
  · rw [List.length_append, List.length_cons, List.length_append, List.length_singleton]
    omega
  · rcases List.mem_append.mp hc with e | e
    · rcases List.mem_cons.mp e with e | e
      · rw [e]
        omega
      · rcases List.mem_append.mp e with e | e
        · have := h1.2.2 c e
          omega
        · rw [List.mem_singleton.mp e]
          omega
    · exact h2.2 c e
theorem tExs_b {g : Int → Int} : ∀ {n : Nat}, (∀ i : Nat, i < n → bHd g i ∧ pz_ok (bZ g i)) → (tExs g n).length ≤ 364 * n ∧ ∀ c ∈ tExs g n, 0 ≤ c ∧ c ≤ 255
  | 0, _ => ⟨Nat.zero_le _, fun c hc => by cases hc⟩
  | n + 1, h => by
    have ih := tExs_b (n := n) (fun i hi => h i (by omega))
    have hn := h n (by omega)
    have h1 := tEn_b hn.1 hn.2
    rw [tExs]
    refine ⟨by rw [List.length_append]; omega, fun c hc => ?_⟩
    rcases List.mem_append.mp hc with e | e
    · exact ih.2 c e
    · exact h1.2 c e
theorem lit_b4 : ∀ x ∈ ([98, 111, 111, 107] : List Int), 0 ≤ x ∧ x ≤ 255 := by decide
theorem tEx0_b {g : Int → Int} (hb : bk_b g) (h15 : g (bRt g) ≤ 15) (h : ∀ i : Nat, i < (g (bRt g)).toNat → bHd g i ∧ pz_ok (bZ g i)) : (tEx0 g).length ≤ 5470 ∧ ∀ c ∈ tEx0 g, 0 ≤ c ∧ c ≤ 255 := by
  have hr := bRt_b (g := g)
  have h0 := hb (bRt g) (by omega) (by omega)
  have h1 := tExs_b h
  have h2 := dgs_b (v := g (bRt g)) ⟨h0.1, by omega⟩
  have h3 : wls (wrd 56) = [98, 111, 111, 107] := by decide +kernel
  unfold tEx0
  rw [h3]
  refine ⟨?_, fun c hc => ?_⟩
  · rw [List.length_append, List.length_append, List.length_append, show ([98, 111, 111, 107] : List Int).length = 4 from rfl, List.length_cons, List.length_singleton]
    omega
  · rcases List.mem_append.mp hc with e | e
    · rcases List.mem_append.mp e with e | e
      · rcases List.mem_append.mp e with e | e
        · exact lit_b4 c e
        · rcases List.mem_cons.mp e with e | e
          · rw [e]
            omega
          · have := h2.2 c e
            omega
      · exact h1.2 c e
    · rw [List.mem_singleton.mp e]
      omega
section EXP
variable {L : Nat} {xs : Nat → Int32} {kc : List va_E} {d : Nat} {Q : Option fx_V → fx_M → Prop} {g : Int → Int} {M : fx_M}
theorem sp_checkOf {n : Nat} {a : Nat} (Ha : fx_a a = some (1, n)) {s e : Int} {l : List Int} (hn : n ≤ 100000) (h0 : 0 ≤ s) (he : e = s + l.length) (h1 : e ≤ n) (hl : ∀ (i : Nat) (c : Int), l[i]? = some c → M a (s + i) = c ∧ 0 ≤ c ∧ c ≤ 65535) (K : Q (some (jI (ckS 7 l))) M) : wc kc (d + 1) 62 [jR a, jI s, jI e] M Q := by
  have z : ∀ (u i : Nat), i + u = l.length → wp kc (d + 1) 62 6 [some (jR a), none, some (jI e), some (jI (ckS 7 (l.take i))), some (jI (s + i))] [] M Q := by
    intro u
    induction u with
    | zero =>
      intro i hi
      rw [List.take_of_length_le (by omega)]
      exact s62_6 Ha (by omega) ⟨⟨⟨by omega, by omega⟩, ⟨by omega, by omega⟩⟩, fun _ => K, fun h => by omega⟩
    | succ u ih =>
      intro i hi
      have hil : i < l.length := by omega
      have hx := hl i _ (List.getElem?_eq_getElem hil)
      have hb := ckS_b (l := l.take i) (s := 7) ⟨by omega, by omega⟩
      have nx := ih (i + 1) (by omega)
      rw [List.take_succ_eq_append_getElem hil, ckS_s, show s + ((i + 1 : Nat) : Int) = s + (i : Int) + 1 by omega] at nx
      refine s62_6 Ha (by omega) ?_
      rw [hx.1]
      exact ⟨⟨⟨by omega, by omega⟩, ⟨by omega, by omega⟩⟩, fun h => by omega, fun _ => ⟨⟨by omega, by omega⟩, ⟨by omega, by omega⟩, nx⟩⟩
  have := z l.length 0 (by omega)
  rw [show s + ((0 : Nat) : Int) = s by omega] at this
  exact s62 Ha (by omega) this
def fex (M M' : fx_M) (cs : List Int) : Prop := ∀ b j, b ≠ 129 → b ≠ 132 → ¬ (20 ≤ b ∧ b ≤ 28) → (b = 3 → j = 1) → M' b j = o_app M 3 cs b j
def exS (M : fx_M) (cs : List Int) (N : fx_M) : Prop := (∃ Y, cz N 20 Y ∧ pz_ok Y) ∧ fex M N cs
theorem fex_app {N : fx_M} {cs ds : List Int} (h : fex M N cs) : fex M (o_app N 3 ds) (cs ++ ds) := fun b j a1 a2 a3 a4 => by
  rw [← o_app_app]
  exact o_app_fq (h 3 1 (by decide) (by decide) (by omega) (fun _ => rfl)) (fun a => h 4 a (by decide) (by decide) (by omega) (fun x => by omega)) (h b j a1 a2 a3 a4) a4
theorem exS_app {N : fx_M} {cs ds : List Int} (h : exS M cs N) : exS M (cs ++ ds) (o_app N 3 ds) := by
  obtain ⟨⟨Y, y1, y2⟩, h2⟩ := h
  exact ⟨⟨Y, cz_app puz20 out3 y1, y2⟩, fex_app h2⟩
theorem exS_ok {N : fx_M} {cs : List Int} (h : exS M cs N) (hO : o_ok M 3) : o_ok N 3 := by
  have := o_ok_app (cs := cs) hO
  unfold o_ok at this ⊢
  rw [h.2 3 1 (by decide) (by decide) (by omega) (fun _ => rfl)]
  exact this
theorem exS_g {N : fx_M} {cs : List Int} (h : exS M cs N) (hg : M 126 = g) : N 126 = g := by
  funext j
  rw [h.2 126 j (by decide) (by decide) (by omega) (fun x => by omega), o_app_ne (by decide) (by decide), hg]
theorem sp_exportBook {Y : PZ} (hg : M 126 = g) (hb : bk_b g) (hM : bMd g) (hz : ∀ i : Nat, i < (g (bRt g)).toNat → pz_ok (bZ g i)) (hY : cz M 20 Y) (hYo : pz_ok Y) (h3 : M 3 1 = 0) (K : ∀ M', exS M (tExp g) M' → Q none M') : wc (kcs L xs) (d + 8) 200 [jR 0] M Q := by
  have hrb := bRt_b (g := g)
  have h0 := hb (bRt g) (by omega) (by omega)
  have h15 := hM.2.1
  have hO : o_ok M 3 := by
    unfold o_ok
    rw [h3]
    omega
  have eN : bNE g = g (bRt g) := by
    unfold bNE
    rw [if_neg (by omega)]
  have hX := tEx0_b hb h15 (fun i hi => ⟨(hM.2.2.2 i (by omega) (by omega)).1, hz i hi⟩)
  have hck := ckS_b (l := tEx0 g) (s := 7) ⟨by omega, by omega⟩
  have ew : ([98, 111, 111, 107, 32] : List Int32).map Int32.toInt = wls (wrd 56) ++ [32] := by decide +kernel
  have x0 : exS M [] M := ⟨⟨Y, hY, hYo⟩, fun _ _ _ _ _ _ => rfl⟩
  have z : ∀ (u i : Nat) (N : fx_M), (i : Int) + u = g (bRt g) → exS M (wls (wrd 56) ++ 32 :: dgs (g (bRt g)) ++ tExs g i) N → wp (kcs L xs) (d + 8) 200 26 [some (jR 0), some (jI i)] [] N Q := by
    intro u
    induction u with
    | zero =>
      intro i N hi hN
      refine s200_26 (sp_entries (d := d + 5) (exS_g hN hg) hb (s200_34 ?_))
      rw [eN]
      refine ⟨⟨⟨by omega, by omega⟩, ⟨by omega, by omega⟩⟩, fun _ => sp_put (d := d + 6) out3 (exS_ok hN hO) ⟨by omega, by omega⟩ (s200_99 ?_), fun h => by omega⟩
      have x1 : exS M (tEx0 g) (o_app N 3 [47]) := by
        have := exS_app (ds := [47]) hN
        rw [show i = (g (bRt g)).toNat by omega] at this
        exact this
      have x31 : o_app N 3 [47] 3 1 = (tEx0 g).length := by
        rw [x1.2 3 1 (by decide) (by decide) (by omega) (fun _ => rfl), o_app_l3 (by omega), h3]
        omega
      have e1 : o_put N 3 47 = o_app N 3 [47] := rfl
      rw [e1, x31]
      refine sp_checkOf (d := d + 6) (l := tEx0 g) (n := 5600) (by unfold fx_a; rfl) (by omega) (by omega) (by omega) (by omega) (fun k c hc => ?_) (s200_121 ?_)
      · have hkl := (List.getElem?_eq_some_iff.mp hc).1
        have hcb := hX.2 c (List.mem_of_getElem? hc)
        refine ⟨?_, by omega, by omega⟩
        have := o_app_get (cs := tEx0 g) (M := M) (i := k) (by omega) hkl
        rw [h3] at this
        rw [x1.2 4 _ (by decide) (by decide) (by omega) (fun x => by omega), this, List.getD_eq_getElem?_getD, hc]
        rfl
      · exact sp_number (d := d + 6) out3 (exS_ok x1 hO) (by omega) (by omega) (s200_124 (K _ (exS_app x1)))
    | succ u ih =>
      intro i N hi hN
      have hEn := hM.2.2.2 (i : Int) (by omega) (by omega)
      refine s200_26 (sp_entries (d := d + 5) (exS_g hN hg) hb (s200_34 ?_))
      rw [eN]
      refine ⟨⟨⟨by omega, by omega⟩, ⟨by omega, by omega⟩⟩, fun h => by omega, fun _ => sp_put (d := d + 6) out3 (exS_ok hN hO) ⟨by omega, by omega⟩ (s200_46 ?_)⟩
      have x1 : exS M (wls (wrd 56) ++ 32 :: dgs (g (bRt g)) ++ tExs g i ++ [47]) (o_app N 3 [47]) := exS_app hN
      refine sp_writeName (d := d + 4) (exS_g x1 hg) hb (exS_ok x1 hO) hEn.1 (by omega) (s200_58 ?_)
      have x2 := exS_app (ds := bNm g i ++ [32]) x1
      have x2' := x2
      obtain ⟨⟨W, w1, w2⟩, x3⟩ := x2'
      refine sp_read (d := d) puz20 w1 w2 (exS_g x2 hg) hb ⟨by omega, by omega⟩ (fun hne => absurd hEn hne) (fun _ P p1 p2 p3 => s200_70 ⟨⟨by omega, by omega⟩, fun h => by omega, fun _ => ?_⟩)
      have x4 : exS M (wls (wrd 56) ++ 32 :: dgs (g (bRt g)) ++ tExs g i ++ [47] ++ (bNm g i ++ [32])) P := ⟨⟨_, p1, p2⟩, fun b j a1 a2 a3 a4 => by
        rw [p3 b j a1 a2 (by omega), x3 b j a1 a2 a3 a4]⟩
      refine sp_write (d := d + 1) puz20 out3 p2 p1 (exS_ok x4 hO) (s200_84 ?_)
      have x5 := exS_app (ds := tText (bZ g i)) x4
      have ee : wls (wrd 56) ++ 32 :: dgs (g (bRt g)) ++ tExs g i ++ [47] ++ (bNm g i ++ [32]) ++ tText (bZ g i) = wls (wrd 56) ++ 32 :: dgs (g (bRt g)) ++ tExs g (i + 1) := by
        rw [tExs]
        unfold tEn
        simp only [List.append_assoc, List.cons_append, List.nil_append]
      rw [ee] at x5
      have nx := ih (i + 1) _ (by omega) x5
      rw [show ((i + 1 : Nat) : Int) = (i : Int) + 1 by omega] at nx
      exact nx
  refine s200 (sp_puts (d := d + 3) out3 lt_1000175 hO (s200_10 ?_))
  rw [ew]
  have x1 := exS_app (ds := wls (wrd 56) ++ [32]) x0
  refine sp_entries (d := d + 5) (exS_g x1 hg) hb (s200_21 ?_)
  rw [eN]
  refine sp_number (d := d + 6) out3 (exS_ok x1 hO) (by omega) (by omega) (s200_24 ?_)
  have x2 := exS_app (ds := dgs (g (bRt g))) x1
  refine z (g (bRt g)).toNat 0 _ (by omega) ?_
  have ee : [] ++ (wls (wrd 56) ++ [32]) ++ dgs (g (bRt g)) = wls (wrd 56) ++ 32 :: dgs (g (bRt g)) ++ tExs g 0 := by
    rw [tExs]
    simp only [List.append_assoc, List.cons_append, List.nil_append, List.append_nil]
  rw [ee] at x2
  exact x2
end EXP
section EXM
variable {kc : List va_E} {d : Nat} {Q : Option fx_V → fx_M → Prop} {g : Int → Int} {M : fx_M}
def fmx (M M' : fx_M) (cs : List Int) : Prop := ∀ b j, ¬ (b = 133 ∧ (j = 3 ∨ (7 ≤ j ∧ j ≤ 23))) → b ≠ 135 → b ≠ 137 → ¬ ucell 1 b j → M' b j = m_app M cs b j
theorem mxS_app {N : fx_M} {cs ds : List Int} (h2 : fmx M N cs) : fmx M (m_app N ds) (cs ++ ds) := fun b j a1 a2 a3 a4 => by
  rw [← m_app_app]
  exact m_app_fq (h2 133 5 (by omega) (by decide) (by decide) (by unfold ucell; omega)) (fun a => h2 136 a (by omega) (by decide) (by decide) (by unfold ucell; omega)) (h2 b j a1 a2 a3 a4)
theorem mxS_ok {N : fx_M} {cs : List Int} (h : fmx M N cs) (hO : m_ok M) : m_ok N := m_okq (m_ok_app (cs := cs) hO) (h 133 5 (by omega) (by decide) (by decide) (by unfold ucell; omega))
theorem mxS_g {N : fx_M} {cs : List Int} (h : fmx M N cs) (hg : mbk M g) : mbk N g := mbk_fr hg (fun j => by rw [h 188 j (by omega) (by decide) (by decide) (by unfold ucell; omega), m_app_ne (by omega) (by decide)])
theorem sp_sayExport (hg : mbk M g) (hb : bk_b g) (hM : bMd g) (hz : ∀ i : Nat, i < (g (bRt g)).toNat → pz_ok (bZ g i)) (h5 : M 133 5 = 0) (K : ∀ M', fmx M M' (tExp g) → Q none M') : wc kc (d + 9) 376 [jR 133] M Q := by
  have hrb := bRt_b (g := g)
  have h0 := hb (bRt g) (by omega) (by omega)
  have h15 := hM.2.1
  have hO : m_ok M := ⟨by omega, by omega⟩
  have hX := tEx0_b hb h15 (fun i hi => ⟨(hM.2.2.2 i (by omega) (by omega)).1, hz i hi⟩)
  have x0 : fmx M M [] := fun _ _ _ _ _ _ => rfl
  have w : ∀ (N : fx_M), fmx M N (tEx0 g) → ∀ (u i : Nat), i + u = (tEx0 g).length → wp kc (d + 9) 376 68 [some (jR 133), some (jI (ckS 7 ((tEx0 g).take i))), some (jI i)] [] N Q := by
    intro N hN u
    have n5 : N 133 5 = (tEx0 g).length := by
      rw [hN 133 5 (by omega) (by decide) (by decide) (by unfold ucell; omega), m_app_len (by omega), h5]
      omega
    induction u with
    | zero =>
      intro i hi
      have hck := ckS_b (l := tEx0 g) (s := 7) ⟨by omega, by omega⟩
      rw [List.take_of_length_le (by omega)]
      refine s376_68 ?_
      rw [n5]
      exact ⟨⟨⟨by omega, by omega⟩, ⟨by omega, by omega⟩⟩, fun _ => sp_sayNumber (d := d + 6) (mxS_ok hN hO) (by omega) (by omega) (s376_103 (K _ (mxS_app hN))), fun h => by omega⟩
    | succ u ih =>
      intro i hi
      have hil : i < (tEx0 g).length := by omega
      have hb2 := ckS_b (l := (tEx0 g).take i) (s := 7) ⟨by omega, by omega⟩
      have hcb := hX.2 _ (List.getElem_mem hil)
      have ev : N 136 (i : Int) = (tEx0 g)[i] := by
        have := m_app_get (cs := tEx0 g) (M := M) (i := i) (by omega) hil
        rw [h5, show (0 : Int) + (i : Int) = (i : Int) by omega] at this
        rw [hN 136 _ (by omega) (by decide) (by decide) (by unfold ucell; omega), this, List.getD_eq_getElem?_getD, List.getElem?_eq_getElem hil]
        rfl
      have nx := ih (i + 1) (by omega)
      rw [List.take_succ_eq_append_getElem hil, ckS_s, show ((i + 1 : Nat) : Int) = (i : Int) + 1 by omega, Int.mul_comm _ 31] at nx
      refine s376_68 ?_
      rw [n5, ev]
      exact ⟨⟨⟨by omega, by omega⟩, ⟨by omega, by omega⟩⟩, fun h => by omega, fun _ => ⟨⟨by omega, by omega⟩, ⟨by omega, by omega⟩, nx⟩⟩
  have z : ∀ (u i : Nat) (N : fx_M), (i : Int) + u = g (bRt g) → fmx M N (wls (wrd 56) ++ 32 :: dgs (g (bRt g)) ++ tExs g i) → wp kc (d + 9) 376 15 [some (jR 133), some (jI i), none] [] N Q := by
    intro u
    induction u with
    | zero =>
      intro i N hi hN
      have x1 := mxS_app (ds := [47]) hN
      rw [show i = (g (bRt g)).toNat by omega] at x1
      exact s376_15 (sp_mentries (d := d + 6) (mxS_g hN hg) hM.1 (s376_20 ⟨⟨⟨by omega, by omega⟩, ⟨by omega, by omega⟩⟩, fun _ => sp_sayByte (d := d + 7) (mxS_ok hN hO) (s376_63 (w _ x1 (tEx0 g).length 0 (by omega))), fun h => by omega⟩))
    | succ u ih =>
      intro i N hi hN
      have hEn := hM.2.2.2 (i : Int) (by omega) (by omega)
      refine s376_15 (sp_mentries (d := d + 6) (mxS_g hN hg) hM.1 (s376_20 ⟨⟨⟨by omega, by omega⟩, ⟨by omega, by omega⟩⟩, fun h => by omega, fun _ => sp_sayByte (d := d + 7) (mxS_ok hN hO) (s376_29 ?_)⟩))
      have x1 := mxS_app (ds := [47]) hN
      refine sp_sayEntryName (d := d + 5) (mxS_g x1 hg) hM.1 (mxS_ok x1 hO) hEn.1 (by omega) (s376_34 ?_)
      have x2 := mxS_app (ds := bNm g i ++ [32]) x1
      refine sp_fetch (d := d + 5) (mxS_g x2 hg) hb hM.1 ⟨by omega, by omega⟩ hEn.1 (fun h => absurd hEn.2.1 h) (fun _ => ?_)
      refine sp_fload (d := d) (kc := kc) (u := 1) (Q := fun v M1 => wp kc (d + 9) 376 45 [some (jR 133), some (jI i), none] (v.toList ++ []) M1 Q) (by omega) (mxS_g x2 hg) hb hM.1 ⟨by omega, by omega⟩ hEn (fun P p1 p2 p3 p4 => s376_45 ?_) (fun N hN hw => s376_39 hw)
      have x4 : fmx M P (wls (wrd 56) ++ 32 :: dgs (g (bRt g)) ++ tExs g i ++ [47] ++ (bNm g i ++ [32])) := fun b j a1 a2 a3 a4 => by rw [p4 b j a1 a2 a3 a4, x2 b j a1 a2 a3 a4]
      refine sp_sayText (d := d + 3) (by omega) p2 p1 (mxS_ok x4 hO) (s376_51 ?_)
      have x5 := mxS_app (ds := tText (bZ g i)) x4
      have ee : wls (wrd 56) ++ 32 :: dgs (g (bRt g)) ++ tExs g i ++ [47] ++ (bNm g i ++ [32]) ++ tText (bZ g i) = wls (wrd 56) ++ 32 :: dgs (g (bRt g)) ++ tExs g (i + 1) := by
        rw [tExs]
        unfold tEn
        simp only [List.append_assoc, List.cons_append, List.nil_append]
      rw [ee] at x5
      have nx := ih (i + 1) _ (by omega) x5
      rw [show ((i + 1 : Nat) : Int) = (i : Int) + 1 by omega] at nx
      exact nx
  refine s376 (sp_word (d := d + 7) (by omega) (by omega) (s376_6 (sp_mentries (d := d + 6) hg hM.1 (s376_10 (sp_sayCount (d := d + 4) (by unfold w_ok; decide +kernel) hO (by omega) (by omega) (s376_13 (z (g (bRt g)).toNat 0 _ (by omega) ?_)))))))
  have x2 := mxS_app (ds := wls (wrd 56) ++ 32 :: dgs (g (bRt g))) x0
  rw [tExs, List.append_nil]
  exact x2
end EXM
