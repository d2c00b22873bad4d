/-! Opening an entry, on both sides; the class's list of names. -/
theorem puz20 : fx_puz 20 := by
  unfold fx_puz
  decide
theorem o_app_fq {M N : fx_M} {cs : List Int} {b : Nat} {j : Int} (e : N 3 1 = M 3 1) (e2 : ∀ a, N 4 a = M 4 a) (e3 : N b j = M b j) (e4 : b = 3 → j = 1) : o_app N 3 cs b j = o_app M 3 cs b j := by
  have h := o_app_cg (cs := cs) e e2
  by_cases h3 : b = 3
  · rw [h3, e4 h3]
    exact h.1
  · by_cases h4 : b = 4
    · rw [h4]
      exact h.2 j
    · rw [o_app_ne h3 h4, o_app_ne h3 h4, e3]
theorem ucell_ufr {u : Int} {M N : fx_M} (h : ∀ b j, 146 ≤ b → b ≤ 154 → ¬ ucell u b j → N b j = M b j) {Z : PZ} {v : Int} (hz : mz M v Z) (ho : pz_ok Z) (huv : v ≠ u) : mz N v Z := by
  obtain ⟨h1, h2, h3, h4, h5, h6⟩ := hz
  have h12 := ho.2.2.2.2.2.2.1
  unfold mz
  rw [h 146 _ (by omega) (by omega) (by unfold ucell; omega), h 147 _ (by omega) (by omega) (by unfold ucell; omega), h 148 _ (by omega) (by omega) (by unfold ucell; omega), h 149 _ (by omega) (by omega) (by unfold ucell; omega)]
  refine ⟨h1, h2, h3, h4, fun r R hR => ?_, fun c hc => ?_⟩
  · have hrl := (List.getElem?_eq_some_iff.mp hR).1
    have h4l : R.2.2.length ≤ 4 := (ho.2.2.2.2.2.2.2.1 R (List.mem_of_getElem? hR)).2.2.2.2.2.1
    rw [h 150 _ (by omega) (by omega) (by unfold ucell; omega), h 151 _ (by omega) (by omega) (by unfold ucell; omega), h 152 _ (by omega) (by omega) (by unfold ucell; omega)]
    obtain ⟨a, b, c, e⟩ := h5 r R hR
    refine ⟨a, b, c, fun i x hx => ?_⟩
    have hil := (List.getElem?_eq_some_iff.mp hx).1
    rw [h 153 _ (by omega) (by omega) (by unfold ucell; omega)]
    exact e i x hx
  · rw [h 154 _ (by omega) (by omega) (by unfold ucell; omega)]
    exact h6 c hc
section OPN
variable {L : Nat} {xs : Nat → Int32} {kc : List va_E} {d : Nat} {Q : Option fx_V → fx_M → Prop} {g : Int → Int} {nm : List Int} {M V : fx_M} {Y : PZ}
def fopn (M M' : fx_M) : Prop := ∀ b j, b ≠ 129 → b ≠ 132 → ¬ (11 ≤ b ∧ b ≤ 28) → ¬ (54 ≤ b ∧ b ≤ 57) → (b = 3 → j = 1) → M' b j = o_app M 3 t_ok b j
theorem sp_openEntry (hn : snm M nm) (hnm : nm_ok nm) (hg : M 126 = g) (hb : bk_b g) (hM : bMd g) (hY : cz M 20 Y) (hYo : pz_ok Y) (hv : cpv M V) (hO : o_ok M 3) (K0 : bFd g nm (g (bRt g)).toNat 0 < 0 → Q none (o_app M 3 (t_no 1851878757))) (K1 : 0 ≤ bFd g nm (g (bRt g)).toNat 0 → ∀ M', cz M' 11 (bZ g (bFd g nm (g (bRt g)).toNat 0)) → cz M' 20 (bZ g (bFd g nm (g (bRt g)).toNat 0)) → pz_ok (bZ g (bFd g nm (g (bRt g)).toNat 0)) → cpv M' (pv_new V) → fopn M M' → Q none M') : wc (kcs L xs) (d + 8) 195 [jR 0] M Q := by
  have hrb := bRt_b (g := g)
  have h0 := hb (bRt g) (by omega) (by omega)
  have h15 := hM.2.1
  have hf := bFd_b (g := g) (nm := nm) (u := (g (bRt g)).toNat) (i := 0)
  refine s195 (sp_entryOf (d := d + 4) hn hnm hg hb (bMd_H hM) (s195_25 ?_))
  generalize bFd g nm (g (bRt g)).toNat 0 = o at hf K0 K1 ⊢
  refine ⟨⟨by omega, by omega⟩, fun hlt => sp_puts (d := d + 3) out3 lt_1000149 hO (s195_55 ?_), fun hp => ?_⟩
  · have e : ([110, 111, 32, 110, 97, 109, 101] : List Int32).map Int32.toInt = t_no 1851878757 := by decide +kernel
    rw [e]
    exact K0 hlt
  · have hEn := hM.2.2.2 o (by omega) (by omega)
    refine sp_read (d := d) puz20 hY hYo hg hb ⟨by omega, by omega⟩ (fun hne => absurd hEn hne) (fun _ N n1 n2 n3 => s195_42 ⟨⟨by omega, by omega⟩, fun _ => ?_, fun h => by omega⟩)
    refine sp_copy (d := d + 6) puz11 puz20 (by decide) n1 n2 (fun P p1 p2 => s195_67 ?_)
    have fP : ∀ b j, b ≠ 129 → b ≠ 132 → ¬ (11 ≤ b ∧ b ≤ 28) → P b j = M b j := fun b j b1 b2 b3 => by rw [p2 b j (by omega), n3 b j b1 b2 (by omega)]
    refine sp_pbegin (d := d + 6) (cpv_fr hv (fun b j b1 b2 => fP b j (by omega) (by omega) (by omega))) (fun R r1 r2 => s195_74 ?_)
    have fR : ∀ b j, b ≠ 129 → b ≠ 132 → ¬ (11 ≤ b ∧ b ≤ 28) → ¬ (54 ≤ b ∧ b ≤ 57) → R b j = M b j := fun b j b1 b2 b3 b4 => by rw [r2 b j b4, fP b j b1 b2 b3]
    have e3 : R 3 1 = M 3 1 := fR 3 1 (by decide) (by decide) (by omega) (by omega)
    have e4 : ∀ a, R 4 a = M 4 a := fun a => fR 4 a (by decide) (by decide) (by omega) (by omega)
    have hOR : o_ok R 3 := by
      unfold o_ok
      rw [e3]
      exact hO
    have et : ([111, 107] : List Int32).map Int32.toInt = t_ok := by decide +kernel
    refine sp_puts (d := d + 3) out3 lt_1000063 hOR (s195_84 ?_)
    rw [et]
    refine K1 hp _ (cz_fr p1 (fun b j b1 b2 => ?_)) (cz_fr n1 (fun b j b1 b2 => ?_)) n2 (cpv_fr r1 (fun b j b1 b2 => o_app_ne (by omega) (by omega))) (fun b j b1 b2 b3 b4 b5 => o_app_fq e3 e4 (fR b j b1 b2 b3 b4) b5)
    · rw [o_app_ne (by omega) (by omega), r2 b j (by omega)]
    · rw [o_app_ne (by omega) (by omega), r2 b j (by omega), p2 b j (by omega)]
/-- the class's list -/
def fmop (M M' : fx_M) : Prop := ∀ b j, ¬ (b = 133 ∧ (j = 3 ∨ (7 ≤ j ∧ j ≤ 23))) → b ≠ 135 → b ≠ 137 → ¬ ucell 0 b j → ¬ ucell 1 b j → ¬ (174 ≤ b ∧ b ≤ 177) → M' b j = m_app M t_ok b j
theorem sp_fload {e u : Int} (hu : 0 ≤ u ∧ u < 10) (hg : mbk M g) (hb : bk_b g) (hr : bRg g) (he : 0 ≤ e ∧ e < 15) (hE : bEn g e) (K : ∀ M', mz M' u (bZ g e) → pz_ok (bZ g e) → M' 133 23 = 0 → (∀ b j, ¬ (b = 133 ∧ (j = 3 ∨ (7 ≤ j ∧ j ≤ 23))) → b ≠ 135 → b ≠ 137 → ¬ ucell u b j → M' b j = M b j) → Q (some (jI 1)) M') {R : fx_M → Prop} (hR : ∀ N, ftc g e M N → wc kc (d + 8) 238 [jR 133, jI u] N Q → R N) : ∀ N, ftc g e M N → R N := by
  intro N hf
  refine hR N hf ?_
  obtain ⟨hh, hto, x1, x2, x3⟩ := hE
  have h1 := hh.1
  have h3 := hh.2.2.1
  have h8 := hh.2.2.2.2.1
  have h7 := hh.2.2.2.1
  have h2p := hh.2.1
  have hfr : bFr g e = 32 * bCh g e + g (32 * bCh g e) + 3 := rfl
  have f1 := hb (bFr g e - 2) (by omega) (by omega)
  have f2 := hb (bFr g e - 1) (by omega) (by omega)
  have htt : bTo g e = bFr g e + g (bFr g e - 2) + 256 * g (bFr g e - 1) := rfl
  have hle2 : bFr g e ≤ bTo g e := by omega
  have ft := ftc_text (Z := z_new 1 1 1) hf hle2 (u := u) hu.1
  obtain ⟨fr, f3, f7, f135⟩ := hf
  have hm : ms_at (fx_up N 133 23 0) := by
    unfold ms_at
    rw [fx_up_nk (by decide), fx_up_nk (by decide), f3, f7]
    refine ⟨by omega, by omega, by omega, fun j j0 j1 => ?_⟩
    rw [fx_up_na (by decide), f135 j j0 j1]
    have := hb (bFr g e + j) (by omega) (by omega)
    omega
  refine sp_scanTextG (d := d) (Z := z_new 1 1 1) (u := u) (by omega) hu.2 hm (fun hw M' m1 m2 m3 => ?_) (fun hw => ?_)
  · have hz2 := m1.2.2.2.2.2 hu.1 (by rw [ft.2.2.1, x3])
    rw [ft.2.2.2, bTx_Z x1 x3] at hz2
    refine K M' hz2.1 hz2.2 ?_ (fun b j a1 a2 a3 a4 => ?_)
    · rw [m1.2.1, ft.2.2.1, x3]
    · rw [m3 b j (by omega) a3 (fun x => a4 x.2), fr b j (by omega) a2]
  · rw [ft.1, x1] at hw
    omega
theorem sp_sayOpen (hn : mnm M nm) (hnm : nm_ok nm) (hg : mbk M g) (hb : bk_b g) (hM : bMd g) (hv : mpv M V) (hO : m_ok M) (K0 : bFd g nm (g (bRt g)).toNat 0 < 0 → Q none (m_app M (t_no 1851878757))) (K1 : 0 ≤ bFd g nm (g (bRt g)).toNat 0 → ∀ M', mz M' 0 (bZ g (bFd g nm (g (bRt g)).toNat 0)) → mz M' 1 (bZ g (bFd g nm (g (bRt g)).toNat 0)) → pz_ok (bZ g (bFd g nm (g (bRt g)).toNat 0)) → mpv M' (pv_new V) → fmop M M' → Q none M') : wc kc (d + 10) 372 [jR 133] M Q := by
  have hrb := bRt_b (g := g)
  have h0 := hb (bRt g) (by omega) (by omega)
  have h15 := hM.2.1
  have hf := bFd_b (g := g) (nm := nm) (u := (g (bRt g)).toNat) (i := 0)
  refine s372 (sp_find (d := d + 5) hn hnm hg hb hM.1 (bMd_H hM) (s372_4 ?_))
  generalize bFd g nm (g (bRt g)).toNat 0 = o at hf K0 K1 ⊢
  refine ⟨⟨by omega, by omega⟩, fun hp => ?_, fun hlt => sp_sayNo (d := d + 5) (by unfold w_ok; omega) hO (s372_16 (K0 hlt))⟩
  have hEn := hM.2.2.2 o (by omega) (by omega)
  refine sp_fetch (d := d + 6) hg hb hM.1 ⟨by omega, by omega⟩ hEn.1 (fun h => absurd hEn.2.1 h) (fun _ => ?_)
  refine sp_fload (d := d) (kc := kc) (u := 1) (Q := fun v M1 => wp kc (d + 9) 263 5 [some (jR 133)] (v.toList ++ []) M1 (fun v M1 => wp kc (d + 10) 372 27 [none, none] (v.toList ++ []) M1 Q)) (by omega) hg hb hM.1 ⟨by omega, by omega⟩ hEn (fun N n1 n2 n3 n4 => s263_5 ?_) (fun N hN hw => s372_22 (s263 hw))
  rw [n3]
  refine ⟨⟨by omega, by omega⟩, fun h => absurd rfl h, fun _ => sp_mcopy (d := d + 6) (by omega) (by omega) (by omega) n1 n2 (fun P p1 p2 => s263_19 ?_)⟩
  have fP : ∀ b j, ¬ (b = 133 ∧ (j = 3 ∨ (7 ≤ j ∧ j ≤ 23))) → b ≠ 135 → b ≠ 137 → ¬ ucell 0 b j → ¬ ucell 1 b j → P b j = M b j := fun b j a1 a2 a3 a4 a5 => by
    unfold ucell at a4
    rw [p2 b j (by omega) (by omega) (by omega) (by omega), n4 b j a1 a2 a3 a5]
  refine sp_playAnew (d := d + 7) (mpv_fr hv (fP 133 80 (by omega) (by decide) (by decide) (by unfold ucell; omega) (by unfold ucell; omega)) (fun b j b1 b2 => fP b j (by omega) (by omega) (by omega) (by unfold ucell; omega) (by unfold ucell; omega))) (fun R r1 r2 => s263_23 ?_)
  have fR : ∀ b j, ¬ (b = 133 ∧ (j = 3 ∨ (7 ≤ j ∧ j ≤ 23))) → b ≠ 135 → b ≠ 137 → ¬ ucell 0 b j → ¬ ucell 1 b j → ¬ (174 ≤ b ∧ b ≤ 177) → R b j = M b j := fun b j a1 a2 a3 a4 a5 a6 => by rw [r2 b j a6, fP b j a1 a2 a3 a4 a5]
  have q23 : R 133 23 = 0 := by rw [r2 133 23 (by omega), p2 133 23 (by omega) (by omega) (by omega) (by omega), n3]
  have q5 : R 133 5 = M 133 5 := fR 133 5 (by omega) (by decide) (by decide) (by unfold ucell; omega) (by unfold ucell; omega) (by omega)
  rw [q23]
  refine sp_sayRefusal (d := d + 3) ⟨by omega, by omega⟩ (m_okq hO q5) (s263_31 (s372_27 ?_))
  have et : t_rf 0 = t_ok := by decide +kernel
  rw [et]
  refine K1 hp _ (mz_frM p1 (fun b j b1 b2 => ?_)) (mz_frM (mz_off n1 n2 p2 (by decide)) (fun b j b1 b2 => ?_)) n2 (mpv_fr r1 (m_app_ne (by omega) (by decide)) (fun b j b1 b2 => m_app_ne (by omega) (by omega))) (fun b j a1 a2 a3 a4 a5 a6 => m_app_fq q5 (fun a => fR 136 a (by omega) (by decide) (by decide) (by unfold ucell; omega) (by unfold ucell; omega) (by omega)) (fR b j a1 a2 a3 a4 a5 a6))
  · rw [m_app_ne (by omega) (by omega), r2 b j (by omega)]
  · rw [m_app_ne (by omega) (by omega), r2 b j (by omega)]
end OPN
