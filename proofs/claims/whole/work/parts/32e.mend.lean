/-! Mending the book, on both sides. -/
def bSum (g : Int → Int) (b : Int) : Nat → Int
  | 0 => 0
  | n + 1 => bSum g b n + g (b + (n : Int))
/-- the book is right -/
def bMd (g : Int → Int) : Prop := bRg g ∧ g (bRt g) ≤ 15 ∧ bSum g (bRt g) 31 % 251 = g (bRt g + 31) ∧ ∀ e : Int, 0 ≤ e → e < g (bRt g) → bEn g e
theorem bMd_H {g : Int → Int} (h : bMd g) : bHs g := ⟨h.2.1, fun e h0 h1 => (h.2.2.2 e h0 h1).1⟩
theorem bSum_b {g : Int → Int} (hb : bk_b g) {b : Int} (h0 : 0 ≤ b ∧ b ≤ 64) : ∀ n : Nat, n ≤ 32 → 0 ≤ bSum g b n ∧ bSum g b n ≤ 255 * (n : Int)
  | 0, _ => ⟨by rw [bSum]; omega, by rw [bSum]; omega⟩
  | n + 1, hn => by
    have h1 := bSum_b hb h0 n (by omega)
    have h2 := hb (b + (n : Int)) (by omega) (by omega)
    rw [bSum]
    omega
/-- what mending says -/
def bYs (b : Int) (g : Int → Int) : Prop := (b = 1 ∧ bMd g) ∨ (b = 0 ∧ ¬ bMd g)
def fmd (p : Nat) (M M' : fx_M) : Prop := ∀ b j, ¬ (b = 125 ∧ (j = 1 ∨ j = 2)) → b ≠ 129 → b ≠ 132 → ¬ (p ≤ b ∧ b ≤ p + 8) → M' b j = M b j
def fmm (M M' : fx_M) : Prop := ∀ b j, ¬ (b = 133 ∧ (j = 3 ∨ (7 ≤ j ∧ j ≤ 23))) → b ≠ 135 → b ≠ 137 → ¬ ucell 1 b j → M' b j = M b j
theorem mbk_fr {M N : fx_M} {g : Int → Int} (h : mbk M g) (f : ∀ j, N 188 j = M 188 j) : mbk N g := fun j j0 j1 => by rw [f j]; exact h j j0 j1
section BMD
variable {L : Nat} {xs : Nat → Int32} {kc : List va_E} {d p : Nat} {Q : Option fx_V → fx_M → Prop} {g : Int → Int} {Z : PZ}
theorem sp_mend {M : fx_M} (Hp : fx_puz p) (hz : cz M p Z) (ho : pz_ok Z) (hg : M 126 = g) (hb : bk_b g) (K : ∀ M' Y b, cz M' p Y → pz_ok Y → fmd p M M' → M' 125 1 = b → M' 125 2 = 0 → bYs b g → Q (some (jI b)) M') : wc (kcs L xs) (d + 8) 199 [jR 125, jR p] M Q := by
  have hp8 : p + 8 < 125 := by
    unfold fx_puz at Hp
    revert Hp
    simp
    omega
  have hr := bRt_b (g := g)
  have h0 := hb 0 (by omega) (by omega)
  have hR := hb (bRt g) (by omega) (by omega)
  have h31 := hb (bRt g + 31) (by omega) (by omega)
  have hs := bSum_b hb (b := bRt g) (by omega) 31 (by omega)
  generalize hN : fx_up (fx_up M 125 1 0) 125 2 0 = N
  have n1 : N 125 1 = 0 := by rw [← hN, fx_up_nk (by decide), fx_up_self]
  have n2 : N 125 2 = 0 := by rw [← hN, fx_up_self]
  have nf : fmd p M N := fun b j a1 _ _ _ => by rw [← hN, fx_up_ne (by omega), fx_up_ne (by omega)]
  have ng : N 126 = g := by
    funext j
    rw [nf 126 j (by omega) (by omega) (by omega) (by omega), hg]
  have nz : cz N p Z := cz_fr hz (fun b j h1 h2 => by rw [← hN, fx_up_na (by omega), fx_up_na (by omega)])
  have no : ¬ bMd g → Q (some (jI 0)) N := fun hn => K N Z 0 nz ho nf n1 n2 (Or.inr ⟨rfl, hn⟩)
  have z : bRg g → g (bRt g) ≤ 15 → bSum g (bRt g) 31 % 251 = g (bRt g + 31) → ∀ (u i : Nat) (P : fx_M) (Y : PZ), (i : Int) + u = g (bRt g) → cz P p Y → pz_ok Y → rdf p N P → (∀ e : Int, 0 ≤ e → e < (i : Int) → bEn g e) → wp (kcs L xs) (d + 8) 199 102 [some (jR 125), some (jR p), none, some (jI i)] [] P Q := by
    intro hrg h15 hsm u
    have eN : bNE g = g (bRt g) := by
      unfold bNE
      rw [if_neg (by omega)]
    induction u with
    | zero =>
      intro i P Y hi pz po pf hS
      have pg : P 126 = g := by
        funext j
        rw [pf 126 j (by omega) (by omega) (by omega), ng]
      refine s199_102 Hp (sp_entries (d := d + 5) pg hb (s199_107 Hp ?_))
      rw [eN]
      refine ⟨⟨⟨by omega, by omega⟩, ⟨by omega, by omega⟩⟩, fun _ => K _ Y 1 (cz_fr pz (fun b j h1 h2 => fx_up_na (by omega))) po (fun b j a1 a2 a3 a4 => ?_) (fx_up_self ..) ?_ (Or.inl ⟨rfl, hrg, h15, hsm, fun e e0 e1 => hS e e0 (by omega)⟩), fun h => by omega⟩
      · rw [fx_up_ne (by omega), pf b j a2 a3 a4, nf b j a1 a2 a3 a4]
      · rw [fx_up_nk (by decide), pf 125 2 (by omega) (by omega) (by omega), n2]
    | succ u ih =>
      intro i P Y hi pz po pf hS
      have pg : P 126 = g := by
        funext j
        rw [pf 126 j (by omega) (by omega) (by omega), ng]
      refine s199_102 Hp (sp_entries (d := d + 5) pg hb (s199_107 Hp ?_))
      rw [eN]
      refine ⟨⟨⟨by omega, by omega⟩, ⟨by omega, by omega⟩⟩, fun h => by omega, fun _ => sp_read (d := d) Hp pz po pg hb ⟨by omega, by omega⟩ (fun hne M' W m1 m2 m3 => s199_116 Hp ⟨⟨by omega, by omega⟩, fun h => absurd rfl h, fun _ => K M' W 0 m1 m2 (fun b j a1 a2 a3 a4 => ?_) ?_ ?_ (Or.inr ⟨rfl, fun x => hne (x.2.2.2 _ (by omega) (by omega))⟩)⟩) (fun hen M' m1 m2 m3 => s199_116 Hp ⟨⟨by omega, by omega⟩, fun _ => ?_, fun h => by omega⟩)⟩
      · rw [m3 b j a2 a3 a4, pf b j a2 a3 a4, nf b j a1 a2 a3 a4]
      · rw [m3 125 1 (by omega) (by omega) (by omega), pf 125 1 (by omega) (by omega) (by omega), n1]
      · rw [m3 125 2 (by omega) (by omega) (by omega), pf 125 2 (by omega) (by omega) (by omega), n2]
      · have nx := ih (i + 1) M' _ (by omega) m1 m2 (fun b j a2 a3 a4 => by rw [m3 b j a2 a3 a4, pf b j a2 a3 a4]) (fun e e0 e1 => by
          by_cases ee : e = (i : Int)
          · rw [ee]
            exact hen
          · exact hS e e0 (by omega))
        rw [show ((i + 1 : Nat) : Int) = (i : Int) + 1 by omega] at nx
        exact nx
  have s : bRg g → g (bRt g) ≤ 15 → ∀ (u i : Nat), i + u = 31 → wp (kcs L xs) (d + 8) 199 50 [some (jR 125), some (jR p), some (jI (bSum g (bRt g) i)), some (jI i)] [] N Q := by
    intro hrg h15 u
    induction u with
    | zero =>
      intro i hi
      have hi : i = 31 := by omega
      subst hi
      refine s199_50 Hp ⟨⟨by omega, by omega⟩, fun _ => ⟨⟨by omega, by omega⟩, sp_root (d := d + 6) ng hb (s199_89 Hp ?_)⟩, fun h => by omega⟩
      rw [ng, show bRt g + 32 - 1 = bRt g + 31 by omega]
      refine ⟨⟨by omega, by omega⟩, ⟨⟨by omega, by omega⟩, ⟨by omega, by omega⟩⟩, fun he => ?_, fun hne => no (fun x => hne x.2.2.1)⟩
      exact z hrg h15 he (g (bRt g)).toNat 0 N Z (by omega) nz ho (fun _ _ _ _ _ => rfl) (fun e e0 e1 => by omega)
    | succ u ih =>
      intro i hi
      have nx := ih (i + 1) (by omega)
      rw [bSum, show ((i + 1 : Nat) : Int) = (i : Int) + 1 by omega] at nx
      refine s199_50 Hp ⟨⟨by omega, by omega⟩, fun h => by omega, fun _ => sp_root (d := d + 6) ng hb (s199_65 Hp ?_)⟩
      rw [ng]
      exact ⟨⟨by omega, by omega⟩, nx⟩
  have t : bRg g → wc (kcs L xs) (d + 7) 180 [jR 125] N (fun v M1 => wp (kcs L xs) (d + 8) 199 38 [some (jR 125), some (jR p), none, none] (v.toList ++ [jR 126]) M1 Q) := fun hrg => by
    refine sp_root (d := d + 6) ng hb (s199_38 Hp ?_)
    rw [ng]
    exact ⟨⟨by omega, by omega⟩, ⟨by omega, by omega⟩, fun h15 => s hrg h15 31 0 (by omega), fun hgt => no (fun x => by have := x.2.1; omega)⟩
  refine s199 Hp ?_
  rw [hN, hg]
  exact ⟨⟨by omega, by omega⟩, fun h => t (Or.inl h), fun h1 => ⟨⟨by omega, by omega⟩, fun h2 => no (fun x => x.1.elim h1 h2), fun h2 => t (Or.inr h2)⟩⟩
theorem sp_sumOf {M : fx_M} (hg : mbk M g) (hb : bk_b g) (hr : bRg g) (K : Q (some (jI (bSum g (bRt g) 31 % 251))) M) : wc kc (d + 1) 362 [jR 133, jI (g 0)] M Q := by
  have hrb := bRt_b (g := g)
  have he := bRg_e hr
  have s : ∀ (u i : Nat), i + u = 31 → wp kc (d + 1) 362 4 [some (jR 133), some (jI (g 0)), some (jI (bSum g (bRt g) i)), some (jI i)] [] M Q := by
    intro u
    induction u with
    | zero =>
      intro i hi
      have hi : i = 31 := by omega
      subst hi
      have hs := bSum_b hb (b := bRt g) (by omega) 31 (by omega)
      exact s362_4 ⟨⟨by omega, by omega⟩, fun _ => ⟨⟨by omega, by omega⟩, K⟩, fun h => by omega⟩
    | succ u ih =>
      intro i hi
      have nx := ih (i + 1) (by omega)
      rw [bSum, show ((i + 1 : Nat) : Int) = (i : Int) + 1 by omega] at nx
      refine s362_4 ?_
      rw [he, hg (bRt g + i) (by omega) (by omega)]
      exact ⟨⟨by omega, by omega⟩, fun h => by omega, fun _ => ⟨⟨by omega, by omega⟩, nx⟩⟩
  exact s362 (s 31 0 (by omega))
theorem sp_isBookRight {M : fx_M} (hg : mbk M g) (hb : bk_b g) (K : ∀ M' b, fmm M M' → bYs b g → Q (some (jI b)) M') : wc kc (d + 10) 361 [jR 133] M Q := by
  have hr := bRt_b (g := g)
  have h0 := hb 0 (by omega) (by omega)
  have hR := hb (bRt g) (by omega) (by omega)
  have h31 := hb (bRt g + 31) (by omega) (by omega)
  have hs := bSum_b hb (b := bRt g) (by omega) 31 (by omega)
  have no : ¬ bMd g → Q (some (jI 0)) M := fun hn => K M 0 (fun _ _ _ _ _ _ => rfl) (Or.inr ⟨rfl, hn⟩)
  have z : bRg g → g (bRt g) ≤ 15 → bSum g (bRt g) 31 % 251 = g (bRt g + 31) → ∀ (u i : Nat) (P : fx_M), (i : Int) + u = g (bRt g) → fmm M P → (∀ e : Int, 0 ≤ e → e < (i : Int) → bEn g e) → wp kc (d + 10) 361 65 [some (jR 133), some (jI i)] [] P Q := by
    intro hrg h15 hsm u
    induction u with
    | zero =>
      intro i P hi pf hS
      have pg : mbk P g := mbk_fr hg (fun j => pf 188 j (by omega) (by omega) (by omega) (by unfold ucell; omega))
      exact s361_65 (sp_mentries (d := d + 7) pg hrg (s361_70 ⟨⟨⟨by omega, by omega⟩, ⟨by omega, by omega⟩⟩, fun _ => K P 1 pf (Or.inl ⟨rfl, hrg, h15, hsm, fun e e0 e1 => hS e e0 (by omega)⟩), fun h => by omega⟩))
    | succ u ih =>
      intro i P hi pf hS
      have pg : mbk P g := mbk_fr hg (fun j => pf 188 j (by omega) (by omega) (by omega) (by unfold ucell; omega))
      refine s361_65 (sp_mentries (d := d + 7) pg hrg (s361_70 ⟨⟨⟨by omega, by omega⟩, ⟨by omega, by omega⟩⟩, fun h => by omega, fun _ => sp_isEntry (d := d) pg hb hrg ⟨by omega, by omega⟩ (fun hne M' m3 => s361_78 ⟨⟨by omega, by omega⟩, fun h => absurd rfl h, fun _ => K M' 0 (fun b j a1 a2 a3 a4 => ?_) (Or.inr ⟨rfl, fun x => hne (x.2.2.2 _ (by omega) (by omega))⟩)⟩) (fun hen M' m3 => s361_78 ⟨⟨by omega, by omega⟩, fun _ => ?_, fun h => by omega⟩)⟩))
      · rw [m3 b j a1 a2 a3 a4, pf b j a1 a2 a3 a4]
      · have nx := ih (i + 1) M' (by omega) (fun b j a1 a2 a3 a4 => by rw [m3 b j a1 a2 a3 a4, pf b j a1 a2 a3 a4]) (fun e e0 e1 => by
          by_cases ee : e = (i : Int)
          · rw [ee]
            exact hen
          · exact hS e e0 (by omega))
        rw [show ((i + 1 : Nat) : Int) = (i : Int) + 1 by omega] at nx
        exact nx
  have t : bRg g → (0 ≤ bRt g + 32 - 1 ∧ bRt g + 32 - 1 < 1024) ∧ wc kc (d + 9) 362 [jR 133, jI (g 0)] M (fun v M1 => wp kc (d + 10) 361 49 [some (jR 133), none] (v.toList ++ [jI (M 188 (bRt g + 32 - 1))]) M1 Q) := fun hrg => by
    refine ⟨⟨by omega, by omega⟩, sp_sumOf (d := d + 8) hg hb hrg (s361_49 ?_)⟩
    rw [show bRt g + 32 - 1 = bRt g + 31 by omega, hg (bRt g + 31) (by omega) (by omega)]
    refine ⟨⟨⟨by omega, by omega⟩, ⟨by omega, by omega⟩⟩, fun hne => no (fun x => hne x.2.2.1.symm), fun he => sp_mentries (d := d + 7) hg hrg (s361_56 ⟨⟨by omega, by omega⟩, fun h15 => ?_, fun hgt => no (fun x => by have := x.2.1; omega)⟩)⟩
    exact z hrg h15 he.symm (g (bRt g)).toNat 0 M (by omega) (fun _ _ _ _ _ _ => rfl) (fun e e0 e1 => by omega)
  refine s361 ?_
  rw [hg 0 (by omega) (by omega)]
  refine ⟨⟨by omega, by omega⟩, fun h => ?_, fun h1 => ⟨⟨by omega, by omega⟩, fun h2 => no (fun x => x.1.elim h1 h2), fun h2 => ?_⟩⟩
  · have tt := t (Or.inl h)
    rw [← bRg_e (Or.inl h)] at tt
    exact tt
  · have tt := t (Or.inr h2)
    rw [← bRg_e (Or.inr h2)] at tt
    exact tt
/-- what mending answers -/
def tMd (b : Int) : List Int := if b = 0 then wls 1953460846 else t_ok
theorem sp_sayMend {M : fx_M} (hg : mbk M g) (hb : bk_b g) (hO : m_ok M) (K : ∀ M' b, (∀ c j, ¬ (c = 133 ∧ (j = 3 ∨ (7 ≤ j ∧ j ≤ 23) ∨ j = 96 ∨ j = 102)) → c ≠ 135 → c ≠ 137 → ¬ ucell 1 c j → M' c j = m_app M (tMd b) c j) → M' 133 96 = b → M' 133 102 = 0 → bYs b g → Q none M') : wc kc (d + 11) 360 [jR 133] M Q := by
  refine s360 (sp_isBookRight (d := d) hg hb (fun N b n3 n4 => s360_5 ?_))
  have hb01 : b = 1 ∨ b = 0 := n4.elim (fun x => Or.inl x.1) (fun x => Or.inr x.1)
  generalize hP : fx_up (fx_up N 133 96 b) 133 102 0 = P
  have p1 : P 133 96 = b := by rw [← hP, fx_up_nk (by decide), fx_up_self]
  have p2 : P 133 102 = 0 := by rw [← hP, fx_up_self]
  have pf : ∀ c j, ¬ (c = 133 ∧ (j = 3 ∨ (7 ≤ j ∧ j ≤ 23) ∨ j = 96 ∨ j = 102)) → c ≠ 135 → c ≠ 137 → ¬ ucell 1 c j → P c j = M c j := fun c j a1 a2 a3 a4 => by
    rw [← hP, fx_up_ne (by omega), fx_up_ne (by omega), n3 c j (by omega) a2 a3 a4]
  have p5 : P 133 5 = M 133 5 := pf 133 5 (by omega) (by omega) (by omega) (by unfold ucell; omega)
  have fin : Q none (m_app P (tMd b)) := by
    refine K _ b (fun c j a1 a2 a3 a4 => m_app_fq p5 (fun a => pf 136 a (by omega) (by omega) (by omega) (by unfold ucell; omega)) (pf c j a1 a2 a3 a4)) ?_ ?_ n4
    · rw [m_app_ne (by omega) (by decide), p1]
    · rw [m_app_ne (by omega) (by decide), p2]
  rcases hb01 with e | e
  · rw [e] at fin ⊢
    refine ⟨⟨by omega, by omega⟩, ⟨by omega, by omega⟩, fun h => by omega, fun _ => sp_sayOk (d := d + 6) (m_okq hO p5) (s360_24 ?_)⟩
    exact fin
  · rw [e] at fin ⊢
    refine ⟨⟨by omega, by omega⟩, ⟨by omega, by omega⟩, fun _ => sp_sayWord (d := d + 7) (by unfold w_ok; omega) (m_okq hO p5) (s360_34 ?_), fun h => absurd rfl h⟩
    exact fin
end BMD
