/-! The reference removes an entry. -/
section BMR
variable {kc : List va_E} {d : Nat} {Q : Option fx_V → fx_M → Prop} {g : Int → Int} {nm : List Int} {M : fx_M}
theorem sp_sayRemove (hn : mnm M nm) (hnm : nm_ok nm) (hg : mbk M g) (hb : bk_b g) (hr : bRg g) (hH : bHs g) (hO : m_ok M) (K0 : bFd g nm (g (bRt g)).toNat 0 < 0 → Q none (m_app M (t_no 1851878757))) (K1 : 0 ≤ bFd g nm (g (bRt g)).toNat 0 → ∀ M', mbk M' (bCut g (rtD g (bFd g nm (g (bRt g)).toNat 0) 0 0)) → (∀ j, 0 ≤ j → j < 1024 → M' 189 j = g j) → M' 133 99 = 0 → M' 133 100 = 0 → M' 133 101 = 3 - bRt g / 32 → M' 133 102 = 33 → (∀ b j, b ≠ 188 → b ≠ 189 → ¬ (b = 133 ∧ 99 ≤ j ∧ j ≤ 102) → M' b j = m_app M t_ok b j) → Q none M') : wc kc (d + 5) 373 [jR 133] M Q := by
  have hrb := bRt_b (g := g)
  have h0 := hb (bRt g) (by omega) (by omega)
  have h15 := hH.1
  have hf := bFd_b (g := g) (nm := nm) (u := (g (bRt g)).toNat) (i := 0)
  refine s373 (sp_find (d := d) hn hnm hg hb hr hH (s373_4 ⟨⟨by omega, by omega⟩, fun hp => ?_, fun hlt => sp_sayNo (d := d) (by unfold w_ok; omega) hO (s373_16 (K0 hlt))⟩))
  have KK := K1 hp
  generalize bFd g nm (g (bRt g)).toNat 0 = o at hf hp KK ⊢
  refine sp_remember (d := d + 3) hg (fun N n1 n2 => s373_21 ?_)
  have ha : aft (g (bRt g)) o 0 ≤ 15 := by
    unfold aft
    rw [if_neg (by omega), if_neg (by decide)]
    omega
  refine sp_writeRoot (d := d + 1) (mbk_fr hg (fun j => n2 188 j (by decide))) hb hr h15 ⟨by omega, by omega⟩ ⟨by omega, by omega⟩ ⟨by omega, by omega⟩ ha (fun P p1 p2 p3 p4 p5 p6 => s373_28 ?_)
  have q5 : P 133 5 = M 133 5 := by rw [p6 133 5 (by decide) (by omega), n2 133 5 (by decide)]
  refine sp_sayOk (d := d) (m_okq hO q5) (s373_32 (KK _ (mbk_fr p1 (fun j => m_app_ne (by omega) (by decide))) (fun j j0 j1 => ?_) ?_ ?_ ?_ ?_ (fun b j b1 b2 b3 => m_app_fq q5 (fun a => ?_) ?_)))
  · rw [m_app_ne (by omega) (by decide), p6 189 j (by decide) (by omega)]
    exact n1 j j0 j1
  · rw [m_app_ne (by omega) (by decide), p2]
  · rw [m_app_ne (by omega) (by decide), p3]
  · rw [m_app_ne (by omega) (by decide), p4]
  · rw [m_app_ne (by omega) (by decide), p5]
    rfl
  · rw [p6 136 a (by decide) (by omega), n2 136 a (by decide)]
  · rw [p6 b j b1 b3, n2 b j b2]
end BMR
