/-! REQUESTS, the reference: its state, ends, arguments. -/
/-- what no request of the reference changes -/
def mEnd (M N : fx_M) : Prop := ∀ b j, (b < 133 ∨ b = 134 ∨ (b = 133 ∧ (j = 0 ∨ j = 1))) → N b j = M b j
theorem mEnd_tr {M N O : fx_M} (h : mEnd M N) (g : mEnd N O) : mEnd M O := fun b j hb => (g b j hb).trans (h b j hb)
/-- where the state stands -/
def mCl (b : Nat) (j : Int) : Prop := (b = 133 ∧ (j = 80 ∨ j = 89 ∨ j = 96 ∨ (99 ≤ j ∧ j ≤ 102))) ∨ ucell 0 b j ∨ (∃ u : Int, 4 ≤ u ∧ u ≤ 9 ∧ ucell u b j) ∨ (174 ≤ b ∧ b ≤ 189)
theorem uc_b {u : Int} {b : Nat} {j : Int} (h : ucell u b j) : 146 ≤ b ∧ b ≤ 154 := by
  unfold ucell at h
  omega
theorem uc_n {u v : Int} {b : Nat} {j : Int} (h : ucell u b j) (n : u ≠ v) : ¬ ucell v b j := by
  unfold ucell at *
  omega
theorem mCl_b {b : Nat} {j : Int} (h : mCl b j) : (b = 133 ∧ (j = 80 ∨ j = 89 ∨ j = 96 ∨ (99 ≤ j ∧ j ≤ 102))) ∨ (146 ≤ b ∧ b ≤ 154) ∨ (174 ≤ b ∧ b ≤ 189) := by
  rcases h with h | h | ⟨u, _, _, h⟩ | h
  · exact Or.inl h
  · exact Or.inr (Or.inl (uc_b h))
  · exact Or.inr (Or.inl (uc_b h))
  · exact Or.inr (Or.inr h)
theorem mCl_u {b : Nat} {j u : Int} (h : mCl b j) (hu : 1 ≤ u ∧ u ≤ 3) : ¬ ucell u b j := by
  rcases h with h | h | ⟨v, v1, v2, h⟩ | h
  · intro x
    have := uc_b x
    omega
  · exact uc_n h (by omega)
  · exact uc_n h (by omega)
  · intro x
    have := uc_b x
    omega
theorem mCl_s {b : Nat} {j : Int} (h : mCl b j) : ¬ msc b j := by
  have := mCl_b h
  unfold msc
  omega
section MRA
variable {kc : List va_E} {d : Nat} {M N : fx_M} {Q : Option fx_V → fx_M → Prop} {S : HS} {k : Nat} {C : List CI}
theorem mct_uc (h : mct M C) (ho : ct_ok k C) (f89 : N 133 89 = M 133 89) (f : ∀ b j, (∃ u : Int, 4 ≤ u ∧ u ≤ 9 ∧ ucell u b j) ∨ (182 ≤ b ∧ b ≤ 187) → N b j = M b j) : mct N C := by
  refine ⟨by rw [f89]; exact h.1, fun i t hi => ?_⟩
  obtain ⟨a1, a2, a3, a4, a5⟩ := h.2 i t hi
  have hl : i < C.length := by
    have := List.getElem?_eq_some_iff.mp hi
    exact this.1
  have h6 := ho.2.1
  have hz := (ho.2.2 t (List.mem_of_getElem? hi)).2.1
  refine ⟨by rw [f 183 _ (Or.inr (by omega))]; exact a1, fun j c hc => by rw [f 182 _ (Or.inr (by omega))]; exact a2 j c hc, mz_uc a3 hz (fun b j hb => f b j (Or.inl ⟨4 + (i : Int), by omega, by omega, hb⟩)), by rw [f 184 _ (Or.inr (by omega))]; exact a4, fun p hp => ?_⟩
  rw [f 185 _ (Or.inr (by omega)), f 186 _ (Or.inr (by omega)), f 187 _ (Or.inr (by omega))]
  exact a5 p hp
theorem mlg_fr {W : List (Int × Int)} (h : mlg M W) (f : ∀ b j, (b = 133 ∧ 99 ≤ j ∧ j ≤ 102) ∨ b = 189 → N b j = M b j) : mlg N W := by
  have e1 := f 133 99 (by omega)
  have e2 := f 133 100 (by omega)
  have e3 := f 133 101 (by omega)
  have e4 := f 133 102 (by omega)
  unfold mlg
  rw [e1, e2, e3, e4]
  refine ⟨h.1, h.2.1, h.2.2.1, h.2.2.2.1, fun i x hx => ?_⟩
  rw [f 189 _ (Or.inr rfl)]
  exact h.2.2.2.2 i x hx
theorem mRl_fr (h : mRl M S) (hk : hOk k S) (f : ∀ b j, mCl b j → N b j = M b j) : mRl N S := by
  obtain ⟨h1, h2, h3, h4, h5, h6⟩ := h
  refine ⟨mz_uc h1 hk.1 (fun b j hb => f b j (Or.inr (Or.inl hb))), mpv_fr h2 (f 133 80 (Or.inl ⟨rfl, by omega⟩)) (fun b j b1 b2 => f b j (Or.inr (Or.inr (Or.inr (by omega))))), mct_uc h3 hk.2.2.2.2.1 (f 133 89 (Or.inl ⟨rfl, by omega⟩)) (fun b j hb => ?_), by rw [f 133 96 (Or.inl ⟨rfl, by omega⟩)]; exact h4, mbk_fr h5 (fun j => f 188 j (Or.inr (Or.inr (Or.inr (by omega))))), mlg_fr h6 (fun b j hb => ?_)⟩
  · rcases hb with hb | hb
    · exact f b j (Or.inr (Or.inr (Or.inl hb)))
    · exact f b j (Or.inr (Or.inr (Or.inr (by omega))))
  · rcases hb with hb | hb
    · exact f b j (Or.inl ⟨hb.1, by omega⟩)
    · exact f b j (Or.inr (Or.inr (Or.inr (by omega))))
/-- ends: written alone; written with scratch; a text -/
theorem mf_app {cs : List Int} (hS : mRl M S) (hk : hOk k S) (h5 : M 133 5 = 0) (hl : cs.length ≤ 6000) : mRl (m_app M cs) S ∧ mtq (m_app M cs) cs ∧ mEnd M (m_app M cs) := ⟨mRl_fr hS hk (fun b j hb => m_app_ne (by have := mCl_b hb; omega) (by have := mCl_b hb; omega)), mtq_app0 h5 hl, fun b j hb => m_app_ne (by omega) (by omega)⟩
theorem mf_wr {cs : List Int} (hS : mRl M S) (hk : hOk k S) (h5 : M 133 5 = 0) (hl : cs.length ≤ 6000) (h : mwr M N cs) : mRl N S ∧ mtq N cs ∧ mEnd M N := ⟨mRl_fr hS hk (fun b j hb => by rw [h b j (mCl_s hb), m_app_ne (by have := mCl_b hb; omega) (by have := mCl_b hb; omega)]), mtq_wr h5 hl h, fun b j hb => by rw [h b j (by unfold msc; omega), m_app_ne (by omega) (by omega)]⟩
theorem mf_frq {cs : List Int} (hS : mRl M S) (hk : hOk k S) (h : mfrq M N) (ht : mtq N cs) : mRl N S ∧ mtq N cs ∧ mEnd M N := ⟨mRl_fr hS hk (fun b j hb => h b j (mCl_s hb) (by have := mCl_b hb; omega) (by have := mCl_b hb; omega)), ht, fun b j hb => h b j (by unfold msc; omega) (by omega) (by omega)⟩
theorem m_ok0 (h5 : M 133 5 = 0) : m_ok M := by
  unfold m_ok
  omega
theorem t_bad_w {p : Int} : wls 6447460 ++ 32 :: dgs p = t_bad p := by
  have e : wls 6447460 = [98, 97, 100] := by decide +kernel
  rw [e]
  rfl
/-- behind the arguments, to the answer -/
theorem mw_bad {n p : Int} (hS : mRl N S) (hk : hOk k S) (hM : mEnd M N) (h5 : N 133 5 = 0) (h7 : N 133 7 = p) (hp : 0 ≤ p ∧ p ≤ 6100) (K : ∀ M', mRl M' S → mtq M' (t_bad p) → mEnd M M' → Q (some (jI (M' 133 5))) M') : wc kc (d + 19) 252 [jR 133, jL 6447460, jI (N 133 7)] N (fun v M1 => wp kc (d + 20) 219 52 [some (jR 133), none] (v.toList ++ []) M1 Q) := by
  refine sp_sayCount (d := d + 15) (by unfold w_ok; omega) (m_ok0 h5) (by omega) (by omega) (s219_52 ?_)
  rw [h7, t_bad_w]
  obtain ⟨r1, r2, r3⟩ := mf_app (cs := t_bad p) hS hk h5 (by have := t_bad_len (p := p); omega)
  exact K _ r1 r2 (mEnd_tr hM r3)
theorem mw_fin {n v u0 : Int} {r : Int × Int × List Int × HS} (hn : 0 ≤ n ∧ n ≤ 6100) (hS : mRl N S) (hk : hOk k S) (hM : mEnd M N) (h5 : N 133 5 = 0) (h3 : N 133 3 = n) (h7 : N 133 7 = r.1) (h7b : 0 ≤ r.1 ∧ r.1 ≤ 6100) (hu : u0 = 1 - r.2.1) (hw : r.2.1 = 0 ∨ r.2.1 = 1) (K : ∀ M', mRl M' (fnR n S r).2 → mtq M' (fnR n S r).1 → mEnd M M' → Q (some (jI (M' 133 5))) M')
    (K1 : r.2.1 = 0 → n ≤ r.1 → ∀ R : Option fx_V → fx_M → Prop, (∀ M1, mRl M1 r.2.2.2 → mtq M1 r.2.2.1 → mEnd N M1 → R none M1) → wc kc (d + 19) 257 [jR 133, jI v] N R) : wp kc (d + 20) 219 27 [some (jR 133), some (jI v)] [jI u0] N Q := by
  unfold fnR at K
  refine s219_27 ⟨⟨by omega, by omega⟩, fun h0 => ?_, fun h1 => ⟨⟨⟨by omega, by omega⟩, ⟨by omega, by omega⟩⟩, fun hle => ?_, fun hlt => ?_⟩⟩
  · rw [if_pos (Or.inl (by omega))] at K
    exact mw_bad (n := n) hS hk hM h5 h7 h7b K
  · rw [if_neg (by omega)] at K
    exact K1 (by omega) (by omega) _ (fun M1 m1 m2 m3 => s219_60 (K M1 m1 m2 (mEnd_tr hM m3)))
  · rw [if_pos (Or.inr (by omega))] at K
    exact mw_bad (n := n) hS hk hM h5 h7 h7b K
/-- the reference's scan behind the word -/
def mIn (M : fx_M) (n p : Int) : Prop := ms_at M ∧ M 133 3 = n ∧ M 133 7 = p ∧ M 133 5 = 0
theorem min_b {n p : Int} (h : mIn M n p) : ms_at M ∧ M 133 3 = n ∧ M 133 7 = p ∧ M 133 5 = 0 ∧ 0 ≤ p ∧ p ≤ n ∧ n ≤ 6100 := by
  obtain ⟨h1, h2, h3, h4⟩ := h
  have a := ms_p h1
  exact ⟨h1, h2, h3, h4, by omega, by omega, by omega⟩
/-- what reading arguments changes -/
def mA (M N : fx_M) : Prop := ∀ b j, ¬ (b = 133 ∧ ((7 ≤ j ∧ j ≤ 24) ∨ (30 ≤ j ∧ j ≤ 33))) → ¬ (137 ≤ b ∧ b ≤ 145) → N b j = M b j
theorem mA_fr (h : mfr M N) : mA M N := fun b j h1 h2 => h b j (by omega) (by omega)
theorem mA_end (h : mA M N) : mEnd M N := fun b j hb => h b j (by omega) (by omega)
theorem mA_R (h : mA M N) (hS : mRl M S) (hk : hOk k S) : mRl N S := mRl_fr hS hk (fun b j hb => h b j (by have := mCl_b hb; omega) (by have := mCl_b hb; omega))
/-- a request with arguments: what reading them must give -/
theorem mw_arg {n p v : Int} {r : Int × Int × List Int × HS} (hv : 0 ≤ v ∧ v < 45) (h : mIn M n p) (hS : mRl M S) (hk : hOk k S) (hr : 0 ≤ r.1 ∧ r.1 ≤ 6100) (K : ∀ M', mRl M' (fnR n S r).2 → mtq M' (fnR n S r).1 → mEnd M M' → Q (some (jI (M' 133 5))) M')
    (KA : ∀ R : Option fx_V → fx_M → Prop, (∀ N, mA M N → N 133 7 = r.1 → r.2.1 = 1 → R (some (jI 0)) N) → (∀ N, mA M N → N 133 7 = r.1 → r.2.1 = 0 → (mRl N S → N 133 5 = 0 → N 133 3 = n → n ≤ r.1 → ∀ R' : Option fx_V → fx_M → Prop, (∀ M1, mRl M1 r.2.2.2 → mtq M1 r.2.2.1 → mEnd N M1 → R' none M1) → wc kc (d + 19) 257 [jR 133, jI v] N R') → R (some (jI 1)) N) → wc kc (d + 19) 225 [jR 133, jI v] M R) : wp kc (d + 20) 219 17 [some (jR 133), none] [jI v] M Q := by
  obtain ⟨h1, h2, h3, h4, h5, h6, h7⟩ := min_b h
  have e5 : ∀ N, mA M N → N 133 5 = 0 := fun N a => by rw [a 133 5 (by omega) (by omega)]; exact h4
  have e3 : ∀ N, mA M N → N 133 3 = n := fun N a => by rw [a 133 3 (by omega) (by omega)]; exact h2
  refine s219_17 ⟨⟨by omega, by omega⟩, fun h => by omega, fun _ => KA _ (fun N a1 a2 a3 => ?_) (fun N a1 a2 a3 a7 => ?_)⟩
  · exact mw_fin (r := r) ⟨by omega, h7⟩ (mA_R a1 hS hk) hk (mA_end a1) (e5 N a1) (e3 N a1) a2 hr (by omega) (Or.inr a3) K (fun x => by omega)
  · exact mw_fin (r := r) ⟨by omega, h7⟩ (mA_R a1 hS hk) hk (mA_end a1) (e5 N a1) (e3 N a1) a2 hr (by omega) (Or.inl a3) K (fun _ y R hR => a7 (mA_R a1 hS hk) (e5 N a1) (e3 N a1) y R hR)
def mNp (v : Int) : Prop := 0 ≤ v ∧ v < 45 ∧ v ≠ 0 ∧ v ≠ 1 ∧ v ≠ 2 ∧ v ≠ 3 ∧ v ≠ 6 ∧ v ≠ 7 ∧ v ≠ 9 ∧ v ≠ 11 ∧ v ≠ 19 ∧ v ≠ 21 ∧ v ≠ 23 ∧ v ≠ 25 ∧ v ≠ 26 ∧ v ≠ 28 ∧ v ≠ 30 ∧ v ≠ 31 ∧ v ≠ 34 ∧ v ≠ 35 ∧ v ≠ 37 ∧ v ≠ 38 ∧ v ≠ 39 ∧ v ≠ 41 ∧ v ≠ 44
theorem ma_none {v : Int} (hv : mNp v) (K : Q (some (jI 1)) M) : wc kc (d + 19) 225 [jR 133, jI v] M Q := by
  unfold mNp at hv
  exact s225 ⟨⟨by omega, by omega⟩, fun h => by omega, fun h => by omega, fun h => by omega, fun h => by omega, fun _ => K, fun _ => K, fun h => by omega, fun h => by omega, fun _ => K, fun h => by omega, fun _ => K, fun h => by omega, fun _ => K, fun _ => K, fun _ => K, fun _ => K, fun _ => K, fun _ => K, fun _ => K, fun h => by omega, fun _ => K, fun h => by omega, fun _ => K, fun h => by omega, fun _ => K, fun h => by omega, fun h => by omega, fun _ => K, fun h => by omega, fun _ => K, fun h => by omega, fun h => by omega, fun _ => K, fun _ => K, fun h => by omega, fun h => by omega, fun _ => K, fun h => by omega, fun h => by omega, fun h => by omega, fun _ => K, fun h => by omega, fun _ => K, fun _ => K, fun h => by omega, fun h => by omega⟩
theorem mw_np {n p v : Int} {r : List Int × HS} (hv : mNp v) (h : mIn M n p) (hS : mRl M S) (hk : hOk k S) (K : ∀ M', mRl M' (fnR n S (p, 0, r)).2 → mtq M' (fnR n S (p, 0, r)).1 → mEnd M M' → Q (some (jI (M' 133 5))) M') (K1 : ∀ R : Option fx_V → fx_M → Prop, (∀ M1, mRl M1 r.2 → mtq M1 r.1 → mEnd M M1 → R none M1) → wc kc (d + 19) 257 [jR 133, jI v] M R) : wp kc (d + 20) 219 17 [some (jR 133), none] [jI v] M Q := by
  obtain ⟨h1, h2, h3, h4, h5, h6, h7⟩ := min_b h
  have hv2 := hv
  unfold mNp at hv2
  refine s219_17 ⟨⟨by omega, by omega⟩, fun h => by omega, fun _ => ma_none hv ?_⟩
  exact mw_fin (r := (p, 0, r)) ⟨by omega, h7⟩ hS hk (fun _ _ _ => rfl) h4 h2 h3 (show 0 ≤ p ∧ p ≤ 6100 by omega) rfl (Or.inl rfl) K (fun _ _ R hR => K1 R hR)
end MRA
