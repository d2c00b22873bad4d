/-! THE CLAIM OUT OF THE LITE MACHINE: what is left is a statement of a function. (R_law, lw_Z, lw_ret, lw_At are the skeleton's.) -/
/-- on every script of at most N ints the law's lite run ends, answers 1, and keeps within the room -/
def lx_law (N : Nat) : Prop := ∀ (L : Nat) (xs : Nat → Int32), L ≤ N → ∃ (n : Nat) (h : lx_H), lx_go (.inl (0, L, .inl xs) :: xKt) n 1000 429 0 [(0, .ref lx_K)] [] [] = some (some (.int 1), h) ∧ h.length ≤ 600000 ∧ lx_hs h ≤ 7302250
theorem lx_kc_ok (L : Nat) (xs : Nat → Int32) : ∀ (j : Nat) (o : Nat × List Value), ((.inl (0, L, .inl xs) : va_E) :: xKt)[j]? = some (.inr o) → o.1 = 1000 := by
  intro j o h
  match j, h with
  | 0, h => cases h
  | k + 1, h =>
    have h : xKt[k]? = some (.inr o) := h
    rw [xKt_eq] at h
    unfold xKf at h
    by_cases hl : k < ((xSb.zipIdx).flatMap xKg).length
    · rw [List.getElem?_append_left hl] at h
      obtain ⟨j, bs, h1, h2⟩ := xKg_at xSb 0 k _ h
      rcases h2 with ⟨-, e⟩ | ⟨-, e⟩
      · cases e
        rfl
      · cases e
    · rw [List.getElem?_append_right (by omega)] at h
      have hz := (List.getElem?_eq_some_iff.mp h).1
      generalize k - ((xSb.zipIdx).flatMap xKg).length = z at h hz
      match z, h, hz with
      | 0, h, _ => cases h
      | 1, h, _ => cases h
      | 2, h, _ => cases h
theorem lx_start {N : Nat} (hN : N < 2 ^ 31) (hlaw : lx_law N) {p : Program} {e : Env} {s : State} {m : MethodId} {below : List Frame} {meth : Method} {c : Code} (l : Launch) {b L : Nat} {xs : Nat → Int32} (hL : L ≤ N) (C0 : lw_At p s m meth c b L xs) : W p l e room_1 s m #[Value.ref b] below meth c s.heap [] 0 0 (lw_Z below #[Value.ref b] s) (entryFrame m ([Value.ref b] : List Value).toArray 4) := by
  obtain ⟨g, hg1, hgb, hE⟩ := lx_entry (Nat.lt_of_le_of_lt hL hN) C0
  obtain ⟨n, h, hgo, hc, hs⟩ := hlaw L xs hL
  obtain ⟨hx, hb, hr, hml, hown, hts, hX, hbl, hlocks, hgv⟩ := C0
  have X : lx_X g (.inl (0, L, .inl xs) :: xKt) 429 p s m #[Value.ref b] meth c := ⟨hx, hb, hml, hr, hlocks, (fun h => by exact absurd h (by decide +kernel)), hown, fun w hw => hts w (xsub w hw), hE⟩
  have hRp : lx_Rp g [] s.heap := ⟨by rw [hg1]; rfl, fun k q h => by simp [lx_ws] at h, fun k a h => by simp at h, Nat.zero_le _⟩
  have hl := lv_entry ([Value.ref b]) (n := 4) (Nat.le_of_ble_eq_true rfl)
  rw [lg_entry_eq]
  have key := lx_sound (lx_kc_ok L xs) n hgo g p l e room_1 s m #[Value.ref b] below meth c (0, 0) (lw_Z below #[Value.ref b] s) X (Nat.le_of_ble_eq_true rfl) (Nat.le_of_ble_eq_true rfl) hc hs (Nat.zero_le _) (Nat.zero_le _) (fun pc i L' st hI hr' => by
    intro H locs ls hR hS hls
    obtain ⟨len, hd, hn⟩ := xI_ok hI
    unfold lx_ret at hr'
    split at hr'
    · split at hr' <;> cases hr'
    · cases hn 1 rfl
      split at hr'
      · next x ty h1 =>
        split at hr'
        · cases hr'
          refine va_forget (fun q hq => by rw [← hg1]; exact hS.2.2 q hq) ?_
          exact W.widen hc hs (lw_ret hx hb hr hlocks hd)
        · cases hr'
      · cases hr'
    · split at hr' <;> cases hr'
    · split at hr' <;> cases hr'
    · cases hr') s.heap [] _ hRp va_S.rf (by
      show lv_has _ 4 [(0, Value.ref (lx_ad g lx_K))]
      rw [hgb]
      exact hl)
  exact key
