/-! SCAN: the class's reading, over a memory. g: what stands in the source; e: its end; p: the place. -/
/-- the scan s reads the array a of n cells; place and end are within -/
def sc_at (M : fx_M) (s a n : Nat) : Prop := M s 0 = a ∧ fx_a a = some (1, n) ∧ n ≤ 100000 ∧ 0 ≤ M s 1 ∧ M s 1 ≤ M s 2 ∧ M s 2 ≤ n ∧ 0 ≤ M s 3 ∧ M s 3 ≤ 1 ∧ ∀ j : Int, 0 ≤ j → j < n → 0 ≤ M a j ∧ M a j ≤ 65535
/-- the end of a word: best, its length, what was reached -/
def ch_b (b l i n k : Int) : Int := if k = n then (if l < k then i else b) else b
def ch_l (l n k : Int) : Int := if k = n then (if l < k then k else l) else l
def ch_r (r k : Int) : Int := if r < k then k else r
def ch_k (g : Int → Int) (e p c n k : Int) : Int := if k = n then (if p + k < e then (if g (p + k) = c then k + 1 else k) else k) else k
def chl (g : Int → Int) (e p : Int) : List Int → Int → Int → Int → Int → Int → Int → Int × Int × Int
  | [], b, l, r, i, n, k => (ch_b b l i n k, ch_l l n k, ch_r r k)
  | c :: cs, b, l, r, i, n, k => if c = 32 then chl g e p cs (ch_b b l i n k) (ch_l l n k) (ch_r r k) (i + 1) 0 0
    else chl g e p cs b l r i (n + 1) (ch_k g e p c n k)
def chs (g : Int → Int) (e p : Int) (bs : List Int32) : Int × Int × Int := chl g e p (bs.map Int32.toInt) (-1) 0 0 0 0 0
/-- what the loop of choose keeps -/
def ch_ok (e p j b l r i n k : Int) : Prop := -1 ≤ b ∧ b ≤ j ∧ 0 ≤ l ∧ l ≤ j ∧ 0 ≤ r ∧ r ≤ j ∧ 0 ≤ i ∧ i ≤ j ∧ 0 ≤ n ∧ n ≤ j ∧ 0 ≤ k ∧ k ≤ n ∧ p + k ≤ e ∧ p + l ≤ e ∧ p + r ≤ e
theorem ch_ok_end {e p j b l r i n k : Int} (h : ch_ok e p j b l r i n k) : ch_ok e p (j + 1) (ch_b b l i n k) (ch_l l n k) (ch_r r k) (i + 1) 0 0 := by
  obtain ⟨h1, h2, h3, h4, h5, h6, h7, h8, h9, h10, h11, h12, h13, h14, h15⟩ := h
  unfold ch_ok ch_b ch_l ch_r
  refine ⟨?_, ?_, ?_, ?_, ?_, ?_, ?_, ?_, ?_, ?_, ?_, ?_, ?_, ?_, ?_⟩ <;> (repeat' split) <;> omega
theorem ch_k_le {g : Int → Int} {e p c n k : Int} : ch_k g e p c n k = k ∨ (ch_k g e p c n k = k + 1 ∧ k = n ∧ p + k < e) := by
  unfold ch_k
  (repeat' split) <;> omega
theorem ch_ok_chr {g : Int → Int} {e p c j b l r i n k : Int} (h : ch_ok e p j b l r i n k) : ch_ok e p (j + 1) b l r i (n + 1) (ch_k g e p c n k) := by
  obtain ⟨h1, h2, h3, h4, h5, h6, h7, h8, h9, h10, h11, h12, h13, h14, h15⟩ := h
  rcases ch_k_le (g := g) (e := e) (p := p) (c := c) (n := n) (k := k) with h | ⟨h, h', h''⟩ <;> rw [h] <;> unfold ch_ok <;> refine ⟨?_, ?_, ?_, ?_, ?_, ?_, ?_, ?_, ?_, ?_, ?_, ?_, ?_, ?_, ?_⟩ <;> omega
theorem drop_cons {α : Type} {l : List α} {j : Nat} {x : α} {r : List α} (h : l.drop j = x :: r) : l[j]? = some x ∧ l.drop (j + 1) = r ∧ j < l.length := by
  have h1 : l[j]? = some x := by
    rw [← List.head?_drop, h]
    rfl
  refine ⟨h1, ?_, ?_⟩
  · rw [← List.tail_drop, h]
    rfl
  · exact (List.getElem?_eq_some_iff.mp h1).1
section SCN
variable {kc : List va_E} {d s w a n : Nat} {M : fx_M} {Q : Option fx_V → fx_M → Prop} {bs : List Int32}
/-- the memory behind choose: best, length, reached -/
def ch_m (M : fx_M) (s : Nat) (q : Int × Int × Int) : fx_M := fx_up (fx_up M s 3 (if q.1 < 0 then 1 else 0)) s 1 (M s 1 + (if q.1 < 0 then q.2.2 else q.2.1))
theorem ch_exit {b l r i m k v8 u0 u1 : Int} (Hs : fx_scn s) (hu : u0 < u1) (h0 : fx_in32 u0) (h1 : fx_in32 u1) (hb : fx_in32 b) (hw : M s 3 = 0) (K : Q (some (jI b)) (ch_m M s (b, l, r))) : wp kc (d + 4) 20 25 [some (jR s), some (jR w), some (jI b), some (jI l), some (jI r), some (jI i), some (jI m), some (jI k), some (jI v8), none] [jI u0, jI u1] M Q := by
  refine s20_25 Hs ⟨⟨h1, h0⟩, fun _ => ?_, fun h => by omega⟩
  rw [hw]
  refine ⟨⟨by omega, by omega⟩, fun _ => hb, ⟨by (repeat' split) <;> omega, by (repeat' split) <;> omega⟩, hb, ?_⟩
  exact K
theorem ch_loop (Hs : fx_scn s) (hw : fx_str kc w bs) (hS : sc_at M s a n) (h3 : M s 3 = 0) : ∀ (cs : List Int32) (j : Nat) (b l r i m k : Int), bs.drop j = cs → ch_ok (M s 2) (M s 1) j b l r i m k → (Q (some (jI (chl (M a) (M s 2) (M s 1) (cs.map Int32.toInt) b l r i m k).1)) (ch_m M s (chl (M a) (M s 2) (M s 1) (cs.map Int32.toInt) b l r i m k))) → j ≤ bs.length → wp kc (d + 4) 20 19 [some (jR s), some (jR w), some (jI b), some (jI l), some (jI r), some (jI i), some (jI m), some (jI k), some (jI j), none] [] M Q
  | [], j, b, l, r, i, m, k, hd, ho, K, hj => by
    have hlen : bs.length < 1000 := by
      obtain ⟨-, c, -, -, -, h, -⟩ := hw
      exact h
    have hjl : j = bs.length := by
      have := congrArg List.length hd
      simp at this
      omega
    have ho' := ch_ok_end ho
    have ho2 := ho
    obtain ⟨h1, h2, h3', h4, h5, h6, h7, h8, h9, h10, h11, h12, h13, h14, h15⟩ := ho
    obtain ⟨g1, g2, g3, g4, g5, g6, g7, g8, g9, g10, g11, g12, g13, g14, g15⟩ := ho'
    refine s20_19 Hs ⟨⟨bs, hw⟩, sp_length hw ?_⟩
    refine s20_25 Hs ⟨⟨⟨by omega, by omega⟩, ⟨by omega, by omega⟩⟩, fun h => by omega, fun _ => ⟨by rw [h3]; exact ⟨by omega, by omega⟩, fun h => absurd h3 h, fun _ => ⟨⟨bs, hw⟩, sp_length hw ?_⟩⟩⟩
    refine s20_41 Hs ⟨⟨⟨by omega, by omega⟩, ⟨by omega, by omega⟩⟩, fun _ => ⟨⟨by omega, by omega⟩, ⟨by omega, by omega⟩, fun _ => ⟨by omega, by omega⟩, fun _ => ⟨by omega, by omega⟩, ⟨⟨by omega, by omega⟩, ⟨by omega, by omega⟩⟩, ?_⟩, fun h => absurd (by omega) h⟩
    refine s20_19 Hs ⟨⟨bs, hw⟩, sp_length hw ?_⟩
    refine ch_exit Hs (by omega) ⟨by omega, by omega⟩ ⟨by omega, by omega⟩ ?_ h3 K
    exact ⟨by unfold ch_b at g1; omega, by unfold ch_b at g2; omega⟩
  | c :: cs, j, b, l, r, i, m, k, hd, ho, K, hj => by
    have hlen : bs.length < 1000 := by
      obtain ⟨-, c, -, -, -, h, -⟩ := hw
      exact h
    obtain ⟨hc, hd', hjl⟩ := drop_cons hd
    have hcb : (bs.getD ((j : Int)).toNat 0) = c := by
      rw [Int.toNat_natCast, List.getD_eq_getElem?_getD, hc]
      rfl
    have hc128 : 0 ≤ c.toInt ∧ c.toInt < 128 := by
      obtain ⟨-, _, -, -, -, -, h⟩ := hw
      exact h c (List.mem_of_getElem? hc)
    have hoe := ch_ok_end ho
    have hoc := ch_ok_chr (g := M a) (c := c.toInt) ho
    have hS2 := hS
    obtain ⟨a0, a1, a2, a3, a4, a5, a6, a7, a8⟩ := hS
    have ho2 := ho
    obtain ⟨h1, h2, h3', h4, h5, h6, h7, h8, h9, h10, h11, h12, h13, h14, h15⟩ := ho
    have K : (Q (some (jI (chl (M a) (M s 2) (M s 1) (c.toInt :: cs.map Int32.toInt) b l r i m k).1)) (ch_m M s (chl (M a) (M s 2) (M s 1) (c.toInt :: cs.map Int32.toInt) b l r i m k))) := K
    have ih := ch_loop Hs hw hS2 h3 cs (j + 1)
    have e1 : ((j + 1 : Nat) : Int) = (j : Int) + 1 := by omega
    refine s20_19 Hs ⟨⟨bs, hw⟩, sp_length hw ?_⟩
    refine s20_25 Hs ⟨⟨⟨by omega, by omega⟩, ⟨by omega, by omega⟩⟩, fun h => by omega, fun _ => ⟨by rw [h3]; exact ⟨by omega, by omega⟩, fun h => absurd h3 h, fun _ => ⟨⟨bs, hw⟩, sp_length hw ?_⟩⟩⟩
    refine s20_41 Hs ⟨⟨⟨by omega, by omega⟩, ⟨by omega, by omega⟩⟩, fun h => by omega, fun _ => ⟨⟨bs, hw⟩, sp_charAt hw ⟨by omega, by omega⟩ ?_⟩⟩
    rw [hcb]
    refine s20_50 (h4n := n) (h1n := n) (h2n := n) (h3n := n) Hs ⟨⟨by omega, by omega⟩, fun hne => ⟨⟨⟨by omega, by omega⟩, ⟨by omega, by omega⟩⟩, fun hkm => ?_, fun hkm => ⟨⟨⟨by omega, by omega⟩, ⟨by omega, by omega⟩⟩, fun hpe => ?_, fun hpe => ?_⟩⟩, fun he => ⟨⟨by omega, by omega⟩, ⟨by omega, by omega⟩, fun _ => ⟨by omega, by omega⟩, fun _ => ⟨by omega, by omega⟩, ⟨⟨by omega, by omega⟩, ⟨by omega, by omega⟩⟩, ?_⟩⟩
    · have ek : ch_k (M a) (M s 2) (M s 1) c.toInt m k = k := by
        unfold ch_k
        rw [if_neg hkm]
      unfold chl at K
      rw [if_neg hne, ek] at K
      rw [ek] at hoc
      have := ih b l r i (m + 1) k hd' (by rw [e1]; exact hoc) K (by omega)
      rw [e1] at this
      rw [Int.add_zero]
      exact this
    · have ek : ch_k (M a) (M s 2) (M s 1) c.toInt m k = k := by
        unfold ch_k
        rw [if_pos hkm, if_neg (by omega)]
      unfold chl at K
      rw [if_neg hne, ek] at K
      rw [ek] at hoc
      have := ih b l r i (m + 1) k hd' (by rw [e1]; exact hoc) K (by omega)
      rw [e1] at this
      rw [Int.add_zero]
      exact this
    · have ea : (M s 0).toNat = a := by
        rw [a0]
        rfl
      rw [ea]
      refine ⟨⟨⟨a1, by omega⟩, by omega, by omega⟩, ⟨bs, hw⟩, sp_charAt hw ⟨by omega, by omega⟩ ?_⟩
      rw [hcb]
      have hg := a8 (M s 1 + k) (by omega) (by omega)
      refine s20_135 Hs ⟨⟨by omega, by omega⟩, ⟨by omega, by omega⟩, ?_⟩
      have ek : ch_k (M a) (M s 2) (M s 1) c.toInt m k = k + (if M a (M s 1 + k) = c.toInt then 1 else 0) := by
        unfold ch_k
        rw [if_pos hkm, if_pos hpe]
        split <;> omega
      unfold chl at K
      rw [if_neg hne, ek] at K
      rw [ek] at hoc
      have := ih b l r i (m + 1) _ hd' (by rw [e1]; exact hoc) K (by omega)
      rw [e1] at this
      exact this
    · unfold chl at K
      rw [if_pos he] at K
      have := ih _ _ _ (i + 1) 0 0 hd' (by rw [e1]; exact hoe) K (by omega)
      rw [e1] at this
      exact this
/-- choose, where nothing was wrong before -/
theorem sp_choose (Hs : fx_scn s) (hw : fx_str kc w bs) (hS : sc_at M s a n) (h3 : M s 3 = 0) (K : Q (some (jI (chs (M a) (M s 2) (M s 1) bs).1)) (ch_m M s (chs (M a) (M s 2) (M s 1) bs))) : wc kc (d + 4) 20 [jR s, jR w] M Q := by
  obtain ⟨a0, a1, a2, a3, a4, a5, a6, a7, a8⟩ := hS
  refine s20 Hs (ch_loop (a := a) (n := n) Hs hw ⟨a0, a1, a2, a3, a4, a5, a6, a7, a8⟩ h3 bs 0 (-1) 0 0 0 0 0 rfl ?_ K (Nat.zero_le _))
  unfold ch_ok
  omega
/-- choose, where something was wrong before: nothing is read -/
theorem sp_chooseW (Hs : fx_scn s) (hw : fx_str kc w bs) (h3 : M s 3 = 1) (K : Q (some (jI (-1))) (fx_up (fx_up M s 3 1) s 1 (M s 1))) : wc kc (d + 4) 20 [jR s, jR w] M Q := by
  have hlen : bs.length < 1000 := by
    obtain ⟨-, c, -, -, -, h, -⟩ := hw
    exact h
  refine s20 Hs (s20_19 Hs ⟨⟨bs, hw⟩, sp_length hw ?_⟩)
  refine s20_25 Hs ⟨⟨⟨by omega, by omega⟩, ⟨by omega, by omega⟩⟩, fun h => by omega, fun _ => ⟨by rw [h3]; exact ⟨by omega, by omega⟩, fun h => ?_, fun h => by omega⟩⟩
  rw [h3]
  refine ⟨⟨by omega, by omega⟩, fun h => by omega, ⟨by decide, by decide⟩, ⟨by omega, by omega⟩, ?_⟩
  have e : M s 1 + (if (-1 : Int) < 0 then (0 : Int) else 0) = M s 1 := by simp
  rw [e]
  exact K
end SCN
