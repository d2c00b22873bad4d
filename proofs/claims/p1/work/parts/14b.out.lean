/-! WRITING: the class's Out and the reference's out. -/
theorem fx_up_self (M : fx_M) (a : Nat) (k v : Int) : fx_up M a k v a k = v := by
  unfold fx_up
  rw [if_pos ⟨rfl, rfl⟩]
theorem fx_up_ne {M : fx_M} {a b : Nat} {k j v : Int} (h : ¬ (b = a ∧ j = k)) : fx_up M a k v b j = M b j := by
  unfold fx_up
  rw [if_neg h]
theorem fx_up_na {M : fx_M} {a b : Nat} {k j v : Int} (h : b ≠ a) : fx_up M a k v b j = M b j := fx_up_ne (fun x => h x.1)
theorem fx_up_nk {M : fx_M} {a b : Nat} {k j v : Int} (h : j ≠ k) : fx_up M a k v b j = M b j := fx_up_ne (fun x => h x.2)
def o_put (M : fx_M) (o : Nat) (c : Int) : fx_M := if M o 1 < (fx_ol o : Nat) then fx_up (fx_up M (o + 1) (M o 1) c) o 1 (M o 1 + 1) else M
def o_app (M : fx_M) (o : Nat) : List Int → fx_M
  | [] => M
  | c :: cs => o_app (o_put M o c) o cs
def o_ok (M : fx_M) (o : Nat) : Prop := 0 ≤ M o 1 ∧ M o 1 ≤ (fx_ol o : Nat)
theorem o_ok_put {M : fx_M} {o : Nat} {c : Int} (h : o_ok M o) : o_ok (o_put M o c) o := by
  unfold o_ok o_put at *
  split
  · rw [fx_up_self]
    omega
  · exact h
theorem o_ok_app {o : Nat} : ∀ {cs : List Int} {M : fx_M}, o_ok M o → o_ok (o_app M o cs) o
  | [], _, h => h
  | c :: cs, _, h => o_ok_app (cs := cs) (o_ok_put h)
theorem o_app_app {o : Nat} : ∀ {cs ds : List Int} {M : fx_M}, o_app (o_app M o cs) o ds = o_app M o (cs ++ ds)
  | [], _, _ => rfl
  | c :: cs, ds, M => o_app_app (cs := cs) (ds := ds) (M := o_put M o c)
theorem fx_oll {o : Nat} (h : fx_out o) : (fx_ol o : Nat) ≤ 5600 := by
  unfold fx_out at h
  simp at h
  rcases h with rfl | rfl <;> decide +kernel
/-- the digits of v from the one of 10 to the k on -/
def dgk (v : Int) : Nat → List Int
  | 0 => [48 + v % 10]
  | k + 1 => (48 + v / ((10 ^ (k + 1) : Nat) : Int) % 10) :: dgk v k
def dgn (v : Int) : Nat := if v < 10 then 0 else if v < 100 then 1 else if v < 1000 then 2 else if v < 10000 then 3 else if v < 100000 then 4 else if v < 1000000 then 5 else if v < 10000000 then 6 else if v < 100000000 then 7 else 8
def dgs (v : Int) : List Int := dgk v (dgn v)
theorem dgn_le (v : Int) : dgn v ≤ 8 := by
  unfold dgn
  (repeat' split) <;> omega
theorem dgn_lt {v : Int} (h0 : 0 ≤ v) (h1 : v < 1000000000) : ∀ {j : Nat}, j ≤ 8 → (10 ≤ v / ((10 ^ j : Nat) : Int) ↔ j < dgn v) := by
  intro j hj
  have hc : j = 0 ∨ j = 1 ∨ j = 2 ∨ j = 3 ∨ j = 4 ∨ j = 5 ∨ j = 6 ∨ j = 7 ∨ j = 8 := by omega
  unfold dgn
  rcases hc with rfl | rfl | rfl | rfl | rfl | rfl | rfl | rfl | rfl <;> simp only [Nat.reducePow] <;> (repeat' split) <;> omega
theorem pw_le {j : Nat} (h : j ≤ 8) : 0 < (10 ^ j : Nat) ∧ (10 ^ j : Nat) ≤ 100000000 := by
  refine ⟨Nat.pos_of_ne_zero (by simp), ?_⟩
  exact Nat.pow_le_pow_right (n := 10) (by decide) h
section OUT
variable {kc : List va_E} {d o w : Nat} {M : fx_M} {Q : Option fx_V → fx_M → Prop} {bs : List Int32}
theorem sp_put {c : Int} (Ho : fx_out o) (ho : o_ok M o) (hc : 0 ≤ c ∧ c ≤ 65535) (K : Q none (o_put M o c)) : wc kc (d + 1) 69 [jR o, jI c] M Q := by
  have hl := fx_oll Ho
  unfold o_ok at ho
  unfold o_put at K
  refine s69 Ho ⟨⟨⟨by omega, by omega⟩, ⟨by omega, by omega⟩⟩, fun h => ?_, fun h => ⟨⟨⟨ho.1, h⟩, hc⟩, ?_⟩⟩
  · rw [if_neg (by omega)] at K
    exact K
  · rw [if_pos h] at K
    exact K
theorem puts_loop (Ho : fx_out o) (hw : fx_str kc w bs) : ∀ (cs : List Int32) (j : Nat) (M : fx_M), bs.drop j = cs → j ≤ bs.length → o_ok M o → Q none (o_app M o (cs.map Int32.toInt)) → wp kc (d + 4) 64 2 [some (jR o), some (jR w), some (jI j)] [] M Q
  | [], j, M, hd, hj, ho, K => by
    have hlen : bs.length < 1000 := by
      obtain ⟨-, c, -, -, -, h, -⟩ := hw
      exact h
    have hjl : j = bs.length := by
      have := congrArg List.length hd
      simp at this
      omega
    refine s64_2 Ho ⟨⟨bs, hw⟩, sp_length hw ?_⟩
    exact s64_7 Ho ⟨⟨⟨by omega, by omega⟩, ⟨by omega, by omega⟩⟩, fun _ => K, fun h => by omega⟩
  | c :: cs, j, M, hd, hj, ho, K => by
    have hlen : bs.length < 1000 := by
      obtain ⟨-, c, -, -, -, h, -⟩ := hw
      exact h
    have hl := fx_oll Ho
    obtain ⟨hc, hd', hjl⟩ := drop_cons hd
    have hcb : (bs.getD ((j : Int)).toNat 0) = c := by
      rw [Int.toNat_natCast, List.getD_eq_getElem?_getD, hc]
      rfl
    have hc128 : 0 ≤ c.toInt ∧ c.toInt < 128 := by
      obtain ⟨-, _, -, -, -, -, h⟩ := hw
      exact h c (List.mem_of_getElem? hc)
    have hop := o_ok_put (c := c.toInt) ho
    have ho2 := ho
    unfold o_ok at ho
    have K : Q none (o_app (o_put M o c.toInt) o (cs.map Int32.toInt)) := K
    refine s64_2 Ho ⟨⟨bs, hw⟩, sp_length hw ?_⟩
    refine s64_7 Ho ⟨⟨⟨by omega, by omega⟩, ⟨by omega, by omega⟩⟩, fun h => by omega, fun _ => ⟨⟨⟨by omega, by omega⟩, ⟨by omega, by omega⟩⟩, fun h => ?_, fun h => ⟨⟨bs, hw⟩, sp_charAt hw ⟨by omega, by omega⟩ ?_⟩⟩⟩
    · have stay : ∀ (l : List Int), o_app M o l = M := by
        intro l
        have e : ∀ x, o_put M o x = M := fun x => by
          unfold o_put
          rw [if_neg (by omega)]
        induction l with
        | nil => rfl
        | cons x l ih =>
          show o_app (o_put M o x) o l = M
          rw [e, ih]
      have e : ∀ x, o_put M o x = M := fun x => by
        unfold o_put
        rw [if_neg (by omega)]
      rw [e, stay] at K
      exact K
    · rw [hcb]
      refine s64_35 Ho ⟨⟨⟨ho.1, h⟩, ⟨by omega, by omega⟩⟩, ?_⟩
      have ih := puts_loop Ho hw cs (j + 1) (o_put M o c.toInt) hd' (by omega) hop K
      have e1 : ((j + 1 : Nat) : Int) = (j : Int) + 1 := by omega
      rw [e1] at ih
      unfold o_put at ih
      rw [if_pos h] at ih
      exact ih
theorem sp_puts (Ho : fx_out o) (hw : fx_str kc w bs) (ho : o_ok M o) (K : Q none (o_app M o (bs.map Int32.toInt))) : wc kc (d + 4) 64 [jR o, jR w] M Q :=
  s64 Ho (puts_loop Ho hw bs 0 M rfl (Nat.zero_le _) ho K)
theorem num_fst {v : Int} (Ho : fx_out o) (h0 : 0 ≤ v) (h1 : v < 1000000000) : ∀ (k j : Nat), k + j = dgn v → wp kc (d + 1) 65 29 [some (jR o), some (jI v), some (jI ((10 ^ dgn v : Nat) : Int)), none] [] M Q → wp kc (d + 1) 65 4 [some (jR o), some (jI v), some (jI ((10 ^ j : Nat) : Int)), some (jI j)] [] M Q
  | 0, j, hj, K => by
    have h8 := dgn_le v
    have hj : j = dgn v := by omega
    subst hj
    have hp := pw_le h8
    have hq : ¬ 10 ≤ v / ((10 ^ dgn v : Nat) : Int) := fun h => absurd ((dgn_lt h0 h1 h8).mp h) (Nat.lt_irrefl _)
    have hv : 0 ≤ v / ((10 ^ dgn v : Nat) : Int) := Int.ediv_nonneg h0 (by omega)
    refine s65_4 Ho ⟨⟨by omega, by omega⟩, fun _ => K, fun _ => ⟨⟨⟨by omega, by omega⟩, by omega, by omega⟩, ⟨by omega, by omega⟩, fun _ => K, fun h => absurd h hq⟩⟩
  | k + 1, j, hj, K => by
    have h8 := dgn_le v
    have hp := pw_le (j := j) (by omega)
    have hq := (dgn_lt h0 h1 (j := j) (by omega)).mpr (by omega)
    have hv2 : v / ((10 ^ j : Nat) : Int) ≤ v := Int.ediv_le_self _ h0
    refine s65_4 Ho ⟨⟨by omega, by omega⟩, fun h => by omega, fun _ => ⟨⟨⟨by omega, by omega⟩, by omega, by omega⟩, ⟨by omega, by omega⟩, fun h => by omega, fun h => ?_⟩⟩
    have ih := num_fst Ho h0 h1 k (j + 1) (by omega) K
    have e1 : ((j + 1 : Nat) : Int) = (j : Int) + 1 := by omega
    have e2 : ((10 ^ (j + 1) : Nat) : Int) = ((10 ^ j : Nat) : Int) * 10 := by
      rw [Nat.pow_succ]
      omega
    rw [e1, e2] at ih
    exact ih
theorem num_snd {v : Int} (Ho : fx_out o) (h0 : 0 ≤ v) (h1 : v < 1000000000) : ∀ (k : Nat) (M : fx_M), k ≤ 8 → o_ok M o → Q none (o_app M o (dgk v k)) → wp kc (d + 1) 65 29 [some (jR o), some (jI v), some (jI ((10 ^ k : Nat) : Int)), none] [] M Q := by
  intro k
  have full : ∀ (M : fx_M), (fx_ol o : Int) ≤ M o 1 → ∀ (l : List Int), o_app M o l = M := by
    intro M h l
    have e : ∀ x, o_put M o x = M := fun x => by
      unfold o_put
      rw [if_neg (by omega)]
    induction l with
    | nil => rfl
    | cons x l ih =>
      show o_app (o_put M o x) o l = M
      rw [e, ih]
  have hl := fx_oll Ho
  induction k with
  | zero =>
    intro M _ ho K
    have hop := o_ok_put (c := 48 + v % 10) ho
    unfold o_ok at ho
    have e0 : ((10 ^ 0 : Nat) : Int) = 1 := rfl
    have ev : v / 1 = v := Int.ediv_one v
    have ec : (48 + v % 10) % 65536 = 48 + v % 10 := by omega
    rw [e0]
    refine s65_29 Ho ⟨⟨by omega, by omega⟩, fun h => by omega, fun _ => ⟨⟨⟨by omega, by omega⟩, ⟨by omega, by omega⟩⟩, fun h => ?_, fun h => ?_⟩⟩
    · rw [full M h] at K
      exact K
    · rw [ev, ec]
      refine ⟨⟨⟨by omega, by omega⟩, by omega, by omega⟩, ⟨by omega, by omega⟩, ⟨⟨ho.1, h⟩, by omega, by omega⟩, ⟨by omega, by omega⟩, ?_⟩
      have e1 : (1 : Int) / 10 = 0 := by decide
      rw [e1]
      have K : Q none (o_put M o (48 + v % 10)) := K
      unfold o_put at K
      rw [if_pos h] at K
      exact s65_29 Ho ⟨⟨by omega, by omega⟩, fun _ => K, fun h => by omega⟩
  | succ k ih =>
    intro M hk ho K
    have hp := pw_le hk
    have hop := o_ok_put (c := 48 + v / ((10 ^ (k + 1) : Nat) : Int) % 10) ho
    have ho2 := ho
    unfold o_ok at ho
    have hv0 : 0 ≤ v / ((10 ^ (k + 1) : Nat) : Int) := Int.ediv_nonneg h0 (by omega)
    have hv2 : v / ((10 ^ (k + 1) : Nat) : Int) ≤ v := Int.ediv_le_self _ h0
    have e2 : ((10 ^ (k + 1) : Nat) : Int) / 10 = ((10 ^ k : Nat) : Int) := by
      rw [Nat.pow_succ]
      omega
    have K : Q none (o_app (o_put M o (48 + v / ((10 ^ (k + 1) : Nat) : Int) % 10)) o (dgk v k)) := K
    refine s65_29 Ho ⟨⟨by omega, by omega⟩, fun h => by omega, fun _ => ⟨⟨⟨by omega, by omega⟩, ⟨by omega, by omega⟩⟩, fun h => ?_, fun h => ?_⟩⟩
    · have e : ∀ x, o_put M o x = M := fun x => by
        unfold o_put
        rw [if_neg (by omega)]
      rw [e, full M h] at K
      exact K
    · have ec : (48 + v / ((10 ^ (k + 1) : Nat) : Int) % 10) % 65536 = 48 + v / ((10 ^ (k + 1) : Nat) : Int) % 10 := by omega
      rw [ec, e2]
      refine ⟨⟨⟨by omega, by omega⟩, by omega, by omega⟩, ⟨by omega, by omega⟩, ⟨⟨ho.1, h⟩, by omega, by omega⟩, ⟨by omega, by omega⟩, ?_⟩
      have := ih (o_put M o (48 + v / ((10 ^ (k + 1) : Nat) : Int) % 10)) (by omega) hop K
      unfold o_put at this
      rw [if_pos h] at this
      exact this
theorem sp_number {v : Int} (Ho : fx_out o) (ho : o_ok M o) (h0 : 0 ≤ v) (h1 : v < 1000000000) (K : Q none (o_app M o (dgs v))) : wc kc (d + 1) 65 [jR o, jI v] M Q :=
  s65 Ho (num_fst Ho h0 h1 (dgn v) 0 (by omega) (num_snd Ho h0 h1 (dgn v) M (dgn_le v) ho K))
end OUT
