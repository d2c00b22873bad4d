/-! REQUESTS, the class: answers, many, pick, clash, least, make, wrong. -/
theorem wls_8 {w : Int} : (wls w).length ≤ 8 := by
  unfold wls
  rw [List.length_map, List.length_range]
  exact lnb_le 8 w
theorem tFil_len {x : List Int} : (tFil x).length = x.length := by
  unfold tFil
  exact List.length_map ..
theorem tAns_len {Z : PZ} (ho : pz_ok Z) {n : Nat} (hn : n ≤ 100) : (tAns Z n).length ≤ 1008 := by
  have h9 := pz_n ho
  have h1 := fm_len (f := fun x => tFil x ++ [32]) (m := 10) ((ans Z).take n) (fun x hx => by
    have := (ans_len (List.mem_of_mem_take hx)).1
    rw [List.length_append, List.length_singleton, tFil_len]
    omega)
  have h2 : ((ans Z).take n).length ≤ 100 := by
    rw [List.length_take]
    omega
  have h3 : (if n < (ans Z).length then wls 1836020325 else wls 6384748).length ≤ 8 := by
    split
    · exact wls_8
    · exact wls_8
  unfold tAns
  rw [List.length_append]
  have : 10 * ((ans Z).take n).length ≤ 1000 := by omega
  omega
theorem tPick_len {Z : PZ} (ho : pz_ok Z) {n : Nat} : (tPick Z n).length ≤ 9 := by
  have h9 := pz_n ho
  unfold tPick
  split
  · rename_i x hx
    have := (ans_len (List.mem_of_getElem? hx)).1
    rw [tFil_len]
    omega
  · exact Nat.le_trans wls_8 (by omega)
theorem clT_len : ∀ (t c : Nat) (Z : PZ), (clT t c Z).length ≤ 10 * t
  | 0, _, _ => Nat.le_refl _
  | t + 1, c, Z => by
    have h1 := clT_len t (c + 1) (gdel Z c)
    have h2 := clT_len t (c + 1) Z
    have h3 := dgs_len (v := (c : Int))
    unfold clT
    split
    · split
      · omega
      · rw [List.length_append, List.length_cons]
        omega
    · omega
theorem tClash_len {Z : PZ} (ho : pz_ok Z) : (tClash Z).length ≤ 98 := by
  have h9 := pz_n ho
  have h1 := clT_len (Z.1 * Z.2.1).toNat 0 Z
  unfold tClash
  split
  · have := wls_8 (w := wrd 17)
    rw [List.length_append]
    omega
  · exact Nat.le_trans wls_8 (by omega)
theorem wd_len {w v : Int} : (wls w ++ 32 :: dgs v).length ≤ 18 := by
  have h1 := wls_8 (w := w)
  have h2 := dgs_len (v := v)
  rw [List.length_append, List.length_cons]
  omega
theorem tNot1_len : tNot1.length ≤ 17 := by
  have h1 := wls_8 (w := 7237492)
  have h2 := wls_8 (w := 7302757)
  unfold tNot1
  rw [List.length_append, List.length_cons]
  omega
theorem tWrong_len {Z : PZ} {V : fx_M} : (tWrong Z V).length ≤ 17 := by
  unfold tWrong
  split
  · exact Nat.le_trans dgs_len (by omega)
  · exact tNot1_len
section RQH
variable {L : Nat} {xs : Nat → Int32} {d : Nat} {M B N M' : fx_M} {Q R : Option fx_V → fx_M → Prop} {S : HS} {k : Nat}
theorem cRl_mk {Z' : PZ} {V' : fx_M} (h : cRl M S) (hk : ct_ok k S.2.2.1) (hz : cz N 11 Z') (hv : cpv N V') (f : ∀ b j, (20 ≤ b ∧ b ≤ 28) ∨ (62 ≤ b ∧ b ≤ 128) → N b j = M b j) : cRl N (Z', V', S.2.2) := by
  obtain ⟨h1, ⟨Y, y1, y2⟩, h3, h4, h5, h6, h7⟩ := h
  refine ⟨hz, ⟨Y, cz_fr y1 (fun b j b1 b2 => f b j (by omega)), y2⟩, hv, cct_fr h4 hk (fun b j b1 => f b j (by omega)), by rw [f _ _ (by omega)]; exact h5, ?_, clg_fr h7 (fun b j b1 b2 => f b j (by omega))⟩
  rw [← h6]
  funext j
  exact f 126 j (by omega)
/-- the end of a request that changes nothing but the answer -/
theorem fi_wr {cs : List Int} (hS : cRl N S) (hk : ct_ok k S.2.2.1) (h30 : N 3 1 = 0) (hl : cs.length ≤ 5600) (h : cwr N M' cs) : cRl M' S ∧ ctx M' cs ∧ cEnd N M' := by
  have f : ∀ b j, b ≠ 3 → b ≠ 4 → ¬ csc b → M' b j = N b j := fun b j b1 b2 b3 => by rw [h b j b3, o_app_ne b1 b2]
  exact ⟨cRl_fr hS hk (fun b j hb => f b j (by omega) (by omega) (by unfold csc; omega)), ctx_wr h30 hl h, fun b j hb => f b j (by omega) (by omega) (by unfold csc; omega)⟩
theorem cwr_o {cs : List Int} : cwr N (o_app N 3 cs) cs := fun _ _ _ => rfl
theorem fi_fr {cs : List Int} (hS : cRl N S) (hk : ct_ok k S.2.2.1) (h : cfrq N M') : cRl M' S ∧ cEnd N M' :=
  ⟨cRl_fr hS hk (fun b j hb => h b j (by unfold csc; omega) (by omega) (by omega)), fun b j hb => h b j (by unfold csc; omega) (by omega) (by omega)⟩
theorem ca_ok0 (h : N 3 1 = 0) : o_ok N 3 := by
  unfold o_ok
  rw [h]
  omega
/-- learn, at the head of two groups -/
theorem cl_learn {P : Option fx_V → fx_M → Prop} (hB : cRl B S) (hk : hOk k S) (h30 : B 3 1 = 0) (H : ∀ N, cRl N S → ckn N 11 S.1 → N 3 1 = 0 → cEnd B N → N 9 = B 9 → N 34 = B 34 → (∀ b j, 35 ≤ b → b ≤ 39 → N b j = B b j) → P none N) : wc (kcs L xs) (d + 3) 75 [jR 11] B P := by
  refine sp_learn puz11 hk.1 hB.1 (fun N n1 n2 n3 => H N ?_ ⟨n1, n2⟩ ?_ ?_ ?_ ?_ ?_)
  · exact cRl_mk hB hk.2.2.2.2.1 n1 (cpv_fr hB.2.2.1 (fun b j b1 b2 => n3 b j (by omega) (by omega) (by omega))) (fun b j hb => n3 b j (by omega) (by omega) (by omega))
  · rw [n3 3 1 (by omega) (by omega) (by omega), h30]
  · exact fun b j hb => n3 b j (by omega) (by omega) (by omega)
  · exact funext (fun j => n3 9 j (by omega) (by omega) (by omega))
  · exact funext (fun j => n3 34 j (by omega) (by omega) (by omega))
  · exact fun b j b1 b2 => n3 b j (by omega) (by omega) (by omega)
end RQH
def rq_ans (g : Int → Int) (n p : Int) (S : HS) : Int × Int × List Int × HS := ((rBN g n 3 p 0).2.1, (rBN g n 3 p 0).2.2, (if 100 < (rBN g n 3 p 0).1 then t_rf 3 else tAns S.1 (rBN g n 3 p 0).1.toNat), S)
def rq_many (p : Int) (S : HS) : Int × Int × List Int × HS := (p, 0, dgs ((ans S.1).length : Nat), S)
def rq_pick (g : Int → Int) (n p : Int) (S : HS) : Int × Int × List Int × HS := ((rBN g n 6 p 0).2.1, (rBN g n 6 p 0).2.2, tPick S.1 (rBN g n 6 p 0).1.toNat, S)
def rq_clash (p : Int) (S : HS) : Int × Int × List Int × HS := (p, 0, tClash S.1, S)
def rq_least (p : Int) (S : HS) : Int × Int × List Int × HS := (p, 0, (if (ans S.1).length = 1 then tLeast S.1 else tNot1), (if (ans S.1).length = 1 then (zLe S.1, pv_new S.2.1, S.2.2) else S))
/-- cell and digit -/
def rCd (g : Int → Int) (n p : Int) : Int × Int × Int := rBN g n 1 (rBN g n 3 p 0).2.1 (rBN g n 3 p 0).2.2
def rq_make (g : Int → Int) (n p : Int) (S : HS) : Int × Int × List Int × HS := ((rCd g n p).2.1, (rCd g n p).2.2, (if 1 < (rCd g n p).1 then tNoKind else if ans (zfre S.1) = [] then wls 1852796517 else tMade S.1 (rBN g n 3 p 0).1 (rCd g n p).1), (if 1 < (rCd g n p).1 then S else if ans (zfre S.1) = [] then S else (zMk S.1 (rBN g n 3 p 0).1 (rCd g n p).1, pv_new S.2.1, S.2.2)))
def rq_wrong (p : Int) (S : HS) : Int × Int × List Int × HS := (p, 0, tWrong S.1 S.2.1, S)
