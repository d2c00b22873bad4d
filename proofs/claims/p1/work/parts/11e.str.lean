/-! STRINGS: literals, by rows -/
def fx_str (kc : List va_E) (b : Nat) (bs : List Int32) : Prop := ¬ b < lx_K ∧ ∃ c : Nat, ¬ c < lx_K ∧ kc[b - lx_K]? = some (.inr (1000, [.ref c, .int 0])) ∧ kc[c - lx_K]? = some (.inl (3, bs.length, .inl (fun i => bs.getD i 0))) ∧ bs.length < 1000 ∧ ∀ x ∈ bs, 0 ≤ x.toInt ∧ x.toInt < 128
def fx_lit (kc : List va_E) (b : Nat) : Prop := ∃ bs, fx_str kc b bs
section FXS
variable {kc : List va_E} {d m pc p t : Nat} {l l' : fx_L} {st : List fx_V} {M : fx_M} {Q : Option fx_V → fx_M → Prop}
/-- a call of a literal -/
theorem x_cl {k a w d' b : Nat} {As : List fx_V} (h : fx_ca m pc = some (k, a, w, p)) (hc : xKc k = 1000) (hb : fx_lit kc b) (ha : As.length + 1 = a) (hst : fx_ct st ≤ 8) (hx : 1 + fx_ct As ≤ xM k) (hd : d' + 1 ≤ d) (K : wc kc d' k (jR b :: As) M (fun v M1 => wp kc d m p l (v.toList ++ st) M1 Q)) : wp kc d m pc l (As.reverse ++ jR b :: st) M Q := by
  have e : As.reverse ++ jR b :: st = (jR b :: As).reverse ++ st := by simp
  rw [e]
  refine wp_call h (by simpa using ha) hst hx ?_ hd K
  unfold lx_rcv
  show (if w = 2 ∨ w = 3 then (match lx_at kc (fx_hp M) b with | some (.inr (ci, _)) => ci == xKc k | _ => false) else true) = true
  split
  · obtain ⟨bs, hb0, c, hc0, hk, hk2⟩ := hb
    rw [lx_at_ge hb0, hk, hc]
    rfl
  · rfl
noncomputable def fx_gk (m pc : Nat) : Option (Nat × Nat) := match xI m pc with
  | some (.getfield idx) => match xF m idx with
    | some (c, k, w) => if w = 2 ∧ c = 1000 then some (k, pc + 3) else none
    | none => none
  | _ => none
theorem wp_gk {b k : Nat} {fs : List Value} {v : fx_V} (h : fx_gk m pc = some (k, p)) (hb : ¬ b < lx_K) (hk : kc[b - lx_K]? = some (.inr (1000, fs))) (hv : fs[k]? = some (fx_tv v)) (K : wp kc d m p l (v :: st) M Q) : wp kc d m pc l (jR b :: st) M Q := by
  unfold fx_gk at h
  split at h
  · next idx hI =>
    split at h
    · next c' k' w hF =>
      split at h
      · next hw =>
        cases h
        obtain ⟨hw, rfl⟩ := hw
        refine wp_sm hI rfl rfl (fun L hL => ?_) K
        show lx_gf kc m idx pc L (Value.ref b :: st.map fx_tv) _ = _
        unfold lx_gf
        dsimp only
        rw [hF]
        dsimp only
        rw [if_pos hw, if_neg hb, hk]
        show (if 1000 = 1000 then _ else _) = _
        rw [if_pos rfl, hv]
        rfl
      · cases h
    · cases h
  · cases h
theorem x_nrt {x : Int} {ty : FieldType} (h : fx_op m pc = some (.ireturn, p, t)) (hr : xR m = some ty) (hn : narrow ty (.int (Int32.ofInt x)) = .int (Int32.ofInt x)) (K : Q (some (jI x)) M) : wp kc d m pc l [jI x] M Q := by
  obtain ⟨hI, -⟩ := fx_op_inv h
  refine ⟨some (jI x), M, K, fun L hL => ev_ret hI ?_⟩
  show lx_ret m .ireturn [Value.int (Int32.ofInt x)] = _
  unfold lx_ret
  dsimp only
  rw [hr]
  dsimp only
  rw [if_pos hn]
  rfl
theorem x_baldk {a n : Nat} {x : Int} {f : Nat → Int32} (h : fx_op m pc = some (.baload, p, t)) (hl : ¬ a < lx_K) (ha : kc[a - lx_K]? = some (.inl (3, n, .inl f))) (h1 : 0 ≤ x ∧ x < n) (hn : n ≤ 2147483647) (K : wp kc d m p l (jI (f x.toNat).toInt :: st) M Q) : wp kc d m pc l (jI x :: jR a :: st) M Q := by
  obtain ⟨hI, hn', hp, -, -, hk⟩ := fx_op_inv h
  have hp : p = pc + 1 := by
    have := Option.some.inj hn'
    omega
  subst hp
  refine wp_sm hI rfl rfl (fun L hL => ?_) K
  show lx_ald kc _ pc L (Value.int (Int32.ofInt x) :: Value.ref a :: st.map fx_tv) _ = _
  unfold lx_ald
  dsimp only
  rw [lx_at_ge hl, ha]
  dsimp only
  rw [if_pos ⟨rfl, fx_lin h1.1 h1.2 (by omega)⟩, fx_nc ⟨by omega, by omega⟩]
  show some (pc + 1, L, Value.int _ :: _, _) = some (pc + 1, L, Value.int (Int32.ofInt _) :: _, _)
  rw [Int32.ofInt_toInt]
/- isEmpty -/
theorem sp_isEmpty {b : Nat} {bs : List Int32} (hs : fx_str kc b bs) (K : Q (some (jI (if bs = [] then 1 else 0))) M) : wc kc (d + 1) 50 [jR b] M Q := by
  refine wc_of ?_
  obtain ⟨hb, c, hc, h1, h2, hlen, hbs⟩ := hs
  refine x_aldn (k := 0) (p := 1) (t := 0) (by decide +kernel) rfl ?_
  refine wp_gk (k := 0) (p := 4) (v := jR c) (by decide +kernel) hb h1 rfl ?_
  refine x_lenk (p := 5) (t := 4) (by decide +kernel) hc h2 ?_
  refine x_zne (o := 7) (p := 8) (t := 12) (by decide +kernel) ⟨by omega, by omega⟩ (fun h => ?_) (fun h => ?_)
  · refine x_ci (n := 0) (p := 13) (by decide +kernel) ?_
    refine x_zrt (p := 14) (t := 13) (by decide +kernel) r50 (by decide) ?_
    rw [if_neg (by intro e; rw [e] at h; exact h rfl)] at K
    exact K
  · refine x_ci (n := 1) (p := 9) (by decide +kernel) ?_
    refine x_goto (o := 4) (p := 12) (t := 13) (by decide +kernel) ?_
    refine x_zrt (p := 14) (t := 13) (by decide +kernel) r50 (by decide) ?_
    rw [if_pos (by exact List.length_eq_zero_iff.mp (by omega))] at K
    exact K
/- coder -/
theorem sp_coder {b : Nat} {bs : List Int32} (hs : fx_str kc b bs) (K : Q (some (jI 0)) M) : wc kc (d + 1) 22 [jR b] M Q := by
  refine wc_of ?_
  obtain ⟨hb, c, hc, h1, h2, hlen, hbs⟩ := hs
  refine x_ci (n := 1) (p := 3) (by decide +kernel) ?_
  refine x_zeq (o := 10) (p := 6) (t := 13) (by decide +kernel) (by decide) (fun h => absurd h (by decide)) (fun h => ?_)
  refine x_aldn (k := 0) (x := b) (p := 7) (t := 6) (by decide +kernel) rfl ?_
  refine wp_gk (k := 1) (p := 10) (v := jI 0) (by decide +kernel) hb h1 rfl ?_
  refine x_goto (o := 4) (p := 13) (t := 14) (by decide +kernel) ?_
  exact x_nrt (p := 15) (t := 14) (ty := .byte) (by decide +kernel) (by decide +kernel) (by decide) K
theorem fx_shr0 {x : Int} (h : fx_in32 x) : fx_shr x 0 = x := by
  unfold fx_shr
  have : Int32.ofInt x >>> (Int32.ofInt 0 &&& 31) = Int32.ofInt x := by
    apply Int32.toBitVec_inj.mp
    show (BitVec.ofInt 32 x).sshiftRight' _ = BitVec.ofInt 32 x
    have e : ((Int32.ofInt 0 &&& 31 : Int32).toBitVec.smod 32) = 0#32 := by decide
    show BitVec.sshiftRight' _ ((Int32.ofInt 0 &&& 31 : Int32).toBitVec.smod 32) = _
    rw [e]
    simp
  rw [this, fx_to h]
/- length -/
theorem sp_length {b : Nat} {bs : List Int32} (hs : fx_str kc b bs) (K : Q (some (jI bs.length)) M) : wc kc (d + 2) 21 [jR b] M Q := by
  refine wc_of ?_
  have hs0 := hs
  obtain ⟨hb, c, hc, h1, h2, hlen, hbs⟩ := hs
  refine x_aldn (k := 0) (p := 1) (t := 0) (by decide +kernel) rfl ?_
  refine wp_gk (k := 0) (p := 4) (v := jR c) (by decide +kernel) hb h1 rfl ?_
  refine x_lenk (p := 5) (t := 4) (by decide +kernel) hc h2 ?_
  refine x_aldn (k := 0) (x := b) (p := 6) (t := 5) (by decide +kernel) rfl ?_
  refine x_cl (As := []) (st := [jI bs.length]) (k := 22) (a := 1) (w := 2) (p := 9) (d' := d + 1) (by decide +kernel) kl22 ⟨bs, hs0⟩ rfl (Nat.le_of_ble_eq_true rfl) mx22 (Nat.le_refl _) ?_
  refine sp_coder hs0 ?_
  refine x_ishr (p := 10) (t := 9) (by decide +kernel) ?_
  refine x_irt (p := 11) (t := 10) (by decide +kernel) r21 ?_
  rw [fx_shr0 ⟨by omega, by omega⟩]
  exact K
/- checks of an index -/
theorem sp_check27 {i n : Int} (hi : 0 ≤ i ∧ i < n) (hn : n ≤ 2147483647) (K : Q (some (jI i)) M) : wp kc d 27 0 [some (jI i), some (jI n)] [] M Q := by
  refine x_ildn (k := 0) (p := 1) (t := 0) (by decide +kernel) rfl ?_
  refine x_zlt (o := 8) (p := 4) (t := 9) (by decide +kernel) ⟨by omega, by omega⟩ (fun h => by omega) (fun h => ?_)
  refine x_ildn (p := 5) (t := 4) (by decide +kernel) (k := 0) rfl ?_
  refine x_ildn (p := 6) (t := 5) (by decide +kernel) (k := 1) rfl ?_
  refine x_clt (o := 10) (p := 9) (t := 16) (by decide +kernel) ⟨by omega, by omega⟩ ⟨by omega, by omega⟩ (fun h => ?_) (fun h => by omega)
  refine x_ildn (p := 17) (t := 16) (by decide +kernel) (k := 0) rfl ?_
  exact x_irt (p := 18) (t := 17) (by decide +kernel) r27 K
theorem sp_check26 {i n : Int} (hi : 0 ≤ i ∧ i < n) (hn : n ≤ 2147483647) (K : Q none M) : wc kc (d + 1) 26 [jI i, jI n] M Q := by
  refine wc_of ?_
  refine x_ildn (p := 1) (t := 0) (by decide +kernel) (k := 0) rfl ?_
  refine x_ildn (p := 2) (t := 1) (by decide +kernel) (k := 1) rfl ?_
  refine ⟨none, M, K, fun L hL => ?_⟩
  have hI : xI 26 2 = some (.getstatic 1053) := by decide +kernel
  have hG : xG 26 1053 = some (.retAddr 0) := by decide +kernel
  refine ev_ins hI rfl rfl (show lx_ins kc 26 2 (.getstatic 1053) L _ _ = some (5, L, .retAddr 0 :: [Value.int (Int32.ofInt n), Value.int (Int32.ofInt i)], fx_hp M) by
    show lx_psh (xG 26 1053) 2 3 L _ _ = _
    rw [hG]
    rfl) ?_
  obtain ⟨v, M', hQ, hK⟩ := sp_check27 (kc := kc) (d := d) (M := M) (Q := fun v M' => v = some (jI i) ∧ M' = M) hi hn ⟨rfl, rfl⟩
  obtain ⟨rfl, rfl⟩ := hQ
  have hI2 : xI 26 5 = some (.invokestatic 1059) := by decide +kernel
  have hS2 : xS 26 (.invokestatic 1059) = some (27, 3, 0) := by decide +kernel
  have hm : 3 ≤ xM 27 := by decide +kernel
  refine ev_call hI2 hS2 ?_ (hK (lv_args 0 [Value.int (Int32.ofInt i), Value.int (Int32.ofInt n), Value.retAddr 0]) ?_) ?_
  · have : decide (3 ≤ xM 27) = true := decide_eq_true hm
    show (true && true && decide (3 ≤ xM 27) && true) = true
    rw [this]
    rfl
  · intro j v hj
    match j, hj with
    | 0, hj =>
      cases hj
      rfl
    | 1, hj =>
      cases hj
      rfl
    | j + 2, hj => simp at hj
  · have hI3 : xI 26 8 = some .pop := by decide +kernel
    have hI4 : xI 26 9 = some .return_ := by decide +kernel
    have hR : xR 26 = none := by decide +kernel
    refine ev_ins hI3 rfl rfl (show lx_ins kc 26 8 .pop L _ _ = some (9, L, [], fx_hp M') from rfl) ?_
    refine ev_ret hI4 ?_
    show lx_ret 26 .return_ [] = some none
    unfold lx_ret
    dsimp only
    rw [hR]
theorem sp_isLatin1 {b : Nat} {bs : List Int32} (hs : fx_str kc b bs) (K : Q (some (jI 1)) M) : wc kc (d + 1) 24 [jR b] M Q := by
  refine wc_of ?_
  obtain ⟨hb, c, hc, h1, h2, hlen, hbs⟩ := hs
  refine x_ci (n := 1) (p := 3) (by decide +kernel) ?_
  refine x_zeq (o := 14) (p := 6) (t := 17) (by decide +kernel) (by decide) (fun h => absurd h (by decide)) (fun h => ?_)
  refine x_aldn (k := 0) (x := b) (p := 7) (t := 6) (by decide +kernel) rfl ?_
  refine wp_gk (k := 1) (p := 10) (v := jI 0) (by decide +kernel) hb h1 rfl ?_
  refine x_zne (o := 7) (p := 13) (t := 17) (by decide +kernel) (by decide) (fun h => absurd rfl h) (fun h => ?_)
  refine x_ci (n := 1) (p := 14) (by decide +kernel) ?_
  refine x_goto (o := 4) (p := 17) (t := 18) (by decide +kernel) ?_
  exact x_zrt (p := 19) (t := 18) (by decide +kernel) r24 (by decide) K
theorem fx_and255 {x : Int} (h : 0 ≤ x ∧ x < 128) : fx_and x 255 = x := by
  have : ∀ n : Nat, n < 128 → fx_and (n : Int) 255 = (n : Int) := by decide +kernel
  have := this x.toNat (by omega)
  rwa [show ((x.toNat : Nat) : Int) = x by omega] at this
theorem sp_charAt {b : Nat} {bs : List Int32} {i : Int} (hs : fx_str kc b bs) (hi : 0 ≤ i ∧ i < bs.length) (K : Q (some (jI (bs.getD i.toNat 0).toInt)) M) : wc kc (d + 3) 23 [jR b, jI i] M Q := by
  refine wc_of ?_
  have hs0 := hs
  obtain ⟨hb, c, hc, h1, h2, hlen, hbs⟩ := hs
  refine x_aldn (k := 0) (p := 1) (t := 0) (by decide +kernel) rfl ?_
  refine x_cl (As := []) (st := []) (k := 24) (a := 1) (w := 2) (p := 4) (d' := d + 2) (by decide +kernel) kl24 ⟨bs, hs0⟩ rfl (Nat.le_of_ble_eq_true rfl) mx24 (Nat.le_refl _) ?_
  refine sp_isLatin1 hs0 ?_
  refine x_zeq (x := 1) (st := []) (o := 12) (p := 7) (t := 16) (by decide +kernel) (by decide) (fun h => absurd h (by decide)) (fun h => ?_)
  refine x_aldn (k := 0) (x := b) (p := 8) (t := 7) (by decide +kernel) rfl ?_
  refine wp_gk (k := 0) (p := 11) (v := jR c) (by decide +kernel) hb h1 rfl ?_
  refine x_ildn (k := 1) (x := i) (p := 12) (t := 11) (by decide +kernel) rfl ?_
  refine x_cs (As := [jR c, jI i]) (st := []) (k := 25) (a := 2) (w := 0) (p := 15) (d' := d + 2) (by decide +kernel) (by decide) rfl (Nat.le_of_ble_eq_true rfl) mx25 (Nat.le_refl _) ?_
  refine wc_of ?_
  refine x_ildn (k := 1) (x := i) (p := 1) (t := 0) (by decide +kernel) rfl ?_
  refine x_aldn (k := 0) (x := c) (p := 2) (t := 1) (by decide +kernel) rfl ?_
  refine x_lenk (p := 3) (t := 2) (by decide +kernel) hc h2 ?_
  refine x_cs (As := [jI i, jI bs.length]) (st := []) (k := 26) (a := 2) (w := 0) (p := 6) (d' := d + 1) (by decide +kernel) (by decide) rfl (Nat.le_of_ble_eq_true rfl) mx26 (Nat.le_refl _) ?_
  refine sp_check26 hi (by omega) ?_
  refine x_aldn (k := 0) (x := c) (st := []) (p := 7) (t := 6) (by decide +kernel) rfl ?_
  refine x_ildn (k := 1) (x := i) (p := 8) (t := 7) (by decide +kernel) rfl ?_
  refine x_baldk (p := 9) (t := 8) (by decide +kernel) hc h2 hi (by omega) ?_
  have hx : 0 ≤ (bs.getD i.toNat 0).toInt ∧ (bs.getD i.toNat 0).toInt < 128 := by
    have hl : i.toNat < bs.length := by omega
    rw [List.getD_eq_getElem?_getD, List.getElem?_eq_getElem hl]
    exact hbs _ (List.getElem_mem hl)
  refine x_ci (n := 255) (p := 12) (by decide +kernel) ?_
  refine x_iand (p := 13) (t := 12) (by decide +kernel) ?_
  refine x_i2c (p := 14) (t := 13) (by decide +kernel) ?_
  rw [fx_and255 hx, show (bs.getD i.toNat 0).toInt % 65536 = (bs.getD i.toNat 0).toInt by omega]
  have hnar : narrow .char (.int (Int32.ofInt (bs.getD i.toNat 0).toInt)) = .int (Int32.ofInt (bs.getD i.toNat 0).toInt) := by
    have := fx_narc (v := (bs.getD i.toNat 0).toInt) (by omega)
    show Value.int _ = Value.int _
    exact congrArg Value.int this
  refine x_nrt (p := 15) (t := 14) (ty := .char) (by decide +kernel) (by decide +kernel) hnar ?_
  exact x_nrt (l := _) (p := 16) (t := 15) (ty := .char) (by decide +kernel) (by decide +kernel) hnar K
end FXS
/-! reads behind writes -/
theorem fx_upS {M : fx_M} {a : Nat} {k v : Int} : fx_up M a k v a k = v := if_pos ⟨rfl, rfl⟩
theorem fx_upA {M : fx_M} {a b : Nat} {k j v : Int} (h : b ≠ a) : fx_up M a k v b j = M b j := if_neg (fun e => h e.1)
theorem fx_upK {M : fx_M} {a b : Nat} {k j v : Int} (h : j ≠ k) : fx_up M a k v b j = M b j := if_neg (fun e => h e.2)
theorem wp_vI {kc : List va_E} {d m pc : Nat} {l : fx_L} {st : List fx_V} {M : fx_M} {Q : Option fx_V → fx_M → Prop} {x y : Int} (h : x = y) (K : wp kc d m pc l (jI y :: st) M Q) : wp kc d m pc l (jI x :: st) M Q := h ▸ K
theorem wp_vL {kc : List va_E} {d m pc : Nat} {l : fx_L} {st : List fx_V} {M : fx_M} {Q : Option fx_V → fx_M → Prop} {x y : Int} (h : x = y) (K : wp kc d m pc l (jL y :: st) M Q) : wp kc d m pc l (jL x :: st) M Q := h ▸ K
theorem wp_vR {kc : List va_E} {d m pc : Nat} {l : fx_L} {st : List fx_V} {M : fx_M} {Q : Option fx_V → fx_M → Prop} {x y : Int} (h : x = y) (K : wp kc d m pc l (jR y.toNat :: st) M Q) : wp kc d m pc l (jR x.toNat :: st) M Q := h ▸ K
/-! a switch by pairs -/
def fx_lss : List (Int × Nat) → (Nat → Prop) → Int → Prop → Prop
  | [], _, _, E => E
  | q :: r, P, x, E => (x = q.1 → P q.2) ∧ fx_lss r P x E
def fx_lsd : List (Int × Nat) → Int → Prop → Prop
  | [], _, D => D
  | q :: r, x, D => x ≠ q.1 → fx_lsd r x D
theorem fx_lss_all : ∀ {ps : List (Int × Nat)} {P : Nat → Prop} {x : Int} {E : Prop}, fx_lss ps P x E → (∀ q ∈ ps, x = q.1 → P q.2) ∧ E
  | [], _, _, _, h => ⟨fun _ hq => by simp at hq, h⟩
  | q :: r, P, x, E, h => by
    obtain ⟨h1, h2⟩ := fx_lss_all (ps := r) h.2
    refine ⟨fun z hz => ?_, h2⟩
    rcases List.mem_cons.mp hz with e | e
    · subst e
      exact h.1
    · exact h1 z e
theorem fx_lsd_all : ∀ {ps : List (Int × Nat)} {x : Int} {D : Prop}, fx_lsd ps x D → (∀ q ∈ ps, x ≠ q.1) → D
  | [], _, _, h, _ => h
  | q :: r, x, D, h, hn => fx_lsd_all (ps := r) (h (hn q List.mem_cons_self)) (fun z hz => hn z (List.mem_cons_of_mem _ hz))
theorem fx_off_all : ∀ (l : List (Int × Int)) (dflt x : Int), (∃ q ∈ l, x = q.1 ∧ Op.lookupswitch.offset l dflt x = q.2) ∨ ((∀ q ∈ l, x ≠ q.1) ∧ Op.lookupswitch.offset l dflt x = dflt)
  | [], _, _ => Or.inr ⟨fun _ h => by simp at h, rfl⟩
  | q :: r, dflt, x => by
    by_cases e : q.1 = x
    · refine Or.inl ⟨q, List.mem_cons_self, e.symm, ?_⟩
      show (if q.1 = x then q.2 else _) = _
      rw [if_pos e]
    · have h0 : Op.lookupswitch.offset (q :: r) dflt x = Op.lookupswitch.offset r dflt x := by
        show (if q.1 = x then q.2 else _) = _
        rw [if_neg e]
      rw [h0]
      rcases fx_off_all r dflt x with ⟨z, hz, h1, h2⟩ | ⟨h1, h2⟩
      · exact Or.inl ⟨z, List.mem_cons_of_mem _ hz, h1, h2⟩
      · refine Or.inr ⟨fun z hz => ?_, h2⟩
        rcases List.mem_cons.mp hz with e' | e'
        · subst e'
          exact fun h => e h.symm
        · exact h1 z e'
noncomputable def fx_ls (m pc : Nat) : Option (List (Int × Nat) × Nat) := match xI m pc with
  | some (.lookupswitch dflt ps) => if 0 ≤ (pc : Int) + dflt ∧ (ps.toList.all fun q => decide (0 ≤ (pc : Int) + q.2)) = true ∧ (ps.toList.zip (ps.toList.drop 1)).all (fun (a, next) => a.1 < next.1) = true then some (ps.toList.map fun q => (q.1, ((pc : Int) + q.2).toNat), ((pc : Int) + dflt).toNat) else none
  | _ => none
theorem x_lsw {kc : List va_E} {d m pc : Nat} {l : fx_L} {st : List fx_V} {M : fx_M} {Q : Option fx_V → fx_M → Prop} {x : Int} {ps : List (Int × Nat)} {dt : Nat} (h : fx_ls m pc = some (ps, dt)) (hx : fx_in32 x) (K : fx_lss ps (fun q => wp kc d m q l st M Q) x (fx_lsd ps x (wp kc d m dt l st M Q))) : wp kc d m pc l (jI x :: st) M Q := by
  unfold fx_ls at h
  split at h
  · next dflt ps' hI =>
    split at h
    · next hc =>
      obtain ⟨h0, h1, h2⟩ := hc
      cases h
      obtain ⟨K1, K2⟩ := fx_lss_all K
      have key : 0 ≤ (pc : Int) + Op.lookupswitch.offset ps'.toList dflt x ∧ wp kc d m ((pc : Int) + Op.lookupswitch.offset ps'.toList dflt x).toNat l st M Q := by
        rcases fx_off_all ps'.toList dflt x with ⟨z, hz, e1, e2⟩ | ⟨e1, e2⟩
        · rw [e2]
          refine ⟨of_decide_eq_true (List.all_eq_true.mp h1 z hz), ?_⟩
          exact K1 (z.1, ((pc : Int) + z.2).toNat) (List.mem_map_of_mem hz) e1
        · rw [e2]
          refine ⟨h0, fx_lsd_all K2 fun q hq => ?_⟩
          obtain ⟨z, hz, rfl⟩ := List.mem_map.mp hq
          exact e1 z hz
      refine wp_sm hI rfl rfl (fun L hL => ?_) key.2
      show lx_lsw pc dflt ps' L (Value.int (Int32.ofInt x) :: st.map fx_tv) _ = _
      unfold lx_lsw
      dsimp only
      rw [if_pos h2, fx_to hx]
      unfold lx_jmp
      rw [if_pos key.1]
    · cases h
  · cases h
