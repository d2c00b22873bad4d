/-! Importing a book: what is kept; the class. -/
theorem rfa_str {L : Nat} {xs : Nat → Int32} {a : Nat} {r : Int} (h : rfa a r) (h0 : r ≠ 0) : ∃ bs : List Int32, fx_str (kcs L xs) a bs ∧ bs.map Int32.toInt = t_rf r := by
  rcases h with ⟨h, _⟩ | ⟨h, e⟩ | ⟨h, e⟩ | ⟨h, e⟩ | ⟨h, e⟩ | ⟨h, e⟩
  · exact absurd h h0
  · subst h e
    exact ⟨_, lt_1000011, by decide +kernel⟩
  · subst h e
    exact ⟨_, lt_1000017, by decide +kernel⟩
  · subst h e
    exact ⟨_, lt_1000019, by decide +kernel⟩
  · subst h e
    exact ⟨_, lt_1000021, by decide +kernel⟩
  · subst h e
    exact ⟨_, lt_1000023, by decide +kernel⟩
theorem rText_rf {g : Int → Int} {e p w rf : Int} {Z : PZ} (h : rf ≠ 0) : (rText g e p w rf Z).2.2.1 = rf := by
  unfold rText
  rw [if_neg (fun x => h x.2)]
  exact rTx_rf h
theorem rBk_rf {g : Int → Int} {e : Int} : ∀ {f : Nat} {p w rf : Int} {Z : PZ}, rf ≠ 0 → (rBk g e f p w rf Z).2.2.2.1 = rf
  | 0, _, _, _, _, _ => rfl
  | f + 1, p, w, rf, Z, h => by
    rw [rBk]
    split
    · split
      · dsimp only
        rw [rText_rf h]
        exact rBk_rf h
      · rfl
    · rfl
/-- an entry's name and puzzle -/
def enm (g : Int → Int) (x : BE) : List Int := (List.range x.2.1.toNat).map (fun i : Nat => g (x.1 + (i : Int)))
def ezz (g : Int → Int) (e : Int) (x : BE) : PZ := (rText g e x.2.2 0 0 (z_new 1 1 1)).2.2.2
/-- the first refusal -/
def rfB (g : Int → Int) (e : Int) : List BE → Int
  | [] => 0
  | x :: E => if (rText g e x.2.2 0 0 (z_new 1 1 1)).2.2.1 = 0 then rfB g e E else (rText g e x.2.2 0 0 (z_new 1 1 1)).2.2.1
/-- these entries lie from p on -/
def bkI (g : Int → Int) (e : Int) : List BE → Int → Prop
  | [], _ => True
  | x :: E, p => rT g e 47 p 0 = (x.1, 0) ∧ x.1 < e ∧ isL (g x.1) ∧ rNm g e x.1 0 = (x.2.1, 0) ∧ 1 ≤ x.2.1 ∧ x.2.1 ≤ 8 ∧ x.1 + x.2.1 ≤ e ∧ rT g e 32 (x.1 + x.2.1) 0 = (x.2.2, 0) ∧ x.2.2 ≤ e ∧ 0 ≤ x.2.2 - p ∧ (rText g e x.2.2 0 0 (z_new 1 1 1)).2.1 = 0 ∧ bkI g e E (rText g e x.2.2 0 0 (z_new 1 1 1)).1
theorem rBk_I {g : Int → Int} {e : Int} : ∀ {f : Nat} {p rf : Int} {Z : PZ}, p ≤ e → (rBk g e f p 0 rf Z).2.2.1 = 0 → bkI g e (rBk g e f p 0 rf Z).1 p
  | 0, _, _, _, _, _ => trivial
  | f + 1, p, rf, Z, hp, h => by
    rcases rT_i (g := g) (e := e) (c := 47) (p := p) with ⟨e1, l1, g1⟩ | ⟨e1, no⟩
    · by_cases hl : p + 1 < e ∧ isL (g (p + 1))
      · obtain ⟨n, n1, n2, n3, n4⟩ := rNm_i hl.1 hl.2
        obtain ⟨q, w, hq⟩ : ∃ q w, rT g e 32 (p + 1 + n) 0 = (q, w) := ⟨_, _, rfl⟩
        have tb := rT_b (g := g) (e := e) (c := 32) (p := p + 1 + n) (w := 0) n4
        rw [hq] at tb
        rw [rBk_go e1 hl n1 hq] at h ⊢
        have hx : (rText g e q w rf Z).2.1 = 0 := by
          by_cases hx : (rText g e q w rf Z).2.1 = 0
          · exact hx
          · rw [rBk_w hx] at h
            exact absurd h hx
        have h9 := rText_9 tb.2.1 hx
        have hw := h9.2
        subst hw
        have xb := rText_b (g := g) (e := e) (p := q) (w := 0) (rf := rf) (Z := Z) tb.2.1
        have pw := rText_pw2 (g := g) (e := e) (p := q) (rf := rf) (rf' := 0) (Z := Z) (Z' := z_new 1 1 1)
        rw [hx] at h
        have ih := rBk_I (g := g) (e := e) (f := f) (p := (rText g e q 0 rf Z).1) (rf := (rText g e q 0 rf Z).2.2.1) (Z := (rText g e q 0 rf Z).2.2.2) xb.2.1 h
        rw [hx]
        refine ⟨e1, hl.1, hl.2, n1, n2, n3, n4, hq, tb.2.1, by dsimp only; dsimp only at tb; omega, by rw [← pw.2]; exact hx, ?_⟩
        rw [← pw.1]
        exact ih
      · rw [rBk_no e1 (fun x => hl x.2)]
        trivial
    · rw [rBk_no e1 (fun x => by have := x.1; omega)]
      trivial
theorem rBk_rfB {g : Int → Int} {e : Int} : ∀ {f : Nat} {p : Int} {Z : PZ}, p ≤ e → (rBk g e f p 0 0 Z).2.2.1 = 0 → (rBk g e f p 0 0 Z).2.2.2.1 = rfB g e (rBk g e f p 0 0 Z).1
  | 0, _, _, _, _ => rfl
  | f + 1, p, Z, hp, h => by
    rcases rT_i (g := g) (e := e) (c := 47) (p := p) with ⟨e1, l1, g1⟩ | ⟨e1, no⟩
    · by_cases hl : p + 1 < e ∧ isL (g (p + 1))
      · obtain ⟨n, n1, n2, n3, n4⟩ := rNm_i hl.1 hl.2
        obtain ⟨q, w, hq⟩ : ∃ q w, rT g e 32 (p + 1 + n) 0 = (q, w) := ⟨_, _, rfl⟩
        have tb := rT_b (g := g) (e := e) (c := 32) (p := p + 1 + n) (w := 0) n4
        rw [hq] at tb
        rw [rBk_go e1 hl n1 hq] at h ⊢
        have hx : (rText g e q w 0 Z).2.1 = 0 := by
          by_cases hx : (rText g e q w 0 Z).2.1 = 0
          · exact hx
          · rw [rBk_w hx] at h
            exact absurd h hx
        have hw := (rText_9 tb.2.1 hx).2
        subst hw
        have xb := rText_b (g := g) (e := e) (p := q) (w := 0) (rf := 0) (Z := Z) tb.2.1
        have hZ := (rText_Z (g := g) (e := e) (p := q) (w := 0) (Z := Z) (Y := z_new 1 1 1)).1
        rw [hx] at h ⊢
        dsimp only
        rw [rfB]
        dsimp only
        rw [← hZ]
        by_cases h0 : (rText g e q 0 0 Z).2.2.1 = 0
        · rw [if_pos h0]
          rw [h0] at h ⊢
          exact rBk_rfB xb.2.1 h
        · rw [if_neg h0]
          exact rBk_rf h0
      · rw [rBk_no e1 (fun x => hl x.2)]
        rfl
    · rw [rBk_no e1 (fun x => by have := x.1; omega)]
      rfl
theorem rfB_0 {g : Int → Int} {e : Int} : ∀ {E : List BE}, rfB g e E = 0 → ∀ x ∈ E, (rText g e x.2.2 0 0 (z_new 1 1 1)).2.2.1 = 0
  | [], _, x, hx => by cases hx
  | y :: E, h, x, hx => by
    rw [rfB] at h
    by_cases h0 : (rText g e y.2.2 0 0 (z_new 1 1 1)).2.2.1 = 0
    · rw [if_pos h0] at h
      rcases List.mem_cons.mp hx with e1 | e1
      · rw [e1]
        exact h0
      · exact rfB_0 h x e1
    · rw [if_neg h0] at h
      exact absurd h h0
theorem rL_let {g : Int → Int} {e : Int} : ∀ {k : Nat} {p : Int} {i : Nat}, i < rL g e k p → isL (g (p + i))
  | 0, p, i, h => by
    rw [rL] at h
    omega
  | k + 1, p, i, h => by
    rw [rL] at h
    split at h
    · rename_i hc
      cases i with
      | zero =>
        rw [show p + ((0 : Nat) : Int) = p by omega]
        exact hc.2
      | succ i =>
        have := rL_let (g := g) (e := e) (k := k) (p := p + 1) (i := i) (by omega)
        rw [show p + ((i + 1 : Nat) : Int) = p + 1 + (i : Int) by omega]
        exact this
    · omega
theorem enm_ok {g : Int → Int} {e : Int} {x : BE} (h : rNm g e x.1 0 = (x.2.1, 0)) (h1 : 1 ≤ x.2.1 ∧ x.2.1 ≤ 8) : (enm g x).length = x.2.1.toNat ∧ ∀ c ∈ enm g x, 97 ≤ c ∧ c ≤ 122 := by
  unfold enm
  refine ⟨by rw [List.length_map, List.length_range], fun c hc => ?_⟩
  obtain ⟨i, i1, i2⟩ := List.mem_map.mp hc
  have hi := List.mem_range.mp i1
  unfold rNm at h
  rw [if_pos rfl] at h
  have h2 := congrArg Prod.fst h
  dsimp only at h2
  have := rL_let (g := g) (e := e) (k := 8) (p := x.1) (i := i) (by omega)
  rw [← i2]
  exact this
/-- keeping one entry: no room, what is written -/
def kpF (b : Int → Int) (nm : List Int) (Z : PZ) : Prop := 15 ≤ b (bRt b) - (if bFd b nm (b (bRt b)).toNat 0 < 0 then (0 : Int) else 1) ∨ bRoo b (ned nm (tText Z)) 30 3 < 0
def kpD (b : Int → Int) (nm : List Int) (Z : PZ) : List (Int × Int) := keD b (bFd b nm (b (bRt b)).toNat 0) (bRoo b (ned nm (tText Z)) 30 3) nm (tText Z)
/-- keeping one after the other: book, log, all kept -/
noncomputable def impB : (Int → Int) → List (Int × Int) → List (List Int × PZ) → (Int → Int) × List (Int × Int) × Bool
  | b, W, [] => (b, W, true)
  | b, W, x :: l => @ite _ (kpF b x.1 x.2) (Classical.propDecidable _) (b, W, false) (impB (bCut b (kpD b x.1 x.2)) (wLog b (kpD b x.1 x.2)) l)
theorem kp_ok {b : Int → Int} {nm : List Int} {Z : PZ} (hM : bMd b) (hb : bk_b b) (hz : pz_ok Z) (hn1 : 1 ≤ nm.length) (hn8 : nm.length ≤ 8) (hna : ∀ x ∈ nm, 97 ≤ x ∧ x ≤ 122) (hk : ¬ kpF b nm Z) : bMd (bCut b (kpD b nm Z)) ∧ bk_b (bCut b (kpD b nm Z)) ∧ lg_ok (wLog b (kpD b nm Z)) := by
  have hrb := bRt_b (g := b)
  have h0 := hb (bRt b) (by omega) (by omega)
  have h15 := hM.2.1
  have hf := bFd_b (g := b) (nm := nm) (u := (b (bRt b)).toNat) (i := 0)
  have hT := tText_b hz
  unfold kpF at hk
  have hlt : b (bRt b) - (if bFd b nm (b (bRt b)).toNat 0 < 0 then (0 : Int) else 1) < 15 := by
    have := fun h => hk (Or.inl h)
    omega
  have hc : 0 ≤ bRoo b (ned nm (tText Z)) 30 3 := by
    have := fun h => hk (Or.inr h)
    omega
  have hri := bRoo_in (g := b) (m := ned nm (tText Z)) (u := 30) (p := 3)
  have m1 := bMd_ke hM hb hz hn1 hn8 hna (o := bFd b nm (b (bRt b)).toNat 0) ⟨by omega, by omega⟩ hlt hc
  have hned : ned nm (tText Z) = (nm.length + 3 + (tText Z).length + 31) / 32 := rfl
  have hEl := eB_len (nm := nm) (T := tText Z)
  have hEv := eB_v (nm := nm) (T := tText Z) hn8 (fun c hc => by have := hna c hc; omega) (by omega) hT.2
  unfold kpD
  generalize bFd b nm (b (bRt b)).toNat 0 = o at hf hlt m1 ⊢
  generalize bRoo b (ned nm (tText Z)) 30 3 = c at hc hri m1 ⊢
  have hne1 : 1 ≤ ned nm (tText Z) := by
    rw [hned]
    omega
  have ha : aft (b (bRt b)) o (ned nm (tText Z) : Nat) ≤ 15 := by
    unfold aft
    rw [if_pos (show (0 : Int) < ((ned nm (tText Z) : Nat) : Int) by omega)]
    omega
  have hL : lgv (keD b o c nm (tText Z)) := fun x hx => by
    unfold keD at hx
    rcases List.mem_append.mp hx with e | e
    · have h1 := plc_in e
      have h2 := hEv _ h1.2.2
      omega
    · exact rtD_ok hb h15 ⟨by omega, by omega⟩ ⟨by omega, by omega⟩ ⟨by omega, by omega⟩ ha x e
  have h32 := rtB_len (prs_30 h0.1 ⟨by omega, by omega⟩ ha c)
  refine ⟨m1, bCut_b hb (fun x hx => (hL x hx).2.2), wLog_ok hb hL ?_⟩
  unfold keD rtD
  rw [List.length_append, plc_len, List.length_append, plc_len, h32, List.length_singleton, hEl]
  omega
theorem otx_app {M : fx_M} {T : List Int} (h : M 5 1 = 0) (hl : T.length ≤ 512) (hv : ∀ v ∈ T, 0 ≤ v ∧ v ≤ 255) : otx (o_app M 5 T) T := by
  have gen : ∀ (cs : List Int) (N : fx_M), N 5 1 + cs.length ≤ 512 → (∀ j, j < N 5 1 → o_app N 5 cs 6 j = N 6 j) ∧ ∀ (i : Nat) (v : Int), cs[i]? = some v → o_app N 5 cs 6 (N 5 1 + i) = v := by
    intro cs
    induction cs with
    | nil => exact fun N _ => ⟨fun _ _ => rfl, fun i v hv => by cases hv⟩
    | cons c cs ih =>
      intro N hN
      rw [List.length_cons] at hN
      have e1 : o_put N 5 c = fx_up (fx_up N (5 + 1) (N 5 1) c) 5 1 (N 5 1 + 1) := by
        unfold o_put
        rw [if_pos (by rw [fx_ol5]; omega)]
      have e2 : o_put N 5 c 5 1 = N 5 1 + 1 := by rw [e1, fx_up_self]
      have h2 := ih (o_put N 5 c) (by rw [e2]; omega)
      rw [e2] at h2
      have e3 : ∀ j, j ≠ N 5 1 → o_put N 5 c 6 j = N 6 j := fun j hj => by rw [e1, fx_up_na (by decide), fx_up_nk hj]
      refine ⟨fun j hj => ?_, fun i v hv => ?_⟩
      · show o_app (o_put N 5 c) 5 cs 6 j = N 6 j
        rw [h2.1 j (by omega), e3 j (by omega)]
      · show o_app (o_put N 5 c) 5 cs 6 (N 5 1 + i) = v
        cases i with
        | zero =>
          cases hv
          rw [show N 5 1 + ((0 : Nat) : Int) = N 5 1 by omega, h2.1 _ (by omega), e1, fx_up_na (by decide), fx_up_self]
        | succ i =>
          rw [List.getElem?_cons_succ] at hv
          have := h2.2 i v hv
          rw [show N 5 1 + ((i + 1 : Nat) : Int) = N 5 1 + 1 + (i : Int) by omega]
          exact this
  refine ⟨?_, hl, hv, fun i v hv => ?_⟩
  · rw [o_app_len (by rw [h, fx_ol5]; omega), h]
    omega
  · have := (gen T M (by omega)).2 i v hv
    rw [h, show (0 : Int) + (i : Int) = (i : Int) by omega] at this
    exact this
