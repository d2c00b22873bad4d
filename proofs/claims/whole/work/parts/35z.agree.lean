/-! REQUESTS: what is read depends on the bytes of the request alone. -/
def agr (g h : Int → Int) (e : Int) : Prop := ∀ j, 0 ≤ j → j < e → g j = h j
section AGR
variable {g h : Int → Int} {e : Int}
theorem ag_s (H : agr g h e) : sftd g h 0 e := fun j j0 j1 => by
  rw [Int.zero_add]
  exact H j j0 j1
theorem ag_T (H : agr g h e) {c p w : Int} (hp : 0 ≤ p) : rT g e c p w = rT h e c p w := by
  have := sh_T (ag_s H) (c := c) (p := p) (w := w) hp
  simp only [Int.zero_add] at this
  exact this
theorem ag_N (H : agr g h e) {m : Nat} {p w : Int} (hp : 0 ≤ p) : rN g e m p w = rN h e m p w := by
  have := sh_N (ag_s H) (m := m) (p := p) (w := w) hp
  simp only [Int.zero_add] at this
  exact this
theorem ag_C (H : agr g h e) {bs : List Int32} {p w : Int} (hp : 0 ≤ p) : rC g e bs p w = rC h e bs p w := by
  have := sh_C (ag_s H) (bs := bs) (p := p) (w := w) hp
  simp only [Int.zero_add] at this
  exact this
theorem ag_BN (H : agr g h e) {m : Nat} {p w : Int} (hp : 0 ≤ p) (hpe : p ≤ e) : rBN g e m p w = rBN h e m p w := by
  have := sh_BN (ag_s H) (m := m) (p := p) (w := w) hp hpe
  simp only [Int.zero_add] at this
  exact this
theorem ag_K (H : agr g h e) {bs : List Int32} {p w : Int} (hp : 0 ≤ p) (hpe : p ≤ e) : rK g e bs p w = rK h e bs p w := by
  have := sh_K (ag_s H) (bs := bs) (p := p) (w := w) hp hpe
  simp only [Int.zero_add] at this
  exact this
theorem ag_Sd (H : agr g h e) {p w : Int} (hp : 0 ≤ p) (hpe : p ≤ e) : rSd g e p w = rSd h e p w := by
  have := sh_Sd (ag_s H) (p := p) (w := w) hp hpe
  simp only [Int.zero_add] at this
  exact this
theorem ag_Text (H : agr g h e) {p w rf : Int} {Z : PZ} (hp : 0 ≤ p) (hpe : p ≤ e) : rText g e p w rf Z = rText h e p w rf Z := by
  have := sh_Text (ag_s H) (p := p) (w := w) (rf := rf) (Z := Z) hp hpe
  simp only [Int.zero_add] at this
  exact this
theorem ag_R (H : agr g h e) {f : Nat} {b : Bool} {p w : Int} (hp : 0 ≤ p) (hpe : p ≤ e) : rR g e f b p w = rR h e f b p w := by
  have := sh_R (ag_s H) f b p w hp hpe
  simp only [Int.zero_add] at this
  exact this
theorem ag_chs (H : agr g h e) {bs : List Int32} {p : Int} (hp : 0 ≤ p) : chs g e p bs = chs h e p bs := by
  have := sh_chl (ag_s H) hp (bs.map Int32.toInt) (-1) 0 0 0 0 0 (by omega)
  simp only [Int.zero_add] at this
  exact this
theorem ag_BS (H : agr g h e) {p w : Int} (hp : 0 ≤ p) (hpe : p ≤ e) : rBS g e p w = rBS h e p w := by
  have tb := rT_b (g := h) (e := e) (c := 32) (p := p) (w := w) hpe
  unfold rBS
  rw [ag_T H hp, ag_N H (p := (rT h e 32 p w).1) (by omega)]
  by_cases hx : (rT h e 32 p w).1 < e
  · rw [H _ (by omega) hx]
  · rw [if_neg (fun y => hx y.2.1), if_neg (fun y => hx y.2.1)]
theorem ag_L (H : agr g h e) : ∀ (k : Nat) (p : Int), 0 ≤ p → rL g e k p = rL h e k p
  | 0, _, _ => rfl
  | k + 1, p, hp => by
    rw [rL, rL, ag_L H k (p + 1) (by omega)]
    by_cases hx : p < e
    · rw [H p hp hx]
    · rw [if_neg (fun y => hx y.1), if_neg (fun y => hx y.1)]
theorem ag_Ds (H : agr g h e) : ∀ (k : Nat) (p : Int), 0 ≤ p → rDs g e k p = rDs h e k p
  | 0, _, _ => rfl
  | k + 1, p, hp => by
    rw [rDs, rDs, ag_Ds H k (p + 1) (by omega)]
    by_cases hx : p < e
    · rw [H p hp hx]
    · rw [if_neg (fun y => hx y.1), if_neg (fun y => hx y.1)]
theorem ag_Nm (H : agr g h e) {p w : Int} (hp : 0 ≤ p) : rNm g e p w = rNm h e p w := by
  unfold rNm
  rw [ag_L H 8 p hp]
theorem ag_Dg (H : agr g h e) {p w : Int} (hp : 0 ≤ p) : rDg g e p w = rDg h e p w := by
  unfold rDg
  rw [ag_Ds H _ p hp]
theorem ag_BM (H : agr g h e) {p w : Int} (hp : 0 ≤ p) (hpe : p ≤ e) : rBM g e p w = rBM h e p w := by
  have tb := rT_b (g := h) (e := e) (c := 32) (p := p) (w := w) hpe
  unfold rBM
  rw [ag_T H hp, ag_Nm H (p := (rT h e 32 p w).1) (by omega)]
theorem ag_BD (H : agr g h e) {p w : Int} (hp : 0 ≤ p) (hpe : p ≤ e) : rBD g e p w = rBD h e p w := by
  have tb := rT_b (g := h) (e := e) (c := 32) (p := p) (w := w) hpe
  unfold rBD
  rw [ag_T H hp, ag_Dg H (p := (rT h e 32 p w).1) (by omega)]
theorem ag_La (H : agr g h e) {p w : Int} (hp : 0 ≤ p) (hpe : p ≤ e) : rLa g e p w = rLa h e p w := by
  have tb := rT_b (g := h) (e := e) (c := 32) (p := p) (w := w) hpe
  unfold rLa
  rw [ag_T H hp, ag_C H (p := (rT h e 32 p w).1) (by omega)]
theorem ag_Lt (H : agr g h e) {p w : Int} (hp : 0 ≤ p) (hpe : p ≤ e) : rLt g e p w = rLt h e p w := by
  have a := rLa_b (g := h) (w := w) hpe
  have b : (rLa h e p w).2.1 ≤ (rLb h e p w).2.1 ∧ (rLb h e p w).2.1 ≤ e := by
    have := rN_b (g := h) (e := e) (m := 3) (p := (rLa h e p w).2.1) (w := (rLa h e p w).2.2) (by omega) a.2.2.2.1
    exact ⟨this.1, this.2.1⟩
  have c : (rLb h e p w).2.1 ≤ (rLc h e p w).1 ∧ (rLc h e p w).1 ≤ e := by
    have := rT_b (g := h) (e := e) (c := 46) (p := (rLb h e p w).2.1) (w := (rLb h e p w).2.2) b.2
    exact ⟨this.1, this.2.1⟩
  have e1 := ag_La H (w := w) hp hpe
  have e2 : rLb g e p w = rLb h e p w := by
    unfold rLb
    rw [e1, ag_N H (p := (rLa h e p w).2.1) (by omega)]
  have e3 : rLc g e p w = rLc h e p w := by
    unfold rLc
    rw [e2, ag_T H (p := (rLb h e p w).2.1) (by omega)]
  have e4 : rLd g e p w = rLd h e p w := by
    unfold rLd
    rw [e3, ag_N H (p := (rLc h e p w).1) (by omega)]
  unfold rLt
  rw [e1, e2, e4]
theorem ag_Ls (H : agr g h e) : ∀ (f : Nat) (p w : Int), 0 ≤ p → p ≤ e → rLs g e f p w = rLs h e f p w
  | 0, _, _, _, _ => rfl
  | f + 1, p, w, hp, hpe => by
    have tb := rLt_b (g := h) (w := w) hpe
    rw [rLs, rLs, ag_Lt H hp hpe, ag_Ls H f (rLt h e p w).2.1 (rLt h e p w).2.2 (by omega) tb.2.1]
    by_cases hx : p < e
    · rw [H p hp hx]
    · rw [if_neg (fun y => hx y.2.1), if_neg (fun y => hx y.2.1)]
theorem ag_Ln (H : agr g h e) {p w : Int} (hp : 0 ≤ p) (hpe : p ≤ e) : rLn g e p w = rLn h e p w := by
  have a := rKa_b (g := h) (w := w) hpe
  have b := rKb_b (g := h) (w := w) hpe
  have c := rKc_b (g := h) (w := w) hpe
  have d := rKd_b (g := h) (w := w) hpe
  have e1 : rKa g e p w = rKa h e p w := ag_C H hp
  have e2 : rKb g e p w = rKb h e p w := by
    unfold rKb
    rw [e1, ag_N H (p := (rKa h e p w).2.1) (by omega)]
  have e3 : rKc g e p w = rKc h e p w := by
    unfold rKc
    rw [e1, e2, ag_BN H (p := (rKb h e p w).2.1) (by omega) (by omega)]
  have e4 : rKd g e p w = rKd h e p w := by
    unfold rKd
    rw [e3, ag_Ls H _ (rKc h e p w).2.1 (rKc h e p w).2.2 (by omega) (by omega)]
  unfold rLn
  rw [e1, e2, e3, e4, ag_T H (p := (rKd h e p w).2.1) (by omega)]
theorem ag_Pf (H : agr g h e) : ∀ (f : Nat) (p : Int), 0 ≤ p → p ≤ e → rPf g e f p = rPf h e f p
  | 0, _, _, _ => rfl
  | f + 1, p, hp, hpe => by
    have tb := rLn_b (g := h) (w := 0) hpe
    rw [rPf, rPf, ag_Ln H hp hpe, ag_Pf H f (rLn h e p 0).2.1 (by omega) tb.2.1]
theorem ag_Bs (H : agr g h e) {p w : Int} (hp : 0 ≤ p) (hpe : p ≤ e) : rBs g e p w = rBs h e p w := by
  have tb := rC_b (g := h) (e := e) (bs := bsB) (p := p) (w := w) hpe
  unfold rBs
  rw [ag_C H hp, ag_BN H (p := (rC h e bsB p w).2.1) (by omega) (by omega)]
theorem ag_Bk (H : agr g h e) : ∀ (f : Nat) (p w rf : Int) (Z : PZ), 0 ≤ p → p ≤ e → rBk g e f p w rf Z = rBk h e f p w rf Z
  | 0, _, _, _, _, _, _ => rfl
  | f + 1, p, w, rf, Z, hp, hpe => by
    by_cases hw : w = 0
    · subst hw
      have aT := ag_T H (c := 47) (w := 0) hp
      rcases rT_i (g := h) (e := e) (c := 47) (p := p) with ⟨e1, l1, g1⟩ | ⟨e1, no⟩
      · by_cases hl : p + 1 < e ∧ isL (h (p + 1))
        · have hl' : p + 1 < e ∧ isL (g (p + 1)) := ⟨hl.1, by rw [H (p + 1) (by omega) hl.1]; exact hl.2⟩
          obtain ⟨n, n1, n2, n3, n4⟩ := rNm_i hl.1 hl.2
          obtain ⟨q, w, hq⟩ : ∃ q w, rT h e 32 (p + 1 + n) 0 = (q, w) := ⟨_, _, rfl⟩
          have tb := rT_b (g := h) (e := e) (c := 32) (p := p + 1 + n) (w := 0) n4
          rw [hq] at tb
          have tb1 := tb.1
          dsimp only at tb1
          have xb := rText_b (g := h) (e := e) (p := q) (w := w) (rf := rf) (Z := Z) tb.2.1
          have n1' : rNm g e (p + 1) 0 = (n, 0) := by rw [ag_Nm H (by omega)]; exact n1
          have hq' : rT g e 32 (p + 1 + n) 0 = (q, w) := by rw [ag_T H (by omega)]; exact hq
          rw [rBk_go e1 hl n1 hq, rBk_go (aT.trans e1) hl' n1' hq', ag_Text H (p := q) (by omega) tb.2.1, ag_Bk H f _ _ _ _ (by omega) xb.2.1]
        · have hl' : ¬ (p + 1 < e ∧ isL (g (p + 1))) := fun x => hl ⟨x.1, by rw [← H (p + 1) (by omega) x.1]; exact x.2⟩
          rw [rBk_no e1 (fun x => hl x.2), rBk_no (aT.trans e1) (fun x => hl' x.2)]
      · rw [rBk_no e1 (fun x => by have := x.1; omega), rBk_no (aT.trans e1) (fun x => by have := x.1; omega)]
    · rw [rBk_w hw, rBk_w hw]
theorem ag_Bo (H : agr g h e) {p w : Int} {Z : PZ} (hp : 0 ≤ p) (hpe : p ≤ e) : rBo g e p w Z = rBo h e p w Z := by
  have sb := rBs_b (g := h) (w := w) hpe
  have e1 : rBo g e p w Z = rBk g e ((e - (rBs g e p w).2.1).toNat + 1) (rBs g e p w).2.1 (rBs g e p w).2.2 0 Z := rfl
  have e2 : rBo h e p w Z = rBk h e ((e - (rBs h e p w).2.1).toNat + 1) (rBs h e p w).2.1 (rBs h e p w).2.2 0 Z := rfl
  rw [e1, e2, ag_Bs H hp hpe, ag_Bk H _ _ _ _ _ (by omega) sb.2.1]
theorem ag_map (H : agr g h e) {a : Int} {n : Nat} {F : Int → Int} (ha : 0 ≤ a) (hn : a + (n : Int) ≤ e) : (List.range n).map (fun i : Nat => F (g (a + (i : Int)))) = (List.range n).map (fun i : Nat => F (h (a + (i : Int)))) := by
  refine List.map_congr_left (fun i hi => ?_)
  have := List.mem_range.mp hi
  rw [H (a + (i : Int)) (by omega) (by omega)]
theorem ag_nmO (H : agr g h e) {a l : Int} (ha : 0 ≤ a) (hl : a + l ≤ e) (hl0 : 0 ≤ l) : nmO g a l = nmO h a l := ag_map (F := fun x => x) H ha (by omega)
theorem ag_dgO (H : agr g h e) {a l : Int} (ha : 0 ≤ a) (hl : a + l ≤ e) (hl0 : 0 ≤ l) : dgO g a l = dgO h a l := ag_map (F := fun x => x - 48) H ha (by omega)
/-- what lies behind an entry's name and text -/
theorem ag_E (H : agr g h e) : ∀ (E : List BE) (p : Int), 0 ≤ p → bkI h e E p → rfB g e E = rfB h e E ∧ eL2 g e E = eL2 h e E
  | [], _, _, _ => ⟨rfl, rfl⟩
  | x :: E, p, hp, hI => by
    obtain ⟨h1, h2, h3, h4, h5, h6, h7, h8, h9, h10, h11, h12⟩ := hI
    have xb := rText_b (g := h) (e := e) (p := x.2.2) (w := 0) (rf := 0) (Z := z_new 1 1 1) h9
    have t1 := rT_b (g := h) (e := e) (c := 47) (p := p) (w := 0) (by
      rcases rT_i (g := h) (e := e) (c := 47) (p := p) with ⟨_, y, _⟩ | ⟨y, _⟩
      · omega
      · rw [y] at h1
        have := (Prod.mk.inj h1).2
        omega)
    rw [h1] at t1
    have t11 := t1.1
    dsimp only at t11
    have eT : rText g e x.2.2 0 0 (z_new 1 1 1) = rText h e x.2.2 0 0 (z_new 1 1 1) := ag_Text H (by omega) h9
    have en : enm g x = enm h x := ag_map (F := fun y => y) H (by omega) (by omega)
    obtain ⟨i1, i2⟩ := ag_E H E _ (by omega) h12
    constructor
    · rw [rfB, rfB, eT, i1]
    · have c1 : eL2 g e (x :: E) = (enm g x, ezz g e x) :: eL2 g e E := rfl
      have c2 : eL2 h e (x :: E) = (enm h x, ezz h e x) :: eL2 h e E := rfl
      have c3 : ezz g e x = ezz h e x := by
        unfold ezz
        rw [eT]
      rw [c1, c2, en, c3, i2]
end AGR
section AGQ
variable {g h : Int → Int} {n p : Int} {S : HS}

theorem ag_Ru (H : agr g h n) (hp : 0 ≤ p) (hpe : p ≤ n) : rRu g n p 0 = rRu h n p 0 := by
  have kb := rK_b (g := h) (e := n) (bs := bsK) (p := p) (w := 0) hpe
  unfold rRu
  rw [ag_K H hp hpe, ag_R H (by omega) (by omega)]
theorem ag_Ea (H : agr g h n) (hp : 0 ≤ p) (hpe : p ≤ n) : rEa g n p = rEa h n p := by
  have tb := rT_b (g := h) (e := n) (c := 32) (p := p) (w := 0) hpe
  have kb := rC_b (g := h) (e := n) (bs := bsS) (p := (rT h n 32 p 0).1) (w := (rT h n 32 p 0).2) tb.2.1
  have e1 : rC h n bsS (rT h n 32 p 0).1 (rT h n 32 p 0).2 = rSd h n p 0 := rfl
  rw [e1] at kb
  unfold rEa
  rw [ag_Sd H hp hpe, ag_K H (by omega) (by omega)]
theorem ag_Cs (H : agr g h n) (hp : 0 ≤ p) (hpe : p ≤ n) : rCs g n p = rCs h n p := by
  have kb := rBN_b (g := h) (e := n) (m := 3) (p := p) (w := 0) (by omega) hpe
  unfold rCs
  rw [ag_BN H hp hpe, ag_BS H (by omega) (by omega)]
theorem ag_Cd (H : agr g h n) (hp : 0 ≤ p) (hpe : p ≤ n) : rCd g n p = rCd h n p := by
  have kb := rBN_b (g := h) (e := n) (m := 3) (p := p) (w := 0) (by omega) hpe
  unfold rCd
  rw [ag_BN H hp hpe, ag_BN H (p := (rBN h n 3 p 0).2.1) (by omega) (by omega)]
theorem ag_new (H : agr g h n) (hp : 0 ≤ p) (hpe : p ≤ n) : rq_new g n p S = rq_new h n p S := by
  have b1 := rBN_b (g := h) (e := n) (m := 1) (p := p) (w := 0) (by omega) hpe
  have e1 : rZ1 g n p 0 = rZ1 h n p 0 := ag_BN H hp hpe
  have f1 : rBN h n 1 p 0 = rZ1 h n p 0 := rfl
  rw [f1] at b1
  have b2 := rBN_b (g := h) (e := n) (m := 1) (p := (rZ1 h n p 0).2.1) (w := (rZ1 h n p 0).2.2) (by omega) b1.2.1
  have e2 : rZ2 g n p 0 = rZ2 h n p 0 := by
    unfold rZ2
    rw [e1, ag_BN H (by omega) b1.2.1]
  have f2 : rBN h n 1 (rZ1 h n p 0).2.1 (rZ1 h n p 0).2.2 = rZ2 h n p 0 := rfl
  rw [f2] at b2
  have e3 : rZ3 g n p 0 = rZ3 h n p 0 := by
    unfold rZ3
    rw [e2, ag_BN H (by omega) b2.2.1]
  unfold rq_new
  rw [e1, e2, e3]
theorem ag_rule (H : agr g h n) (hp : 0 ≤ p) (hpe : p ≤ n) : rq_rule g n p S = rq_rule h n p S := by
  unfold rq_rule
  rw [ag_Ru H hp hpe, ag_K H hp hpe]
theorem ag_each (H : agr g h n) (hp : 0 ≤ p) (hpe : p ≤ n) : rq_each g n p S = rq_each h n p S := by
  unfold rq_each
  rw [ag_Ea H hp hpe, ag_Sd H hp hpe]
theorem ag_give (H : agr g h n) (hp : 0 ≤ p) (hpe : p ≤ n) : rq_give g n p S = rq_give h n p S := by
  unfold rq_give
  rw [ag_Cs H hp hpe, ag_BN H hp hpe]
theorem ag_load (H : agr g h n) (hp : 0 ≤ p) (hpe : p ≤ n) : rq_load g n p S = rq_load h n p S := by
  have tb := rT_b (g := h) (e := n) (c := 32) (p := p) (w := 0) hpe
  have e1 : rLo g n p (z_new 1 1 1) = rLo h n p (z_new 1 1 1) := by
    unfold rLo
    rw [ag_T H hp, ag_Text H (by omega) tb.2.1]
  unfold rq_load
  rw [e1]
theorem ag_ans (H : agr g h n) (hp : 0 ≤ p) (hpe : p ≤ n) : rq_ans g n p S = rq_ans h n p S := by
  unfold rq_ans
  rw [ag_BN H hp hpe]
theorem ag_pick (H : agr g h n) (hp : 0 ≤ p) (hpe : p ≤ n) : rq_pick g n p S = rq_pick h n p S := by
  unfold rq_pick
  rw [ag_BN H hp hpe]
theorem ag_vary (H : agr g h n) (hp : 0 ≤ p) (hpe : p ≤ n) : rq_vary g n p S = rq_vary h n p S := by
  unfold rq_vary
  rw [ag_BN H hp hpe]
theorem ag_cover (H : agr g h n) (hp : 0 ≤ p) (hpe : p ≤ n) : rq_cover g n p S = rq_cover h n p S := by
  unfold rq_cover
  rw [ag_BN H hp hpe]
theorem ag_person (H : agr g h n) (hp : 0 ≤ p) (hpe : p ≤ n) : rq_person g n p S = rq_person h n p S := by
  unfold rq_person
  rw [ag_BN H hp hpe]
theorem ag_redo (H : agr g h n) (hp : 0 ≤ p) (hpe : p ≤ n) : rq_redo g n p S = rq_redo h n p S := by
  unfold rq_redo
  rw [ag_BN H hp hpe]
theorem ag_marks (H : agr g h n) (hp : 0 ≤ p) (hpe : p ≤ n) : rq_marks g n p S = rq_marks h n p S := by
  unfold rq_marks
  rw [ag_BN H hp hpe]
theorem ag_cut (H : agr g h n) (hp : 0 ≤ p) (hpe : p ≤ n) : rq_cut g n p S = rq_cut h n p S := by
  unfold rq_cut
  rw [ag_BN H hp hpe]
theorem ag_make (H : agr g h n) (hp : 0 ≤ p) (hpe : p ≤ n) : rq_make g n p S = rq_make h n p S := by
  unfold rq_make
  rw [ag_Cd H hp hpe, ag_BN H hp hpe]
theorem ag_mark (H : agr g h n) (hp : 0 ≤ p) (hpe : p ≤ n) : rq_mark g n p S = rq_mark h n p S := by
  unfold rq_mark
  rw [ag_Cd H hp hpe, ag_BN H hp hpe]
theorem ag_put (H : agr g h n) (hp : 0 ≤ p) (hpe : p ≤ n) : rq_put g n p S = rq_put h n p S := by
  unfold rq_put
  rw [ag_Cs H hp hpe, ag_BN H hp hpe]
theorem ag_check (H : agr g h n) (hp : 0 ≤ p) (hpe : p ≤ n) : rq_check g n p S = rq_check h n p S := by
  have tb := rT_b (g := h) (e := n) (c := 32) (p := p) (w := 0) hpe
  have e1 : rCk g n p = rCk h n p := by
    unfold rCk
    rw [ag_T H hp, ag_Pf H _ _ (by omega) tb.2.1]
  unfold rq_check
  rw [e1, ag_T H hp]
theorem BM_b {w : Int} (hpe : p ≤ n) : p ≤ (rBM h n p w).1 ∧ 0 ≤ (rBM h n p w).2.1 ∧ (rBM h n p w).1 + (rBM h n p w).2.1 ≤ n := by
  have tb := rT_b (g := h) (e := n) (c := 32) (p := p) (w := w) hpe
  have nb := rNm_b (g := h) (e := n) (p := (rT h n 32 p w).1) (w := (rT h n 32 p w).2) tb.2.1
  unfold rBM
  exact ⟨tb.1, nb.1, nb.2.2.1⟩
theorem ag_stN (H : agr g h n) (hp : 0 ≤ p) (hpe : p ≤ n) : stN g n p = stN h n p := by
  have bb := BM_b (h := h) (w := 0) hpe
  unfold stN
  rw [ag_BM H hp hpe, ag_nmO H (by omega) bb.2.2 bb.2.1]
theorem ag_St (H : agr g h n) (hp : 0 ≤ p) (hpe : p ≤ n) : rSt g n p = rSt h n p := by
  have bb := BM_b (h := h) (w := 0) hpe
  unfold rSt
  rw [ag_BM H hp hpe, ag_BN H (by omega) bb.2.2]
theorem ag_set (H : agr g h n) (hp : 0 ≤ p) (hpe : p ≤ n) : rq_set g n p S = rq_set h n p S := by
  unfold rq_set
  rw [ag_St H hp hpe, ag_stN H hp hpe]
theorem ag_open (H : agr g h n) (hp : 0 ≤ p) (hpe : p ≤ n) : rq_open g n p S = rq_open h n p S := by
  unfold rq_open opF
  rw [ag_BM H hp hpe, ag_stN H hp hpe]
theorem ag_remove (H : agr g h n) (hp : 0 ≤ p) (hpe : p ≤ n) : rq_remove g n p S = rq_remove h n p S := by
  unfold rq_remove opF
  rw [ag_BM H hp hpe, ag_stN H hp hpe]
theorem ag_keep (H : agr g h n) (hp : 0 ≤ p) (hpe : p ≤ n) : rq_keep g n p S = rq_keep h n p S := by
  unfold rq_keep
  rw [ag_BM H hp hpe, ag_stN H hp hpe]
theorem ag_submit (H : agr g h n) (hp : 0 ≤ p) (hpe : p ≤ n) : rq_submit g n p S = rq_submit h n p S := by
  have b1 := rBN_b (g := h) (e := n) (m := 1) (p := p) (w := 0) (by omega) hpe
  have e1 : sbA1 g n p = sbA1 h n p := ag_BN H hp hpe
  have f1 : rBN h n 1 p 0 = sbA1 h n p := rfl
  rw [f1] at b1
  have b2 := BM_b (h := h) (w := (sbA1 h n p).2.2) b1.2.1
  have e2 : sbA2 g n p = sbA2 h n p := by
    unfold sbA2
    rw [e1, ag_BM H (by omega) b1.2.1]
  have f2 : rBM h n (sbA1 h n p).2.1 (sbA1 h n p).2.2 = sbA2 h n p := rfl
  rw [f2] at b2
  have b3 := rBN_b (g := h) (e := n) (m := 3) (p := (sbA2 h n p).1 + (sbA2 h n p).2.1) (w := (sbA2 h n p).2.2) (by omega) b2.2.2
  have e3 : sbA3 g n p = sbA3 h n p := by
    unfold sbA3
    rw [e2, ag_BN H (by omega) b2.2.2]
  have f3 : rBN h n 3 ((sbA2 h n p).1 + (sbA2 h n p).2.1) (sbA2 h n p).2.2 = sbA3 h n p := rfl
  rw [f3] at b3
  have tb := rT_b (g := h) (e := n) (c := 32) (p := (sbA3 h n p).2.1) (w := (sbA3 h n p).2.2) b3.2.1
  have nb := rDg_b (g := h) (e := n) (p := (rT h n 32 (sbA3 h n p).2.1 (sbA3 h n p).2.2).1) (w := (rT h n 32 (sbA3 h n p).2.1 (sbA3 h n p).2.2).2) tb.2.1
  have e4 : sbA4 g n p = sbA4 h n p := by
    unfold sbA4
    rw [e3, ag_BD H (by omega) b3.2.1]
  have b4 : 0 ≤ (sbA4 h n p).1 ∧ 0 ≤ (sbA4 h n p).2.1 ∧ (sbA4 h n p).1 + (sbA4 h n p).2.1 ≤ n := by
    unfold sbA4 rBD
    dsimp only
    omega
  have e5 : sbR g n p S.2.2.1 = sbR h n p S.2.2.1 := by
    unfold sbR
    rw [e1, e2, e3, e4, ag_nmO H (by omega) b2.2.2 b2.2.1, ag_dgO H b4.1 b4.2.2 b4.2.1]
  unfold rq_submit
  rw [e4, e5]
theorem fnR_w {r r' : RQ} (h1 : r.1 = r'.1) (h2 : r.2.1 = r'.2.1) (h3 : r.2.1 = 0 → r.2.2 = r'.2.2) : fnR n S r = fnR n S r' := by
  unfold fnR
  rw [h1, h2]
  by_cases c : r'.2.1 ≠ 0 ∨ r'.1 < n
  · rw [if_pos c, if_pos c]
  · rw [if_neg c, if_neg c]
    exact h3 (by omega)
theorem ag_import (H : agr g h n) (hp : 0 ≤ p) (hpe : p ≤ n) : fnR n S (rq_import g n p S) = fnR n S (rq_import h n p S) := by
  have tb := rT_b (g := h) (e := n) (c := 32) (p := p) (w := 0) hpe
  have e1 : rIm g n p = rIm h n p := by
    unfold rIm
    rw [ag_T H hp, ag_Bo H (by omega) tb.2.1]
  have ob : (rT h n 32 p 0).1 ≤ (rIm h n p).2.1 ∧ (rIm h n p).2.1 ≤ n ∧ 0 ≤ (rIm h n p).2.2.1 ∧ (rIm h n p).2.2.1 ≤ 1 := rBo_b tb.2.1
  have e2 : rIn g n p = rIn h n p := by
    unfold rIn
    rw [e1, ag_N H (by omega)]
  have e3 : imA g n p = imA h n p := by
    unfold imA
    rw [ag_T H hp, ag_Bs H (by omega) tb.2.1]
  have e4 : imC g n p = imC h n p := by
    unfold imC
    rw [ag_T H hp, e1, ag_map (F := fun y => y) H (by omega) (by omega)]
  refine fnR_w (show (rIn g n p).2.1 = (rIn h n p).2.1 by rw [e2]) (show (rIn g n p).2.2 = (rIn h n p).2.2 by rw [e2]) (fun hw => ?_)
  have hw' : (rIn h n p).2.2 = 0 := by
    rw [← e2]
    exact hw
  have ew : (rIm h n p).2.2.1 = 0 := by
    have hx : (rIm h n p).2.2.1 = 0 ∨ (rIm h n p).2.2.1 = 1 := by omega
    rcases hx with hx | hx
    · exact hx
    · unfold rIn at hw'
      rw [hx, rN_w] at hw'
      cases hw'
  have sb := rBs_b (g := h) (e := n) (p := (rT h n 32 p 0).1) (w := (rT h n 32 p 0).2) tb.2.1
  have hI : bkI h n (rIm h n p).1 (rBs h n (rT h n 32 p 0).1 (rT h n 32 p 0).2).2.1 := (rBo_I tb.2.1 ew).1
  have aE := ag_E H _ _ (by omega) hI
  show bkS S (imT g n p S, (S.1, S.2.1, S.2.2.1, S.2.2.2.1, imW g n p S)) = bkS S (imT h n p S, (S.1, S.2.1, S.2.2.1, S.2.2.2.1, imW h n p S))
  have e5 : imK g n p S = imK h n p S := by
    unfold imK
    rw [e1, aE.2]
  unfold imT imW
  rw [e5, e3, e4, e2, e1, aE.1]
theorem ag_all0 {v : Int} (hv : 0 ≤ v ∧ v < 15) (H : agr g h n) (hp : 0 ≤ p) (hpe : p ≤ n) : fnR n S (rqA g n S v p) = fnR n S (rqA h n S v p) := by
  have hc : v = 0 ∨ v = 1 ∨ v = 2 ∨ v = 3 ∨ v = 4 ∨ v = 5 ∨ v = 6 ∨ v = 7 ∨ v = 8 ∨ v = 9 ∨ v = 10 ∨ v = 11 ∨ v = 12 ∨ v = 13 ∨ v = 14 := by omega
  rcases hc with e | e | e | e | e | e | e | e | e | e | e | e | e | e | e
  · rw [e]
    exact congrArg (fnR n S) (ag_new H hp hpe)
  · rw [e]
    exact congrArg (fnR n S) (ag_rule H hp hpe)
  · rw [e]
    exact congrArg (fnR n S) (ag_each H hp hpe)
  · rw [e]
    exact congrArg (fnR n S) (ag_give H hp hpe)
  · rw [e]
    rfl
  · rw [e]
    rfl
  · rw [e]
    exact congrArg (fnR n S) (ag_load H hp hpe)
  · rw [e]
    exact congrArg (fnR n S) (ag_ans H hp hpe)
  · rw [e]
    rfl
  · rw [e]
    exact congrArg (fnR n S) (ag_pick H hp hpe)
  · rw [e]
    rfl
  · rw [e]
    rfl
  · rw [e]
    exact congrArg (fnR n S) (ag_make H hp hpe)
  · rw [e]
    rfl
  · rw [e]
    rfl
theorem ag_all1 {v : Int} (hv : 15 ≤ v ∧ v < 30) (H : agr g h n) (hp : 0 ≤ p) (hpe : p ≤ n) : fnR n S (rqA g n S v p) = fnR n S (rqA h n S v p) := by
  have hc : v = 15 ∨ v = 16 ∨ v = 17 ∨ v = 18 ∨ v = 19 ∨ v = 20 ∨ v = 21 ∨ v = 22 ∨ v = 23 ∨ v = 24 ∨ v = 25 ∨ v = 26 ∨ v = 27 ∨ v = 28 ∨ v = 29 := by omega
  rcases hc with e | e | e | e | e | e | e | e | e | e | e | e | e | e | e
  · rw [e]
    exact congrArg (fnR n S) (ag_check H hp hpe)
  · rw [e]
    rfl
  · rw [e]
    rfl
  · rw [e]
    rfl
  · rw [e]
    rfl
  · rw [e]
    rfl
  · rw [e]
    rfl
  · rw [e]
    exact congrArg (fnR n S) (ag_vary H hp hpe)
  · rw [e]
    exact congrArg (fnR n S) (ag_cover H hp hpe)
  · rw [e]
    rfl
  · rw [e]
    exact congrArg (fnR n S) (ag_person H hp hpe)
  · rw [e]
    exact congrArg (fnR n S) (ag_put H hp hpe)
  · rw [e]
    rfl
  · rw [e]
    exact congrArg (fnR n S) (ag_redo H hp hpe)
  · rw [e]
    rfl
theorem ag_all2 {v : Int} (hv : 30 ≤ v ∧ v < 45) (H : agr g h n) (hp : 0 ≤ p) (hpe : p ≤ n) : fnR n S (rqA g n S v p) = fnR n S (rqA h n S v p) := by
  have hc : v = 30 ∨ v = 31 ∨ v = 32 ∨ v = 33 ∨ v = 34 ∨ v = 35 ∨ v = 36 ∨ v = 37 ∨ v = 38 ∨ v = 39 ∨ v = 40 ∨ v = 41 ∨ v = 42 ∨ v = 43 ∨ v = 44 := by omega
  rcases hc with e | e | e | e | e | e | e | e | e | e | e | e | e | e | e
  · rw [e]
    exact congrArg (fnR n S) (ag_mark H hp hpe)
  · rw [e]
    exact congrArg (fnR n S) (ag_marks H hp hpe)
  · rw [e]
    rfl
  · rw [e]
    exact congrArg (fnR n S) (ag_set H hp hpe)
  · rw [e]
    exact congrArg (fnR n S) (ag_submit H hp hpe)
  · rw [e]
    rfl
  · rw [e]
    exact congrArg (fnR n S) (ag_keep H hp hpe)
  · rw [e]
    exact congrArg (fnR n S) (ag_open H hp hpe)
  · rw [e]
    exact congrArg (fnR n S) (ag_remove H hp hpe)
  · rw [e]
    rfl
  · rw [e]
    exact congrArg (fnR n S) (ag_cut H hp hpe)
  · rw [e]
    rfl
  · rw [e]
    rfl
  · rw [e]
    exact ag_import H hp hpe
  · rw [e]
    rfl
theorem ag_F (H : agr g h n) (hn : 0 ≤ n) : rqF g n S = rqF h n S := by
  have hb := chs_b (g := h) (e := n) (p := 0) (bs := bsW) hn
  have hw := swW (g := h) (e := n) (p := 0)
  unfold rqF
  rw [ag_chs H (Int.le_refl 0)]
  generalize chs h n 0 bsW = q at *
  by_cases c : q.1 < 0
  · rw [if_pos c, if_pos c]
  · rw [if_neg c, if_neg c]
    have h45 : q.1 < 45 := by
      rcases hw.2 with hx | hx
      · omega
      · omega
    by_cases c1 : q.1 < 15
    · exact ag_all0 ⟨by omega, by omega⟩ H (by omega) (by omega)
    · by_cases c2 : q.1 < 30
      · exact ag_all1 ⟨by omega, by omega⟩ H (by omega) (by omega)
      · exact ag_all2 ⟨by omega, by omega⟩ H (by omega) (by omega)
end AGQ
