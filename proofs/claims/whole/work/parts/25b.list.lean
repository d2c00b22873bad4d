/-! The class: what is written while it seeks; list. -/
theorem o_put_n3 {M : fx_M} {c : Int} {b : Nat} {j : Int} (h1 : ¬ (b = 3 ∧ j = 1)) (h2 : b ≠ 4) : o_put M 3 c b j = M b j := by
  unfold o_put
  split
  · rw [fx_up_ne h1, fx_up_na h2]
  · rfl
theorem o_app_n3 : ∀ {cs : List Int} {M : fx_M} {b : Nat} {j : Int}, ¬ (b = 3 ∧ j = 1) → b ≠ 4 → o_app M 3 cs b j = M b j
  | [], M, b, j, _, _ => rfl
  | c :: cs, M, b, j, h1, h2 => by
    show o_app (o_put M 3 c) 3 cs b j = M b j
    rw [o_app_n3 h1 h2, o_put_n3 h1 h2]
theorem o_put_cg {M N : fx_M} {c : Int} (h1 : N 3 1 = M 3 1) (h4 : ∀ j, N 4 j = M 4 j) : o_put N 3 c 3 1 = o_put M 3 c 3 1 ∧ ∀ j, o_put N 3 c 4 j = o_put M 3 c 4 j := by
  unfold o_put
  rw [h1]
  split
  · refine ⟨by rw [fx_up_self, fx_up_self], fun j => ?_⟩
    rw [fx_up_na (a := 3) (by decide), fx_up_na (a := 3) (by decide)]
    unfold fx_up
    split
    · rfl
    · exact h4 j
  · exact ⟨h1, h4⟩
theorem o_app_cg : ∀ {cs : List Int} {M N : fx_M}, N 3 1 = M 3 1 → (∀ j, N 4 j = M 4 j) → o_app N 3 cs 3 1 = o_app M 3 cs 3 1 ∧ ∀ j, o_app N 3 cs 4 j = o_app M 3 cs 4 j
  | [], M, N, h1, h2 => ⟨h1, h2⟩
  | c :: cs, M, N, h1, h2 => by
    have := o_put_cg (c := c) h1 h2
    exact o_app_cg (cs := cs) this.1 this.2
/-- what a request of the class uses and leaves -/
def csc (b : Nat) : Prop := 29 ≤ b ∧ b ≤ 52
/-- M' is M with cs written, but for what is left -/
def cwr (M M' : fx_M) (cs : List Int) : Prop := ∀ b j, ¬ csc b → M' b j = o_app M 3 cs b j
theorem csc_3 : ¬ csc 3 := by unfold csc; omega
theorem csc_4 : ¬ csc 4 := by unfold csc; omega
theorem cwr_rf {M : fx_M} : cwr M M [] := fun _ _ _ => rfl
theorem cwr_app {M : fx_M} {cs : List Int} : cwr M (o_app M 3 cs) cs := fun _ _ _ => rfl
theorem cwr_put {M : fx_M} {c : Int} : cwr M (o_put M 3 c) [c] := fun _ _ _ => rfl
theorem cwr_tr {M N O : fx_M} {cs ds : List Int} (h1 : cwr M N cs) (h2 : cwr N O ds) : cwr M O (cs ++ ds) := fun b j hb => by
  rw [h2 b j hb, ← o_app_app]
  have e := o_app_cg (cs := ds) (h1 3 1 csc_3) (fun j => h1 4 j csc_4)
  by_cases h136 : b = 4
  · subst h136
    exact e.2 j
  · by_cases h5 : b = 3 ∧ j = 1
    · obtain ⟨rfl, rfl⟩ := h5
      exact e.1
    · rw [o_app_n3 h5 h136, o_app_n3 h5 h136]
      exact h1 b j hb
theorem cwr_0 {M N : fx_M} {cs : List Int} (h : cwr M N (cs ++ [])) : cwr M N cs := by
  rw [List.append_nil] at h
  exact h
theorem cwr_up {M : fx_M} {a : Nat} {k v : Int} (h : csc a) : cwr M (fx_up M a k v) [] := fun b j hb => by
  show fx_up M a k v b j = M b j
  rw [fx_up_na (fun e => hb (by rw [e]; exact h))]
theorem cwr_ne {M N : fx_M} {cs : List Int} (h : cwr M N cs) {b : Nat} {j : Int} (h1 : ¬ csc b) (h2 : b ≠ 3) (h3 : b ≠ 4) : N b j = M b j := by
  rw [h b j h1, o_app_n3 (fun e => h2 e.1) h3]
theorem cwr_ok {M N : fx_M} {cs : List Int} (h : cwr M N cs) (ho : o_ok M 3) : o_ok N 3 := by
  unfold o_ok
  rw [h 3 1 csc_3]
  exact o_ok_app ho
theorem out3 : fx_out 3 := by
  unfold fx_out
  simp
theorem puz11 : fx_puz 11 := by
  unfold fx_puz
  simp
theorem cz_fr {M N : fx_M} {p : Nat} {Z : PZ} (hz : cz M p Z) (f : ∀ b j, p ≤ b → b ≤ p + 8 → N b j = M b j) : cz N p Z := by
  obtain ⟨z0, z1, z2, z3, z4, z5, z6, z7, z8, zw⟩ := hz
  refine ⟨by rw [f _ _ (by omega) (by omega)]; exact z0, by rw [f _ _ (by omega) (by omega)]; exact z1, by rw [f _ _ (by omega) (by omega)]; exact z2, by rw [f _ _ (by omega) (by omega)]; exact z3, by rw [f _ _ (by omega) (by omega)]; exact z4, fun r R hR => ?_, fun c hc => by rw [f _ _ (by omega) (by omega)]; exact z6 c hc, by rw [f _ _ (by omega) (by omega)]; exact z7, by rw [f _ _ (by omega) (by omega)]; exact z8, wys_fr zw (f _ _ (by omega) (by omega)) (fun j => f _ _ (by omega) (by omega))⟩
  obtain ⟨a1, a2, a3, a4, a5⟩ := z5 r R hR
  exact ⟨by rw [f _ _ (by omega) (by omega)]; exact a1, by rw [f _ _ (by omega) (by omega)]; exact a2, by rw [f _ _ (by omega) (by omega)]; exact a3, fun i hi => by rw [f _ _ (by omega) (by omega)]; exact a4 i hi, by rw [f _ _ (by omega) (by omega)]; exact a5⟩
theorem ckn_fr {M N : fx_M} {p : Nat} {Z : PZ} (h : ckn M p Z) (f : ∀ b j, p ≤ b → b ≤ p + 8 → N b j = M b j) : ckn N p Z := ⟨cz_fr h.1 f, by rw [f _ _ (by omega) (by omega)]; exact h.2⟩
theorem ckn_cwr {M N : fx_M} {cs : List Int} {Z : PZ} (h : ckn M 11 Z) (hq : cwr M N cs) : ckn N 11 Z := ckn_fr h (fun b j h1 h2 => cwr_ne hq (by unfold csc; omega) (by omega) (by omega))
theorem cz_cwr {M N : fx_M} {cs : List Int} {Z : PZ} (h : cz M 11 Z) (hq : cwr M N cs) : cz N 11 Z := cz_fr h (fun b j h1 h2 => cwr_ne hq (by unfold csc; omega) (by omega) (by omega))
theorem low_pow : ∀ y : Fin 9, lowb (2 ^ (y : Nat)) = (y : Nat) ∧ 2 ^ (y : Nat) < 512 ∧ 2 ^ (y : Nat) ≠ 0 := by decide
theorem pow_16 : ∀ y : Fin 4, 2 ^ (y : Nat) < 16 := by decide
section CLS
variable {L : Nat} {xs : Nat → Int32} {d : Nat} {Q : Option fx_V → fx_M → Prop} {Z : PZ}
/-- a standing that is one filling -/
theorem wf_loop (ho : pz_ok Z) {v : Int} {S : Nat → Nat} {x : List Int} (hx : sta v S) (hl : (x.length : Int) = Z.1 * Z.2.1) (hS : ∀ i : Nat, i < x.length → S i = 2 ^ (x.getD i 0).toNat) (hv : ∀ i : Nat, i < x.length → 0 ≤ x.getD i 0 ∧ x.getD i 0 < 4) : ∀ (t i : Nat) (M : fx_M), i + t = x.length → cz M 11 Z → o_ok M 3 → Q none (o_app M 3 (tFil (x.drop i))) → wp (kcs L xs) (d + 3) 85 2 [some (jR 29), some (jL v), none, some (jI i)] [] M Q := by
  have h9 := pz_n ho
  intro t
  induction t with
  | zero =>
    intro i M hi hz hO K
    refine s85_2 ?_
    rw [hz.2.2.1]
    refine ⟨⟨⟨by omega, by omega⟩, ⟨by omega, by omega⟩⟩, fun _ => ?_, fun h => by omega⟩
    rw [List.drop_eq_nil_of_le (by omega)] at K
    exact K
  | succ t ih =>
    intro i M hi hz hO K
    have hb := hv i (by omega)
    have hp := low_pow ⟨(x.getD i 0).toNat, by omega⟩
    have hSi := hS i (by omega)
    refine s85_2 ?_
    rw [hz.2.2.1]
    refine ⟨⟨⟨by omega, by omega⟩, ⟨by omega, by omega⟩⟩, fun h => by omega, fun _ => ?_⟩
    refine sp_may hx ⟨by omega, by omega⟩ (by rw [Int.toNat_natCast, hSi]; exact pow_16 ⟨(x.getD i 0).toNat, by omega⟩) (s85_22 ?_)
    rw [Int.toNat_natCast, hSi]
    refine sp_lowest hp.2.2 hp.2.1 (s85_25 ?_)
    rw [show lowb (2 ^ (x.getD i 0).toNat) = (x.getD i 0).toNat from hp.1, show (((x.getD i 0).toNat : Nat) : Int) = x.getD i 0 by omega]
    refine sp_number out3 hO (by omega) (by omega) (s85_28 ?_)
    have nx := ih (i + 1) (o_app M 3 (dgs (x.getD i 0))) (by omega) (cz_app puz11 out3 hz) (o_ok_app hO) (by
      rw [o_app_app, dgs_1 ⟨by omega, by omega⟩]
      rw [drop_consD (by omega)] at K
      exact K)
    rw [show ((i + 1 : Nat) : Int) = (i : Int) + 1 by omega] at nx
    exact nx
theorem sp_writeFilling {M : fx_M} (ho : pz_ok Z) {v : Int} {S : Nat → Nat} {x : List Int} (hx : sta v S) (hl : (x.length : Int) = Z.1 * Z.2.1) (hS : ∀ i : Nat, i < x.length → S i = 2 ^ (x.getD i 0).toNat) (hv : ∀ i : Nat, i < x.length → 0 ≤ x.getD i 0 ∧ x.getD i 0 < 4) (hz : cz M 11 Z) (hO : o_ok M 3) (K : Q none (o_app M 3 (tFil x))) : wc (kcs L xs) (d + 3) 85 [jR 29, jL v] M Q :=
  s85 (wf_loop ho hx hl hS hv x.length 0 M (by omega) hz hO K)
/-- listing a list of fillings, l listed, n to be listed -/
def tLs (A : List (List Int)) (k : Nat) : List Int := (A.take k).flatMap (fun x => tFil x ++ [32])
theorem tLs_app {A B : List (List Int)} {k : Nat} : tLs (A ++ B) k = tLs A k ++ tLs B (k - A.length) := by
  unfold tLs
  rw [List.take_append, List.flatMap_append]
/-- what listFrom leaves -/
def lsF (n l : Nat) (A : List (List Int)) : Nat := if l + A.length ≤ n + 1 then l + A.length else n + 1
theorem rS_16 {S : Nat → Nat} {p : List Int} {c : Nat} (hS : S c < 16) (hp : ∀ i : Nat, i < p.length → 0 ≤ p.getD i 0 ∧ p.getD i 0 < 4) : rS S p c < 16 := by
  unfold rS
  split
  · next h => exact pow_16 ⟨(p.getD c 0).toNat, by have := hp c h; omega⟩
  · exact hS
theorem rS_ok (ho : pz_ok Z) {S : Nat → Nat} {p : List Int} (hs : s_ok Z S) (hl : (p.length : Int) ≤ Z.1 * Z.2.1) (hp : ∀ i : Nat, i < p.length → 0 ≤ p.getD i 0 ∧ p.getD i 0 < Z.2.2.1) : s_ok Z (rS S p) := fun c hc => by
  unfold rS
  by_cases h : c < p.length
  · rw [if_pos h]
    have hb := hp c h
    exact ⟨fun _ => Nat.pow_lt_pow_right (by decide) (by omega), fun h2 => by omega⟩
  · rw [if_neg h]
    exact hs c hc
theorem bit_lt {m s k : Nat} (h : m < 2 ^ s) (hb : m.testBit k = true) : k < s := by
  by_cases hk : k < s
  · exact hk
  · have : m.testBit k = false := Nat.testBit_lt_two_pow (Nat.lt_of_lt_of_le h (Nat.pow_le_pow_right (by decide) (by omega)))
    rw [this] at hb
    cases hb
/-- listFrom: m cells are left -/
def lsSpec (L : Nat) (xs : Nat → Int32) (Z : PZ) (S : Nat → Nat) (n m : Nat) : Prop := ∀ (d : Nat) (Q : Option fx_V → fx_M → Prop) (p : List Int) (v : Int) (l : Nat) (M : fx_M), ((p.length + m : Nat) : Int) = Z.1 * Z.2.1 → fnS Z S p → sta v (rS S p) → ckn M 11 Z → o_ok M 3 → M 29 2 = n → M 29 3 = l → l ≤ n → (∀ M', cwr M M' (tLs (sbx (okS Z S) p m) (n - l)) → M' 29 2 = n → M' 29 3 = lsF n l (sbx (okS Z S) p m) → Q none M') → wc (kcs L xs) (d + m + 5) 84 [jR 29, jL v, jI (p.length : Int)] M Q
theorem ls_zero (ho : pz_ok Z) {S : Nat → Nat} {n : Nat} (hn : n ≤ 1000) : lsSpec L xs Z S n 0 := by
  intro d Q p v l M hl hf hx hc hO h2 h3 hln K
  have h9 := pz_n ho
  have hok := fnS_ok ho hf (by omega)
  have hA : sbx (okS Z S) p 0 = [p] := by rw [sbx_zero, if_pos hok]
  rw [hA] at K
  have e1 : lsF n l [p] = l + 1 := by
    unfold lsF
    simp only [List.length_cons, List.length_nil]
    rw [if_pos (by omega)]
  rw [e1] at K
  refine s84 ?_
  rw [hc.1.2.2.1, h2, h3]
  refine ⟨⟨⟨by omega, by omega⟩, ⟨by omega, by omega⟩⟩, fun h => by omega, fun _ => ⟨⟨⟨by omega, by omega⟩, ⟨by omega, by omega⟩⟩, fun h => ?_, fun h => ?_⟩⟩
  · have e2 : n - l = 0 := by omega
    rw [e2] at K
    refine K _ (cwr_up (by unfold csc; omega)) (by rw [fx_up_nk (by decide)]; exact h2) (by rw [fx_up_self]; omega)
  · have hc2 := ckn_cwr hc (cwr_up (a := 29) (k := 3) (v := (l : Int) + 1) (by unfold csc; omega))
    have hq1 := cwr_up (M := M) (a := 29) (k := 3) (v := (l : Int) + 1) (by unfold csc; omega)
    refine sp_writeFilling ho hx (by omega) (fun i hi => by unfold rS; rw [if_pos hi]) (fun i hi => ⟨(hf.1 i hi).1, (hf.1 i hi).2.1⟩) hc2.1 (cwr_ok hq1 hO) (s84_37 (sp_put out3 (o_ok_app (cwr_ok hq1 hO)) ⟨by omega, by omega⟩ (s84_46 (K _ ?_ ?_ ?_))))
    · have e3 : tLs [p] (n - l) = tFil p ++ [32] := by
        unfold tLs
        rw [List.take_of_length_le (by simp; omega)]
        simp
      rw [e3]
      have := cwr_tr (cwr_tr hq1 (cwr_app (cs := tFil p))) (cwr_put (c := 32))
      rw [List.nil_append] at this
      exact this
    · rw [o_put_n3 (by omega) (by decide), o_app_n3 (by omega) (by decide), fx_up_nk (by decide)]
      exact h2
    · rw [o_put_n3 (by omega) (by decide), o_app_n3 (by omega) (by decide), fx_up_self]
      omega
theorem lsF_nil {n l : Nat} (h : l ≤ n + 1) : lsF n l [] = l := by
  unfold lsF
  simp
  omega
theorem lsF_app {n l : Nat} {A B : List (List Int)} : lsF n (lsF n l A) B = lsF n l (A ++ B) := by
  unfold lsF
  rw [List.length_append]
  (repeat' split) <;> omega
theorem lsF_le {n l : Nat} {A : List (List Int)} : lsF n l A ≤ n + 1 := by
  unfold lsF
  split <;> omega
theorem tLs_next {A B : List (List Int)} {n l : Nat} (hl : l ≤ n) : tLs A (n - l) ++ tLs B (n - lsF n l A) = tLs (A ++ B) (n - l) := by
  rw [tLs_app]
  congr 2
  unfold lsF
  split <;> omega
theorem ls_loop (ho : pz_ok Z) {S : Nat → Nat} {n m : Nat} (hn : n ≤ 1000) (hs : s_ok Z S) (IH : lsSpec L xs Z S n m) {p : List Int} (hlen : ((p.length + (m + 1) : Nat) : Int) = Z.1 * Z.2.1) (hf : fnS Z S p) {v : Int} (hx : sta v (rS S p)) {M0 : fx_M} {l0 : Nat} (hl0 : l0 ≤ n) (K : ∀ M', cwr M0 M' (tLs (sbx (okS Z S) p (m + 1)) (n - l0)) → M' 29 2 = n → M' 29 3 = lsF n l0 (sbx (okS Z S) p (m + 1)) → Q none M') : ∀ (t y : Nat) (A : List (List Int)) (M : fx_M), y + t = 4 → A ++ sbA (okS Z S) p m t = sbx (okS Z S) p (m + 1) → cwr M0 M (tLs A (n - l0)) → ckn M 11 Z → o_ok M 3 → M 29 2 = n → M 29 3 = lsF n l0 A → wp (kcs L xs) (d + (m + 1) + 5) 84 50 [some (jR 29), some (jL v), none, some (jI (p.length : Int)), some (jI y), none, none] [] M Q := by
  have h9 := pz_n ho
  intro t
  induction t with
  | zero =>
    intro y A M hy hA hq hc hO h2 h3
    rw [sbA_zero, List.append_nil] at hA
    rw [← hA] at K
    exact s84_50 ⟨⟨by omega, by omega⟩, fun _ => K M hq h2 h3, fun h => by omega⟩
  | succ t ih =>
    intro y A M hy hA hq hc hO h2 h3
    have hle := lsF_le (n := n) (l := l0) (A := A)
    have hpl : p.length < 10 := by omega
    have hS16 := rS_16 (p := p) (s_ok_16 ho hs hpl) (fun i hi => ⟨(hf.1 i hi).1, (hf.1 i hi).2.1⟩)
    have hrS : rS S p p.length = S p.length := by
      unfold rS
      rw [if_neg (by omega)]
    have hpv : ∀ i : Nat, i < p.length → 0 ≤ p.getD i 0 ∧ p.getD i 0 < 4 := fun i hi => ⟨(hf.1 i hi).1, (hf.1 i hi).2.1⟩
    rw [sbA_succ] at hA
    have ey : (3 : Int) - (t : Int) = (y : Int) := by omega
    rw [ey] at hA
    -- on with the next symbol, B listed
    have go : ∀ (B : List (List Int)) (M' : fx_M), sbx (okS Z S) (p ++ [(y : Int)]) m = B → cwr M0 M' (tLs (A ++ B) (n - l0)) → ckn M' 11 Z → o_ok M' 3 → M' 29 2 = n → M' 29 3 = lsF n l0 (A ++ B) → wp (kcs L xs) (d + (m + 1) + 5) 84 50 [some (jR 29), some (jL v), none, some (jI (p.length : Int)), some (jI ((y : Int) + 1)), none, none] [] M' Q := fun B M' hB g1 g2 g3 g4 g5 => by
      have nx := ih (y + 1) (A ++ B) M' (by omega) (by rw [← hA, hB, List.append_assoc]) g1 g2 g3 g4 g5
      rw [show ((y + 1 : Nat) : Int) = (y : Int) + 1 by omega] at nx
      exact nx
    refine s84_50 ⟨⟨by omega, by omega⟩, fun h => by omega, fun _ => ?_⟩
    rw [h2, h3]
    refine ⟨⟨⟨by omega, by omega⟩, ⟨by omega, by omega⟩⟩, fun hful => ?_, fun hnot => ?_⟩
    · -- enough
      have hA1 : l0 + A.length ≥ n + 1 := by
        unfold lsF at hful
        split at hful <;> omega
      have e1 : tLs A (n - l0) = tLs (sbx (okS Z S) p (m + 1)) (n - l0) := by
        rw [← hA, tLs_app, show n - l0 - A.length = 0 by omega]
        unfold tLs
        simp
      have e2 : lsF n l0 A = lsF n l0 (sbx (okS Z S) p (m + 1)) := by
        rw [← hA]
        unfold lsF
        rw [List.length_append]
        (repeat' split) <;> omega
      rw [← e1, ← e2] at K
      exact K M hq h2 h3
    · refine sp_may hx ⟨by omega, by omega⟩ (by rw [Int.toNat_natCast]; exact hS16) (s84_72 ?_)
      rw [Int.toNat_natCast, hrS]
      rw [hrS] at hS16
      have hbit := sm_bit ⟨S p.length, hS16⟩ ⟨y, by omega⟩
      simp only at hbit
      rw [hbit]
      by_cases hb : (S p.length).testBit y = true
      · rw [if_pos hb]
        refine ⟨⟨by omega, by omega⟩, fun h => by omega, fun _ => ?_⟩
        have hysym : (y : Int) < Z.2.2.1 := by
          have := bit_lt ((hs p.length hpl).1 (by omega)) hb
          have h1 := ho.2.2.2.2.1
          omega
        refine sp_only hx ⟨by omega, by omega⟩ ⟨by omega, by omega⟩ (fun w hw => s84_87 ?_)
        rw [Int.toNat_natCast, Int.toNat_natCast, rS_only] at hw
        rw [fx_shl_1 ⟨by omega, by omega⟩, Int.toNat_natCast]
        have hlen1 : (p ++ [(y : Int)]).length = p.length + 1 := by simp
        have hpok : s_ok Z (rS S (p ++ [(y : Int)])) := by
          rw [← rS_only]
          refine s_only_ok ?_ (by omega) hysym
          refine rS_ok ho hs (by omega) (fun i hi => ⟨(hpv i hi).1, ?_⟩)
          have := bit_lt ((hs i (by omega)).1 (by omega)) (hf.1 i hi).2.2
          have h1 := ho.2.2.2.2.1
          omega
        refine sp_canMeet puz11 hc ho hpok hw (Nat.lt_of_lt_of_le (Nat.pow_lt_pow_right (by decide) (show p.length < 9 by omega)) (by decide)) (s84_101 ?_)
        unfold bI
        by_cases hcan : canA Z (rS S (p ++ [(y : Int)])) (2 ^ p.length) = true
        · rw [if_pos hcan]
          refine ⟨⟨by omega, by omega⟩, fun h => by omega, fun _ => ?_⟩
          have hf1 := fnS_step ho hf (by omega) hb hcan
          have := IH d (fun v1 M1 => wp (kcs L xs) (d + (m + 1) + 5) 84 113 [some (jR 29), some (jL v), none, some (jI (p.length : Int)), some (jI (y : Int)), none, none] (v1.toList ++ []) M1 Q) (p ++ [(y : Int)]) w (lsF n l0 A) M (by rw [hlen1]; omega) hf1 hw hc hO h2 h3 (by omega) (fun M' g1 g2 g3 => s84_113 (go _ M' rfl ?_ (ckn_cwr hc g1) (cwr_ok g1 hO) g2 (by rw [g3, lsF_app])))
          · rw [hlen1] at this
            rw [show ((p.length + 1 : Nat) : Int) = (p.length : Int) + 1 by omega] at this
            exact this
          · have := cwr_tr hq g1
            rw [tLs_next hl0] at this
            exact this
        · rw [if_neg hcan]
          refine ⟨⟨by omega, by omega⟩, fun _ => go [] M (sbx_cut (t := 2 ^ p.length) ho (by omega) hpv (by omega) (Or.inr (by simpa using hcan))) (by rw [List.append_nil]; exact hq) hc hO h2 (by rw [List.append_nil]; exact h3), fun h => absurd rfl h⟩
      · rw [if_neg hb]
        exact ⟨⟨by omega, by omega⟩, fun _ => go [] M (sbx_cut (t := 0) ho (by omega) hpv (by omega) (Or.inl (by simpa using hb))) (by rw [List.append_nil]; exact hq) hc hO h2 (by rw [List.append_nil]; exact h3), fun h => absurd rfl h⟩
theorem ls_all (ho : pz_ok Z) {S : Nat → Nat} {n : Nat} (hn : n ≤ 1000) (hs : s_ok Z S) : ∀ m, lsSpec L xs Z S n m
  | 0 => ls_zero ho hn
  | m + 1 => fun d Q p v l M hl hf hx hc hO h2 h3 hln K => by
    have h9 := pz_n ho
    refine s84 ?_
    rw [hc.1.2.2.1]
    refine ⟨⟨⟨by omega, by omega⟩, ⟨by omega, by omega⟩⟩, fun _ => ?_, fun h => by omega⟩
    exact ls_loop (d := d) ho hn hs (ls_all ho hn hs m) hl hf hx hln K 4 0 [] M (by omega) sbx_succ.symm (by rw [show tLs [] (n - l) = [] by simp [tLs]]; exact cwr_rf) hc hO h2 (by rw [lsF_nil (by omega)]; exact h3)
/-- list -/
theorem sp_list {M : fx_M} (ho : pz_ok Z) (hc : ckn M 11 Z) (hO : o_ok M 3) {n : Nat} (hn : n < 1000) (K0 : 100 < n → Q none (o_app M 3 [110, 111, 32, 110, 117, 109, 98, 101, 114])) (K1 : n ≤ 100 → ∀ M', cwr M M' (tAns Z n) → Q none M') : wc (kcs L xs) (d + 16) 80 [jR 29, jI n] M Q := by
  have h9 := pz_n ho
  refine s80 ⟨⟨by omega, by omega⟩, fun h => ?_, fun h => sp_puts out3 lt_1000065 hO (s80_15 (K0 (by omega)))⟩
  have q1 : cwr M (fx_up (fx_up M 29 2 (n : Int)) 29 3 0) [] := cwr_tr (cwr_up (by unfold csc; omega)) (cwr_up (by unfold csc; omega))
  have c1 := ckn_cwr hc q1
  refine sp_first puz11 c1.1 ho (fun v hv => s80_34 ?_)
  have := ls_all (L := L) (xs := xs) (Z := Z) (S := s_first Z) (n := n) ho (by omega) (s_first_ok ho) (Z.1 * Z.2.1).toNat (d + 15 - (Z.1 * Z.2.1).toNat - 5) (fun v1 M1 => wp (kcs L xs) (d + 16) 80 38 [some (jR 29), none] (v1.toList ++ []) M1 Q) [] v 0 _ (by simp; omega) (fnS_nil ho) (by rw [rS_nil]; exact hv) c1 (cwr_ok q1 hO) (by rw [fx_up_nk (by decide), fx_up_self]) (by rw [fx_up_self]; rfl) (by omega) (fun M' g1 g2 g3 => s80_38 ?_)
  · rw [show d + 15 - (Z.1 * Z.2.1).toNat - 5 + (Z.1 * Z.2.1).toNat + 5 = d + 15 by omega] at this
    exact this
  · have eA : sbx (okS Z (s_first Z)) [] (Z.1 * Z.2.1).toNat = ans Z := ansS_first ho
    rw [eA] at g1 g3
    rw [g2, g3]
    have q2 := cwr_tr q1 g1
    have o2 := cwr_ok q2 hO
    have hlF : lsF n 0 (ans Z) ≤ n + 1 := lsF_le
    refine ⟨⟨⟨by omega, by omega⟩, ⟨by omega, by omega⟩⟩, fun h => sp_puts out3 lt_1000069 o2 (s80_63 (K1 (by omega) _ ?_)), fun h => sp_puts out3 lt_1000067 o2 (s80_63 (K1 (by omega) _ ?_))⟩
    · have e : tAns Z n = [] ++ tLs (ans Z) (n - 0) ++ ([97, 108, 108] : List Int32).map Int32.toInt := by
        unfold tAns tLs
        rw [if_neg (by unfold lsF at h; split at h <;> omega)]
        simp only [Nat.sub_zero, List.nil_append]
        congr 1
      rw [e]
      exact cwr_tr q2 cwr_app
    · have e : tAns Z n = [] ++ tLs (ans Z) (n - 0) ++ ([109, 111, 114, 101] : List Int32).map Int32.toInt := by
        unfold tAns tLs
        rw [if_pos (by unfold lsF at h; split at h <;> omega)]
        simp only [Nat.sub_zero, List.nil_append]
        congr 1
      rw [e]
      exact cwr_tr q2 cwr_app
end CLS
