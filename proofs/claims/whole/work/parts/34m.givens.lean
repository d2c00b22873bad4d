/-! FORMS: the givens as a number (the class). -/
def gnb (g : Int) : Int := if g < 0 then 15 else g
/-- high places first -/
def gP : Nat → List Int → Int
  | 0, _ => 0
  | _ + 1, [] => 0
  | n + 1, a :: A => gnb a * ((16 ^ n : Nat) : Int) + gP n A
/-- low places first -/
def dN : List Nat → Nat
  | [] => 0
  | d :: l => 2 ^ 4 * dN l + d
theorem dN_bit : ∀ {l : List Nat}, (∀ d ∈ l, d < 16) → ∀ i : Nat, (dN l).testBit i = (l.getD (i / 4) 0).testBit (i % 4)
  | [], _, i => by
    rw [dN, Nat.zero_testBit, List.getD_nil, Nat.zero_testBit]
  | d :: l, h, i => by
    have hd := h d (List.mem_cons_self ..)
    rw [dN, Nat.testBit_two_pow_mul_add _ hd]
    by_cases hi : i < 4
    · rw [if_pos hi, show i / 4 = 0 by omega, List.getD_cons_zero, show i % 4 = i by omega]
    · rw [if_neg hi, dN_bit (fun x hx => h x (List.mem_cons_of_mem _ hx)), show i / 4 = (i - 4) / 4 + 1 by omega, List.getD_cons_succ, show (i - 4) % 4 = i % 4 by omega]
/-- the groups of bits of the givens -/
def sgL (G : List Int) : Nat → Nat := fun q => if q < 9 then (gnb (G.getD (8 - q) (-1))).toNat else 0
theorem lbit_v {v : Nat} (hv : v < 16) {q : Int} (hq : 0 ≤ q ∧ q < 10) (i : Nat) (hi : i < 64) : lbit (fx_lshl (v : Int) (4 * q)) i = (decide (i / 4 = q.toNat) && v.testBit (i % 4)) := by
  rw [lbit_lshl _ (by omega), decide_eq_true hi, Bool.true_and]
  by_cases h1 : (4 * q).toNat ≤ i
  · rw [decide_eq_true h1, Bool.true_and, lbit_nat (by omega)]
    by_cases h2 : i / 4 = q.toNat
    · rw [decide_eq_true h2, Bool.true_and, show i - (4 * q).toNat = i % 4 by omega]
    · rw [decide_eq_false h2, Bool.false_and]
      refine Nat.testBit_lt_two_pow ?_
      have h3 : 4 ≤ i - (4 * q).toNat := by omega
      have : (2 : Nat) ^ 4 ≤ 2 ^ (i - (4 * q).toNat) := Nat.pow_le_pow_right (by decide) h3
      have h16 : (2 : Nat) ^ 4 = 16 := rfl
      omega
  · rw [decide_eq_false h1, Bool.false_and, decide_eq_false (by omega), Bool.false_and]
theorem sta_put {x : Int} {S : Nat → Nat} (h : sta x S) {q : Int} {v : Nat} (hq : 0 ≤ q ∧ q < 10) (hv : v < 16) : sta (fx_lor (fx_land x (fx_lxor (fx_lshl 15 (4 * q)) (-1))) (fx_lshl (v : Int) (4 * q))) (fun k => if k = q.toNat then v else S k) := by
  refine ⟨in64_lor _ _, fun i hi => ?_⟩
  rw [lbit_lor, lbit_land, lbit_not, lbit_15 (by omega) i hi, lbit_v hv hq i hi, h.2 i hi, decide_eq_true hi]
  by_cases hk : i / 4 = q.toNat
  · have h1 : (4 * q).toNat ≤ i ∧ i < (4 * q).toNat + 4 := by omega
    rw [decide_eq_true h1, decide_eq_true hk, decide_eq_true (show i < 40 by omega)]
    dsimp only
    rw [if_pos hk]
    simp
  · have h1 : ¬ ((4 * q).toNat ≤ i ∧ i < (4 * q).toNat + 4) := by omega
    rw [decide_eq_false h1, decide_eq_false hk]
    dsimp only
    rw [if_neg hk]
    simp
theorem sta_f9 : sta 68719476735 (fun q => if q < 9 then 15 else 0) := by
  refine ⟨⟨by decide, by decide⟩, fun i hi => ?_⟩
  have : ∀ i : Fin 64, lbit 68719476735 (i : Nat) = (decide ((i : Nat) < 40) && (if (i : Nat) / 4 < 9 then 15 else 0 : Nat).testBit ((i : Nat) % 4)) := by decide +kernel
  exact this ⟨i, hi⟩
/-- the number of nine givens -/
theorem sta_gP2 {a b c d e f g h i : Int} {G : List Int} (hG : G = [a, b, c, d, e, f, g, h, i]) (hb : ∀ y ∈ G, -1 ≤ y ∧ y < 15) : sta (gP 9 G) (sgL G) := by
  have nb : ∀ y ∈ G, 0 ≤ gnb y ∧ gnb y < 16 := fun y hy => by
    have := hb y hy
    unfold gnb
    split <;> omega
  subst hG
  have na := nb a (by simp)
  have nb' := nb b (by simp)
  have nc := nb c (by simp)
  have nd := nb d (by simp)
  have ne := nb e (by simp)
  have nf := nb f (by simp)
  have ng := nb g (by simp)
  have nh := nb h (by simp)
  have ni := nb i (by simp)
  have hd : ∀ y ∈ [(gnb i).toNat, (gnb h).toNat, (gnb g).toNat, (gnb f).toNat, (gnb e).toNat, (gnb d).toNat, (gnb c).toNat, (gnb b).toNat, (gnb a).toNat], y < 16 := fun y hy => by
    simp only [List.mem_cons, List.not_mem_nil, or_false] at hy
    omega
  have hbit := dN_bit hd
  have hval : ((dN [(gnb i).toNat, (gnb h).toNat, (gnb g).toNat, (gnb f).toNat, (gnb e).toNat, (gnb d).toNat, (gnb c).toNat, (gnb b).toNat, (gnb a).toNat] : Nat) : Int) = gP 9 [a, b, c, d, e, f, g, h, i] := by
    show (((16 * (16 * (16 * (16 * (16 * (16 * (16 * (16 * (16 * 0 + (gnb a).toNat) + (gnb b).toNat) + (gnb c).toNat) + (gnb d).toNat) + (gnb e).toNat) + (gnb f).toNat) + (gnb g).toNat) + (gnb h).toNat) + (gnb i).toNat) : Nat) : Int) = gnb a * 4294967296 + (gnb b * 268435456 + (gnb c * 16777216 + (gnb d * 1048576 + (gnb e * 65536 + (gnb f * 4096 + (gnb g * 256 + (gnb h * 16 + (gnb i * 1 + 0))))))))
    omega
  have hlt : dN [(gnb i).toNat, (gnb h).toNat, (gnb g).toNat, (gnb f).toNat, (gnb e).toNat, (gnb d).toNat, (gnb c).toNat, (gnb b).toNat, (gnb a).toNat] < 68719476736 := by
    show 16 * (16 * (16 * (16 * (16 * (16 * (16 * (16 * (16 * 0 + (gnb a).toNat) + (gnb b).toNat) + (gnb c).toNat) + (gnb d).toNat) + (gnb e).toNat) + (gnb f).toNat) + (gnb g).toNat) + (gnb h).toNat) + (gnb i).toNat < _
    omega
  rw [← hval]
  refine ⟨⟨by omega, by omega⟩, fun k hk => ?_⟩
  rw [lbit_nat (by omega), hbit k]
  unfold sgL
  by_cases h40 : k < 40
  · rw [decide_eq_true h40, Bool.true_and]
    congr 1
    rcases (by omega : k / 4 = 0 ∨ k / 4 = 1 ∨ k / 4 = 2 ∨ k / 4 = 3 ∨ k / 4 = 4 ∨ k / 4 = 5 ∨ k / 4 = 6 ∨ k / 4 = 7 ∨ k / 4 = 8 ∨ k / 4 = 9) with e | e | e | e | e | e | e | e | e | e <;> rw [e] <;> rfl
  · rw [decide_eq_false h40, Bool.false_and, List.getD_eq_getElem?_getD, List.getElem?_eq_none (by show 9 ≤ k / 4; omega)]
    exact Nat.zero_testBit _
theorem sta_gP {x a b c d e f g h i : Int} {G : List Int} (hG : G = [a, b, c, d, e, f, g, h, i]) (hb : ∀ y ∈ G, -1 ≤ y ∧ y < 15) (hx : sta x (sgL G)) : x = gP 9 G := sta_inj hx (sta_gP2 hG hb)
theorem sgL_set {G : List Int} (hl : G.length = 9) {j : Nat} (hj : j < 9) {v : Int} : ∀ q : Nat, q < 10 → sgL (G.set j v) q = if q = 8 - j then (gnb v).toNat else sgL G q := fun q hq => by
  unfold sgL
  by_cases h9 : q < 9
  · rw [if_pos h9, if_pos h9, List.getD_eq_getElem?_getD, List.getElem?_set, hl]
    by_cases e : j = 8 - q
    · rw [if_pos e, if_pos hj, if_pos (by omega)]
      rfl
    · rw [if_neg e, if_neg (by omega), List.getD_eq_getElem?_getD]
  · rw [if_neg h9, if_neg h9, if_neg (by omega)]
section GVO
variable {kc : List va_E} {d p f : Nat} {Q : Option fx_V → fx_M → Prop} {M : fx_M} {Z : PZ} {m : Int}
theorem sp_givensOf {k : Nat} (Hf : fx_frm f) (Hp : fx_puz p) (hz : cz M p Z) (ho : pz_ok Z) (hm : 0 ≤ m ∧ m < mps Z.1 Z.2.1) (hk : k < fcN Z.2.2.1.toNat) (hr : ∀ j : Nat, (j : Int) < Z.2.2.1 → M (f + 3) (j : Int) = (rnm Z.2.2.1.toNat k).getD j 0) (K : Q (some (jL (gP 9 (vrG Z m (rnm Z.2.2.1.toNat k))))) M) : wc kc (d + 2) 156 [jR f, jR p, jI m] M Q := by
  have h9 := pz_n ho
  have o1 := ho.1
  have o2 := ho.2.1
  have o3 := ho.2.2.1
  have o4 := ho.2.2.2.1
  have o5 := ho.2.2.2.2.1
  have o6 := ho.2.2.2.2.2.1
  have hgl : ∀ c : Nat, (vgi Z m (rnm Z.2.2.1.toNat k) c).length = 9 := fun c => by
    unfold vgi
    rw [List.length_map, List.length_range]
  have z : ∀ (u c : Nat) (x : Int), (c : Int) + u = Z.1 * Z.2.1 → sta x (sgL (vgi Z m (rnm Z.2.2.1.toNat k) c)) → wp kc (d + 2) 156 7 [some (jR f), some (jR p), some (jI m), some (jL x), none, some (jI c), none] [] M Q := by
    intro u
    induction u with
    | zero =>
      intro c x hc hx
      have ev := vgi_n ho hm (r := rnm Z.2.2.1.toNat k)
      rw [show (Z.1 * Z.2.1).toNat = c by omega] at ev
      rw [ev] at hx
      have hb := vrg_b ho hm hk
      have ex := sta_gP (G := vrG Z m (rnm Z.2.2.1.toNat k)) rfl (fun y hy => by
        obtain ⟨j, _, j2⟩ := List.mem_map.mp hy
        have := hb j
        rw [← j2]
        omega) hx
      rw [← ex] at K
      refine s156_7 Hf Hp ?_
      rw [hz.2.2.1]
      exact ⟨⟨⟨by omega, by omega⟩, ⟨by omega, by omega⟩⟩, fun _ => K, fun h => by omega⟩
    | succ u ih =>
      intro c x hc hx
      have hcn : (c : Int) < Z.1 * Z.2.1 := by omega
      have hg := hz.2.2.2.2.2.2.1 c (by omega)
      have hlt : c < Z.2.2.2.2.length := by
        rw [ho.2.2.2.2.2.2.2.2.1]
        omega
      have hgm : Z.2.2.2.2.getD c (-1) ∈ Z.2.2.2.2 := by
        rw [List.getD_eq_getElem?_getD, List.getElem?_eq_getElem hlt]
        exact List.getElem_mem hlt
      have hgb := ho.2.2.2.2.2.2.2.2.2.1 _ hgm
      have hs1 := vgi_s ho hm (r := rnm Z.2.2.1.toNat k) hcn
      have hs2 := vgi_at ho hm (r := rnm Z.2.2.1.toNat k) hcn
      refine s156_7 Hf Hp ?_
      rw [hz.2.2.1, hg]
      generalize Z.2.2.2.2.getD c (-1) = y at hg hgb hs1 hs2 ⊢
      refine ⟨⟨⟨by omega, by omega⟩, ⟨by omega, by omega⟩⟩, fun h => by omega, fun _ => ⟨⟨by omega, by omega⟩, ⟨by omega, by omega⟩, fun hneg => ?_, fun hy => ?_⟩⟩
      · have nx := ih (c + 1) x (by omega) (by rw [hs2 hneg]; exact hx)
        rw [show ((c + 1 : Nat) : Int) = (c : Int) + 1 by omega] at nx
        exact nx
      · refine sp_mapped (d := d) Hp hz ho hm ⟨by omega, by omega⟩ (s156_36 Hf Hp ?_)
        rw [if_pos hcn]
        have hmc := mp_one ⟨o1, o2⟩ ⟨o3, o4⟩ hm (c := (c : Int)) ⟨by omega, hcn⟩
        have ea := and3 ⟨y.toNat, by omega⟩
        dsimp only at ea
        rw [show ((y.toNat : Nat) : Int) = y by omega] at ea
        have er := hr y.toNat (by omega)
        rw [show ((y.toNat : Nat) : Int) = y by omega] at er
        have hrg := rnm_get (s := Z.2.2.1.toNat) (k := k) ⟨by omega, by omega⟩ hk (i := y.toNat) (by omega)
        rw [hg, ea, er]
        rw [if_neg (by omega)] at hs1
        have hput := sta_put hx (q := 8 - mpC Z.1 Z.2.1 m (c : Int)) (v := ((rnm Z.2.2.1.toNat k).getD y.toNat 0).toNat) ⟨by omega, by omega⟩ (by omega)
        rw [show (((rnm Z.2.2.1.toNat k).getD y.toNat 0).toNat : Int) = (rnm Z.2.2.1.toNat k).getD y.toNat 0 by omega, show 4 * (8 - mpC Z.1 Z.2.1 m (c : Int)) = 32 - 4 * mpC Z.1 Z.2.1 m (c : Int) by omega] at hput
        refine ⟨⟨by omega, by omega⟩, ⟨by omega, by omega⟩, ⟨by omega, by omega⟩, ?_⟩
        have nx := ih (c + 1) _ (by omega) (sta_ext hput (fun q hq => by
          rw [hs1, sgL_set (hgl c) (by omega) q hq]
          have eg : gnb ((rnm Z.2.2.1.toNat k).getD y.toNat 0) = (rnm Z.2.2.1.toNat k).getD y.toNat 0 := by
            unfold gnb
            rw [if_neg (by omega)]
          rw [eg, show (8 - mpC Z.1 Z.2.1 m (c : Int)).toNat = 8 - (mpC Z.1 Z.2.1 m (c : Int)).toNat by omega]))
        rw [show ((c + 1 : Nat) : Int) = (c : Int) + 1 by omega] at nx
        exact nx
  refine s156 Hf Hp (z (Z.1 * Z.2.1).toNat 0 _ (by omega) (sta_ext sta_f9 (fun q hq => ?_)))
  rw [vgi_0 ho hm]
  unfold sgL
  by_cases h : q < 9
  · rw [if_pos h, if_pos h, List.getD_eq_getElem?_getD, List.getElem?_replicate, if_pos (by omega)]
    rfl
  · rw [if_neg h, if_neg h]
end GVO
