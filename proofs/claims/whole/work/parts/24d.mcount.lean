/-! The reference: what is written while it seeks; counting, listing, picking. -/
/-- what a request of the reference uses and leaves -/
def msc (b : Nat) (j : Int) : Prop := (155 ≤ b ∧ b ≤ 173) ∨ (b = 133 ∧ 46 ≤ j ∧ j ≤ 79)
/-- M' is M with cs written, but for what is left -/
def mwr (M M' : fx_M) (cs : List Int) : Prop := ∀ b j, ¬ msc b j → M' b j = m_app M cs b j
theorem m_put_ne {M : fx_M} {c : Int} {b : Nat} {j : Int} (h1 : b ≠ 136) (h2 : ¬ (b = 133 ∧ j = 5)) : m_put M c b j = M b j := by
  unfold m_put
  split
  · rfl
  · rw [fx_up_ne h2, fx_up_na h1]
theorem m_put_cg {M N : fx_M} {c : Int} (h5 : N 133 5 = M 133 5) (h136 : ∀ j, N 136 j = M 136 j) : m_put N c 133 5 = m_put M c 133 5 ∧ ∀ j, m_put N c 136 j = m_put M c 136 j := by
  unfold m_put
  rw [h5]
  split
  · exact ⟨h5, h136⟩
  · refine ⟨by rw [fx_up_self, fx_up_self], fun j => ?_⟩
    rw [fx_up_na (a := 133) (by decide), fx_up_na (a := 133) (by decide)]
    unfold fx_up
    split
    · rfl
    · exact h136 j
theorem m_app_cg : ∀ {cs : List Int} {M N : fx_M}, N 133 5 = M 133 5 → (∀ j, N 136 j = M 136 j) → m_app N cs 133 5 = m_app M cs 133 5 ∧ ∀ j, m_app N cs 136 j = m_app M cs 136 j
  | [], M, N, h1, h2 => ⟨h1, h2⟩
  | c :: cs, M, N, h1, h2 => by
    have := m_put_cg (c := c) h1 h2
    exact m_app_cg (cs := cs) this.1 this.2
theorem msc_5 : ¬ msc 133 5 := by unfold msc; omega
theorem msc_136 {j : Int} : ¬ msc 136 j := by unfold msc; omega
theorem mwr_rf {M : fx_M} : mwr M M [] := fun _ _ _ => rfl
theorem mwr_app {M : fx_M} {cs : List Int} : mwr M (m_app M cs) cs := fun _ _ _ => rfl
theorem mwr_put {M : fx_M} {c : Int} : mwr M (m_put M c) [c] := fun _ _ _ => rfl
theorem mwr_tr {M N O : fx_M} {cs ds : List Int} (h1 : mwr M N cs) (h2 : mwr N O ds) : mwr M O (cs ++ ds) := fun b j hb => by
  rw [h2 b j hb, ← m_app_app]
  have e := m_app_cg (cs := ds) (h1 133 5 msc_5) (fun j => h1 136 j msc_136)
  by_cases h136 : b = 136
  · subst h136
    exact e.2 j
  · by_cases h5 : b = 133 ∧ j = 5
    · obtain ⟨rfl, rfl⟩ := h5
      exact e.1
    · rw [m_app_ne h5 h136, m_app_ne h5 h136]
      exact h1 b j hb
theorem mwr_0 {M N : fx_M} {cs : List Int} (h : mwr M N (cs ++ [])) : mwr M N cs := by
  rw [List.append_nil] at h
  exact h
theorem mwr_159 {M N : fx_M} (h : f159 M N) : mwr M N [] := fun b j hb => by
  unfold msc at hb
  exact h b j (by omega) (by omega)
theorem mwr_up {M : fx_M} {a : Nat} {k v : Int} (h : msc a k) : mwr M (fx_up M a k v) [] := fun b j hb => by
  show fx_up M a k v b j = M b j
  rw [fx_up_ne]
  rintro ⟨rfl, rfl⟩
  exact hb h
theorem mwr_ne {M N : fx_M} {cs : List Int} (h : mwr M N cs) {b : Nat} {j : Int} (h1 : ¬ msc b j) (h2 : b ≠ 136) (h3 : ¬ (b = 133 ∧ j = 5)) : N b j = M b j := by
  rw [h b j h1, m_app_ne h3 h2]
theorem mwr_ok {M N : fx_M} {cs : List Int} (h : mwr M N cs) (ho : m_ok M) : m_ok N := by
  unfold m_ok
  rw [h 133 5 msc_5]
  exact m_ok_app ho
theorem mz_mwr {M N : fx_M} {cs : List Int} {u : Int} {Z : PZ} (h : mz M u Z) (hq : mwr M N cs) : mz N u Z := by
  have hf : ∀ (b : Nat) (j : Int), 137 ≤ b → b ≤ 154 → N b j = M b j := fun b j h1 h2 => mwr_ne hq (by unfold msc; omega) (by omega) (by omega)
  obtain ⟨h1, h2, h3, h4, h5, h6⟩ := h
  unfold mz
  rw [hf 146 _ (by decide) (by decide), hf 147 _ (by decide) (by decide), hf 148 _ (by decide) (by decide), hf 149 _ (by decide) (by decide)]
  refine ⟨h1, h2, h3, h4, fun r R hR => ?_, fun c hc => ?_⟩
  · rw [hf 150 _ (by decide) (by decide), hf 151 _ (by decide) (by decide), hf 152 _ (by decide) (by decide)]
    obtain ⟨a, b, c, e⟩ := h5 r R hR
    exact ⟨a, b, c, fun i x hx => by rw [hf 153 _ (by decide) (by decide)]; exact e i x hx⟩
  · rw [hf 154 _ (by decide) (by decide)]
    exact h6 c hc
theorem msr_app {M : fx_M} {Z : PZ} {cs : List Int} (h : msr M Z) : msr (m_app M cs) Z := ⟨mz_mwr h.1 mwr_app, fun r R hR => by rw [m_app_ne (by omega) (by decide)]; exact h.2 r R hR⟩
theorem syA_app {M : fx_M} {x cs : List Int} (h : syA M x) : syA (m_app M cs) x := fun i hi => by
  rw [m_app_ne (by omega) (by decide)]
  exact h i hi
def mnL (a lim : Int) : Int := if a < lim then a else lim
section MCNT
variable {kc : List va_E} {d : Nat} {Q : Option fx_V → fx_M → Prop} {Z : PZ}
theorem cnt_loop (ho : pz_ok Z) {M0 : fx_M} {lim : Int} (hl : 1 ≤ lim ∧ lim ≤ 1000000) (K : ∀ M', f159 M0 M' → Q (some (jI (mnL (ans Z).length lim))) M') : ∀ (t i : Nat) (M : fx_M) (x : List Int), i + t = (ans Z).length → f159 M0 M → msr M Z → (ans Z)[i]? = some x → syA M x → (i : Int) < lim → wp kc (d + 6) 268 8 [some (jR 133), some (jI lim), some (jI i), some (jI 1)] [] M Q := by
  have hlen := ans_le ho
  intro t
  induction t with
  | zero =>
    intro i M x hi hq hm hx hs hlt
    have := (List.getElem?_eq_some_iff.mp hx).1
    omega
  | succ t ih =>
    intro i M x hi hq hm hx hs hlt
    refine s268_8 ⟨⟨by omega, by omega⟩, fun h => by omega, fun _ => ⟨⟨⟨by omega, by omega⟩, ⟨by omega, by omega⟩⟩, fun h => ?_, fun h => ?_⟩⟩
    · refine s268_8 ⟨⟨by omega, by omega⟩, fun _ => ?_, fun h => absurd rfl h⟩
      have : mnL (ans Z).length lim = (i : Int) + 1 := by
        unfold mnL
        split <;> omega
      rw [← this]
      exact K M hq
    · refine sp_seek0 ho hm hx hs (fun M' a ha hf hm' hs' => s268_25 ⟨⟨by omega, by omega⟩, ?_⟩) (fun hn M' hf hm' => s268_25 ⟨⟨by omega, by omega⟩, ?_⟩)
      · rw [if_neg (by decide)]
        have nx := ih (i + 1) M' a (by omega) (f159_tr hq hf) hm' ha hs' (by omega)
        rw [show ((i + 1 : Nat) : Int) = (i : Int) + 1 by omega] at nx
        exact nx
      · rw [if_pos rfl]
        refine s268_8 ⟨⟨by omega, by omega⟩, fun _ => ?_, fun h => absurd rfl h⟩
        have : mnL (ans Z).length lim = (i : Int) + 1 := by
          unfold mnL
          split <;> omega
        rw [← this]
        exact K M' (f159_tr hq hf)
theorem sp_countAnswers {M : fx_M} (ho : pz_ok Z) (hm : mz M 0 Z) {lim : Int} (hl : 1 ≤ lim ∧ lim ≤ 1000000) (K : ∀ M', f159 M M' → Q (some (jI (mnL (ans Z).length lim))) M') : wc kc (d + 6) 268 [jR 133, jI lim] M Q := by
  refine s268 (sp_seek1 ho hm (fun M' a tl e hf hm' hs => s268_7 ?_) (fun e M' hf hm' => s268_7 ?_))
  · exact cnt_loop ho hl K (ans Z).length 0 M' a (by omega) hf hm' (by rw [e]; rfl) hs (by omega)
  · refine s268_8 ⟨⟨by omega, by omega⟩, fun _ => ?_, fun h => absurd rfl h⟩
    have := K M' hf
    rw [e] at this
    unfold mnL at this
    rw [if_pos (by simp; omega)] at this
    exact this
/-- the symbols of a filling -/
def tFil (x : List Int) : List Int := x.map (48 + ·)
theorem fil_loop (ho : pz_ok Z) {x : List Int} (hx : x ∈ ans Z) : ∀ (t i : Nat) (M : fx_M), i + t = x.length → mz M 0 Z → m_ok M → syA M x → Q none (m_app M (tFil (x.drop i))) → wp kc (d + 2) 381 2 [some (jR 133), some (jI i)] [] M Q := by
  have h9 := pz_n ho
  obtain ⟨hxl, hxv⟩ := ans_len hx
  intro t
  induction t with
  | zero =>
    intro i M hi hz hO hs K
    refine s381_2 (s248 (s381_7 ?_))
    rw [hz.1, hz.2.1]
    refine ⟨⟨⟨by omega, by omega⟩, ⟨by omega, by omega⟩⟩, fun _ => ?_, fun h => by omega⟩
    rw [List.drop_eq_nil_of_le (by omega)] at K
    exact K
  | succ t ih =>
    intro i M hi hz hO hs K
    refine s381_2 (s248 (s381_7 ?_))
    rw [hz.1, hz.2.1]
    refine ⟨⟨⟨by omega, by omega⟩, ⟨by omega, by omega⟩⟩, fun h => by omega, fun _ => ⟨⟨by omega, by omega⟩, sp_sayByte hO (s381_23 ?_)⟩⟩
    rw [hs i (by omega)]
    have nx := ih (i + 1) (m_put M (48 + x.getD i 0)) (by omega) (mz_mwr hz mwr_put) (m_ok_put hO) (fun j hj => by
      rw [m_put_ne (by decide) (by omega)]
      exact hs j hj) (by
      rw [drop_consD (by omega)] at K
      exact K)
    rw [show ((i + 1 : Nat) : Int) = (i : Int) + 1 by omega] at nx
    exact nx
theorem sp_sayFilling {M : fx_M} (ho : pz_ok Z) {x : List Int} (hx : x ∈ ans Z) (hz : mz M 0 Z) (hO : m_ok M) (hs : syA M x) (K : Q none (m_app M (tFil x))) : wc kc (d + 2) 381 [jR 133] M Q :=
  s381 (fil_loop ho hx x.length 0 M (by omega) hz hO hs K)
theorem mem_at {α : Type} {l : List α} {i : Nat} {x : α} (h : l[i]? = some x) : x ∈ l := by
  obtain ⟨h1, h2⟩ := List.getElem?_eq_some_iff.mp h
  rw [← h2]
  exact List.getElem_mem h1
/-- answers: told, and the word at their end -/
def tAns (Z : PZ) (n : Nat) : List Int := ((ans Z).take n).flatMap (fun x => tFil x ++ [32]) ++ (if n < (ans Z).length then wls 1836020325 else wls 6384748)
def tAnD (Z : PZ) (n i : Nat) : List Int := (((ans Z).take n).drop i).flatMap (fun x => tFil x ++ [32]) ++ (if n < (ans Z).length then wls 1836020325 else wls 6384748)
theorem tAnD_end {n i : Nat} (h : n ≤ i ∨ (ans Z).length ≤ i) : tAnD Z n i = if n < (ans Z).length then wls 1836020325 else wls 6384748 := by
  unfold tAnD
  rw [List.drop_eq_nil_of_le (by rw [List.length_take]; omega)]
  rfl
theorem tAnD_cons {n i : Nat} {x : List Int} (hx : (ans Z)[i]? = some x) (hn : i < n) : tAnD Z n i = tFil x ++ [32] ++ tAnD Z n (i + 1) := by
  obtain ⟨h1, h2⟩ := List.getElem?_eq_some_iff.mp hx
  unfold tAnD
  rw [List.drop_eq_getElem_cons (by rw [List.length_take]; omega), List.flatMap_cons, List.getElem_take, h2, List.append_assoc]
theorem w_ok_more : w_ok 1836020325 := by unfold w_ok; omega
theorem w_ok_all : w_ok 6384748 := by unfold w_ok; omega
theorem ans_loop (ho : pz_ok Z) {M0 : fx_M} (hO : m_ok M0) {n : Nat} (hn : n ≤ 1000) (K : ∀ M', mwr M0 M' (tAns Z n) → Q none M') : ∀ (t i : Nat) (M : fx_M) (x cs : List Int), i + t = n → mwr M0 M cs → cs ++ tAnD Z n i = tAns Z n → msr M Z → (ans Z)[i]? = some x → syA M x → wp kc (d + 6) 380 8 [some (jR 133), some (jI n), some (jI 1), some (jI i)] [] M Q := by
  intro t
  induction t with
  | zero =>
    intro i M x cs hi hq ht hm hx hs
    have h1 := (List.getElem?_eq_some_iff.mp hx).1
    refine s380_8 ⟨⟨by omega, by omega⟩, fun h => by omega, fun _ => ⟨⟨⟨by omega, by omega⟩, ⟨by omega, by omega⟩⟩, fun _ => ⟨⟨by omega, by omega⟩, ?_⟩, fun h => by omega⟩⟩
    rw [if_neg (by decide)]
    refine sp_sayWord w_ok_more (mwr_ok hq hO) (s380_56 (K _ ?_))
    have := mwr_tr hq (mwr_app (cs := wls 1836020325))
    rw [tAnD_end (Or.inl (by omega)), if_pos (by omega)] at ht
    rw [ht] at this
    exact this
  | succ t ih =>
    intro i M x cs hi hq ht hm hx hs
    have h1 := (List.getElem?_eq_some_iff.mp hx).1
    have hO2 := mwr_ok hq hO
    refine s380_8 ⟨⟨by omega, by omega⟩, fun h => by omega, fun _ => ⟨⟨⟨by omega, by omega⟩, ⟨by omega, by omega⟩⟩, fun h => by omega, fun _ => ?_⟩⟩
    refine sp_sayFilling ho (mem_at hx) hm.1 hO2 hs (s380_21 (sp_sayByte (m_ok_app hO2) (s380_27 ?_)))
    have e1 : m_put (m_app M (tFil x)) 32 = m_app M (tFil x ++ [32]) := by rw [← m_app_app]; rfl
    rw [e1]
    have hq1 := mwr_tr hq (mwr_app (M := M) (cs := tFil x ++ [32]))
    have ht1 : (cs ++ (tFil x ++ [32])) ++ tAnD Z n (i + 1) = tAns Z n := by
      rw [tAnD_cons hx (by omega)] at ht
      rw [List.append_assoc]
      exact ht
    refine sp_seek0 ho (msr_app hm) hx (syA_app hs) (fun M' a ha hf hm' hs' => s380_32 ?_) (fun hn2 M' hf hm' => s380_32 ?_)
    · have nx := ih (i + 1) M' a _ (by omega) (mwr_0 (mwr_tr hq1 (mwr_159 hf))) ht1 hm' ha hs'
      rw [show ((i + 1 : Nat) : Int) = (i : Int) + 1 by omega] at nx
      exact nx
    · refine s380_8 ⟨⟨by omega, by omega⟩, fun _ => ⟨⟨by omega, by omega⟩, ?_⟩, fun h => absurd rfl h⟩
      rw [if_pos rfl]
      have hq2 := mwr_0 (mwr_tr hq1 (mwr_159 hf))
      refine sp_sayWord w_ok_all (mwr_ok hq2 hO) (s380_56 (K _ ?_))
      have := mwr_tr hq2 (mwr_app (cs := wls 6384748))
      rw [tAnD_end (Or.inr (by omega)), if_neg (by omega)] at ht1
      rw [ht1] at this
      exact this
theorem tAnD_0 {n : Nat} : tAnD Z n 0 = tAns Z n := rfl
theorem sp_sayAnswers {M : fx_M} (ho : pz_ok Z) (hm : mz M 0 Z) (hO : m_ok M) {n : Nat} (hn : n ≤ 1000) (K : ∀ M', mwr M M' (tAns Z n) → Q none M') : wc kc (d + 6) 380 [jR 133, jI n] M Q := by
  refine s380 (sp_seek1 ho hm (fun M' a tl e hf hm' hs => s380_5 ?_) (fun e M' hf hm' => s380_5 ?_))
  · exact ans_loop ho hO hn K n 0 M' a [] (by omega) (mwr_159 hf) tAnD_0 hm' (by rw [e]; rfl) hs
  · refine s380_8 ⟨⟨by omega, by omega⟩, fun _ => ⟨⟨by omega, by omega⟩, ?_⟩, fun h => absurd rfl h⟩
    rw [if_pos rfl]
    have hq2 := mwr_159 hf
    refine sp_sayWord w_ok_all (mwr_ok hq2 hO) (s380_56 (K _ ?_))
    have := mwr_tr hq2 (mwr_app (cs := wls 6384748))
    have ht : tAns Z n = wls 6384748 := by
      rw [← tAnD_0, tAnD_end (Or.inr (by rw [e]; simp)), e]
      rfl
    rw [ht]
    exact this
/-- pick -/
def tPick (Z : PZ) (n : Nat) : List Int := match (ans Z)[n]? with
  | some x => tFil x
  | none => wls 1852796517
theorem w_ok_none : w_ok 1852796517 := by unfold w_ok; omega
theorem pick_none {M0 : fx_M} (hO : m_ok M0) {n : Nat} {i : Int} (hi : 0 ≤ i ∧ i < 1000000) (hn : (ans Z).length ≤ n) (K : ∀ M', mwr M0 M' (tPick Z n) → Q none M') {M : fx_M} (hq : mwr M0 M []) : wp kc (d + 6) 382 8 [some (jR 133), some (jI n), some (jI 0), some (jI i)] [] M Q := by
  refine s382_8 ⟨⟨by omega, by omega⟩, fun _ => ⟨⟨by omega, by omega⟩, fun _ => sp_sayWord w_ok_none (mwr_ok hq hO) (s382_47 (K _ ?_)), fun h => absurd rfl h⟩, fun h => absurd rfl h⟩
  have := mwr_tr hq (mwr_app (cs := wls 1852796517))
  unfold tPick
  rw [List.getElem?_eq_none hn]
  exact this
theorem pick_loop (ho : pz_ok Z) {M0 : fx_M} (hO : m_ok M0) {n : Nat} (hn : n < 1000000) (K : ∀ M', mwr M0 M' (tPick Z n) → Q none M') : ∀ (t i : Nat) (M : fx_M) (x : List Int), i + t = n → mwr M0 M [] → msr M Z → (ans Z)[i]? = some x → syA M x → wp kc (d + 6) 382 8 [some (jR 133), some (jI n), some (jI 1), some (jI i)] [] M Q := by
  intro t
  induction t with
  | zero =>
    intro i M x hi hq hm hx hs
    have h1 := (List.getElem?_eq_some_iff.mp hx).1
    refine s382_8 ⟨⟨by omega, by omega⟩, fun h => by omega, fun _ => ⟨⟨⟨by omega, by omega⟩, ⟨by omega, by omega⟩⟩, fun _ => ⟨⟨by omega, by omega⟩, fun h => by omega, fun _ => ?_⟩, fun h => by omega⟩⟩
    refine sp_sayFilling ho (mem_at hx) hm.1 (mwr_ok hq hO) hs (s382_37 (K _ ?_))
    have := mwr_tr hq (mwr_app (cs := tFil x))
    unfold tPick
    rw [show n = i by omega, hx]
    exact this
  | succ t ih =>
    intro i M x hi hq hm hx hs
    have h1 := (List.getElem?_eq_some_iff.mp hx).1
    refine s382_8 ⟨⟨by omega, by omega⟩, fun h => by omega, fun _ => ⟨⟨⟨by omega, by omega⟩, ⟨by omega, by omega⟩⟩, fun h => by omega, fun _ => ?_⟩⟩
    refine sp_seek0 ho hm hx hs (fun M' a ha hf hm' hs' => s382_22 ?_) (fun hn2 M' hf hm' => s382_22 ?_)
    · have nx := ih (i + 1) M' a (by omega) (mwr_0 (mwr_tr hq (mwr_159 hf))) hm' ha hs'
      rw [show ((i + 1 : Nat) : Int) = (i : Int) + 1 by omega] at nx
      exact nx
    · exact pick_none hO (by omega) (by omega) K (mwr_0 (mwr_tr hq (mwr_159 hf)))
theorem sp_sayPick {M : fx_M} (ho : pz_ok Z) (hm : mz M 0 Z) (hO : m_ok M) {n : Nat} (hn : n < 1000000) (K : ∀ M', mwr M M' (tPick Z n) → Q none M') : wc kc (d + 6) 382 [jR 133, jI n] M Q := by
  refine s382 (sp_seek1 ho hm (fun M' a tl e hf hm' hs => s382_5 ?_) (fun e M' hf hm' => s382_5 ?_))
  · exact pick_loop ho hO hn K n 0 M' a (by omega) (mwr_159 hf) hm' (by rw [e]; rfl) hs
  · exact pick_none hO (by omega) (by rw [e]; simp) K (mwr_159 hf)
end MCNT
