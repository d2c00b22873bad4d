/-! what holds at every method's entry: the tables of classes, private links of the nest, constants -/
noncomputable def lx_kO (g : lx_G) (e : va_E) (a : Nat) (U : State) (H : Heap) : Prop := match e with
  | .inl (t, n, .inl f) => va_T (lx_ty t) a n (fun j => .int (f j)) (lx_A g) U H
  | .inl (t, n, .inr (.inl f)) => va_T (lx_ty t) a n (fun j => .long (f j)) (lx_A g) U H
  | .inl _ => False
  | .inr o => va_O "java/lang/String" a (lx_A g) U H ∧ va_OF "java/lang/String" "value" "[B" (lx_v g (vp_V o.2 0)) a (lx_A g) U H ∧ va_OF "java/lang/String" "coder" "B" (lx_v g (vp_V o.2 1)) a (lx_A g) U H
theorem lx_kO_moved {g : lx_G} {e : va_E} {a : Nat} {u U : State} {H : Heap} (hvm : u.vm.Alike U.vm) (h : lx_kO g e a u H) : lx_kO g e a U H := by
  unfold lx_kO at h ⊢
  split at h
  · exact va_T.moved hvm h
  · exact va_T.moved hvm h
  · exact h
  · exact ⟨va_O.moved hvm h.1, va_OF.moved hvm h.2.1, va_OF.moved hvm h.2.2⟩
theorem lx_kO_kept {g : lx_G} {e : va_E} {a : Nat} {U : State} {H H1 : Heap} (h : lx_kO g e a U H) (hq : ∀ a : Nat, a < H.size → ¬ lx_A g a → H1[a]? = H[a]?) : lx_kO g e a U H1 := by
  unfold lx_kO at h ⊢
  split at h
  · exact va_T.kept h hq
  · exact va_T.kept h hq
  · exact h
  · exact ⟨va_O.kept h.1 hq, va_OF.kept h.2.1 hq, va_OF.kept h.2.2 hq⟩
noncomputable def lx_E (g : lx_G) (kc : List va_E) (U : State) : Prop :=
  va_K g.2.1 xC (lx_tys g) U ∧ (∀ q ∈ xNF, va_Nw (.fieldLinkNest q.1 q.2.1 q.2.2.1 q.2.2.2.1 q.2.2.2.2.1 q.2.2.2.2.2) U) ∧ (∀ q ∈ xNM, va_Nw (.methodLinkNest q.1 q.2.1 q.2.2.1 q.2.2.2) U) ∧ (∀ C ∈ xAO, va_AO C U) ∧ g.1 ≤ U.heap.size ∧
  (∀ (k : Nat) (e : va_E), kc[k]? = some e → lx_kO g e (g.2.2.2.1 k) U U.heap) ∧ (∀ q ∈ xZ, va_Z q.1 q.2.1 q.2.2.1 (lx_v g q.2.2.2) (lx_A g) U U.heap) ∧ (∀ q ∈ xStr, vk_R q.1 q.2.1 q.2.2.1 (g.2.2.2.1 q.2.2.2) U)
theorem lx_E_moved {g : lx_G} {kc : List va_E} {u U : State} (hW : u.WarmedH U.vm) (hh : ∀ a : Nat, a < u.heap.size → ¬ lx_A g a → U.heap[a]? = u.heap[a]?) (hz : g.1 ≤ U.heap.size) (h : lx_E g kc u) : lx_E g kc U := by
  obtain ⟨h1, h2, h3, h4, -, h6, h7, h8⟩ := h
  exact ⟨va_K.moved hW.alike h1, fun q hq => va_Nw.warmF hW (h2 q hq), fun q hq => va_Nw.warmM hW (h3 q hq), fun C hC => va_AO.moved hW.alike (h4 C hC), hz,
    fun k e hk => lx_kO_kept (lx_kO_moved hW.alike (h6 k e hk)) hh, fun q hq => va_Z.kept (va_Z.moved hW.alike (h7 q hq)) hh, fun q hq => vk_R.warm hW (h8 q hq)⟩
