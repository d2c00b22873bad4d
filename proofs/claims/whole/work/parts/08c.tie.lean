/-! THE TIE: what the lite machine computes, the machine does -/
section LXT9
/-- a run is tied: from a real state that the lite one stands for, the machine comes to Q, if it does so from the run's answer -/
def lx_Tie (kc : List va_E) (d m pc : Nat) (L : lx_L) (st : List Value) (h : lx_H) (r : Option Value × lx_H) : Prop :=
  ∀ (g : lx_G) (p : Program) (l : Launch) (e : Env) (R : Room) (s : State) (mm : MethodId) (args : Array Value) (below : List Frame) (meth : Method) (c : Code) (h0 : Nat × Nat) (Q : State → Prop), lx_X g kc m p s mm args meth c → d + 1 ≤ R.frames → (d + 1) * 64 ≤ R.locals → r.2.length - h0.1 ≤ R.cells → lx_hs r.2 - h0.2 ≤ R.slots → h0.1 ≤ h.length → h0.2 ≤ lx_hs h → (∀ (pc : Nat) (i : Instr) (L : lx_L) (st : List Value), xI m pc = some i → lx_ret m i st = some r.1 → lx_C g kc m p l e R s mm args below meth c h0 Q pc L st r.2) → lx_C g kc m p l e R s mm args below meth c h0 Q pc L st h
/-- a method's contract out of the tie of its body -/
theorem lx_met {kc : List va_E} {n d k : Nat} {As : List Value} {h : lx_H} {r : Option Value × lx_H} (hk : k < 429) (hp : plainName (xY k).cls = true) (hw : (lg_sl As).length ≤ xM k) (hgo : lx_go kc n d k 0 (lv_args 0 As) [] h = some r)
    (ih : lx_Tie kc d k 0 (lv_args 0 As) [] h r)
    (g : lx_G) (l : Launch) : Met l (xY k) (xW k) (lx_rm d (r.2.length - h.length) (lx_hs r.2 - lx_hs h)) (lx_Pc g kc As h) (lx_Qc g r) (r.2.length - h.length) (lx_hs r.2 - lx_hs h) (lx_A g) := by
  refine Met.ofW (cc := xB k) (maxL := xM k) (ret := xR k) hp rfl ?_
  intro p e s m args below meth c s₁ B hml hv
  obtain ⟨rfl, hRp, hE⟩ := hv
  have hts0 := atoms_spec (ws := xW k) B.pre
  have X : lx_X g kc k p s m ((As.map (lx_v g)).toArray) meth c := ⟨B.exec, B.bytes, hml, B.returns, B.notSynchronized, fun hin => (name_of_methodNamed B.named B.method).1.trans (xIn_name hin), by rw [← xO_cls (show k < 430 by omega)]; exact findClass_of_methodNamed B.named, fun w hw => hts0 w (List.mem_cons_of_mem _ hw), hE⟩
  have hw' : (lg_sl (As.map (lx_v g))).length ≤ xM k := by rw [lx_words]; exact hw
  have hl := lv_entry (As.map (lx_v g)) hw'
  rw [lx_args] at hl
  rw [lg_entry_eq]
  have key := ih g p l e (lx_rm d (r.2.length - h.length) (lx_hs r.2 - lx_hs h)) s m ((As.map (lx_v g)).toArray) below meth c (h.length, lx_hs h) (MQ below (lx_Qc g r) ((As.map (lx_v g)).toArray) s (r.2.length - h.length) (lx_hs r.2 - lx_hs h) (lx_A g)) X (Nat.le_refl _) (Nat.le_refl _) (Nat.le_refl _) (Nat.le_refl _) (Nat.le_refl _) (Nat.le_refl _) (fun pc i L st hI hr => lx_ret_C X hI hr) s.heap [] _ hRp va_S.rf hl
  rw [Nat.sub_self, Nat.sub_self] at key
  exact key
end LXT9
