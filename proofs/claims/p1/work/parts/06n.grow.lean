/-! THE TIE: dispatch. (Written by gen/gen_main.py.) -/
section LXZ
variable {kc : List va_E} {m pc : Nat} {L : lx_L} {st : List Value} {h : lx_H} {q : Nat × lx_L × List Value × lx_H}
/-- the heap only grows -/
noncomputable def lx_grow (h h' : lx_H) : Prop := h.length ≤ h'.length ∧ lx_hs h ≤ lx_hs h'
theorem lx_g_same {a : Nat} {b : lx_L} {d : List Value} (e : q = (a, b, d, h)) : lx_grow h q.2.2.2 := by rw [e]; exact ⟨Nat.le_refl _, Nat.le_refl _⟩
theorem lx_g_set {a : Nat} {b : lx_L} {d : List Value} {k : Nat} {e0 e1 : va_E} (e : q = (a, b, d, h.set k e1)) (h1 : h[k]? = some e0) (h2 : lx_es e1 = lx_es e0) : lx_grow h q.2.2.2 := by
  rw [e]
  exact ⟨by show h.length ≤ (h.set k e1).length; rw [List.length_set]; exact Nat.le_refl _, by show lx_hs h ≤ lx_hs (h.set k e1); rw [lx_hs_set h1 h2]; exact Nat.le_refl _⟩
theorem lx_g_push {a : Nat} {b : lx_L} {d : List Value} {e1 : va_E} (e : q = (a, b, d, h ++ [e1])) : lx_grow h q.2.2.2 := by
  rw [e]
  exact ⟨by show h.length ≤ (h ++ [e1]).length; rw [List.length_append]; omega, by show lx_hs h ≤ lx_hs (h ++ [e1]); rw [lx_hs_push]; omega⟩
theorem lx_g_jmp {o : Int} {t : List Value} (hj : lx_jmp pc o L t h = some q) : lx_grow h q.2.2.2 := by
  obtain ⟨_, _, e⟩ := lx_jmp_inv hj
  exact lx_g_same e
theorem lx_g_br {b : Bool} {o : Int} {t : List Value} (hj : lx_br b pc o L t h = some q) : lx_grow h q.2.2.2 := by
  obtain ⟨_, _, e | e⟩ := lx_br_inv hj
  · exact lx_g_same e.2
  · exact lx_g_same e.2
theorem lx_g_if1 {b : Int32 → Bool} {o : Int} (hs : lx_if1 b pc o L st h = some q) : lx_grow h q.2.2.2 := by
  obtain ⟨_, _, _, hs⟩ := lx_if1_inv hs
  exact lx_g_br hs
theorem lx_g_if2 {b : Int32 → Int32 → Bool} {o : Int} (hs : lx_if2 b pc o L st h = some q) : lx_grow h q.2.2.2 := by
  obtain ⟨_, _, _, _, hs⟩ := lx_if2_inv hs
  exact lx_g_br hs
theorem lx_g_nul {b : Bool} {o : Int} (hs : lx_nul b pc o L st h = some q) : lx_grow h q.2.2.2 := by
  rcases lx_nul_inv hs with ⟨_, _, _, hs⟩ | ⟨_, _, hs⟩
  · exact lx_g_br hs
  · exact lx_g_br hs
theorem lx_g_dup2 (hs : lx_dup2 pc L st h = some q) : lx_grow h q.2.2.2 := by
  obtain ⟨_, _, _, ⟨_, e⟩ | hs⟩ := lx_dup2_inv hs
  · exact lx_g_same e
  · obtain ⟨_, _, _, _, _, e⟩ := lx_dup2a_inv hs
    exact lx_g_same e
theorem lx_g_tsw {dflt lo hi : Int} {offs : Array Int} (hs : lx_tsw pc dflt lo hi offs L st h = some q) : lx_grow h q.2.2.2 := by
  obtain ⟨_, _, _, ⟨_, hs⟩ | ⟨_, _, _, hs⟩⟩ := lx_tsw_inv hs
  · exact lx_g_jmp hs
  · exact lx_g_jmp hs
theorem lx_g_lsw {dflt : Int} {ps : Array (Int × Int)} (hs : lx_lsw pc dflt ps L st h = some q) : lx_grow h q.2.2.2 := by
  obtain ⟨_, _, _, _, hs⟩ := lx_lsw_inv hs
  exact lx_g_jmp hs
theorem lx_g_nat {k : Option Nat} (hs : lx_nat k pc L st h = some q) : lx_grow h q.2.2.2 := by
  unfold lx_nat at hs
  split at hs
  · obtain ⟨_, _, _, _, _, _, _, _, _, _, _, _, _, _, _, _, _, _, _, ha, _, _, _, e⟩ := lx_cp_inv hs
    exact lx_g_set e ha rfl
  · obtain ⟨_, _, _, _, _, e⟩ := lx_m2_inv hs
    exact lx_g_same e
  · obtain ⟨_, _, _, _, _, e⟩ := lx_m2_inv hs
    exact lx_g_same e
  · obtain ⟨_, _, _, _, e⟩ := lx_m1_inv hs
    exact lx_g_same e
  · obtain ⟨_, _, _, _, e⟩ := lx_oi_inv hs
    exact lx_g_same e
  · obtain ⟨_, _, _, _, _, e⟩ := lx_m5_inv hs
    exact lx_g_same e
  · cases hs
theorem lx_ins_grow {i : Instr} (hs : lx_ins kc m pc i L st h = some q) : lx_grow h q.2.2.2 := by
  cases i
  case iadd =>
    obtain ⟨_, _, _, _, e⟩ := lx_ii_inv hs
    exact lx_g_same e
  case isub =>
    obtain ⟨_, _, _, _, e⟩ := lx_ii_inv hs
    exact lx_g_same e
  case imul =>
    obtain ⟨_, _, _, _, e⟩ := lx_ii_inv hs
    exact lx_g_same e
  case iand =>
    obtain ⟨_, _, _, _, e⟩ := lx_ii_inv hs
    exact lx_g_same e
  case ior =>
    obtain ⟨_, _, _, _, e⟩ := lx_ii_inv hs
    exact lx_g_same e
  case ixor =>
    obtain ⟨_, _, _, _, e⟩ := lx_ii_inv hs
    exact lx_g_same e
  case ishl =>
    obtain ⟨_, _, _, _, e⟩ := lx_ii_inv hs
    exact lx_g_same e
  case ishr =>
    obtain ⟨_, _, _, _, e⟩ := lx_ii_inv hs
    exact lx_g_same e
  case iushr =>
    obtain ⟨_, _, _, _, e⟩ := lx_ii_inv hs
    exact lx_g_same e
  case idiv =>
    obtain ⟨_, _, _, _, _, e⟩ := lx_iid_inv hs
    exact lx_g_same e
  case irem =>
    obtain ⟨_, _, _, _, _, e⟩ := lx_iid_inv hs
    exact lx_g_same e
  case ineg =>
    obtain ⟨_, _, _, e⟩ := lx_i1_inv hs
    exact lx_g_same e
  case i2b =>
    obtain ⟨_, _, _, e⟩ := lx_i1_inv hs
    exact lx_g_same e
  case i2s =>
    obtain ⟨_, _, _, e⟩ := lx_i1_inv hs
    exact lx_g_same e
  case i2c =>
    obtain ⟨_, _, _, e⟩ := lx_i1_inv hs
    exact lx_g_same e
  case ladd =>
    obtain ⟨_, _, _, _, e⟩ := lx_ll_inv hs
    exact lx_g_same e
  case lsub =>
    obtain ⟨_, _, _, _, e⟩ := lx_ll_inv hs
    exact lx_g_same e
  case lmul =>
    obtain ⟨_, _, _, _, e⟩ := lx_ll_inv hs
    exact lx_g_same e
  case land =>
    obtain ⟨_, _, _, _, e⟩ := lx_ll_inv hs
    exact lx_g_same e
  case lor =>
    obtain ⟨_, _, _, _, e⟩ := lx_ll_inv hs
    exact lx_g_same e
  case lxor =>
    obtain ⟨_, _, _, _, e⟩ := lx_ll_inv hs
    exact lx_g_same e
  case ldiv =>
    obtain ⟨_, _, _, _, _, e⟩ := lx_lld_inv hs
    exact lx_g_same e
  case lrem =>
    obtain ⟨_, _, _, _, _, e⟩ := lx_lld_inv hs
    exact lx_g_same e
  case lneg =>
    obtain ⟨_, _, _, e⟩ := lx_l1_inv hs
    exact lx_g_same e
  case lshl =>
    obtain ⟨_, _, _, _, e⟩ := lx_li_inv hs
    exact lx_g_same e
  case lshr =>
    obtain ⟨_, _, _, _, e⟩ := lx_li_inv hs
    exact lx_g_same e
  case lushr =>
    obtain ⟨_, _, _, _, e⟩ := lx_li_inv hs
    exact lx_g_same e
  case lcmp =>
    obtain ⟨_, _, _, _, e⟩ := lx_lc_inv hs
    exact lx_g_same e
  case i2l =>
    obtain ⟨_, _, _, e⟩ := lx_i2_inv hs
    exact lx_g_same e
  case l2i =>
    obtain ⟨_, _, _, e⟩ := lx_l2_inv hs
    exact lx_g_same e
  case iconst => exact lx_g_same (lx_some hs).symm
  case bipush => exact lx_g_same (lx_some hs).symm
  case sipush => exact lx_g_same (lx_some hs).symm
  case lconst => exact lx_g_same (lx_some hs).symm
  case aconst_null => exact lx_g_same (lx_some hs).symm
  case iload_n =>
    obtain ⟨_, _, e⟩ := lx_ldi_inv hs
    exact lx_g_same e
  case iload =>
    obtain ⟨_, _, e⟩ := lx_ldi_inv hs
    exact lx_g_same e
  case lload_n =>
    obtain ⟨_, _, e⟩ := lx_ldl_inv hs
    exact lx_g_same e
  case lload =>
    obtain ⟨_, _, e⟩ := lx_ldl_inv hs
    exact lx_g_same e
  case aload_n =>
    rcases lx_lda_inv hs with ⟨_, _, e⟩ | ⟨_, e⟩
    · exact lx_g_same e
    · exact lx_g_same e
  case aload =>
    rcases lx_lda_inv hs with ⟨_, _, e⟩ | ⟨_, e⟩
    · exact lx_g_same e
    · exact lx_g_same e
  case istore_n =>
    obtain ⟨_, _, _, _, e⟩ := lx_sti_inv hs
    exact lx_g_same e
  case istore =>
    obtain ⟨_, _, _, _, e⟩ := lx_sti_inv hs
    exact lx_g_same e
  case lstore_n =>
    obtain ⟨_, _, _, _, e⟩ := lx_stl_inv hs
    exact lx_g_same e
  case lstore =>
    obtain ⟨_, _, _, _, e⟩ := lx_stl_inv hs
    exact lx_g_same e
  case astore_n =>
    rcases lx_sta_inv hs with ⟨_, _, _, _, e⟩ | ⟨_, _, _, e⟩
    · exact lx_g_same e
    · exact lx_g_same e
  case astore =>
    rcases lx_sta_inv hs with ⟨_, _, _, _, e⟩ | ⟨_, _, _, e⟩
    · exact lx_g_same e
    · exact lx_g_same e
  case iinc =>
    obtain ⟨_, _, _, e⟩ := lx_inc_inv hs
    exact lx_g_same e
  case dup =>
    obtain ⟨_, _, _, _, e⟩ := lx_dup_inv hs
    exact lx_g_same e
  case pop =>
    obtain ⟨_, _, _, _, e⟩ := lx_pop_inv hs
    exact lx_g_same e
  case pop2 =>
    obtain ⟨_, _, _, _, e⟩ := lx_pop2_inv hs
    exact lx_g_same e
  case dup_x1 =>
    obtain ⟨_, _, _, _, _, _, e⟩ := lx_dupx1_inv hs
    exact lx_g_same e
  case dup_x2 =>
    obtain ⟨_, _, _, _, _, _, _, _, e⟩ := lx_dupx2_inv hs
    exact lx_g_same e
  case goto => exact lx_g_jmp hs
  case iaload =>
    obtain ⟨_, _, _, _, _, _, _, _, _, _, e⟩ := lx_ald_inv hs
    exact lx_g_same e
  case caload =>
    obtain ⟨_, _, _, _, _, _, _, _, _, _, e⟩ := lx_ald_inv hs
    exact lx_g_same e
  case baload =>
    obtain ⟨_, _, _, _, _, _, _, _, _, _, e⟩ := lx_ald_inv hs
    exact lx_g_same e
  case laload =>
    obtain ⟨_, _, _, _, _, _, _, _, e⟩ := lx_all_inv hs
    exact lx_g_same e
  case aaload =>
    obtain ⟨_, _, _, _, _, _, _, _, _, _, _, e⟩ := lx_alq_inv hs
    exact lx_g_same e
  case arraylength =>
    obtain ⟨_, _, _, _, _, e⟩ := lx_len_inv hs
    exact lx_g_same e
  case iastore =>
    obtain ⟨_, _, _, _, _, _, _, _, _, ha, _, _, e⟩ := lx_ast_inv hs
    exact lx_g_set e ha rfl
  case castore =>
    obtain ⟨_, _, _, _, _, _, _, _, _, ha, _, _, e⟩ := lx_ast_inv hs
    exact lx_g_set e ha rfl
  case bastore =>
    obtain ⟨_, _, _, _, _, _, _, _, _, ha, _, _, e⟩ := lx_ast_inv hs
    exact lx_g_set e ha rfl
  case lastore =>
    obtain ⟨_, _, _, _, _, _, _, _, ha, _, e⟩ := lx_asl_inv hs
    exact lx_g_set e ha rfl
  case new =>
    obtain ⟨_, _, _, _, e⟩ := lx_new_inv hs
    exact lx_g_push e
  case getfield =>
    obtain ⟨_, _, _, _, _, _, _, _, _, _, _, e⟩ := lx_gf_inv hs
    exact lx_g_same e
  case putfield =>
    obtain ⟨_, ci, _, _, _, fs, _, _, _, _, ha, _, _, _, e⟩ := lx_pf_inv hs
    exact lx_g_set e ha rfl
  case dup2 => exact lx_g_dup2 hs
  case ifCond c o => cases c <;> exact lx_g_if1 hs
  case if_icmp c o => cases c <;> exact lx_g_if2 hs
  case ifnull => exact lx_g_nul hs
  case ifnonnull => exact lx_g_nul hs
  case tableswitch => exact lx_g_tsw hs
  case lookupswitch => exact lx_g_lsw hs
  case aastore =>
    obtain ⟨_, _, _, _, _, _, _, _, _, _, _, _, ha, _, _, _, _, e⟩ := lx_asq_inv hs
    exact lx_g_set e ha rfl
  case newarray t =>
    cases t
    case int => obtain ⟨_, _, _, _, _, _, e⟩ := lx_nwa_inv hs; exact lx_g_push e
    case char => obtain ⟨_, _, _, _, _, _, e⟩ := lx_nwa_inv hs; exact lx_g_push e
    case long => obtain ⟨_, _, _, _, _, _, e⟩ := lx_nwa_inv hs; exact lx_g_push e
    case byte => obtain ⟨_, _, _, _, _, _, e⟩ := lx_nwa_inv hs; exact lx_g_push e
    case boolean => obtain ⟨_, _, _, _, _, _, e⟩ := lx_nwa_inv hs; exact lx_g_push e
    all_goals cases hs
  case anewarray =>
    obtain ⟨_, _, _, _, _, _, _, _, e⟩ := lx_nwq_inv hs
    exact lx_g_push e
  case getstatic =>
    obtain ⟨_, _, e⟩ := lx_psh_inv hs
    exact lx_g_same e
  case ldc =>
    rcases lx_ps1_inv hs with ⟨_, _, e⟩ | ⟨_, _, e⟩
    · exact lx_g_same e
    · exact lx_g_same e
  case ldc_w =>
    rcases lx_ps1_inv hs with ⟨_, _, e⟩ | ⟨_, _, e⟩
    · exact lx_g_same e
    · exact lx_g_same e
  case ldc2_w =>
    obtain ⟨_, _, e⟩ := lx_ps2_inv hs
    exact lx_g_same e
  case invokestatic idx =>
    have hs : (if xP m idx = some 4 then none else lx_nat (xP m idx) pc L st h) = some q := hs
    split at hs
    · cases hs
    · exact lx_g_nat hs
  case invokespecial idx =>
    have hs : (if xP m idx = some 4 then lx_oi pc L st h else none) = some q := hs
    split at hs
    · obtain ⟨_, _, _, _, e⟩ := lx_oi_inv hs
      exact lx_g_same e
    · cases hs
  all_goals cases hs
/-- and so over a whole run -/
theorem lx_go_grow : ∀ {n d : Nat} {m pc : Nat} {L : lx_L} {st : List Value} {h : lx_H} {r : Option Value × lx_H}, lx_go kc n d m pc L st h = some r → lx_grow h r.2
  | 0, _, _, _, _, _, _, _, hg => by cases hg
  | n + 1, d, m, pc, L, st, h, r, hg => by
    obtain ⟨i, -, hc⟩ := lx_go_inv hg
    rcases hc with ⟨v, -, rfl⟩ | ⟨k, a, w, d', r1, -, -, -, -, -, -, h1, h2⟩ | ⟨q, -, -, h1, h2⟩
    · exact ⟨Nat.le_refl _, Nat.le_refl _⟩
    · have g1 := lx_go_grow h1
      have g2 := lx_go_grow h2
      exact ⟨Nat.le_trans g1.1 g2.1, Nat.le_trans g1.2 g2.2⟩
    · have g1 := lx_ins_grow h1
      have g2 := lx_go_grow h2
      exact ⟨Nat.le_trans g1.1 g2.1, Nat.le_trans g1.2 g2.2⟩
end LXZ
