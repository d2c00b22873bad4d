/-! every instruction of the lite machine is tied. (Written by gen/gen_main2.py.) -/
section LXY
variable {g : lx_G} {kc : List va_E} {m : Nat} {p : Program} {l : Launch} {e : Env} {R : Room} {s : State} {mm : MethodId} {args : Array Value} {below : List Frame} {meth : Method} {c : Code} {h0 : Nat × Nat} {Q : State → Prop}
variable {pc : Nat} {L : lx_L} {st : List Value} {h : lx_H} {r : Nat × lx_L × List Value × lx_H}
theorem lx_ins_C {i : Instr} (X : lx_X g kc m p s mm args meth c) (hI : xI m pc = some i) (hs : lx_ins kc m pc i L st h = some r) (hF : 1 ≤ R.frames) (hLo : 64 ≤ R.locals) (hRc : r.2.2.2.length - h0.1 ≤ R.cells) (hRs : lx_hs r.2.2.2 - h0.2 ≤ R.slots) (hc0 : h0.1 ≤ h.length) (hs0 : h0.2 ≤ lx_hs h) (K : lx_C g kc m p l e R s mm args below meth c h0 Q r.1 r.2.1 r.2.2.1 r.2.2.2) : lx_C g kc m p l e R s mm args below meth c h0 Q pc L st h := by
  obtain ⟨len, hd0, hn⟩ := xI_ok hI
  have hd : ∀ n, lx_il i = some n → decode (xB m) pc = .ok (i, n) := fun n hn' => by rw [hd0, hn n hn']
  have hg := lx_ins_grow hs
  have hRc' : h.length - h0.1 ≤ R.cells := Nat.le_trans (Nat.sub_le_sub_right hg.1 _) hRc
  have hRs' : lx_hs h - h0.2 ≤ R.slots := Nat.le_trans (Nat.sub_le_sub_right hg.2 _) hRs
  cases i
  case iadd => exact lx_w_iadd X (hd 1 rfl) hs K
  case isub => exact lx_w_isub X (hd 1 rfl) hs K
  case imul => exact lx_w_imul X (hd 1 rfl) hs K
  case iand => exact lx_w_iand X (hd 1 rfl) hs K
  case ior => exact lx_w_ior X (hd 1 rfl) hs K
  case ixor => exact lx_w_ixor X (hd 1 rfl) hs K
  case ishl => exact lx_w_ishl X (hd 1 rfl) hs K
  case ishr => exact lx_w_ishr X (hd 1 rfl) hs K
  case iushr => exact lx_w_iushr X (hd 1 rfl) hs K
  case idiv => exact lx_w_idiv X (hd 1 rfl) hs K
  case irem => exact lx_w_irem X (hd 1 rfl) hs K
  case ineg => exact lx_w_ineg X (hd 1 rfl) hs K
  case i2b => exact lx_w_i2b X (hd 1 rfl) hs K
  case i2s => exact lx_w_i2s X (hd 1 rfl) hs K
  case i2c => exact lx_w_i2c X (hd 1 rfl) hs K
  case ladd => exact lx_w_ladd X (hd 1 rfl) hs K
  case lsub => exact lx_w_lsub X (hd 1 rfl) hs K
  case lmul => exact lx_w_lmul X (hd 1 rfl) hs K
  case land => exact lx_w_land X (hd 1 rfl) hs K
  case lor => exact lx_w_lor X (hd 1 rfl) hs K
  case lxor => exact lx_w_lxor X (hd 1 rfl) hs K
  case ldiv => exact lx_w_ldiv X (hd 1 rfl) hs K
  case lrem => exact lx_w_lrem X (hd 1 rfl) hs K
  case lneg => exact lx_w_lneg X (hd 1 rfl) hs K
  case lshl => exact lx_w_lshl X (hd 1 rfl) hs K
  case lshr => exact lx_w_lshr X (hd 1 rfl) hs K
  case lushr => exact lx_w_lushr X (hd 1 rfl) hs K
  case lcmp => exact lx_w_lcmp X (hd 1 rfl) hs K
  case i2l => exact lx_w_i2l X (hd 1 rfl) hs K
  case l2i => exact lx_w_l2i X (hd 1 rfl) hs K
  case iconst => exact lx_w_iconst X (hd 1 rfl) hs K
  case bipush => exact lx_w_bipush X (hd 2 rfl) hs K
  case sipush => exact lx_w_sipush X (hd 3 rfl) hs K
  case lconst => exact lx_w_lconst X (hd 1 rfl) hs K
  case aconst_null => exact lx_w_aconst_null X (hd 1 rfl) hs K
  case iload_n => exact lx_w_iload_n X (hd 1 rfl) hs K
  case iload => exact lx_w_iload X (hd 2 rfl) hs K
  case lload_n => exact lx_w_lload_n X (hd 1 rfl) hs K
  case lload => exact lx_w_lload X (hd 2 rfl) hs K
  case aload_n => exact lx_w_aload_n X (hd 1 rfl) hs K
  case aload => exact lx_w_aload X (hd 2 rfl) hs K
  case istore_n => exact lx_w_istore_n X (hd 1 rfl) hs K
  case istore => exact lx_w_istore X (hd 2 rfl) hs K
  case lstore_n => exact lx_w_lstore_n X (hd 1 rfl) hs K
  case lstore => exact lx_w_lstore X (hd 2 rfl) hs K
  case astore_n => exact lx_w_astore_n X (hd 1 rfl) hs K
  case astore => exact lx_w_astore X (hd 2 rfl) hs K
  case iinc => exact lx_w_iinc X (hd 3 rfl) hs K
  case dup => exact lx_w_dup X (hd 1 rfl) hs K
  case pop => exact lx_w_pop X (hd 1 rfl) hs K
  case pop2 => exact lx_w_pop2 X (hd 1 rfl) hs K
  case dup_x1 => exact lx_w_dup_x1 X (hd 1 rfl) hs K
  case dup_x2 => exact lx_w_dup_x2 X (hd 1 rfl) hs K
  case goto => exact lx_w_goto X (hd 3 rfl) hs K
  case iaload => exact lx_w_iald X (hd 1 rfl) hs K
  case caload => exact lx_w_cald X (hd 1 rfl) hs K
  case baload => exact lx_w_bald X (hd 1 rfl) hs K
  case laload => exact lx_w_lald X (hd 1 rfl) hs K
  case aaload => exact lx_w_aald X (hd 1 rfl) hs K
  case arraylength => exact lx_w_len X (hd 1 rfl) hs K
  case iastore => exact lx_w_iast X (hd 1 rfl) hs K
  case castore => exact lx_w_cast X (hd 1 rfl) hs K
  case bastore => exact lx_w_bast X (hd 1 rfl) hs K
  case lastore => exact lx_w_last X (hd 1 rfl) hs K
  case new => exact lx_w_new X (hd 3 rfl) hs hRc hRs hc0 hs0 K
  case getfield => exact lx_w_gf X (hd 3 rfl) hs K
  case putfield => exact lx_w_pf X (hd 3 rfl) hs K
  case dup2 => exact lx_w_dup2 X (hd 1 rfl) hs K
  case ifCond c o =>
    cases c
    case eq => exact lx_w_if_eq X (hd 3 rfl) hs K
    case ne => exact lx_w_if_ne X (hd 3 rfl) hs K
    case lt => exact lx_w_if_lt X (hd 3 rfl) hs K
    case ge => exact lx_w_if_ge X (hd 3 rfl) hs K
    case gt => exact lx_w_if_gt X (hd 3 rfl) hs K
    case le => exact lx_w_if_le X (hd 3 rfl) hs K
  case if_icmp c o =>
    cases c
    case eq => exact lx_w_icmp_eq X (hd 3 rfl) hs K
    case ne => exact lx_w_icmp_ne X (hd 3 rfl) hs K
    case lt => exact lx_w_icmp_lt X (hd 3 rfl) hs K
    case ge => exact lx_w_icmp_ge X (hd 3 rfl) hs K
    case gt => exact lx_w_icmp_gt X (hd 3 rfl) hs K
    case le => exact lx_w_icmp_le X (hd 3 rfl) hs K
  case ifnull => exact lx_w_ifnull X (hd 3 rfl) hs K
  case ifnonnull => exact lx_w_ifnonnull X (hd 3 rfl) hs K
  case tableswitch => exact lx_w_tsw X hd0 hs K
  case lookupswitch => exact lx_w_lsw X hd0 hs K
  case aastore => exact lx_w_aast X (hd 1 rfl) hs K
  case newarray t =>
    have hts := lx_X_ts X
    cases t
    case int => exact lx_w_nwa (t := 0) rfl rfl (by decide) (fun _ _ => rfl) (fun f hf i => by cases hf; rfl) (fun _ _ h9 => h9) (hts _ xw_a0) X (hd 2 rfl) hs hRc hRs hc0 hs0 K
    case char => exact lx_w_nwa (t := 1) rfl rfl (by decide) (fun _ _ => rfl) (fun f hf i => by cases hf; rfl) (fun _ _ h9 => h9) (hts _ xw_a1) X (hd 2 rfl) hs hRc hRs hc0 hs0 K
    case long => exact lx_w_nwa (t := 2) rfl rfl (by decide) (fun _ _ => rfl) (fun f hf i => by cases hf) (fun _ _ h9 => h9) (hts _ xw_a2) X (hd 2 rfl) hs hRc hRs hc0 hs0 K
    case boolean => exact lx_w_nwa (t := 4) rfl rfl (by decide) (fun _ _ => rfl) (fun f hf i => by cases hf; rfl) (fun _ _ h9 => h9) (hts _ xw_a4) X (hd 2 rfl) hs hRc hRs hc0 hs0 K
    case byte => exact absurd (xI_nb hI) (by decide)
    all_goals cases hs
  case anewarray => exact lx_w_nwq X (hd 3 rfl) hs hRc hRs hc0 hs0 K
  case getstatic => exact lx_w_gs X (hd 3 rfl) hs K
  case ldc => exact lx_w_ldc X (hd 2 rfl) hs K
  case ldc_w => exact lx_w_ldcw X (hd 3 rfl) hs K
  case ldc2_w => exact lx_w_ldc2 X (hd 3 rfl) hs K
  case invokestatic idx =>
    have hs : (if xP m idx = some 4 then none else lx_nat (xP m idx) pc L st h) = some r := hs
    split at hs
    · cases hs
    · next h4 => exact lx_w_nat (Or.inl rfl) (fun z => by cases z) (fun _ => h4) X (hd 3 rfl) hs hF hLo hRc' hRs' K
  case invokespecial idx =>
    have hs : (if xP m idx = some 4 then lx_oi pc L st h else none) = some r := hs
    split at hs
    · next h4 => exact lx_w_nat (Or.inr rfl) (fun _ => h4) (fun z => by cases z) X (hd 3 rfl) (by rw [h4]; exact hs) hF hLo hRc' hRs' K
    · cases hs
  all_goals cases hs
end LXY
